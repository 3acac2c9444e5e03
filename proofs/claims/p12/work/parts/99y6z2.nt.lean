/-! noteEffect; divide and load, the reference's -/
section EJ
variable {v w v' w' v1 w1 : vm_V} {x x1 x2 : vm_Y}
theorem nt_o {o : Nat} {K A B : Int32} (h9 : ¬ K = 9) (h7 : ¬ K = 7) (h8 : ¬ K = 8) : vE 92 0 [.ref o, .ref 19, .int K, .int A, .int B] [] v x ↔ x = vd v := by
  simp only [q92_0, q92_1, q92_3]
  rw [if_neg h9]
  simp only [q92_28, q92_29, q92_31]
  rw [if_neg h7]
  simp only [q92_64, q92_65, q92_67]
  rw [if_neg h8]
  simp only [q92_100]
theorem nt_9 {o c st : Nat} {A B : Int32} (hc : v.1 o 4 = Int32.ofNat c) (h8 : c < 8) (hs : v.1 o 5 = Int32.ofNat st) : vE 92 0 [.ref o, .ref 19, .int 9, .int A, .int B] [] v x ↔ x = vd (vm_si (v_ae o 9 A B c v) o 5 (Int32.ofNat (st + 1))) := by
  have h5 : (v_ae o 9 A B c v).1 o 5 = Int32.ofNat st := by
    unfold v_ae
    rw [vm_si1b, if_neg (by omega), vm_si1b, if_neg (by omega), vm_si1b, if_neg (by omega), vm_si1b, if_neg (by omega)]
    exact hs
  simp only [q92_0, q92_1, q92_3]
  rw [if_pos trivial]
  simp only [q92_6, q92_7, q92_9, q92_10, q92_12, ct93, addE_n hc h8, exists_eq_left, vB_d, Nat.reduceAdd, q92_15, q92_16, q92_17, h5, q92_20, q92_21, q92_22, q92_25, q92_100, nn_s]
theorem nt_7 {n a l r o c : Nat} (hV : VI n a v) (hr : r < n) (hc : v.1 o 4 = Int32.ofNat c) (h8 : c ≤ 8) (e : vE 92 0 [.ref o, .ref 19, .int 7, .int (Int32.ofNat l), .int (Int32.ofNat r)] [] v x) : (¬ ((∀ k : Nat, k < 23 → 1 ≤ k → v.1 (21 + r) k = 0) ∧ ¬ v.1 (21 + r) 0 = 0) → ((∃ e : Nat, e < c ∧ eM v o 7 (Int32.ofNat l) (Int32.ofNat r) e) ∧ x = vd v) ∨ ((∀ e : Nat, e < c → ¬ eM v o 7 (Int32.ofNat l) (Int32.ofNat r) e) ∧ x = vd (c_addE v o 7 (Int32.ofNat l) (Int32.ofNat r)))) ∧ (((∀ k : Nat, k < 23 → 1 ≤ k → v.1 (21 + r) k = 0) ∧ ¬ v.1 (21 + r) 0 = 0) → x = vd v) := by
  have n22 := hV.2.2.2.1
  have cr : c_cell v (Int32.ofNat r) 0 = v.1 (21 + r) 0 := cell_n (t := r) (k := 0) (by omega) (by omega)
  have add : vE 92 52 [.ref o, .ref 19, .int 7, .int (Int32.ofNat l), .int (Int32.ofNat r)] [] v x → ((∃ e : Nat, e < c ∧ eM v o 7 (Int32.ofNat l) (Int32.ofNat r) e) ∧ x = vd v) ∨ ((∀ e : Nat, e < c → ¬ eM v o 7 (Int32.ofNat l) (Int32.ofNat r) e) ∧ x = vd (c_addE v o 7 (Int32.ofNat l) (Int32.ofNat r))) := fun e => by
    simp only [q92_52, q92_53, q92_55, q92_56, q92_58] at e
    obtain ⟨y, e1, e2⟩ := e
    rcases ao_x hc h8 e1 with ⟨g, rfl⟩ | ⟨g, rfl⟩
    · simp only [vB_d, Nat.reduceAdd, q92_61, q92_100] at e2
      exact Or.inl ⟨g, e2⟩
    · simp only [vB_d, Nat.reduceAdd, q92_61, q92_100] at e2
      exact Or.inr ⟨g, e2⟩
  simp only [q92_0, q92_1, q92_3] at e
  rw [if_neg (show ¬ (7 : Int32) = 9 from by decide)] at e
  simp only [q92_28, q92_29, q92_31] at e
  rw [if_pos trivial] at e
  simp only [q92_34, q92_35, q92_37, ct94, exists_eq_left, vB_r, Nat.reduceAdd, q92_40, vnum_n hV hr] at e
  by_cases c1 : ∀ k : Nat, k < 23 → 1 ≤ k → v.1 (21 + r) k = 0
  · rw [if_neg (fun z => bI_z.mp z c1)] at e
    simp only [q92_43, q92_44, q92_46, ct95, c_nof, cr, exists_eq_left, vB_r, Nat.reduceAdd, q92_49] at e
    by_cases c2 : v.1 (21 + r) 0 = 0
    · rw [if_pos c2] at e
      exact ⟨fun _ => add e, fun z => absurd c2 z.2⟩
    · rw [if_neg c2] at e
      simp only [q92_64, q92_65, q92_67] at e
      rw [if_neg (show ¬ (7 : Int32) = 8 from by decide)] at e
      simp only [q92_100] at e
      exact ⟨fun z => absurd ⟨c1, c2⟩ z, fun _ => e⟩
  · rw [if_pos (bI_z.mpr c1)] at e
    exact ⟨fun _ => add e, fun z => absurd z.1 c1⟩
theorem nt_8 {n a l o c st : Nat} {B : Int32} (hV : VI n a v) (hl : l < n) (hc : v.1 o 4 = Int32.ofNat c) (h8 : c ≤ 8) (hs : v.1 o 5 = Int32.ofNat st) (e : vE 92 0 [.ref o, .ref 19, .int 8, .int (Int32.ofNat l), .int B] [] v x) : (unS v l → ((∃ e : Nat, e < c ∧ eM v o 8 (Int32.ofNat l) (Int32.ofNat st) e) ∧ x = vd v) ∨ ((∀ e : Nat, e < c → ¬ eM v o 8 (Int32.ofNat l) (Int32.ofNat st) e) ∧ x = vd (c_addE v o 8 (Int32.ofNat l) (Int32.ofNat st)))) ∧ (¬ unS v l → x = vd v) := by
  have n22 := hV.2.2.2.1
  have cl : c_cell v (Int32.ofNat l) 0 = v.1 (21 + l) 0 := cell_n (t := l) (k := 0) (by omega) (by omega)
  have add : vE 92 89 [.ref o, .ref 19, .int 8, .int (Int32.ofNat l), .int B] [] v x → ((∃ e : Nat, e < c ∧ eM v o 8 (Int32.ofNat l) (Int32.ofNat st) e) ∧ x = vd v) ∨ ((∀ e : Nat, e < c → ¬ eM v o 8 (Int32.ofNat l) (Int32.ofNat st) e) ∧ x = vd (c_addE v o 8 (Int32.ofNat l) (Int32.ofNat st))) := fun e => by
    simp only [q92_89, q92_90, q92_92, q92_93, q92_94, q92_97, hs] at e
    obtain ⟨y, e1, e2⟩ := e
    rcases ao_x hc h8 e1 with ⟨g, rfl⟩ | ⟨g, rfl⟩
    · simp only [vB_d, Nat.reduceAdd, q92_100] at e2
      exact Or.inl ⟨g, e2⟩
    · simp only [vB_d, Nat.reduceAdd, q92_100] at e2
      exact Or.inr ⟨g, e2⟩
  simp only [q92_0, q92_1, q92_3] at e
  rw [if_neg (show ¬ (8 : Int32) = 9 from by decide)] at e
  simp only [q92_28, q92_29, q92_31] at e
  rw [if_neg (show ¬ (8 : Int32) = 7 from by decide)] at e
  simp only [q92_64, q92_65, q92_67] at e
  rw [if_pos trivial] at e
  simp only [q92_70, q92_71, q92_72, ct94, exists_eq_left, vB_r, Nat.reduceAdd, q92_75, vnum_n hV hl] at e
  by_cases c1 : ∀ k : Nat, k < 23 → 1 ≤ k → v.1 (21 + l) k = 0
  · rw [if_neg (fun z => bI_z.mp z c1)] at e
    simp only [q92_78, q92_79, q92_80, ct95, c_nof, cl, exists_eq_left, vB_r, Nat.reduceAdd, q92_83, ct99, xB_w, q92_86] at e
    by_cases c2 : xB (v.1 (21 + l) 0) = 0
    · rw [if_pos c2] at e
      exact ⟨fun _ => add e, fun z => absurd (fun y => y.2 c2) z⟩
    · rw [if_neg c2] at e
      simp only [q92_100] at e
      exact ⟨fun z => absurd ⟨c1, c2⟩ z, fun _ => e⟩
  · rw [if_pos (bI_z.mpr c1)] at e
    exact ⟨fun _ => add e, fun z => absurd (fun y => c1 y.1) z⟩
/-! divide -/
theorem dv_at {n a i j S : Nat} {l4 : Value} (hV : VI n a v) (hn : n < 22) (hA : w.1 64 5 = Int32.ofNat a) (hi : i < 1000) (hj : j < 1000) (e : vE 184 137 [.ref 64, .int (Int32.ofNat S), .int (Int32.ofNat i), .int (Int32.ofNat j), l4] [] w x) : ∃ y : vm_Y, vE 188 0 [.ref 64, .int 7, .ref 72, .int (Int32.ofNat i), .ref 72, .int (Int32.ofNat j), .retAddr 0, .retAddr 0] [] w y ∧ ∃ (c : Int32) (w1 : vm_V), y = vr c w1 ∧ vE 189 0 [.ref 64, .int c] [] w1 x := by
  have a3 := hV.2.2.1
  simp only [q184_137, q184_138, q184_139, q184_141, q184_142, q184_145, q184_146, q184_147, q184_150, q184_151, Nat.reduceAdd] at e
  obtain ⟨y, e1, e2⟩ := e
  refine ⟨y, e1, ?_⟩
  have : ∃ (c : Nat) (w1 : vm_V), c < 22 ∧ y = vr (Int32.ofNat c) w1 := by
    rcases ra_x hA (by omega) (by omega) (by omega) hi hj e1 with ⟨c, c1, _, _, c4⟩ | ⟨_, c2⟩
    · exact ⟨c, w, by omega, c4⟩
    · exact ⟨a, _, by omega, c2⟩
  obtain ⟨c, w1, c1, rfl⟩ := this
  simp only [vB_r, Nat.reduceAdd, q184_154, ct189 c1, exists_eq_left, vB_d, q184_157] at e2
  exact ⟨_, w1, rfl, (ct189 c1).mpr e2⟩
theorem dv_x {n a l r i j S c : Nat} (hV : VI n a v) (hn : n < 22) (hA : AR n a v w) (hi : i < 1000) (hj : j < 1000) (h1 : sv v w l 72 i) (h2 : sv v w r 72 j) (hS : S < 2) (hc : w.1 73 S = Int32.ofNat c) (h8 : c < 8) (e : vE 184 0 [.ref 64, .int (Int32.ofNat S), .int (Int32.ofNat i), .int (Int32.ofNat j), .retAddr 0] [] w x) : (((∀ k : Nat, k < 23 → 1 ≤ k → v.1 (21 + l) k = 0) ∧ (∀ k : Nat, k < 23 → 1 ≤ k → v.1 (21 + r) k = 0) ∧ ¬ v.1 (21 + r) 0 = 0) → x = vd (v_up 77 0 24 (fun k => if k = 0 then w.1 72 i / w.1 72 j else 0) w)) ∧ (¬ (∀ k : Nat, k < 23 → 1 ≤ k → v.1 (21 + l) k = 0) → tI v r 1 → x = vd (v_up 77 0 24 (fun k => w.1 72 (i + k)) w)) ∧ (¬ ((∀ k : Nat, k < 23 → 1 ≤ k → v.1 (21 + l) k = 0) ∧ (∀ k : Nat, k < 23 → 1 ≤ k → v.1 (21 + r) k = 0) ∧ ¬ v.1 (21 + r) 0 = 0) → ¬ tI v r 1 → ∃ w1 : vm_V, ((¬ ((∀ k : Nat, k < 23 → 1 ≤ k → v.1 (21 + r) k = 0) ∧ ¬ v.1 (21 + r) 0 = 0) ∧ (∀ e : Nat, e < c → ¬ rE w S 7 72 i 72 j e) ∧ w1 = w_ef S 7 72 i 72 j c w) ∨ ((((∀ k : Nat, k < 23 → 1 ≤ k → v.1 (21 + r) k = 0) ∧ ¬ v.1 (21 + r) 0 = 0) ∨ ¬ ∀ e : Nat, e < c → ¬ rE w S 7 72 i 72 j e) ∧ w1 = w)) ∧ ∃ y : vm_Y, vE 188 0 [.ref 64, .int 7, .ref 72, .int (Int32.ofNat i), .ref 72, .int (Int32.ofNat j), .retAddr 0, .retAddr 0] [] w1 y ∧ ∃ (c : Int32) (w2 : vm_V), y = vr c w2 ∧ vE 189 0 [.ref 64, .int c] [] w2 x) := by
  have wj : w.1 72 j = v.1 (21 + r) 0 := sv_0 h2
  have ni := nn_nat (show i < 2147483648 by omega)
  have nj := nn_nat (show j < 2147483648 by omega)
  simp only [q184_0, q184_1, q184_4, q184_5, Nat.reduceAdd, ct185 hj, exists_eq_left, vB_r, q184_8, q184_10, q184_12] at e
  have at100 : ∀ z : Value, ¬ ((∀ k : Nat, k < 23 → 1 ≤ k → v.1 (21 + r) k = 0) ∧ ¬ v.1 (21 + r) 0 = 0) → vE 184 100 [.ref 64, .int (Int32.ofNat S), .int (Int32.ofNat i), .int (Int32.ofNat j), z] [] w x → ∃ w1 : vm_V, ((¬ ((∀ k : Nat, k < 23 → 1 ≤ k → v.1 (21 + r) k = 0) ∧ ¬ v.1 (21 + r) 0 = 0) ∧ (∀ e : Nat, e < c → ¬ rE w S 7 72 i 72 j e) ∧ w1 = w_ef S 7 72 i 72 j c w) ∨ ((((∀ k : Nat, k < 23 → 1 ≤ k → v.1 (21 + r) k = 0) ∧ ¬ v.1 (21 + r) 0 = 0) ∨ ¬ ∀ e : Nat, e < c → ¬ rE w S 7 72 i 72 j e) ∧ w1 = w)) ∧ ∃ y : vm_Y, vE 188 0 [.ref 64, .int 7, .ref 72, .int (Int32.ofNat i), .ref 72, .int (Int32.ofNat j), .retAddr 0, .retAddr 0] [] w1 y ∧ ∃ (c : Int32) (w2 : vm_V), y = vr c w2 ∧ vE 189 0 [.ref 64, .int c] [] w2 x := fun z hT e => by
    simp only [q184_100, q184_101, q184_102, q184_104, q184_105, q184_108, q184_109, q184_110, q184_113, q184_114, Nat.reduceAdd] at e
    obtain ⟨y, e1, e2⟩ := e
    obtain ⟨b, b1, rfl⟩ := we_x hc hS (by omega) hi hj e1
    simp only [vB_r, Nat.reduceAdd, q184_117] at e2
    by_cases b0 : b = 0
    · rw [if_pos b0] at e2
      simp only [q184_120, q184_121, q184_122, q184_124, q184_125, q184_128, q184_129, q184_130, q184_133, q184_134, Nat.reduceAdd, ct182 (p := 72) (q := 72) hc hS h8 (by omega) (by omega) hi hj, exists_eq_left, vB_d] at e2
      refine ⟨_, Or.inl ⟨hT, b1.mp b0, rfl⟩, dv_at hV hn ?_ hi hj e2⟩
      unfold w_ef
      rw [vm_si1b, if_neg (by omega), v_upo (by omega), v_upo (by omega), vm_si1b, if_neg (by omega)]
      exact hA.1
    · rw [if_neg b0] at e2
      exact ⟨w, Or.inr ⟨Or.inr (fun q => b0 (b1.mpr q)), rfl⟩, dv_at hV hn hA.1 hi hj e2⟩
  by_cases c2 : ∀ k : Nat, k < 23 → 1 ≤ k → v.1 (21 + r) k = 0
  · rw [if_neg (fun z => (nz1 h2).mp z c2)] at e
    simp only [q184_15, q184_16, q184_19, q184_20, q184_21, Nat.reduceAdd, nj, wj] at e
    by_cases b0 : v.1 (21 + r) 0 = 0
    · rw [if_pos b0] at e
      simp only [q184_57, q184_59] at e
      rw [if_neg (fun z => (nz1 h2).mp z c2)] at e
      simp only [q184_62, q184_63, q184_66, q184_67, q184_68, q184_69, Nat.reduceAdd, nj, wj] at e
      have n1 : ¬ v.1 (21 + r) 0 = 1 := fun z => absurd (b0.symm.trans z) (by decide)
      rw [if_neg n1] at e
      simp only [q184_86, q184_88] at e
      rw [if_neg (fun z => (nz1 h2).mp z c2)] at e
      simp only [q184_91, q184_92, q184_95, q184_96, q184_97, Nat.reduceAdd, nj, wj] at e
      rw [if_pos b0] at e
      exact ⟨fun z => absurd b0 z.2.2, fun _ z => absurd z.2 n1, fun _ _ => at100 _ (fun z => z.2 b0) e⟩
    · rw [if_neg b0] at e
      simp only [q184_24, q184_25, q184_28, q184_29, Nat.reduceAdd, ct185 hi, exists_eq_left, vB_r, q184_32] at e
      by_cases c1 : ∀ k : Nat, k < 23 → 1 ≤ k → v.1 (21 + l) k = 0
      · rw [if_neg (fun z => (nz1 h1).mp z c1)] at e
        have hb : w.1 72 j ≠ 0 := fun z => b0 (wj.symm.trans z)
        simp only [q184_35, q184_36, q184_39, q184_40, q184_41, q184_44, q184_45, q184_46, q184_47, q184_50, q184_51, Nat.reduceAdd, ni, nj, q184_52 hb, q184_53, s0e, exists_eq_left, vB_d, q184_56] at e
        exact ⟨fun _ => e, fun z => absurd c1 z, fun z => absurd ⟨c1, c2, b0⟩ z⟩
      · rw [if_pos ((nz1 h1).mpr c1)] at e
        simp only [q184_57, q184_59] at e
        rw [if_neg (fun z => (nz1 h2).mp z c2)] at e
        simp only [q184_62, q184_63, q184_66, q184_67, q184_68, q184_69, Nat.reduceAdd, nj, wj] at e
        by_cases b1 : v.1 (21 + r) 0 = 1
        · rw [if_pos b1] at e
          simp only [q184_72, q184_73, q184_76, q184_77, q184_78, q184_81, q184_82, Nat.reduceAdd, m0e hi, exists_eq_left, vB_d, q184_85] at e
          exact ⟨fun z => absurd z.1 c1, fun _ _ => e, fun _ z => absurd ⟨c2, b1⟩ z⟩
        · rw [if_neg b1] at e
          simp only [q184_86, q184_88] at e
          rw [if_neg (fun z => (nz1 h2).mp z c2)] at e
          simp only [q184_91, q184_92, q184_95, q184_96, q184_97, Nat.reduceAdd, nj, wj] at e
          rw [if_neg b0] at e
          exact ⟨fun z => absurd z.1 c1, fun _ z => absurd z.2 b1, fun _ _ => ⟨w, Or.inr ⟨Or.inl ⟨c2, b0⟩, rfl⟩, dv_at hV hn hA.1 hi hj e⟩⟩
  · rw [if_pos ((nz1 h2).mpr c2)] at e
    simp only [q184_57, q184_59] at e
    rw [if_pos ((nz1 h2).mpr c2)] at e
    simp only [q184_86, q184_88] at e
    rw [if_pos ((nz1 h2).mpr c2)] at e
    exact ⟨fun z => absurd z.2.1 c2, fun _ z => absurd z.1 c2, fun _ _ => at100 _ (fun z => c2 z.1) e⟩
/-- load, the reference's, behind its atom -/
theorem ld_x {l i S c m : Nat} (hm : m < 22) (hi : i < 1000) (h1 : sv v w l 72 i) (hS : S < 2) (hc : w.1 73 S = Int32.ofNat c) (h8 : c < 8) {l4 : Value} (e : vE 190 16 [.ref 64, .int (Int32.ofNat S), .int (Int32.ofNat i), .retAddr 0, l4] [.int (Int32.ofNat m)] w x) : ∃ w1 : vm_V, ((unS v l ∧ w.1 92 m = 0 ∧ w1 = w_ef S 8 72 i 78 0 c w) ∨ ((¬ unS v l ∨ ¬ w.1 92 m = 0) ∧ w1 = w)) ∧ x = vd (v_up 77 0 24 (fun k => if k = 1 + m then 1 else 0) (vm_si w1 92 m 1)) := by
  have wi : w.1 72 i = v.1 (21 + l) 0 := sv_0 h1
  have ni := nn_nat (show i < 2147483648 by omega)
  have nm := nn_nat (show m < 2147483648 by omega)
  have fin : ∀ (w1 : vm_V) (z : Value), vE 190 86 [.ref 64, .int (Int32.ofNat S), .int (Int32.ofNat i), .int (Int32.ofNat m), z] [] w1 x → x = vd (v_up 77 0 24 (fun k => if k = 1 + m then 1 else 0) (vm_si w1 92 m 1)) := fun w1 z e => by
    simpa only [q190_86, q190_87, q190_90, q190_91, q190_92, q190_93, q190_94, q190_95, Nat.reduceAdd, nm, a11, ct189 hm, exists_eq_left, vB_d, q190_98] using e
  simp only [q190_16, q190_17, q190_18, q190_21, q190_22, Nat.reduceAdd, ct185 hi, exists_eq_left, vB_r, q190_25] at e
  have st : ∃ z : Int32, (z = 0 ↔ unS v l) ∧ vE 190 55 [.ref 64, .int (Int32.ofNat S), .int (Int32.ofNat i), .int (Int32.ofNat m), .int z] [] w x := by
    by_cases c1 : ∀ k : Nat, k < 23 → 1 ≤ k → v.1 (21 + l) k = 0
    · rw [if_neg (fun z => (nz1 h1).mp z c1)] at e
      simp only [q190_28, q190_29, q190_32, q190_33, q190_34, Nat.reduceAdd, ni, wi] at e
      by_cases d1 : v.1 (21 + l) 0 < 0
      · rw [if_pos d1] at e
        simp only [q190_52, q190_53] at e
        exact ⟨0, ⟨fun _ z => z.2 (if_pos d1), fun _ => rfl⟩, e⟩
      · rw [if_neg d1] at e
        simp only [q190_37, q190_38, q190_41, q190_42, q190_43, q190_45, Nat.reduceAdd, ni, wi] at e
        by_cases d2 : (8 : Int32) ≤ v.1 (21 + l) 0
        · rw [if_pos d2] at e
          simp only [q190_52, q190_53] at e
          exact ⟨0, ⟨fun _ z => z.2 ((if_neg d1).trans (if_pos d2)), fun _ => rfl⟩, e⟩
        · rw [if_neg d2] at e
          simp only [q190_48, q190_49, q190_53] at e
          refine ⟨1, ⟨fun z => absurd z i10, fun z => absurd ⟨c1, ?_⟩ z⟩, e⟩
          unfold xB
          rw [if_neg d1, if_neg d2]
          exact i10
    · rw [if_pos ((nz1 h1).mpr c1)] at e
      simp only [q190_52, q190_53] at e
      exact ⟨0, ⟨fun _ z => c1 z.1, fun _ => rfl⟩, e⟩
  obtain ⟨z, z1, e⟩ := st
  simp only [q190_55, q190_57] at e
  by_cases z0 : z = 0
  · rw [if_pos z0] at e
    simp only [q190_60, q190_61, q190_64, q190_65, q190_66, Nat.reduceAdd, nm] at e
    by_cases b0 : w.1 92 m = 0
    · rw [if_pos b0] at e
      have e := (show vE 190 69 [.ref 64, .int (Int32.ofNat S), .int (Int32.ofNat i), .int (Int32.ofNat m), .int z] [] w x from e)
      have e8 : ∀ y : vm_Y, vE 182 0 [.ref 64, .int (Int32.ofNat S), .int 8, .ref 72, .int (Int32.ofNat i), .ref 78, .int 0, .retAddr 0] [] w y ↔ y = vd (w_ef S 8 72 i 78 0 c w) := fun y => ct182 (p := 72) (q := 78) (j := 0) hc hS h8 (by omega) (by omega) hi (by omega)
      simp only [q190_69, q190_70, q190_71, q190_73, q190_74, q190_77, q190_78, q190_79, q190_82, q190_83, Nat.reduceAdd, e8, exists_eq_left, vB_d] at e
      exact ⟨_, Or.inl ⟨z1.mp z0, b0, rfl⟩, fin _ _ e⟩
    · rw [if_neg b0] at e
      exact ⟨w, Or.inr ⟨Or.inr b0, rfl⟩, fin _ _ e⟩
  · rw [if_neg z0] at e
    exact ⟨w, Or.inr ⟨Or.inl (fun q => z0 (z1.mpr q)), rfl⟩, fin _ _ e⟩
end EJ
