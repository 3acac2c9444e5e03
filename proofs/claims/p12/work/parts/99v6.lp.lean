/-! the passes, the class side: loops -/
section DD
variable {x : vm_Y}
theorem ct_0 (i : Int32) : i + Int32.ofNat 0 = i := Int32.add_zero i
theorem ct_0d (i : Int32) : i - Int32.ofNat 0 = i := Int32.sub_zero i
theorem ct_s (i : Int32) (k : Nat) : i + 1 + Int32.ofNat k = i + Int32.ofNat (k + 1) := by
  rw [Int32.add_assoc, Int32.add_comm 1, ← nn_s]
theorem ct_sd (i : Int32) (k : Nat) : i + (-1) - Int32.ofNat k = i - Int32.ofNat (k + 1) := by
  rw [← nn_s, ← Int32.sub_eq_add_neg, Int32.sub_sub, Int32.add_comm 1]
theorem li0 {n i : Int32} (h : (n.toInt + 1 - i.toInt).toNat = 0) : n < i := Int32.lt_iff_toInt_lt.mpr (by omega)
theorem liS {n i : Int32} {k : Nat} (hl : n.toInt < 2147483647) (h : (n.toInt + 1 - i.toInt).toNat = k + 1) : ¬ n < i ∧ (n.toInt + 1 - (i + 1).toInt).toNat = k := by
  have hi := Int32.le_toInt i
  refine ⟨fun q => ?_, ?_⟩
  · have := Int32.lt_iff_toInt_lt.mp q
    omega
  · have e : (i + 1).toInt = i.toInt + 1 := by
      rw [Int32.toInt_add, show (1 : Int32).toInt = 1 from rfl]
      exact ty_bm (by omega) (by omega)
    omega
theorem lc0 {n i : Int32} (h : (n.toInt - i.toInt).toNat = 0) : n ≤ i := Int32.le_iff_toInt_le.mpr (by omega)
theorem lcS {n i : Int32} {k : Nat} (h : (n.toInt - i.toInt).toNat = k + 1) : ¬ n ≤ i ∧ (n.toInt - (i + 1).toInt).toNat = k := by
  have hn := Int32.toInt_lt n
  have hi := Int32.le_toInt i
  have e : (i + 1).toInt = i.toInt + 1 := by
    rw [Int32.toInt_add, show (1 : Int32).toInt = 1 from rfl]
    exact ty_bm (by omega) (by omega)
  refine ⟨fun q => ?_, by omega⟩
  have := Int32.le_iff_toInt_le.mp q
  omega
theorem ld0n {i : Int32} (h : (i.toInt + 1).toNat = 0) : ¬ 0 ≤ i := fun q => by
  have := Int32.le_iff_toInt_le.mp q
  have e : (0 : Int32).toInt = 0 := rfl
  omega
theorem ld0 {i : Int32} (h : (i.toInt + 1).toNat = 0) : i < 0 := Int32.not_le.mp (ld0n h)
theorem ldS {i : Int32} {k : Nat} (h : (i.toInt + 1).toNat = k + 1) : ¬ i < 0 ∧ ((i + (-1)).toInt + 1).toNat = k := by
  have hi := Int32.toInt_lt i
  have e : (i + (-1)).toInt = i.toInt + (-1) := by
    rw [Int32.toInt_add, show (-1 : Int32).toInt = -1 from rfl]
    exact ty_bm (by omega) (by omega)
  refine ⟨fun q => ?_, by omega⟩
  have := Int32.lt_iff_toInt_lt.mp q
  have e : (0 : Int32).toInt = 0 := rfl
  omega
theorem ldSn {i : Int32} {k : Nat} (h : (i.toInt + 1).toNat = k + 1) : 0 ≤ i := Int32.not_lt.mp (ldS h).1

variable {v : vm_V}
theorem it60_46 {b e n d ld i : Int32} {l8 : Value} : vE 60 46 [.ref 14, .ref 3, .int b, .int e, .int n, .int d, .int ld, .int i, l8] [] v x ↔ if n ≤ i then x = vr 1 v else if ld = 0 then if c_writtenAt v 3 b i = d then x = vr 0 v else if c_readsAt v 3 b e (c_writtenAt v 3 b i) = 0 then vE 60 46 [.ref 14, .ref 3, .int b, .int e, .int n, .int d, .int ld, .int (i + 1), .int (c_writtenAt v 3 b i)] [] v x else x = vr 0 v else if c_codeAt v 3 b i 0 = 9 then x = vr 0 v else if c_writtenAt v 3 b i = d then x = vr 0 v else if c_readsAt v 3 b e (c_writtenAt v 3 b i) = 0 then vE 60 46 [.ref 14, .ref 3, .int b, .int e, .int n, .int d, .int ld, .int (i + 1), .int (c_writtenAt v 3 b i)] [] v x else x = vr 0 v := by
  rw [q60_46]
  simp only [q60_0, q60_1, q60_2, q60_3, q60_4, q60_7, q60_9, q60_10, q60_11, q60_12, q60_14, q60_17, q60_20, q60_21, q60_22, q60_23, q60_24, q60_25, q60_26, q60_29, q60_31, q60_34, q60_35, q60_38, q60_39, q60_41, q60_42, q60_43, q60_44, q60_48, q60_50, q60_53, q60_54, q60_55, q60_57, q60_60, q60_62, q60_64, q60_67, q60_68, q60_69, q60_71, q60_72, q60_75, q60_77, q60_80, q60_81, q60_84, q60_86, q60_89, q60_90, q60_91, q60_92, q60_94, q60_97, q60_101, q60_102, q60_105, q60_108, q60_109, ct47, ct61, ct62, exists_eq_left, vB_r, vB_d, vB_a, vB_if, vm_eqif, vr_if, vd_if, Nat.reduceAdd, reduceIte, vm_10, vm_n0, ite_self, vm_mrg, vm_icons, vm_iint, qt60]
  try simp only [q60_0, q60_1, q60_2, q60_3, q60_4, q60_7, q60_9, q60_10, q60_11, q60_12, q60_14, q60_17, q60_20, q60_21, q60_22, q60_23, q60_24, q60_25, q60_26, q60_29, q60_31, q60_34, q60_35, q60_38, q60_39, q60_41, q60_42, q60_43, q60_44, q60_48, q60_50, q60_53, q60_54, q60_55, q60_57, q60_60, q60_62, q60_64, q60_67, q60_68, q60_69, q60_71, q60_72, q60_75, q60_77, q60_80, q60_81, q60_84, q60_86, q60_89, q60_90, q60_91, q60_92, q60_94, q60_97, q60_101, q60_102, q60_105, q60_108, q60_109, q60_82, ct47, ct61, ct62, exists_eq_left, vB_r, vB_d, vB_a, vB_if, vm_eqif, vr_if, vd_if, Nat.reduceAdd, reduceIte, vm_10, vm_n0, ite_self, vm_mrg, vm_icons, vm_iint, qt60]
  try simp only [q60_0, q60_1, q60_2, q60_3, q60_4, q60_7, q60_9, q60_10, q60_11, q60_12, q60_14, q60_17, q60_20, q60_21, q60_22, q60_23, q60_24, q60_25, q60_26, q60_29, q60_31, q60_34, q60_35, q60_38, q60_39, q60_41, q60_42, q60_43, q60_44, q60_48, q60_50, q60_53, q60_54, q60_55, q60_57, q60_60, q60_62, q60_64, q60_67, q60_68, q60_69, q60_71, q60_72, q60_75, q60_77, q60_80, q60_81, q60_84, q60_86, q60_89, q60_90, q60_91, q60_92, q60_94, q60_97, q60_101, q60_102, q60_105, q60_108, q60_109, q60_82, q60_100, ct47, ct61, ct62, exists_eq_left, vB_r, vB_d, vB_a, vB_if, vm_eqif, vr_if, vd_if, Nat.reduceAdd, reduceIte, vm_10, vm_n0, ite_self, vm_mrg, vm_icons, vm_iint, qt60]

def c_stl (v : vm_V) (b : Int32) (e : Int32) (n : Int32) (d : Int32) (ld : Int32) : Nat → Int32 → Int32
  | 0, _ => 1
  | k + 1, i => if ld = 0 then if c_writtenAt v 3 b i = d then 0 else if c_readsAt v 3 b e (c_writtenAt v 3 b i) = 0 then c_stl v b e n d ld k (i + 1) else 0 else if c_codeAt v 3 b i 0 = 9 then 0 else if c_writtenAt v 3 b i = d then 0 else if c_readsAt v 3 b e (c_writtenAt v 3 b i) = 0 then c_stl v b e n d ld k (i + 1) else 0

theorem lp60_46 {b e n d ld : Int32} {v : vm_V} : ∀ (k : Nat) (i : Int32) (l8 : Value), ((n : Int32).toInt - i.toInt).toNat = k → (vE 60 46 [.ref 14, .ref 3, .int b, .int e, .int n, .int d, .int ld, .int i, l8] [] v x ↔ x = vr (c_stl v b e n d ld k i) v)
  | 0, i, l8, h => by
    rw [it60_46, if_pos (lc0 h)]
    try rw [ct_0]
    try exact Iff.rfl
  | k + 1, i, l8, h => by
    have ih := fun l8' => lp60_46 (b := b) (e := e) (n := n) (d := d) (ld := ld) (v := v) k (i + 1) l8' (lcS h).2
    rw [it60_46, if_neg (lcS h).1]
    simp only [ih, vm_eqif, vr_if, vd_if, ct_s, ct_sd, c_stl]

theorem lq60_46 {b e n d ld : Int32} {v : vm_V} {i : Int32} {l8 : Value} : vE 60 46 [.ref 14, .ref 3, .int b, .int e, .int n, .int d, .int ld, .int i, l8] [] v x ↔ x = vr (c_stl v b e n d ld ((n : Int32).toInt - i.toInt).toNat i) v := lp60_46 _ _ _ rfl

def c_stillHolds (v : vm_V) (b : Int32) (e : Int32) (n : Int32) : Int32 := if c_readsAt v 3 b e (c_codeAt v 3 b e 1) = 0 then c_stl v b e n (c_codeAt v 3 b e 1) (if c_codeAt v 3 b e 0 = 8 then 1 else 0) ((n : Int32).toInt - (e + 1 : Int32).toInt).toNat (e + 1) else 0
theorem ct60 {b e n : Int32} : vE 60 0 [.ref 14, .ref 3, .int b, .int e, .int n, .retAddr 0, .retAddr 0, .retAddr 0, .retAddr 0] [] v x ↔ x = vr (c_stillHolds v b e n) v := by
  simp only [q60_0, q60_1, q60_2, q60_3, q60_4, q60_7, q60_9, q60_10, q60_11, q60_12, q60_14, q60_17, q60_20, q60_21, q60_22, q60_23, q60_24, q60_25, q60_26, q60_29, q60_31, q60_34, q60_35, q60_38, q60_41, q60_42, q60_43, q60_44, q60_48, q60_50, q60_53, q60_54, q60_55, q60_57, q60_60, q60_62, q60_64, q60_67, q60_68, q60_69, q60_71, q60_72, q60_75, q60_77, q60_80, q60_81, q60_84, q60_86, q60_89, q60_90, q60_91, q60_92, q60_94, q60_97, q60_101, q60_102, q60_105, q60_108, q60_109, ct47, ct61, ct62, exists_eq_left, vB_r, vB_d, vB_a, vB_if, vm_eqif, vr_if, vd_if, Nat.reduceAdd, reduceIte, vm_10, vm_n0, ite_self, vm_mrg, vm_icons, vm_iint, qt60, lq60_46, c_stillHolds]
  try simp only [q60_0, q60_1, q60_2, q60_3, q60_4, q60_7, q60_9, q60_10, q60_11, q60_12, q60_14, q60_17, q60_20, q60_21, q60_22, q60_23, q60_24, q60_25, q60_26, q60_29, q60_31, q60_34, q60_35, q60_38, q60_41, q60_42, q60_43, q60_44, q60_48, q60_50, q60_53, q60_54, q60_55, q60_57, q60_60, q60_62, q60_64, q60_67, q60_68, q60_69, q60_71, q60_72, q60_75, q60_77, q60_80, q60_81, q60_84, q60_86, q60_89, q60_90, q60_91, q60_92, q60_94, q60_97, q60_101, q60_102, q60_105, q60_108, q60_109, q60_39, ct47, ct61, ct62, exists_eq_left, vB_r, vB_d, vB_a, vB_if, vm_eqif, vr_if, vd_if, Nat.reduceAdd, reduceIte, vm_10, vm_n0, ite_self, vm_mrg, vm_icons, vm_iint, qt60, lq60_46, c_stillHolds]
  try simp only [q60_0, q60_1, q60_2, q60_3, q60_4, q60_7, q60_9, q60_10, q60_11, q60_12, q60_14, q60_17, q60_20, q60_21, q60_22, q60_23, q60_24, q60_25, q60_26, q60_29, q60_31, q60_34, q60_35, q60_38, q60_41, q60_42, q60_43, q60_44, q60_48, q60_50, q60_53, q60_54, q60_55, q60_57, q60_60, q60_62, q60_64, q60_67, q60_68, q60_69, q60_71, q60_72, q60_75, q60_77, q60_80, q60_81, q60_84, q60_86, q60_89, q60_90, q60_91, q60_92, q60_94, q60_97, q60_101, q60_102, q60_105, q60_108, q60_109, q60_39, q60_82, ct47, ct61, ct62, exists_eq_left, vB_r, vB_d, vB_a, vB_if, vm_eqif, vr_if, vd_if, Nat.reduceAdd, reduceIte, vm_10, vm_n0, ite_self, vm_mrg, vm_icons, vm_iint, qt60, lq60_46, c_stillHolds]
  try simp only [q60_0, q60_1, q60_2, q60_3, q60_4, q60_7, q60_9, q60_10, q60_11, q60_12, q60_14, q60_17, q60_20, q60_21, q60_22, q60_23, q60_24, q60_25, q60_26, q60_29, q60_31, q60_34, q60_35, q60_38, q60_41, q60_42, q60_43, q60_44, q60_48, q60_50, q60_53, q60_54, q60_55, q60_57, q60_60, q60_62, q60_64, q60_67, q60_68, q60_69, q60_71, q60_72, q60_75, q60_77, q60_80, q60_81, q60_84, q60_86, q60_89, q60_90, q60_91, q60_92, q60_94, q60_97, q60_101, q60_102, q60_105, q60_108, q60_109, q60_39, q60_82, q60_100, ct47, ct61, ct62, exists_eq_left, vB_r, vB_d, vB_a, vB_if, vm_eqif, vr_if, vd_if, Nat.reduceAdd, reduceIte, vm_10, vm_n0, ite_self, vm_mrg, vm_icons, vm_iint, qt60, lq60_46, c_stillHolds]

theorem it58_3 {b i e : Int32} : vE 58 3 [.ref 14, .ref 3, .int b, .int i, .int e] [] v x ↔ if i ≤ e then x = vr (-1) v else if c_sameWork v b e i = 0 then vE 58 3 [.ref 14, .ref 3, .int b, .int i, .int (e + 1)] [] v x else if c_stillHolds v b e i = 0 then vE 58 3 [.ref 14, .ref 3, .int b, .int i, .int (e + 1)] [] v x else x = vr e v := by
  rw [q58_3]
  simp only [q58_0, q58_1, q58_5, q58_6, q58_9, q58_10, q58_11, q58_12, q58_14, q58_15, q58_18, q58_21, q58_22, q58_23, q58_24, q58_26, q58_27, q58_30, q58_33, q58_35, q58_39, q58_42, q58_43, ct59, ct60, exists_eq_left, vB_r, vB_d, vB_a, vB_if, vm_eqif, vr_if, vd_if, Nat.reduceAdd, reduceIte, vm_10, vm_n0, ite_self, vm_mrg, vm_icons, vm_iint, qt58]
  try simp only [q58_0, q58_1, q58_5, q58_6, q58_9, q58_10, q58_11, q58_12, q58_14, q58_15, q58_18, q58_21, q58_22, q58_23, q58_24, q58_26, q58_27, q58_30, q58_33, q58_35, q58_39, q58_42, q58_43, q58_36, ct59, ct60, exists_eq_left, vB_r, vB_d, vB_a, vB_if, vm_eqif, vr_if, vd_if, Nat.reduceAdd, reduceIte, vm_10, vm_n0, ite_self, vm_mrg, vm_icons, vm_iint, qt58]

def c_fel (v : vm_V) (b : Int32) (i : Int32) : Nat → Int32 → Int32
  | 0, _ => (-1)
  | k + 1, e => if c_sameWork v b e i = 0 then c_fel v b i k (e + 1) else if c_stillHolds v b e i = 0 then c_fel v b i k (e + 1) else e

theorem lp58_3 {b i : Int32} {v : vm_V} : ∀ (k : Nat) (e : Int32), ((i : Int32).toInt - e.toInt).toNat = k → (vE 58 3 [.ref 14, .ref 3, .int b, .int i, .int e] [] v x ↔ x = vr (c_fel v b i k e) v)
  | 0, e, h => by
    rw [it58_3, if_pos (lc0 h)]
    try rw [ct_0]
    try exact Iff.rfl
  | k + 1, e, h => by
    have ih := lp58_3 (b := b) (i := i) (v := v) k (e + 1) (lcS h).2
    rw [it58_3, if_neg (lcS h).1]
    simp only [ih, vm_eqif, vr_if, vd_if, ct_s, ct_sd, c_fel]

theorem lq58_3 {b i : Int32} {v : vm_V} {e : Int32} : vE 58 3 [.ref 14, .ref 3, .int b, .int i, .int e] [] v x ↔ x = vr (c_fel v b i ((i : Int32).toInt - e.toInt).toNat e) v := lp58_3 _ _ rfl

def c_findEarlier (v : vm_V) (b : Int32) (i : Int32) : Int32 := c_fel v b i ((i : Int32).toInt - (0 : Int32).toInt).toNat 0
theorem ct58 {b i : Int32} : vE 58 0 [.ref 14, .ref 3, .int b, .int i, .retAddr 0] [] v x ↔ x = vr (c_findEarlier v b i) v := by
  simp only [q58_0, q58_1, q58_5, q58_6, q58_9, q58_10, q58_11, q58_12, q58_14, q58_15, q58_18, q58_21, q58_22, q58_23, q58_24, q58_26, q58_27, q58_30, q58_33, q58_35, q58_39, q58_42, q58_43, ct59, ct60, exists_eq_left, vB_r, vB_d, vB_a, vB_if, vm_eqif, vr_if, vd_if, Nat.reduceAdd, reduceIte, vm_10, vm_n0, ite_self, vm_mrg, vm_icons, vm_iint, qt58, lq58_3, c_findEarlier]
  try simp only [q58_0, q58_1, q58_5, q58_6, q58_9, q58_10, q58_11, q58_12, q58_14, q58_15, q58_18, q58_21, q58_22, q58_23, q58_24, q58_26, q58_27, q58_30, q58_33, q58_35, q58_39, q58_42, q58_43, q58_36, ct59, ct60, exists_eq_left, vB_r, vB_d, vB_a, vB_if, vm_eqif, vr_if, vd_if, Nat.reduceAdd, reduceIte, vm_10, vm_n0, ite_self, vm_mrg, vm_icons, vm_iint, qt58, lq58_3, c_findEarlier]

theorem it57_10 {b n i : Int32} {l6 l7 : Value} : vE 57 10 [.ref 14, .ref 3, .ref 7, .int b, .int n, .int i, l6, l7] [] v x ↔ if n ≤ i then x = vd v else if (if c_codeAt v 3 b i 0 = 8 then c_findEarlier v b i else if c_isCalc v (c_codeAt v 3 b i 0) = 0 then (-1) else c_findEarlier v b i : Int32) < 0 then vE 57 10 [.ref 14, .ref 3, .ref 7, .int b, .int n, .int (i + 1), .int (c_codeAt v 3 b i 0), .int (if c_codeAt v 3 b i 0 = 8 then c_findEarlier v b i else if c_isCalc v (c_codeAt v 3 b i 0) = 0 then (-1) else c_findEarlier v b i)] [] v x else vE 57 10 [.ref 14, .ref 3, .ref 7, .int b, .int n, .int (i + 1), .int (c_codeAt v 3 b i 0), .int (if c_codeAt v 3 b i 0 = 8 then c_findEarlier v b i else if c_isCalc v (c_codeAt v 3 b i 0) = 0 then (-1) else c_findEarlier v b i)] [] (c_setCode v 7 b i 1 (c_codeAt v 3 b i 1) (c_codeAt v 3 b (if c_codeAt v 3 b i 0 = 8 then c_findEarlier v b i else if c_isCalc v (c_codeAt v 3 b i 0) = 0 then (-1) else c_findEarlier v b i) 1) 0) x := by
  rw [q57_10]
  simp only [q57_0, q57_1, q57_2, q57_5, q57_7, q57_8, q57_12, q57_14, q57_17, q57_18, q57_19, q57_21, q57_22, q57_25, q57_27, q57_29, q57_31, q57_34, q57_36, q57_39, q57_43, q57_44, q57_45, q57_47, q57_50, q57_53, q57_56, q57_58, q57_61, q57_62, q57_63, q57_65, q57_66, q57_67, q57_68, q57_70, q57_71, q57_74, q57_75, q57_76, q57_78, q57_79, q57_82, q57_83, q57_89, q57_92, ct31, ct47, ct51, ct58, ct33, exists_eq_left, vB_r, vB_d, vB_a, vB_if, vm_eqif, vr_if, vd_if, Nat.reduceAdd, reduceIte, vm_10, vm_n0, ite_self, vm_mrg, vm_icons, vm_iint, qt57]
  try simp only [q57_0, q57_1, q57_2, q57_5, q57_7, q57_8, q57_12, q57_14, q57_17, q57_18, q57_19, q57_21, q57_22, q57_25, q57_27, q57_29, q57_31, q57_34, q57_36, q57_39, q57_43, q57_44, q57_45, q57_47, q57_50, q57_53, q57_56, q57_58, q57_61, q57_62, q57_63, q57_65, q57_66, q57_67, q57_68, q57_70, q57_71, q57_74, q57_75, q57_76, q57_78, q57_79, q57_82, q57_83, q57_89, q57_92, q57_42, ct31, ct47, ct51, ct58, ct33, exists_eq_left, vB_r, vB_d, vB_a, vB_if, vm_eqif, vr_if, vd_if, Nat.reduceAdd, reduceIte, vm_10, vm_n0, ite_self, vm_mrg, vm_icons, vm_iint, qt57]
  try simp only [q57_0, q57_1, q57_2, q57_5, q57_7, q57_8, q57_12, q57_14, q57_17, q57_18, q57_19, q57_21, q57_22, q57_25, q57_27, q57_29, q57_31, q57_34, q57_36, q57_39, q57_43, q57_44, q57_45, q57_47, q57_50, q57_53, q57_56, q57_58, q57_61, q57_62, q57_63, q57_65, q57_66, q57_67, q57_68, q57_70, q57_71, q57_74, q57_75, q57_76, q57_78, q57_79, q57_82, q57_83, q57_89, q57_92, q57_42, q57_54, ct31, ct47, ct51, ct58, ct33, exists_eq_left, vB_r, vB_d, vB_a, vB_if, vm_eqif, vr_if, vd_if, Nat.reduceAdd, reduceIte, vm_10, vm_n0, ite_self, vm_mrg, vm_icons, vm_iint, qt57]
  try simp only [q57_0, q57_1, q57_2, q57_5, q57_7, q57_8, q57_12, q57_14, q57_17, q57_18, q57_19, q57_21, q57_22, q57_25, q57_27, q57_29, q57_31, q57_34, q57_36, q57_39, q57_43, q57_44, q57_45, q57_47, q57_50, q57_53, q57_56, q57_58, q57_61, q57_62, q57_63, q57_65, q57_66, q57_67, q57_68, q57_70, q57_71, q57_74, q57_75, q57_76, q57_78, q57_79, q57_82, q57_83, q57_89, q57_92, q57_42, q57_54, q57_86, ct31, ct47, ct51, ct58, ct33, exists_eq_left, vB_r, vB_d, vB_a, vB_if, vm_eqif, vr_if, vd_if, Nat.reduceAdd, reduceIte, vm_10, vm_n0, ite_self, vm_mrg, vm_icons, vm_iint, qt57]

def c_rul (b : Int32) (n : Int32) : Nat → Int32 → vm_V → vm_V
  | 0, _, v => v
  | k + 1, i, v => if (if c_codeAt v 3 b i 0 = 8 then c_findEarlier v b i else if c_isCalc v (c_codeAt v 3 b i 0) = 0 then (-1) else c_findEarlier v b i : Int32) < 0 then c_rul b n k (i + 1) v else c_rul b n k (i + 1) (c_setCode v 7 b i 1 (c_codeAt v 3 b i 1) (c_codeAt v 3 b (if c_codeAt v 3 b i 0 = 8 then c_findEarlier v b i else if c_isCalc v (c_codeAt v 3 b i 0) = 0 then (-1) else c_findEarlier v b i) 1) 0)

theorem lp57_10 {b n : Int32} : ∀ (k : Nat) (i : Int32) (l6 : Value) (l7 : Value) (v : vm_V), ((n : Int32).toInt - i.toInt).toNat = k → (vE 57 10 [.ref 14, .ref 3, .ref 7, .int b, .int n, .int i, l6, l7] [] v x ↔ x = vd (c_rul b n k i v))
  | 0, i, l6, l7, v, h => by
    rw [it57_10, if_pos (lc0 h)]
    try rw [ct_0]
    try exact Iff.rfl
  | k + 1, i, l6, l7, v, h => by
    have ih := fun l6' l7' v' => lp57_10 (b := b) (n := n) k (i + 1) l6' l7' v' (lcS h).2
    rw [it57_10, if_neg (lcS h).1]
    simp only [ih, vm_eqif, vr_if, vd_if, ct_s, ct_sd, c_rul]

theorem lq57_10 {b n : Int32} {v : vm_V} {i : Int32} {l6 l7 : Value} : vE 57 10 [.ref 14, .ref 3, .ref 7, .int b, .int n, .int i, l6, l7] [] v x ↔ x = vd (c_rul b n ((n : Int32).toInt - i.toInt).toNat i v) := lp57_10 _ _ _ _ _ rfl

def c_reuse (v : vm_V) (b : Int32) : vm_V := c_rul b (c_lengthOf v 3 b) (((c_lengthOf v 3 b) : Int32).toInt - (0 : Int32).toInt).toNat 0 v
theorem ct57 {b : Int32} : vE 57 0 [.ref 14, .ref 3, .ref 7, .int b, .retAddr 0, .retAddr 0, .retAddr 0, .retAddr 0] [] v x ↔ x = vd (c_reuse v b) := by
  simp only [q57_0, q57_1, q57_2, q57_5, q57_7, q57_8, q57_12, q57_14, q57_17, q57_18, q57_19, q57_21, q57_22, q57_25, q57_27, q57_29, q57_31, q57_34, q57_36, q57_39, q57_43, q57_44, q57_45, q57_47, q57_50, q57_53, q57_56, q57_58, q57_61, q57_62, q57_63, q57_65, q57_66, q57_67, q57_68, q57_70, q57_71, q57_74, q57_75, q57_76, q57_78, q57_79, q57_82, q57_83, q57_89, q57_92, ct31, ct47, ct51, ct58, ct33, exists_eq_left, vB_r, vB_d, vB_a, vB_if, vm_eqif, vr_if, vd_if, Nat.reduceAdd, reduceIte, vm_10, vm_n0, ite_self, vm_mrg, vm_icons, vm_iint, qt57, lq57_10, c_reuse]
  try simp only [q57_0, q57_1, q57_2, q57_5, q57_7, q57_8, q57_12, q57_14, q57_17, q57_18, q57_19, q57_21, q57_22, q57_25, q57_27, q57_29, q57_31, q57_34, q57_36, q57_39, q57_43, q57_44, q57_45, q57_47, q57_50, q57_53, q57_56, q57_58, q57_61, q57_62, q57_63, q57_65, q57_66, q57_67, q57_68, q57_70, q57_71, q57_74, q57_75, q57_76, q57_78, q57_79, q57_82, q57_83, q57_89, q57_92, q57_42, ct31, ct47, ct51, ct58, ct33, exists_eq_left, vB_r, vB_d, vB_a, vB_if, vm_eqif, vr_if, vd_if, Nat.reduceAdd, reduceIte, vm_10, vm_n0, ite_self, vm_mrg, vm_icons, vm_iint, qt57, lq57_10, c_reuse]
  try simp only [q57_0, q57_1, q57_2, q57_5, q57_7, q57_8, q57_12, q57_14, q57_17, q57_18, q57_19, q57_21, q57_22, q57_25, q57_27, q57_29, q57_31, q57_34, q57_36, q57_39, q57_43, q57_44, q57_45, q57_47, q57_50, q57_53, q57_56, q57_58, q57_61, q57_62, q57_63, q57_65, q57_66, q57_67, q57_68, q57_70, q57_71, q57_74, q57_75, q57_76, q57_78, q57_79, q57_82, q57_83, q57_89, q57_92, q57_42, q57_54, ct31, ct47, ct51, ct58, ct33, exists_eq_left, vB_r, vB_d, vB_a, vB_if, vm_eqif, vr_if, vd_if, Nat.reduceAdd, reduceIte, vm_10, vm_n0, ite_self, vm_mrg, vm_icons, vm_iint, qt57, lq57_10, c_reuse]
  try simp only [q57_0, q57_1, q57_2, q57_5, q57_7, q57_8, q57_12, q57_14, q57_17, q57_18, q57_19, q57_21, q57_22, q57_25, q57_27, q57_29, q57_31, q57_34, q57_36, q57_39, q57_43, q57_44, q57_45, q57_47, q57_50, q57_53, q57_56, q57_58, q57_61, q57_62, q57_63, q57_65, q57_66, q57_67, q57_68, q57_70, q57_71, q57_74, q57_75, q57_76, q57_78, q57_79, q57_82, q57_83, q57_89, q57_92, q57_42, q57_54, q57_86, ct31, ct47, ct51, ct58, ct33, exists_eq_left, vB_r, vB_d, vB_a, vB_if, vm_eqif, vr_if, vd_if, Nat.reduceAdd, reduceIte, vm_10, vm_n0, ite_self, vm_mrg, vm_icons, vm_iint, qt57, lq57_10, c_reuse]

theorem it44_32 {b n i : Int32} : vE 44 32 [.ref 11, .ref 3, .ref 7, .int b, .int n, .int i] [] v x ↔ if n ≤ i then x = vd (c_foldEnd v b) else vE 44 32 [.ref 11, .ref 3, .ref 7, .int b, .int n, .int (i + 1)] [] (c_foldCode v b i) x := by
  rw [q44_32]
  simp only [q44_0, q44_1, q44_5, q44_7, q44_10, q44_11, q44_13, q44_16, q44_19, q44_22, q44_23, q44_24, q44_27, q44_29, q44_30, q44_34, q44_36, q44_39, q44_40, q44_41, q44_42, q44_43, q44_45, q44_48, q44_51, q44_54, q44_55, q44_56, q44_57, q44_58, q44_61, ct45, ct31, ct46, ct55, exists_eq_left, vB_r, vB_d, vB_a, vB_if, vm_eqif, vr_if, vd_if, Nat.reduceAdd, reduceIte, vm_10, vm_n0, ite_self, vm_mrg, vm_icons, vm_iint, qt44]

def c_fgl (b : Int32) (n : Int32) : Nat → Int32 → vm_V → vm_V
  | 0, _, v => v
  | k + 1, i, v => c_fgl b n k (i + 1) (c_foldCode v b i)

theorem lp44_32 {b n : Int32} : ∀ (k : Nat) (i : Int32) (v : vm_V), ((n : Int32).toInt - i.toInt).toNat = k → (vE 44 32 [.ref 11, .ref 3, .ref 7, .int b, .int n, .int i] [] v x ↔ x = vd (c_foldEnd (c_fgl b n k i v) b))
  | 0, i, v, h => by
    rw [it44_32, if_pos (lc0 h)]
    try rw [ct_0]
    try exact Iff.rfl
  | k + 1, i, v, h => by
    have ih := fun v' => lp44_32 (b := b) (n := n) k (i + 1) v' (lcS h).2
    rw [it44_32, if_neg (lcS h).1]
    simp only [ih, vm_eqif, vr_if, vd_if, ct_s, ct_sd, c_fgl]

theorem lq44_32 {b n : Int32} {v : vm_V} {i : Int32} : vE 44 32 [.ref 11, .ref 3, .ref 7, .int b, .int n, .int i] [] v x ↔ x = vd (c_foldEnd (c_fgl b n ((n : Int32).toInt - i.toInt).toNat i v) b) := lp44_32 _ _ _ rfl

theorem it44_3 {b r : Int32} {l5 : Value} : vE 44 3 [.ref 11, .ref 3, .ref 7, .int b, .int r, l5] [] v x ↔ if 6 ≤ r then vE 44 32 [.ref 11, .ref 3, .ref 7, .int b, .int (c_lengthOf v 3 b), .int 0] [] v x else vE 44 3 [.ref 11, .ref 3, .ref 7, .int b, .int (r + 1), l5] [] (c_forget v r) x := by
  rw [q44_3]
  simp only [q44_0, q44_1, q44_5, q44_7, q44_10, q44_11, q44_13, q44_16, q44_19, q44_22, q44_23, q44_24, q44_27, q44_29, q44_30, q44_34, q44_36, q44_39, q44_40, q44_41, q44_42, q44_43, q44_45, q44_48, q44_51, q44_54, q44_55, q44_56, q44_57, q44_58, q44_61, ct45, ct31, ct46, ct55, exists_eq_left, vB_r, vB_d, vB_a, vB_if, vm_eqif, vr_if, vd_if, Nat.reduceAdd, reduceIte, vm_10, vm_n0, ite_self, vm_mrg, vm_icons, vm_iint, qt44]

def c_fga (b : Int32) : Nat → Int32 → vm_V → vm_V
  | 0, _, v => v
  | k + 1, r, v => c_fga b k (r + 1) (c_forget v r)

theorem lp44_3 {b : Int32} : ∀ (k : Nat) (r : Int32) (l5 : Value) (v : vm_V), ((6 : Int32).toInt - r.toInt).toNat = k → (vE 44 3 [.ref 11, .ref 3, .ref 7, .int b, .int r, l5] [] v x ↔ vE 44 32 [.ref 11, .ref 3, .ref 7, .int b, .int (c_lengthOf (c_fga b k r v) 3 b), .int 0] [] (c_fga b k r v) x)
  | 0, r, l5, v, h => by
    rw [it44_3, if_pos (lc0 h)]
    try rw [ct_0]
    try exact Iff.rfl
  | k + 1, r, l5, v, h => by
    have ih := fun l5' v' => lp44_3 (b := b) k (r + 1) l5' v' (lcS h).2
    rw [it44_3, if_neg (lcS h).1]
    simp only [ih, vm_eqif, vr_if, vd_if, ct_s, ct_sd, c_fga]

theorem lq44_3 {b : Int32} {v : vm_V} {r : Int32} {l5 : Value} : vE 44 3 [.ref 11, .ref 3, .ref 7, .int b, .int r, l5] [] v x ↔ vE 44 32 [.ref 11, .ref 3, .ref 7, .int b, .int (c_lengthOf (c_fga b ((6 : Int32).toInt - r.toInt).toNat r v) 3 b), .int 0] [] (c_fga b ((6 : Int32).toInt - r.toInt).toNat r v) x := lp44_3 _ _ _ _ rfl

def c_fold (v : vm_V) (b : Int32) : vm_V := c_foldEnd (c_fgl b (c_lengthOf (c_fga b ((6 : Int32).toInt - (0 : Int32).toInt).toNat 0 v) 3 b) (((c_lengthOf (c_fga b ((6 : Int32).toInt - (0 : Int32).toInt).toNat 0 v) 3 b) : Int32).toInt - (0 : Int32).toInt).toNat 0 (c_fga b ((6 : Int32).toInt - (0 : Int32).toInt).toNat 0 v)) b
theorem ct44 {b : Int32} : vE 44 0 [.ref 11, .ref 3, .ref 7, .int b, .retAddr 0, .retAddr 0] [] v x ↔ x = vd (c_fold v b) := by
  simp only [q44_0, q44_1, q44_5, q44_7, q44_10, q44_11, q44_13, q44_16, q44_19, q44_22, q44_23, q44_24, q44_27, q44_29, q44_30, q44_34, q44_36, q44_39, q44_40, q44_41, q44_42, q44_43, q44_45, q44_48, q44_51, q44_54, q44_55, q44_56, q44_57, q44_58, q44_61, ct45, ct31, ct46, ct55, exists_eq_left, vB_r, vB_d, vB_a, vB_if, vm_eqif, vr_if, vd_if, Nat.reduceAdd, reduceIte, vm_10, vm_n0, ite_self, vm_mrg, vm_icons, vm_iint, qt44, lq44_3, lq44_32, c_fold]

theorem it69_3 {b i e : Int32} : vE 69 3 [.ref 15, .ref 3, .int b, .int i, .int e] [] v x ↔ if i ≤ e then x = vr 1 v else if 8 ≤ e then x = vr 1 v else if v.1 17 e.toNatClampNeg = 0 then if c_depends v b i e = 0 then vE 69 3 [.ref 15, .ref 3, .int b, .int i, .int (e + 1)] [] v x else x = vr 0 v else vE 69 3 [.ref 15, .ref 3, .int b, .int i, .int (e + 1)] [] v x := by
  rw [q69_3]
  simp only [q69_0, q69_1, q69_5, q69_6, q69_9, q69_11, q69_13, q69_16, q69_17, q69_20, q69_22, q69_23, q69_26, q69_27, q69_28, q69_29, q69_30, q69_32, q69_35, q69_38, q69_39, q69_43, q69_47, ct66, exists_eq_left, vB_r, vB_d, vB_a, vB_if, vm_eqif, vr_if, vd_if, Nat.reduceAdd, reduceIte, vm_10, vm_n0, ite_self, vm_mrg, vm_icons, vm_iint, qt69]
  try simp only [q69_0, q69_1, q69_5, q69_6, q69_9, q69_11, q69_13, q69_16, q69_17, q69_20, q69_22, q69_23, q69_26, q69_27, q69_28, q69_29, q69_30, q69_32, q69_35, q69_38, q69_39, q69_43, q69_47, q69_40, ct66, exists_eq_left, vB_r, vB_d, vB_a, vB_if, vm_eqif, vr_if, vd_if, Nat.reduceAdd, reduceIte, vm_10, vm_n0, ite_self, vm_mrg, vm_icons, vm_iint, qt69]
  try simp only [q69_0, q69_1, q69_5, q69_6, q69_9, q69_11, q69_13, q69_16, q69_17, q69_20, q69_22, q69_23, q69_26, q69_27, q69_28, q69_29, q69_30, q69_32, q69_35, q69_38, q69_39, q69_43, q69_47, q69_40, q69_46, ct66, exists_eq_left, vB_r, vB_d, vB_a, vB_if, vm_eqif, vr_if, vd_if, Nat.reduceAdd, reduceIte, vm_10, vm_n0, ite_self, vm_mrg, vm_icons, vm_iint, qt69]

def c_ifl (v : vm_V) (b : Int32) (i : Int32) : Nat → Int32 → Int32
  | 0, _ => 1
  | k + 1, e => if 8 ≤ e then 1 else if v.1 17 e.toNatClampNeg = 0 then if c_depends v b i e = 0 then c_ifl v b i k (e + 1) else 0 else c_ifl v b i k (e + 1)

theorem lp69_3 {b i : Int32} {v : vm_V} : ∀ (k : Nat) (e : Int32), ((i : Int32).toInt - e.toInt).toNat = k → (vE 69 3 [.ref 15, .ref 3, .int b, .int i, .int e] [] v x ↔ x = vr (c_ifl v b i k e) v)
  | 0, e, h => by
    rw [it69_3, if_pos (lc0 h)]
    try rw [ct_0]
    try exact Iff.rfl
  | k + 1, e, h => by
    have ih := lp69_3 (b := b) (i := i) (v := v) k (e + 1) (lcS h).2
    rw [it69_3, if_neg (lcS h).1]
    simp only [ih, vm_eqif, vr_if, vd_if, ct_s, ct_sd, c_ifl]

theorem lq69_3 {b i : Int32} {v : vm_V} {e : Int32} : vE 69 3 [.ref 15, .ref 3, .int b, .int i, .int e] [] v x ↔ x = vr (c_ifl v b i ((i : Int32).toInt - e.toInt).toNat e) v := lp69_3 _ _ rfl

def c_isFree (v : vm_V) (b : Int32) (i : Int32) : Int32 := c_ifl v b i ((i : Int32).toInt - (0 : Int32).toInt).toNat 0
theorem ct69 {b i : Int32} : vE 69 0 [.ref 15, .ref 3, .int b, .int i, .retAddr 0] [] v x ↔ x = vr (c_isFree v b i) v := by
  simp only [q69_0, q69_1, q69_5, q69_6, q69_9, q69_11, q69_13, q69_16, q69_17, q69_20, q69_22, q69_23, q69_26, q69_27, q69_28, q69_29, q69_30, q69_32, q69_35, q69_38, q69_39, q69_43, q69_47, ct66, exists_eq_left, vB_r, vB_d, vB_a, vB_if, vm_eqif, vr_if, vd_if, Nat.reduceAdd, reduceIte, vm_10, vm_n0, ite_self, vm_mrg, vm_icons, vm_iint, qt69, lq69_3, c_isFree]
  try simp only [q69_0, q69_1, q69_5, q69_6, q69_9, q69_11, q69_13, q69_16, q69_17, q69_20, q69_22, q69_23, q69_26, q69_27, q69_28, q69_29, q69_30, q69_32, q69_35, q69_38, q69_39, q69_43, q69_47, q69_40, ct66, exists_eq_left, vB_r, vB_d, vB_a, vB_if, vm_eqif, vr_if, vd_if, Nat.reduceAdd, reduceIte, vm_10, vm_n0, ite_self, vm_mrg, vm_icons, vm_iint, qt69, lq69_3, c_isFree]
  try simp only [q69_0, q69_1, q69_5, q69_6, q69_9, q69_11, q69_13, q69_16, q69_17, q69_20, q69_22, q69_23, q69_26, q69_27, q69_28, q69_29, q69_30, q69_32, q69_35, q69_38, q69_39, q69_43, q69_47, q69_40, q69_46, ct66, exists_eq_left, vB_r, vB_d, vB_a, vB_if, vm_eqif, vr_if, vd_if, Nat.reduceAdd, reduceIte, vm_10, vm_n0, ite_self, vm_mrg, vm_icons, vm_iint, qt69, lq69_3, c_isFree]

theorem it68_9 {b n bs bh i : Int32} : vE 68 9 [.ref 15, .ref 3, .int b, .int n, .int bs, .int bh, .int i] [] v x ↔ if n ≤ i then x = vr bs v else if 8 ≤ i then x = vr bs v else vE 68 9 [.ref 15, .ref 3, .int b, .int n, .int (if v.1 17 i.toNatClampNeg = 0 then if v.1 16 i.toNatClampNeg ≤ bh then bs else if c_isFree v b i = 0 then bs else i else bs), .int (if v.1 17 i.toNatClampNeg = 0 then if v.1 16 i.toNatClampNeg ≤ bh then bh else if c_isFree v b i = 0 then bh else v.1 16 i.toNatClampNeg else bh), .int (i + 1)] [] v x := by
  rw [q68_9]
  simp only [q68_0, q68_1, q68_3, q68_4, q68_6, q68_7, q68_11, q68_12, q68_15, q68_17, q68_19, q68_22, q68_23, q68_26, q68_28, q68_29, q68_32, q68_33, q68_36, q68_38, q68_39, q68_41, q68_44, q68_45, q68_46, q68_47, q68_49, q68_52, q68_55, q68_57, q68_59, q68_60, q68_63, q68_65, q68_66, q68_71, q68_76, ct69, exists_eq_left, vB_r, vB_d, vB_a, vB_if, vm_eqif, vr_if, vd_if, Nat.reduceAdd, reduceIte, vm_10, vm_n0, ite_self, vm_mrg, vm_icons, vm_iint, qt68]
  try simp only [q68_0, q68_1, q68_3, q68_4, q68_6, q68_7, q68_11, q68_12, q68_15, q68_17, q68_19, q68_22, q68_23, q68_26, q68_28, q68_29, q68_32, q68_33, q68_36, q68_38, q68_39, q68_41, q68_44, q68_45, q68_46, q68_47, q68_49, q68_52, q68_55, q68_57, q68_59, q68_60, q68_63, q68_65, q68_66, q68_71, q68_76, q68_68, ct69, exists_eq_left, vB_r, vB_d, vB_a, vB_if, vm_eqif, vr_if, vd_if, Nat.reduceAdd, reduceIte, vm_10, vm_n0, ite_self, vm_mrg, vm_icons, vm_iint, qt68]
  try simp only [q68_0, q68_1, q68_3, q68_4, q68_6, q68_7, q68_11, q68_12, q68_15, q68_17, q68_19, q68_22, q68_23, q68_26, q68_28, q68_29, q68_32, q68_33, q68_36, q68_38, q68_39, q68_41, q68_44, q68_45, q68_46, q68_47, q68_49, q68_52, q68_55, q68_57, q68_59, q68_60, q68_63, q68_65, q68_66, q68_71, q68_76, q68_68, q68_74, ct69, exists_eq_left, vB_r, vB_d, vB_a, vB_if, vm_eqif, vr_if, vd_if, Nat.reduceAdd, reduceIte, vm_10, vm_n0, ite_self, vm_mrg, vm_icons, vm_iint, qt68]

def c_fnl (v : vm_V) (b : Int32) (n : Int32) : Nat → Int32 → Int32 → Int32 → Int32
  | 0, _, bs, _ => bs
  | k + 1, i, bs, bh => if 8 ≤ i then bs else c_fnl v b n k (i + 1) (if v.1 17 i.toNatClampNeg = 0 then if v.1 16 i.toNatClampNeg ≤ bh then bs else if c_isFree v b i = 0 then bs else i else bs) (if v.1 17 i.toNatClampNeg = 0 then if v.1 16 i.toNatClampNeg ≤ bh then bh else if c_isFree v b i = 0 then bh else v.1 16 i.toNatClampNeg else bh)

theorem lp68_9 {b n : Int32} {v : vm_V} : ∀ (k : Nat) (i : Int32) (bs : Int32) (bh : Int32), ((n : Int32).toInt - i.toInt).toNat = k → (vE 68 9 [.ref 15, .ref 3, .int b, .int n, .int bs, .int bh, .int i] [] v x ↔ x = vr (c_fnl v b n k i bs bh) v)
  | 0, i, bs, bh, h => by
    rw [it68_9, if_pos (lc0 h)]
    try rw [ct_0]
    try exact Iff.rfl
  | k + 1, i, bs, bh, h => by
    have ih := fun bs' bh' => lp68_9 (b := b) (n := n) (v := v) k (i + 1) bs' bh' (lcS h).2
    rw [it68_9, if_neg (lcS h).1]
    simp only [ih, vm_eqif, vr_if, vd_if, ct_s, ct_sd, c_fnl]

theorem lq68_9 {b n : Int32} {v : vm_V} {i bs bh : Int32} : vE 68 9 [.ref 15, .ref 3, .int b, .int n, .int bs, .int bh, .int i] [] v x ↔ x = vr (c_fnl v b n ((n : Int32).toInt - i.toInt).toNat i bs bh) v := lp68_9 _ _ _ _ rfl

def c_findNext (v : vm_V) (b : Int32) (n : Int32) : Int32 := c_fnl v b n ((n : Int32).toInt - (0 : Int32).toInt).toNat 0 (-1) 0
theorem ct68 {b n : Int32} : vE 68 0 [.ref 15, .ref 3, .int b, .int n, .retAddr 0, .retAddr 0, .retAddr 0] [] v x ↔ x = vr (c_findNext v b n) v := by
  simp only [q68_0, q68_1, q68_3, q68_4, q68_6, q68_7, q68_11, q68_12, q68_15, q68_17, q68_19, q68_22, q68_23, q68_26, q68_28, q68_29, q68_32, q68_33, q68_36, q68_38, q68_39, q68_41, q68_44, q68_45, q68_46, q68_47, q68_49, q68_52, q68_55, q68_57, q68_59, q68_60, q68_63, q68_65, q68_66, q68_71, q68_76, ct69, exists_eq_left, vB_r, vB_d, vB_a, vB_if, vm_eqif, vr_if, vd_if, Nat.reduceAdd, reduceIte, vm_10, vm_n0, ite_self, vm_mrg, vm_icons, vm_iint, qt68, lq68_9, c_findNext]
  try simp only [q68_0, q68_1, q68_3, q68_4, q68_6, q68_7, q68_11, q68_12, q68_15, q68_17, q68_19, q68_22, q68_23, q68_26, q68_28, q68_29, q68_32, q68_33, q68_36, q68_38, q68_39, q68_41, q68_44, q68_45, q68_46, q68_47, q68_49, q68_52, q68_55, q68_57, q68_59, q68_60, q68_63, q68_65, q68_66, q68_71, q68_76, q68_68, ct69, exists_eq_left, vB_r, vB_d, vB_a, vB_if, vm_eqif, vr_if, vd_if, Nat.reduceAdd, reduceIte, vm_10, vm_n0, ite_self, vm_mrg, vm_icons, vm_iint, qt68, lq68_9, c_findNext]
  try simp only [q68_0, q68_1, q68_3, q68_4, q68_6, q68_7, q68_11, q68_12, q68_15, q68_17, q68_19, q68_22, q68_23, q68_26, q68_28, q68_29, q68_32, q68_33, q68_36, q68_38, q68_39, q68_41, q68_44, q68_45, q68_46, q68_47, q68_49, q68_52, q68_55, q68_57, q68_59, q68_60, q68_63, q68_65, q68_66, q68_71, q68_76, q68_68, q68_74, ct69, exists_eq_left, vB_r, vB_d, vB_a, vB_if, vm_eqif, vr_if, vd_if, Nat.reduceAdd, reduceIte, vm_10, vm_n0, ite_self, vm_mrg, vm_icons, vm_iint, qt68, lq68_9, c_findNext]

theorem it65_8 {b i n g j : Int32} : vE 65 8 [.ref 15, .ref 3, .int b, .int i, .int n, .int g, .int j] [] v x ↔ if n ≤ j then x = vr (g + (if c_codeAt v 3 b i 0 < 0 then 0 else if Int32.ofNat (v.2.2.2 1) ≤ c_codeAt v 3 b i 0 then 0 else v.1 1 (c_codeAt v 3 b i 0).toNatClampNeg)) v else if 8 ≤ j then x = vr (g + (if c_codeAt v 3 b i 0 < 0 then 0 else if Int32.ofNat (v.2.2.2 1) ≤ c_codeAt v 3 b i 0 then 0 else v.1 1 (c_codeAt v 3 b i 0).toNatClampNeg)) v else vE 65 8 [.ref 15, .ref 3, .int b, .int i, .int n, .int (if c_depends v b j i = 0 then g else c_max v g (v.1 16 j.toNatClampNeg)), .int (j + 1)] [] v x := by
  rw [q65_8]
  simp only [q65_0, q65_1, q65_3, q65_4, q65_5, q65_6, q65_10, q65_12, q65_15, q65_17, q65_19, q65_22, q65_23, q65_24, q65_25, q65_27, q65_28, q65_31, q65_34, q65_36, q65_37, q65_40, q65_42, q65_43, q65_46, q65_51, q65_55, q65_56, q65_57, q65_58, q65_61, q65_63, q65_65, q65_67, q65_70, q65_72, q65_75, q65_76, q65_79, q65_82, q65_84, q65_85, q65_90, ct66, ct67, ct47, exists_eq_left, vB_r, vB_d, vB_a, vB_if, vm_eqif, vr_if, vd_if, Nat.reduceAdd, reduceIte, vm_10, vm_n0, ite_self, vm_mrg, vm_icons, vm_iint, qt65]
  try simp only [q65_0, q65_1, q65_3, q65_4, q65_5, q65_6, q65_10, q65_12, q65_15, q65_17, q65_19, q65_22, q65_23, q65_24, q65_25, q65_27, q65_28, q65_31, q65_34, q65_36, q65_37, q65_40, q65_42, q65_43, q65_46, q65_51, q65_55, q65_56, q65_57, q65_58, q65_61, q65_63, q65_65, q65_67, q65_70, q65_72, q65_75, q65_76, q65_79, q65_82, q65_84, q65_85, q65_90, q65_48, ct66, ct67, ct47, exists_eq_left, vB_r, vB_d, vB_a, vB_if, vm_eqif, vr_if, vd_if, Nat.reduceAdd, reduceIte, vm_10, vm_n0, ite_self, vm_mrg, vm_icons, vm_iint, qt65]
  try simp only [q65_0, q65_1, q65_3, q65_4, q65_5, q65_6, q65_10, q65_12, q65_15, q65_17, q65_19, q65_22, q65_23, q65_24, q65_25, q65_27, q65_28, q65_31, q65_34, q65_36, q65_37, q65_40, q65_42, q65_43, q65_46, q65_51, q65_55, q65_56, q65_57, q65_58, q65_61, q65_63, q65_65, q65_67, q65_70, q65_72, q65_75, q65_76, q65_79, q65_82, q65_84, q65_85, q65_90, q65_48, q65_54, ct66, ct67, ct47, exists_eq_left, vB_r, vB_d, vB_a, vB_if, vm_eqif, vr_if, vd_if, Nat.reduceAdd, reduceIte, vm_10, vm_n0, ite_self, vm_mrg, vm_icons, vm_iint, qt65]
  try simp only [q65_0, q65_1, q65_3, q65_4, q65_5, q65_6, q65_10, q65_12, q65_15, q65_17, q65_19, q65_22, q65_23, q65_24, q65_25, q65_27, q65_28, q65_31, q65_34, q65_36, q65_37, q65_40, q65_42, q65_43, q65_46, q65_51, q65_55, q65_56, q65_57, q65_58, q65_61, q65_63, q65_65, q65_67, q65_70, q65_72, q65_75, q65_76, q65_79, q65_82, q65_84, q65_85, q65_90, q65_48, q65_54, q65_88, ct66, ct67, ct47, exists_eq_left, vB_r, vB_d, vB_a, vB_if, vm_eqif, vr_if, vd_if, Nat.reduceAdd, reduceIte, vm_10, vm_n0, ite_self, vm_mrg, vm_icons, vm_iint, qt65]
  try simp only [q65_0, q65_1, q65_3, q65_4, q65_5, q65_6, q65_10, q65_12, q65_15, q65_17, q65_19, q65_22, q65_23, q65_24, q65_25, q65_27, q65_28, q65_31, q65_34, q65_36, q65_37, q65_40, q65_42, q65_43, q65_46, q65_51, q65_55, q65_56, q65_57, q65_58, q65_61, q65_63, q65_65, q65_67, q65_70, q65_72, q65_75, q65_76, q65_79, q65_82, q65_84, q65_85, q65_90, q65_48, q65_54, q65_88, q65_89, ct66, ct67, ct47, exists_eq_left, vB_r, vB_d, vB_a, vB_if, vm_eqif, vr_if, vd_if, Nat.reduceAdd, reduceIte, vm_10, vm_n0, ite_self, vm_mrg, vm_icons, vm_iint, qt65]

def c_htl (v : vm_V) (b : Int32) (i : Int32) (n : Int32) : Nat → Int32 → Int32 → Int32
  | 0, _, g => g + (if c_codeAt v 3 b i 0 < 0 then 0 else if Int32.ofNat (v.2.2.2 1) ≤ c_codeAt v 3 b i 0 then 0 else v.1 1 (c_codeAt v 3 b i 0).toNatClampNeg)
  | k + 1, j, g => if 8 ≤ j then g + (if c_codeAt v 3 b i 0 < 0 then 0 else if Int32.ofNat (v.2.2.2 1) ≤ c_codeAt v 3 b i 0 then 0 else v.1 1 (c_codeAt v 3 b i 0).toNatClampNeg) else c_htl v b i n k (j + 1) (if c_depends v b j i = 0 then g else c_max v g (v.1 16 j.toNatClampNeg))

theorem lp65_8 {b i n : Int32} {v : vm_V} : ∀ (k : Nat) (j : Int32) (g : Int32), ((n : Int32).toInt - j.toInt).toNat = k → (vE 65 8 [.ref 15, .ref 3, .int b, .int i, .int n, .int g, .int j] [] v x ↔ x = vr (c_htl v b i n k j g) v)
  | 0, j, g, h => by
    rw [it65_8, if_pos (lc0 h)]
    try rw [ct_0]
    try exact Iff.rfl
  | k + 1, j, g, h => by
    have ih := fun g' => lp65_8 (b := b) (i := i) (n := n) (v := v) k (j + 1) g' (lcS h).2
    rw [it65_8, if_neg (lcS h).1]
    simp only [ih, vm_eqif, vr_if, vd_if, ct_s, ct_sd, c_htl]

theorem lq65_8 {b i n : Int32} {v : vm_V} {j g : Int32} : vE 65 8 [.ref 15, .ref 3, .int b, .int i, .int n, .int g, .int j] [] v x ↔ x = vr (c_htl v b i n ((n : Int32).toInt - j.toInt).toNat j g) v := lp65_8 _ _ _ rfl

def c_heightOf (v : vm_V) (b : Int32) (i : Int32) (n : Int32) : Int32 := c_htl v b i n ((n : Int32).toInt - (i + 1 : Int32).toInt).toNat (i + 1) 0
theorem ct65 {b i n : Int32} : vE 65 0 [.ref 15, .ref 3, .int b, .int i, .int n, .retAddr 0, .retAddr 0] [] v x ↔ x = vr (c_heightOf v b i n) v := by
  simp only [q65_0, q65_1, q65_3, q65_4, q65_5, q65_6, q65_10, q65_12, q65_15, q65_17, q65_19, q65_22, q65_23, q65_24, q65_25, q65_27, q65_28, q65_31, q65_34, q65_36, q65_37, q65_40, q65_42, q65_43, q65_46, q65_51, q65_55, q65_56, q65_57, q65_58, q65_61, q65_63, q65_65, q65_67, q65_70, q65_72, q65_75, q65_76, q65_79, q65_82, q65_84, q65_85, q65_90, ct66, ct67, ct47, exists_eq_left, vB_r, vB_d, vB_a, vB_if, vm_eqif, vr_if, vd_if, Nat.reduceAdd, reduceIte, vm_10, vm_n0, ite_self, vm_mrg, vm_icons, vm_iint, qt65, lq65_8, c_heightOf]
  try simp only [q65_0, q65_1, q65_3, q65_4, q65_5, q65_6, q65_10, q65_12, q65_15, q65_17, q65_19, q65_22, q65_23, q65_24, q65_25, q65_27, q65_28, q65_31, q65_34, q65_36, q65_37, q65_40, q65_42, q65_43, q65_46, q65_51, q65_55, q65_56, q65_57, q65_58, q65_61, q65_63, q65_65, q65_67, q65_70, q65_72, q65_75, q65_76, q65_79, q65_82, q65_84, q65_85, q65_90, q65_48, ct66, ct67, ct47, exists_eq_left, vB_r, vB_d, vB_a, vB_if, vm_eqif, vr_if, vd_if, Nat.reduceAdd, reduceIte, vm_10, vm_n0, ite_self, vm_mrg, vm_icons, vm_iint, qt65, lq65_8, c_heightOf]
  try simp only [q65_0, q65_1, q65_3, q65_4, q65_5, q65_6, q65_10, q65_12, q65_15, q65_17, q65_19, q65_22, q65_23, q65_24, q65_25, q65_27, q65_28, q65_31, q65_34, q65_36, q65_37, q65_40, q65_42, q65_43, q65_46, q65_51, q65_55, q65_56, q65_57, q65_58, q65_61, q65_63, q65_65, q65_67, q65_70, q65_72, q65_75, q65_76, q65_79, q65_82, q65_84, q65_85, q65_90, q65_48, q65_54, ct66, ct67, ct47, exists_eq_left, vB_r, vB_d, vB_a, vB_if, vm_eqif, vr_if, vd_if, Nat.reduceAdd, reduceIte, vm_10, vm_n0, ite_self, vm_mrg, vm_icons, vm_iint, qt65, lq65_8, c_heightOf]
  try simp only [q65_0, q65_1, q65_3, q65_4, q65_5, q65_6, q65_10, q65_12, q65_15, q65_17, q65_19, q65_22, q65_23, q65_24, q65_25, q65_27, q65_28, q65_31, q65_34, q65_36, q65_37, q65_40, q65_42, q65_43, q65_46, q65_51, q65_55, q65_56, q65_57, q65_58, q65_61, q65_63, q65_65, q65_67, q65_70, q65_72, q65_75, q65_76, q65_79, q65_82, q65_84, q65_85, q65_90, q65_48, q65_54, q65_88, ct66, ct67, ct47, exists_eq_left, vB_r, vB_d, vB_a, vB_if, vm_eqif, vr_if, vd_if, Nat.reduceAdd, reduceIte, vm_10, vm_n0, ite_self, vm_mrg, vm_icons, vm_iint, qt65, lq65_8, c_heightOf]
  try simp only [q65_0, q65_1, q65_3, q65_4, q65_5, q65_6, q65_10, q65_12, q65_15, q65_17, q65_19, q65_22, q65_23, q65_24, q65_25, q65_27, q65_28, q65_31, q65_34, q65_36, q65_37, q65_40, q65_42, q65_43, q65_46, q65_51, q65_55, q65_56, q65_57, q65_58, q65_61, q65_63, q65_65, q65_67, q65_70, q65_72, q65_75, q65_76, q65_79, q65_82, q65_84, q65_85, q65_90, q65_48, q65_54, q65_88, q65_89, ct66, ct67, ct47, exists_eq_left, vB_r, vB_d, vB_a, vB_if, vm_eqif, vr_if, vd_if, Nat.reduceAdd, reduceIte, vm_10, vm_n0, ite_self, vm_mrg, vm_icons, vm_iint, qt65, lq65_8, c_heightOf]

theorem it63_57 {b n i : Int32} {l6 : Value} : vE 63 57 [.ref 15, .ref 3, .ref 7, .int b, .int n, .int i, l6] [] v x ↔ if n ≤ i then x = vd v else if c_findNext v b n < 0 then vE 63 57 [.ref 15, .ref 3, .ref 7, .int b, .int n, .int (i + 1), .int (c_findNext v b n)] [] v x else if 8 ≤ c_findNext v b n then vE 63 57 [.ref 15, .ref 3, .ref 7, .int b, .int n, .int (i + 1), .int (c_findNext v b n)] [] v x else vE 63 57 [.ref 15, .ref 3, .ref 7, .int b, .int n, .int (i + 1), .int (c_findNext v b n)] [] (c_setCode (vm_si v 17 (c_findNext v b n).toNatClampNeg (1 &&& 1)) 7 b i (c_codeAt (vm_si v 17 (c_findNext v b n).toNatClampNeg (1 &&& 1)) 3 b (c_findNext v b n) 0) (c_codeAt (vm_si v 17 (c_findNext v b n).toNatClampNeg (1 &&& 1)) 3 b (c_findNext v b n) 1) (c_codeAt (vm_si v 17 (c_findNext v b n).toNatClampNeg (1 &&& 1)) 3 b (c_findNext v b n) 2) (c_codeAt (vm_si v 17 (c_findNext v b n).toNatClampNeg (1 &&& 1)) 3 b (c_findNext v b n) 3)) x := by
  rw [q63_57]
  simp only [q63_0, q63_1, q63_2, q63_5, q63_7, q63_10, q63_12, q63_14, q63_15, q63_16, q63_20, q63_23, q63_24, q63_27, q63_29, q63_30, q63_31, q63_32, q63_35, q63_37, q63_38, q63_39, q63_40, q63_42, q63_44, q63_47, q63_48, q63_51, q63_54, q63_55, q63_59, q63_61, q63_64, q63_65, q63_66, q63_67, q63_69, q63_72, q63_74, q63_76, q63_79, q63_81, q63_83, q63_86, q63_87, q63_90, q63_92, q63_93, q63_94, q63_95, q63_96, q63_98, q63_99, q63_100, q63_102, q63_103, q63_106, q63_107, q63_108, q63_110, q63_111, q63_114, q63_115, q63_116, q63_118, q63_119, q63_122, q63_123, q63_124, q63_126, q63_127, q63_130, q63_136, q63_139, ct31, ct64, ct65, ct68, ct47, ct33, exists_eq_left, vB_r, vB_d, vB_a, vB_if, vm_eqif, vr_if, vd_if, Nat.reduceAdd, reduceIte, vm_10, vm_n0, ite_self, vm_mrg, vm_icons, vm_iint, qt63]
  try simp only [q63_0, q63_1, q63_2, q63_5, q63_7, q63_10, q63_12, q63_14, q63_15, q63_16, q63_20, q63_23, q63_24, q63_27, q63_29, q63_30, q63_31, q63_32, q63_35, q63_37, q63_38, q63_39, q63_40, q63_42, q63_44, q63_47, q63_48, q63_51, q63_54, q63_55, q63_59, q63_61, q63_64, q63_65, q63_66, q63_67, q63_69, q63_72, q63_74, q63_76, q63_79, q63_81, q63_83, q63_86, q63_87, q63_90, q63_92, q63_93, q63_94, q63_95, q63_96, q63_98, q63_99, q63_100, q63_102, q63_103, q63_106, q63_107, q63_108, q63_110, q63_111, q63_114, q63_115, q63_116, q63_118, q63_119, q63_122, q63_123, q63_124, q63_126, q63_127, q63_130, q63_136, q63_139, q63_133, ct31, ct64, ct65, ct68, ct47, ct33, exists_eq_left, vB_r, vB_d, vB_a, vB_if, vm_eqif, vr_if, vd_if, Nat.reduceAdd, reduceIte, vm_10, vm_n0, ite_self, vm_mrg, vm_icons, vm_iint, qt63]

def c_orl (b : Int32) (n : Int32) : Nat → Int32 → vm_V → vm_V
  | 0, _, v => v
  | k + 1, i, v => if c_findNext v b n < 0 then c_orl b n k (i + 1) v else if 8 ≤ c_findNext v b n then c_orl b n k (i + 1) v else c_orl b n k (i + 1) (c_setCode (vm_si v 17 (c_findNext v b n).toNatClampNeg (1 &&& 1)) 7 b i (c_codeAt (vm_si v 17 (c_findNext v b n).toNatClampNeg (1 &&& 1)) 3 b (c_findNext v b n) 0) (c_codeAt (vm_si v 17 (c_findNext v b n).toNatClampNeg (1 &&& 1)) 3 b (c_findNext v b n) 1) (c_codeAt (vm_si v 17 (c_findNext v b n).toNatClampNeg (1 &&& 1)) 3 b (c_findNext v b n) 2) (c_codeAt (vm_si v 17 (c_findNext v b n).toNatClampNeg (1 &&& 1)) 3 b (c_findNext v b n) 3))

theorem lp63_57 {b n : Int32} : ∀ (k : Nat) (i : Int32) (l6 : Value) (v : vm_V), ((n : Int32).toInt - i.toInt).toNat = k → (vE 63 57 [.ref 15, .ref 3, .ref 7, .int b, .int n, .int i, l6] [] v x ↔ x = vd (c_orl b n k i v))
  | 0, i, l6, v, h => by
    rw [it63_57, if_pos (lc0 h)]
    try rw [ct_0]
    try exact Iff.rfl
  | k + 1, i, l6, v, h => by
    have ih := fun l6' v' => lp63_57 (b := b) (n := n) k (i + 1) l6' v' (lcS h).2
    rw [it63_57, if_neg (lcS h).1]
    simp only [ih, vm_eqif, vr_if, vd_if, ct_s, ct_sd, c_orl]

theorem lq63_57 {b n : Int32} {v : vm_V} {i : Int32} {l6 : Value} : vE 63 57 [.ref 15, .ref 3, .ref 7, .int b, .int n, .int i, l6] [] v x ↔ x = vd (c_orl b n ((n : Int32).toInt - i.toInt).toNat i v) := lp63_57 _ _ _ _ rfl

theorem it63_18 {b n i : Int32} {l6 : Value} : vE 63 18 [.ref 15, .ref 3, .ref 7, .int b, .int n, .int i, l6] [] v x ↔ if i < 0 then vE 63 57 [.ref 15, .ref 3, .ref 7, .int b, .int n, .int 0, l6] [] v x else vE 63 18 [.ref 15, .ref 3, .ref 7, .int b, .int n, .int (i + (-1)), l6] [] (vm_si (vm_si v 17 i.toNatClampNeg (0 &&& 1)) 16 i.toNatClampNeg (c_heightOf (vm_si v 17 i.toNatClampNeg (0 &&& 1)) b i n)) x := by
  rw [q63_18]
  simp only [q63_0, q63_1, q63_2, q63_5, q63_7, q63_10, q63_12, q63_14, q63_15, q63_16, q63_20, q63_23, q63_24, q63_27, q63_29, q63_30, q63_31, q63_32, q63_35, q63_37, q63_38, q63_39, q63_40, q63_42, q63_44, q63_47, q63_48, q63_51, q63_54, q63_55, q63_59, q63_61, q63_64, q63_65, q63_66, q63_67, q63_69, q63_72, q63_74, q63_76, q63_79, q63_81, q63_83, q63_86, q63_87, q63_90, q63_92, q63_93, q63_94, q63_95, q63_96, q63_98, q63_99, q63_100, q63_102, q63_103, q63_106, q63_107, q63_108, q63_110, q63_111, q63_114, q63_115, q63_116, q63_118, q63_119, q63_122, q63_123, q63_124, q63_126, q63_127, q63_130, q63_136, q63_139, ct31, ct64, ct65, ct68, ct47, ct33, exists_eq_left, vB_r, vB_d, vB_a, vB_if, vm_eqif, vr_if, vd_if, Nat.reduceAdd, reduceIte, vm_10, vm_n0, ite_self, vm_mrg, vm_icons, vm_iint, qt63]
  try simp only [q63_0, q63_1, q63_2, q63_5, q63_7, q63_10, q63_12, q63_14, q63_15, q63_16, q63_20, q63_23, q63_24, q63_27, q63_29, q63_30, q63_31, q63_32, q63_35, q63_37, q63_38, q63_39, q63_40, q63_42, q63_44, q63_47, q63_48, q63_51, q63_54, q63_55, q63_59, q63_61, q63_64, q63_65, q63_66, q63_67, q63_69, q63_72, q63_74, q63_76, q63_79, q63_81, q63_83, q63_86, q63_87, q63_90, q63_92, q63_93, q63_94, q63_95, q63_96, q63_98, q63_99, q63_100, q63_102, q63_103, q63_106, q63_107, q63_108, q63_110, q63_111, q63_114, q63_115, q63_116, q63_118, q63_119, q63_122, q63_123, q63_124, q63_126, q63_127, q63_130, q63_136, q63_139, q63_133, ct31, ct64, ct65, ct68, ct47, ct33, exists_eq_left, vB_r, vB_d, vB_a, vB_if, vm_eqif, vr_if, vd_if, Nat.reduceAdd, reduceIte, vm_10, vm_n0, ite_self, vm_mrg, vm_icons, vm_iint, qt63]

def c_ohl (b : Int32) (n : Int32) : Nat → Int32 → vm_V → vm_V
  | 0, _, v => v
  | k + 1, i, v => c_ohl b n k (i + (-1)) (vm_si (vm_si v 17 i.toNatClampNeg (0 &&& 1)) 16 i.toNatClampNeg (c_heightOf (vm_si v 17 i.toNatClampNeg (0 &&& 1)) b i n))

theorem lp63_18 {b n : Int32} : ∀ (k : Nat) (i : Int32) (l6 : Value) (v : vm_V), (i.toInt + 1).toNat = k → (vE 63 18 [.ref 15, .ref 3, .ref 7, .int b, .int n, .int i, l6] [] v x ↔ vE 63 57 [.ref 15, .ref 3, .ref 7, .int b, .int n, .int 0, l6] [] (c_ohl b n k i v) x)
  | 0, i, l6, v, h => by
    rw [it63_18, if_pos (ld0 h)]
    try rw [ct_0d]
    try exact Iff.rfl
  | k + 1, i, l6, v, h => by
    have ih := fun l6' v' => lp63_18 (b := b) (n := n) k (i + (-1)) l6' v' (ldS h).2
    rw [it63_18, if_neg (ldS h).1]
    simp only [ih, vm_eqif, vr_if, vd_if, ct_s, ct_sd, c_ohl]

theorem lq63_18 {b n : Int32} {v : vm_V} {i : Int32} {l6 : Value} : vE 63 18 [.ref 15, .ref 3, .ref 7, .int b, .int n, .int i, l6] [] v x ↔ vE 63 57 [.ref 15, .ref 3, .ref 7, .int b, .int n, .int 0, l6] [] (c_ohl b n (i.toInt + 1).toNat i v) x := lp63_18 _ _ _ _ rfl

def c_order (v : vm_V) (b : Int32) : vm_V := c_orl b (c_min v (c_lengthOf v 3 b) 8) (((c_min v (c_lengthOf v 3 b) 8) : Int32).toInt - (0 : Int32).toInt).toNat 0 (c_ohl b (c_min v (c_lengthOf v 3 b) 8) (((c_min v (c_lengthOf v 3 b) 8) - 1 : Int32).toInt + 1).toNat ((c_min v (c_lengthOf v 3 b) 8) - 1) v)
theorem ct63 {b : Int32} : vE 63 0 [.ref 15, .ref 3, .ref 7, .int b, .retAddr 0, .retAddr 0, .retAddr 0] [] v x ↔ x = vd (c_order v b) := by
  simp only [q63_0, q63_1, q63_2, q63_5, q63_7, q63_10, q63_12, q63_14, q63_15, q63_16, q63_20, q63_23, q63_24, q63_27, q63_29, q63_30, q63_31, q63_32, q63_35, q63_37, q63_38, q63_39, q63_40, q63_42, q63_44, q63_47, q63_48, q63_51, q63_54, q63_55, q63_59, q63_61, q63_64, q63_65, q63_66, q63_67, q63_69, q63_72, q63_74, q63_76, q63_79, q63_81, q63_83, q63_86, q63_87, q63_90, q63_92, q63_93, q63_94, q63_95, q63_96, q63_98, q63_99, q63_100, q63_102, q63_103, q63_106, q63_107, q63_108, q63_110, q63_111, q63_114, q63_115, q63_116, q63_118, q63_119, q63_122, q63_123, q63_124, q63_126, q63_127, q63_130, q63_136, q63_139, ct31, ct64, ct65, ct68, ct47, ct33, exists_eq_left, vB_r, vB_d, vB_a, vB_if, vm_eqif, vr_if, vd_if, Nat.reduceAdd, reduceIte, vm_10, vm_n0, ite_self, vm_mrg, vm_icons, vm_iint, qt63, lq63_18, lq63_57, c_order]
  try simp only [q63_0, q63_1, q63_2, q63_5, q63_7, q63_10, q63_12, q63_14, q63_15, q63_16, q63_20, q63_23, q63_24, q63_27, q63_29, q63_30, q63_31, q63_32, q63_35, q63_37, q63_38, q63_39, q63_40, q63_42, q63_44, q63_47, q63_48, q63_51, q63_54, q63_55, q63_59, q63_61, q63_64, q63_65, q63_66, q63_67, q63_69, q63_72, q63_74, q63_76, q63_79, q63_81, q63_83, q63_86, q63_87, q63_90, q63_92, q63_93, q63_94, q63_95, q63_96, q63_98, q63_99, q63_100, q63_102, q63_103, q63_106, q63_107, q63_108, q63_110, q63_111, q63_114, q63_115, q63_116, q63_118, q63_119, q63_122, q63_123, q63_124, q63_126, q63_127, q63_130, q63_136, q63_139, q63_133, ct31, ct64, ct65, ct68, ct47, ct33, exists_eq_left, vB_r, vB_d, vB_a, vB_if, vm_eqif, vr_if, vd_if, Nat.reduceAdd, reduceIte, vm_10, vm_n0, ite_self, vm_mrg, vm_icons, vm_iint, qt63, lq63_18, lq63_57, c_order]

theorem it71_3 {b i w : Int32} {p q : Nat} : vE 71 3 [.ref p, .ref q, .int b, .int i, .int w] [] v x ↔ if 4 ≤ w then x = vr 0 v else if c_codeAt v p b i w = c_codeAt v q b i w then vE 71 3 [.ref p, .ref q, .int b, .int i, .int (w + 1)] [] v x else x = vr 1 v := by
  rw [q71_3]
  simp only [q71_0, q71_1, q71_5, q71_6, q71_9, q71_10, q71_11, q71_12, q71_14, q71_17, q71_18, q71_19, q71_20, q71_22, q71_25, q71_28, q71_29, q71_30, q71_33, q71_36, q71_37, ct47, exists_eq_left, vB_r, vB_d, vB_a, vB_if, vm_eqif, vr_if, vd_if, Nat.reduceAdd, reduceIte, vm_10, vm_n0, ite_self, vm_mrg, vm_icons, vm_iint, qt71]

def c_hol (v : vm_V) (b : Int32) (i : Int32) (p : Nat) (q : Nat) : Nat → Int32 → Int32
  | 0, _ => 0
  | k + 1, w => if c_codeAt v p b i w = c_codeAt v q b i w then c_hol v b i p q k (w + 1) else 1

theorem lp71_3 {b i : Int32} {p q : Nat} {v : vm_V} : ∀ (k : Nat) (w : Int32), ((4 : Int32).toInt - w.toInt).toNat = k → (vE 71 3 [.ref p, .ref q, .int b, .int i, .int w] [] v x ↔ x = vr (c_hol v b i p q k w) v)
  | 0, w, h => by
    rw [it71_3, if_pos (lc0 h)]
    try rw [ct_0]
    try exact Iff.rfl
  | k + 1, w, h => by
    have ih := lp71_3 (b := b) (i := i) (p := p) (q := q) (v := v) k (w + 1) (lcS h).2
    rw [it71_3, if_neg (lcS h).1]
    simp only [ih, vm_eqif, vr_if, vd_if, ct_s, ct_sd, c_hol]

theorem lq71_3 {b i : Int32} {p q : Nat} {v : vm_V} {w : Int32} : vE 71 3 [.ref p, .ref q, .int b, .int i, .int w] [] v x ↔ x = vr (c_hol v b i p q ((4 : Int32).toInt - w.toInt).toNat w) v := lp71_3 _ _ rfl

def c_otherCode (v : vm_V) (p : Nat) (q : Nat) (b : Int32) (i : Int32) : Int32 := c_hol v b i p q ((4 : Int32).toInt - (0 : Int32).toInt).toNat 0
theorem ct71 {b i : Int32} {p q : Nat} : vE 71 0 [.ref p, .ref q, .int b, .int i, .retAddr 0] [] v x ↔ x = vr (c_otherCode v p q b i) v := by
  simp only [q71_0, q71_1, q71_5, q71_6, q71_9, q71_10, q71_11, q71_12, q71_14, q71_17, q71_18, q71_19, q71_20, q71_22, q71_25, q71_28, q71_29, q71_30, q71_33, q71_36, q71_37, ct47, exists_eq_left, vB_r, vB_d, vB_a, vB_if, vm_eqif, vr_if, vd_if, Nat.reduceAdd, reduceIte, vm_10, vm_n0, ite_self, vm_mrg, vm_icons, vm_iint, qt71, lq71_3, c_otherCode]

theorem it72_2 {b w : Int32} {p q : Nat} : vE 72 2 [.ref p, .ref q, .int b, .int w] [] v x ↔ if 4 ≤ w then x = vr 0 v else if c_endAt v p b w = c_endAt v q b w then vE 72 2 [.ref p, .ref q, .int b, .int (w + 1)] [] v x else x = vr 1 v := by
  rw [q72_2]
  simp only [q72_0, q72_1, q72_3, q72_4, q72_7, q72_8, q72_9, q72_10, q72_13, q72_14, q72_15, q72_16, q72_19, q72_22, q72_23, q72_24, q72_27, q72_30, q72_31, ct56, exists_eq_left, vB_r, vB_d, vB_a, vB_if, vm_eqif, vr_if, vd_if, Nat.reduceAdd, reduceIte, vm_10, vm_n0, ite_self, vm_mrg, vm_icons, vm_iint, qt72]

def c_hel (v : vm_V) (b : Int32) (p : Nat) (q : Nat) : Nat → Int32 → Int32
  | 0, _ => 0
  | k + 1, w => if c_endAt v p b w = c_endAt v q b w then c_hel v b p q k (w + 1) else 1

theorem lp72_2 {b : Int32} {p q : Nat} {v : vm_V} : ∀ (k : Nat) (w : Int32), ((4 : Int32).toInt - w.toInt).toNat = k → (vE 72 2 [.ref p, .ref q, .int b, .int w] [] v x ↔ x = vr (c_hel v b p q k w) v)
  | 0, w, h => by
    rw [it72_2, if_pos (lc0 h)]
    try rw [ct_0]
    try exact Iff.rfl
  | k + 1, w, h => by
    have ih := lp72_2 (b := b) (p := p) (q := q) (v := v) k (w + 1) (lcS h).2
    rw [it72_2, if_neg (lcS h).1]
    simp only [ih, vm_eqif, vr_if, vd_if, ct_s, ct_sd, c_hel]

theorem lq72_2 {b : Int32} {p q : Nat} {v : vm_V} {w : Int32} : vE 72 2 [.ref p, .ref q, .int b, .int w] [] v x ↔ x = vr (c_hel v b p q ((4 : Int32).toInt - w.toInt).toNat w) v := lp72_2 _ _ rfl

def c_otherEnd (v : vm_V) (p : Nat) (q : Nat) (b : Int32) : Int32 := c_hel v b p q ((4 : Int32).toInt - (0 : Int32).toInt).toNat 0
theorem ct72 {b : Int32} {p q : Nat} : vE 72 0 [.ref p, .ref q, .int b, .retAddr 0] [] v x ↔ x = vr (c_otherEnd v p q b) v := by
  simp only [q72_0, q72_1, q72_3, q72_4, q72_7, q72_8, q72_9, q72_10, q72_13, q72_14, q72_15, q72_16, q72_19, q72_22, q72_23, q72_24, q72_27, q72_30, q72_31, ct56, exists_eq_left, vB_r, vB_d, vB_a, vB_if, vm_eqif, vr_if, vd_if, Nat.reduceAdd, reduceIte, vm_10, vm_n0, ite_self, vm_mrg, vm_icons, vm_iint, qt72, lq72_2, c_otherEnd]

theorem it70_22 {df b n i : Int32} : vE 70 22 [.ref 7, .ref 3, .int df, .int b, .int n, .int i] [] v x ↔ if n ≤ i then vE 70 4 [.ref 7, .ref 3, .int (if c_otherEnd v 7 3 b = 0 then df else df + 1), .int (b + 1), .int n, .int i] [] v x else vE 70 22 [.ref 7, .ref 3, .int (if c_otherCode v 7 3 b i = 0 then df else df + 1), .int b, .int n, .int (i + 1)] [] v x := by
  rw [q70_22]
  simp only [q70_0, q70_1, q70_2, q70_3, q70_5, q70_6, q70_9, q70_12, q70_13, q70_14, q70_17, q70_19, q70_20, q70_24, q70_26, q70_29, q70_30, q70_31, q70_32, q70_34, q70_37, q70_40, q70_46, q70_49, q70_50, q70_51, q70_52, q70_55, q70_58, q70_64, q70_67, q70_68, ct31, ct71, ct72, exists_eq_left, vB_r, vB_d, vB_a, vB_if, vm_eqif, vr_if, vd_if, Nat.reduceAdd, reduceIte, vm_10, vm_n0, ite_self, vm_mrg, vm_icons, vm_iint, qt70]
  try simp only [q70_0, q70_1, q70_2, q70_3, q70_5, q70_6, q70_9, q70_12, q70_13, q70_14, q70_17, q70_19, q70_20, q70_24, q70_26, q70_29, q70_30, q70_31, q70_32, q70_34, q70_37, q70_40, q70_46, q70_49, q70_50, q70_51, q70_52, q70_55, q70_58, q70_64, q70_67, q70_68, q70_43, ct31, ct71, ct72, exists_eq_left, vB_r, vB_d, vB_a, vB_if, vm_eqif, vr_if, vd_if, Nat.reduceAdd, reduceIte, vm_10, vm_n0, ite_self, vm_mrg, vm_icons, vm_iint, qt70]
  try simp only [q70_0, q70_1, q70_2, q70_3, q70_5, q70_6, q70_9, q70_12, q70_13, q70_14, q70_17, q70_19, q70_20, q70_24, q70_26, q70_29, q70_30, q70_31, q70_32, q70_34, q70_37, q70_40, q70_46, q70_49, q70_50, q70_51, q70_52, q70_55, q70_58, q70_64, q70_67, q70_68, q70_43, q70_61, ct31, ct71, ct72, exists_eq_left, vB_r, vB_d, vB_a, vB_if, vm_eqif, vr_if, vd_if, Nat.reduceAdd, reduceIte, vm_10, vm_n0, ite_self, vm_mrg, vm_icons, vm_iint, qt70]

def c_dfi (v : vm_V) (b : Int32) (n : Int32) : Nat → Int32 → Int32 → Int32
  | 0, _, df => df
  | k + 1, i, df => c_dfi v b n k (i + 1) (if c_otherCode v 7 3 b i = 0 then df else df + 1)

theorem lp70_22 {b n : Int32} {v : vm_V} : ∀ (k : Nat) (i : Int32) (df : Int32), ((n : Int32).toInt - i.toInt).toNat = k → (vE 70 22 [.ref 7, .ref 3, .int df, .int b, .int n, .int i] [] v x ↔ vE 70 4 [.ref 7, .ref 3, .int (if c_otherEnd v 7 3 b = 0 then c_dfi v b n k i df else (c_dfi v b n k i df) + 1), .int (b + 1), .int n, .int (i + Int32.ofNat k)] [] v x)
  | 0, i, df, h => by
    rw [it70_22, if_pos (lc0 h)]
    try rw [ct_0]
    try exact Iff.rfl
  | k + 1, i, df, h => by
    have ih := fun df' => lp70_22 (b := b) (n := n) (v := v) k (i + 1) df' (lcS h).2
    rw [it70_22, if_neg (lcS h).1]
    simp only [ih, vm_eqif, vr_if, vd_if, ct_s, ct_sd, c_dfi]

theorem lq70_22 {b n : Int32} {v : vm_V} {i df : Int32} : vE 70 22 [.ref 7, .ref 3, .int df, .int b, .int n, .int i] [] v x ↔ vE 70 4 [.ref 7, .ref 3, .int (if c_otherEnd v 7 3 b = 0 then c_dfi v b n ((n : Int32).toInt - i.toInt).toNat i df else (c_dfi v b n ((n : Int32).toInt - i.toInt).toNat i df) + 1), .int (b + 1), .int n, .int (i + Int32.ofNat ((n : Int32).toInt - i.toInt).toNat)] [] v x := lp70_22 _ _ _ rfl

theorem it70_4 {df b : Int32} {l4 l5 : Value} : vE 70 4 [.ref 7, .ref 3, .int df, .int b, l4, l5] [] v x ↔ if v.1 7 3 ≤ b then x = vr df v else vE 70 4 [.ref 7, .ref 3, .int (if c_otherEnd v 7 3 b = 0 then c_dfi v b (c_lengthOf v 7 b) (((c_lengthOf v 7 b) : Int32).toInt - (0 : Int32).toInt).toNat 0 df else (c_dfi v b (c_lengthOf v 7 b) (((c_lengthOf v 7 b) : Int32).toInt - (0 : Int32).toInt).toNat 0 df) + 1), .int (b + 1), .int (c_lengthOf v 7 b), .int (0 + Int32.ofNat (((c_lengthOf v 7 b) : Int32).toInt - (0 : Int32).toInt).toNat)] [] v x := by
  rw [q70_4]
  simp only [q70_0, q70_1, q70_2, q70_3, q70_5, q70_6, q70_9, q70_12, q70_13, q70_14, q70_17, q70_19, q70_20, q70_24, q70_26, q70_29, q70_30, q70_31, q70_32, q70_34, q70_37, q70_40, q70_46, q70_49, q70_50, q70_51, q70_52, q70_55, q70_58, q70_64, q70_67, q70_68, ct31, ct71, ct72, exists_eq_left, vB_r, vB_d, vB_a, vB_if, vm_eqif, vr_if, vd_if, Nat.reduceAdd, reduceIte, vm_10, vm_n0, ite_self, vm_mrg, vm_icons, vm_iint, qt70, lq70_22]
  try simp only [q70_0, q70_1, q70_2, q70_3, q70_5, q70_6, q70_9, q70_12, q70_13, q70_14, q70_17, q70_19, q70_20, q70_24, q70_26, q70_29, q70_30, q70_31, q70_32, q70_34, q70_37, q70_40, q70_46, q70_49, q70_50, q70_51, q70_52, q70_55, q70_58, q70_64, q70_67, q70_68, q70_43, ct31, ct71, ct72, exists_eq_left, vB_r, vB_d, vB_a, vB_if, vm_eqif, vr_if, vd_if, Nat.reduceAdd, reduceIte, vm_10, vm_n0, ite_self, vm_mrg, vm_icons, vm_iint, qt70, lq70_22]
  try simp only [q70_0, q70_1, q70_2, q70_3, q70_5, q70_6, q70_9, q70_12, q70_13, q70_14, q70_17, q70_19, q70_20, q70_24, q70_26, q70_29, q70_30, q70_31, q70_32, q70_34, q70_37, q70_40, q70_46, q70_49, q70_50, q70_51, q70_52, q70_55, q70_58, q70_64, q70_67, q70_68, q70_43, q70_61, ct31, ct71, ct72, exists_eq_left, vB_r, vB_d, vB_a, vB_if, vm_eqif, vr_if, vd_if, Nat.reduceAdd, reduceIte, vm_10, vm_n0, ite_self, vm_mrg, vm_icons, vm_iint, qt70, lq70_22]

def c_dfl (v : vm_V) : Nat → Int32 → Int32 → Int32
  | 0, _, df => df
  | k + 1, b, df => c_dfl v k (b + 1) (if c_otherEnd v 7 3 b = 0 then c_dfi v b (c_lengthOf v 7 b) (((c_lengthOf v 7 b) : Int32).toInt - (0 : Int32).toInt).toNat 0 df else (c_dfi v b (c_lengthOf v 7 b) (((c_lengthOf v 7 b) : Int32).toInt - (0 : Int32).toInt).toNat 0 df) + 1)

theorem lp70_4 {v : vm_V} : ∀ (k : Nat) (b : Int32) (df : Int32) (l4 : Value) (l5 : Value), ((v.1 7 3 : Int32).toInt - b.toInt).toNat = k → (vE 70 4 [.ref 7, .ref 3, .int df, .int b, l4, l5] [] v x ↔ x = vr (c_dfl v k b df) v)
  | 0, b, df, l4, l5, h => by
    rw [it70_4, if_pos (lc0 h)]
    try rw [ct_0]
    try exact Iff.rfl
  | k + 1, b, df, l4, l5, h => by
    have ih := fun df' l4' l5' => lp70_4 (v := v) k (b + 1) df' l4' l5' (lcS h).2
    rw [it70_4, if_neg (lcS h).1]
    simp only [ih, vm_eqif, vr_if, vd_if, ct_s, ct_sd, c_dfl]

theorem lq70_4 {v : vm_V} {b df : Int32} {l4 l5 : Value} : vE 70 4 [.ref 7, .ref 3, .int df, .int b, l4, l5] [] v x ↔ x = vr (c_dfl v ((v.1 7 3 : Int32).toInt - b.toInt).toNat b df) v := lp70_4 _ _ _ _ _ rfl

def c_diff (v : vm_V)  : Int32 := c_dfl v ((v.1 7 3 : Int32).toInt - (0 : Int32).toInt).toNat 0 0
theorem ct70 : vE 70 0 [.ref 7, .ref 3, .retAddr 0, .retAddr 0, .retAddr 0, .retAddr 0] [] v x ↔ x = vr (c_diff v) v := by
  simp only [q70_0, q70_1, q70_2, q70_3, q70_5, q70_6, q70_9, q70_12, q70_13, q70_14, q70_17, q70_19, q70_20, q70_24, q70_26, q70_29, q70_30, q70_31, q70_32, q70_34, q70_37, q70_40, q70_46, q70_49, q70_50, q70_51, q70_52, q70_55, q70_58, q70_64, q70_67, q70_68, ct31, ct71, ct72, exists_eq_left, vB_r, vB_d, vB_a, vB_if, vm_eqif, vr_if, vd_if, Nat.reduceAdd, reduceIte, vm_10, vm_n0, ite_self, vm_mrg, vm_icons, vm_iint, qt70, lq70_4, c_diff]
  try simp only [q70_0, q70_1, q70_2, q70_3, q70_5, q70_6, q70_9, q70_12, q70_13, q70_14, q70_17, q70_19, q70_20, q70_24, q70_26, q70_29, q70_30, q70_31, q70_32, q70_34, q70_37, q70_40, q70_46, q70_49, q70_50, q70_51, q70_52, q70_55, q70_58, q70_64, q70_67, q70_68, q70_22, ct31, ct71, ct72, exists_eq_left, vB_r, vB_d, vB_a, vB_if, vm_eqif, vr_if, vd_if, Nat.reduceAdd, reduceIte, vm_10, vm_n0, ite_self, vm_mrg, vm_icons, vm_iint, qt70, lq70_4, c_diff]
  try simp only [q70_0, q70_1, q70_2, q70_3, q70_5, q70_6, q70_9, q70_12, q70_13, q70_14, q70_17, q70_19, q70_20, q70_24, q70_26, q70_29, q70_30, q70_31, q70_32, q70_34, q70_37, q70_40, q70_46, q70_49, q70_50, q70_51, q70_52, q70_55, q70_58, q70_64, q70_67, q70_68, q70_22, q70_43, ct31, ct71, ct72, exists_eq_left, vB_r, vB_d, vB_a, vB_if, vm_eqif, vr_if, vd_if, Nat.reduceAdd, reduceIte, vm_10, vm_n0, ite_self, vm_mrg, vm_icons, vm_iint, qt70, lq70_4, c_diff]
  try simp only [q70_0, q70_1, q70_2, q70_3, q70_5, q70_6, q70_9, q70_12, q70_13, q70_14, q70_17, q70_19, q70_20, q70_24, q70_26, q70_29, q70_30, q70_31, q70_32, q70_34, q70_37, q70_40, q70_46, q70_49, q70_50, q70_51, q70_52, q70_55, q70_58, q70_64, q70_67, q70_68, q70_22, q70_43, q70_61, ct31, ct71, ct72, exists_eq_left, vB_r, vB_d, vB_a, vB_if, vm_eqif, vr_if, vd_if, Nat.reduceAdd, reduceIte, vm_10, vm_n0, ite_self, vm_mrg, vm_icons, vm_iint, qt70, lq70_4, c_diff]

end DD
