/-! what the methods without loops do -/
section DA
variable {v : vm_V} {x : vm_Y}
theorem vm_10 : ((1 : Int32) = 0) ↔ False := by decide
theorem vm_n0 : ((0 : Int32) = 0) ↔ True := by decide
def c_writes (v : vm_V) (op : Int32) : Int32 := if op = 9 then 0 else 1
theorem ct26 {op : Int32} : vE 26 0 [.int op] [] v x ↔ x = vr (c_writes v op) v := by
  simp only [q26_0, q26_1, q26_3, q26_6, q26_7, q26_10, q26_11, exists_eq_left, vB_r, vB_d, vB_a, vB_if, vm_eqif, vr_if, vd_if, Nat.reduceAdd, reduceIte, vm_10, vm_n0, c_writes]

def c_isReg (v : vm_V) (r : Int32) : Int32 := if r < 0 then 0 else if 6 ≤ r then 0 else 1
theorem ct28 {r : Int32} : vE 28 0 [.int r] [] v x ↔ x = vr (c_isReg v r) v := by
  simp only [q28_0, q28_1, q28_4, q28_5, q28_7, q28_10, q28_11, q28_14, q28_15, exists_eq_left, vB_r, vB_d, vB_a, vB_if, vm_eqif, vr_if, vd_if, Nat.reduceAdd, reduceIte, vm_10, vm_n0, c_isReg]

def c_readsA (v : vm_V) (op : Int32) : Int32 := if op = 0 then 0 else 1
theorem ct29 {op : Int32} : vE 29 0 [.int op] [] v x ↔ x = vr (c_readsA v op) v := by
  simp only [q29_0, q29_1, q29_4, q29_5, q29_8, q29_9, exists_eq_left, vB_r, vB_d, vB_a, vB_if, vm_eqif, vr_if, vd_if, Nat.reduceAdd, reduceIte, vm_10, vm_n0, c_readsA]

def c_readsB (v : vm_V) (op : Int32) : Int32 := if op < 2 then 0 else if op = 8 then 0 else 1
theorem ct30 {op : Int32} : vE 30 0 [.int op] [] v x ↔ x = vr (c_readsB v op) v := by
  simp only [q30_0, q30_1, q30_2, q30_5, q30_6, q30_8, q30_11, q30_12, q30_15, q30_16, exists_eq_left, vB_r, vB_d, vB_a, vB_if, vm_eqif, vr_if, vd_if, Nat.reduceAdd, reduceIte, vm_10, vm_n0, c_readsB]

def c_programOf (v : vm_V) (p : Nat) (n : Int32) : vm_Y := if n = 0 then if n = 0 then va (p + 1) v else va (p + 5) v else if n = 1 then if n = 0 then va (p + 1) v else va (p + 5) v else vt 10 v
theorem ct18 {n : Int32} {p : Nat} : vE 18 0 [.ref p, .int n] [] v x ↔ x = c_programOf v p n := by
  simp only [q18_0, q18_1, q18_4, q18_5, q18_6, q18_9, q18_12, q18_19, q18_20, q18_23, q18_24, q18_27, q18_30, q18_31, q18_34, exists_eq_left, vB_r, vB_d, vB_a, vB_if, vm_eqif, vr_if, vd_if, Nat.reduceAdd, reduceIte, vm_10, vm_n0, c_programOf]

def c_isFull (v : vm_V) (p : Nat) : Int32 := if v.1 p 3 < 6 then 0 else 1
theorem ct19 {p : Nat} : vE 19 0 [.ref p] [] v x ↔ x = vr (c_isFull v p) v := by
  simp only [q19_0, q19_1, q19_4, q19_6, q19_9, q19_10, q19_13, q19_14, exists_eq_left, vB_r, vB_d, vB_a, vB_if, vm_eqif, vr_if, vd_if, Nat.reduceAdd, reduceIte, vm_10, vm_n0, c_isFull]

def c_hasBlock (v : vm_V) (p : Nat) (b : Int32) : Int32 := if b < 0 then 0 else if v.1 p 3 ≤ b then 0 else if 6 ≤ b then 0 else 1
theorem ct22 {b : Int32} {p : Nat} : vE 22 0 [.ref p, .int b] [] v x ↔ x = vr (c_hasBlock v p b) v := by
  simp only [q22_0, q22_1, q22_4, q22_5, q22_6, q22_9, q22_12, q22_13, q22_15, q22_18, q22_19, q22_22, q22_23, exists_eq_left, vB_r, vB_d, vB_a, vB_if, vm_eqif, vr_if, vd_if, Nat.reduceAdd, reduceIte, vm_10, vm_n0, c_hasBlock]

def c_lengthOf (v : vm_V) (p : Nat) (b : Int32) : Int32 := if c_hasBlock v p b = 0 then 0 else v.1 (p + 3) b.toNatClampNeg
theorem ct31 {b : Int32} {p : Nat} : vE 31 0 [.ref p, .int b] [] v x ↔ x = vr (c_lengthOf v p b) v := by
  simp only [q31_0, q31_1, q31_2, q31_5, q31_8, q31_9, q31_12, q31_13, q31_14, q31_17, q31_18, ct22, exists_eq_left, vB_r, vB_d, vB_a, vB_if, vm_eqif, vr_if, vd_if, Nat.reduceAdd, reduceIte, vm_10, vm_n0, qt31, c_lengthOf]

def c_hasCode (v : vm_V) (p : Nat) (b : Int32) (i : Int32) : Int32 := if i < 0 then 0 else if 8 ≤ i then 0 else if c_lengthOf v p b ≤ i then 0 else 1
theorem ct34 {b i : Int32} {p : Nat} : vE 34 0 [.ref p, .int b, .int i] [] v x ↔ x = vr (c_hasCode v p b i) v := by
  simp only [q34_0, q34_1, q34_4, q34_5, q34_7, q34_10, q34_11, q34_12, q34_13, q34_16, q34_19, q34_20, q34_23, q34_24, ct31, exists_eq_left, vB_r, vB_d, vB_a, vB_if, vm_eqif, vr_if, vd_if, Nat.reduceAdd, reduceIte, vm_10, vm_n0, qt34, c_hasCode]

def c_codeAt (v : vm_V) (p : Nat) (b : Int32) (i : Int32) (f : Int32) : Int32 := if b < 0 then 0 else if v.1 p 3 ≤ b then 0 else if 6 ≤ b then 0 else if i < 0 then 0 else if 8 ≤ i then 0 else if f < 0 then 0 else if 4 ≤ f then 0 else v.1 (p + 1) ((((b * 8) + i) * 4) + f).toNatClampNeg
theorem ct47 {b i f : Int32} {p : Nat} : vE 47 0 [.ref p, .int b, .int i, .int f, .retAddr 0] [] v x ↔ x = vr (c_codeAt v p b i f) v := by
  simp only [q47_0, q47_1, q47_4, q47_5, q47_6, q47_9, q47_12, q47_13, q47_15, q47_18, q47_19, q47_22, q47_23, q47_25, q47_28, q47_29, q47_32, q47_33, q47_34, q47_37, q47_38, q47_41, q47_42, q47_44, q47_46, q47_49, q47_50, q47_53, q47_54, q47_56, q47_57, q47_58, q47_59, q47_60, q47_61, q47_62, q47_63, q47_64, q47_67, q47_68, exists_eq_left, vB_r, vB_d, vB_a, vB_if, vm_eqif, vr_if, vd_if, Nat.reduceAdd, reduceIte, vm_10, vm_n0, c_codeAt]

def c_endAt (v : vm_V) (p : Nat) (b : Int32) (f : Int32) : Int32 := if b < 0 then if f = 0 then 2 else 0 else if v.1 p 3 ≤ b then if f = 0 then 2 else 0 else if b < 6 then if f < 0 then 0 else if 4 ≤ f then 0 else v.1 (p + 2) ((b * 4) + f).toNatClampNeg else if f = 0 then 2 else 0
theorem ct56 {b f : Int32} {p : Nat} : vE 56 0 [.ref p, .int b, .int f] [] v x ↔ x = vr (c_endAt v p b f) v := by
  simp only [q56_0, q56_1, q56_4, q56_5, q56_6, q56_9, q56_12, q56_13, q56_15, q56_18, q56_19, q56_22, q56_23, q56_26, q56_27, q56_28, q56_29, q56_32, q56_33, q56_34, q56_37, q56_38, q56_41, q56_42, q56_43, q56_44, q56_45, q56_46, q56_47, q56_50, q56_51, exists_eq_left, vB_r, vB_d, vB_a, vB_if, vm_eqif, vr_if, vd_if, Nat.reduceAdd, reduceIte, vm_10, vm_n0, c_endAt]

def c_writtenAt (v : vm_V) (p : Nat) (b : Int32) (i : Int32) : Int32 := if c_writes v (c_codeAt v p b i 0) = 0 then (-1) else c_codeAt v p b i 1
theorem ct62 {b i : Int32} {p : Nat} : vE 62 0 [.ref p, .int b, .int i] [] v x ↔ x = vr (c_writtenAt v p b i) v := by
  simp only [q62_0, q62_1, q62_2, q62_3, q62_4, q62_7, q62_10, q62_13, q62_14, q62_15, q62_16, q62_17, q62_20, q62_23, q62_24, ct47, ct26, exists_eq_left, vB_r, vB_d, vB_a, vB_if, vm_eqif, vr_if, vd_if, Nat.reduceAdd, reduceIte, vm_10, vm_n0, qt62, c_writtenAt]

def c_readsAt (v : vm_V) (p : Nat) (b : Int32) (i : Int32) (r : Int32) : Int32 := if c_readsA v (c_codeAt v p b i 0) = 0 then if c_readsB v (c_codeAt v p b i 0) = 0 then 0 else if c_codeAt v p b i 3 = r then 1 else 0 else if c_codeAt v p b i 2 = r then 1 else if c_readsB v (c_codeAt v p b i 0) = 0 then 0 else if c_codeAt v p b i 3 = r then 1 else 0
theorem ct61 {b i r : Int32} {p : Nat} : vE 61 0 [.ref p, .int b, .int i, .int r, .retAddr 0] [] v x ↔ x = vr (c_readsAt v p b i r) v := by
  simp only [q61_0, q61_1, q61_2, q61_3, q61_4, q61_7, q61_9, q61_11, q61_14, q61_17, q61_18, q61_19, q61_20, q61_21, q61_24, q61_25, q61_28, q61_30, q61_33, q61_36, q61_37, q61_38, q61_39, q61_40, q61_43, q61_44, q61_47, q61_48, q61_51, q61_52, ct47, ct29, ct30, exists_eq_left, vB_r, vB_d, vB_a, vB_if, vm_eqif, vr_if, vd_if, Nat.reduceAdd, reduceIte, vm_10, vm_n0, qt61, c_readsAt]

def c_blockCount (v : vm_V) (p : Nat) : Int32 := v.1 p 3
theorem ct43 {p : Nat} : vE 43 0 [.ref p] [] v x ↔ x = vr (c_blockCount v p) v := by
  simp only [q43_0, q43_1, q43_4, exists_eq_left, vB_r, vB_d, vB_a, vB_if, vm_eqif, vr_if, vd_if, Nat.reduceAdd, reduceIte, vm_10, vm_n0, c_blockCount]

def c_clear (v : vm_V) (p : Nat) : vm_V := vm_si v p 3 0
theorem ct40 {p : Nat} : vE 40 0 [.ref p] [] v x ↔ x = vd (c_clear v p) := by
  simp only [q40_0, q40_1, q40_2, q40_5, exists_eq_left, vB_r, vB_d, vB_a, vB_if, vm_eqif, vr_if, vd_if, Nat.reduceAdd, reduceIte, vm_10, vm_n0, c_clear]

def c_setEnd (v : vm_V) (p : Nat) (b : Int32) (k : Int32) (a : Int32) (s : Int32) (t : Int32) : vm_V := if c_hasBlock v p b = 0 then v else vm_si (vm_si (vm_si (vm_si v (p + 2) ((b * 4) + 0).toNatClampNeg k) (p + 2) ((b * 4) + 1).toNatClampNeg a) (p + 2) ((b * 4) + 2).toNatClampNeg s) (p + 2) ((b * 4) + 3).toNatClampNeg t
theorem ct21 {b k a s t : Int32} {p : Nat} : vE 21 0 [.ref p, .int b, .int k, .int a, .int s, .int t, .retAddr 0] [] v x ↔ x = vd (c_setEnd v p b k a s t) := by
  simp only [q21_0, q21_1, q21_2, q21_5, q21_8, q21_9, q21_10, q21_11, q21_12, q21_14, q21_15, q21_18, q21_20, q21_21, q21_22, q21_23, q21_24, q21_25, q21_28, q21_30, q21_31, q21_32, q21_33, q21_34, q21_35, q21_38, q21_40, q21_41, q21_42, q21_44, q21_45, q21_46, q21_49, q21_51, q21_52, q21_53, q21_55, q21_56, ct22, exists_eq_left, vB_r, vB_d, vB_a, vB_if, vm_eqif, vr_if, vd_if, Nat.reduceAdd, reduceIte, vm_10, vm_n0, qt21, c_setEnd]

def c_setCode (v : vm_V) (p : Nat) (b : Int32) (i : Int32) (op : Int32) (d : Int32) (a : Int32) (c : Int32) : vm_V := if c_hasCode v p b i = 0 then v else vm_si (vm_si (vm_si (vm_si v (p + 1) ((((b * 8) + i) * 4) + 0).toNatClampNeg op) (p + 1) ((((b * 8) + i) * 4) + 1).toNatClampNeg d) (p + 1) ((((b * 8) + i) * 4) + 2).toNatClampNeg a) (p + 1) ((((b * 8) + i) * 4) + 3).toNatClampNeg c
theorem ct33 {b i op d a c : Int32} {p : Nat} : vE 33 0 [.ref p, .int b, .int i, .int op, .int d, .int a, .int c, .retAddr 0] [] v x ↔ x = vd (c_setCode v p b i op d a c) := by
  simp only [q33_0, q33_1, q33_2, q33_3, q33_6, q33_9, q33_10, q33_11, q33_13, q33_14, q33_15, q33_16, q33_17, q33_18, q33_20, q33_21, q33_24, q33_26, q33_27, q33_28, q33_29, q33_30, q33_31, q33_34, q33_36, q33_37, q33_38, q33_40, q33_41, q33_42, q33_45, q33_47, q33_48, q33_49, q33_51, q33_52, q33_53, q33_56, q33_58, q33_59, q33_60, q33_62, q33_63, ct34, exists_eq_left, vB_r, vB_d, vB_a, vB_if, vm_eqif, vr_if, vd_if, Nat.reduceAdd, reduceIte, vm_10, vm_n0, qt33, c_setCode]

def c_addBlock (v : vm_V) (p : Nat) : vm_Y := if v.1 p 3 < 0 then vr (-1) v else if v.1 p 3 < 6 then vr (v.1 p 3) (c_setEnd (vm_si (vm_si v p 3 ((v.1 p 3) + 1)) (p + 3) (v.1 p 3).toNatClampNeg 0) p (v.1 p 3) 2 0 0 0) else vr (-1) v
theorem ct20 {p : Nat} : vE 20 0 [.ref p, .retAddr 0] [] v x ↔ x = c_addBlock v p := by
  simp only [q20_0, q20_1, q20_4, q20_5, q20_6, q20_9, q20_10, q20_12, q20_15, q20_16, q20_17, q20_18, q20_19, q20_20, q20_21, q20_24, q20_25, q20_28, q20_29, q20_30, q20_31, q20_32, q20_33, q20_34, q20_35, q20_36, q20_37, q20_40, q20_41, ct21, exists_eq_left, vB_r, vB_d, vB_a, vB_if, vm_eqif, vr_if, vd_if, Nat.reduceAdd, reduceIte, vm_10, vm_n0, qt20, c_addBlock]

def c_addCode (v : vm_V) (p : Nat) (b : Int32) (op : Int32) (d : Int32) (a : Int32) (c : Int32) : vm_Y := if c_hasBlock v p b = 0 then vr (-1) v else if c_lengthOf v p b < 8 then vr (c_lengthOf v p b) (c_setCode (vm_si v (p + 3) b.toNatClampNeg ((c_lengthOf v p b) + 1)) p b (c_lengthOf v p b) op d a c) else vr (-1) v
theorem ct32 {b op d a c : Int32} {p : Nat} : vE 32 0 [.ref p, .int b, .int op, .int d, .int a, .int c, .retAddr 0] [] v x ↔ x = c_addCode v p b op d a c := by
  simp only [q32_0, q32_1, q32_2, q32_5, q32_7, q32_8, q32_9, q32_12, q32_15, q32_17, q32_19, q32_22, q32_23, q32_24, q32_25, q32_28, q32_29, q32_31, q32_32, q32_33, q32_34, q32_35, q32_36, q32_38, q32_39, q32_40, q32_42, q32_44, q32_47, q32_49, ct31, ct22, ct33, exists_eq_left, vB_r, vB_d, vB_a, vB_if, vm_eqif, vr_if, vd_if, Nat.reduceAdd, reduceIte, vm_10, vm_n0, qt32, c_addCode]

def c_requireBlock (v : vm_V) (p : Nat) (b : Int32) : vm_Y := if c_hasBlock v p b = 0 then vt 10 v else vd v
theorem ct25 {b : Int32} {p : Nat} : vE 25 0 [.ref p, .int b] [] v x ↔ x = c_requireBlock v p b := by
  simp only [q25_0, q25_1, q25_2, q25_5, q25_8, q25_11, q25_18, ct22, exists_eq_left, vB_r, vB_d, vB_a, vB_if, vm_eqif, vr_if, vd_if, Nat.reduceAdd, reduceIte, vm_10, vm_n0, qt25, c_requireBlock]

def c_requireReg (v : vm_V) (u : Int32) (r : Int32) : vm_Y := if u = 0 then vd v else if c_isReg v r = 0 then vt 12 v else vd v
theorem ct27 {u r : Int32} : vE 27 0 [.int u, .int r] [] v x ↔ x = c_requireReg v u r := by
  simp only [q27_0, q27_1, q27_4, q27_5, q27_8, q27_11, q27_14, q27_21, ct28, exists_eq_left, vB_r, vB_d, vB_a, vB_if, vm_eqif, vr_if, vd_if, Nat.reduceAdd, reduceIte, vm_10, vm_n0, qt27, c_requireReg]

def c_requireGoal (v : vm_V) (u : Int32) (b : Int32) : vm_Y := if u = 0 then vd v else if b < 0 then vt 12 v else if b < 6 then vd v else vt 12 v
theorem ct37 {u b : Int32} : vE 37 0 [.int u, .int b] [] v x ↔ x = c_requireGoal v u b := by
  simp only [q37_0, q37_1, q37_4, q37_5, q37_8, q37_9, q37_11, q37_14, q37_17, q37_24, exists_eq_left, vB_r, vB_d, vB_a, vB_if, vm_eqif, vr_if, vd_if, Nat.reduceAdd, reduceIte, vm_10, vm_n0, c_requireGoal]

end DA
