/-! the checker: methods without loops -/
section EB
variable {v : vm_V} {x : vm_Y}
def c_vnum (v : vm_V) (t : Int32) : Int32 := if t < 0 then 0 else if 22 ≤ t then 0 else if v.1 43 t.toNatClampNeg = 0 then 0 else 1
theorem ct94 {t : Int32} : vE 94 0 [.ref 19, .int t] [] v x ↔ x = vr (c_vnum v t) v := by
  simp only [q94_0, q94_1, q94_4, q94_5, q94_7, q94_10, q94_11, q94_14, q94_15, q94_16, q94_19, q94_20, exists_eq_left, vB_r, vB_d, vB_a, vB_if, vm_eqif, vr_if, vd_if, Nat.reduceAdd, reduceIte, vm_10, vm_n0, ite_self, vm_mrg, vm_icons, vm_iint, c_vnum]
  try simp only [q94_0, q94_1, q94_4, q94_5, q94_7, q94_10, q94_11, q94_14, q94_15, q94_16, q94_19, q94_20, q94_23, exists_eq_left, vB_r, vB_d, vB_a, vB_if, vm_eqif, vr_if, vd_if, Nat.reduceAdd, reduceIte, vm_10, vm_n0, ite_self, vm_mrg, vm_icons, vm_iint, c_vnum]
  try simp only [q94_0, q94_1, q94_4, q94_5, q94_7, q94_10, q94_11, q94_14, q94_15, q94_16, q94_19, q94_20, q94_23, q94_24, exists_eq_left, vB_r, vB_d, vB_a, vB_if, vm_eqif, vr_if, vd_if, Nat.reduceAdd, reduceIte, vm_10, vm_n0, ite_self, vm_mrg, vm_icons, vm_iint, c_vnum]

def c_cell (v : vm_V) (t : Int32) (k : Int32) : Int32 := if (if t < 0 then 0 else if 22 ≤ t then 0 else if k < 0 then 0 else if 23 ≤ k then 0 else 1 : Int32) = 0 then 0 else v.1 (20 + 1 + t.toNatClampNeg) k.toNatClampNeg
theorem ct96 {t k : Int32} : vE 96 0 [.ref 19, .int t, .int k, .retAddr 0] [] v x ↔ x = vr (c_cell v t k) v := by
  simp only [q96_0, q96_1, q96_4, q96_5, q96_7, q96_10, q96_11, q96_14, q96_15, q96_17, q96_20, q96_21, q96_26, q96_27, q96_30, q96_31, q96_34, q96_35, q96_36, q96_37, q96_38, q96_41, exists_eq_left, vB_r, vB_d, vB_a, vB_if, vm_eqif, vr_if, vd_if, Nat.reduceAdd, reduceIte, vm_10, vm_n0, ite_self, vm_mrg, vm_icons, vm_iint, c_cell]
  try simp only [q96_0, q96_1, q96_4, q96_5, q96_7, q96_10, q96_11, q96_14, q96_15, q96_17, q96_20, q96_21, q96_26, q96_27, q96_30, q96_31, q96_34, q96_35, q96_36, q96_37, q96_38, q96_41, q96_24, exists_eq_left, vB_r, vB_d, vB_a, vB_if, vm_eqif, vr_if, vd_if, Nat.reduceAdd, reduceIte, vm_10, vm_n0, ite_self, vm_mrg, vm_icons, vm_iint, c_cell]
  try simp only [q96_0, q96_1, q96_4, q96_5, q96_7, q96_10, q96_11, q96_14, q96_15, q96_17, q96_20, q96_21, q96_26, q96_27, q96_30, q96_31, q96_34, q96_35, q96_36, q96_37, q96_38, q96_41, q96_24, q96_25, exists_eq_left, vB_r, vB_d, vB_a, vB_if, vm_eqif, vr_if, vd_if, Nat.reduceAdd, reduceIte, vm_10, vm_n0, ite_self, vm_mrg, vm_icons, vm_iint, c_cell]
  try simp only [q96_0, q96_1, q96_4, q96_5, q96_7, q96_10, q96_11, q96_14, q96_15, q96_17, q96_20, q96_21, q96_26, q96_27, q96_30, q96_31, q96_34, q96_35, q96_36, q96_37, q96_38, q96_41, q96_24, q96_25, q96_42, exists_eq_left, vB_r, vB_d, vB_a, vB_if, vm_eqif, vr_if, vd_if, Nat.reduceAdd, reduceIte, vm_10, vm_n0, ite_self, vm_mrg, vm_icons, vm_iint, c_cell]

def c_nof (v : vm_V) (t : Int32) : Int32 := c_cell v t 0
theorem ct95 {t : Int32} : vE 95 0 [.ref 19, .int t] [] v x ↔ x = vr (c_nof v t) v := by
  simp only [q95_0, q95_1, q95_2, q95_3, q95_6, ct96, exists_eq_left, vB_r, vB_d, vB_a, vB_if, vm_eqif, vr_if, vd_if, Nat.reduceAdd, reduceIte, vm_10, vm_n0, ite_self, vm_mrg, vm_icons, vm_iint, qt95, c_nof]

def c_isThis (v : vm_V) (t : Int32) (z : Int32) : Int32 := if c_vnum v t = 0 then 0 else if c_cell v t 0 = z then 1 else 0
theorem ct107 {t z : Int32} : vE 107 0 [.ref 19, .int t, .int z] [] v x ↔ x = vr (c_isThis v t z) v := by
  simp only [q107_0, q107_1, q107_2, q107_5, q107_8, q107_9, q107_10, q107_11, q107_14, q107_15, q107_18, q107_19, ct94, ct96, exists_eq_left, vB_r, vB_d, vB_a, vB_if, vm_eqif, vr_if, vd_if, Nat.reduceAdd, reduceIte, vm_10, vm_n0, ite_self, vm_mrg, vm_icons, vm_iint, qt107, c_isThis]
  try simp only [q107_0, q107_1, q107_2, q107_5, q107_8, q107_9, q107_10, q107_11, q107_14, q107_15, q107_18, q107_19, q107_22, ct94, ct96, exists_eq_left, vB_r, vB_d, vB_a, vB_if, vm_eqif, vr_if, vd_if, Nat.reduceAdd, reduceIte, vm_10, vm_n0, ite_self, vm_mrg, vm_icons, vm_iint, qt107, c_isThis]
  try simp only [q107_0, q107_1, q107_2, q107_5, q107_8, q107_9, q107_10, q107_11, q107_14, q107_15, q107_18, q107_19, q107_22, q107_23, ct94, ct96, exists_eq_left, vB_r, vB_d, vB_a, vB_if, vm_eqif, vr_if, vd_if, Nat.reduceAdd, reduceIte, vm_10, vm_n0, ite_self, vm_mrg, vm_icons, vm_iint, qt107, c_isThis]

def c_ovin (v : vm_V) (o : Nat) (r : Int32) : Int32 := if c_isReg v r = 0 then 0 else v.1 (o + 1) r.toNatClampNeg
theorem ct91 {r : Int32} {o : Nat} : vE 91 0 [.ref o, .int r] [] v x ↔ x = vr (c_ovin v o r) v := by
  simp only [q91_0, q91_1, q91_4, q91_7, q91_8, q91_11, q91_12, q91_13, q91_16, ct28, exists_eq_left, vB_r, vB_d, vB_a, vB_if, vm_eqif, vr_if, vd_if, Nat.reduceAdd, reduceIte, vm_10, vm_n0, ite_self, vm_mrg, vm_icons, vm_iint, qt91, c_ovin]
  try simp only [q91_0, q91_1, q91_4, q91_7, q91_8, q91_11, q91_12, q91_13, q91_16, q91_17, ct28, exists_eq_left, vB_r, vB_d, vB_a, vB_if, vm_eqif, vr_if, vd_if, Nat.reduceAdd, reduceIte, vm_10, vm_n0, ite_self, vm_mrg, vm_icons, vm_iint, qt91, c_ovin]

def c_isEff (v : vm_V) (o : Nat) (i : Int32) (k : Int32) (a : Int32) (b : Int32) : Int32 := if i < 0 then 0 else if 8 ≤ i then 0 else if v.1 (o + 2) i.toNatClampNeg = k then if v.1 (o + 3) i.toNatClampNeg = a then if v.1 (o + 4) i.toNatClampNeg = b then 1 else 0 else 0 else 0
theorem ct98 {i k a b : Int32} {o : Nat} : vE 98 0 [.ref o, .int i, .int k, .int a, .int b] [] v x ↔ x = vr (c_isEff v o i k a b) v := by
  simp only [q98_0, q98_1, q98_4, q98_5, q98_7, q98_10, q98_11, q98_14, q98_15, q98_16, q98_17, q98_20, q98_21, q98_24, q98_25, q98_26, q98_27, q98_30, q98_31, q98_34, q98_35, q98_36, q98_38, q98_41, q98_42, exists_eq_left, vB_r, vB_d, vB_a, vB_if, vm_eqif, vr_if, vd_if, Nat.reduceAdd, reduceIte, vm_10, vm_n0, ite_self, vm_mrg, vm_icons, vm_iint, c_isEff]
  try simp only [q98_0, q98_1, q98_4, q98_5, q98_7, q98_10, q98_11, q98_14, q98_15, q98_16, q98_17, q98_20, q98_21, q98_24, q98_25, q98_26, q98_27, q98_30, q98_31, q98_34, q98_35, q98_36, q98_38, q98_41, q98_42, q98_45, exists_eq_left, vB_r, vB_d, vB_a, vB_if, vm_eqif, vr_if, vd_if, Nat.reduceAdd, reduceIte, vm_10, vm_n0, ite_self, vm_mrg, vm_icons, vm_iint, c_isEff]
  try simp only [q98_0, q98_1, q98_4, q98_5, q98_7, q98_10, q98_11, q98_14, q98_15, q98_16, q98_17, q98_20, q98_21, q98_24, q98_25, q98_26, q98_27, q98_30, q98_31, q98_34, q98_35, q98_36, q98_38, q98_41, q98_42, q98_45, q98_46, exists_eq_left, vB_r, vB_d, vB_a, vB_if, vm_eqif, vr_if, vd_if, Nat.reduceAdd, reduceIte, vm_10, vm_n0, ite_self, vm_mrg, vm_icons, vm_iint, c_isEff]

def c_owr (v : vm_V) (o : Nat) (r : Int32) (z : Int32) : vm_V := if c_isReg v r = 0 then v else vm_si v (o + 1) r.toNatClampNeg z
theorem ct109 {r z : Int32} {o : Nat} : vE 109 0 [.ref o, .int r, .int z] [] v x ↔ x = vd (c_owr v o r z) := by
  simp only [q109_0, q109_1, q109_4, q109_7, q109_8, q109_11, q109_12, q109_13, ct28, exists_eq_left, vB_r, vB_d, vB_a, vB_if, vm_eqif, vr_if, vd_if, Nat.reduceAdd, reduceIte, vm_10, vm_n0, ite_self, vm_mrg, vm_icons, vm_iint, qt109, c_owr]
  try simp only [q109_0, q109_1, q109_4, q109_7, q109_8, q109_11, q109_12, q109_13, q109_14, ct28, exists_eq_left, vB_r, vB_d, vB_a, vB_if, vm_eqif, vr_if, vd_if, Nat.reduceAdd, reduceIte, vm_10, vm_n0, ite_self, vm_mrg, vm_icons, vm_iint, qt109, c_owr]

def c_addE (v : vm_V) (o : Nat) (k : Int32) (a : Int32) (b : Int32) : vm_V := if v.1 o 4 < 0 then v else if 8 ≤ v.1 o 4 then v else vm_si (vm_si (vm_si (vm_si v o 4 ((v.1 o 4) + 1)) (o + 2) (v.1 o 4).toNatClampNeg k) (o + 3) (v.1 o 4).toNatClampNeg a) (o + 4) (v.1 o 4).toNatClampNeg b
theorem ct93 {k a b : Int32} {o : Nat} : vE 93 0 [.ref o, .int k, .int a, .int b, .retAddr 0] [] v x ↔ x = vd (c_addE v o k a b) := by
  simp only [q93_0, q93_1, q93_4, q93_6, q93_8, q93_11, q93_13, q93_15, q93_18, q93_19, q93_21, q93_22, q93_23, q93_26, q93_27, q93_30, q93_32, q93_33, q93_34, q93_35, q93_38, q93_40, q93_41, q93_42, q93_43, q93_46, q93_48, q93_49, exists_eq_left, vB_r, vB_d, vB_a, vB_if, vm_eqif, vr_if, vd_if, Nat.reduceAdd, reduceIte, vm_10, vm_n0, ite_self, vm_mrg, vm_icons, vm_iint, c_addE]
  try simp only [q93_0, q93_1, q93_4, q93_6, q93_8, q93_11, q93_13, q93_15, q93_18, q93_19, q93_21, q93_22, q93_23, q93_26, q93_27, q93_30, q93_32, q93_33, q93_34, q93_35, q93_38, q93_40, q93_41, q93_42, q93_43, q93_46, q93_48, q93_49, q93_50, exists_eq_left, vB_r, vB_d, vB_a, vB_if, vm_eqif, vr_if, vd_if, Nat.reduceAdd, reduceIte, vm_10, vm_n0, ite_self, vm_mrg, vm_icons, vm_iint, c_addE]

def c_eK (v : vm_V) (o : Nat) : Int32 := v.1 o 6
theorem ct114 {o : Nat} : vE 114 0 [.ref o] [] v x ↔ x = vr (c_eK v o) v := by
  simp only [q114_0, q114_1, q114_4, exists_eq_left, vB_r, vB_d, vB_a, vB_if, vm_eqif, vr_if, vd_if, Nat.reduceAdd, reduceIte, vm_10, vm_n0, ite_self, vm_mrg, vm_icons, vm_iint, c_eK]

def c_gX (v : vm_V) (o : Nat) : Int32 := v.1 o 8
theorem ct117 {o : Nat} : vE 117 0 [.ref o] [] v x ↔ x = vr (c_gX v o) v := by
  simp only [q117_0, q117_1, q117_4, exists_eq_left, vB_r, vB_d, vB_a, vB_if, vm_eqif, vr_if, vd_if, Nat.reduceAdd, reduceIte, vm_10, vm_n0, ite_self, vm_mrg, vm_icons, vm_iint, c_gX]

def c_gY (v : vm_V) (o : Nat) : Int32 := v.1 o 9
theorem ct118 {o : Nat} : vE 118 0 [.ref o] [] v x ↔ x = vr (c_gY v o) v := by
  simp only [q118_0, q118_1, q118_4, exists_eq_left, vB_r, vB_d, vB_a, vB_if, vm_eqif, vr_if, vd_if, Nat.reduceAdd, reduceIte, vm_10, vm_n0, ite_self, vm_mrg, vm_icons, vm_iint, c_gY]

def c_cE (v : vm_V) (o : Nat) : Int32 := v.1 o 4
theorem ct131 {o : Nat} : vE 131 0 [.ref o] [] v x ↔ x = vr (c_cE v o) v := by
  simp only [q131_0, q131_1, q131_4, exists_eq_left, vB_r, vB_d, vB_a, vB_if, vm_eqif, vr_if, vd_if, Nat.reduceAdd, reduceIte, vm_10, vm_n0, ite_self, vm_mrg, vm_icons, vm_iint, c_cE]

def c_refuse (v : vm_V) (y : Int32) (a : Int32) (b : Int32) : vm_V := vm_si (vm_si (vm_si v 18 6 y) 18 7 a) 18 8 b
theorem ct82 {y a b : Int32} : vE 82 0 [.ref 18, .int y, .int a, .int b] [] v x ↔ x = vd (c_refuse v y a b) := by
  simp only [q82_0, q82_1, q82_2, q82_5, q82_6, q82_7, q82_10, q82_11, q82_12, q82_15, exists_eq_left, vB_r, vB_d, vB_a, vB_if, vm_eqif, vr_if, vd_if, Nat.reduceAdd, reduceIte, vm_10, vm_n0, ite_self, vm_mrg, vm_icons, vm_iint, c_refuse]

def c_isW (v : vm_V) (i : Int32) : Int32 := if v.1 18 6 = 0 then if v.1 18 5 ≤ i then 0 else 1 else 0
theorem ct83 {i : Int32} : vE 83 0 [.ref 18, .int i] [] v x ↔ x = vr (c_isW v i) v := by
  simp only [q83_0, q83_1, q83_4, q83_7, q83_8, q83_9, q83_12, q83_15, q83_16, exists_eq_left, vB_r, vB_d, vB_a, vB_if, vm_eqif, vr_if, vd_if, Nat.reduceAdd, reduceIte, vm_10, vm_n0, ite_self, vm_mrg, vm_icons, vm_iint, c_isW]
  try simp only [q83_0, q83_1, q83_4, q83_7, q83_8, q83_9, q83_12, q83_15, q83_16, q83_19, exists_eq_left, vB_r, vB_d, vB_a, vB_if, vm_eqif, vr_if, vd_if, Nat.reduceAdd, reduceIte, vm_10, vm_n0, ite_self, vm_mrg, vm_icons, vm_iint, c_isW]
  try simp only [q83_0, q83_1, q83_4, q83_7, q83_8, q83_9, q83_12, q83_15, q83_16, q83_19, q83_20, exists_eq_left, vB_r, vB_d, vB_a, vB_if, vm_eqif, vr_if, vd_if, Nat.reduceAdd, reduceIte, vm_10, vm_n0, ite_self, vm_mrg, vm_icons, vm_iint, c_isW]

def c_wIn (v : vm_V) (i : Int32) : Int32 := if i < 0 then (-1) else if 6 ≤ i then (-1) else v.1 60 i.toNatClampNeg
theorem ct84 {i : Int32} : vE 84 0 [.ref 18, .int i] [] v x ↔ x = vr (c_wIn v i) v := by
  simp only [q84_0, q84_1, q84_4, q84_5, q84_7, q84_10, q84_11, q84_14, q84_15, q84_16, exists_eq_left, vB_r, vB_d, vB_a, vB_if, vm_eqif, vr_if, vd_if, Nat.reduceAdd, reduceIte, vm_10, vm_n0, ite_self, vm_mrg, vm_icons, vm_iint, c_wIn]
  try simp only [q84_0, q84_1, q84_4, q84_5, q84_7, q84_10, q84_11, q84_14, q84_15, q84_16, q84_19, exists_eq_left, vB_r, vB_d, vB_a, vB_if, vm_eqif, vr_if, vd_if, Nat.reduceAdd, reduceIte, vm_10, vm_n0, ite_self, vm_mrg, vm_icons, vm_iint, c_wIn]
  try simp only [q84_0, q84_1, q84_4, q84_5, q84_7, q84_10, q84_11, q84_14, q84_15, q84_16, q84_19, q84_20, exists_eq_left, vB_r, vB_d, vB_a, vB_if, vm_eqif, vr_if, vd_if, Nat.reduceAdd, reduceIte, vm_10, vm_n0, ite_self, vm_mrg, vm_icons, vm_iint, c_wIn]

def c_pOf (v : vm_V) (i : Int32) : Int32 := if i < 0 then (-1) else if 6 ≤ i then (-1) else v.1 59 i.toNatClampNeg
theorem ct85 {i : Int32} : vE 85 0 [.ref 18, .int i] [] v x ↔ x = vr (c_pOf v i) v := by
  simp only [q85_0, q85_1, q85_4, q85_5, q85_7, q85_10, q85_11, q85_14, q85_15, q85_16, exists_eq_left, vB_r, vB_d, vB_a, vB_if, vm_eqif, vr_if, vd_if, Nat.reduceAdd, reduceIte, vm_10, vm_n0, ite_self, vm_mrg, vm_icons, vm_iint, c_pOf]
  try simp only [q85_0, q85_1, q85_4, q85_5, q85_7, q85_10, q85_11, q85_14, q85_15, q85_16, q85_19, exists_eq_left, vB_r, vB_d, vB_a, vB_if, vm_eqif, vr_if, vd_if, Nat.reduceAdd, reduceIte, vm_10, vm_n0, ite_self, vm_mrg, vm_icons, vm_iint, c_pOf]
  try simp only [q85_0, q85_1, q85_4, q85_5, q85_7, q85_10, q85_11, q85_14, q85_15, q85_16, q85_19, q85_20, exists_eq_left, vB_r, vB_d, vB_a, vB_if, vm_eqif, vr_if, vd_if, Nat.reduceAdd, reduceIte, vm_10, vm_n0, ite_self, vm_mrg, vm_icons, vm_iint, c_pOf]

def c_meet (v : vm_V) (a : Int32) (b : Int32) : vm_V := if v.1 18 6 = 0 then if a < 0 then v else if 6 ≤ a then v else if v.1 59 a.toNatClampNeg = b then v else if v.1 59 a.toNatClampNeg = (-1) then if v.1 18 5 < 0 then v else if 6 ≤ v.1 18 5 then v else vm_si (vm_si (vm_si v 59 a.toNatClampNeg b) 60 ((vm_si v 59 a.toNatClampNeg b).1 18 5).toNatClampNeg a) 18 5 (((vm_si (vm_si v 59 a.toNatClampNeg b) 60 ((vm_si v 59 a.toNatClampNeg b).1 18 5).toNatClampNeg a).1 18 5) + 1) else c_refuse v 1 a b else v
theorem ct81 {a b : Int32} : vE 81 0 [.ref 18, .int a, .int b] [] v x ↔ x = vd (c_meet v a b) := by
  simp only [q81_0, q81_1, q81_4, q81_7, q81_8, q81_11, q81_12, q81_14, q81_17, q81_18, q81_21, q81_22, q81_23, q81_24, q81_28, q81_29, q81_32, q81_33, q81_34, q81_35, q81_38, q81_39, q81_40, q81_41, q81_42, q81_45, q81_48, q81_49, q81_52, q81_55, q81_56, q81_59, q81_61, q81_64, q81_65, q81_68, q81_69, q81_70, q81_71, q81_72, q81_75, q81_76, q81_79, q81_80, q81_81, q81_82, q81_83, q81_86, q81_87, q81_88, ct82, exists_eq_left, vB_r, vB_d, vB_a, vB_if, vm_eqif, vr_if, vd_if, Nat.reduceAdd, reduceIte, vm_10, vm_n0, ite_self, vm_mrg, vm_icons, vm_iint, qt81, c_meet]
  try simp only [q81_0, q81_1, q81_4, q81_7, q81_8, q81_11, q81_12, q81_14, q81_17, q81_18, q81_21, q81_22, q81_23, q81_24, q81_28, q81_29, q81_32, q81_33, q81_34, q81_35, q81_38, q81_39, q81_40, q81_41, q81_42, q81_45, q81_48, q81_49, q81_52, q81_55, q81_56, q81_59, q81_61, q81_64, q81_65, q81_68, q81_69, q81_70, q81_71, q81_72, q81_75, q81_76, q81_79, q81_80, q81_81, q81_82, q81_83, q81_86, q81_87, q81_88, q81_27, ct82, exists_eq_left, vB_r, vB_d, vB_a, vB_if, vm_eqif, vr_if, vd_if, Nat.reduceAdd, reduceIte, vm_10, vm_n0, ite_self, vm_mrg, vm_icons, vm_iint, qt81, c_meet]
  try simp only [q81_0, q81_1, q81_4, q81_7, q81_8, q81_11, q81_12, q81_14, q81_17, q81_18, q81_21, q81_22, q81_23, q81_24, q81_28, q81_29, q81_32, q81_33, q81_34, q81_35, q81_38, q81_39, q81_40, q81_41, q81_42, q81_45, q81_48, q81_49, q81_52, q81_55, q81_56, q81_59, q81_61, q81_64, q81_65, q81_68, q81_69, q81_70, q81_71, q81_72, q81_75, q81_76, q81_79, q81_80, q81_81, q81_82, q81_83, q81_86, q81_87, q81_88, q81_27, q81_91, ct82, exists_eq_left, vB_r, vB_d, vB_a, vB_if, vm_eqif, vr_if, vd_if, Nat.reduceAdd, reduceIte, vm_10, vm_n0, ite_self, vm_mrg, vm_icons, vm_iint, qt81, c_meet]

def c_reason (v : vm_V)  : Int32 := v.1 18 6
theorem ct119 : vE 119 0 [.ref 18] [] v x ↔ x = vr (c_reason v) v := by
  simp only [q119_0, q119_1, q119_4, exists_eq_left, vB_r, vB_d, vB_a, vB_if, vm_eqif, vr_if, vd_if, Nat.reduceAdd, reduceIte, vm_10, vm_n0, ite_self, vm_mrg, vm_icons, vm_iint, c_reason]

def c_pairs (v : vm_V)  : Int32 := v.1 18 5
theorem ct120 : vE 120 0 [.ref 18] [] v x ↔ x = vr (c_pairs v) v := by
  simp only [q120_0, q120_1, q120_4, exists_eq_left, vB_r, vB_d, vB_a, vB_if, vm_eqif, vr_if, vd_if, Nat.reduceAdd, reduceIte, vm_10, vm_n0, ite_self, vm_mrg, vm_icons, vm_iint, c_pairs]

def c_hEnd (v : vm_V) (o : Nat) (q : Nat) : Int32 := if v.1 o 6 = v.1 q 6 then if v.1 o 7 = v.1 q 7 then 1 else 0 else 0
theorem ct113 {o q : Nat} : vE 113 0 [.ref o, .ref q] [] v x ↔ x = vr (c_hEnd v o q) v := by
  simp only [q113_0, q113_1, q113_4, q113_5, q113_8, q113_11, q113_12, q113_15, q113_16, q113_19, q113_22, q113_23, exists_eq_left, vB_r, vB_d, vB_a, vB_if, vm_eqif, vr_if, vd_if, Nat.reduceAdd, reduceIte, vm_10, vm_n0, ite_self, vm_mrg, vm_icons, vm_iint, c_hEnd]
  try simp only [q113_0, q113_1, q113_4, q113_5, q113_8, q113_11, q113_12, q113_15, q113_16, q113_19, q113_22, q113_23, q113_26, exists_eq_left, vB_r, vB_d, vB_a, vB_if, vm_eqif, vr_if, vd_if, Nat.reduceAdd, reduceIte, vm_10, vm_n0, ite_self, vm_mrg, vm_icons, vm_iint, c_hEnd]
  try simp only [q113_0, q113_1, q113_4, q113_5, q113_8, q113_11, q113_12, q113_15, q113_16, q113_19, q113_22, q113_23, q113_26, q113_27, exists_eq_left, vB_r, vB_d, vB_a, vB_if, vm_eqif, vr_if, vd_if, Nat.reduceAdd, reduceIte, vm_10, vm_n0, ite_self, vm_mrg, vm_icons, vm_iint, c_hEnd]

def c_hSame (v : vm_V) (a : Int32) (b : Int32) : Int32 := if c_ovin v 49 a = c_ovin v 54 b then 1 else 0
theorem ct127 {a b : Int32} : vE 127 0 [.ref 18, .int a, .int b] [] v x ↔ x = vr (c_hSame v a b) v := by
  simp only [q127_0, q127_1, q127_4, q127_5, q127_8, q127_9, q127_12, q127_13, q127_16, q127_19, q127_20, q127_23, ct91, exists_eq_left, vB_r, vB_d, vB_a, vB_if, vm_eqif, vr_if, vd_if, Nat.reduceAdd, reduceIte, vm_10, vm_n0, ite_self, vm_mrg, vm_icons, vm_iint, qt127, c_hSame]
  try simp only [q127_0, q127_1, q127_4, q127_5, q127_8, q127_9, q127_12, q127_13, q127_16, q127_19, q127_20, q127_23, q127_24, ct91, exists_eq_left, vB_r, vB_d, vB_a, vB_if, vm_eqif, vr_if, vd_if, Nat.reduceAdd, reduceIte, vm_10, vm_n0, ite_self, vm_mrg, vm_icons, vm_iint, qt127, c_hSame]

end EB
