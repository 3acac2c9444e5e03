section QE
variable {l0 l1 l2 l3 l4 l5 l6 l7 l8 l9 l10 w0 w1 w2 w3 w4 w5 w6 w7 : Value} {st : List Value} {v : vm_V} {x : vm_Y} {a b c : Int32} {p q : Nat} {u w : Int64}
/-! 146 PassCheckerModel.thrown()I -/
theorem q146_0 : vE 146 0 [.ref p] st v x ↔ vE 146 1 [.ref p] (.ref p :: st) v x := vE_s rfl rfl
theorem q146_1 : vE 146 1 [l0] (.ref p :: st) v x ↔ vE 146 4 [l0] (.int (v.1 p 0) :: st) v x := vE_s rfl rfl
theorem q146_4 : vE 146 4 [l0] ([.int a]) v x ↔ x = vr a v := vE_ir rfl
/-! 147 PassCheckerModel.block(I)I -/
theorem q147_0 : vE 147 0 [.ref p, l1, l2] st v x ↔ vE 147 1 [.ref p, l1, l2] (.ref p :: st) v x := vE_s rfl rfl
theorem q147_1 : vE 147 1 [l0, .int a, l2] st v x ↔ vE 147 2 [l0, .int a, l2] (.int a :: st) v x := vE_s rfl rfl
theorem q147_2 : vE 147 2 [l0, l1, l2] st v x ↔ vE 147 3 [l0, l1, l2] (.int 2 :: st) v x := vE_s rfl (by rfl)
theorem q147_3 : vE 147 3 [l0, l1, l2] (w1 :: w0 :: st) v x ↔ ∃ y : vm_Y, vE 148 0 [w0, w1] [] v y ∧ vB 147 3 [l0, l1, l2] st y x := vE_cs rfl rfl rfl rfl
theorem q147_6 : vE 147 6 [l0, l1, l2] (.int a :: st) v x ↔ if a = 0 then vE 147 13 [l0, l1, l2] st v x else vE 147 9 [l0, l1, l2] st v x := vE_if rfl rfl
theorem q147_9 : vE 147 9 [l0, l1, l2] st v x ↔ vE 147 10 [l0, l1, l2] (.int 1 :: st) v x := vE_s rfl (by rfl)
theorem q147_10 : vE 147 10 [l0, l1, l2] st v x ↔ vE 147 29 [l0, l1, l2] st v x := vE_s rfl rfl
theorem q147_13 : vE 147 13 [.ref p, l1, l2] st v x ↔ vE 147 14 [.ref p, l1, l2] (.ref p :: st) v x := vE_s rfl rfl
theorem q147_14 : vE 147 14 [l0, l1, l2] (.ref p :: st) v x ↔ vE 147 17 [l0, l1, l2] (.ref (p + 1) :: st) v x := vE_s rfl rfl
theorem q147_17 : vE 147 17 [l0, .int a, l2] st v x ↔ vE 147 18 [l0, .int a, l2] (.int a :: st) v x := vE_s rfl rfl
theorem q147_18 : vE 147 18 [l0, l1, l2] (.int a :: .ref p :: st) v x ↔ vE 147 19 [l0, l1, l2] (.int (v.1 p a.toNatClampNeg) :: st) v x := vE_s rfl rfl
theorem q147_19 : vE 147 19 [l0, l1, l2] st v x ↔ vE 147 21 [l0, l1, l2] (.int 6 :: st) v x := vE_s rfl (by rfl)
theorem q147_21 : vE 147 21 [l0, l1, l2] (.int b :: .int a :: st) v x ↔ if a = b then vE 147 24 [l0, l1, l2] st v x else vE 147 28 [l0, l1, l2] st v x := vE_if rfl rfl
theorem q147_24 : vE 147 24 [l0, l1, l2] st v x ↔ vE 147 25 [l0, l1, l2] (.int 2 :: st) v x := vE_s rfl (by rfl)
theorem q147_25 : vE 147 25 [l0, l1, l2] st v x ↔ vE 147 29 [l0, l1, l2] st v x := vE_s rfl rfl
theorem q147_28 : vE 147 28 [l0, l1, l2] st v x ↔ vE 147 29 [l0, l1, l2] (.int 0 :: st) v x := vE_s rfl (by rfl)
theorem q147_29 : vE 147 29 [l0, l1, l2] (.int a :: .ref p :: st) v x ↔ vE 147 32 [l0, l1, l2] st (vm_si v p 0 a) x := vE_s rfl rfl
theorem q147_32 : vE 147 32 [.ref p, l1, l2] st v x ↔ vE 147 33 [.ref p, l1, l2] (.ref p :: st) v x := vE_s rfl rfl
theorem q147_33 : vE 147 33 [l0, l1, l2] (.ref p :: st) v x ↔ vE 147 36 [l0, l1, l2] (.int (v.1 p 0) :: st) v x := vE_s rfl rfl
theorem q147_36 : vE 147 36 [l0, l1, l2] (.int a :: st) v x ↔ if a ≤ 0 then vE 147 41 [l0, l1, l2] st v x else vE 147 39 [l0, l1, l2] st v x := vE_if rfl rfl
theorem q147_39 : vE 147 39 [l0, l1, l2] st v x ↔ vE 147 40 [l0, l1, l2] (.int 0 :: st) v x := vE_s rfl (by rfl)
theorem q147_40 : vE 147 40 [l0, l1, l2] ([.int a]) v x ↔ x = vr a v := vE_ir rfl
theorem q147_41 : vE 147 41 [l0, l1, l2] st v x ↔ vE 147 43 [l0, l1, l2] (.int 6 :: st) v x := vE_s rfl (by rfl)
theorem q147_43 : vE 147 43 [l0, .int a, l2] st v x ↔ vE 147 44 [l0, .int a, l2] (.int a :: st) v x := vE_s rfl rfl
theorem q147_44 : vE 147 44 [l0, l1, l2] (.int b :: .int a :: st) v x ↔ vE 147 45 [l0, l1, l2] (.int (a * b) :: st) v x := vE_s rfl rfl
theorem q147_45 : vE 147 45 [.ref p, l1, l2] st v x ↔ vE 147 46 [.ref p, l1, l2] (.ref p :: st) v x := vE_s rfl rfl
theorem q147_46 : vE 147 46 [l0, l1, l2] (.ref p :: st) v x ↔ vE 147 49 [l0, l1, l2] (.ref (p + 1) :: st) v x := vE_s rfl rfl
theorem q147_49 : vE 147 49 [l0, .int a, l2] st v x ↔ vE 147 50 [l0, .int a, l2] (.int a :: st) v x := vE_s rfl rfl
theorem q147_50 : vE 147 50 [l0, l1, l2] (.int a :: .ref p :: st) v x ↔ vE 147 51 [l0, l1, l2] (.int (v.1 p a.toNatClampNeg) :: st) v x := vE_s rfl rfl
theorem q147_51 : vE 147 51 [l0, l1, l2] (.int b :: .int a :: st) v x ↔ vE 147 52 [l0, l1, l2] (.int (a + b) :: st) v x := vE_s rfl rfl
theorem q147_52 : vE 147 52 [l0, l1, l2] (.int a :: st) v x ↔ vE 147 53 [l0, l1, .int a] st v x := vE_s rfl rfl
theorem q147_53 : vE 147 53 [.ref p, l1, l2] st v x ↔ vE 147 54 [.ref p, l1, l2] (.ref p :: st) v x := vE_s rfl rfl
theorem q147_54 : vE 147 54 [l0, l1, l2] (.ref p :: st) v x ↔ vE 147 57 [l0, l1, l2] (.ref (p + 2) :: st) v x := vE_s rfl rfl
theorem q147_57 : vE 147 57 [l0, l1, .int a] st v x ↔ vE 147 58 [l0, l1, .int a] (.int a :: st) v x := vE_s rfl rfl
theorem q147_58 : vE 147 58 [l0, l1, l2] st v x ↔ vE 147 59 [l0, l1, l2] (.int 0 :: st) v x := vE_s rfl (by rfl)
theorem q147_59 : vE 147 59 [l0, l1, l2] (.int b :: .int a :: .ref p :: st) v x ↔ vE 147 60 [l0, l1, l2] st (vm_si v p a.toNatClampNeg b) x := vE_s rfl rfl
theorem q147_60 : vE 147 60 [.ref p, l1, l2] st v x ↔ vE 147 61 [.ref p, l1, l2] (.ref p :: st) v x := vE_s rfl rfl
theorem q147_61 : vE 147 61 [l0, l1, .int a] st v x ↔ vE 147 62 [l0, l1, .int a] (.int a :: st) v x := vE_s rfl rfl
theorem q147_62 : vE 147 62 [l0, l1, l2] st v x ↔ vE 147 63 [l0, l1, l2] (.int 2 :: st) v x := vE_s rfl (by rfl)
theorem q147_63 : vE 147 63 [l0, l1, l2] st v x ↔ vE 147 64 [l0, l1, l2] (.int 0 :: st) v x := vE_s rfl (by rfl)
theorem q147_64 : vE 147 64 [l0, l1, l2] st v x ↔ vE 147 65 [l0, l1, l2] (.int 0 :: st) v x := vE_s rfl (by rfl)
theorem q147_65 : vE 147 65 [l0, l1, l2] st v x ↔ vE 147 66 [l0, l1, l2] (.int 0 :: st) v x := vE_s rfl (by rfl)
theorem q147_66 : vE 147 66 [l0, l1, l2] (w5 :: w4 :: w3 :: w2 :: w1 :: w0 :: st) v x ↔ ∃ y : vm_Y, vE 149 0 [w0, w1, w2, w3, w4, w5] [] v y ∧ vB 147 66 [l0, l1, l2] st y x := vE_cv rfl rfl rfl rfl
theorem q147_69 : vE 147 69 [.ref p, l1, l2] st v x ↔ vE 147 70 [.ref p, l1, l2] (.ref p :: st) v x := vE_s rfl rfl
theorem q147_70 : vE 147 70 [l0, l1, l2] (.ref p :: st) v x ↔ vE 147 73 [l0, l1, l2] (.ref (p + 1) :: st) v x := vE_s rfl rfl
theorem q147_73 : vE 147 73 [l0, .int a, l2] st v x ↔ vE 147 74 [l0, .int a, l2] (.int a :: st) v x := vE_s rfl rfl
theorem q147_74 : vE 147 74 [l0, l1, l2] (.int a :: .ref p :: st) v x ↔ vE 147 75 [l0, l1, l2] (.int a :: .ref p :: .int a :: .ref p :: st) v x := vE_s rfl rfl
theorem q147_75 : vE 147 75 [l0, l1, l2] (.int a :: .ref p :: st) v x ↔ vE 147 76 [l0, l1, l2] (.int (v.1 p a.toNatClampNeg) :: st) v x := vE_s rfl rfl
theorem q147_76 : vE 147 76 [l0, l1, l2] st v x ↔ vE 147 77 [l0, l1, l2] (.int 1 :: st) v x := vE_s rfl (by rfl)
theorem q147_77 : vE 147 77 [l0, l1, l2] (.int b :: .int a :: st) v x ↔ vE 147 78 [l0, l1, l2] (.int (a + b) :: st) v x := vE_s rfl rfl
theorem q147_78 : vE 147 78 [l0, l1, l2] (.int b :: .int a :: .ref p :: st) v x ↔ vE 147 79 [l0, l1, l2] st (vm_si v p a.toNatClampNeg b) x := vE_s rfl rfl
theorem q147_79 : vE 147 79 [.ref p, l1, l2] st v x ↔ vE 147 80 [.ref p, l1, l2] (.ref p :: st) v x := vE_s rfl rfl
theorem q147_80 : vE 147 80 [l0, l1, l2] (w0 :: st) v x ↔ ∃ y : vm_Y, vE 150 0 [w0] [] v y ∧ vB 147 80 [l0, l1, l2] st y x := vE_cv rfl rfl rfl rfl
theorem q147_83 : vE 147 83 [.ref p, l1, l2] st v x ↔ vE 147 84 [.ref p, l1, l2] (.ref p :: st) v x := vE_s rfl rfl
theorem q147_84 : vE 147 84 [l0, l1, l2] (.ref p :: st) v x ↔ vE 147 87 [l0, l1, l2] (.ref (p + 1) :: st) v x := vE_s rfl rfl
theorem q147_87 : vE 147 87 [l0, .int a, l2] st v x ↔ vE 147 88 [l0, .int a, l2] (.int a :: st) v x := vE_s rfl rfl
theorem q147_88 : vE 147 88 [l0, l1, l2] (.int a :: .ref p :: st) v x ↔ vE 147 89 [l0, l1, l2] (.int (v.1 p a.toNatClampNeg) :: st) v x := vE_s rfl rfl
theorem q147_89 : vE 147 89 [l0, l1, l2] st v x ↔ vE 147 90 [l0, l1, l2] (.int 1 :: st) v x := vE_s rfl (by rfl)
theorem q147_90 : vE 147 90 [l0, l1, l2] (.int b :: .int a :: st) v x ↔ vE 147 91 [l0, l1, l2] (.int (a - b) :: st) v x := vE_s rfl rfl
theorem q147_91 : vE 147 91 [l0, l1, l2] ([.int a]) v x ↔ x = vr a v := vE_ir rfl
theorem qt147 {X pc : Nat} {L r : List Value} : vB 147 pc L r (vt X v) x ↔ x = vt X v := vB_t rfl
/-! 148 PassCheckerModel.outside(II)Z -/
theorem q148_0 : vE 148 0 [.int a, l1] st v x ↔ vE 148 1 [.int a, l1] (.int a :: st) v x := vE_s rfl rfl
theorem q148_1 : vE 148 1 [l0, l1] (.int a :: st) v x ↔ if a < 0 then vE 148 9 [l0, l1] st v x else vE 148 4 [l0, l1] st v x := vE_if rfl rfl
theorem q148_4 : vE 148 4 [.int a, l1] st v x ↔ vE 148 5 [.int a, l1] (.int a :: st) v x := vE_s rfl rfl
theorem q148_5 : vE 148 5 [l0, .int a] st v x ↔ vE 148 6 [l0, .int a] (.int a :: st) v x := vE_s rfl rfl
theorem q148_6 : vE 148 6 [l0, l1] (.int b :: .int a :: st) v x ↔ if a < b then vE 148 13 [l0, l1] st v x else vE 148 9 [l0, l1] st v x := vE_if rfl rfl
theorem q148_9 : vE 148 9 [l0, l1] st v x ↔ vE 148 10 [l0, l1] (.int 1 :: st) v x := vE_s rfl (by rfl)
theorem q148_10 : vE 148 10 [l0, l1] st v x ↔ vE 148 14 [l0, l1] st v x := vE_s rfl rfl
theorem q148_13 : vE 148 13 [l0, l1] st v x ↔ vE 148 14 [l0, l1] (.int 0 :: st) v x := vE_s rfl (by rfl)
theorem q148_14 : vE 148 14 [l0, l1] ([.int a]) v x ↔ x = vr a v := vE_ir rfl
/-! 149 PassCheckerModel.setEnd(IIIII)V -/
theorem q149_0 : vE 149 0 [.ref p, l1, l2, l3, l4, l5] st v x ↔ vE 149 1 [.ref p, l1, l2, l3, l4, l5] (.ref p :: st) v x := vE_s rfl rfl
theorem q149_1 : vE 149 1 [l0, l1, l2, l3, l4, l5] (.ref p :: st) v x ↔ vE 149 4 [l0, l1, l2, l3, l4, l5] (.ref (p + 4) :: st) v x := vE_s rfl rfl
theorem q149_4 : vE 149 4 [l0, l1, l2, l3, l4, l5] st v x ↔ vE 149 5 [l0, l1, l2, l3, l4, l5] (.int 4 :: st) v x := vE_s rfl (by rfl)
theorem q149_5 : vE 149 5 [l0, .int a, l2, l3, l4, l5] st v x ↔ vE 149 6 [l0, .int a, l2, l3, l4, l5] (.int a :: st) v x := vE_s rfl rfl
theorem q149_6 : vE 149 6 [l0, l1, l2, l3, l4, l5] (.int b :: .int a :: st) v x ↔ vE 149 7 [l0, l1, l2, l3, l4, l5] (.int (a * b) :: st) v x := vE_s rfl rfl
theorem q149_7 : vE 149 7 [l0, l1, .int a, l3, l4, l5] st v x ↔ vE 149 8 [l0, l1, .int a, l3, l4, l5] (.int a :: st) v x := vE_s rfl rfl
theorem q149_8 : vE 149 8 [l0, l1, l2, l3, l4, l5] (.int b :: .int a :: .ref p :: st) v x ↔ vE 149 9 [l0, l1, l2, l3, l4, l5] st (vm_si v p a.toNatClampNeg b) x := vE_s rfl rfl
theorem q149_9 : vE 149 9 [.ref p, l1, l2, l3, l4, l5] st v x ↔ vE 149 10 [.ref p, l1, l2, l3, l4, l5] (.ref p :: st) v x := vE_s rfl rfl
theorem q149_10 : vE 149 10 [l0, l1, l2, l3, l4, l5] (.ref p :: st) v x ↔ vE 149 13 [l0, l1, l2, l3, l4, l5] (.ref (p + 4) :: st) v x := vE_s rfl rfl
theorem q149_13 : vE 149 13 [l0, l1, l2, l3, l4, l5] st v x ↔ vE 149 14 [l0, l1, l2, l3, l4, l5] (.int 4 :: st) v x := vE_s rfl (by rfl)
theorem q149_14 : vE 149 14 [l0, .int a, l2, l3, l4, l5] st v x ↔ vE 149 15 [l0, .int a, l2, l3, l4, l5] (.int a :: st) v x := vE_s rfl rfl
theorem q149_15 : vE 149 15 [l0, l1, l2, l3, l4, l5] (.int b :: .int a :: st) v x ↔ vE 149 16 [l0, l1, l2, l3, l4, l5] (.int (a * b) :: st) v x := vE_s rfl rfl
theorem q149_16 : vE 149 16 [l0, l1, l2, l3, l4, l5] st v x ↔ vE 149 17 [l0, l1, l2, l3, l4, l5] (.int 1 :: st) v x := vE_s rfl (by rfl)
theorem q149_17 : vE 149 17 [l0, l1, l2, l3, l4, l5] (.int b :: .int a :: st) v x ↔ vE 149 18 [l0, l1, l2, l3, l4, l5] (.int (a + b) :: st) v x := vE_s rfl rfl
theorem q149_18 : vE 149 18 [l0, l1, l2, .int a, l4, l5] st v x ↔ vE 149 19 [l0, l1, l2, .int a, l4, l5] (.int a :: st) v x := vE_s rfl rfl
theorem q149_19 : vE 149 19 [l0, l1, l2, l3, l4, l5] (.int b :: .int a :: .ref p :: st) v x ↔ vE 149 20 [l0, l1, l2, l3, l4, l5] st (vm_si v p a.toNatClampNeg b) x := vE_s rfl rfl
theorem q149_20 : vE 149 20 [.ref p, l1, l2, l3, l4, l5] st v x ↔ vE 149 21 [.ref p, l1, l2, l3, l4, l5] (.ref p :: st) v x := vE_s rfl rfl
theorem q149_21 : vE 149 21 [l0, l1, l2, l3, l4, l5] (.ref p :: st) v x ↔ vE 149 24 [l0, l1, l2, l3, l4, l5] (.ref (p + 4) :: st) v x := vE_s rfl rfl
theorem q149_24 : vE 149 24 [l0, l1, l2, l3, l4, l5] st v x ↔ vE 149 25 [l0, l1, l2, l3, l4, l5] (.int 4 :: st) v x := vE_s rfl (by rfl)
theorem q149_25 : vE 149 25 [l0, .int a, l2, l3, l4, l5] st v x ↔ vE 149 26 [l0, .int a, l2, l3, l4, l5] (.int a :: st) v x := vE_s rfl rfl
theorem q149_26 : vE 149 26 [l0, l1, l2, l3, l4, l5] (.int b :: .int a :: st) v x ↔ vE 149 27 [l0, l1, l2, l3, l4, l5] (.int (a * b) :: st) v x := vE_s rfl rfl
theorem q149_27 : vE 149 27 [l0, l1, l2, l3, l4, l5] st v x ↔ vE 149 28 [l0, l1, l2, l3, l4, l5] (.int 2 :: st) v x := vE_s rfl (by rfl)
theorem q149_28 : vE 149 28 [l0, l1, l2, l3, l4, l5] (.int b :: .int a :: st) v x ↔ vE 149 29 [l0, l1, l2, l3, l4, l5] (.int (a + b) :: st) v x := vE_s rfl rfl
theorem q149_29 : vE 149 29 [l0, l1, l2, l3, .int a, l5] st v x ↔ vE 149 31 [l0, l1, l2, l3, .int a, l5] (.int a :: st) v x := vE_s rfl rfl
theorem q149_31 : vE 149 31 [l0, l1, l2, l3, l4, l5] (.int b :: .int a :: .ref p :: st) v x ↔ vE 149 32 [l0, l1, l2, l3, l4, l5] st (vm_si v p a.toNatClampNeg b) x := vE_s rfl rfl
theorem q149_32 : vE 149 32 [.ref p, l1, l2, l3, l4, l5] st v x ↔ vE 149 33 [.ref p, l1, l2, l3, l4, l5] (.ref p :: st) v x := vE_s rfl rfl
theorem q149_33 : vE 149 33 [l0, l1, l2, l3, l4, l5] (.ref p :: st) v x ↔ vE 149 36 [l0, l1, l2, l3, l4, l5] (.ref (p + 4) :: st) v x := vE_s rfl rfl
theorem q149_36 : vE 149 36 [l0, l1, l2, l3, l4, l5] st v x ↔ vE 149 37 [l0, l1, l2, l3, l4, l5] (.int 4 :: st) v x := vE_s rfl (by rfl)
theorem q149_37 : vE 149 37 [l0, .int a, l2, l3, l4, l5] st v x ↔ vE 149 38 [l0, .int a, l2, l3, l4, l5] (.int a :: st) v x := vE_s rfl rfl
theorem q149_38 : vE 149 38 [l0, l1, l2, l3, l4, l5] (.int b :: .int a :: st) v x ↔ vE 149 39 [l0, l1, l2, l3, l4, l5] (.int (a * b) :: st) v x := vE_s rfl rfl
theorem q149_39 : vE 149 39 [l0, l1, l2, l3, l4, l5] st v x ↔ vE 149 40 [l0, l1, l2, l3, l4, l5] (.int 3 :: st) v x := vE_s rfl (by rfl)
theorem q149_40 : vE 149 40 [l0, l1, l2, l3, l4, l5] (.int b :: .int a :: st) v x ↔ vE 149 41 [l0, l1, l2, l3, l4, l5] (.int (a + b) :: st) v x := vE_s rfl rfl
theorem q149_41 : vE 149 41 [l0, l1, l2, l3, l4, .int a] st v x ↔ vE 149 43 [l0, l1, l2, l3, l4, .int a] (.int a :: st) v x := vE_s rfl rfl
theorem q149_43 : vE 149 43 [l0, l1, l2, l3, l4, l5] (.int b :: .int a :: .ref p :: st) v x ↔ vE 149 44 [l0, l1, l2, l3, l4, l5] st (vm_si v p a.toNatClampNeg b) x := vE_s rfl rfl
theorem q149_44 : vE 149 44 [l0, l1, l2, l3, l4, l5] [] v x ↔ x = vd v := vE_vr rfl
/-! 150 PassCheckerModel.changed()V -/
theorem q150_0 : vE 150 0 [.ref p] st v x ↔ vE 150 1 [.ref p] (.ref p :: st) v x := vE_s rfl rfl
theorem q150_1 : vE 150 1 [l0] st v x ↔ vE 150 2 [l0] (.int (-1) :: st) v x := vE_s rfl (by rfl)
theorem q150_2 : vE 150 2 [l0] (.int a :: .ref p :: st) v x ↔ vE 150 5 [l0] st (vm_si v p 20 a) x := vE_s rfl rfl
theorem q150_5 : vE 150 5 [.ref p] st v x ↔ vE 150 6 [.ref p] (.ref p :: st) v x := vE_s rfl rfl
theorem q150_6 : vE 150 6 [l0] st v x ↔ vE 150 7 [l0] (.int (-1) :: st) v x := vE_s rfl (by rfl)
theorem q150_7 : vE 150 7 [l0] (.int a :: .ref p :: st) v x ↔ vE 150 10 [l0] st (vm_si v p 21 a) x := vE_s rfl rfl
theorem q150_10 : vE 150 10 [.ref p] st v x ↔ vE 150 11 [.ref p] (.ref p :: st) v x := vE_s rfl rfl
theorem q150_11 : vE 150 11 [l0] st v x ↔ vE 150 12 [l0] (.int (-1) :: st) v x := vE_s rfl (by rfl)
theorem q150_12 : vE 150 12 [l0] (.int a :: .ref p :: st) v x ↔ vE 150 15 [l0] st (vm_si v p 22 a) x := vE_s rfl rfl
theorem q150_15 : vE 150 15 [l0] [] v x ↔ x = vd v := vE_vr rfl
/-! 151 PassCheckerModel.code(IIIIII)I -/
theorem q151_0 : vE 151 0 [.ref p, l1, l2, l3, l4, l5, l6, l7] st v x ↔ vE 151 1 [.ref p, l1, l2, l3, l4, l5, l6, l7] (.ref p :: st) v x := vE_s rfl rfl
theorem q151_1 : vE 151 1 [l0, l1, l2, l3, l4, l5, l6, l7] st v x ↔ vE 151 2 [l0, l1, l2, l3, l4, l5, l6, l7] (.int 0 :: st) v x := vE_s rfl (by rfl)
theorem q151_2 : vE 151 2 [l0, l1, l2, l3, l4, l5, l6, l7] (.int a :: .ref p :: st) v x ↔ vE 151 5 [l0, l1, l2, l3, l4, l5, l6, l7] st (vm_si v p 0 a) x := vE_s rfl rfl
theorem q151_5 : vE 151 5 [.ref p, l1, l2, l3, l4, l5, l6, l7] st v x ↔ vE 151 6 [.ref p, l1, l2, l3, l4, l5, l6, l7] (.ref p :: st) v x := vE_s rfl rfl
theorem q151_6 : vE 151 6 [l0, .int a, l2, l3, l4, l5, l6, l7] st v x ↔ vE 151 7 [l0, .int a, l2, l3, l4, l5, l6, l7] (.int a :: st) v x := vE_s rfl rfl
theorem q151_7 : vE 151 7 [l0, l1, .int a, l3, l4, l5, l6, l7] st v x ↔ vE 151 8 [l0, l1, .int a, l3, l4, l5, l6, l7] (.int a :: st) v x := vE_s rfl rfl
theorem q151_8 : vE 151 8 [l0, l1, l2, l3, l4, l5, l6, l7] (w2 :: w1 :: w0 :: st) v x ↔ ∃ y : vm_Y, vE 152 0 [w0, w1, w2] [] v y ∧ vB 151 8 [l0, l1, l2, l3, l4, l5, l6, l7] st y x := vE_cv rfl rfl rfl rfl
theorem q151_11 : vE 151 11 [l0, l1, l2, l3, l4, l5, l6, l7] (.int a :: st) v x ↔ if a = 0 then vE 151 14 [l0, l1, l2, l3, l4, l5, l6, l7] st v x else vE 151 20 [l0, l1, l2, l3, l4, l5, l6, l7] st v x := vE_if rfl rfl
theorem q151_14 : vE 151 14 [.ref p, l1, l2, l3, l4, l5, l6, l7] st v x ↔ vE 151 15 [.ref p, l1, l2, l3, l4, l5, l6, l7] (.ref p :: st) v x := vE_s rfl rfl
theorem q151_15 : vE 151 15 [l0, l1, l2, l3, l4, l5, l6, l7] st v x ↔ vE 151 16 [l0, l1, l2, l3, l4, l5, l6, l7] (.int 1 :: st) v x := vE_s rfl (by rfl)
theorem q151_16 : vE 151 16 [l0, l1, l2, l3, l4, l5, l6, l7] (w1 :: w0 :: st) v x ↔ ∃ y : vm_Y, vE 153 0 [w0, w1] [] v y ∧ vB 151 16 [l0, l1, l2, l3, l4, l5, l6, l7] st y x := vE_cv rfl rfl rfl rfl
theorem q151_19 : vE 151 19 [l0, l1, l2, l3, l4, l5, l6, l7] ([.int a]) v x ↔ x = vr a v := vE_ir rfl
theorem q151_20 : vE 151 20 [l0, l1, l2, .int a, l4, l5, l6, l7] st v x ↔ vE 151 21 [l0, l1, l2, .int a, l4, l5, l6, l7] (.int a :: st) v x := vE_s rfl rfl
theorem q151_21 : vE 151 21 [l0, l1, l2, l3, l4, l5, l6, l7] st v x ↔ vE 151 23 [l0, l1, l2, l3, l4, l5, l6, l7] (.int 10 :: st) v x := vE_s rfl (by rfl)
theorem q151_23 : vE 151 23 [l0, l1, l2, l3, l4, l5, l6, l7] (w1 :: w0 :: st) v x ↔ ∃ y : vm_Y, vE 148 0 [w0, w1] [] v y ∧ vB 151 23 [l0, l1, l2, l3, l4, l5, l6, l7] st y x := vE_cs rfl rfl rfl rfl
theorem q151_26 : vE 151 26 [l0, l1, l2, l3, l4, l5, l6, l7] (.int a :: st) v x ↔ if a = 0 then vE 151 29 [l0, l1, l2, l3, l4, l5, l6, l7] st v x else vE 151 80 [l0, l1, l2, l3, l4, l5, l6, l7] st v x := vE_if rfl rfl
theorem q151_29 : vE 151 29 [l0, l1, l2, .int a, l4, l5, l6, l7] st v x ↔ vE 151 30 [l0, l1, l2, .int a, l4, l5, l6, l7] (.int a :: st) v x := vE_s rfl rfl
theorem q151_30 : vE 151 30 [l0, l1, l2, l3, l4, l5, l6, l7] (w0 :: st) v x ↔ ∃ y : vm_Y, vE 154 0 [w0] [] v y ∧ vB 151 30 [l0, l1, l2, l3, l4, l5, l6, l7] st y x := vE_cs rfl rfl rfl rfl
theorem q151_33 : vE 151 33 [l0, l1, l2, l3, l4, l5, l6, l7] (.int a :: st) v x ↔ if a = 0 then vE 151 46 [l0, l1, l2, l3, l4, l5, l6, l7] st v x else vE 151 36 [l0, l1, l2, l3, l4, l5, l6, l7] st v x := vE_if rfl rfl
theorem q151_36 : vE 151 36 [l0, l1, l2, l3, .int a, l5, l6, l7] st v x ↔ vE 151 38 [l0, l1, l2, l3, .int a, l5, l6, l7] (.int a :: st) v x := vE_s rfl rfl
theorem q151_38 : vE 151 38 [l0, l1, l2, l3, l4, l5, l6, l7] st v x ↔ vE 151 40 [l0, l1, l2, l3, l4, l5, l6, l7] (.int 6 :: st) v x := vE_s rfl (by rfl)
theorem q151_40 : vE 151 40 [l0, l1, l2, l3, l4, l5, l6, l7] (w1 :: w0 :: st) v x ↔ ∃ y : vm_Y, vE 148 0 [w0, w1] [] v y ∧ vB 151 40 [l0, l1, l2, l3, l4, l5, l6, l7] st y x := vE_cs rfl rfl rfl rfl
theorem q151_43 : vE 151 43 [l0, l1, l2, l3, l4, l5, l6, l7] (.int a :: st) v x ↔ if a = 0 then vE 151 46 [l0, l1, l2, l3, l4, l5, l6, l7] st v x else vE 151 80 [l0, l1, l2, l3, l4, l5, l6, l7] st v x := vE_if rfl rfl
theorem q151_46 : vE 151 46 [l0, l1, l2, .int a, l4, l5, l6, l7] st v x ↔ vE 151 47 [l0, l1, l2, .int a, l4, l5, l6, l7] (.int a :: st) v x := vE_s rfl rfl
theorem q151_47 : vE 151 47 [l0, l1, l2, l3, l4, l5, l6, l7] (w0 :: st) v x ↔ ∃ y : vm_Y, vE 155 0 [w0] [] v y ∧ vB 151 47 [l0, l1, l2, l3, l4, l5, l6, l7] st y x := vE_cs rfl rfl rfl rfl
theorem q151_50 : vE 151 50 [l0, l1, l2, l3, l4, l5, l6, l7] (.int a :: st) v x ↔ if a = 0 then vE 151 63 [l0, l1, l2, l3, l4, l5, l6, l7] st v x else vE 151 53 [l0, l1, l2, l3, l4, l5, l6, l7] st v x := vE_if rfl rfl
theorem q151_53 : vE 151 53 [l0, l1, l2, l3, l4, .int a, l6, l7] st v x ↔ vE 151 55 [l0, l1, l2, l3, l4, .int a, l6, l7] (.int a :: st) v x := vE_s rfl rfl
theorem q151_55 : vE 151 55 [l0, l1, l2, l3, l4, l5, l6, l7] st v x ↔ vE 151 57 [l0, l1, l2, l3, l4, l5, l6, l7] (.int 6 :: st) v x := vE_s rfl (by rfl)
theorem q151_57 : vE 151 57 [l0, l1, l2, l3, l4, l5, l6, l7] (w1 :: w0 :: st) v x ↔ ∃ y : vm_Y, vE 148 0 [w0, w1] [] v y ∧ vB 151 57 [l0, l1, l2, l3, l4, l5, l6, l7] st y x := vE_cs rfl rfl rfl rfl
theorem q151_60 : vE 151 60 [l0, l1, l2, l3, l4, l5, l6, l7] (.int a :: st) v x ↔ if a = 0 then vE 151 63 [l0, l1, l2, l3, l4, l5, l6, l7] st v x else vE 151 80 [l0, l1, l2, l3, l4, l5, l6, l7] st v x := vE_if rfl rfl
theorem q151_63 : vE 151 63 [l0, l1, l2, .int a, l4, l5, l6, l7] st v x ↔ vE 151 64 [l0, l1, l2, .int a, l4, l5, l6, l7] (.int a :: st) v x := vE_s rfl rfl
theorem q151_64 : vE 151 64 [l0, l1, l2, l3, l4, l5, l6, l7] (w0 :: st) v x ↔ ∃ y : vm_Y, vE 156 0 [w0] [] v y ∧ vB 151 64 [l0, l1, l2, l3, l4, l5, l6, l7] st y x := vE_cs rfl rfl rfl rfl
theorem q151_67 : vE 151 67 [l0, l1, l2, l3, l4, l5, l6, l7] (.int a :: st) v x ↔ if a = 0 then vE 151 86 [l0, l1, l2, l3, l4, l5, l6, l7] st v x else vE 151 70 [l0, l1, l2, l3, l4, l5, l6, l7] st v x := vE_if rfl rfl
theorem q151_70 : vE 151 70 [l0, l1, l2, l3, l4, l5, .int a, l7] st v x ↔ vE 151 72 [l0, l1, l2, l3, l4, l5, .int a, l7] (.int a :: st) v x := vE_s rfl rfl
theorem q151_72 : vE 151 72 [l0, l1, l2, l3, l4, l5, l6, l7] st v x ↔ vE 151 74 [l0, l1, l2, l3, l4, l5, l6, l7] (.int 6 :: st) v x := vE_s rfl (by rfl)
theorem q151_74 : vE 151 74 [l0, l1, l2, l3, l4, l5, l6, l7] (w1 :: w0 :: st) v x ↔ ∃ y : vm_Y, vE 148 0 [w0, w1] [] v y ∧ vB 151 74 [l0, l1, l2, l3, l4, l5, l6, l7] st y x := vE_cs rfl rfl rfl rfl
theorem q151_77 : vE 151 77 [l0, l1, l2, l3, l4, l5, l6, l7] (.int a :: st) v x ↔ if a = 0 then vE 151 86 [l0, l1, l2, l3, l4, l5, l6, l7] st v x else vE 151 80 [l0, l1, l2, l3, l4, l5, l6, l7] st v x := vE_if rfl rfl
theorem q151_80 : vE 151 80 [.ref p, l1, l2, l3, l4, l5, l6, l7] st v x ↔ vE 151 81 [.ref p, l1, l2, l3, l4, l5, l6, l7] (.ref p :: st) v x := vE_s rfl rfl
theorem q151_81 : vE 151 81 [l0, l1, l2, l3, l4, l5, l6, l7] st v x ↔ vE 151 82 [l0, l1, l2, l3, l4, l5, l6, l7] (.int 2 :: st) v x := vE_s rfl (by rfl)
theorem q151_82 : vE 151 82 [l0, l1, l2, l3, l4, l5, l6, l7] (w1 :: w0 :: st) v x ↔ ∃ y : vm_Y, vE 153 0 [w0, w1] [] v y ∧ vB 151 82 [l0, l1, l2, l3, l4, l5, l6, l7] st y x := vE_cv rfl rfl rfl rfl
theorem q151_85 : vE 151 85 [l0, l1, l2, l3, l4, l5, l6, l7] ([.int a]) v x ↔ x = vr a v := vE_ir rfl
theorem q151_86 : vE 151 86 [l0, l1, l2, l3, l4, l5, l6, l7] st v x ↔ vE 151 88 [l0, l1, l2, l3, l4, l5, l6, l7] (.int 6 :: st) v x := vE_s rfl (by rfl)
theorem q151_88 : vE 151 88 [l0, .int a, l2, l3, l4, l5, l6, l7] st v x ↔ vE 151 89 [l0, .int a, l2, l3, l4, l5, l6, l7] (.int a :: st) v x := vE_s rfl rfl
theorem q151_89 : vE 151 89 [l0, l1, l2, l3, l4, l5, l6, l7] (.int b :: .int a :: st) v x ↔ vE 151 90 [l0, l1, l2, l3, l4, l5, l6, l7] (.int (a * b) :: st) v x := vE_s rfl rfl
theorem q151_90 : vE 151 90 [l0, l1, .int a, l3, l4, l5, l6, l7] st v x ↔ vE 151 91 [l0, l1, .int a, l3, l4, l5, l6, l7] (.int a :: st) v x := vE_s rfl rfl
theorem q151_91 : vE 151 91 [l0, l1, l2, l3, l4, l5, l6, l7] (.int b :: .int a :: st) v x ↔ vE 151 92 [l0, l1, l2, l3, l4, l5, l6, l7] (.int (a + b) :: st) v x := vE_s rfl rfl
theorem q151_92 : vE 151 92 [l0, l1, l2, l3, l4, l5, l6, l7] (.int a :: st) v x ↔ vE 151 94 [l0, l1, l2, l3, l4, l5, l6, .int a] st v x := vE_s rfl rfl
theorem q151_94 : vE 151 94 [.ref p, l1, l2, l3, l4, l5, l6, l7] st v x ↔ vE 151 95 [.ref p, l1, l2, l3, l4, l5, l6, l7] (.ref p :: st) v x := vE_s rfl rfl
theorem q151_95 : vE 151 95 [l0, l1, l2, l3, l4, l5, l6, l7] (.ref p :: st) v x ↔ vE 151 98 [l0, l1, l2, l3, l4, l5, l6, l7] (.ref (p + 2) :: st) v x := vE_s rfl rfl
theorem q151_98 : vE 151 98 [l0, l1, l2, l3, l4, l5, l6, .int a] st v x ↔ vE 151 100 [l0, l1, l2, l3, l4, l5, l6, .int a] (.int a :: st) v x := vE_s rfl rfl
theorem q151_100 : vE 151 100 [l0, l1, l2, l3, l4, l5, l6, l7] (.int a :: .ref p :: st) v x ↔ vE 151 101 [l0, l1, l2, l3, l4, l5, l6, l7] (.int (v.1 p a.toNatClampNeg) :: st) v x := vE_s rfl rfl
theorem q151_101 : vE 151 101 [l0, l1, l2, l3, l4, l5, l6, l7] st v x ↔ vE 151 103 [l0, l1, l2, l3, l4, l5, l6, l7] (.int 8 :: st) v x := vE_s rfl (by rfl)
theorem q151_103 : vE 151 103 [l0, l1, l2, l3, l4, l5, l6, l7] (.int b :: .int a :: st) v x ↔ if a = b then vE 151 106 [l0, l1, l2, l3, l4, l5, l6, l7] st v x else vE 151 112 [l0, l1, l2, l3, l4, l5, l6, l7] st v x := vE_if rfl rfl
theorem q151_106 : vE 151 106 [.ref p, l1, l2, l3, l4, l5, l6, l7] st v x ↔ vE 151 107 [.ref p, l1, l2, l3, l4, l5, l6, l7] (.ref p :: st) v x := vE_s rfl rfl
theorem q151_107 : vE 151 107 [l0, l1, l2, l3, l4, l5, l6, l7] st v x ↔ vE 151 108 [l0, l1, l2, l3, l4, l5, l6, l7] (.int 3 :: st) v x := vE_s rfl (by rfl)
theorem q151_108 : vE 151 108 [l0, l1, l2, l3, l4, l5, l6, l7] (w1 :: w0 :: st) v x ↔ ∃ y : vm_Y, vE 153 0 [w0, w1] [] v y ∧ vB 151 108 [l0, l1, l2, l3, l4, l5, l6, l7] st y x := vE_cv rfl rfl rfl rfl
theorem q151_111 : vE 151 111 [l0, l1, l2, l3, l4, l5, l6, l7] ([.int a]) v x ↔ x = vr a v := vE_ir rfl
theorem q151_112 : vE 151 112 [.ref p, l1, l2, l3, l4, l5, l6, l7] st v x ↔ vE 151 113 [.ref p, l1, l2, l3, l4, l5, l6, l7] (.ref p :: st) v x := vE_s rfl rfl
theorem q151_113 : vE 151 113 [l0, l1, l2, l3, l4, l5, l6, l7] st v x ↔ vE 151 115 [l0, l1, l2, l3, l4, l5, l6, l7] (.int 32 :: st) v x := vE_s rfl (by rfl)
theorem q151_115 : vE 151 115 [l0, l1, l2, l3, l4, l5, l6, .int a] st v x ↔ vE 151 117 [l0, l1, l2, l3, l4, l5, l6, .int a] (.int a :: st) v x := vE_s rfl rfl
theorem q151_117 : vE 151 117 [l0, l1, l2, l3, l4, l5, l6, l7] (.int b :: .int a :: st) v x ↔ vE 151 118 [l0, l1, l2, l3, l4, l5, l6, l7] (.int (a * b) :: st) v x := vE_s rfl rfl
theorem q151_118 : vE 151 118 [l0, l1, l2, l3, l4, l5, l6, l7] st v x ↔ vE 151 119 [l0, l1, l2, l3, l4, l5, l6, l7] (.int 4 :: st) v x := vE_s rfl (by rfl)
theorem q151_119 : vE 151 119 [.ref p, l1, l2, l3, l4, l5, l6, l7] st v x ↔ vE 151 120 [.ref p, l1, l2, l3, l4, l5, l6, l7] (.ref p :: st) v x := vE_s rfl rfl
theorem q151_120 : vE 151 120 [l0, l1, l2, l3, l4, l5, l6, l7] (.ref p :: st) v x ↔ vE 151 123 [l0, l1, l2, l3, l4, l5, l6, l7] (.ref (p + 2) :: st) v x := vE_s rfl rfl
theorem q151_123 : vE 151 123 [l0, l1, l2, l3, l4, l5, l6, .int a] st v x ↔ vE 151 125 [l0, l1, l2, l3, l4, l5, l6, .int a] (.int a :: st) v x := vE_s rfl rfl
theorem q151_125 : vE 151 125 [l0, l1, l2, l3, l4, l5, l6, l7] (.int a :: .ref p :: st) v x ↔ vE 151 126 [l0, l1, l2, l3, l4, l5, l6, l7] (.int (v.1 p a.toNatClampNeg) :: st) v x := vE_s rfl rfl
theorem q151_126 : vE 151 126 [l0, l1, l2, l3, l4, l5, l6, l7] (.int b :: .int a :: st) v x ↔ vE 151 127 [l0, l1, l2, l3, l4, l5, l6, l7] (.int (a * b) :: st) v x := vE_s rfl rfl
theorem q151_127 : vE 151 127 [l0, l1, l2, l3, l4, l5, l6, l7] (.int b :: .int a :: st) v x ↔ vE 151 128 [l0, l1, l2, l3, l4, l5, l6, l7] (.int (a + b) :: st) v x := vE_s rfl rfl
theorem q151_128 : vE 151 128 [l0, l1, l2, .int a, l4, l5, l6, l7] st v x ↔ vE 151 129 [l0, l1, l2, .int a, l4, l5, l6, l7] (.int a :: st) v x := vE_s rfl rfl
theorem q151_129 : vE 151 129 [l0, l1, l2, l3, .int a, l5, l6, l7] st v x ↔ vE 151 131 [l0, l1, l2, l3, .int a, l5, l6, l7] (.int a :: st) v x := vE_s rfl rfl
theorem q151_131 : vE 151 131 [l0, l1, l2, l3, l4, .int a, l6, l7] st v x ↔ vE 151 133 [l0, l1, l2, l3, l4, .int a, l6, l7] (.int a :: st) v x := vE_s rfl rfl
theorem q151_133 : vE 151 133 [l0, l1, l2, l3, l4, l5, .int a, l7] st v x ↔ vE 151 135 [l0, l1, l2, l3, l4, l5, .int a, l7] (.int a :: st) v x := vE_s rfl rfl
theorem q151_135 : vE 151 135 [l0, l1, l2, l3, l4, l5, l6, l7] (w5 :: w4 :: w3 :: w2 :: w1 :: w0 :: st) v x ↔ ∃ y : vm_Y, vE 157 0 [w0, w1, w2, w3, w4, w5] [] v y ∧ vB 151 135 [l0, l1, l2, l3, l4, l5, l6, l7] st y x := vE_cv rfl rfl rfl rfl
theorem q151_138 : vE 151 138 [.ref p, l1, l2, l3, l4, l5, l6, l7] st v x ↔ vE 151 139 [.ref p, l1, l2, l3, l4, l5, l6, l7] (.ref p :: st) v x := vE_s rfl rfl
theorem q151_139 : vE 151 139 [l0, l1, l2, l3, l4, l5, l6, l7] (.ref p :: st) v x ↔ vE 151 142 [l0, l1, l2, l3, l4, l5, l6, l7] (.ref (p + 2) :: st) v x := vE_s rfl rfl
theorem q151_142 : vE 151 142 [l0, l1, l2, l3, l4, l5, l6, .int a] st v x ↔ vE 151 144 [l0, l1, l2, l3, l4, l5, l6, .int a] (.int a :: st) v x := vE_s rfl rfl
theorem q151_144 : vE 151 144 [l0, l1, l2, l3, l4, l5, l6, l7] (.int a :: .ref p :: st) v x ↔ vE 151 145 [l0, l1, l2, l3, l4, l5, l6, l7] (.int a :: .ref p :: .int a :: .ref p :: st) v x := vE_s rfl rfl
theorem q151_145 : vE 151 145 [l0, l1, l2, l3, l4, l5, l6, l7] (.int a :: .ref p :: st) v x ↔ vE 151 146 [l0, l1, l2, l3, l4, l5, l6, l7] (.int (v.1 p a.toNatClampNeg) :: st) v x := vE_s rfl rfl
theorem q151_146 : vE 151 146 [l0, l1, l2, l3, l4, l5, l6, l7] st v x ↔ vE 151 147 [l0, l1, l2, l3, l4, l5, l6, l7] (.int 1 :: st) v x := vE_s rfl (by rfl)
theorem q151_147 : vE 151 147 [l0, l1, l2, l3, l4, l5, l6, l7] (.int b :: .int a :: st) v x ↔ vE 151 148 [l0, l1, l2, l3, l4, l5, l6, l7] (.int (a + b) :: st) v x := vE_s rfl rfl
theorem q151_148 : vE 151 148 [l0, l1, l2, l3, l4, l5, l6, l7] (.int b :: .int a :: .ref p :: st) v x ↔ vE 151 149 [l0, l1, l2, l3, l4, l5, l6, l7] st (vm_si v p a.toNatClampNeg b) x := vE_s rfl rfl
theorem q151_149 : vE 151 149 [.ref p, l1, l2, l3, l4, l5, l6, l7] st v x ↔ vE 151 150 [.ref p, l1, l2, l3, l4, l5, l6, l7] (.ref p :: st) v x := vE_s rfl rfl
theorem q151_150 : vE 151 150 [l0, l1, l2, l3, l4, l5, l6, l7] (w0 :: st) v x ↔ ∃ y : vm_Y, vE 150 0 [w0] [] v y ∧ vB 151 150 [l0, l1, l2, l3, l4, l5, l6, l7] st y x := vE_cv rfl rfl rfl rfl
theorem q151_153 : vE 151 153 [.ref p, l1, l2, l3, l4, l5, l6, l7] st v x ↔ vE 151 154 [.ref p, l1, l2, l3, l4, l5, l6, l7] (.ref p :: st) v x := vE_s rfl rfl
theorem q151_154 : vE 151 154 [l0, l1, l2, l3, l4, l5, l6, l7] (.ref p :: st) v x ↔ vE 151 157 [l0, l1, l2, l3, l4, l5, l6, l7] (.ref (p + 2) :: st) v x := vE_s rfl rfl
theorem q151_157 : vE 151 157 [l0, l1, l2, l3, l4, l5, l6, .int a] st v x ↔ vE 151 159 [l0, l1, l2, l3, l4, l5, l6, .int a] (.int a :: st) v x := vE_s rfl rfl
theorem q151_159 : vE 151 159 [l0, l1, l2, l3, l4, l5, l6, l7] (.int a :: .ref p :: st) v x ↔ vE 151 160 [l0, l1, l2, l3, l4, l5, l6, l7] (.int (v.1 p a.toNatClampNeg) :: st) v x := vE_s rfl rfl
theorem q151_160 : vE 151 160 [l0, l1, l2, l3, l4, l5, l6, l7] st v x ↔ vE 151 161 [l0, l1, l2, l3, l4, l5, l6, l7] (.int 1 :: st) v x := vE_s rfl (by rfl)
theorem q151_161 : vE 151 161 [l0, l1, l2, l3, l4, l5, l6, l7] (.int b :: .int a :: st) v x ↔ vE 151 162 [l0, l1, l2, l3, l4, l5, l6, l7] (.int (a - b) :: st) v x := vE_s rfl rfl
theorem q151_162 : vE 151 162 [l0, l1, l2, l3, l4, l5, l6, l7] ([.int a]) v x ↔ x = vr a v := vE_ir rfl
theorem qt151 {X pc : Nat} {L r : List Value} : vB 151 pc L r (vt X v) x ↔ x = vt X v := vB_t rfl
/-! 152 PassCheckerModel.isBlock(II)Z -/
theorem q152_0 : vE 152 0 [l0, .int a, l2] st v x ↔ vE 152 1 [l0, .int a, l2] (.int a :: st) v x := vE_s rfl rfl
theorem q152_1 : vE 152 1 [l0, l1, l2] st v x ↔ vE 152 2 [l0, l1, l2] (.int 2 :: st) v x := vE_s rfl (by rfl)
theorem q152_2 : vE 152 2 [l0, l1, l2] (w1 :: w0 :: st) v x ↔ ∃ y : vm_Y, vE 148 0 [w0, w1] [] v y ∧ vB 152 2 [l0, l1, l2] st y x := vE_cs rfl rfl rfl rfl
theorem q152_5 : vE 152 5 [l0, l1, l2] (.int a :: st) v x ↔ if a = 0 then vE 152 8 [l0, l1, l2] st v x else vE 152 25 [l0, l1, l2] st v x := vE_if rfl rfl
theorem q152_8 : vE 152 8 [l0, l1, .int a] st v x ↔ vE 152 9 [l0, l1, .int a] (.int a :: st) v x := vE_s rfl rfl
theorem q152_9 : vE 152 9 [.ref p, l1, l2] st v x ↔ vE 152 10 [.ref p, l1, l2] (.ref p :: st) v x := vE_s rfl rfl
theorem q152_10 : vE 152 10 [l0, l1, l2] (.ref p :: st) v x ↔ vE 152 13 [l0, l1, l2] (.ref (p + 1) :: st) v x := vE_s rfl rfl
theorem q152_13 : vE 152 13 [l0, .int a, l2] st v x ↔ vE 152 14 [l0, .int a, l2] (.int a :: st) v x := vE_s rfl rfl
theorem q152_14 : vE 152 14 [l0, l1, l2] (.int a :: .ref p :: st) v x ↔ vE 152 15 [l0, l1, l2] (.int (v.1 p a.toNatClampNeg) :: st) v x := vE_s rfl rfl
theorem q152_15 : vE 152 15 [l0, l1, l2] (w1 :: w0 :: st) v x ↔ ∃ y : vm_Y, vE 148 0 [w0, w1] [] v y ∧ vB 152 15 [l0, l1, l2] st y x := vE_cs rfl rfl rfl rfl
theorem q152_18 : vE 152 18 [l0, l1, l2] (.int a :: st) v x ↔ if a = 0 then vE 152 21 [l0, l1, l2] st v x else vE 152 25 [l0, l1, l2] st v x := vE_if rfl rfl
theorem q152_21 : vE 152 21 [l0, l1, l2] st v x ↔ vE 152 22 [l0, l1, l2] (.int 1 :: st) v x := vE_s rfl (by rfl)
theorem q152_22 : vE 152 22 [l0, l1, l2] st v x ↔ vE 152 26 [l0, l1, l2] st v x := vE_s rfl rfl
theorem q152_25 : vE 152 25 [l0, l1, l2] st v x ↔ vE 152 26 [l0, l1, l2] (.int 0 :: st) v x := vE_s rfl (by rfl)
theorem q152_26 : vE 152 26 [l0, l1, l2] ([.int a]) v x ↔ x = vr a v := vE_ir rfl
theorem qt152 {X pc : Nat} {L r : List Value} : vB 152 pc L r (vt X v) x ↔ x = vt X v := vB_t rfl
/-! 153 PassCheckerModel.fail(I)I -/
theorem q153_0 : vE 153 0 [.ref p, l1] st v x ↔ vE 153 1 [.ref p, l1] (.ref p :: st) v x := vE_s rfl rfl
theorem q153_1 : vE 153 1 [l0, .int a] st v x ↔ vE 153 2 [l0, .int a] (.int a :: st) v x := vE_s rfl rfl
theorem q153_2 : vE 153 2 [l0, l1] (.int a :: .ref p :: st) v x ↔ vE 153 5 [l0, l1] st (vm_si v p 0 a) x := vE_s rfl rfl
theorem q153_5 : vE 153 5 [l0, l1] st v x ↔ vE 153 6 [l0, l1] (.int 0 :: st) v x := vE_s rfl (by rfl)
theorem q153_6 : vE 153 6 [l0, l1] ([.int a]) v x ↔ x = vr a v := vE_ir rfl
/-! 154 PassCheckerModel.writes(I)Z -/
theorem q154_0 : vE 154 0 [.int a] st v x ↔ vE 154 1 [.int a] (.int a :: st) v x := vE_s rfl rfl
theorem q154_1 : vE 154 1 [l0] st v x ↔ vE 154 3 [l0] (.int 9 :: st) v x := vE_s rfl (by rfl)
theorem q154_3 : vE 154 3 [l0] (.int b :: .int a :: st) v x ↔ if a = b then vE 154 10 [l0] st v x else vE 154 6 [l0] st v x := vE_if rfl rfl
theorem q154_6 : vE 154 6 [l0] st v x ↔ vE 154 7 [l0] (.int 1 :: st) v x := vE_s rfl (by rfl)
theorem q154_7 : vE 154 7 [l0] st v x ↔ vE 154 11 [l0] st v x := vE_s rfl rfl
theorem q154_10 : vE 154 10 [l0] st v x ↔ vE 154 11 [l0] (.int 0 :: st) v x := vE_s rfl (by rfl)
theorem q154_11 : vE 154 11 [l0] ([.int a]) v x ↔ x = vr a v := vE_ir rfl
/-! 155 PassCheckerModel.readsA(I)Z -/
theorem q155_0 : vE 155 0 [.int a] st v x ↔ vE 155 1 [.int a] (.int a :: st) v x := vE_s rfl rfl
theorem q155_1 : vE 155 1 [l0] (.int a :: st) v x ↔ if a = 0 then vE 155 8 [l0] st v x else vE 155 4 [l0] st v x := vE_if rfl rfl
theorem q155_4 : vE 155 4 [l0] st v x ↔ vE 155 5 [l0] (.int 1 :: st) v x := vE_s rfl (by rfl)
theorem q155_5 : vE 155 5 [l0] st v x ↔ vE 155 9 [l0] st v x := vE_s rfl rfl
theorem q155_8 : vE 155 8 [l0] st v x ↔ vE 155 9 [l0] (.int 0 :: st) v x := vE_s rfl (by rfl)
theorem q155_9 : vE 155 9 [l0] ([.int a]) v x ↔ x = vr a v := vE_ir rfl
/-! 156 PassCheckerModel.readsB(I)Z -/
theorem q156_0 : vE 156 0 [.int a] st v x ↔ vE 156 1 [.int a] (.int a :: st) v x := vE_s rfl rfl
theorem q156_1 : vE 156 1 [l0] st v x ↔ vE 156 2 [l0] (.int 1 :: st) v x := vE_s rfl (by rfl)
theorem q156_2 : vE 156 2 [l0] (.int b :: .int a :: st) v x ↔ if a ≤ b then vE 156 15 [l0] st v x else vE 156 5 [l0] st v x := vE_if rfl rfl
theorem q156_5 : vE 156 5 [.int a] st v x ↔ vE 156 6 [.int a] (.int a :: st) v x := vE_s rfl rfl
theorem q156_6 : vE 156 6 [l0] st v x ↔ vE 156 8 [l0] (.int 8 :: st) v x := vE_s rfl (by rfl)
theorem q156_8 : vE 156 8 [l0] (.int b :: .int a :: st) v x ↔ if a = b then vE 156 15 [l0] st v x else vE 156 11 [l0] st v x := vE_if rfl rfl
theorem q156_11 : vE 156 11 [l0] st v x ↔ vE 156 12 [l0] (.int 1 :: st) v x := vE_s rfl (by rfl)
theorem q156_12 : vE 156 12 [l0] st v x ↔ vE 156 16 [l0] st v x := vE_s rfl rfl
theorem q156_15 : vE 156 15 [l0] st v x ↔ vE 156 16 [l0] (.int 0 :: st) v x := vE_s rfl (by rfl)
theorem q156_16 : vE 156 16 [l0] ([.int a]) v x ↔ x = vr a v := vE_ir rfl
/-! 157 PassCheckerModel.put(IIIII)V -/
theorem q157_0 : vE 157 0 [.ref p, l1, l2, l3, l4, l5] st v x ↔ vE 157 1 [.ref p, l1, l2, l3, l4, l5] (.ref p :: st) v x := vE_s rfl rfl
theorem q157_1 : vE 157 1 [l0, l1, l2, l3, l4, l5] (.ref p :: st) v x ↔ vE 157 4 [l0, l1, l2, l3, l4, l5] (.ref (p + 3) :: st) v x := vE_s rfl rfl
theorem q157_4 : vE 157 4 [l0, .int a, l2, l3, l4, l5] st v x ↔ vE 157 5 [l0, .int a, l2, l3, l4, l5] (.int a :: st) v x := vE_s rfl rfl
theorem q157_5 : vE 157 5 [l0, l1, .int a, l3, l4, l5] st v x ↔ vE 157 6 [l0, l1, .int a, l3, l4, l5] (.int a :: st) v x := vE_s rfl rfl
theorem q157_6 : vE 157 6 [l0, l1, l2, l3, l4, l5] (.int b :: .int a :: .ref p :: st) v x ↔ vE 157 7 [l0, l1, l2, l3, l4, l5] st (vm_si v p a.toNatClampNeg b) x := vE_s rfl rfl
theorem q157_7 : vE 157 7 [.ref p, l1, l2, l3, l4, l5] st v x ↔ vE 157 8 [.ref p, l1, l2, l3, l4, l5] (.ref p :: st) v x := vE_s rfl rfl
theorem q157_8 : vE 157 8 [l0, l1, l2, l3, l4, l5] (.ref p :: st) v x ↔ vE 157 11 [l0, l1, l2, l3, l4, l5] (.ref (p + 3) :: st) v x := vE_s rfl rfl
theorem q157_11 : vE 157 11 [l0, .int a, l2, l3, l4, l5] st v x ↔ vE 157 12 [l0, .int a, l2, l3, l4, l5] (.int a :: st) v x := vE_s rfl rfl
theorem q157_12 : vE 157 12 [l0, l1, l2, l3, l4, l5] st v x ↔ vE 157 13 [l0, l1, l2, l3, l4, l5] (.int 1 :: st) v x := vE_s rfl (by rfl)
theorem q157_13 : vE 157 13 [l0, l1, l2, l3, l4, l5] (.int b :: .int a :: st) v x ↔ vE 157 14 [l0, l1, l2, l3, l4, l5] (.int (a + b) :: st) v x := vE_s rfl rfl
theorem q157_14 : vE 157 14 [l0, l1, .int a, l3, l4, l5] st v x ↔ vE 157 15 [l0, l1, .int a, l3, l4, l5] (.int a :: st) v x := vE_s rfl rfl
theorem q157_15 : vE 157 15 [l0, l1, l2, l3, l4, l5] (w0 :: st) v x ↔ ∃ y : vm_Y, vE 154 0 [w0] [] v y ∧ vB 157 15 [l0, l1, l2, l3, l4, l5] st y x := vE_cs rfl rfl rfl rfl
theorem q157_18 : vE 157 18 [l0, l1, l2, l3, l4, l5] (.int a :: st) v x ↔ if a = 0 then vE 157 25 [l0, l1, l2, l3, l4, l5] st v x else vE 157 21 [l0, l1, l2, l3, l4, l5] st v x := vE_if rfl rfl
theorem q157_21 : vE 157 21 [l0, l1, l2, .int a, l4, l5] st v x ↔ vE 157 22 [l0, l1, l2, .int a, l4, l5] (.int a :: st) v x := vE_s rfl rfl
theorem q157_22 : vE 157 22 [l0, l1, l2, l3, l4, l5] st v x ↔ vE 157 26 [l0, l1, l2, l3, l4, l5] st v x := vE_s rfl rfl
theorem q157_25 : vE 157 25 [l0, l1, l2, l3, l4, l5] st v x ↔ vE 157 26 [l0, l1, l2, l3, l4, l5] (.int 0 :: st) v x := vE_s rfl (by rfl)
theorem q157_26 : vE 157 26 [l0, l1, l2, l3, l4, l5] (.int b :: .int a :: .ref p :: st) v x ↔ vE 157 27 [l0, l1, l2, l3, l4, l5] st (vm_si v p a.toNatClampNeg b) x := vE_s rfl rfl
theorem q157_27 : vE 157 27 [.ref p, l1, l2, l3, l4, l5] st v x ↔ vE 157 28 [.ref p, l1, l2, l3, l4, l5] (.ref p :: st) v x := vE_s rfl rfl
theorem q157_28 : vE 157 28 [l0, l1, l2, l3, l4, l5] (.ref p :: st) v x ↔ vE 157 31 [l0, l1, l2, l3, l4, l5] (.ref (p + 3) :: st) v x := vE_s rfl rfl
theorem q157_31 : vE 157 31 [l0, .int a, l2, l3, l4, l5] st v x ↔ vE 157 32 [l0, .int a, l2, l3, l4, l5] (.int a :: st) v x := vE_s rfl rfl
theorem q157_32 : vE 157 32 [l0, l1, l2, l3, l4, l5] st v x ↔ vE 157 33 [l0, l1, l2, l3, l4, l5] (.int 2 :: st) v x := vE_s rfl (by rfl)
theorem q157_33 : vE 157 33 [l0, l1, l2, l3, l4, l5] (.int b :: .int a :: st) v x ↔ vE 157 34 [l0, l1, l2, l3, l4, l5] (.int (a + b) :: st) v x := vE_s rfl rfl
theorem q157_34 : vE 157 34 [l0, l1, .int a, l3, l4, l5] st v x ↔ vE 157 35 [l0, l1, .int a, l3, l4, l5] (.int a :: st) v x := vE_s rfl rfl
theorem q157_35 : vE 157 35 [l0, l1, l2, l3, l4, l5] (w0 :: st) v x ↔ ∃ y : vm_Y, vE 155 0 [w0] [] v y ∧ vB 157 35 [l0, l1, l2, l3, l4, l5] st y x := vE_cs rfl rfl rfl rfl
theorem q157_38 : vE 157 38 [l0, l1, l2, l3, l4, l5] (.int a :: st) v x ↔ if a = 0 then vE 157 46 [l0, l1, l2, l3, l4, l5] st v x else vE 157 41 [l0, l1, l2, l3, l4, l5] st v x := vE_if rfl rfl
theorem q157_41 : vE 157 41 [l0, l1, l2, l3, .int a, l5] st v x ↔ vE 157 43 [l0, l1, l2, l3, .int a, l5] (.int a :: st) v x := vE_s rfl rfl
theorem q157_43 : vE 157 43 [l0, l1, l2, l3, l4, l5] st v x ↔ vE 157 47 [l0, l1, l2, l3, l4, l5] st v x := vE_s rfl rfl
theorem q157_46 : vE 157 46 [l0, l1, l2, l3, l4, l5] st v x ↔ vE 157 47 [l0, l1, l2, l3, l4, l5] (.int 0 :: st) v x := vE_s rfl (by rfl)
theorem q157_47 : vE 157 47 [l0, l1, l2, l3, l4, l5] (.int b :: .int a :: .ref p :: st) v x ↔ vE 157 48 [l0, l1, l2, l3, l4, l5] st (vm_si v p a.toNatClampNeg b) x := vE_s rfl rfl
theorem q157_48 : vE 157 48 [.ref p, l1, l2, l3, l4, l5] st v x ↔ vE 157 49 [.ref p, l1, l2, l3, l4, l5] (.ref p :: st) v x := vE_s rfl rfl
theorem q157_49 : vE 157 49 [l0, l1, l2, l3, l4, l5] (.ref p :: st) v x ↔ vE 157 52 [l0, l1, l2, l3, l4, l5] (.ref (p + 3) :: st) v x := vE_s rfl rfl
theorem q157_52 : vE 157 52 [l0, .int a, l2, l3, l4, l5] st v x ↔ vE 157 53 [l0, .int a, l2, l3, l4, l5] (.int a :: st) v x := vE_s rfl rfl
theorem q157_53 : vE 157 53 [l0, l1, l2, l3, l4, l5] st v x ↔ vE 157 54 [l0, l1, l2, l3, l4, l5] (.int 3 :: st) v x := vE_s rfl (by rfl)
theorem q157_54 : vE 157 54 [l0, l1, l2, l3, l4, l5] (.int b :: .int a :: st) v x ↔ vE 157 55 [l0, l1, l2, l3, l4, l5] (.int (a + b) :: st) v x := vE_s rfl rfl
theorem q157_55 : vE 157 55 [l0, l1, .int a, l3, l4, l5] st v x ↔ vE 157 56 [l0, l1, .int a, l3, l4, l5] (.int a :: st) v x := vE_s rfl rfl
theorem q157_56 : vE 157 56 [l0, l1, l2, l3, l4, l5] (w0 :: st) v x ↔ ∃ y : vm_Y, vE 156 0 [w0] [] v y ∧ vB 157 56 [l0, l1, l2, l3, l4, l5] st y x := vE_cs rfl rfl rfl rfl
theorem q157_59 : vE 157 59 [l0, l1, l2, l3, l4, l5] (.int a :: st) v x ↔ if a = 0 then vE 157 62 [l0, l1, l2, l3, l4, l5] st v x else vE 157 66 [l0, l1, l2, l3, l4, l5] st v x := vE_if rfl rfl
theorem q157_62 : vE 157 62 [l0, l1, .int a, l3, l4, l5] st v x ↔ vE 157 63 [l0, l1, .int a, l3, l4, l5] (.int a :: st) v x := vE_s rfl rfl
theorem q157_63 : vE 157 63 [l0, l1, l2, l3, l4, l5] (.int a :: st) v x ↔ if a = 0 then vE 157 66 [l0, l1, l2, l3, l4, l5] st v x else vE 157 71 [l0, l1, l2, l3, l4, l5] st v x := vE_if rfl rfl
theorem q157_66 : vE 157 66 [l0, l1, l2, l3, l4, .int a] st v x ↔ vE 157 68 [l0, l1, l2, l3, l4, .int a] (.int a :: st) v x := vE_s rfl rfl
theorem q157_68 : vE 157 68 [l0, l1, l2, l3, l4, l5] st v x ↔ vE 157 72 [l0, l1, l2, l3, l4, l5] st v x := vE_s rfl rfl
theorem q157_71 : vE 157 71 [l0, l1, l2, l3, l4, l5] st v x ↔ vE 157 72 [l0, l1, l2, l3, l4, l5] (.int 0 :: st) v x := vE_s rfl (by rfl)
theorem q157_72 : vE 157 72 [l0, l1, l2, l3, l4, l5] (.int b :: .int a :: .ref p :: st) v x ↔ vE 157 73 [l0, l1, l2, l3, l4, l5] st (vm_si v p a.toNatClampNeg b) x := vE_s rfl rfl
theorem q157_73 : vE 157 73 [l0, l1, l2, l3, l4, l5] [] v x ↔ x = vd v := vE_vr rfl
theorem qt157 {X pc : Nat} {L r : List Value} : vB 157 pc L r (vt X v) x ↔ x = vt X v := vB_t rfl
/-! 158 PassCheckerModel.end(IIIIII)V -/
theorem q158_0 : vE 158 0 [.ref p, l1, l2, l3, l4, l5, l6] st v x ↔ vE 158 1 [.ref p, l1, l2, l3, l4, l5, l6] (.ref p :: st) v x := vE_s rfl rfl
theorem q158_1 : vE 158 1 [l0, l1, l2, l3, l4, l5, l6] st v x ↔ vE 158 2 [l0, l1, l2, l3, l4, l5, l6] (.int 0 :: st) v x := vE_s rfl (by rfl)
theorem q158_2 : vE 158 2 [l0, l1, l2, l3, l4, l5, l6] (.int a :: .ref p :: st) v x ↔ vE 158 5 [l0, l1, l2, l3, l4, l5, l6] st (vm_si v p 0 a) x := vE_s rfl rfl
theorem q158_5 : vE 158 5 [.ref p, l1, l2, l3, l4, l5, l6] st v x ↔ vE 158 6 [.ref p, l1, l2, l3, l4, l5, l6] (.ref p :: st) v x := vE_s rfl rfl
theorem q158_6 : vE 158 6 [l0, .int a, l2, l3, l4, l5, l6] st v x ↔ vE 158 7 [l0, .int a, l2, l3, l4, l5, l6] (.int a :: st) v x := vE_s rfl rfl
theorem q158_7 : vE 158 7 [l0, l1, .int a, l3, l4, l5, l6] st v x ↔ vE 158 8 [l0, l1, .int a, l3, l4, l5, l6] (.int a :: st) v x := vE_s rfl rfl
theorem q158_8 : vE 158 8 [l0, l1, l2, l3, l4, l5, l6] (w2 :: w1 :: w0 :: st) v x ↔ ∃ y : vm_Y, vE 152 0 [w0, w1, w2] [] v y ∧ vB 158 8 [l0, l1, l2, l3, l4, l5, l6] st y x := vE_cv rfl rfl rfl rfl
theorem q158_11 : vE 158 11 [l0, l1, l2, l3, l4, l5, l6] (.int a :: st) v x ↔ if a = 0 then vE 158 14 [l0, l1, l2, l3, l4, l5, l6] st v x else vE 158 20 [l0, l1, l2, l3, l4, l5, l6] st v x := vE_if rfl rfl
theorem q158_14 : vE 158 14 [.ref p, l1, l2, l3, l4, l5, l6] st v x ↔ vE 158 15 [.ref p, l1, l2, l3, l4, l5, l6] (.ref p :: st) v x := vE_s rfl rfl
theorem q158_15 : vE 158 15 [l0, l1, l2, l3, l4, l5, l6] st v x ↔ vE 158 16 [l0, l1, l2, l3, l4, l5, l6] (.int 1 :: st) v x := vE_s rfl (by rfl)
theorem q158_16 : vE 158 16 [l0, l1, l2, l3, l4, l5, l6] (.int a :: .ref p :: st) v x ↔ vE 158 19 [l0, l1, l2, l3, l4, l5, l6] st (vm_si v p 0 a) x := vE_s rfl rfl
theorem q158_19 : vE 158 19 [l0, l1, l2, l3, l4, l5, l6] [] v x ↔ x = vd v := vE_vr rfl
theorem q158_20 : vE 158 20 [l0, l1, l2, .int a, l4, l5, l6] st v x ↔ vE 158 21 [l0, l1, l2, .int a, l4, l5, l6] (.int a :: st) v x := vE_s rfl rfl
theorem q158_21 : vE 158 21 [l0, l1, l2, l3, l4, l5, l6] st v x ↔ vE 158 22 [l0, l1, l2, l3, l4, l5, l6] (.int 3 :: st) v x := vE_s rfl (by rfl)
theorem q158_22 : vE 158 22 [l0, l1, l2, l3, l4, l5, l6] (w1 :: w0 :: st) v x ↔ ∃ y : vm_Y, vE 148 0 [w0, w1] [] v y ∧ vB 158 22 [l0, l1, l2, l3, l4, l5, l6] st y x := vE_cs rfl rfl rfl rfl
theorem q158_25 : vE 158 25 [l0, l1, l2, l3, l4, l5, l6] (.int a :: st) v x ↔ if a = 0 then vE 158 28 [l0, l1, l2, l3, l4, l5, l6] st v x else vE 158 72 [l0, l1, l2, l3, l4, l5, l6] st v x := vE_if rfl rfl
theorem q158_28 : vE 158 28 [l0, l1, l2, .int a, l4, l5, l6] st v x ↔ vE 158 29 [l0, l1, l2, .int a, l4, l5, l6] (.int a :: st) v x := vE_s rfl rfl
theorem q158_29 : vE 158 29 [l0, l1, l2, l3, l4, l5, l6] (.int a :: st) v x ↔ if a = 0 then vE 158 42 [l0, l1, l2, l3, l4, l5, l6] st v x else vE 158 32 [l0, l1, l2, l3, l4, l5, l6] st v x := vE_if rfl rfl
theorem q158_32 : vE 158 32 [l0, l1, l2, l3, .int a, l5, l6] st v x ↔ vE 158 34 [l0, l1, l2, l3, .int a, l5, l6] (.int a :: st) v x := vE_s rfl rfl
theorem q158_34 : vE 158 34 [l0, l1, l2, l3, l4, l5, l6] st v x ↔ vE 158 36 [l0, l1, l2, l3, l4, l5, l6] (.int 6 :: st) v x := vE_s rfl (by rfl)
theorem q158_36 : vE 158 36 [l0, l1, l2, l3, l4, l5, l6] (w1 :: w0 :: st) v x ↔ ∃ y : vm_Y, vE 148 0 [w0, w1] [] v y ∧ vB 158 36 [l0, l1, l2, l3, l4, l5, l6] st y x := vE_cs rfl rfl rfl rfl
theorem q158_39 : vE 158 39 [l0, l1, l2, l3, l4, l5, l6] (.int a :: st) v x ↔ if a = 0 then vE 158 42 [l0, l1, l2, l3, l4, l5, l6] st v x else vE 158 72 [l0, l1, l2, l3, l4, l5, l6] st v x := vE_if rfl rfl
theorem q158_42 : vE 158 42 [l0, l1, l2, .int a, l4, l5, l6] st v x ↔ vE 158 43 [l0, l1, l2, .int a, l4, l5, l6] (.int a :: st) v x := vE_s rfl rfl
theorem q158_43 : vE 158 43 [l0, l1, l2, l3, l4, l5, l6] st v x ↔ vE 158 44 [l0, l1, l2, l3, l4, l5, l6] (.int 2 :: st) v x := vE_s rfl (by rfl)
theorem q158_44 : vE 158 44 [l0, l1, l2, l3, l4, l5, l6] (.int b :: .int a :: st) v x ↔ if a = b then vE 158 57 [l0, l1, l2, l3, l4, l5, l6] st v x else vE 158 47 [l0, l1, l2, l3, l4, l5, l6] st v x := vE_if rfl rfl
theorem q158_47 : vE 158 47 [l0, l1, l2, l3, l4, .int a, l6] st v x ↔ vE 158 49 [l0, l1, l2, l3, l4, .int a, l6] (.int a :: st) v x := vE_s rfl rfl
theorem q158_49 : vE 158 49 [l0, l1, l2, l3, l4, l5, l6] st v x ↔ vE 158 51 [l0, l1, l2, l3, l4, l5, l6] (.int 6 :: st) v x := vE_s rfl (by rfl)
theorem q158_51 : vE 158 51 [l0, l1, l2, l3, l4, l5, l6] (w1 :: w0 :: st) v x ↔ ∃ y : vm_Y, vE 148 0 [w0, w1] [] v y ∧ vB 158 51 [l0, l1, l2, l3, l4, l5, l6] st y x := vE_cs rfl rfl rfl rfl
theorem q158_54 : vE 158 54 [l0, l1, l2, l3, l4, l5, l6] (.int a :: st) v x ↔ if a = 0 then vE 158 57 [l0, l1, l2, l3, l4, l5, l6] st v x else vE 158 72 [l0, l1, l2, l3, l4, l5, l6] st v x := vE_if rfl rfl
theorem q158_57 : vE 158 57 [l0, l1, l2, .int a, l4, l5, l6] st v x ↔ vE 158 58 [l0, l1, l2, .int a, l4, l5, l6] (.int a :: st) v x := vE_s rfl rfl
theorem q158_58 : vE 158 58 [l0, l1, l2, l3, l4, l5, l6] st v x ↔ vE 158 59 [l0, l1, l2, l3, l4, l5, l6] (.int 1 :: st) v x := vE_s rfl (by rfl)
theorem q158_59 : vE 158 59 [l0, l1, l2, l3, l4, l5, l6] (.int b :: .int a :: st) v x ↔ if a = b then vE 158 62 [l0, l1, l2, l3, l4, l5, l6] st v x else vE 158 78 [l0, l1, l2, l3, l4, l5, l6] st v x := vE_if rfl rfl
theorem q158_62 : vE 158 62 [l0, l1, l2, l3, l4, l5, .int a] st v x ↔ vE 158 64 [l0, l1, l2, l3, l4, l5, .int a] (.int a :: st) v x := vE_s rfl rfl
theorem q158_64 : vE 158 64 [l0, l1, l2, l3, l4, l5, l6] st v x ↔ vE 158 66 [l0, l1, l2, l3, l4, l5, l6] (.int 6 :: st) v x := vE_s rfl (by rfl)
theorem q158_66 : vE 158 66 [l0, l1, l2, l3, l4, l5, l6] (w1 :: w0 :: st) v x ↔ ∃ y : vm_Y, vE 148 0 [w0, w1] [] v y ∧ vB 158 66 [l0, l1, l2, l3, l4, l5, l6] st y x := vE_cs rfl rfl rfl rfl
theorem q158_69 : vE 158 69 [l0, l1, l2, l3, l4, l5, l6] (.int a :: st) v x ↔ if a = 0 then vE 158 78 [l0, l1, l2, l3, l4, l5, l6] st v x else vE 158 72 [l0, l1, l2, l3, l4, l5, l6] st v x := vE_if rfl rfl
theorem q158_72 : vE 158 72 [.ref p, l1, l2, l3, l4, l5, l6] st v x ↔ vE 158 73 [.ref p, l1, l2, l3, l4, l5, l6] (.ref p :: st) v x := vE_s rfl rfl
theorem q158_73 : vE 158 73 [l0, l1, l2, l3, l4, l5, l6] st v x ↔ vE 158 74 [l0, l1, l2, l3, l4, l5, l6] (.int 2 :: st) v x := vE_s rfl (by rfl)
theorem q158_74 : vE 158 74 [l0, l1, l2, l3, l4, l5, l6] (.int a :: .ref p :: st) v x ↔ vE 158 77 [l0, l1, l2, l3, l4, l5, l6] st (vm_si v p 0 a) x := vE_s rfl rfl
theorem q158_77 : vE 158 77 [l0, l1, l2, l3, l4, l5, l6] [] v x ↔ x = vd v := vE_vr rfl
theorem q158_78 : vE 158 78 [.ref p, l1, l2, l3, l4, l5, l6] st v x ↔ vE 158 79 [.ref p, l1, l2, l3, l4, l5, l6] (.ref p :: st) v x := vE_s rfl rfl
theorem q158_79 : vE 158 79 [l0, l1, l2, l3, l4, l5, l6] st v x ↔ vE 158 81 [l0, l1, l2, l3, l4, l5, l6] (.int 6 :: st) v x := vE_s rfl (by rfl)
theorem q158_81 : vE 158 81 [l0, .int a, l2, l3, l4, l5, l6] st v x ↔ vE 158 82 [l0, .int a, l2, l3, l4, l5, l6] (.int a :: st) v x := vE_s rfl rfl
theorem q158_82 : vE 158 82 [l0, l1, l2, l3, l4, l5, l6] (.int b :: .int a :: st) v x ↔ vE 158 83 [l0, l1, l2, l3, l4, l5, l6] (.int (a * b) :: st) v x := vE_s rfl rfl
theorem q158_83 : vE 158 83 [l0, l1, .int a, l3, l4, l5, l6] st v x ↔ vE 158 84 [l0, l1, .int a, l3, l4, l5, l6] (.int a :: st) v x := vE_s rfl rfl
theorem q158_84 : vE 158 84 [l0, l1, l2, l3, l4, l5, l6] (.int b :: .int a :: st) v x ↔ vE 158 85 [l0, l1, l2, l3, l4, l5, l6] (.int (a + b) :: st) v x := vE_s rfl rfl
theorem q158_85 : vE 158 85 [l0, l1, l2, .int a, l4, l5, l6] st v x ↔ vE 158 86 [l0, l1, l2, .int a, l4, l5, l6] (.int a :: st) v x := vE_s rfl rfl
theorem q158_86 : vE 158 86 [l0, l1, l2, .int a, l4, l5, l6] st v x ↔ vE 158 87 [l0, l1, l2, .int a, l4, l5, l6] (.int a :: st) v x := vE_s rfl rfl
theorem q158_87 : vE 158 87 [l0, l1, l2, l3, l4, l5, l6] (.int a :: st) v x ↔ if a = 0 then vE 158 90 [l0, l1, l2, l3, l4, l5, l6] st v x else vE 158 94 [l0, l1, l2, l3, l4, l5, l6] st v x := vE_if rfl rfl
theorem q158_90 : vE 158 90 [l0, l1, l2, l3, l4, l5, l6] st v x ↔ vE 158 91 [l0, l1, l2, l3, l4, l5, l6] (.int 0 :: st) v x := vE_s rfl (by rfl)
theorem q158_91 : vE 158 91 [l0, l1, l2, l3, l4, l5, l6] st v x ↔ vE 158 96 [l0, l1, l2, l3, l4, l5, l6] st v x := vE_s rfl rfl
theorem q158_94 : vE 158 94 [l0, l1, l2, l3, .int a, l5, l6] st v x ↔ vE 158 96 [l0, l1, l2, l3, .int a, l5, l6] (.int a :: st) v x := vE_s rfl rfl
theorem q158_96 : vE 158 96 [l0, l1, l2, .int a, l4, l5, l6] st v x ↔ vE 158 97 [l0, l1, l2, .int a, l4, l5, l6] (.int a :: st) v x := vE_s rfl rfl
theorem q158_97 : vE 158 97 [l0, l1, l2, l3, l4, l5, l6] st v x ↔ vE 158 98 [l0, l1, l2, l3, l4, l5, l6] (.int 2 :: st) v x := vE_s rfl (by rfl)
theorem q158_98 : vE 158 98 [l0, l1, l2, l3, l4, l5, l6] (.int b :: .int a :: st) v x ↔ if a = b then vE 158 101 [l0, l1, l2, l3, l4, l5, l6] st v x else vE 158 105 [l0, l1, l2, l3, l4, l5, l6] st v x := vE_if rfl rfl
theorem q158_101 : vE 158 101 [l0, l1, l2, l3, l4, l5, l6] st v x ↔ vE 158 102 [l0, l1, l2, l3, l4, l5, l6] (.int 0 :: st) v x := vE_s rfl (by rfl)
theorem q158_102 : vE 158 102 [l0, l1, l2, l3, l4, l5, l6] st v x ↔ vE 158 107 [l0, l1, l2, l3, l4, l5, l6] st v x := vE_s rfl rfl
theorem q158_105 : vE 158 105 [l0, l1, l2, l3, l4, .int a, l6] st v x ↔ vE 158 107 [l0, l1, l2, l3, l4, .int a, l6] (.int a :: st) v x := vE_s rfl rfl
theorem q158_107 : vE 158 107 [l0, l1, l2, .int a, l4, l5, l6] st v x ↔ vE 158 108 [l0, l1, l2, .int a, l4, l5, l6] (.int a :: st) v x := vE_s rfl rfl
theorem q158_108 : vE 158 108 [l0, l1, l2, l3, l4, l5, l6] st v x ↔ vE 158 109 [l0, l1, l2, l3, l4, l5, l6] (.int 1 :: st) v x := vE_s rfl (by rfl)
theorem q158_109 : vE 158 109 [l0, l1, l2, l3, l4, l5, l6] (.int b :: .int a :: st) v x ↔ if a = b then vE 158 112 [l0, l1, l2, l3, l4, l5, l6] st v x else vE 158 117 [l0, l1, l2, l3, l4, l5, l6] st v x := vE_if rfl rfl
theorem q158_112 : vE 158 112 [l0, l1, l2, l3, l4, l5, .int a] st v x ↔ vE 158 114 [l0, l1, l2, l3, l4, l5, .int a] (.int a :: st) v x := vE_s rfl rfl
theorem q158_114 : vE 158 114 [l0, l1, l2, l3, l4, l5, l6] st v x ↔ vE 158 118 [l0, l1, l2, l3, l4, l5, l6] st v x := vE_s rfl rfl
theorem q158_117 : vE 158 117 [l0, l1, l2, l3, l4, l5, l6] st v x ↔ vE 158 118 [l0, l1, l2, l3, l4, l5, l6] (.int 0 :: st) v x := vE_s rfl (by rfl)
theorem q158_118 : vE 158 118 [l0, l1, l2, l3, l4, l5, l6] (w5 :: w4 :: w3 :: w2 :: w1 :: w0 :: st) v x ↔ ∃ y : vm_Y, vE 149 0 [w0, w1, w2, w3, w4, w5] [] v y ∧ vB 158 118 [l0, l1, l2, l3, l4, l5, l6] st y x := vE_cv rfl rfl rfl rfl
theorem q158_121 : vE 158 121 [.ref p, l1, l2, l3, l4, l5, l6] st v x ↔ vE 158 122 [.ref p, l1, l2, l3, l4, l5, l6] (.ref p :: st) v x := vE_s rfl rfl
theorem q158_122 : vE 158 122 [l0, l1, l2, l3, l4, l5, l6] (w0 :: st) v x ↔ ∃ y : vm_Y, vE 150 0 [w0] [] v y ∧ vB 158 122 [l0, l1, l2, l3, l4, l5, l6] st y x := vE_cv rfl rfl rfl rfl
theorem q158_125 : vE 158 125 [l0, l1, l2, l3, l4, l5, l6] [] v x ↔ x = vd v := vE_vr rfl
theorem qt158 {X pc : Nat} {L r : List Value} : vB 158 pc L r (vt X v) x ↔ x = vt X v := vB_t rfl
/-! 159 PassCheckerModel.wipe(I)V -/
theorem q159_0 : vE 159 0 [.ref p, l1] st v x ↔ vE 159 1 [.ref p, l1] (.ref p :: st) v x := vE_s rfl rfl
theorem q159_1 : vE 159 1 [l0, .int a] st v x ↔ vE 159 2 [l0, .int a] (.int a :: st) v x := vE_s rfl rfl
theorem q159_2 : vE 159 2 [l0, l1] st v x ↔ vE 159 3 [l0, l1] (.int 2 :: st) v x := vE_s rfl (by rfl)
theorem q159_3 : vE 159 3 [l0, l1] (w1 :: w0 :: st) v x ↔ ∃ y : vm_Y, vE 148 0 [w0, w1] [] v y ∧ vB 159 3 [l0, l1] st y x := vE_cs rfl rfl rfl rfl
theorem q159_6 : vE 159 6 [l0, l1] (.int a :: st) v x ↔ if a = 0 then vE 159 13 [l0, l1] st v x else vE 159 9 [l0, l1] st v x := vE_if rfl rfl
theorem q159_9 : vE 159 9 [l0, l1] st v x ↔ vE 159 10 [l0, l1] (.int 1 :: st) v x := vE_s rfl (by rfl)
theorem q159_10 : vE 159 10 [l0, l1] st v x ↔ vE 159 14 [l0, l1] st v x := vE_s rfl rfl
theorem q159_13 : vE 159 13 [l0, l1] st v x ↔ vE 159 14 [l0, l1] (.int 0 :: st) v x := vE_s rfl (by rfl)
theorem q159_14 : vE 159 14 [l0, l1] (.int a :: .ref p :: st) v x ↔ vE 159 17 [l0, l1] st (vm_si v p 0 a) x := vE_s rfl rfl
theorem q159_17 : vE 159 17 [.ref p, l1] st v x ↔ vE 159 18 [.ref p, l1] (.ref p :: st) v x := vE_s rfl rfl
theorem q159_18 : vE 159 18 [l0, l1] (.ref p :: st) v x ↔ vE 159 21 [l0, l1] (.int (v.1 p 0) :: st) v x := vE_s rfl rfl
theorem q159_21 : vE 159 21 [l0, l1] (.int a :: st) v x ↔ if a ≤ 0 then vE 159 25 [l0, l1] st v x else vE 159 24 [l0, l1] st v x := vE_if rfl rfl
theorem q159_24 : vE 159 24 [l0, l1] [] v x ↔ x = vd v := vE_vr rfl
theorem q159_25 : vE 159 25 [.ref p, l1] st v x ↔ vE 159 26 [.ref p, l1] (.ref p :: st) v x := vE_s rfl rfl
theorem q159_26 : vE 159 26 [l0, l1] (.ref p :: st) v x ↔ vE 159 29 [l0, l1] (.ref (p + 1) :: st) v x := vE_s rfl rfl
theorem q159_29 : vE 159 29 [l0, .int a] st v x ↔ vE 159 30 [l0, .int a] (.int a :: st) v x := vE_s rfl rfl
theorem q159_30 : vE 159 30 [l0, l1] st v x ↔ vE 159 31 [l0, l1] (.int 0 :: st) v x := vE_s rfl (by rfl)
theorem q159_31 : vE 159 31 [l0, l1] (.int b :: .int a :: .ref p :: st) v x ↔ vE 159 32 [l0, l1] st (vm_si v p a.toNatClampNeg b) x := vE_s rfl rfl
theorem q159_32 : vE 159 32 [.ref p, l1] st v x ↔ vE 159 33 [.ref p, l1] (.ref p :: st) v x := vE_s rfl rfl
theorem q159_33 : vE 159 33 [l0, l1] (w0 :: st) v x ↔ ∃ y : vm_Y, vE 150 0 [w0] [] v y ∧ vB 159 33 [l0, l1] st y x := vE_cv rfl rfl rfl rfl
theorem q159_36 : vE 159 36 [l0, l1] [] v x ↔ x = vd v := vE_vr rfl
theorem qt159 {X pc : Nat} {L r : List Value} : vB 159 pc L r (vt X v) x ↔ x = vt X v := vB_t rfl
/-! 160 PassCheckerModel.take()V -/
theorem q160_0 : vE 160 0 [.ref p] st v x ↔ vE 160 1 [.ref p] (.ref p :: st) v x := vE_s rfl rfl
theorem q160_1 : vE 160 1 [l0] st v x ↔ vE 160 2 [l0] (.int 0 :: st) v x := vE_s rfl (by rfl)
theorem q160_2 : vE 160 2 [l0] (.int a :: .ref p :: st) v x ↔ vE 160 5 [l0] st (vm_si v p 0 a) x := vE_s rfl rfl
theorem q160_5 : vE 160 5 [.ref p] st v x ↔ vE 160 6 [.ref p] (.ref p :: st) v x := vE_s rfl rfl
theorem q160_6 : vE 160 6 [l0] st v x ↔ vE 160 7 [l0] (.int 1 :: st) v x := vE_s rfl (by rfl)
theorem q160_7 : vE 160 7 [l0] st v x ↔ vE 160 8 [l0] (.int 0 :: st) v x := vE_s rfl (by rfl)
theorem q160_8 : vE 160 8 [l0] (w2 :: w1 :: w0 :: st) v x ↔ ∃ y : vm_Y, vE 161 0 [w0, w1, w2, .retAddr 0] [] v y ∧ vB 160 8 [l0] st y x := vE_cv rfl rfl rfl rfl
theorem q160_11 : vE 160 11 [.ref p] st v x ↔ vE 160 12 [.ref p] (.ref p :: st) v x := vE_s rfl rfl
theorem q160_12 : vE 160 12 [l0] (w0 :: st) v x ↔ ∃ y : vm_Y, vE 150 0 [w0] [] v y ∧ vB 160 12 [l0] st y x := vE_cv rfl rfl rfl rfl
theorem q160_15 : vE 160 15 [l0] [] v x ↔ x = vd v := vE_vr rfl
theorem qt160 {X pc : Nat} {L r : List Value} : vB 160 pc L r (vt X v) x ↔ x = vt X v := vB_t rfl
/-! 161 PassCheckerModel.copy(II)V -/
theorem q161_0 : vE 161 0 [.ref p, l1, l2, l3] st v x ↔ vE 161 1 [.ref p, l1, l2, l3] (.ref p :: st) v x := vE_s rfl rfl
theorem q161_1 : vE 161 1 [l0, l1, l2, l3] (.ref p :: st) v x ↔ vE 161 4 [l0, l1, l2, l3] (.ref (p + 1) :: st) v x := vE_s rfl rfl
theorem q161_4 : vE 161 4 [l0, l1, .int a, l3] st v x ↔ vE 161 5 [l0, l1, .int a, l3] (.int a :: st) v x := vE_s rfl rfl
theorem q161_5 : vE 161 5 [.ref p, l1, l2, l3] st v x ↔ vE 161 6 [.ref p, l1, l2, l3] (.ref p :: st) v x := vE_s rfl rfl
theorem q161_6 : vE 161 6 [l0, l1, l2, l3] (.ref p :: st) v x ↔ vE 161 9 [l0, l1, l2, l3] (.ref (p + 1) :: st) v x := vE_s rfl rfl
theorem q161_9 : vE 161 9 [l0, .int a, l2, l3] st v x ↔ vE 161 10 [l0, .int a, l2, l3] (.int a :: st) v x := vE_s rfl rfl
theorem q161_10 : vE 161 10 [l0, l1, l2, l3] (.int a :: .ref p :: st) v x ↔ vE 161 11 [l0, l1, l2, l3] (.int (v.1 p a.toNatClampNeg) :: st) v x := vE_s rfl rfl
theorem q161_11 : vE 161 11 [l0, l1, l2, l3] (.int b :: .int a :: .ref p :: st) v x ↔ vE 161 12 [l0, l1, l2, l3] st (vm_si v p a.toNatClampNeg b) x := vE_s rfl rfl
theorem q161_12 : vE 161 12 [l0, l1, l2, l3] st v x ↔ vE 161 13 [l0, l1, l2, l3] (.int 0 :: st) v x := vE_s rfl (by rfl)
theorem q161_13 : vE 161 13 [l0, l1, l2, l3] (.int a :: st) v x ↔ vE 161 14 [l0, l1, l2, .int a] st v x := vE_s rfl rfl
theorem q161_14 : vE 161 14 [l0, l1, l2, .int a] st v x ↔ vE 161 15 [l0, l1, l2, .int a] (.int a :: st) v x := vE_s rfl rfl
theorem q161_15 : vE 161 15 [l0, l1, l2, l3] st v x ↔ vE 161 17 [l0, l1, l2, l3] (.int 6 :: st) v x := vE_s rfl (by rfl)
theorem q161_17 : vE 161 17 [l0, l1, l2, l3] (.int b :: .int a :: st) v x ↔ if b ≤ a then vE 161 48 [l0, l1, l2, l3] st v x else vE 161 20 [l0, l1, l2, l3] st v x := vE_if rfl rfl
theorem q161_20 : vE 161 20 [.ref p, l1, l2, l3] st v x ↔ vE 161 21 [.ref p, l1, l2, l3] (.ref p :: st) v x := vE_s rfl rfl
theorem q161_21 : vE 161 21 [l0, l1, l2, l3] (.ref p :: st) v x ↔ vE 161 24 [l0, l1, l2, l3] (.ref (p + 2) :: st) v x := vE_s rfl rfl
theorem q161_24 : vE 161 24 [l0, l1, l2, l3] st v x ↔ vE 161 26 [l0, l1, l2, l3] (.int 6 :: st) v x := vE_s rfl (by rfl)
theorem q161_26 : vE 161 26 [l0, l1, .int a, l3] st v x ↔ vE 161 27 [l0, l1, .int a, l3] (.int a :: st) v x := vE_s rfl rfl
theorem q161_27 : vE 161 27 [l0, l1, l2, l3] (.int b :: .int a :: st) v x ↔ vE 161 28 [l0, l1, l2, l3] (.int (a * b) :: st) v x := vE_s rfl rfl
theorem q161_28 : vE 161 28 [l0, l1, l2, .int a] st v x ↔ vE 161 29 [l0, l1, l2, .int a] (.int a :: st) v x := vE_s rfl rfl
theorem q161_29 : vE 161 29 [l0, l1, l2, l3] (.int b :: .int a :: st) v x ↔ vE 161 30 [l0, l1, l2, l3] (.int (a + b) :: st) v x := vE_s rfl rfl
theorem q161_30 : vE 161 30 [.ref p, l1, l2, l3] st v x ↔ vE 161 31 [.ref p, l1, l2, l3] (.ref p :: st) v x := vE_s rfl rfl
theorem q161_31 : vE 161 31 [l0, l1, l2, l3] (.ref p :: st) v x ↔ vE 161 34 [l0, l1, l2, l3] (.ref (p + 2) :: st) v x := vE_s rfl rfl
theorem q161_34 : vE 161 34 [l0, l1, l2, l3] st v x ↔ vE 161 36 [l0, l1, l2, l3] (.int 6 :: st) v x := vE_s rfl (by rfl)
theorem q161_36 : vE 161 36 [l0, .int a, l2, l3] st v x ↔ vE 161 37 [l0, .int a, l2, l3] (.int a :: st) v x := vE_s rfl rfl
theorem q161_37 : vE 161 37 [l0, l1, l2, l3] (.int b :: .int a :: st) v x ↔ vE 161 38 [l0, l1, l2, l3] (.int (a * b) :: st) v x := vE_s rfl rfl
theorem q161_38 : vE 161 38 [l0, l1, l2, .int a] st v x ↔ vE 161 39 [l0, l1, l2, .int a] (.int a :: st) v x := vE_s rfl rfl
theorem q161_39 : vE 161 39 [l0, l1, l2, l3] (.int b :: .int a :: st) v x ↔ vE 161 40 [l0, l1, l2, l3] (.int (a + b) :: st) v x := vE_s rfl rfl
theorem q161_40 : vE 161 40 [l0, l1, l2, l3] (.int a :: .ref p :: st) v x ↔ vE 161 41 [l0, l1, l2, l3] (.int (v.1 p a.toNatClampNeg) :: st) v x := vE_s rfl rfl
theorem q161_41 : vE 161 41 [l0, l1, l2, l3] (.int b :: .int a :: .ref p :: st) v x ↔ vE 161 42 [l0, l1, l2, l3] st (vm_si v p a.toNatClampNeg b) x := vE_s rfl rfl
theorem q161_42 : vE 161 42 [l0, l1, l2, .int a] st v x ↔ vE 161 45 [l0, l1, l2, .int (a + 1)] st v x := vE_s rfl rfl
theorem q161_45 : vE 161 45 [l0, l1, l2, l3] st v x ↔ vE 161 14 [l0, l1, l2, l3] st v x := vE_s rfl rfl
theorem q161_48 : vE 161 48 [l0, l1, l2, l3] st v x ↔ vE 161 49 [l0, l1, l2, l3] (.int 0 :: st) v x := vE_s rfl (by rfl)
theorem q161_49 : vE 161 49 [l0, l1, l2, l3] (.int a :: st) v x ↔ vE 161 50 [l0, l1, l2, .int a] st v x := vE_s rfl rfl
theorem q161_50 : vE 161 50 [l0, l1, l2, .int a] st v x ↔ vE 161 51 [l0, l1, l2, .int a] (.int a :: st) v x := vE_s rfl rfl
theorem q161_51 : vE 161 51 [l0, l1, l2, l3] st v x ↔ vE 161 54 [l0, l1, l2, l3] (.int 192 :: st) v x := vE_s rfl (by rfl)
theorem q161_54 : vE 161 54 [l0, l1, l2, l3] (.int b :: .int a :: st) v x ↔ if b ≤ a then vE 161 87 [l0, l1, l2, l3] st v x else vE 161 57 [l0, l1, l2, l3] st v x := vE_if rfl rfl
theorem q161_57 : vE 161 57 [.ref p, l1, l2, l3] st v x ↔ vE 161 58 [.ref p, l1, l2, l3] (.ref p :: st) v x := vE_s rfl rfl
theorem q161_58 : vE 161 58 [l0, l1, l2, l3] (.ref p :: st) v x ↔ vE 161 61 [l0, l1, l2, l3] (.ref (p + 3) :: st) v x := vE_s rfl rfl
theorem q161_61 : vE 161 61 [l0, l1, l2, l3] st v x ↔ vE 161 64 [l0, l1, l2, l3] (.int 192 :: st) v x := vE_s rfl (by rfl)
theorem q161_64 : vE 161 64 [l0, l1, .int a, l3] st v x ↔ vE 161 65 [l0, l1, .int a, l3] (.int a :: st) v x := vE_s rfl rfl
theorem q161_65 : vE 161 65 [l0, l1, l2, l3] (.int b :: .int a :: st) v x ↔ vE 161 66 [l0, l1, l2, l3] (.int (a * b) :: st) v x := vE_s rfl rfl
theorem q161_66 : vE 161 66 [l0, l1, l2, .int a] st v x ↔ vE 161 67 [l0, l1, l2, .int a] (.int a :: st) v x := vE_s rfl rfl
theorem q161_67 : vE 161 67 [l0, l1, l2, l3] (.int b :: .int a :: st) v x ↔ vE 161 68 [l0, l1, l2, l3] (.int (a + b) :: st) v x := vE_s rfl rfl
theorem q161_68 : vE 161 68 [.ref p, l1, l2, l3] st v x ↔ vE 161 69 [.ref p, l1, l2, l3] (.ref p :: st) v x := vE_s rfl rfl
theorem q161_69 : vE 161 69 [l0, l1, l2, l3] (.ref p :: st) v x ↔ vE 161 72 [l0, l1, l2, l3] (.ref (p + 3) :: st) v x := vE_s rfl rfl
theorem q161_72 : vE 161 72 [l0, l1, l2, l3] st v x ↔ vE 161 75 [l0, l1, l2, l3] (.int 192 :: st) v x := vE_s rfl (by rfl)
theorem q161_75 : vE 161 75 [l0, .int a, l2, l3] st v x ↔ vE 161 76 [l0, .int a, l2, l3] (.int a :: st) v x := vE_s rfl rfl
theorem q161_76 : vE 161 76 [l0, l1, l2, l3] (.int b :: .int a :: st) v x ↔ vE 161 77 [l0, l1, l2, l3] (.int (a * b) :: st) v x := vE_s rfl rfl
theorem q161_77 : vE 161 77 [l0, l1, l2, .int a] st v x ↔ vE 161 78 [l0, l1, l2, .int a] (.int a :: st) v x := vE_s rfl rfl
theorem q161_78 : vE 161 78 [l0, l1, l2, l3] (.int b :: .int a :: st) v x ↔ vE 161 79 [l0, l1, l2, l3] (.int (a + b) :: st) v x := vE_s rfl rfl
theorem q161_79 : vE 161 79 [l0, l1, l2, l3] (.int a :: .ref p :: st) v x ↔ vE 161 80 [l0, l1, l2, l3] (.int (v.1 p a.toNatClampNeg) :: st) v x := vE_s rfl rfl
theorem q161_80 : vE 161 80 [l0, l1, l2, l3] (.int b :: .int a :: .ref p :: st) v x ↔ vE 161 81 [l0, l1, l2, l3] st (vm_si v p a.toNatClampNeg b) x := vE_s rfl rfl
theorem q161_81 : vE 161 81 [l0, l1, l2, .int a] st v x ↔ vE 161 84 [l0, l1, l2, .int (a + 1)] st v x := vE_s rfl rfl
theorem q161_84 : vE 161 84 [l0, l1, l2, l3] st v x ↔ vE 161 50 [l0, l1, l2, l3] st v x := vE_s rfl rfl
theorem q161_87 : vE 161 87 [l0, l1, l2, l3] st v x ↔ vE 161 88 [l0, l1, l2, l3] (.int 0 :: st) v x := vE_s rfl (by rfl)
theorem q161_88 : vE 161 88 [l0, l1, l2, l3] (.int a :: st) v x ↔ vE 161 89 [l0, l1, l2, .int a] st v x := vE_s rfl rfl
theorem q161_89 : vE 161 89 [l0, l1, l2, .int a] st v x ↔ vE 161 90 [l0, l1, l2, .int a] (.int a :: st) v x := vE_s rfl rfl
theorem q161_90 : vE 161 90 [l0, l1, l2, l3] st v x ↔ vE 161 92 [l0, l1, l2, l3] (.int 24 :: st) v x := vE_s rfl (by rfl)
theorem q161_92 : vE 161 92 [l0, l1, l2, l3] (.int b :: .int a :: st) v x ↔ if b ≤ a then vE 161 123 [l0, l1, l2, l3] st v x else vE 161 95 [l0, l1, l2, l3] st v x := vE_if rfl rfl
theorem q161_95 : vE 161 95 [.ref p, l1, l2, l3] st v x ↔ vE 161 96 [.ref p, l1, l2, l3] (.ref p :: st) v x := vE_s rfl rfl
theorem q161_96 : vE 161 96 [l0, l1, l2, l3] (.ref p :: st) v x ↔ vE 161 99 [l0, l1, l2, l3] (.ref (p + 4) :: st) v x := vE_s rfl rfl
theorem q161_99 : vE 161 99 [l0, l1, l2, l3] st v x ↔ vE 161 101 [l0, l1, l2, l3] (.int 24 :: st) v x := vE_s rfl (by rfl)
theorem q161_101 : vE 161 101 [l0, l1, .int a, l3] st v x ↔ vE 161 102 [l0, l1, .int a, l3] (.int a :: st) v x := vE_s rfl rfl
theorem q161_102 : vE 161 102 [l0, l1, l2, l3] (.int b :: .int a :: st) v x ↔ vE 161 103 [l0, l1, l2, l3] (.int (a * b) :: st) v x := vE_s rfl rfl
theorem q161_103 : vE 161 103 [l0, l1, l2, .int a] st v x ↔ vE 161 104 [l0, l1, l2, .int a] (.int a :: st) v x := vE_s rfl rfl
theorem q161_104 : vE 161 104 [l0, l1, l2, l3] (.int b :: .int a :: st) v x ↔ vE 161 105 [l0, l1, l2, l3] (.int (a + b) :: st) v x := vE_s rfl rfl
theorem q161_105 : vE 161 105 [.ref p, l1, l2, l3] st v x ↔ vE 161 106 [.ref p, l1, l2, l3] (.ref p :: st) v x := vE_s rfl rfl
theorem q161_106 : vE 161 106 [l0, l1, l2, l3] (.ref p :: st) v x ↔ vE 161 109 [l0, l1, l2, l3] (.ref (p + 4) :: st) v x := vE_s rfl rfl
theorem q161_109 : vE 161 109 [l0, l1, l2, l3] st v x ↔ vE 161 111 [l0, l1, l2, l3] (.int 24 :: st) v x := vE_s rfl (by rfl)
theorem q161_111 : vE 161 111 [l0, .int a, l2, l3] st v x ↔ vE 161 112 [l0, .int a, l2, l3] (.int a :: st) v x := vE_s rfl rfl
theorem q161_112 : vE 161 112 [l0, l1, l2, l3] (.int b :: .int a :: st) v x ↔ vE 161 113 [l0, l1, l2, l3] (.int (a * b) :: st) v x := vE_s rfl rfl
theorem q161_113 : vE 161 113 [l0, l1, l2, .int a] st v x ↔ vE 161 114 [l0, l1, l2, .int a] (.int a :: st) v x := vE_s rfl rfl
theorem q161_114 : vE 161 114 [l0, l1, l2, l3] (.int b :: .int a :: st) v x ↔ vE 161 115 [l0, l1, l2, l3] (.int (a + b) :: st) v x := vE_s rfl rfl
theorem q161_115 : vE 161 115 [l0, l1, l2, l3] (.int a :: .ref p :: st) v x ↔ vE 161 116 [l0, l1, l2, l3] (.int (v.1 p a.toNatClampNeg) :: st) v x := vE_s rfl rfl
theorem q161_116 : vE 161 116 [l0, l1, l2, l3] (.int b :: .int a :: .ref p :: st) v x ↔ vE 161 117 [l0, l1, l2, l3] st (vm_si v p a.toNatClampNeg b) x := vE_s rfl rfl
theorem q161_117 : vE 161 117 [l0, l1, l2, .int a] st v x ↔ vE 161 120 [l0, l1, l2, .int (a + 1)] st v x := vE_s rfl rfl
theorem q161_120 : vE 161 120 [l0, l1, l2, l3] st v x ↔ vE 161 89 [l0, l1, l2, l3] st v x := vE_s rfl rfl
theorem q161_123 : vE 161 123 [l0, l1, l2, l3] [] v x ↔ x = vd v := vE_vr rfl
/-! 162 PassCheckerModel.instruction(IIII)I -/
theorem q162_0 : vE 162 0 [.ref p, l1, l2, l3, l4] st v x ↔ vE 162 1 [.ref p, l1, l2, l3, l4] (.ref p :: st) v x := vE_s rfl rfl
theorem q162_1 : vE 162 1 [.ref p, l1, l2, l3, l4] st v x ↔ vE 162 2 [.ref p, l1, l2, l3, l4] (.ref p :: st) v x := vE_s rfl rfl
theorem q162_2 : vE 162 2 [l0, .int a, l2, l3, l4] st v x ↔ vE 162 3 [l0, .int a, l2, l3, l4] (.int a :: st) v x := vE_s rfl rfl
theorem q162_3 : vE 162 3 [l0, l1, .int a, l3, l4] st v x ↔ vE 162 4 [l0, l1, .int a, l3, l4] (.int a :: st) v x := vE_s rfl rfl
theorem q162_4 : vE 162 4 [l0, l1, l2, l3, l4] (w2 :: w1 :: w0 :: st) v x ↔ ∃ y : vm_Y, vE 152 0 [w0, w1, w2] [] v y ∧ vB 162 4 [l0, l1, l2, l3, l4] st y x := vE_cv rfl rfl rfl rfl
theorem q162_7 : vE 162 7 [l0, l1, l2, l3, l4] (.int a :: st) v x ↔ if a = 0 then vE 162 28 [l0, l1, l2, l3, l4] st v x else vE 162 10 [l0, l1, l2, l3, l4] st v x := vE_if rfl rfl
theorem q162_10 : vE 162 10 [l0, l1, l2, .int a, l4] st v x ↔ vE 162 11 [l0, l1, l2, .int a, l4] (.int a :: st) v x := vE_s rfl rfl
theorem q162_11 : vE 162 11 [.ref p, l1, l2, l3, l4] st v x ↔ vE 162 12 [.ref p, l1, l2, l3, l4] (.ref p :: st) v x := vE_s rfl rfl
theorem q162_12 : vE 162 12 [l0, l1, l2, l3, l4] (.ref p :: st) v x ↔ vE 162 15 [l0, l1, l2, l3, l4] (.ref (p + 2) :: st) v x := vE_s rfl rfl
theorem q162_15 : vE 162 15 [l0, l1, l2, l3, l4] st v x ↔ vE 162 17 [l0, l1, l2, l3, l4] (.int 6 :: st) v x := vE_s rfl (by rfl)
theorem q162_17 : vE 162 17 [l0, .int a, l2, l3, l4] st v x ↔ vE 162 18 [l0, .int a, l2, l3, l4] (.int a :: st) v x := vE_s rfl rfl
theorem q162_18 : vE 162 18 [l0, l1, l2, l3, l4] (.int b :: .int a :: st) v x ↔ vE 162 19 [l0, l1, l2, l3, l4] (.int (a * b) :: st) v x := vE_s rfl rfl
theorem q162_19 : vE 162 19 [l0, l1, .int a, l3, l4] st v x ↔ vE 162 20 [l0, l1, .int a, l3, l4] (.int a :: st) v x := vE_s rfl rfl
theorem q162_20 : vE 162 20 [l0, l1, l2, l3, l4] (.int b :: .int a :: st) v x ↔ vE 162 21 [l0, l1, l2, l3, l4] (.int (a + b) :: st) v x := vE_s rfl rfl
theorem q162_21 : vE 162 21 [l0, l1, l2, l3, l4] (.int a :: .ref p :: st) v x ↔ vE 162 22 [l0, l1, l2, l3, l4] (.int (v.1 p a.toNatClampNeg) :: st) v x := vE_s rfl rfl
theorem q162_22 : vE 162 22 [l0, l1, l2, l3, l4] (w1 :: w0 :: st) v x ↔ ∃ y : vm_Y, vE 148 0 [w0, w1] [] v y ∧ vB 162 22 [l0, l1, l2, l3, l4] st y x := vE_cs rfl rfl rfl rfl
theorem q162_25 : vE 162 25 [l0, l1, l2, l3, l4] (.int a :: st) v x ↔ if a = 0 then vE 162 32 [l0, l1, l2, l3, l4] st v x else vE 162 28 [l0, l1, l2, l3, l4] st v x := vE_if rfl rfl
theorem q162_28 : vE 162 28 [l0, l1, l2, l3, l4] st v x ↔ vE 162 29 [l0, l1, l2, l3, l4] (.int 1 :: st) v x := vE_s rfl (by rfl)
theorem q162_29 : vE 162 29 [l0, l1, l2, l3, l4] st v x ↔ vE 162 46 [l0, l1, l2, l3, l4] st v x := vE_s rfl rfl
theorem q162_32 : vE 162 32 [l0, l1, l2, l3, .int a] st v x ↔ vE 162 34 [l0, l1, l2, l3, .int a] (.int a :: st) v x := vE_s rfl rfl
theorem q162_34 : vE 162 34 [l0, l1, l2, l3, l4] st v x ↔ vE 162 35 [l0, l1, l2, l3, l4] (.int 4 :: st) v x := vE_s rfl (by rfl)
theorem q162_35 : vE 162 35 [l0, l1, l2, l3, l4] (w1 :: w0 :: st) v x ↔ ∃ y : vm_Y, vE 148 0 [w0, w1] [] v y ∧ vB 162 35 [l0, l1, l2, l3, l4] st y x := vE_cs rfl rfl rfl rfl
theorem q162_38 : vE 162 38 [l0, l1, l2, l3, l4] (.int a :: st) v x ↔ if a = 0 then vE 162 45 [l0, l1, l2, l3, l4] st v x else vE 162 41 [l0, l1, l2, l3, l4] st v x := vE_if rfl rfl
theorem q162_41 : vE 162 41 [l0, l1, l2, l3, l4] st v x ↔ vE 162 42 [l0, l1, l2, l3, l4] (.int 2 :: st) v x := vE_s rfl (by rfl)
theorem q162_42 : vE 162 42 [l0, l1, l2, l3, l4] st v x ↔ vE 162 46 [l0, l1, l2, l3, l4] st v x := vE_s rfl rfl
theorem q162_45 : vE 162 45 [l0, l1, l2, l3, l4] st v x ↔ vE 162 46 [l0, l1, l2, l3, l4] (.int 0 :: st) v x := vE_s rfl (by rfl)
theorem q162_46 : vE 162 46 [l0, l1, l2, l3, l4] (.int a :: .ref p :: st) v x ↔ vE 162 49 [l0, l1, l2, l3, l4] st (vm_si v p 0 a) x := vE_s rfl rfl
theorem q162_49 : vE 162 49 [.ref p, l1, l2, l3, l4] st v x ↔ vE 162 50 [.ref p, l1, l2, l3, l4] (.ref p :: st) v x := vE_s rfl rfl
theorem q162_50 : vE 162 50 [l0, l1, l2, l3, l4] (.ref p :: st) v x ↔ vE 162 53 [l0, l1, l2, l3, l4] (.int (v.1 p 0) :: st) v x := vE_s rfl rfl
theorem q162_53 : vE 162 53 [l0, l1, l2, l3, l4] (.int a :: st) v x ↔ if a ≤ 0 then vE 162 60 [l0, l1, l2, l3, l4] st v x else vE 162 56 [l0, l1, l2, l3, l4] st v x := vE_if rfl rfl
theorem q162_56 : vE 162 56 [l0, l1, l2, l3, l4] st v x ↔ vE 162 57 [l0, l1, l2, l3, l4] (.int 0 :: st) v x := vE_s rfl (by rfl)
theorem q162_57 : vE 162 57 [l0, l1, l2, l3, l4] st v x ↔ vE 162 81 [l0, l1, l2, l3, l4] st v x := vE_s rfl rfl
theorem q162_60 : vE 162 60 [.ref p, l1, l2, l3, l4] st v x ↔ vE 162 61 [.ref p, l1, l2, l3, l4] (.ref p :: st) v x := vE_s rfl rfl
theorem q162_61 : vE 162 61 [l0, l1, l2, l3, l4] (.ref p :: st) v x ↔ vE 162 64 [l0, l1, l2, l3, l4] (.ref (p + 3) :: st) v x := vE_s rfl rfl
theorem q162_64 : vE 162 64 [l0, l1, l2, l3, l4] st v x ↔ vE 162 66 [l0, l1, l2, l3, l4] (.int 32 :: st) v x := vE_s rfl (by rfl)
theorem q162_66 : vE 162 66 [l0, l1, l2, l3, l4] st v x ↔ vE 162 68 [l0, l1, l2, l3, l4] (.int 6 :: st) v x := vE_s rfl (by rfl)
theorem q162_68 : vE 162 68 [l0, .int a, l2, l3, l4] st v x ↔ vE 162 69 [l0, .int a, l2, l3, l4] (.int a :: st) v x := vE_s rfl rfl
theorem q162_69 : vE 162 69 [l0, l1, l2, l3, l4] (.int b :: .int a :: st) v x ↔ vE 162 70 [l0, l1, l2, l3, l4] (.int (a * b) :: st) v x := vE_s rfl rfl
theorem q162_70 : vE 162 70 [l0, l1, .int a, l3, l4] st v x ↔ vE 162 71 [l0, l1, .int a, l3, l4] (.int a :: st) v x := vE_s rfl rfl
theorem q162_71 : vE 162 71 [l0, l1, l2, l3, l4] (.int b :: .int a :: st) v x ↔ vE 162 72 [l0, l1, l2, l3, l4] (.int (a + b) :: st) v x := vE_s rfl rfl
theorem q162_72 : vE 162 72 [l0, l1, l2, l3, l4] (.int b :: .int a :: st) v x ↔ vE 162 73 [l0, l1, l2, l3, l4] (.int (a * b) :: st) v x := vE_s rfl rfl
theorem q162_73 : vE 162 73 [l0, l1, l2, l3, l4] st v x ↔ vE 162 74 [l0, l1, l2, l3, l4] (.int 4 :: st) v x := vE_s rfl (by rfl)
theorem q162_74 : vE 162 74 [l0, l1, l2, .int a, l4] st v x ↔ vE 162 75 [l0, l1, l2, .int a, l4] (.int a :: st) v x := vE_s rfl rfl
theorem q162_75 : vE 162 75 [l0, l1, l2, l3, l4] (.int b :: .int a :: st) v x ↔ vE 162 76 [l0, l1, l2, l3, l4] (.int (a * b) :: st) v x := vE_s rfl rfl
theorem q162_76 : vE 162 76 [l0, l1, l2, l3, l4] (.int b :: .int a :: st) v x ↔ vE 162 77 [l0, l1, l2, l3, l4] (.int (a + b) :: st) v x := vE_s rfl rfl
theorem q162_77 : vE 162 77 [l0, l1, l2, l3, .int a] st v x ↔ vE 162 79 [l0, l1, l2, l3, .int a] (.int a :: st) v x := vE_s rfl rfl
theorem q162_79 : vE 162 79 [l0, l1, l2, l3, l4] (.int b :: .int a :: st) v x ↔ vE 162 80 [l0, l1, l2, l3, l4] (.int (a + b) :: st) v x := vE_s rfl rfl
theorem q162_80 : vE 162 80 [l0, l1, l2, l3, l4] (.int a :: .ref p :: st) v x ↔ vE 162 81 [l0, l1, l2, l3, l4] (.int (v.1 p a.toNatClampNeg) :: st) v x := vE_s rfl rfl
theorem q162_81 : vE 162 81 [l0, l1, l2, l3, l4] ([.int a]) v x ↔ x = vr a v := vE_ir rfl
theorem qt162 {X pc : Nat} {L r : List Value} : vB 162 pc L r (vt X v) x ↔ x = vt X v := vB_t rfl
/-! 163 PassCheckerModel.ending(III)I -/
theorem q163_0 : vE 163 0 [.ref p, l1, l2, l3] st v x ↔ vE 163 1 [.ref p, l1, l2, l3] (.ref p :: st) v x := vE_s rfl rfl
theorem q163_1 : vE 163 1 [.ref p, l1, l2, l3] st v x ↔ vE 163 2 [.ref p, l1, l2, l3] (.ref p :: st) v x := vE_s rfl rfl
theorem q163_2 : vE 163 2 [l0, .int a, l2, l3] st v x ↔ vE 163 3 [l0, .int a, l2, l3] (.int a :: st) v x := vE_s rfl rfl
theorem q163_3 : vE 163 3 [l0, l1, .int a, l3] st v x ↔ vE 163 4 [l0, l1, .int a, l3] (.int a :: st) v x := vE_s rfl rfl
theorem q163_4 : vE 163 4 [l0, l1, l2, l3] (w2 :: w1 :: w0 :: st) v x ↔ ∃ y : vm_Y, vE 152 0 [w0, w1, w2] [] v y ∧ vB 163 4 [l0, l1, l2, l3] st y x := vE_cv rfl rfl rfl rfl
theorem q163_7 : vE 163 7 [l0, l1, l2, l3] (.int a :: st) v x ↔ if a = 0 then vE 163 10 [l0, l1, l2, l3] st v x else vE 163 14 [l0, l1, l2, l3] st v x := vE_if rfl rfl
theorem q163_10 : vE 163 10 [l0, l1, l2, l3] st v x ↔ vE 163 11 [l0, l1, l2, l3] (.int 1 :: st) v x := vE_s rfl (by rfl)
theorem q163_11 : vE 163 11 [l0, l1, l2, l3] st v x ↔ vE 163 27 [l0, l1, l2, l3] st v x := vE_s rfl rfl
theorem q163_14 : vE 163 14 [l0, l1, l2, .int a] st v x ↔ vE 163 15 [l0, l1, l2, .int a] (.int a :: st) v x := vE_s rfl rfl
theorem q163_15 : vE 163 15 [l0, l1, l2, l3] st v x ↔ vE 163 16 [l0, l1, l2, l3] (.int 5 :: st) v x := vE_s rfl (by rfl)
theorem q163_16 : vE 163 16 [l0, l1, l2, l3] (w1 :: w0 :: st) v x ↔ ∃ y : vm_Y, vE 148 0 [w0, w1] [] v y ∧ vB 163 16 [l0, l1, l2, l3] st y x := vE_cs rfl rfl rfl rfl
theorem q163_19 : vE 163 19 [l0, l1, l2, l3] (.int a :: st) v x ↔ if a = 0 then vE 163 26 [l0, l1, l2, l3] st v x else vE 163 22 [l0, l1, l2, l3] st v x := vE_if rfl rfl
theorem q163_22 : vE 163 22 [l0, l1, l2, l3] st v x ↔ vE 163 23 [l0, l1, l2, l3] (.int 2 :: st) v x := vE_s rfl (by rfl)
theorem q163_23 : vE 163 23 [l0, l1, l2, l3] st v x ↔ vE 163 27 [l0, l1, l2, l3] st v x := vE_s rfl rfl
theorem q163_26 : vE 163 26 [l0, l1, l2, l3] st v x ↔ vE 163 27 [l0, l1, l2, l3] (.int 0 :: st) v x := vE_s rfl (by rfl)
theorem q163_27 : vE 163 27 [l0, l1, l2, l3] (.int a :: .ref p :: st) v x ↔ vE 163 30 [l0, l1, l2, l3] st (vm_si v p 0 a) x := vE_s rfl rfl
theorem q163_30 : vE 163 30 [.ref p, l1, l2, l3] st v x ↔ vE 163 31 [.ref p, l1, l2, l3] (.ref p :: st) v x := vE_s rfl rfl
theorem q163_31 : vE 163 31 [l0, l1, l2, l3] (.ref p :: st) v x ↔ vE 163 34 [l0, l1, l2, l3] (.int (v.1 p 0) :: st) v x := vE_s rfl rfl
theorem q163_34 : vE 163 34 [l0, l1, l2, l3] (.int a :: st) v x ↔ if a ≤ 0 then vE 163 39 [l0, l1, l2, l3] st v x else vE 163 37 [l0, l1, l2, l3] st v x := vE_if rfl rfl
theorem q163_37 : vE 163 37 [l0, l1, l2, l3] st v x ↔ vE 163 38 [l0, l1, l2, l3] (.int 0 :: st) v x := vE_s rfl (by rfl)
theorem q163_38 : vE 163 38 [l0, l1, l2, l3] ([.int a]) v x ↔ x = vr a v := vE_ir rfl
theorem q163_39 : vE 163 39 [l0, l1, l2, .int a] st v x ↔ vE 163 40 [l0, l1, l2, .int a] (.int a :: st) v x := vE_s rfl rfl
theorem q163_40 : vE 163 40 [l0, l1, l2, l3] st v x ↔ vE 163 41 [l0, l1, l2, l3] (.int 4 :: st) v x := vE_s rfl (by rfl)
theorem q163_41 : vE 163 41 [l0, l1, l2, l3] (.int b :: .int a :: st) v x ↔ if a = b then vE 163 44 [l0, l1, l2, l3] st v x else vE 163 58 [l0, l1, l2, l3] st v x := vE_if rfl rfl
theorem q163_44 : vE 163 44 [.ref p, l1, l2, l3] st v x ↔ vE 163 45 [.ref p, l1, l2, l3] (.ref p :: st) v x := vE_s rfl rfl
theorem q163_45 : vE 163 45 [l0, l1, l2, l3] (.ref p :: st) v x ↔ vE 163 48 [l0, l1, l2, l3] (.ref (p + 2) :: st) v x := vE_s rfl rfl
theorem q163_48 : vE 163 48 [l0, l1, l2, l3] st v x ↔ vE 163 50 [l0, l1, l2, l3] (.int 6 :: st) v x := vE_s rfl (by rfl)
theorem q163_50 : vE 163 50 [l0, .int a, l2, l3] st v x ↔ vE 163 51 [l0, .int a, l2, l3] (.int a :: st) v x := vE_s rfl rfl
theorem q163_51 : vE 163 51 [l0, l1, l2, l3] (.int b :: .int a :: st) v x ↔ vE 163 52 [l0, l1, l2, l3] (.int (a * b) :: st) v x := vE_s rfl rfl
theorem q163_52 : vE 163 52 [l0, l1, .int a, l3] st v x ↔ vE 163 53 [l0, l1, .int a, l3] (.int a :: st) v x := vE_s rfl rfl
theorem q163_53 : vE 163 53 [l0, l1, l2, l3] (.int b :: .int a :: st) v x ↔ vE 163 54 [l0, l1, l2, l3] (.int (a + b) :: st) v x := vE_s rfl rfl
theorem q163_54 : vE 163 54 [l0, l1, l2, l3] (.int a :: .ref p :: st) v x ↔ vE 163 55 [l0, l1, l2, l3] (.int (v.1 p a.toNatClampNeg) :: st) v x := vE_s rfl rfl
theorem q163_55 : vE 163 55 [l0, l1, l2, l3] st v x ↔ vE 163 73 [l0, l1, l2, l3] st v x := vE_s rfl rfl
theorem q163_58 : vE 163 58 [.ref p, l1, l2, l3] st v x ↔ vE 163 59 [.ref p, l1, l2, l3] (.ref p :: st) v x := vE_s rfl rfl
theorem q163_59 : vE 163 59 [l0, l1, l2, l3] (.ref p :: st) v x ↔ vE 163 62 [l0, l1, l2, l3] (.ref (p + 4) :: st) v x := vE_s rfl rfl
theorem q163_62 : vE 163 62 [l0, l1, l2, l3] st v x ↔ vE 163 63 [l0, l1, l2, l3] (.int 4 :: st) v x := vE_s rfl (by rfl)
theorem q163_63 : vE 163 63 [l0, l1, l2, l3] st v x ↔ vE 163 65 [l0, l1, l2, l3] (.int 6 :: st) v x := vE_s rfl (by rfl)
theorem q163_65 : vE 163 65 [l0, .int a, l2, l3] st v x ↔ vE 163 66 [l0, .int a, l2, l3] (.int a :: st) v x := vE_s rfl rfl
theorem q163_66 : vE 163 66 [l0, l1, l2, l3] (.int b :: .int a :: st) v x ↔ vE 163 67 [l0, l1, l2, l3] (.int (a * b) :: st) v x := vE_s rfl rfl
theorem q163_67 : vE 163 67 [l0, l1, .int a, l3] st v x ↔ vE 163 68 [l0, l1, .int a, l3] (.int a :: st) v x := vE_s rfl rfl
theorem q163_68 : vE 163 68 [l0, l1, l2, l3] (.int b :: .int a :: st) v x ↔ vE 163 69 [l0, l1, l2, l3] (.int (a + b) :: st) v x := vE_s rfl rfl
theorem q163_69 : vE 163 69 [l0, l1, l2, l3] (.int b :: .int a :: st) v x ↔ vE 163 70 [l0, l1, l2, l3] (.int (a * b) :: st) v x := vE_s rfl rfl
theorem q163_70 : vE 163 70 [l0, l1, l2, .int a] st v x ↔ vE 163 71 [l0, l1, l2, .int a] (.int a :: st) v x := vE_s rfl rfl
theorem q163_71 : vE 163 71 [l0, l1, l2, l3] (.int b :: .int a :: st) v x ↔ vE 163 72 [l0, l1, l2, l3] (.int (a + b) :: st) v x := vE_s rfl rfl
theorem q163_72 : vE 163 72 [l0, l1, l2, l3] (.int a :: .ref p :: st) v x ↔ vE 163 73 [l0, l1, l2, l3] (.int (v.1 p a.toNatClampNeg) :: st) v x := vE_s rfl rfl
theorem q163_73 : vE 163 73 [l0, l1, l2, l3] ([.int a]) v x ↔ x = vr a v := vE_ir rfl
theorem qt163 {X pc : Nat} {L r : List Value} : vB 163 pc L r (vt X v) x ↔ x = vt X v := vB_t rfl
/-! 164 PassCheckerModel.pass(I)I -/
theorem q164_0 : vE 164 0 [.ref p, l1, l2, l3] st v x ↔ vE 164 1 [.ref p, l1, l2, l3] (.ref p :: st) v x := vE_s rfl rfl
theorem q164_1 : vE 164 1 [l0, .int a, l2, l3] st v x ↔ vE 164 2 [l0, .int a, l2, l3] (.int a :: st) v x := vE_s rfl rfl
theorem q164_2 : vE 164 2 [l0, l1, l2, l3] st v x ↔ vE 164 3 [l0, l1, l2, l3] (.int 3 :: st) v x := vE_s rfl (by rfl)
theorem q164_3 : vE 164 3 [l0, l1, l2, l3] (w1 :: w0 :: st) v x ↔ ∃ y : vm_Y, vE 148 0 [w0, w1] [] v y ∧ vB 164 3 [l0, l1, l2, l3] st y x := vE_cs rfl rfl rfl rfl
theorem q164_6 : vE 164 6 [l0, l1, l2, l3] (.int a :: st) v x ↔ if a = 0 then vE 164 13 [l0, l1, l2, l3] st v x else vE 164 9 [l0, l1, l2, l3] st v x := vE_if rfl rfl
theorem q164_9 : vE 164 9 [l0, l1, l2, l3] st v x ↔ vE 164 10 [l0, l1, l2, l3] (.int 1 :: st) v x := vE_s rfl (by rfl)
theorem q164_10 : vE 164 10 [l0, l1, l2, l3] st v x ↔ vE 164 14 [l0, l1, l2, l3] st v x := vE_s rfl rfl
theorem q164_13 : vE 164 13 [l0, l1, l2, l3] st v x ↔ vE 164 14 [l0, l1, l2, l3] (.int 0 :: st) v x := vE_s rfl (by rfl)
theorem q164_14 : vE 164 14 [l0, l1, l2, l3] (.int a :: .ref p :: st) v x ↔ vE 164 17 [l0, l1, l2, l3] st (vm_si v p 0 a) x := vE_s rfl rfl
theorem q164_17 : vE 164 17 [.ref p, l1, l2, l3] st v x ↔ vE 164 18 [.ref p, l1, l2, l3] (.ref p :: st) v x := vE_s rfl rfl
theorem q164_18 : vE 164 18 [l0, l1, l2, l3] (.ref p :: st) v x ↔ vE 164 21 [l0, l1, l2, l3] (.int (v.1 p 0) :: st) v x := vE_s rfl rfl
theorem q164_21 : vE 164 21 [l0, l1, l2, l3] (.int a :: st) v x ↔ if a ≤ 0 then vE 164 26 [l0, l1, l2, l3] st v x else vE 164 24 [l0, l1, l2, l3] st v x := vE_if rfl rfl
theorem q164_24 : vE 164 24 [l0, l1, l2, l3] st v x ↔ vE 164 25 [l0, l1, l2, l3] (.int 0 :: st) v x := vE_s rfl (by rfl)
theorem q164_25 : vE 164 25 [l0, l1, l2, l3] ([.int a]) v x ↔ x = vr a v := vE_ir rfl
theorem q164_26 : vE 164 26 [.ref p, l1, l2, l3] st v x ↔ vE 164 27 [.ref p, l1, l2, l3] (.ref p :: st) v x := vE_s rfl rfl
theorem q164_27 : vE 164 27 [l0, l1, l2, l3] st v x ↔ vE 164 28 [l0, l1, l2, l3] (.int 0 :: st) v x := vE_s rfl (by rfl)
theorem q164_28 : vE 164 28 [l0, l1, l2, l3] st v x ↔ vE 164 29 [l0, l1, l2, l3] (.int 1 :: st) v x := vE_s rfl (by rfl)
theorem q164_29 : vE 164 29 [l0, l1, l2, l3] (w2 :: w1 :: w0 :: st) v x ↔ ∃ y : vm_Y, vE 161 0 [w0, w1, w2, .retAddr 0] [] v y ∧ vB 164 29 [l0, l1, l2, l3] st y x := vE_cv rfl rfl rfl rfl
theorem q164_32 : vE 164 32 [l0, l1, l2, l3] st v x ↔ vE 164 33 [l0, l1, l2, l3] (.int 0 :: st) v x := vE_s rfl (by rfl)
theorem q164_33 : vE 164 33 [l0, l1, l2, l3] (.int a :: st) v x ↔ vE 164 34 [l0, l1, .int a, l3] st v x := vE_s rfl rfl
theorem q164_34 : vE 164 34 [l0, l1, l2, l3] st v x ↔ vE 164 35 [l0, l1, l2, l3] (.int 0 :: st) v x := vE_s rfl (by rfl)
theorem q164_35 : vE 164 35 [l0, l1, l2, l3] (.int a :: st) v x ↔ vE 164 36 [l0, l1, l2, .int a] st v x := vE_s rfl rfl
theorem q164_36 : vE 164 36 [l0, l1, l2, .int a] st v x ↔ vE 164 37 [l0, l1, l2, .int a] (.int a :: st) v x := vE_s rfl rfl
theorem q164_37 : vE 164 37 [.ref p, l1, l2, l3] st v x ↔ vE 164 38 [.ref p, l1, l2, l3] (.ref p :: st) v x := vE_s rfl rfl
theorem q164_38 : vE 164 38 [l0, l1, l2, l3] (.ref p :: st) v x ↔ vE 164 41 [l0, l1, l2, l3] (.ref (p + 1) :: st) v x := vE_s rfl rfl
theorem q164_41 : vE 164 41 [l0, l1, l2, l3] st v x ↔ vE 164 42 [l0, l1, l2, l3] (.int 0 :: st) v x := vE_s rfl (by rfl)
theorem q164_42 : vE 164 42 [l0, l1, l2, l3] (.int a :: .ref p :: st) v x ↔ vE 164 43 [l0, l1, l2, l3] (.int (v.1 p a.toNatClampNeg) :: st) v x := vE_s rfl rfl
theorem q164_43 : vE 164 43 [l0, l1, l2, l3] (.int b :: .int a :: st) v x ↔ if b ≤ a then vE 164 90 [l0, l1, l2, l3] st v x else vE 164 46 [l0, l1, l2, l3] st v x := vE_if rfl rfl
theorem q164_46 : vE 164 46 [l0, .int a, l2, l3] st v x ↔ vE 164 47 [l0, .int a, l2, l3] (.int a :: st) v x := vE_s rfl rfl
theorem q164_47 : vE 164 47 [l0, l1, l2, l3] (.int a :: st) v x ↔ if a = 0 then vE 164 50 [l0, l1, l2, l3] st v x else vE 164 58 [l0, l1, l2, l3] st v x := vE_if rfl rfl
theorem q164_50 : vE 164 50 [.ref p, l1, l2, l3] st v x ↔ vE 164 51 [.ref p, l1, l2, l3] (.ref p :: st) v x := vE_s rfl rfl
theorem q164_51 : vE 164 51 [l0, l1, l2, .int a] st v x ↔ vE 164 52 [l0, l1, l2, .int a] (.int a :: st) v x := vE_s rfl rfl
theorem q164_52 : vE 164 52 [l0, l1, l2, l3] (w1 :: w0 :: st) v x ↔ ∃ y : vm_Y, vE 165 0 [w0, w1, .retAddr 0, .retAddr 0, .retAddr 0, .retAddr 0, .retAddr 0, .retAddr 0, .retAddr 0, .retAddr 0] [] v y ∧ vB 164 52 [l0, l1, l2, l3] st y x := vE_cv rfl rfl rfl rfl
theorem q164_55 : vE 164 55 [l0, l1, l2, l3] st v x ↔ vE 164 76 [l0, l1, l2, l3] st v x := vE_s rfl rfl
theorem q164_58 : vE 164 58 [l0, .int a, l2, l3] st v x ↔ vE 164 59 [l0, .int a, l2, l3] (.int a :: st) v x := vE_s rfl rfl
theorem q164_59 : vE 164 59 [l0, l1, l2, l3] st v x ↔ vE 164 60 [l0, l1, l2, l3] (.int 1 :: st) v x := vE_s rfl (by rfl)
theorem q164_60 : vE 164 60 [l0, l1, l2, l3] (.int b :: .int a :: st) v x ↔ if a = b then vE 164 63 [l0, l1, l2, l3] st v x else vE 164 71 [l0, l1, l2, l3] st v x := vE_if rfl rfl
theorem q164_63 : vE 164 63 [.ref p, l1, l2, l3] st v x ↔ vE 164 64 [.ref p, l1, l2, l3] (.ref p :: st) v x := vE_s rfl rfl
theorem q164_64 : vE 164 64 [l0, l1, l2, .int a] st v x ↔ vE 164 65 [l0, l1, l2, .int a] (.int a :: st) v x := vE_s rfl rfl
theorem q164_65 : vE 164 65 [l0, l1, l2, l3] (w1 :: w0 :: st) v x ↔ ∃ y : vm_Y, vE 167 0 [w0, w1, .retAddr 0, .retAddr 0, .retAddr 0, .retAddr 0] [] v y ∧ vB 164 65 [l0, l1, l2, l3] st y x := vE_cv rfl rfl rfl rfl
theorem q164_68 : vE 164 68 [l0, l1, l2, l3] st v x ↔ vE 164 76 [l0, l1, l2, l3] st v x := vE_s rfl rfl
theorem q164_71 : vE 164 71 [.ref p, l1, l2, l3] st v x ↔ vE 164 72 [.ref p, l1, l2, l3] (.ref p :: st) v x := vE_s rfl rfl
theorem q164_72 : vE 164 72 [l0, l1, l2, .int a] st v x ↔ vE 164 73 [l0, l1, l2, .int a] (.int a :: st) v x := vE_s rfl rfl
theorem q164_73 : vE 164 73 [l0, l1, l2, l3] (w1 :: w0 :: st) v x ↔ ∃ y : vm_Y, vE 170 0 [w0, w1, .retAddr 0, .retAddr 0, .retAddr 0, .retAddr 0, .retAddr 0] [] v y ∧ vB 164 73 [l0, l1, l2, l3] st y x := vE_cv rfl rfl rfl rfl
theorem q164_76 : vE 164 76 [l0, l1, .int a, l3] st v x ↔ vE 164 77 [l0, l1, .int a, l3] (.int a :: st) v x := vE_s rfl rfl
theorem q164_77 : vE 164 77 [.ref p, l1, l2, l3] st v x ↔ vE 164 78 [.ref p, l1, l2, l3] (.ref p :: st) v x := vE_s rfl rfl
theorem q164_78 : vE 164 78 [l0, l1, l2, .int a] st v x ↔ vE 164 79 [l0, l1, l2, .int a] (.int a :: st) v x := vE_s rfl rfl
theorem q164_79 : vE 164 79 [l0, l1, l2, l3] (w1 :: w0 :: st) v x ↔ ∃ y : vm_Y, vE 174 0 [w0, w1, .retAddr 0, .retAddr 0, .retAddr 0, .retAddr 0, .retAddr 0, .retAddr 0, .retAddr 0] [] v y ∧ vB 164 79 [l0, l1, l2, l3] st y x := vE_cv rfl rfl rfl rfl
theorem q164_82 : vE 164 82 [l0, l1, l2, l3] (.int b :: .int a :: st) v x ↔ vE 164 83 [l0, l1, l2, l3] (.int (a + b) :: st) v x := vE_s rfl rfl
theorem q164_83 : vE 164 83 [l0, l1, l2, l3] (.int a :: st) v x ↔ vE 164 84 [l0, l1, .int a, l3] st v x := vE_s rfl rfl
theorem q164_84 : vE 164 84 [l0, l1, l2, .int a] st v x ↔ vE 164 87 [l0, l1, l2, .int (a + 1)] st v x := vE_s rfl rfl
theorem q164_87 : vE 164 87 [l0, l1, l2, l3] st v x ↔ vE 164 36 [l0, l1, l2, l3] st v x := vE_s rfl rfl
theorem q164_90 : vE 164 90 [.ref p, l1, l2, l3] st v x ↔ vE 164 91 [.ref p, l1, l2, l3] (.ref p :: st) v x := vE_s rfl rfl
theorem q164_91 : vE 164 91 [l0, l1, l2, l3] (w0 :: st) v x ↔ ∃ y : vm_Y, vE 150 0 [w0] [] v y ∧ vB 164 91 [l0, l1, l2, l3] st y x := vE_cv rfl rfl rfl rfl
theorem q164_94 : vE 164 94 [l0, l1, .int a, l3] st v x ↔ vE 164 95 [l0, l1, .int a, l3] (.int a :: st) v x := vE_s rfl rfl
theorem q164_95 : vE 164 95 [l0, l1, l2, l3] ([.int a]) v x ↔ x = vr a v := vE_ir rfl
theorem qt164 {X pc : Nat} {L r : List Value} : vB 164 pc L r (vt X v) x ↔ x = vt X v := vB_t rfl
end QE
