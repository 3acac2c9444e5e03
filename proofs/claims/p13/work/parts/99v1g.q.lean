section QG
variable {l0 l1 l2 l3 l4 l5 l6 l7 l8 l9 l10 w0 w1 w2 w3 w4 w5 w6 w7 : Value} {st : List Value} {v : vm_V} {x : vm_Y} {a b c : Int32} {p q : Nat} {u w : Int64}
/-! 196 PassCheckerModel.refused(I)I -/
theorem q196_0 : vE 196 0 [.ref p, l1] st v x ↔ vE 196 1 [.ref p, l1] (.ref p :: st) v x := vE_s rfl rfl
theorem q196_1 : vE 196 1 [l0, .int a] st v x ↔ vE 196 2 [l0, .int a] (.int a :: st) v x := vE_s rfl rfl
theorem q196_2 : vE 196 2 [l0, l1] st v x ↔ vE 196 3 [l0, l1] (.int 3 :: st) v x := vE_s rfl (by rfl)
theorem q196_3 : vE 196 3 [l0, l1] (w1 :: w0 :: st) v x ↔ ∃ y : vm_Y, vE 148 0 [w0, w1] [] v y ∧ vB 196 3 [l0, l1] st y x := vE_cs rfl rfl rfl rfl
theorem q196_6 : vE 196 6 [l0, l1] (.int a :: st) v x ↔ if a = 0 then vE 196 13 [l0, l1] st v x else vE 196 9 [l0, l1] st v x := vE_if rfl rfl
theorem q196_9 : vE 196 9 [l0, l1] st v x ↔ vE 196 10 [l0, l1] (.int 1 :: st) v x := vE_s rfl (by rfl)
theorem q196_10 : vE 196 10 [l0, l1] st v x ↔ vE 196 14 [l0, l1] st v x := vE_s rfl rfl
theorem q196_13 : vE 196 13 [l0, l1] st v x ↔ vE 196 14 [l0, l1] (.int 0 :: st) v x := vE_s rfl (by rfl)
theorem q196_14 : vE 196 14 [l0, l1] (.int a :: .ref p :: st) v x ↔ vE 196 17 [l0, l1] st (vm_si v p 0 a) x := vE_s rfl rfl
theorem q196_17 : vE 196 17 [.ref p, l1] st v x ↔ vE 196 18 [.ref p, l1] (.ref p :: st) v x := vE_s rfl rfl
theorem q196_18 : vE 196 18 [l0, l1] (.ref p :: st) v x ↔ vE 196 21 [l0, l1] (.int (v.1 p 0) :: st) v x := vE_s rfl rfl
theorem q196_21 : vE 196 21 [l0, l1] (.int a :: st) v x ↔ if a ≤ 0 then vE 196 26 [l0, l1] st v x else vE 196 24 [l0, l1] st v x := vE_if rfl rfl
theorem q196_24 : vE 196 24 [l0, l1] st v x ↔ vE 196 25 [l0, l1] (.int 0 :: st) v x := vE_s rfl (by rfl)
theorem q196_25 : vE 196 25 [l0, l1] ([.int a]) v x ↔ x = vr a v := vE_ir rfl
theorem q196_26 : vE 196 26 [l0, .int a] st v x ↔ vE 196 27 [l0, .int a] (.int a :: st) v x := vE_s rfl rfl
theorem q196_27 : vE 196 27 [l0, l1] (.int a :: st) v x ↔ if a = 0 then vE 196 30 [l0, l1] st v x else vE 196 37 [l0, l1] st v x := vE_if rfl rfl
theorem q196_30 : vE 196 30 [.ref p, l1] st v x ↔ vE 196 31 [.ref p, l1] (.ref p :: st) v x := vE_s rfl rfl
theorem q196_31 : vE 196 31 [l0, l1] (.ref p :: st) v x ↔ vE 196 34 [l0, l1] (.int (v.1 p 20) :: st) v x := vE_s rfl rfl
theorem q196_34 : vE 196 34 [l0, l1] st v x ↔ vE 196 53 [l0, l1] st v x := vE_s rfl rfl
theorem q196_37 : vE 196 37 [l0, .int a] st v x ↔ vE 196 38 [l0, .int a] (.int a :: st) v x := vE_s rfl rfl
theorem q196_38 : vE 196 38 [l0, l1] st v x ↔ vE 196 39 [l0, l1] (.int 1 :: st) v x := vE_s rfl (by rfl)
theorem q196_39 : vE 196 39 [l0, l1] (.int b :: .int a :: st) v x ↔ if a = b then vE 196 42 [l0, l1] st v x else vE 196 49 [l0, l1] st v x := vE_if rfl rfl
theorem q196_42 : vE 196 42 [.ref p, l1] st v x ↔ vE 196 43 [.ref p, l1] (.ref p :: st) v x := vE_s rfl rfl
theorem q196_43 : vE 196 43 [l0, l1] (.ref p :: st) v x ↔ vE 196 46 [l0, l1] (.int (v.1 p 21) :: st) v x := vE_s rfl rfl
theorem q196_46 : vE 196 46 [l0, l1] st v x ↔ vE 196 53 [l0, l1] st v x := vE_s rfl rfl
theorem q196_49 : vE 196 49 [.ref p, l1] st v x ↔ vE 196 50 [.ref p, l1] (.ref p :: st) v x := vE_s rfl rfl
theorem q196_50 : vE 196 50 [l0, l1] (.ref p :: st) v x ↔ vE 196 53 [l0, l1] (.int (v.1 p 22) :: st) v x := vE_s rfl rfl
theorem q196_53 : vE 196 53 [l0, l1] ([.int a]) v x ↔ x = vr a v := vE_ir rfl
theorem qt196 {X pc : Nat} {L r : List Value} : vB 196 pc L r (vt X v) x ↔ x = vt X v := vB_t rfl
/-! 199 PassCheckerModel.run(IIII)I -/
theorem q199_0 : vE 199 0 [.ref p, l1, l2, l3, l4, l5, l6, l7, l8, l9, l10] st v x ↔ vE 199 1 [.ref p, l1, l2, l3, l4, l5, l6, l7, l8, l9, l10] (.ref p :: st) v x := vE_s rfl rfl
theorem q199_1 : vE 199 1 [l0, .int a, l2, l3, l4, l5, l6, l7, l8, l9, l10] st v x ↔ vE 199 2 [l0, .int a, l2, l3, l4, l5, l6, l7, l8, l9, l10] (.int a :: st) v x := vE_s rfl rfl
theorem q199_2 : vE 199 2 [l0, l1, l2, l3, l4, l5, l6, l7, l8, l9, l10] st v x ↔ vE 199 3 [l0, l1, l2, l3, l4, l5, l6, l7, l8, l9, l10] (.int 2 :: st) v x := vE_s rfl (by rfl)
theorem q199_3 : vE 199 3 [l0, l1, l2, l3, l4, l5, l6, l7, l8, l9, l10] (w1 :: w0 :: st) v x ↔ ∃ y : vm_Y, vE 148 0 [w0, w1] [] v y ∧ vB 199 3 [l0, l1, l2, l3, l4, l5, l6, l7, l8, l9, l10] st y x := vE_cs rfl rfl rfl rfl
theorem q199_6 : vE 199 6 [l0, l1, l2, l3, l4, l5, l6, l7, l8, l9, l10] (.int a :: st) v x ↔ if a = 0 then vE 199 13 [l0, l1, l2, l3, l4, l5, l6, l7, l8, l9, l10] st v x else vE 199 9 [l0, l1, l2, l3, l4, l5, l6, l7, l8, l9, l10] st v x := vE_if rfl rfl
theorem q199_9 : vE 199 9 [l0, l1, l2, l3, l4, l5, l6, l7, l8, l9, l10] st v x ↔ vE 199 10 [l0, l1, l2, l3, l4, l5, l6, l7, l8, l9, l10] (.int 1 :: st) v x := vE_s rfl (by rfl)
theorem q199_10 : vE 199 10 [l0, l1, l2, l3, l4, l5, l6, l7, l8, l9, l10] st v x ↔ vE 199 31 [l0, l1, l2, l3, l4, l5, l6, l7, l8, l9, l10] st v x := vE_s rfl rfl
theorem q199_13 : vE 199 13 [l0, l1, l2, l3, .int a, l5, l6, l7, l8, l9, l10] st v x ↔ vE 199 15 [l0, l1, l2, l3, .int a, l5, l6, l7, l8, l9, l10] (.int a :: st) v x := vE_s rfl rfl
theorem q199_15 : vE 199 15 [l0, l1, l2, l3, l4, l5, l6, l7, l8, l9, l10] (.int a :: st) v x ↔ if a < 0 then vE 199 26 [l0, l1, l2, l3, l4, l5, l6, l7, l8, l9, l10] st v x else vE 199 18 [l0, l1, l2, l3, l4, l5, l6, l7, l8, l9, l10] st v x := vE_if rfl rfl
theorem q199_18 : vE 199 18 [l0, l1, l2, l3, .int a, l5, l6, l7, l8, l9, l10] st v x ↔ vE 199 20 [l0, l1, l2, l3, .int a, l5, l6, l7, l8, l9, l10] (.int a :: st) v x := vE_s rfl rfl
theorem q199_20 : vE 199 20 [l0, l1, l2, l3, l4, l5, l6, l7, l8, l9, l10] st v x ↔ vE 199 23 [l0, l1, l2, l3, l4, l5, l6, l7, l8, l9, l10] (.int 500 :: st) v x := vE_s rfl (by rfl)
theorem q199_23 : vE 199 23 [l0, l1, l2, l3, l4, l5, l6, l7, l8, l9, l10] (.int b :: .int a :: st) v x ↔ if a ≤ b then vE 199 30 [l0, l1, l2, l3, l4, l5, l6, l7, l8, l9, l10] st v x else vE 199 26 [l0, l1, l2, l3, l4, l5, l6, l7, l8, l9, l10] st v x := vE_if rfl rfl
theorem q199_26 : vE 199 26 [l0, l1, l2, l3, l4, l5, l6, l7, l8, l9, l10] st v x ↔ vE 199 27 [l0, l1, l2, l3, l4, l5, l6, l7, l8, l9, l10] (.int 2 :: st) v x := vE_s rfl (by rfl)
theorem q199_27 : vE 199 27 [l0, l1, l2, l3, l4, l5, l6, l7, l8, l9, l10] st v x ↔ vE 199 31 [l0, l1, l2, l3, l4, l5, l6, l7, l8, l9, l10] st v x := vE_s rfl rfl
theorem q199_30 : vE 199 30 [l0, l1, l2, l3, l4, l5, l6, l7, l8, l9, l10] st v x ↔ vE 199 31 [l0, l1, l2, l3, l4, l5, l6, l7, l8, l9, l10] (.int 0 :: st) v x := vE_s rfl (by rfl)
theorem q199_31 : vE 199 31 [l0, l1, l2, l3, l4, l5, l6, l7, l8, l9, l10] (.int a :: .ref p :: st) v x ↔ vE 199 34 [l0, l1, l2, l3, l4, l5, l6, l7, l8, l9, l10] st (vm_si v p 0 a) x := vE_s rfl rfl
theorem q199_34 : vE 199 34 [.ref p, l1, l2, l3, l4, l5, l6, l7, l8, l9, l10] st v x ↔ vE 199 35 [.ref p, l1, l2, l3, l4, l5, l6, l7, l8, l9, l10] (.ref p :: st) v x := vE_s rfl rfl
theorem q199_35 : vE 199 35 [l0, l1, l2, l3, l4, l5, l6, l7, l8, l9, l10] (.ref p :: st) v x ↔ vE 199 38 [l0, l1, l2, l3, l4, l5, l6, l7, l8, l9, l10] (.int (v.1 p 0) :: st) v x := vE_s rfl rfl
theorem q199_38 : vE 199 38 [l0, l1, l2, l3, l4, l5, l6, l7, l8, l9, l10] (.int a :: st) v x ↔ if a ≤ 0 then vE 199 43 [l0, l1, l2, l3, l4, l5, l6, l7, l8, l9, l10] st v x else vE 199 41 [l0, l1, l2, l3, l4, l5, l6, l7, l8, l9, l10] st v x := vE_if rfl rfl
theorem q199_41 : vE 199 41 [l0, l1, l2, l3, l4, l5, l6, l7, l8, l9, l10] st v x ↔ vE 199 42 [l0, l1, l2, l3, l4, l5, l6, l7, l8, l9, l10] (.int 0 :: st) v x := vE_s rfl (by rfl)
theorem q199_42 : vE 199 42 [l0, l1, l2, l3, l4, l5, l6, l7, l8, l9, l10] ([.int a]) v x ↔ x = vr a v := vE_ir rfl
theorem q199_43 : vE 199 43 [l0, l1, l2, l3, l4, l5, l6, l7, l8, l9, l10] st v x ↔ vE 199 44 [l0, l1, l2, l3, l4, l5, l6, l7, l8, l9, l10] (.int 0 :: st) v x := vE_s rfl (by rfl)
theorem q199_44 : vE 199 44 [l0, l1, l2, l3, l4, l5, l6, l7, l8, l9, l10] (.int a :: st) v x ↔ vE 199 46 [l0, l1, l2, l3, l4, .int a, l6, l7, l8, l9, l10] st v x := vE_s rfl rfl
theorem q199_46 : vE 199 46 [l0, l1, l2, l3, l4, .int a, l6, l7, l8, l9, l10] st v x ↔ vE 199 48 [l0, l1, l2, l3, l4, .int a, l6, l7, l8, l9, l10] (.int a :: st) v x := vE_s rfl rfl
theorem q199_48 : vE 199 48 [l0, l1, l2, l3, l4, l5, l6, l7, l8, l9, l10] st v x ↔ vE 199 50 [l0, l1, l2, l3, l4, l5, l6, l7, l8, l9, l10] (.int 8 :: st) v x := vE_s rfl (by rfl)
theorem q199_50 : vE 199 50 [l0, l1, l2, l3, l4, l5, l6, l7, l8, l9, l10] (.int b :: .int a :: st) v x ↔ if b ≤ a then vE 199 67 [l0, l1, l2, l3, l4, l5, l6, l7, l8, l9, l10] st v x else vE 199 53 [l0, l1, l2, l3, l4, l5, l6, l7, l8, l9, l10] st v x := vE_if rfl rfl
theorem q199_53 : vE 199 53 [.ref p, l1, l2, l3, l4, l5, l6, l7, l8, l9, l10] st v x ↔ vE 199 54 [.ref p, l1, l2, l3, l4, l5, l6, l7, l8, l9, l10] (.ref p :: st) v x := vE_s rfl rfl
theorem q199_54 : vE 199 54 [l0, l1, l2, l3, l4, l5, l6, l7, l8, l9, l10] (.ref p :: st) v x ↔ vE 199 57 [l0, l1, l2, l3, l4, l5, l6, l7, l8, l9, l10] (.ref (p + 27) :: st) v x := vE_s rfl rfl
theorem q199_57 : vE 199 57 [l0, l1, l2, l3, l4, .int a, l6, l7, l8, l9, l10] st v x ↔ vE 199 59 [l0, l1, l2, l3, l4, .int a, l6, l7, l8, l9, l10] (.int a :: st) v x := vE_s rfl rfl
theorem q199_59 : vE 199 59 [l0, l1, l2, l3, l4, l5, l6, l7, l8, l9, l10] st v x ↔ vE 199 60 [l0, l1, l2, l3, l4, l5, l6, l7, l8, l9, l10] (.int 0 :: st) v x := vE_s rfl (by rfl)
theorem q199_60 : vE 199 60 [l0, l1, l2, l3, l4, l5, l6, l7, l8, l9, l10] (.int b :: .int a :: .ref p :: st) v x ↔ vE 199 61 [l0, l1, l2, l3, l4, l5, l6, l7, l8, l9, l10] st (vm_si v p a.toNatClampNeg b) x := vE_s rfl rfl
theorem q199_61 : vE 199 61 [l0, l1, l2, l3, l4, .int a, l6, l7, l8, l9, l10] st v x ↔ vE 199 64 [l0, l1, l2, l3, l4, .int (a + 1), l6, l7, l8, l9, l10] st v x := vE_s rfl rfl
theorem q199_64 : vE 199 64 [l0, l1, l2, l3, l4, l5, l6, l7, l8, l9, l10] st v x ↔ vE 199 46 [l0, l1, l2, l3, l4, l5, l6, l7, l8, l9, l10] st v x := vE_s rfl rfl
theorem q199_67 : vE 199 67 [l0, l1, l2, l3, l4, l5, l6, l7, l8, l9, l10] st v x ↔ vE 199 68 [l0, l1, l2, l3, l4, l5, l6, l7, l8, l9, l10] (.int 0 :: st) v x := vE_s rfl (by rfl)
theorem q199_68 : vE 199 68 [l0, l1, l2, l3, l4, l5, l6, l7, l8, l9, l10] (.int a :: st) v x ↔ vE 199 70 [l0, l1, l2, l3, l4, .int a, l6, l7, l8, l9, l10] st v x := vE_s rfl rfl
theorem q199_70 : vE 199 70 [l0, l1, l2, l3, l4, .int a, l6, l7, l8, l9, l10] st v x ↔ vE 199 72 [l0, l1, l2, l3, l4, .int a, l6, l7, l8, l9, l10] (.int a :: st) v x := vE_s rfl rfl
theorem q199_72 : vE 199 72 [l0, l1, l2, l3, l4, l5, l6, l7, l8, l9, l10] st v x ↔ vE 199 74 [l0, l1, l2, l3, l4, l5, l6, l7, l8, l9, l10] (.int 6 :: st) v x := vE_s rfl (by rfl)
theorem q199_74 : vE 199 74 [l0, l1, l2, l3, l4, l5, l6, l7, l8, l9, l10] (.int b :: .int a :: st) v x ↔ if b ≤ a then vE 199 110 [l0, l1, l2, l3, l4, l5, l6, l7, l8, l9, l10] st v x else vE 199 77 [l0, l1, l2, l3, l4, l5, l6, l7, l8, l9, l10] st v x := vE_if rfl rfl
theorem q199_77 : vE 199 77 [.ref p, l1, l2, l3, l4, l5, l6, l7, l8, l9, l10] st v x ↔ vE 199 78 [.ref p, l1, l2, l3, l4, l5, l6, l7, l8, l9, l10] (.ref p :: st) v x := vE_s rfl rfl
theorem q199_78 : vE 199 78 [l0, l1, l2, l3, l4, l5, l6, l7, l8, l9, l10] (.ref p :: st) v x ↔ vE 199 81 [l0, l1, l2, l3, l4, l5, l6, l7, l8, l9, l10] (.ref (p + 26) :: st) v x := vE_s rfl rfl
theorem q199_81 : vE 199 81 [l0, l1, l2, l3, l4, .int a, l6, l7, l8, l9, l10] st v x ↔ vE 199 83 [l0, l1, l2, l3, l4, .int a, l6, l7, l8, l9, l10] (.int a :: st) v x := vE_s rfl rfl
theorem q199_83 : vE 199 83 [l0, l1, l2, l3, l4, .int a, l6, l7, l8, l9, l10] st v x ↔ vE 199 85 [l0, l1, l2, l3, l4, .int a, l6, l7, l8, l9, l10] (.int a :: st) v x := vE_s rfl rfl
theorem q199_85 : vE 199 85 [l0, l1, l2, l3, l4, l5, l6, l7, l8, l9, l10] (.int a :: st) v x ↔ if a = 0 then vE 199 88 [l0, l1, l2, l3, l4, l5, l6, l7, l8, l9, l10] st v x else vE 199 92 [l0, l1, l2, l3, l4, l5, l6, l7, l8, l9, l10] st v x := vE_if rfl rfl
theorem q199_88 : vE 199 88 [l0, l1, .int a, l3, l4, l5, l6, l7, l8, l9, l10] st v x ↔ vE 199 89 [l0, l1, .int a, l3, l4, l5, l6, l7, l8, l9, l10] (.int a :: st) v x := vE_s rfl rfl
theorem q199_89 : vE 199 89 [l0, l1, l2, l3, l4, l5, l6, l7, l8, l9, l10] st v x ↔ vE 199 103 [l0, l1, l2, l3, l4, l5, l6, l7, l8, l9, l10] st v x := vE_s rfl rfl
theorem q199_92 : vE 199 92 [l0, l1, l2, l3, l4, .int a, l6, l7, l8, l9, l10] st v x ↔ vE 199 94 [l0, l1, l2, l3, l4, .int a, l6, l7, l8, l9, l10] (.int a :: st) v x := vE_s rfl rfl
theorem q199_94 : vE 199 94 [l0, l1, l2, l3, l4, l5, l6, l7, l8, l9, l10] st v x ↔ vE 199 95 [l0, l1, l2, l3, l4, l5, l6, l7, l8, l9, l10] (.int 1 :: st) v x := vE_s rfl (by rfl)
theorem q199_95 : vE 199 95 [l0, l1, l2, l3, l4, l5, l6, l7, l8, l9, l10] (.int b :: .int a :: st) v x ↔ if a = b then vE 199 98 [l0, l1, l2, l3, l4, l5, l6, l7, l8, l9, l10] st v x else vE 199 102 [l0, l1, l2, l3, l4, l5, l6, l7, l8, l9, l10] st v x := vE_if rfl rfl
theorem q199_98 : vE 199 98 [l0, l1, l2, .int a, l4, l5, l6, l7, l8, l9, l10] st v x ↔ vE 199 99 [l0, l1, l2, .int a, l4, l5, l6, l7, l8, l9, l10] (.int a :: st) v x := vE_s rfl rfl
theorem q199_99 : vE 199 99 [l0, l1, l2, l3, l4, l5, l6, l7, l8, l9, l10] st v x ↔ vE 199 103 [l0, l1, l2, l3, l4, l5, l6, l7, l8, l9, l10] st v x := vE_s rfl rfl
theorem q199_102 : vE 199 102 [l0, l1, l2, l3, l4, l5, l6, l7, l8, l9, l10] st v x ↔ vE 199 103 [l0, l1, l2, l3, l4, l5, l6, l7, l8, l9, l10] (.int 0 :: st) v x := vE_s rfl (by rfl)
theorem q199_103 : vE 199 103 [l0, l1, l2, l3, l4, l5, l6, l7, l8, l9, l10] (.int b :: .int a :: .ref p :: st) v x ↔ vE 199 104 [l0, l1, l2, l3, l4, l5, l6, l7, l8, l9, l10] st (vm_si v p a.toNatClampNeg b) x := vE_s rfl rfl
theorem q199_104 : vE 199 104 [l0, l1, l2, l3, l4, .int a, l6, l7, l8, l9, l10] st v x ↔ vE 199 107 [l0, l1, l2, l3, l4, .int (a + 1), l6, l7, l8, l9, l10] st v x := vE_s rfl rfl
theorem q199_107 : vE 199 107 [l0, l1, l2, l3, l4, l5, l6, l7, l8, l9, l10] st v x ↔ vE 199 70 [l0, l1, l2, l3, l4, l5, l6, l7, l8, l9, l10] st v x := vE_s rfl rfl
theorem q199_110 : vE 199 110 [.ref p, l1, l2, l3, l4, l5, l6, l7, l8, l9, l10] st v x ↔ vE 199 111 [.ref p, l1, l2, l3, l4, l5, l6, l7, l8, l9, l10] (.ref p :: st) v x := vE_s rfl rfl
theorem q199_111 : vE 199 111 [l0, l1, l2, l3, l4, l5, l6, l7, l8, l9, l10] st v x ↔ vE 199 112 [l0, l1, l2, l3, l4, l5, l6, l7, l8, l9, l10] (.int 0 :: st) v x := vE_s rfl (by rfl)
theorem q199_112 : vE 199 112 [l0, l1, l2, l3, l4, l5, l6, l7, l8, l9, l10] (.int a :: .ref p :: st) v x ↔ vE 199 115 [l0, l1, l2, l3, l4, l5, l6, l7, l8, l9, l10] st (vm_si v p 33 a) x := vE_s rfl rfl
theorem q199_115 : vE 199 115 [.ref p, l1, l2, l3, l4, l5, l6, l7, l8, l9, l10] st v x ↔ vE 199 116 [.ref p, l1, l2, l3, l4, l5, l6, l7, l8, l9, l10] (.ref p :: st) v x := vE_s rfl rfl
theorem q199_116 : vE 199 116 [l0, l1, l2, l3, l4, l5, l6, l7, l8, l9, l10] st v x ↔ vE 199 117 [l0, l1, l2, l3, l4, l5, l6, l7, l8, l9, l10] (.int 0 :: st) v x := vE_s rfl (by rfl)
theorem q199_117 : vE 199 117 [l0, l1, l2, l3, l4, l5, l6, l7, l8, l9, l10] (.int a :: .ref p :: st) v x ↔ vE 199 120 [l0, l1, l2, l3, l4, l5, l6, l7, l8, l9, l10] st (vm_si v p 34 a) x := vE_s rfl rfl
theorem q199_120 : vE 199 120 [l0, l1, l2, l3, l4, l5, l6, l7, l8, l9, l10] st v x ↔ vE 199 121 [l0, l1, l2, l3, l4, l5, l6, l7, l8, l9, l10] (.int 0 :: st) v x := vE_s rfl (by rfl)
theorem q199_121 : vE 199 121 [l0, l1, l2, l3, l4, l5, l6, l7, l8, l9, l10] (.int a :: st) v x ↔ vE 199 123 [l0, l1, l2, l3, l4, .int a, l6, l7, l8, l9, l10] st v x := vE_s rfl rfl
theorem q199_123 : vE 199 123 [l0, l1, l2, l3, l4, l5, l6, l7, l8, l9, l10] st v x ↔ vE 199 124 [l0, l1, l2, l3, l4, l5, l6, l7, l8, l9, l10] (.int 0 :: st) v x := vE_s rfl (by rfl)
theorem q199_124 : vE 199 124 [l0, l1, l2, l3, l4, l5, l6, l7, l8, l9, l10] (.int a :: st) v x ↔ vE 199 126 [l0, l1, l2, l3, l4, l5, .int a, l7, l8, l9, l10] st v x := vE_s rfl rfl
theorem q199_126 : vE 199 126 [.ref p, l1, l2, l3, l4, l5, l6, l7, l8, l9, l10] st v x ↔ vE 199 127 [.ref p, l1, l2, l3, l4, l5, l6, l7, l8, l9, l10] (.ref p :: st) v x := vE_s rfl rfl
theorem q199_127 : vE 199 127 [l0, l1, l2, l3, l4, l5, l6, l7, l8, l9, l10] (.ref p :: st) v x ↔ vE 199 130 [l0, l1, l2, l3, l4, l5, l6, l7, l8, l9, l10] (.int (v.1 p 33) :: st) v x := vE_s rfl rfl
theorem q199_130 : vE 199 130 [l0, l1, l2, l3, .int a, l5, l6, l7, l8, l9, l10] st v x ↔ vE 199 132 [l0, l1, l2, l3, .int a, l5, l6, l7, l8, l9, l10] (.int a :: st) v x := vE_s rfl rfl
theorem q199_132 : vE 199 132 [l0, l1, l2, l3, l4, l5, l6, l7, l8, l9, l10] (.int b :: .int a :: st) v x ↔ if b ≤ a then vE 199 333 [l0, l1, l2, l3, l4, l5, l6, l7, l8, l9, l10] st v x else vE 199 135 [l0, l1, l2, l3, l4, l5, l6, l7, l8, l9, l10] st v x := vE_if rfl rfl
theorem q199_135 : vE 199 135 [l0, l1, l2, l3, l4, .int a, l6, l7, l8, l9, l10] st v x ↔ vE 199 137 [l0, l1, l2, l3, l4, .int a, l6, l7, l8, l9, l10] (.int a :: st) v x := vE_s rfl rfl
theorem q199_137 : vE 199 137 [.ref p, l1, l2, l3, l4, l5, l6, l7, l8, l9, l10] st v x ↔ vE 199 138 [.ref p, l1, l2, l3, l4, l5, l6, l7, l8, l9, l10] (.ref p :: st) v x := vE_s rfl rfl
theorem q199_138 : vE 199 138 [l0, l1, l2, l3, l4, l5, l6, l7, l8, l9, l10] (.ref p :: st) v x ↔ vE 199 141 [l0, l1, l2, l3, l4, l5, l6, l7, l8, l9, l10] (.ref (p + 1) :: st) v x := vE_s rfl rfl
theorem q199_141 : vE 199 141 [l0, .int a, l2, l3, l4, l5, l6, l7, l8, l9, l10] st v x ↔ vE 199 142 [l0, .int a, l2, l3, l4, l5, l6, l7, l8, l9, l10] (.int a :: st) v x := vE_s rfl rfl
theorem q199_142 : vE 199 142 [l0, l1, l2, l3, l4, l5, l6, l7, l8, l9, l10] (.int a :: .ref p :: st) v x ↔ vE 199 143 [l0, l1, l2, l3, l4, l5, l6, l7, l8, l9, l10] (.int (v.1 p a.toNatClampNeg) :: st) v x := vE_s rfl rfl
theorem q199_143 : vE 199 143 [l0, l1, l2, l3, l4, l5, l6, l7, l8, l9, l10] (.int b :: .int a :: st) v x ↔ if b ≤ a then vE 199 150 [l0, l1, l2, l3, l4, l5, l6, l7, l8, l9, l10] st v x else vE 199 146 [l0, l1, l2, l3, l4, l5, l6, l7, l8, l9, l10] st v x := vE_if rfl rfl
theorem q199_146 : vE 199 146 [l0, l1, l2, l3, l4, l5, l6, l7, l8, l9, l10] st v x ↔ vE 199 147 [l0, l1, l2, l3, l4, l5, l6, l7, l8, l9, l10] (.int 1 :: st) v x := vE_s rfl (by rfl)
theorem q199_147 : vE 199 147 [l0, l1, l2, l3, l4, l5, l6, l7, l8, l9, l10] st v x ↔ vE 199 151 [l0, l1, l2, l3, l4, l5, l6, l7, l8, l9, l10] st v x := vE_s rfl rfl
theorem q199_150 : vE 199 150 [l0, l1, l2, l3, l4, l5, l6, l7, l8, l9, l10] st v x ↔ vE 199 151 [l0, l1, l2, l3, l4, l5, l6, l7, l8, l9, l10] (.int 0 :: st) v x := vE_s rfl (by rfl)
theorem q199_151 : vE 199 151 [l0, l1, l2, l3, l4, l5, l6, l7, l8, l9, l10] (.int a :: st) v x ↔ vE 199 153 [l0, l1, l2, l3, l4, l5, l6, .int a, l8, l9, l10] st v x := vE_s rfl rfl
theorem q199_153 : vE 199 153 [l0, l1, l2, l3, l4, l5, l6, l7, l8, l9, l10] st v x ↔ vE 199 155 [l0, l1, l2, l3, l4, l5, l6, l7, l8, l9, l10] (.int 6 :: st) v x := vE_s rfl (by rfl)
theorem q199_155 : vE 199 155 [l0, .int a, l2, l3, l4, l5, l6, l7, l8, l9, l10] st v x ↔ vE 199 156 [l0, .int a, l2, l3, l4, l5, l6, l7, l8, l9, l10] (.int a :: st) v x := vE_s rfl rfl
theorem q199_156 : vE 199 156 [l0, l1, l2, l3, l4, l5, l6, l7, l8, l9, l10] (.int b :: .int a :: st) v x ↔ vE 199 157 [l0, l1, l2, l3, l4, l5, l6, l7, l8, l9, l10] (.int (a * b) :: st) v x := vE_s rfl rfl
theorem q199_157 : vE 199 157 [l0, l1, l2, l3, l4, .int a, l6, l7, l8, l9, l10] st v x ↔ vE 199 159 [l0, l1, l2, l3, l4, .int a, l6, l7, l8, l9, l10] (.int a :: st) v x := vE_s rfl rfl
theorem q199_159 : vE 199 159 [l0, l1, l2, l3, l4, l5, l6, l7, l8, l9, l10] (.int b :: .int a :: st) v x ↔ vE 199 160 [l0, l1, l2, l3, l4, l5, l6, l7, l8, l9, l10] (.int (a + b) :: st) v x := vE_s rfl rfl
theorem q199_160 : vE 199 160 [l0, l1, l2, l3, l4, l5, l6, l7, l8, l9, l10] (.int a :: st) v x ↔ vE 199 162 [l0, l1, l2, l3, l4, l5, l6, l7, .int a, l9, l10] st v x := vE_s rfl rfl
theorem q199_162 : vE 199 162 [l0, l1, l2, l3, l4, l5, l6, .int a, l8, l9, l10] st v x ↔ vE 199 164 [l0, l1, l2, l3, l4, l5, l6, .int a, l8, l9, l10] (.int a :: st) v x := vE_s rfl rfl
theorem q199_164 : vE 199 164 [l0, l1, l2, l3, l4, l5, l6, l7, l8, l9, l10] (.int a :: st) v x ↔ if a = 0 then vE 199 209 [l0, l1, l2, l3, l4, l5, l6, l7, l8, l9, l10] st v x else vE 199 167 [l0, l1, l2, l3, l4, l5, l6, l7, l8, l9, l10] st v x := vE_if rfl rfl
theorem q199_167 : vE 199 167 [l0, l1, l2, l3, l4, l5, .int a, l7, l8, l9, l10] st v x ↔ vE 199 169 [l0, l1, l2, l3, l4, l5, .int a, l7, l8, l9, l10] (.int a :: st) v x := vE_s rfl rfl
theorem q199_169 : vE 199 169 [.ref p, l1, l2, l3, l4, l5, l6, l7, l8, l9, l10] st v x ↔ vE 199 170 [.ref p, l1, l2, l3, l4, l5, l6, l7, l8, l9, l10] (.ref p :: st) v x := vE_s rfl rfl
theorem q199_170 : vE 199 170 [l0, l1, l2, l3, l4, l5, l6, l7, l8, l9, l10] (.ref p :: st) v x ↔ vE 199 173 [l0, l1, l2, l3, l4, l5, l6, l7, l8, l9, l10] (.ref (p + 2) :: st) v x := vE_s rfl rfl
theorem q199_173 : vE 199 173 [l0, l1, l2, l3, l4, l5, l6, l7, .int a, l9, l10] st v x ↔ vE 199 175 [l0, l1, l2, l3, l4, l5, l6, l7, .int a, l9, l10] (.int a :: st) v x := vE_s rfl rfl
theorem q199_175 : vE 199 175 [l0, l1, l2, l3, l4, l5, l6, l7, l8, l9, l10] (.int a :: .ref p :: st) v x ↔ vE 199 176 [l0, l1, l2, l3, l4, l5, l6, l7, l8, l9, l10] (.int (v.1 p a.toNatClampNeg) :: st) v x := vE_s rfl rfl
theorem q199_176 : vE 199 176 [l0, l1, l2, l3, l4, l5, l6, l7, l8, l9, l10] (.int b :: .int a :: st) v x ↔ if b ≤ a then vE 199 209 [l0, l1, l2, l3, l4, l5, l6, l7, l8, l9, l10] st v x else vE 199 179 [l0, l1, l2, l3, l4, l5, l6, l7, l8, l9, l10] st v x := vE_if rfl rfl
theorem q199_179 : vE 199 179 [.ref p, l1, l2, l3, l4, l5, l6, l7, l8, l9, l10] st v x ↔ vE 199 180 [.ref p, l1, l2, l3, l4, l5, l6, l7, l8, l9, l10] (.ref p :: st) v x := vE_s rfl rfl
theorem q199_180 : vE 199 180 [l0, l1, l2, l3, l4, l5, l6, l7, l8, l9, l10] st v x ↔ vE 199 182 [l0, l1, l2, l3, l4, l5, l6, l7, l8, l9, l10] (.int 32 :: st) v x := vE_s rfl (by rfl)
theorem q199_182 : vE 199 182 [l0, l1, l2, l3, l4, l5, l6, l7, .int a, l9, l10] st v x ↔ vE 199 184 [l0, l1, l2, l3, l4, l5, l6, l7, .int a, l9, l10] (.int a :: st) v x := vE_s rfl rfl
theorem q199_184 : vE 199 184 [l0, l1, l2, l3, l4, l5, l6, l7, l8, l9, l10] (.int b :: .int a :: st) v x ↔ vE 199 185 [l0, l1, l2, l3, l4, l5, l6, l7, l8, l9, l10] (.int (a * b) :: st) v x := vE_s rfl rfl
theorem q199_185 : vE 199 185 [l0, l1, l2, l3, l4, l5, l6, l7, l8, l9, l10] st v x ↔ vE 199 186 [l0, l1, l2, l3, l4, l5, l6, l7, l8, l9, l10] (.int 4 :: st) v x := vE_s rfl (by rfl)
theorem q199_186 : vE 199 186 [l0, l1, l2, l3, l4, l5, .int a, l7, l8, l9, l10] st v x ↔ vE 199 188 [l0, l1, l2, l3, l4, l5, .int a, l7, l8, l9, l10] (.int a :: st) v x := vE_s rfl rfl
theorem q199_188 : vE 199 188 [l0, l1, l2, l3, l4, l5, l6, l7, l8, l9, l10] (.int b :: .int a :: st) v x ↔ vE 199 189 [l0, l1, l2, l3, l4, l5, l6, l7, l8, l9, l10] (.int (a * b) :: st) v x := vE_s rfl rfl
theorem q199_189 : vE 199 189 [l0, l1, l2, l3, l4, l5, l6, l7, l8, l9, l10] (.int b :: .int a :: st) v x ↔ vE 199 190 [l0, l1, l2, l3, l4, l5, l6, l7, l8, l9, l10] (.int (a + b) :: st) v x := vE_s rfl rfl
theorem q199_190 : vE 199 190 [l0, l1, l2, l3, l4, l5, l6, l7, l8, l9, l10] (w1 :: w0 :: st) v x ↔ ∃ y : vm_Y, vE 200 0 [w0, w1, .retAddr 0, .retAddr 0, .retAddr 0, .retAddr 0] [] v y ∧ vB 199 190 [l0, l1, l2, l3, l4, l5, l6, l7, l8, l9, l10] st y x := vE_cv rfl rfl rfl rfl
theorem q199_193 : vE 199 193 [l0, l1, l2, l3, l4, l5, l6, l7, l8, l9, l10] (.int a :: st) v x ↔ vE 199 195 [l0, l1, l2, l3, l4, l5, l6, l7, l8, .int a, l10] st v x := vE_s rfl rfl
theorem q199_195 : vE 199 195 [l0, l1, l2, l3, l4, l5, l6, l7, l8, .int a, l10] st v x ↔ vE 199 197 [l0, l1, l2, l3, l4, l5, l6, l7, l8, .int a, l10] (.int a :: st) v x := vE_s rfl rfl
theorem q199_197 : vE 199 197 [l0, l1, l2, l3, l4, l5, l6, l7, l8, l9, l10] (.int a :: st) v x ↔ if a ≤ 0 then vE 199 203 [l0, l1, l2, l3, l4, l5, l6, l7, l8, l9, l10] st v x else vE 199 200 [l0, l1, l2, l3, l4, l5, l6, l7, l8, l9, l10] st v x := vE_if rfl rfl
theorem q199_200 : vE 199 200 [l0, l1, l2, l3, l4, l5, l6, l7, l8, .int a, l10] st v x ↔ vE 199 202 [l0, l1, l2, l3, l4, l5, l6, l7, l8, .int a, l10] (.int a :: st) v x := vE_s rfl rfl
theorem q199_202 : vE 199 202 [l0, l1, l2, l3, l4, l5, l6, l7, l8, l9, l10] ([.int a]) v x ↔ x = vr a v := vE_ir rfl
theorem q199_203 : vE 199 203 [l0, l1, l2, l3, l4, l5, .int a, l7, l8, l9, l10] st v x ↔ vE 199 206 [l0, l1, l2, l3, l4, l5, .int (a + 1), l7, l8, l9, l10] st v x := vE_s rfl rfl
theorem q199_206 : vE 199 206 [l0, l1, l2, l3, l4, l5, l6, l7, l8, l9, l10] st v x ↔ vE 199 320 [l0, l1, l2, l3, l4, l5, l6, l7, l8, l9, l10] st v x := vE_s rfl rfl
theorem q199_209 : vE 199 209 [l0, l1, l2, l3, l4, l5, l6, .int a, l8, l9, l10] st v x ↔ vE 199 211 [l0, l1, l2, l3, l4, l5, l6, .int a, l8, l9, l10] (.int a :: st) v x := vE_s rfl rfl
theorem q199_211 : vE 199 211 [l0, l1, l2, l3, l4, l5, l6, l7, l8, l9, l10] (.int a :: st) v x ↔ if a = 0 then vE 199 226 [l0, l1, l2, l3, l4, l5, l6, l7, l8, l9, l10] st v x else vE 199 214 [l0, l1, l2, l3, l4, l5, l6, l7, l8, l9, l10] st v x := vE_if rfl rfl
theorem q199_214 : vE 199 214 [.ref p, l1, l2, l3, l4, l5, l6, l7, l8, l9, l10] st v x ↔ vE 199 215 [.ref p, l1, l2, l3, l4, l5, l6, l7, l8, l9, l10] (.ref p :: st) v x := vE_s rfl rfl
theorem q199_215 : vE 199 215 [l0, l1, l2, l3, l4, l5, l6, l7, l8, l9, l10] (.ref p :: st) v x ↔ vE 199 218 [l0, l1, l2, l3, l4, l5, l6, l7, l8, l9, l10] (.ref (p + 4) :: st) v x := vE_s rfl rfl
theorem q199_218 : vE 199 218 [l0, l1, l2, l3, l4, l5, l6, l7, l8, l9, l10] st v x ↔ vE 199 219 [l0, l1, l2, l3, l4, l5, l6, l7, l8, l9, l10] (.int 4 :: st) v x := vE_s rfl (by rfl)
theorem q199_219 : vE 199 219 [l0, l1, l2, l3, l4, l5, l6, l7, .int a, l9, l10] st v x ↔ vE 199 221 [l0, l1, l2, l3, l4, l5, l6, l7, .int a, l9, l10] (.int a :: st) v x := vE_s rfl rfl
theorem q199_221 : vE 199 221 [l0, l1, l2, l3, l4, l5, l6, l7, l8, l9, l10] (.int b :: .int a :: st) v x ↔ vE 199 222 [l0, l1, l2, l3, l4, l5, l6, l7, l8, l9, l10] (.int (a * b) :: st) v x := vE_s rfl rfl
theorem q199_222 : vE 199 222 [l0, l1, l2, l3, l4, l5, l6, l7, l8, l9, l10] (.int a :: .ref p :: st) v x ↔ vE 199 223 [l0, l1, l2, l3, l4, l5, l6, l7, l8, l9, l10] (.int (v.1 p a.toNatClampNeg) :: st) v x := vE_s rfl rfl
theorem q199_223 : vE 199 223 [l0, l1, l2, l3, l4, l5, l6, l7, l8, l9, l10] st v x ↔ vE 199 227 [l0, l1, l2, l3, l4, l5, l6, l7, l8, l9, l10] st v x := vE_s rfl rfl
theorem q199_226 : vE 199 226 [l0, l1, l2, l3, l4, l5, l6, l7, l8, l9, l10] st v x ↔ vE 199 227 [l0, l1, l2, l3, l4, l5, l6, l7, l8, l9, l10] (.int 2 :: st) v x := vE_s rfl (by rfl)
theorem q199_227 : vE 199 227 [l0, l1, l2, l3, l4, l5, l6, l7, l8, l9, l10] (.int a :: st) v x ↔ vE 199 229 [l0, l1, l2, l3, l4, l5, l6, l7, l8, .int a, l10] st v x := vE_s rfl rfl
theorem q199_229 : vE 199 229 [.ref p, l1, l2, l3, l4, l5, l6, l7, l8, l9, l10] st v x ↔ vE 199 230 [.ref p, l1, l2, l3, l4, l5, l6, l7, l8, l9, l10] (.ref p :: st) v x := vE_s rfl rfl
theorem q199_230 : vE 199 230 [l0, l1, l2, l3, l4, l5, l6, l7, l8, l9, l10] (.ref p :: st) v x ↔ vE 199 233 [l0, l1, l2, l3, l4, l5, l6, l7, l8, l9, l10] (.ref (p + 26) :: st) v x := vE_s rfl rfl
theorem q199_233 : vE 199 233 [l0, l1, l2, l3, l4, l5, l6, .int a, l8, l9, l10] st v x ↔ vE 199 235 [l0, l1, l2, l3, l4, l5, l6, .int a, l8, l9, l10] (.int a :: st) v x := vE_s rfl rfl
theorem q199_235 : vE 199 235 [l0, l1, l2, l3, l4, l5, l6, l7, l8, l9, l10] (.int a :: st) v x ↔ if a = 0 then vE 199 252 [l0, l1, l2, l3, l4, l5, l6, l7, l8, l9, l10] st v x else vE 199 238 [l0, l1, l2, l3, l4, l5, l6, l7, l8, l9, l10] st v x := vE_if rfl rfl
theorem q199_238 : vE 199 238 [.ref p, l1, l2, l3, l4, l5, l6, l7, l8, l9, l10] st v x ↔ vE 199 239 [.ref p, l1, l2, l3, l4, l5, l6, l7, l8, l9, l10] (.ref p :: st) v x := vE_s rfl rfl
theorem q199_239 : vE 199 239 [l0, l1, l2, l3, l4, l5, l6, l7, l8, l9, l10] (.ref p :: st) v x ↔ vE 199 242 [l0, l1, l2, l3, l4, l5, l6, l7, l8, l9, l10] (.ref (p + 4) :: st) v x := vE_s rfl rfl
theorem q199_242 : vE 199 242 [l0, l1, l2, l3, l4, l5, l6, l7, l8, l9, l10] st v x ↔ vE 199 243 [l0, l1, l2, l3, l4, l5, l6, l7, l8, l9, l10] (.int 4 :: st) v x := vE_s rfl (by rfl)
theorem q199_243 : vE 199 243 [l0, l1, l2, l3, l4, l5, l6, l7, .int a, l9, l10] st v x ↔ vE 199 245 [l0, l1, l2, l3, l4, l5, l6, l7, .int a, l9, l10] (.int a :: st) v x := vE_s rfl rfl
theorem q199_245 : vE 199 245 [l0, l1, l2, l3, l4, l5, l6, l7, l8, l9, l10] (.int b :: .int a :: st) v x ↔ vE 199 246 [l0, l1, l2, l3, l4, l5, l6, l7, l8, l9, l10] (.int (a * b) :: st) v x := vE_s rfl rfl
theorem q199_246 : vE 199 246 [l0, l1, l2, l3, l4, l5, l6, l7, l8, l9, l10] st v x ↔ vE 199 247 [l0, l1, l2, l3, l4, l5, l6, l7, l8, l9, l10] (.int 1 :: st) v x := vE_s rfl (by rfl)
theorem q199_247 : vE 199 247 [l0, l1, l2, l3, l4, l5, l6, l7, l8, l9, l10] (.int b :: .int a :: st) v x ↔ vE 199 248 [l0, l1, l2, l3, l4, l5, l6, l7, l8, l9, l10] (.int (a + b) :: st) v x := vE_s rfl rfl
theorem q199_248 : vE 199 248 [l0, l1, l2, l3, l4, l5, l6, l7, l8, l9, l10] (.int a :: .ref p :: st) v x ↔ vE 199 249 [l0, l1, l2, l3, l4, l5, l6, l7, l8, l9, l10] (.int (v.1 p a.toNatClampNeg) :: st) v x := vE_s rfl rfl
theorem q199_249 : vE 199 249 [l0, l1, l2, l3, l4, l5, l6, l7, l8, l9, l10] st v x ↔ vE 199 253 [l0, l1, l2, l3, l4, l5, l6, l7, l8, l9, l10] st v x := vE_s rfl rfl
theorem q199_252 : vE 199 252 [l0, l1, l2, l3, l4, l5, l6, l7, l8, l9, l10] st v x ↔ vE 199 253 [l0, l1, l2, l3, l4, l5, l6, l7, l8, l9, l10] (.int 0 :: st) v x := vE_s rfl (by rfl)
theorem q199_253 : vE 199 253 [l0, l1, l2, l3, l4, l5, l6, l7, l8, l9, l10] (.int a :: .ref p :: st) v x ↔ vE 199 254 [l0, l1, l2, l3, l4, l5, l6, l7, l8, l9, l10] (.int (v.1 p a.toNatClampNeg) :: st) v x := vE_s rfl rfl
theorem q199_254 : vE 199 254 [l0, l1, l2, l3, l4, l5, l6, l7, l8, l9, l10] (.int a :: st) v x ↔ vE 199 256 [l0, l1, l2, l3, l4, l5, l6, l7, l8, l9, .int a] st v x := vE_s rfl rfl
theorem q199_256 : vE 199 256 [l0, l1, l2, l3, l4, l5, l6, l7, l8, .int a, l10] st v x ↔ vE 199 258 [l0, l1, l2, l3, l4, l5, l6, l7, l8, .int a, l10] (.int a :: st) v x := vE_s rfl rfl
theorem q199_258 : vE 199 258 [l0, l1, l2, l3, l4, l5, l6, l7, l8, l9, l10] st v x ↔ vE 199 259 [l0, l1, l2, l3, l4, l5, l6, l7, l8, l9, l10] (.int 2 :: st) v x := vE_s rfl (by rfl)
theorem q199_259 : vE 199 259 [l0, l1, l2, l3, l4, l5, l6, l7, l8, l9, l10] (.int b :: .int a :: st) v x ↔ if a = b then vE 199 262 [l0, l1, l2, l3, l4, l5, l6, l7, l8, l9, l10] st v x else vE 199 280 [l0, l1, l2, l3, l4, l5, l6, l7, l8, l9, l10] st v x := vE_if rfl rfl
theorem q199_262 : vE 199 262 [.ref p, l1, l2, l3, l4, l5, l6, l7, l8, l9, l10] st v x ↔ vE 199 263 [.ref p, l1, l2, l3, l4, l5, l6, l7, l8, l9, l10] (.ref p :: st) v x := vE_s rfl rfl
theorem q199_263 : vE 199 263 [l0, l1, l2, l3, l4, l5, l6, l7, l8, l9, l10] (.ref p :: st) v x ↔ vE 199 264 [l0, l1, l2, l3, l4, l5, l6, l7, l8, l9, l10] (.ref p :: .ref p :: st) v x := vE_s rfl rfl
theorem q199_264 : vE 199 264 [l0, l1, l2, l3, l4, l5, l6, l7, l8, l9, l10] (.ref p :: st) v x ↔ vE 199 267 [l0, l1, l2, l3, l4, l5, l6, l7, l8, l9, l10] (.int (v.1 p 33) :: st) v x := vE_s rfl rfl
theorem q199_267 : vE 199 267 [l0, l1, l2, l3, l4, l5, l6, l7, l8, l9, l10] st v x ↔ vE 199 268 [l0, l1, l2, l3, l4, l5, l6, l7, l8, l9, l10] (.int 1 :: st) v x := vE_s rfl (by rfl)
theorem q199_268 : vE 199 268 [l0, l1, l2, l3, l4, l5, l6, l7, l8, l9, l10] (.int b :: .int a :: st) v x ↔ vE 199 269 [l0, l1, l2, l3, l4, l5, l6, l7, l8, l9, l10] (.int (a + b) :: st) v x := vE_s rfl rfl
theorem q199_269 : vE 199 269 [l0, l1, l2, l3, l4, l5, l6, l7, l8, l9, l10] (.int a :: .ref p :: st) v x ↔ vE 199 272 [l0, l1, l2, l3, l4, l5, l6, l7, l8, l9, l10] st (vm_si v p 33 a) x := vE_s rfl rfl
theorem q199_272 : vE 199 272 [.ref p, l1, l2, l3, l4, l5, l6, l7, l8, l9, l10] st v x ↔ vE 199 273 [.ref p, l1, l2, l3, l4, l5, l6, l7, l8, l9, l10] (.ref p :: st) v x := vE_s rfl rfl
theorem q199_273 : vE 199 273 [l0, l1, l2, l3, l4, l5, l6, l7, l8, l9, .int a] st v x ↔ vE 199 275 [l0, l1, l2, l3, l4, l5, l6, l7, l8, l9, .int a] (.int a :: st) v x := vE_s rfl rfl
theorem q199_275 : vE 199 275 [l0, l1, l2, l3, l4, l5, l6, l7, l8, l9, l10] (.int a :: .ref p :: st) v x ↔ vE 199 278 [l0, l1, l2, l3, l4, l5, l6, l7, l8, l9, l10] st (vm_si v p 34 a) x := vE_s rfl rfl
theorem q199_278 : vE 199 278 [l0, l1, l2, l3, l4, l5, l6, l7, l8, l9, l10] st v x ↔ vE 199 279 [l0, l1, l2, l3, l4, l5, l6, l7, l8, l9, l10] (.int 1 :: st) v x := vE_s rfl (by rfl)
theorem q199_279 : vE 199 279 [l0, l1, l2, l3, l4, l5, l6, l7, l8, l9, l10] ([.int a]) v x ↔ x = vr a v := vE_ir rfl
theorem q199_280 : vE 199 280 [l0, l1, l2, l3, l4, l5, l6, l7, l8, .int a, l10] st v x ↔ vE 199 282 [l0, l1, l2, l3, l4, l5, l6, l7, l8, .int a, l10] (.int a :: st) v x := vE_s rfl rfl
theorem q199_282 : vE 199 282 [l0, l1, l2, l3, l4, l5, l6, l7, l8, l9, l10] (.int a :: st) v x ↔ if a = 0 then vE 199 290 [l0, l1, l2, l3, l4, l5, l6, l7, l8, l9, l10] st v x else vE 199 285 [l0, l1, l2, l3, l4, l5, l6, l7, l8, l9, l10] st v x := vE_if rfl rfl
theorem q199_285 : vE 199 285 [l0, l1, l2, l3, l4, l5, l6, l7, l8, l9, .int a] st v x ↔ vE 199 287 [l0, l1, l2, l3, l4, l5, l6, l7, l8, l9, .int a] (.int a :: st) v x := vE_s rfl rfl
theorem q199_287 : vE 199 287 [l0, l1, l2, l3, l4, l5, l6, l7, l8, l9, l10] (.int a :: st) v x ↔ if a = 0 then vE 199 304 [l0, l1, l2, l3, l4, l5, l6, l7, l8, l9, l10] st v x else vE 199 290 [l0, l1, l2, l3, l4, l5, l6, l7, l8, l9, l10] st v x := vE_if rfl rfl
theorem q199_290 : vE 199 290 [.ref p, l1, l2, l3, l4, l5, l6, l7, l8, l9, l10] st v x ↔ vE 199 291 [.ref p, l1, l2, l3, l4, l5, l6, l7, l8, l9, l10] (.ref p :: st) v x := vE_s rfl rfl
theorem q199_291 : vE 199 291 [l0, l1, l2, l3, l4, l5, l6, l7, l8, l9, l10] (.ref p :: st) v x ↔ vE 199 294 [l0, l1, l2, l3, l4, l5, l6, l7, l8, l9, l10] (.ref (p + 4) :: st) v x := vE_s rfl rfl
theorem q199_294 : vE 199 294 [l0, l1, l2, l3, l4, l5, l6, l7, l8, l9, l10] st v x ↔ vE 199 295 [l0, l1, l2, l3, l4, l5, l6, l7, l8, l9, l10] (.int 4 :: st) v x := vE_s rfl (by rfl)
theorem q199_295 : vE 199 295 [l0, l1, l2, l3, l4, l5, l6, l7, .int a, l9, l10] st v x ↔ vE 199 297 [l0, l1, l2, l3, l4, l5, l6, l7, .int a, l9, l10] (.int a :: st) v x := vE_s rfl rfl
theorem q199_297 : vE 199 297 [l0, l1, l2, l3, l4, l5, l6, l7, l8, l9, l10] (.int b :: .int a :: st) v x ↔ vE 199 298 [l0, l1, l2, l3, l4, l5, l6, l7, l8, l9, l10] (.int (a * b) :: st) v x := vE_s rfl rfl
theorem q199_298 : vE 199 298 [l0, l1, l2, l3, l4, l5, l6, l7, l8, l9, l10] st v x ↔ vE 199 299 [l0, l1, l2, l3, l4, l5, l6, l7, l8, l9, l10] (.int 2 :: st) v x := vE_s rfl (by rfl)
theorem q199_299 : vE 199 299 [l0, l1, l2, l3, l4, l5, l6, l7, l8, l9, l10] (.int b :: .int a :: st) v x ↔ vE 199 300 [l0, l1, l2, l3, l4, l5, l6, l7, l8, l9, l10] (.int (a + b) :: st) v x := vE_s rfl rfl
theorem q199_300 : vE 199 300 [l0, l1, l2, l3, l4, l5, l6, l7, l8, l9, l10] (.int a :: .ref p :: st) v x ↔ vE 199 301 [l0, l1, l2, l3, l4, l5, l6, l7, l8, l9, l10] (.int (v.1 p a.toNatClampNeg) :: st) v x := vE_s rfl rfl
theorem q199_301 : vE 199 301 [l0, l1, l2, l3, l4, l5, l6, l7, l8, l9, l10] st v x ↔ vE 199 315 [l0, l1, l2, l3, l4, l5, l6, l7, l8, l9, l10] st v x := vE_s rfl rfl
theorem q199_304 : vE 199 304 [.ref p, l1, l2, l3, l4, l5, l6, l7, l8, l9, l10] st v x ↔ vE 199 305 [.ref p, l1, l2, l3, l4, l5, l6, l7, l8, l9, l10] (.ref p :: st) v x := vE_s rfl rfl
theorem q199_305 : vE 199 305 [l0, l1, l2, l3, l4, l5, l6, l7, l8, l9, l10] (.ref p :: st) v x ↔ vE 199 308 [l0, l1, l2, l3, l4, l5, l6, l7, l8, l9, l10] (.ref (p + 4) :: st) v x := vE_s rfl rfl
theorem q199_308 : vE 199 308 [l0, l1, l2, l3, l4, l5, l6, l7, l8, l9, l10] st v x ↔ vE 199 309 [l0, l1, l2, l3, l4, l5, l6, l7, l8, l9, l10] (.int 4 :: st) v x := vE_s rfl (by rfl)
theorem q199_309 : vE 199 309 [l0, l1, l2, l3, l4, l5, l6, l7, .int a, l9, l10] st v x ↔ vE 199 311 [l0, l1, l2, l3, l4, l5, l6, l7, .int a, l9, l10] (.int a :: st) v x := vE_s rfl rfl
theorem q199_311 : vE 199 311 [l0, l1, l2, l3, l4, l5, l6, l7, l8, l9, l10] (.int b :: .int a :: st) v x ↔ vE 199 312 [l0, l1, l2, l3, l4, l5, l6, l7, l8, l9, l10] (.int (a * b) :: st) v x := vE_s rfl rfl
theorem q199_312 : vE 199 312 [l0, l1, l2, l3, l4, l5, l6, l7, l8, l9, l10] st v x ↔ vE 199 313 [l0, l1, l2, l3, l4, l5, l6, l7, l8, l9, l10] (.int 3 :: st) v x := vE_s rfl (by rfl)
theorem q199_313 : vE 199 313 [l0, l1, l2, l3, l4, l5, l6, l7, l8, l9, l10] (.int b :: .int a :: st) v x ↔ vE 199 314 [l0, l1, l2, l3, l4, l5, l6, l7, l8, l9, l10] (.int (a + b) :: st) v x := vE_s rfl rfl
theorem q199_314 : vE 199 314 [l0, l1, l2, l3, l4, l5, l6, l7, l8, l9, l10] (.int a :: .ref p :: st) v x ↔ vE 199 315 [l0, l1, l2, l3, l4, l5, l6, l7, l8, l9, l10] (.int (v.1 p a.toNatClampNeg) :: st) v x := vE_s rfl rfl
theorem q199_315 : vE 199 315 [l0, l1, l2, l3, l4, l5, l6, l7, l8, l9, l10] (.int a :: st) v x ↔ vE 199 317 [l0, l1, l2, l3, l4, .int a, l6, l7, l8, l9, l10] st v x := vE_s rfl rfl
theorem q199_317 : vE 199 317 [l0, l1, l2, l3, l4, l5, l6, l7, l8, l9, l10] st v x ↔ vE 199 318 [l0, l1, l2, l3, l4, l5, l6, l7, l8, l9, l10] (.int 0 :: st) v x := vE_s rfl (by rfl)
theorem q199_318 : vE 199 318 [l0, l1, l2, l3, l4, l5, l6, l7, l8, l9, l10] (.int a :: st) v x ↔ vE 199 320 [l0, l1, l2, l3, l4, l5, .int a, l7, l8, l9, l10] st v x := vE_s rfl rfl
theorem q199_320 : vE 199 320 [.ref p, l1, l2, l3, l4, l5, l6, l7, l8, l9, l10] st v x ↔ vE 199 321 [.ref p, l1, l2, l3, l4, l5, l6, l7, l8, l9, l10] (.ref p :: st) v x := vE_s rfl rfl
theorem q199_321 : vE 199 321 [l0, l1, l2, l3, l4, l5, l6, l7, l8, l9, l10] (.ref p :: st) v x ↔ vE 199 322 [l0, l1, l2, l3, l4, l5, l6, l7, l8, l9, l10] (.ref p :: .ref p :: st) v x := vE_s rfl rfl
theorem q199_322 : vE 199 322 [l0, l1, l2, l3, l4, l5, l6, l7, l8, l9, l10] (.ref p :: st) v x ↔ vE 199 325 [l0, l1, l2, l3, l4, l5, l6, l7, l8, l9, l10] (.int (v.1 p 33) :: st) v x := vE_s rfl rfl
theorem q199_325 : vE 199 325 [l0, l1, l2, l3, l4, l5, l6, l7, l8, l9, l10] st v x ↔ vE 199 326 [l0, l1, l2, l3, l4, l5, l6, l7, l8, l9, l10] (.int 1 :: st) v x := vE_s rfl (by rfl)
theorem q199_326 : vE 199 326 [l0, l1, l2, l3, l4, l5, l6, l7, l8, l9, l10] (.int b :: .int a :: st) v x ↔ vE 199 327 [l0, l1, l2, l3, l4, l5, l6, l7, l8, l9, l10] (.int (a + b) :: st) v x := vE_s rfl rfl
theorem q199_327 : vE 199 327 [l0, l1, l2, l3, l4, l5, l6, l7, l8, l9, l10] (.int a :: .ref p :: st) v x ↔ vE 199 330 [l0, l1, l2, l3, l4, l5, l6, l7, l8, l9, l10] st (vm_si v p 33 a) x := vE_s rfl rfl
theorem q199_330 : vE 199 330 [l0, l1, l2, l3, l4, l5, l6, l7, l8, l9, l10] st v x ↔ vE 199 126 [l0, l1, l2, l3, l4, l5, l6, l7, l8, l9, l10] st v x := vE_s rfl rfl
theorem q199_333 : vE 199 333 [l0, l1, l2, l3, l4, l5, l6, l7, l8, l9, l10] st v x ↔ vE 199 334 [l0, l1, l2, l3, l4, l5, l6, l7, l8, l9, l10] (.int 0 :: st) v x := vE_s rfl (by rfl)
theorem q199_334 : vE 199 334 [l0, l1, l2, l3, l4, l5, l6, l7, l8, l9, l10] ([.int a]) v x ↔ x = vr a v := vE_ir rfl
theorem qt199 {X pc : Nat} {L r : List Value} : vB 199 pc L r (vt X v) x ↔ x = vt X v := vB_t rfl
/-! 200 PassCheckerModel.execute(I)I -/
theorem q200_0 : vE 200 0 [.ref p, l1, l2, l3, l4, l5] st v x ↔ vE 200 1 [.ref p, l1, l2, l3, l4, l5] (.ref p :: st) v x := vE_s rfl rfl
theorem q200_1 : vE 200 1 [l0, l1, l2, l3, l4, l5] (.ref p :: st) v x ↔ vE 200 4 [l0, l1, l2, l3, l4, l5] (.ref (p + 3) :: st) v x := vE_s rfl rfl
theorem q200_4 : vE 200 4 [l0, .int a, l2, l3, l4, l5] st v x ↔ vE 200 5 [l0, .int a, l2, l3, l4, l5] (.int a :: st) v x := vE_s rfl rfl
theorem q200_5 : vE 200 5 [l0, l1, l2, l3, l4, l5] (.int a :: .ref p :: st) v x ↔ vE 200 6 [l0, l1, l2, l3, l4, l5] (.int (v.1 p a.toNatClampNeg) :: st) v x := vE_s rfl rfl
theorem q200_6 : vE 200 6 [l0, l1, l2, l3, l4, l5] (.int a :: st) v x ↔ vE 200 7 [l0, l1, .int a, l3, l4, l5] st v x := vE_s rfl rfl
theorem q200_7 : vE 200 7 [.ref p, l1, l2, l3, l4, l5] st v x ↔ vE 200 8 [.ref p, l1, l2, l3, l4, l5] (.ref p :: st) v x := vE_s rfl rfl
theorem q200_8 : vE 200 8 [l0, l1, l2, l3, l4, l5] (.ref p :: st) v x ↔ vE 200 11 [l0, l1, l2, l3, l4, l5] (.ref (p + 3) :: st) v x := vE_s rfl rfl
theorem q200_11 : vE 200 11 [l0, .int a, l2, l3, l4, l5] st v x ↔ vE 200 12 [l0, .int a, l2, l3, l4, l5] (.int a :: st) v x := vE_s rfl rfl
theorem q200_12 : vE 200 12 [l0, l1, l2, l3, l4, l5] st v x ↔ vE 200 13 [l0, l1, l2, l3, l4, l5] (.int 1 :: st) v x := vE_s rfl (by rfl)
theorem q200_13 : vE 200 13 [l0, l1, l2, l3, l4, l5] (.int b :: .int a :: st) v x ↔ vE 200 14 [l0, l1, l2, l3, l4, l5] (.int (a + b) :: st) v x := vE_s rfl rfl
theorem q200_14 : vE 200 14 [l0, l1, l2, l3, l4, l5] (.int a :: .ref p :: st) v x ↔ vE 200 15 [l0, l1, l2, l3, l4, l5] (.int (v.1 p a.toNatClampNeg) :: st) v x := vE_s rfl rfl
theorem q200_15 : vE 200 15 [l0, l1, l2, l3, l4, l5] (.int a :: st) v x ↔ vE 200 16 [l0, l1, l2, .int a, l4, l5] st v x := vE_s rfl rfl
theorem q200_16 : vE 200 16 [.ref p, l1, l2, l3, l4, l5] st v x ↔ vE 200 17 [.ref p, l1, l2, l3, l4, l5] (.ref p :: st) v x := vE_s rfl rfl
theorem q200_17 : vE 200 17 [l0, l1, l2, l3, l4, l5] (.ref p :: st) v x ↔ vE 200 20 [l0, l1, l2, l3, l4, l5] (.ref (p + 26) :: st) v x := vE_s rfl rfl
theorem q200_20 : vE 200 20 [.ref p, l1, l2, l3, l4, l5] st v x ↔ vE 200 21 [.ref p, l1, l2, l3, l4, l5] (.ref p :: st) v x := vE_s rfl rfl
theorem q200_21 : vE 200 21 [l0, l1, l2, l3, l4, l5] (.ref p :: st) v x ↔ vE 200 24 [l0, l1, l2, l3, l4, l5] (.ref (p + 3) :: st) v x := vE_s rfl rfl
theorem q200_24 : vE 200 24 [l0, .int a, l2, l3, l4, l5] st v x ↔ vE 200 25 [l0, .int a, l2, l3, l4, l5] (.int a :: st) v x := vE_s rfl rfl
theorem q200_25 : vE 200 25 [l0, l1, l2, l3, l4, l5] st v x ↔ vE 200 26 [l0, l1, l2, l3, l4, l5] (.int 2 :: st) v x := vE_s rfl (by rfl)
theorem q200_26 : vE 200 26 [l0, l1, l2, l3, l4, l5] (.int b :: .int a :: st) v x ↔ vE 200 27 [l0, l1, l2, l3, l4, l5] (.int (a + b) :: st) v x := vE_s rfl rfl
theorem q200_27 : vE 200 27 [l0, l1, l2, l3, l4, l5] (.int a :: .ref p :: st) v x ↔ vE 200 28 [l0, l1, l2, l3, l4, l5] (.int (v.1 p a.toNatClampNeg) :: st) v x := vE_s rfl rfl
theorem q200_28 : vE 200 28 [l0, l1, l2, l3, l4, l5] (.int a :: .ref p :: st) v x ↔ vE 200 29 [l0, l1, l2, l3, l4, l5] (.int (v.1 p a.toNatClampNeg) :: st) v x := vE_s rfl rfl
theorem q200_29 : vE 200 29 [l0, l1, l2, l3, l4, l5] (.int a :: st) v x ↔ vE 200 31 [l0, l1, l2, l3, .int a, l5] st v x := vE_s rfl rfl
theorem q200_31 : vE 200 31 [l0, l1, .int a, l3, l4, l5] st v x ↔ vE 200 32 [l0, l1, .int a, l3, l4, l5] (.int a :: st) v x := vE_s rfl rfl
theorem q200_32 : vE 200 32 [l0, l1, l2, l3, l4, l5] (w0 :: st) v x ↔ ∃ y : vm_Y, vE 156 0 [w0] [] v y ∧ vB 200 32 [l0, l1, l2, l3, l4, l5] st y x := vE_cs rfl rfl rfl rfl
theorem q200_35 : vE 200 35 [l0, l1, l2, l3, l4, l5] (.int a :: st) v x ↔ if a = 0 then vE 200 54 [l0, l1, l2, l3, l4, l5] st v x else vE 200 38 [l0, l1, l2, l3, l4, l5] st v x := vE_if rfl rfl
theorem q200_38 : vE 200 38 [.ref p, l1, l2, l3, l4, l5] st v x ↔ vE 200 39 [.ref p, l1, l2, l3, l4, l5] (.ref p :: st) v x := vE_s rfl rfl
theorem q200_39 : vE 200 39 [l0, l1, l2, l3, l4, l5] (.ref p :: st) v x ↔ vE 200 42 [l0, l1, l2, l3, l4, l5] (.ref (p + 26) :: st) v x := vE_s rfl rfl
theorem q200_42 : vE 200 42 [.ref p, l1, l2, l3, l4, l5] st v x ↔ vE 200 43 [.ref p, l1, l2, l3, l4, l5] (.ref p :: st) v x := vE_s rfl rfl
theorem q200_43 : vE 200 43 [l0, l1, l2, l3, l4, l5] (.ref p :: st) v x ↔ vE 200 46 [l0, l1, l2, l3, l4, l5] (.ref (p + 3) :: st) v x := vE_s rfl rfl
theorem q200_46 : vE 200 46 [l0, .int a, l2, l3, l4, l5] st v x ↔ vE 200 47 [l0, .int a, l2, l3, l4, l5] (.int a :: st) v x := vE_s rfl rfl
theorem q200_47 : vE 200 47 [l0, l1, l2, l3, l4, l5] st v x ↔ vE 200 48 [l0, l1, l2, l3, l4, l5] (.int 3 :: st) v x := vE_s rfl (by rfl)
theorem q200_48 : vE 200 48 [l0, l1, l2, l3, l4, l5] (.int b :: .int a :: st) v x ↔ vE 200 49 [l0, l1, l2, l3, l4, l5] (.int (a + b) :: st) v x := vE_s rfl rfl
theorem q200_49 : vE 200 49 [l0, l1, l2, l3, l4, l5] (.int a :: .ref p :: st) v x ↔ vE 200 50 [l0, l1, l2, l3, l4, l5] (.int (v.1 p a.toNatClampNeg) :: st) v x := vE_s rfl rfl
theorem q200_50 : vE 200 50 [l0, l1, l2, l3, l4, l5] (.int a :: .ref p :: st) v x ↔ vE 200 51 [l0, l1, l2, l3, l4, l5] (.int (v.1 p a.toNatClampNeg) :: st) v x := vE_s rfl rfl
theorem q200_51 : vE 200 51 [l0, l1, l2, l3, l4, l5] st v x ↔ vE 200 55 [l0, l1, l2, l3, l4, l5] st v x := vE_s rfl rfl
theorem q200_54 : vE 200 54 [l0, l1, l2, l3, l4, l5] st v x ↔ vE 200 55 [l0, l1, l2, l3, l4, l5] (.int 0 :: st) v x := vE_s rfl (by rfl)
theorem q200_55 : vE 200 55 [l0, l1, l2, l3, l4, l5] (.int a :: st) v x ↔ vE 200 57 [l0, l1, l2, l3, l4, .int a] st v x := vE_s rfl rfl
theorem q200_57 : vE 200 57 [l0, l1, .int a, l3, l4, l5] st v x ↔ vE 200 58 [l0, l1, .int a, l3, l4, l5] (.int a :: st) v x := vE_s rfl rfl
theorem q200_58 : vE 200 58 [l0, l1, l2, l3, l4, l5] st v x ↔ vE 200 60 [l0, l1, l2, l3, l4, l5] (.int 7 :: st) v x := vE_s rfl (by rfl)
theorem q200_60 : vE 200 60 [l0, l1, l2, l3, l4, l5] (.int b :: .int a :: st) v x ↔ if a = b then vE 200 63 [l0, l1, l2, l3, l4, l5] st v x else vE 200 70 [l0, l1, l2, l3, l4, l5] st v x := vE_if rfl rfl
theorem q200_63 : vE 200 63 [l0, l1, l2, l3, l4, .int a] st v x ↔ vE 200 65 [l0, l1, l2, l3, l4, .int a] (.int a :: st) v x := vE_s rfl rfl
theorem q200_65 : vE 200 65 [l0, l1, l2, l3, l4, l5] (.int a :: st) v x ↔ if a = 0 then vE 200 68 [l0, l1, l2, l3, l4, l5] st v x else vE 200 70 [l0, l1, l2, l3, l4, l5] st v x := vE_if rfl rfl
theorem q200_68 : vE 200 68 [l0, l1, l2, l3, l4, l5] st v x ↔ vE 200 69 [l0, l1, l2, l3, l4, l5] (.int 2 :: st) v x := vE_s rfl (by rfl)
theorem q200_69 : vE 200 69 [l0, l1, l2, l3, l4, l5] ([.int a]) v x ↔ x = vr a v := vE_ir rfl
theorem q200_70 : vE 200 70 [l0, l1, .int a, l3, l4, l5] st v x ↔ vE 200 71 [l0, l1, .int a, l3, l4, l5] (.int a :: st) v x := vE_s rfl rfl
theorem q200_71 : vE 200 71 [l0, l1, l2, l3, l4, l5] st v x ↔ vE 200 73 [l0, l1, l2, l3, l4, l5] (.int 8 :: st) v x := vE_s rfl (by rfl)
theorem q200_73 : vE 200 73 [l0, l1, l2, l3, l4, l5] (.int b :: .int a :: st) v x ↔ if a < b then vE 200 98 [l0, l1, l2, l3, l4, l5] st v x else vE 200 76 [l0, l1, l2, l3, l4, l5] st v x := vE_if rfl rfl
theorem q200_76 : vE 200 76 [l0, l1, l2, l3, .int a, l5] st v x ↔ vE 200 78 [l0, l1, l2, l3, .int a, l5] (.int a :: st) v x := vE_s rfl rfl
theorem q200_78 : vE 200 78 [l0, l1, l2, l3, l4, l5] st v x ↔ vE 200 80 [l0, l1, l2, l3, l4, l5] (.int 8 :: st) v x := vE_s rfl (by rfl)
theorem q200_80 : vE 200 80 [l0, l1, l2, l3, l4, l5] (w1 :: w0 :: st) v x ↔ ∃ y : vm_Y, vE 148 0 [w0, w1] [] v y ∧ vB 200 80 [l0, l1, l2, l3, l4, l5] st y x := vE_cs rfl rfl rfl rfl
theorem q200_83 : vE 200 83 [l0, l1, l2, l3, l4, l5] (.int a :: st) v x ↔ if a = 0 then vE 200 98 [l0, l1, l2, l3, l4, l5] st v x else vE 200 86 [l0, l1, l2, l3, l4, l5] st v x := vE_if rfl rfl
theorem q200_86 : vE 200 86 [l0, l1, .int a, l3, l4, l5] st v x ↔ vE 200 87 [l0, l1, .int a, l3, l4, l5] (.int a :: st) v x := vE_s rfl rfl
theorem q200_87 : vE 200 87 [l0, l1, l2, l3, l4, l5] st v x ↔ vE 200 89 [l0, l1, l2, l3, l4, l5] (.int 8 :: st) v x := vE_s rfl (by rfl)
theorem q200_89 : vE 200 89 [l0, l1, l2, l3, l4, l5] (.int b :: .int a :: st) v x ↔ if a = b then vE 200 92 [l0, l1, l2, l3, l4, l5] st v x else vE 200 96 [l0, l1, l2, l3, l4, l5] st v x := vE_if rfl rfl
theorem q200_92 : vE 200 92 [l0, l1, l2, l3, l4, l5] st v x ↔ vE 200 93 [l0, l1, l2, l3, l4, l5] (.int 3 :: st) v x := vE_s rfl (by rfl)
theorem q200_93 : vE 200 93 [l0, l1, l2, l3, l4, l5] st v x ↔ vE 200 97 [l0, l1, l2, l3, l4, l5] st v x := vE_s rfl rfl
theorem q200_96 : vE 200 96 [l0, l1, l2, l3, l4, l5] st v x ↔ vE 200 97 [l0, l1, l2, l3, l4, l5] (.int 4 :: st) v x := vE_s rfl (by rfl)
theorem q200_97 : vE 200 97 [l0, l1, l2, l3, l4, l5] ([.int a]) v x ↔ x = vr a v := vE_ir rfl
theorem q200_98 : vE 200 98 [l0, l1, .int a, l3, l4, l5] st v x ↔ vE 200 99 [l0, l1, .int a, l3, l4, l5] (.int a :: st) v x := vE_s rfl rfl
theorem q200_99 : vE 200 99 [l0, l1, l2, l3, l4, l5] st v x ↔ vE 200 101 [l0, l1, l2, l3, l4, l5] (.int 9 :: st) v x := vE_s rfl (by rfl)
theorem q200_101 : vE 200 101 [l0, l1, l2, l3, l4, l5] (.int b :: .int a :: st) v x ↔ if a = b then vE 200 104 [l0, l1, l2, l3, l4, l5] st v x else vE 200 116 [l0, l1, l2, l3, l4, l5] st v x := vE_if rfl rfl
theorem q200_104 : vE 200 104 [.ref p, l1, l2, l3, l4, l5] st v x ↔ vE 200 105 [.ref p, l1, l2, l3, l4, l5] (.ref p :: st) v x := vE_s rfl rfl
theorem q200_105 : vE 200 105 [l0, l1, l2, l3, l4, l5] (.ref p :: st) v x ↔ vE 200 108 [l0, l1, l2, l3, l4, l5] (.ref (p + 27) :: st) v x := vE_s rfl rfl
theorem q200_108 : vE 200 108 [l0, l1, l2, l3, .int a, l5] st v x ↔ vE 200 110 [l0, l1, l2, l3, .int a, l5] (.int a :: st) v x := vE_s rfl rfl
theorem q200_110 : vE 200 110 [l0, l1, l2, l3, l4, .int a] st v x ↔ vE 200 112 [l0, l1, l2, l3, l4, .int a] (.int a :: st) v x := vE_s rfl rfl
theorem q200_112 : vE 200 112 [l0, l1, l2, l3, l4, l5] (.int b :: .int a :: .ref p :: st) v x ↔ vE 200 113 [l0, l1, l2, l3, l4, l5] st (vm_si v p a.toNatClampNeg b) x := vE_s rfl rfl
theorem q200_113 : vE 200 113 [l0, l1, l2, l3, l4, l5] st v x ↔ vE 200 161 [l0, l1, l2, l3, l4, l5] st v x := vE_s rfl rfl
theorem q200_116 : vE 200 116 [.ref p, l1, l2, l3, l4, l5] st v x ↔ vE 200 117 [.ref p, l1, l2, l3, l4, l5] (.ref p :: st) v x := vE_s rfl rfl
theorem q200_117 : vE 200 117 [l0, l1, l2, l3, l4, l5] (.ref p :: st) v x ↔ vE 200 120 [l0, l1, l2, l3, l4, l5] (.ref (p + 26) :: st) v x := vE_s rfl rfl
theorem q200_120 : vE 200 120 [l0, l1, l2, .int a, l4, l5] st v x ↔ vE 200 121 [l0, l1, l2, .int a, l4, l5] (.int a :: st) v x := vE_s rfl rfl
theorem q200_121 : vE 200 121 [l0, l1, .int a, l3, l4, l5] st v x ↔ vE 200 122 [l0, l1, .int a, l3, l4, l5] (.int a :: st) v x := vE_s rfl rfl
theorem q200_122 : vE 200 122 [l0, l1, l2, l3, l4, l5] (.int a :: st) v x ↔ if a = 0 then vE 200 125 [l0, l1, l2, l3, l4, l5] st v x else vE 200 136 [l0, l1, l2, l3, l4, l5] st v x := vE_if rfl rfl
theorem q200_125 : vE 200 125 [.ref p, l1, l2, l3, l4, l5] st v x ↔ vE 200 126 [.ref p, l1, l2, l3, l4, l5] (.ref p :: st) v x := vE_s rfl rfl
theorem q200_126 : vE 200 126 [l0, l1, l2, l3, l4, l5] (.ref p :: st) v x ↔ vE 200 129 [l0, l1, l2, l3, l4, l5] (.ref (p + 3) :: st) v x := vE_s rfl rfl
theorem q200_129 : vE 200 129 [l0, .int a, l2, l3, l4, l5] st v x ↔ vE 200 130 [l0, .int a, l2, l3, l4, l5] (.int a :: st) v x := vE_s rfl rfl
theorem q200_130 : vE 200 130 [l0, l1, l2, l3, l4, l5] st v x ↔ vE 200 131 [l0, l1, l2, l3, l4, l5] (.int 3 :: st) v x := vE_s rfl (by rfl)
theorem q200_131 : vE 200 131 [l0, l1, l2, l3, l4, l5] (.int b :: .int a :: st) v x ↔ vE 200 132 [l0, l1, l2, l3, l4, l5] (.int (a + b) :: st) v x := vE_s rfl rfl
theorem q200_132 : vE 200 132 [l0, l1, l2, l3, l4, l5] (.int a :: .ref p :: st) v x ↔ vE 200 133 [l0, l1, l2, l3, l4, l5] (.int (v.1 p a.toNatClampNeg) :: st) v x := vE_s rfl rfl
theorem q200_133 : vE 200 133 [l0, l1, l2, l3, l4, l5] st v x ↔ vE 200 160 [l0, l1, l2, l3, l4, l5] st v x := vE_s rfl rfl
theorem q200_136 : vE 200 136 [l0, l1, .int a, l3, l4, l5] st v x ↔ vE 200 137 [l0, l1, .int a, l3, l4, l5] (.int a :: st) v x := vE_s rfl rfl
theorem q200_137 : vE 200 137 [l0, l1, l2, l3, l4, l5] st v x ↔ vE 200 139 [l0, l1, l2, l3, l4, l5] (.int 8 :: st) v x := vE_s rfl (by rfl)
theorem q200_139 : vE 200 139 [l0, l1, l2, l3, l4, l5] (.int b :: .int a :: st) v x ↔ if a = b then vE 200 142 [l0, l1, l2, l3, l4, l5] st v x else vE 200 152 [l0, l1, l2, l3, l4, l5] st v x := vE_if rfl rfl
theorem q200_142 : vE 200 142 [.ref p, l1, l2, l3, l4, l5] st v x ↔ vE 200 143 [.ref p, l1, l2, l3, l4, l5] (.ref p :: st) v x := vE_s rfl rfl
theorem q200_143 : vE 200 143 [l0, l1, l2, l3, l4, l5] (.ref p :: st) v x ↔ vE 200 146 [l0, l1, l2, l3, l4, l5] (.ref (p + 27) :: st) v x := vE_s rfl rfl
theorem q200_146 : vE 200 146 [l0, l1, l2, l3, .int a, l5] st v x ↔ vE 200 148 [l0, l1, l2, l3, .int a, l5] (.int a :: st) v x := vE_s rfl rfl
theorem q200_148 : vE 200 148 [l0, l1, l2, l3, l4, l5] (.int a :: .ref p :: st) v x ↔ vE 200 149 [l0, l1, l2, l3, l4, l5] (.int (v.1 p a.toNatClampNeg) :: st) v x := vE_s rfl rfl
theorem q200_149 : vE 200 149 [l0, l1, l2, l3, l4, l5] st v x ↔ vE 200 160 [l0, l1, l2, l3, l4, l5] st v x := vE_s rfl rfl
theorem q200_152 : vE 200 152 [l0, l1, .int a, l3, l4, l5] st v x ↔ vE 200 153 [l0, l1, .int a, l3, l4, l5] (.int a :: st) v x := vE_s rfl rfl
theorem q200_153 : vE 200 153 [l0, l1, l2, l3, .int a, l5] st v x ↔ vE 200 155 [l0, l1, l2, l3, .int a, l5] (.int a :: st) v x := vE_s rfl rfl
theorem q200_155 : vE 200 155 [l0, l1, l2, l3, l4, .int a] st v x ↔ vE 200 157 [l0, l1, l2, l3, l4, .int a] (.int a :: st) v x := vE_s rfl rfl
theorem q200_157 : vE 200 157 [l0, l1, l2, l3, l4, l5] (w2 :: w1 :: w0 :: st) v x ↔ ∃ y : vm_Y, vE 166 0 [w0, w1, w2] [] v y ∧ vB 200 157 [l0, l1, l2, l3, l4, l5] st y x := vE_cs rfl rfl rfl rfl
theorem q200_160 : vE 200 160 [l0, l1, l2, l3, l4, l5] (.int b :: .int a :: .ref p :: st) v x ↔ vE 200 161 [l0, l1, l2, l3, l4, l5] st (vm_si v p a.toNatClampNeg b) x := vE_s rfl rfl
theorem q200_161 : vE 200 161 [l0, l1, l2, l3, l4, l5] st v x ↔ vE 200 162 [l0, l1, l2, l3, l4, l5] (.int 0 :: st) v x := vE_s rfl (by rfl)
theorem q200_162 : vE 200 162 [l0, l1, l2, l3, l4, l5] ([.int a]) v x ↔ x = vr a v := vE_ir rfl
theorem qt200 {X pc : Nat} {L r : List Value} : vB 200 pc L r (vt X v) x ↔ x = vt X v := vB_t rfl
/-! 201 PassCheckerModel.returned()I -/
theorem q201_0 : vE 201 0 [.ref p] st v x ↔ vE 201 1 [.ref p] (.ref p :: st) v x := vE_s rfl rfl
theorem q201_1 : vE 201 1 [l0] st v x ↔ vE 201 2 [l0] (.int 0 :: st) v x := vE_s rfl (by rfl)
theorem q201_2 : vE 201 2 [l0] (.int a :: .ref p :: st) v x ↔ vE 201 5 [l0] st (vm_si v p 0 a) x := vE_s rfl rfl
theorem q201_5 : vE 201 5 [.ref p] st v x ↔ vE 201 6 [.ref p] (.ref p :: st) v x := vE_s rfl rfl
theorem q201_6 : vE 201 6 [l0] (.ref p :: st) v x ↔ vE 201 9 [l0] (.int (v.1 p 34) :: st) v x := vE_s rfl rfl
theorem q201_9 : vE 201 9 [l0] ([.int a]) v x ↔ x = vr a v := vE_ir rfl
/-! 202 PassCheckerModel.word(I)I -/
theorem q202_0 : vE 202 0 [.ref p, l1] st v x ↔ vE 202 1 [.ref p, l1] (.ref p :: st) v x := vE_s rfl rfl
theorem q202_1 : vE 202 1 [l0, .int a] st v x ↔ vE 202 2 [l0, .int a] (.int a :: st) v x := vE_s rfl rfl
theorem q202_2 : vE 202 2 [l0, l1] st v x ↔ vE 202 4 [l0, l1] (.int 8 :: st) v x := vE_s rfl (by rfl)
theorem q202_4 : vE 202 4 [l0, l1] (w1 :: w0 :: st) v x ↔ ∃ y : vm_Y, vE 148 0 [w0, w1] [] v y ∧ vB 202 4 [l0, l1] st y x := vE_cs rfl rfl rfl rfl
theorem q202_7 : vE 202 7 [l0, l1] (.int a :: st) v x ↔ if a = 0 then vE 202 14 [l0, l1] st v x else vE 202 10 [l0, l1] st v x := vE_if rfl rfl
theorem q202_10 : vE 202 10 [l0, l1] st v x ↔ vE 202 11 [l0, l1] (.int 1 :: st) v x := vE_s rfl (by rfl)
theorem q202_11 : vE 202 11 [l0, l1] st v x ↔ vE 202 15 [l0, l1] st v x := vE_s rfl rfl
theorem q202_14 : vE 202 14 [l0, l1] st v x ↔ vE 202 15 [l0, l1] (.int 0 :: st) v x := vE_s rfl (by rfl)
theorem q202_15 : vE 202 15 [l0, l1] (.int a :: .ref p :: st) v x ↔ vE 202 18 [l0, l1] st (vm_si v p 0 a) x := vE_s rfl rfl
theorem q202_18 : vE 202 18 [.ref p, l1] st v x ↔ vE 202 19 [.ref p, l1] (.ref p :: st) v x := vE_s rfl rfl
theorem q202_19 : vE 202 19 [l0, l1] (.ref p :: st) v x ↔ vE 202 22 [l0, l1] (.int (v.1 p 0) :: st) v x := vE_s rfl rfl
theorem q202_22 : vE 202 22 [l0, l1] (.int a :: st) v x ↔ if a ≤ 0 then vE 202 29 [l0, l1] st v x else vE 202 25 [l0, l1] st v x := vE_if rfl rfl
theorem q202_25 : vE 202 25 [l0, l1] st v x ↔ vE 202 26 [l0, l1] (.int 0 :: st) v x := vE_s rfl (by rfl)
theorem q202_26 : vE 202 26 [l0, l1] st v x ↔ vE 202 35 [l0, l1] st v x := vE_s rfl rfl
theorem q202_29 : vE 202 29 [.ref p, l1] st v x ↔ vE 202 30 [.ref p, l1] (.ref p :: st) v x := vE_s rfl rfl
theorem q202_30 : vE 202 30 [l0, l1] (.ref p :: st) v x ↔ vE 202 33 [l0, l1] (.ref (p + 27) :: st) v x := vE_s rfl rfl
theorem q202_33 : vE 202 33 [l0, .int a] st v x ↔ vE 202 34 [l0, .int a] (.int a :: st) v x := vE_s rfl rfl
theorem q202_34 : vE 202 34 [l0, l1] (.int a :: .ref p :: st) v x ↔ vE 202 35 [l0, l1] (.int (v.1 p a.toNatClampNeg) :: st) v x := vE_s rfl rfl
theorem q202_35 : vE 202 35 [l0, l1] ([.int a]) v x ↔ x = vr a v := vE_ir rfl
theorem qt202 {X pc : Nat} {L r : List Value} : vB 202 pc L r (vt X v) x ↔ x = vt X v := vB_t rfl
/-! 203 PassCheckerModel.steps()I -/
theorem q203_0 : vE 203 0 [.ref p] st v x ↔ vE 203 1 [.ref p] (.ref p :: st) v x := vE_s rfl rfl
theorem q203_1 : vE 203 1 [l0] st v x ↔ vE 203 2 [l0] (.int 0 :: st) v x := vE_s rfl (by rfl)
theorem q203_2 : vE 203 2 [l0] (.int a :: .ref p :: st) v x ↔ vE 203 5 [l0] st (vm_si v p 0 a) x := vE_s rfl rfl
theorem q203_5 : vE 203 5 [.ref p] st v x ↔ vE 203 6 [.ref p] (.ref p :: st) v x := vE_s rfl rfl
theorem q203_6 : vE 203 6 [l0] (.ref p :: st) v x ↔ vE 203 9 [l0] (.int (v.1 p 33) :: st) v x := vE_s rfl rfl
theorem q203_9 : vE 203 9 [l0] ([.int a]) v x ↔ x = vr a v := vE_ir rfl
end QG
