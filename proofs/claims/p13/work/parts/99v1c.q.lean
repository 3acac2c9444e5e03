section QC
variable {l0 l1 l2 l3 l4 l5 l6 l7 l8 l9 l10 w0 w1 w2 w3 w4 w5 w6 w7 : Value} {st : List Value} {v : vm_V} {x : vm_Y} {a b c : Int32} {p q : Nat} {u w : Int64}
/-! 57 PassChecker$Reuser.reuseInBlock(LPassChecker$Program;LPassChecker$Program;I)V -/
theorem q57_0 : vE 57 0 [l0, .ref p, l2, l3, l4, l5, l6, l7] st v x ↔ vE 57 1 [l0, .ref p, l2, l3, l4, l5, l6, l7] (.ref p :: st) v x := vE_s rfl rfl
theorem q57_1 : vE 57 1 [l0, l1, l2, .int a, l4, l5, l6, l7] st v x ↔ vE 57 2 [l0, l1, l2, .int a, l4, l5, l6, l7] (.int a :: st) v x := vE_s rfl rfl
theorem q57_2 : vE 57 2 [l0, l1, l2, l3, l4, l5, l6, l7] (w1 :: w0 :: st) v x ↔ ∃ y : vm_Y, vE 31 0 [w0, w1] [] v y ∧ vB 57 2 [l0, l1, l2, l3, l4, l5, l6, l7] st y x := vE_cv rfl rfl rfl rfl
theorem q57_5 : vE 57 5 [l0, l1, l2, l3, l4, l5, l6, l7] (.int a :: st) v x ↔ vE 57 7 [l0, l1, l2, l3, .int a, l5, l6, l7] st v x := vE_s rfl rfl
theorem q57_7 : vE 57 7 [l0, l1, l2, l3, l4, l5, l6, l7] st v x ↔ vE 57 8 [l0, l1, l2, l3, l4, l5, l6, l7] (.int 0 :: st) v x := vE_s rfl (by rfl)
theorem q57_8 : vE 57 8 [l0, l1, l2, l3, l4, l5, l6, l7] (.int a :: st) v x ↔ vE 57 10 [l0, l1, l2, l3, l4, .int a, l6, l7] st v x := vE_s rfl rfl
theorem q57_10 : vE 57 10 [l0, l1, l2, l3, l4, .int a, l6, l7] st v x ↔ vE 57 12 [l0, l1, l2, l3, l4, .int a, l6, l7] (.int a :: st) v x := vE_s rfl rfl
theorem q57_12 : vE 57 12 [l0, l1, l2, l3, .int a, l5, l6, l7] st v x ↔ vE 57 14 [l0, l1, l2, l3, .int a, l5, l6, l7] (.int a :: st) v x := vE_s rfl rfl
theorem q57_14 : vE 57 14 [l0, l1, l2, l3, l4, l5, l6, l7] (.int b :: .int a :: st) v x ↔ if b ≤ a then vE 57 92 [l0, l1, l2, l3, l4, l5, l6, l7] st v x else vE 57 17 [l0, l1, l2, l3, l4, l5, l6, l7] st v x := vE_if rfl rfl
theorem q57_17 : vE 57 17 [l0, .ref p, l2, l3, l4, l5, l6, l7] st v x ↔ vE 57 18 [l0, .ref p, l2, l3, l4, l5, l6, l7] (.ref p :: st) v x := vE_s rfl rfl
theorem q57_18 : vE 57 18 [l0, l1, l2, .int a, l4, l5, l6, l7] st v x ↔ vE 57 19 [l0, l1, l2, .int a, l4, l5, l6, l7] (.int a :: st) v x := vE_s rfl rfl
theorem q57_19 : vE 57 19 [l0, l1, l2, l3, l4, .int a, l6, l7] st v x ↔ vE 57 21 [l0, l1, l2, l3, l4, .int a, l6, l7] (.int a :: st) v x := vE_s rfl rfl
theorem q57_21 : vE 57 21 [l0, l1, l2, l3, l4, l5, l6, l7] st v x ↔ vE 57 22 [l0, l1, l2, l3, l4, l5, l6, l7] (.int 0 :: st) v x := vE_s rfl (by rfl)
theorem q57_22 : vE 57 22 [l0, l1, l2, l3, l4, l5, l6, l7] (w3 :: w2 :: w1 :: w0 :: st) v x ↔ ∃ y : vm_Y, vE 47 0 [w0, w1, w2, w3, .retAddr 0] [] v y ∧ vB 57 22 [l0, l1, l2, l3, l4, l5, l6, l7] st y x := vE_cv rfl rfl rfl rfl
theorem q57_25 : vE 57 25 [l0, l1, l2, l3, l4, l5, l6, l7] (.int a :: st) v x ↔ vE 57 27 [l0, l1, l2, l3, l4, l5, .int a, l7] st v x := vE_s rfl rfl
theorem q57_27 : vE 57 27 [l0, l1, l2, l3, l4, l5, .int a, l7] st v x ↔ vE 57 29 [l0, l1, l2, l3, l4, l5, .int a, l7] (.int a :: st) v x := vE_s rfl rfl
theorem q57_29 : vE 57 29 [l0, l1, l2, l3, l4, l5, l6, l7] st v x ↔ vE 57 31 [l0, l1, l2, l3, l4, l5, l6, l7] (.int 8 :: st) v x := vE_s rfl (by rfl)
theorem q57_31 : vE 57 31 [l0, l1, l2, l3, l4, l5, l6, l7] (.int b :: .int a :: st) v x ↔ if a = b then vE 57 42 [l0, l1, l2, l3, l4, l5, l6, l7] st v x else vE 57 34 [l0, l1, l2, l3, l4, l5, l6, l7] st v x := vE_if rfl rfl
theorem q57_34 : vE 57 34 [l0, l1, l2, l3, l4, l5, .int a, l7] st v x ↔ vE 57 36 [l0, l1, l2, l3, l4, l5, .int a, l7] (.int a :: st) v x := vE_s rfl rfl
theorem q57_36 : vE 57 36 [l0, l1, l2, l3, l4, l5, l6, l7] (w0 :: st) v x ↔ ∃ y : vm_Y, vE 51 0 [w0] [] v y ∧ vB 57 36 [l0, l1, l2, l3, l4, l5, l6, l7] st y x := vE_cs rfl rfl rfl rfl
theorem q57_39 : vE 57 39 [l0, l1, l2, l3, l4, l5, l6, l7] (.int a :: st) v x ↔ if a = 0 then vE 57 53 [l0, l1, l2, l3, l4, l5, l6, l7] st v x else vE 57 42 [l0, l1, l2, l3, l4, l5, l6, l7] st v x := vE_if rfl rfl
theorem q57_42 : vE 57 42 [.ref p, l1, l2, l3, l4, l5, l6, l7] st v x ↔ vE 57 43 [.ref p, l1, l2, l3, l4, l5, l6, l7] (.ref p :: st) v x := vE_s rfl rfl
theorem q57_43 : vE 57 43 [l0, .ref p, l2, l3, l4, l5, l6, l7] st v x ↔ vE 57 44 [l0, .ref p, l2, l3, l4, l5, l6, l7] (.ref p :: st) v x := vE_s rfl rfl
theorem q57_44 : vE 57 44 [l0, l1, l2, .int a, l4, l5, l6, l7] st v x ↔ vE 57 45 [l0, l1, l2, .int a, l4, l5, l6, l7] (.int a :: st) v x := vE_s rfl rfl
theorem q57_45 : vE 57 45 [l0, l1, l2, l3, l4, .int a, l6, l7] st v x ↔ vE 57 47 [l0, l1, l2, l3, l4, .int a, l6, l7] (.int a :: st) v x := vE_s rfl rfl
theorem q57_47 : vE 57 47 [l0, l1, l2, l3, l4, l5, l6, l7] (w3 :: w2 :: w1 :: w0 :: st) v x ↔ ∃ y : vm_Y, vE 58 0 [w0, w1, w2, w3, .retAddr 0] [] v y ∧ vB 57 47 [l0, l1, l2, l3, l4, l5, l6, l7] st y x := vE_cv rfl rfl rfl rfl
theorem q57_50 : vE 57 50 [l0, l1, l2, l3, l4, l5, l6, l7] st v x ↔ vE 57 54 [l0, l1, l2, l3, l4, l5, l6, l7] st v x := vE_s rfl rfl
theorem q57_53 : vE 57 53 [l0, l1, l2, l3, l4, l5, l6, l7] st v x ↔ vE 57 54 [l0, l1, l2, l3, l4, l5, l6, l7] (.int (-1) :: st) v x := vE_s rfl (by rfl)
theorem q57_54 : vE 57 54 [l0, l1, l2, l3, l4, l5, l6, l7] (.int a :: st) v x ↔ vE 57 56 [l0, l1, l2, l3, l4, l5, l6, .int a] st v x := vE_s rfl rfl
theorem q57_56 : vE 57 56 [l0, l1, l2, l3, l4, l5, l6, .int a] st v x ↔ vE 57 58 [l0, l1, l2, l3, l4, l5, l6, .int a] (.int a :: st) v x := vE_s rfl rfl
theorem q57_58 : vE 57 58 [l0, l1, l2, l3, l4, l5, l6, l7] (.int a :: st) v x ↔ if a < 0 then vE 57 86 [l0, l1, l2, l3, l4, l5, l6, l7] st v x else vE 57 61 [l0, l1, l2, l3, l4, l5, l6, l7] st v x := vE_if rfl rfl
theorem q57_61 : vE 57 61 [l0, l1, .ref p, l3, l4, l5, l6, l7] st v x ↔ vE 57 62 [l0, l1, .ref p, l3, l4, l5, l6, l7] (.ref p :: st) v x := vE_s rfl rfl
theorem q57_62 : vE 57 62 [l0, l1, l2, .int a, l4, l5, l6, l7] st v x ↔ vE 57 63 [l0, l1, l2, .int a, l4, l5, l6, l7] (.int a :: st) v x := vE_s rfl rfl
theorem q57_63 : vE 57 63 [l0, l1, l2, l3, l4, .int a, l6, l7] st v x ↔ vE 57 65 [l0, l1, l2, l3, l4, .int a, l6, l7] (.int a :: st) v x := vE_s rfl rfl
theorem q57_65 : vE 57 65 [l0, l1, l2, l3, l4, l5, l6, l7] st v x ↔ vE 57 66 [l0, l1, l2, l3, l4, l5, l6, l7] (.int 1 :: st) v x := vE_s rfl (by rfl)
theorem q57_66 : vE 57 66 [l0, .ref p, l2, l3, l4, l5, l6, l7] st v x ↔ vE 57 67 [l0, .ref p, l2, l3, l4, l5, l6, l7] (.ref p :: st) v x := vE_s rfl rfl
theorem q57_67 : vE 57 67 [l0, l1, l2, .int a, l4, l5, l6, l7] st v x ↔ vE 57 68 [l0, l1, l2, .int a, l4, l5, l6, l7] (.int a :: st) v x := vE_s rfl rfl
theorem q57_68 : vE 57 68 [l0, l1, l2, l3, l4, .int a, l6, l7] st v x ↔ vE 57 70 [l0, l1, l2, l3, l4, .int a, l6, l7] (.int a :: st) v x := vE_s rfl rfl
theorem q57_70 : vE 57 70 [l0, l1, l2, l3, l4, l5, l6, l7] st v x ↔ vE 57 71 [l0, l1, l2, l3, l4, l5, l6, l7] (.int 1 :: st) v x := vE_s rfl (by rfl)
theorem q57_71 : vE 57 71 [l0, l1, l2, l3, l4, l5, l6, l7] (w3 :: w2 :: w1 :: w0 :: st) v x ↔ ∃ y : vm_Y, vE 47 0 [w0, w1, w2, w3, .retAddr 0] [] v y ∧ vB 57 71 [l0, l1, l2, l3, l4, l5, l6, l7] st y x := vE_cv rfl rfl rfl rfl
theorem q57_74 : vE 57 74 [l0, .ref p, l2, l3, l4, l5, l6, l7] st v x ↔ vE 57 75 [l0, .ref p, l2, l3, l4, l5, l6, l7] (.ref p :: st) v x := vE_s rfl rfl
theorem q57_75 : vE 57 75 [l0, l1, l2, .int a, l4, l5, l6, l7] st v x ↔ vE 57 76 [l0, l1, l2, .int a, l4, l5, l6, l7] (.int a :: st) v x := vE_s rfl rfl
theorem q57_76 : vE 57 76 [l0, l1, l2, l3, l4, l5, l6, .int a] st v x ↔ vE 57 78 [l0, l1, l2, l3, l4, l5, l6, .int a] (.int a :: st) v x := vE_s rfl rfl
theorem q57_78 : vE 57 78 [l0, l1, l2, l3, l4, l5, l6, l7] st v x ↔ vE 57 79 [l0, l1, l2, l3, l4, l5, l6, l7] (.int 1 :: st) v x := vE_s rfl (by rfl)
theorem q57_79 : vE 57 79 [l0, l1, l2, l3, l4, l5, l6, l7] (w3 :: w2 :: w1 :: w0 :: st) v x ↔ ∃ y : vm_Y, vE 47 0 [w0, w1, w2, w3, .retAddr 0] [] v y ∧ vB 57 79 [l0, l1, l2, l3, l4, l5, l6, l7] st y x := vE_cv rfl rfl rfl rfl
theorem q57_82 : vE 57 82 [l0, l1, l2, l3, l4, l5, l6, l7] st v x ↔ vE 57 83 [l0, l1, l2, l3, l4, l5, l6, l7] (.int 0 :: st) v x := vE_s rfl (by rfl)
theorem q57_83 : vE 57 83 [l0, l1, l2, l3, l4, l5, l6, l7] (w6 :: w5 :: w4 :: w3 :: w2 :: w1 :: w0 :: st) v x ↔ ∃ y : vm_Y, vE 33 0 [w0, w1, w2, w3, w4, w5, w6, .retAddr 0] [] v y ∧ vB 57 83 [l0, l1, l2, l3, l4, l5, l6, l7] st y x := vE_cv rfl rfl rfl rfl
theorem q57_86 : vE 57 86 [l0, l1, l2, l3, l4, .int a, l6, l7] st v x ↔ vE 57 89 [l0, l1, l2, l3, l4, .int (a + 1), l6, l7] st v x := vE_s rfl rfl
theorem q57_89 : vE 57 89 [l0, l1, l2, l3, l4, l5, l6, l7] st v x ↔ vE 57 10 [l0, l1, l2, l3, l4, l5, l6, l7] st v x := vE_s rfl rfl
theorem q57_92 : vE 57 92 [l0, l1, l2, l3, l4, l5, l6, l7] [] v x ↔ x = vd v := vE_vr rfl
theorem qt57 {X pc : Nat} {L r : List Value} : vB 57 pc L r (vt X v) x ↔ x = vt X v := vB_t rfl
/-! 58 PassChecker$Reuser.findEarlier(LPassChecker$Program;II)I -/
theorem q58_0 : vE 58 0 [l0, l1, l2, l3, l4] st v x ↔ vE 58 1 [l0, l1, l2, l3, l4] (.int 0 :: st) v x := vE_s rfl (by rfl)
theorem q58_1 : vE 58 1 [l0, l1, l2, l3, l4] (.int a :: st) v x ↔ vE 58 3 [l0, l1, l2, l3, .int a] st v x := vE_s rfl rfl
theorem q58_3 : vE 58 3 [l0, l1, l2, l3, .int a] st v x ↔ vE 58 5 [l0, l1, l2, l3, .int a] (.int a :: st) v x := vE_s rfl rfl
theorem q58_5 : vE 58 5 [l0, l1, l2, .int a, l4] st v x ↔ vE 58 6 [l0, l1, l2, .int a, l4] (.int a :: st) v x := vE_s rfl rfl
theorem q58_6 : vE 58 6 [l0, l1, l2, l3, l4] (.int b :: .int a :: st) v x ↔ if b ≤ a then vE 58 42 [l0, l1, l2, l3, l4] st v x else vE 58 9 [l0, l1, l2, l3, l4] st v x := vE_if rfl rfl
theorem q58_9 : vE 58 9 [.ref p, l1, l2, l3, l4] st v x ↔ vE 58 10 [.ref p, l1, l2, l3, l4] (.ref p :: st) v x := vE_s rfl rfl
theorem q58_10 : vE 58 10 [l0, .ref p, l2, l3, l4] st v x ↔ vE 58 11 [l0, .ref p, l2, l3, l4] (.ref p :: st) v x := vE_s rfl rfl
theorem q58_11 : vE 58 11 [l0, l1, .int a, l3, l4] st v x ↔ vE 58 12 [l0, l1, .int a, l3, l4] (.int a :: st) v x := vE_s rfl rfl
theorem q58_12 : vE 58 12 [l0, l1, l2, l3, .int a] st v x ↔ vE 58 14 [l0, l1, l2, l3, .int a] (.int a :: st) v x := vE_s rfl rfl
theorem q58_14 : vE 58 14 [l0, l1, l2, .int a, l4] st v x ↔ vE 58 15 [l0, l1, l2, .int a, l4] (.int a :: st) v x := vE_s rfl rfl
theorem q58_15 : vE 58 15 [l0, l1, l2, l3, l4] (w4 :: w3 :: w2 :: w1 :: w0 :: st) v x ↔ ∃ y : vm_Y, vE 59 0 [w0, w1, w2, w3, w4] [] v y ∧ vB 58 15 [l0, l1, l2, l3, l4] st y x := vE_cv rfl rfl rfl rfl
theorem q58_18 : vE 58 18 [l0, l1, l2, l3, l4] (.int a :: st) v x ↔ if a = 0 then vE 58 36 [l0, l1, l2, l3, l4] st v x else vE 58 21 [l0, l1, l2, l3, l4] st v x := vE_if rfl rfl
theorem q58_21 : vE 58 21 [.ref p, l1, l2, l3, l4] st v x ↔ vE 58 22 [.ref p, l1, l2, l3, l4] (.ref p :: st) v x := vE_s rfl rfl
theorem q58_22 : vE 58 22 [l0, .ref p, l2, l3, l4] st v x ↔ vE 58 23 [l0, .ref p, l2, l3, l4] (.ref p :: st) v x := vE_s rfl rfl
theorem q58_23 : vE 58 23 [l0, l1, .int a, l3, l4] st v x ↔ vE 58 24 [l0, l1, .int a, l3, l4] (.int a :: st) v x := vE_s rfl rfl
theorem q58_24 : vE 58 24 [l0, l1, l2, l3, .int a] st v x ↔ vE 58 26 [l0, l1, l2, l3, .int a] (.int a :: st) v x := vE_s rfl rfl
theorem q58_26 : vE 58 26 [l0, l1, l2, .int a, l4] st v x ↔ vE 58 27 [l0, l1, l2, .int a, l4] (.int a :: st) v x := vE_s rfl rfl
theorem q58_27 : vE 58 27 [l0, l1, l2, l3, l4] (w4 :: w3 :: w2 :: w1 :: w0 :: st) v x ↔ ∃ y : vm_Y, vE 60 0 [w0, w1, w2, w3, w4, .retAddr 0, .retAddr 0, .retAddr 0, .retAddr 0] [] v y ∧ vB 58 27 [l0, l1, l2, l3, l4] st y x := vE_cv rfl rfl rfl rfl
theorem q58_30 : vE 58 30 [l0, l1, l2, l3, l4] (.int a :: st) v x ↔ if a = 0 then vE 58 36 [l0, l1, l2, l3, l4] st v x else vE 58 33 [l0, l1, l2, l3, l4] st v x := vE_if rfl rfl
theorem q58_33 : vE 58 33 [l0, l1, l2, l3, .int a] st v x ↔ vE 58 35 [l0, l1, l2, l3, .int a] (.int a :: st) v x := vE_s rfl rfl
theorem q58_35 : vE 58 35 [l0, l1, l2, l3, l4] ([.int a]) v x ↔ x = vr a v := vE_ir rfl
theorem q58_36 : vE 58 36 [l0, l1, l2, l3, .int a] st v x ↔ vE 58 39 [l0, l1, l2, l3, .int (a + 1)] st v x := vE_s rfl rfl
theorem q58_39 : vE 58 39 [l0, l1, l2, l3, l4] st v x ↔ vE 58 3 [l0, l1, l2, l3, l4] st v x := vE_s rfl rfl
theorem q58_42 : vE 58 42 [l0, l1, l2, l3, l4] st v x ↔ vE 58 43 [l0, l1, l2, l3, l4] (.int (-1) :: st) v x := vE_s rfl (by rfl)
theorem q58_43 : vE 58 43 [l0, l1, l2, l3, l4] ([.int a]) v x ↔ x = vr a v := vE_ir rfl
theorem qt58 {X pc : Nat} {L r : List Value} : vB 58 pc L r (vt X v) x ↔ x = vt X v := vB_t rfl
/-! 59 PassChecker$Reuser.isSameWork(LPassChecker$Program;III)Z -/
theorem q59_0 : vE 59 0 [l0, .ref p, l2, l3, l4] st v x ↔ vE 59 1 [l0, .ref p, l2, l3, l4] (.ref p :: st) v x := vE_s rfl rfl
theorem q59_1 : vE 59 1 [l0, l1, .int a, l3, l4] st v x ↔ vE 59 2 [l0, l1, .int a, l3, l4] (.int a :: st) v x := vE_s rfl rfl
theorem q59_2 : vE 59 2 [l0, l1, l2, .int a, l4] st v x ↔ vE 59 3 [l0, l1, l2, .int a, l4] (.int a :: st) v x := vE_s rfl rfl
theorem q59_3 : vE 59 3 [l0, l1, l2, l3, l4] st v x ↔ vE 59 4 [l0, l1, l2, l3, l4] (.int 0 :: st) v x := vE_s rfl (by rfl)
theorem q59_4 : vE 59 4 [l0, l1, l2, l3, l4] (w3 :: w2 :: w1 :: w0 :: st) v x ↔ ∃ y : vm_Y, vE 47 0 [w0, w1, w2, w3, .retAddr 0] [] v y ∧ vB 59 4 [l0, l1, l2, l3, l4] st y x := vE_cv rfl rfl rfl rfl
theorem q59_7 : vE 59 7 [l0, .ref p, l2, l3, l4] st v x ↔ vE 59 8 [l0, .ref p, l2, l3, l4] (.ref p :: st) v x := vE_s rfl rfl
theorem q59_8 : vE 59 8 [l0, l1, .int a, l3, l4] st v x ↔ vE 59 9 [l0, l1, .int a, l3, l4] (.int a :: st) v x := vE_s rfl rfl
theorem q59_9 : vE 59 9 [l0, l1, l2, l3, .int a] st v x ↔ vE 59 11 [l0, l1, l2, l3, .int a] (.int a :: st) v x := vE_s rfl rfl
theorem q59_11 : vE 59 11 [l0, l1, l2, l3, l4] st v x ↔ vE 59 12 [l0, l1, l2, l3, l4] (.int 0 :: st) v x := vE_s rfl (by rfl)
theorem q59_12 : vE 59 12 [l0, l1, l2, l3, l4] (w3 :: w2 :: w1 :: w0 :: st) v x ↔ ∃ y : vm_Y, vE 47 0 [w0, w1, w2, w3, .retAddr 0] [] v y ∧ vB 59 12 [l0, l1, l2, l3, l4] st y x := vE_cv rfl rfl rfl rfl
theorem q59_15 : vE 59 15 [l0, l1, l2, l3, l4] (.int b :: .int a :: st) v x ↔ if a = b then vE 59 18 [l0, l1, l2, l3, l4] st v x else vE 59 58 [l0, l1, l2, l3, l4] st v x := vE_if rfl rfl
theorem q59_18 : vE 59 18 [l0, .ref p, l2, l3, l4] st v x ↔ vE 59 19 [l0, .ref p, l2, l3, l4] (.ref p :: st) v x := vE_s rfl rfl
theorem q59_19 : vE 59 19 [l0, l1, .int a, l3, l4] st v x ↔ vE 59 20 [l0, l1, .int a, l3, l4] (.int a :: st) v x := vE_s rfl rfl
theorem q59_20 : vE 59 20 [l0, l1, l2, .int a, l4] st v x ↔ vE 59 21 [l0, l1, l2, .int a, l4] (.int a :: st) v x := vE_s rfl rfl
theorem q59_21 : vE 59 21 [l0, l1, l2, l3, l4] st v x ↔ vE 59 22 [l0, l1, l2, l3, l4] (.int 2 :: st) v x := vE_s rfl (by rfl)
theorem q59_22 : vE 59 22 [l0, l1, l2, l3, l4] (w3 :: w2 :: w1 :: w0 :: st) v x ↔ ∃ y : vm_Y, vE 47 0 [w0, w1, w2, w3, .retAddr 0] [] v y ∧ vB 59 22 [l0, l1, l2, l3, l4] st y x := vE_cv rfl rfl rfl rfl
theorem q59_25 : vE 59 25 [l0, .ref p, l2, l3, l4] st v x ↔ vE 59 26 [l0, .ref p, l2, l3, l4] (.ref p :: st) v x := vE_s rfl rfl
theorem q59_26 : vE 59 26 [l0, l1, .int a, l3, l4] st v x ↔ vE 59 27 [l0, l1, .int a, l3, l4] (.int a :: st) v x := vE_s rfl rfl
theorem q59_27 : vE 59 27 [l0, l1, l2, l3, .int a] st v x ↔ vE 59 29 [l0, l1, l2, l3, .int a] (.int a :: st) v x := vE_s rfl rfl
theorem q59_29 : vE 59 29 [l0, l1, l2, l3, l4] st v x ↔ vE 59 30 [l0, l1, l2, l3, l4] (.int 2 :: st) v x := vE_s rfl (by rfl)
theorem q59_30 : vE 59 30 [l0, l1, l2, l3, l4] (w3 :: w2 :: w1 :: w0 :: st) v x ↔ ∃ y : vm_Y, vE 47 0 [w0, w1, w2, w3, .retAddr 0] [] v y ∧ vB 59 30 [l0, l1, l2, l3, l4] st y x := vE_cv rfl rfl rfl rfl
theorem q59_33 : vE 59 33 [l0, l1, l2, l3, l4] (.int b :: .int a :: st) v x ↔ if a = b then vE 59 36 [l0, l1, l2, l3, l4] st v x else vE 59 58 [l0, l1, l2, l3, l4] st v x := vE_if rfl rfl
theorem q59_36 : vE 59 36 [l0, .ref p, l2, l3, l4] st v x ↔ vE 59 37 [l0, .ref p, l2, l3, l4] (.ref p :: st) v x := vE_s rfl rfl
theorem q59_37 : vE 59 37 [l0, l1, .int a, l3, l4] st v x ↔ vE 59 38 [l0, l1, .int a, l3, l4] (.int a :: st) v x := vE_s rfl rfl
theorem q59_38 : vE 59 38 [l0, l1, l2, .int a, l4] st v x ↔ vE 59 39 [l0, l1, l2, .int a, l4] (.int a :: st) v x := vE_s rfl rfl
theorem q59_39 : vE 59 39 [l0, l1, l2, l3, l4] st v x ↔ vE 59 40 [l0, l1, l2, l3, l4] (.int 3 :: st) v x := vE_s rfl (by rfl)
theorem q59_40 : vE 59 40 [l0, l1, l2, l3, l4] (w3 :: w2 :: w1 :: w0 :: st) v x ↔ ∃ y : vm_Y, vE 47 0 [w0, w1, w2, w3, .retAddr 0] [] v y ∧ vB 59 40 [l0, l1, l2, l3, l4] st y x := vE_cv rfl rfl rfl rfl
theorem q59_43 : vE 59 43 [l0, .ref p, l2, l3, l4] st v x ↔ vE 59 44 [l0, .ref p, l2, l3, l4] (.ref p :: st) v x := vE_s rfl rfl
theorem q59_44 : vE 59 44 [l0, l1, .int a, l3, l4] st v x ↔ vE 59 45 [l0, l1, .int a, l3, l4] (.int a :: st) v x := vE_s rfl rfl
theorem q59_45 : vE 59 45 [l0, l1, l2, l3, .int a] st v x ↔ vE 59 47 [l0, l1, l2, l3, .int a] (.int a :: st) v x := vE_s rfl rfl
theorem q59_47 : vE 59 47 [l0, l1, l2, l3, l4] st v x ↔ vE 59 48 [l0, l1, l2, l3, l4] (.int 3 :: st) v x := vE_s rfl (by rfl)
theorem q59_48 : vE 59 48 [l0, l1, l2, l3, l4] (w3 :: w2 :: w1 :: w0 :: st) v x ↔ ∃ y : vm_Y, vE 47 0 [w0, w1, w2, w3, .retAddr 0] [] v y ∧ vB 59 48 [l0, l1, l2, l3, l4] st y x := vE_cv rfl rfl rfl rfl
theorem q59_51 : vE 59 51 [l0, l1, l2, l3, l4] (.int b :: .int a :: st) v x ↔ if a = b then vE 59 54 [l0, l1, l2, l3, l4] st v x else vE 59 58 [l0, l1, l2, l3, l4] st v x := vE_if rfl rfl
theorem q59_54 : vE 59 54 [l0, l1, l2, l3, l4] st v x ↔ vE 59 55 [l0, l1, l2, l3, l4] (.int 1 :: st) v x := vE_s rfl (by rfl)
theorem q59_55 : vE 59 55 [l0, l1, l2, l3, l4] st v x ↔ vE 59 59 [l0, l1, l2, l3, l4] st v x := vE_s rfl rfl
theorem q59_58 : vE 59 58 [l0, l1, l2, l3, l4] st v x ↔ vE 59 59 [l0, l1, l2, l3, l4] (.int 0 :: st) v x := vE_s rfl (by rfl)
theorem q59_59 : vE 59 59 [l0, l1, l2, l3, l4] ([.int a]) v x ↔ x = vr a v := vE_ir rfl
theorem qt59 {X pc : Nat} {L r : List Value} : vB 59 pc L r (vt X v) x ↔ x = vt X v := vB_t rfl
/-! 60 PassChecker$Reuser.stillHolds(LPassChecker$Program;III)Z -/
theorem q60_0 : vE 60 0 [l0, .ref p, l2, l3, l4, l5, l6, l7, l8] st v x ↔ vE 60 1 [l0, .ref p, l2, l3, l4, l5, l6, l7, l8] (.ref p :: st) v x := vE_s rfl rfl
theorem q60_1 : vE 60 1 [l0, l1, .int a, l3, l4, l5, l6, l7, l8] st v x ↔ vE 60 2 [l0, l1, .int a, l3, l4, l5, l6, l7, l8] (.int a :: st) v x := vE_s rfl rfl
theorem q60_2 : vE 60 2 [l0, l1, l2, .int a, l4, l5, l6, l7, l8] st v x ↔ vE 60 3 [l0, l1, l2, .int a, l4, l5, l6, l7, l8] (.int a :: st) v x := vE_s rfl rfl
theorem q60_3 : vE 60 3 [l0, l1, l2, l3, l4, l5, l6, l7, l8] st v x ↔ vE 60 4 [l0, l1, l2, l3, l4, l5, l6, l7, l8] (.int 1 :: st) v x := vE_s rfl (by rfl)
theorem q60_4 : vE 60 4 [l0, l1, l2, l3, l4, l5, l6, l7, l8] (w3 :: w2 :: w1 :: w0 :: st) v x ↔ ∃ y : vm_Y, vE 47 0 [w0, w1, w2, w3, .retAddr 0] [] v y ∧ vB 60 4 [l0, l1, l2, l3, l4, l5, l6, l7, l8] st y x := vE_cv rfl rfl rfl rfl
theorem q60_7 : vE 60 7 [l0, l1, l2, l3, l4, l5, l6, l7, l8] (.int a :: st) v x ↔ vE 60 9 [l0, l1, l2, l3, l4, .int a, l6, l7, l8] st v x := vE_s rfl rfl
theorem q60_9 : vE 60 9 [l0, .ref p, l2, l3, l4, l5, l6, l7, l8] st v x ↔ vE 60 10 [l0, .ref p, l2, l3, l4, l5, l6, l7, l8] (.ref p :: st) v x := vE_s rfl rfl
theorem q60_10 : vE 60 10 [l0, l1, .int a, l3, l4, l5, l6, l7, l8] st v x ↔ vE 60 11 [l0, l1, .int a, l3, l4, l5, l6, l7, l8] (.int a :: st) v x := vE_s rfl rfl
theorem q60_11 : vE 60 11 [l0, l1, l2, .int a, l4, l5, l6, l7, l8] st v x ↔ vE 60 12 [l0, l1, l2, .int a, l4, l5, l6, l7, l8] (.int a :: st) v x := vE_s rfl rfl
theorem q60_12 : vE 60 12 [l0, l1, l2, l3, l4, .int a, l6, l7, l8] st v x ↔ vE 60 14 [l0, l1, l2, l3, l4, .int a, l6, l7, l8] (.int a :: st) v x := vE_s rfl rfl
theorem q60_14 : vE 60 14 [l0, l1, l2, l3, l4, l5, l6, l7, l8] (w3 :: w2 :: w1 :: w0 :: st) v x ↔ ∃ y : vm_Y, vE 61 0 [w0, w1, w2, w3, .retAddr 0] [] v y ∧ vB 60 14 [l0, l1, l2, l3, l4, l5, l6, l7, l8] st y x := vE_cv rfl rfl rfl rfl
theorem q60_17 : vE 60 17 [l0, l1, l2, l3, l4, l5, l6, l7, l8] (.int a :: st) v x ↔ if a = 0 then vE 60 22 [l0, l1, l2, l3, l4, l5, l6, l7, l8] st v x else vE 60 20 [l0, l1, l2, l3, l4, l5, l6, l7, l8] st v x := vE_if rfl rfl
theorem q60_20 : vE 60 20 [l0, l1, l2, l3, l4, l5, l6, l7, l8] st v x ↔ vE 60 21 [l0, l1, l2, l3, l4, l5, l6, l7, l8] (.int 0 :: st) v x := vE_s rfl (by rfl)
theorem q60_21 : vE 60 21 [l0, l1, l2, l3, l4, l5, l6, l7, l8] ([.int a]) v x ↔ x = vr a v := vE_ir rfl
theorem q60_22 : vE 60 22 [l0, .ref p, l2, l3, l4, l5, l6, l7, l8] st v x ↔ vE 60 23 [l0, .ref p, l2, l3, l4, l5, l6, l7, l8] (.ref p :: st) v x := vE_s rfl rfl
theorem q60_23 : vE 60 23 [l0, l1, .int a, l3, l4, l5, l6, l7, l8] st v x ↔ vE 60 24 [l0, l1, .int a, l3, l4, l5, l6, l7, l8] (.int a :: st) v x := vE_s rfl rfl
theorem q60_24 : vE 60 24 [l0, l1, l2, .int a, l4, l5, l6, l7, l8] st v x ↔ vE 60 25 [l0, l1, l2, .int a, l4, l5, l6, l7, l8] (.int a :: st) v x := vE_s rfl rfl
theorem q60_25 : vE 60 25 [l0, l1, l2, l3, l4, l5, l6, l7, l8] st v x ↔ vE 60 26 [l0, l1, l2, l3, l4, l5, l6, l7, l8] (.int 0 :: st) v x := vE_s rfl (by rfl)
theorem q60_26 : vE 60 26 [l0, l1, l2, l3, l4, l5, l6, l7, l8] (w3 :: w2 :: w1 :: w0 :: st) v x ↔ ∃ y : vm_Y, vE 47 0 [w0, w1, w2, w3, .retAddr 0] [] v y ∧ vB 60 26 [l0, l1, l2, l3, l4, l5, l6, l7, l8] st y x := vE_cv rfl rfl rfl rfl
theorem q60_29 : vE 60 29 [l0, l1, l2, l3, l4, l5, l6, l7, l8] st v x ↔ vE 60 31 [l0, l1, l2, l3, l4, l5, l6, l7, l8] (.int 8 :: st) v x := vE_s rfl (by rfl)
theorem q60_31 : vE 60 31 [l0, l1, l2, l3, l4, l5, l6, l7, l8] (.int b :: .int a :: st) v x ↔ if a = b then vE 60 34 [l0, l1, l2, l3, l4, l5, l6, l7, l8] st v x else vE 60 38 [l0, l1, l2, l3, l4, l5, l6, l7, l8] st v x := vE_if rfl rfl
theorem q60_34 : vE 60 34 [l0, l1, l2, l3, l4, l5, l6, l7, l8] st v x ↔ vE 60 35 [l0, l1, l2, l3, l4, l5, l6, l7, l8] (.int 1 :: st) v x := vE_s rfl (by rfl)
theorem q60_35 : vE 60 35 [l0, l1, l2, l3, l4, l5, l6, l7, l8] st v x ↔ vE 60 39 [l0, l1, l2, l3, l4, l5, l6, l7, l8] st v x := vE_s rfl rfl
theorem q60_38 : vE 60 38 [l0, l1, l2, l3, l4, l5, l6, l7, l8] st v x ↔ vE 60 39 [l0, l1, l2, l3, l4, l5, l6, l7, l8] (.int 0 :: st) v x := vE_s rfl (by rfl)
theorem q60_39 : vE 60 39 [l0, l1, l2, l3, l4, l5, l6, l7, l8] (.int a :: st) v x ↔ vE 60 41 [l0, l1, l2, l3, l4, l5, .int a, l7, l8] st v x := vE_s rfl rfl
theorem q60_41 : vE 60 41 [l0, l1, l2, .int a, l4, l5, l6, l7, l8] st v x ↔ vE 60 42 [l0, l1, l2, .int a, l4, l5, l6, l7, l8] (.int a :: st) v x := vE_s rfl rfl
theorem q60_42 : vE 60 42 [l0, l1, l2, l3, l4, l5, l6, l7, l8] st v x ↔ vE 60 43 [l0, l1, l2, l3, l4, l5, l6, l7, l8] (.int 1 :: st) v x := vE_s rfl (by rfl)
theorem q60_43 : vE 60 43 [l0, l1, l2, l3, l4, l5, l6, l7, l8] (.int b :: .int a :: st) v x ↔ vE 60 44 [l0, l1, l2, l3, l4, l5, l6, l7, l8] (.int (a + b) :: st) v x := vE_s rfl rfl
theorem q60_44 : vE 60 44 [l0, l1, l2, l3, l4, l5, l6, l7, l8] (.int a :: st) v x ↔ vE 60 46 [l0, l1, l2, l3, l4, l5, l6, .int a, l8] st v x := vE_s rfl rfl
theorem q60_46 : vE 60 46 [l0, l1, l2, l3, l4, l5, l6, .int a, l8] st v x ↔ vE 60 48 [l0, l1, l2, l3, l4, l5, l6, .int a, l8] (.int a :: st) v x := vE_s rfl rfl
theorem q60_48 : vE 60 48 [l0, l1, l2, l3, .int a, l5, l6, l7, l8] st v x ↔ vE 60 50 [l0, l1, l2, l3, .int a, l5, l6, l7, l8] (.int a :: st) v x := vE_s rfl rfl
theorem q60_50 : vE 60 50 [l0, l1, l2, l3, l4, l5, l6, l7, l8] (.int b :: .int a :: st) v x ↔ if b ≤ a then vE 60 108 [l0, l1, l2, l3, l4, l5, l6, l7, l8] st v x else vE 60 53 [l0, l1, l2, l3, l4, l5, l6, l7, l8] st v x := vE_if rfl rfl
theorem q60_53 : vE 60 53 [l0, .ref p, l2, l3, l4, l5, l6, l7, l8] st v x ↔ vE 60 54 [l0, .ref p, l2, l3, l4, l5, l6, l7, l8] (.ref p :: st) v x := vE_s rfl rfl
theorem q60_54 : vE 60 54 [l0, l1, .int a, l3, l4, l5, l6, l7, l8] st v x ↔ vE 60 55 [l0, l1, .int a, l3, l4, l5, l6, l7, l8] (.int a :: st) v x := vE_s rfl rfl
theorem q60_55 : vE 60 55 [l0, l1, l2, l3, l4, l5, l6, .int a, l8] st v x ↔ vE 60 57 [l0, l1, l2, l3, l4, l5, l6, .int a, l8] (.int a :: st) v x := vE_s rfl rfl
theorem q60_57 : vE 60 57 [l0, l1, l2, l3, l4, l5, l6, l7, l8] (w2 :: w1 :: w0 :: st) v x ↔ ∃ y : vm_Y, vE 62 0 [w0, w1, w2] [] v y ∧ vB 60 57 [l0, l1, l2, l3, l4, l5, l6, l7, l8] st y x := vE_cv rfl rfl rfl rfl
theorem q60_60 : vE 60 60 [l0, l1, l2, l3, l4, l5, l6, l7, l8] (.int a :: st) v x ↔ vE 60 62 [l0, l1, l2, l3, l4, l5, l6, l7, .int a] st v x := vE_s rfl rfl
theorem q60_62 : vE 60 62 [l0, l1, l2, l3, l4, l5, .int a, l7, l8] st v x ↔ vE 60 64 [l0, l1, l2, l3, l4, l5, .int a, l7, l8] (.int a :: st) v x := vE_s rfl rfl
theorem q60_64 : vE 60 64 [l0, l1, l2, l3, l4, l5, l6, l7, l8] (.int a :: st) v x ↔ if a = 0 then vE 60 82 [l0, l1, l2, l3, l4, l5, l6, l7, l8] st v x else vE 60 67 [l0, l1, l2, l3, l4, l5, l6, l7, l8] st v x := vE_if rfl rfl
theorem q60_67 : vE 60 67 [l0, .ref p, l2, l3, l4, l5, l6, l7, l8] st v x ↔ vE 60 68 [l0, .ref p, l2, l3, l4, l5, l6, l7, l8] (.ref p :: st) v x := vE_s rfl rfl
theorem q60_68 : vE 60 68 [l0, l1, .int a, l3, l4, l5, l6, l7, l8] st v x ↔ vE 60 69 [l0, l1, .int a, l3, l4, l5, l6, l7, l8] (.int a :: st) v x := vE_s rfl rfl
theorem q60_69 : vE 60 69 [l0, l1, l2, l3, l4, l5, l6, .int a, l8] st v x ↔ vE 60 71 [l0, l1, l2, l3, l4, l5, l6, .int a, l8] (.int a :: st) v x := vE_s rfl rfl
theorem q60_71 : vE 60 71 [l0, l1, l2, l3, l4, l5, l6, l7, l8] st v x ↔ vE 60 72 [l0, l1, l2, l3, l4, l5, l6, l7, l8] (.int 0 :: st) v x := vE_s rfl (by rfl)
theorem q60_72 : vE 60 72 [l0, l1, l2, l3, l4, l5, l6, l7, l8] (w3 :: w2 :: w1 :: w0 :: st) v x ↔ ∃ y : vm_Y, vE 47 0 [w0, w1, w2, w3, .retAddr 0] [] v y ∧ vB 60 72 [l0, l1, l2, l3, l4, l5, l6, l7, l8] st y x := vE_cv rfl rfl rfl rfl
theorem q60_75 : vE 60 75 [l0, l1, l2, l3, l4, l5, l6, l7, l8] st v x ↔ vE 60 77 [l0, l1, l2, l3, l4, l5, l6, l7, l8] (.int 9 :: st) v x := vE_s rfl (by rfl)
theorem q60_77 : vE 60 77 [l0, l1, l2, l3, l4, l5, l6, l7, l8] (.int b :: .int a :: st) v x ↔ if a = b then vE 60 80 [l0, l1, l2, l3, l4, l5, l6, l7, l8] st v x else vE 60 82 [l0, l1, l2, l3, l4, l5, l6, l7, l8] st v x := vE_if rfl rfl
theorem q60_80 : vE 60 80 [l0, l1, l2, l3, l4, l5, l6, l7, l8] st v x ↔ vE 60 81 [l0, l1, l2, l3, l4, l5, l6, l7, l8] (.int 0 :: st) v x := vE_s rfl (by rfl)
theorem q60_81 : vE 60 81 [l0, l1, l2, l3, l4, l5, l6, l7, l8] ([.int a]) v x ↔ x = vr a v := vE_ir rfl
theorem q60_82 : vE 60 82 [l0, l1, l2, l3, l4, l5, l6, l7, .int a] st v x ↔ vE 60 84 [l0, l1, l2, l3, l4, l5, l6, l7, .int a] (.int a :: st) v x := vE_s rfl rfl
theorem q60_84 : vE 60 84 [l0, l1, l2, l3, l4, .int a, l6, l7, l8] st v x ↔ vE 60 86 [l0, l1, l2, l3, l4, .int a, l6, l7, l8] (.int a :: st) v x := vE_s rfl rfl
theorem q60_86 : vE 60 86 [l0, l1, l2, l3, l4, l5, l6, l7, l8] (.int b :: .int a :: st) v x ↔ if a = b then vE 60 100 [l0, l1, l2, l3, l4, l5, l6, l7, l8] st v x else vE 60 89 [l0, l1, l2, l3, l4, l5, l6, l7, l8] st v x := vE_if rfl rfl
theorem q60_89 : vE 60 89 [l0, .ref p, l2, l3, l4, l5, l6, l7, l8] st v x ↔ vE 60 90 [l0, .ref p, l2, l3, l4, l5, l6, l7, l8] (.ref p :: st) v x := vE_s rfl rfl
theorem q60_90 : vE 60 90 [l0, l1, .int a, l3, l4, l5, l6, l7, l8] st v x ↔ vE 60 91 [l0, l1, .int a, l3, l4, l5, l6, l7, l8] (.int a :: st) v x := vE_s rfl rfl
theorem q60_91 : vE 60 91 [l0, l1, l2, .int a, l4, l5, l6, l7, l8] st v x ↔ vE 60 92 [l0, l1, l2, .int a, l4, l5, l6, l7, l8] (.int a :: st) v x := vE_s rfl rfl
theorem q60_92 : vE 60 92 [l0, l1, l2, l3, l4, l5, l6, l7, .int a] st v x ↔ vE 60 94 [l0, l1, l2, l3, l4, l5, l6, l7, .int a] (.int a :: st) v x := vE_s rfl rfl
theorem q60_94 : vE 60 94 [l0, l1, l2, l3, l4, l5, l6, l7, l8] (w3 :: w2 :: w1 :: w0 :: st) v x ↔ ∃ y : vm_Y, vE 61 0 [w0, w1, w2, w3, .retAddr 0] [] v y ∧ vB 60 94 [l0, l1, l2, l3, l4, l5, l6, l7, l8] st y x := vE_cv rfl rfl rfl rfl
theorem q60_97 : vE 60 97 [l0, l1, l2, l3, l4, l5, l6, l7, l8] (.int a :: st) v x ↔ if a = 0 then vE 60 102 [l0, l1, l2, l3, l4, l5, l6, l7, l8] st v x else vE 60 100 [l0, l1, l2, l3, l4, l5, l6, l7, l8] st v x := vE_if rfl rfl
theorem q60_100 : vE 60 100 [l0, l1, l2, l3, l4, l5, l6, l7, l8] st v x ↔ vE 60 101 [l0, l1, l2, l3, l4, l5, l6, l7, l8] (.int 0 :: st) v x := vE_s rfl (by rfl)
theorem q60_101 : vE 60 101 [l0, l1, l2, l3, l4, l5, l6, l7, l8] ([.int a]) v x ↔ x = vr a v := vE_ir rfl
theorem q60_102 : vE 60 102 [l0, l1, l2, l3, l4, l5, l6, .int a, l8] st v x ↔ vE 60 105 [l0, l1, l2, l3, l4, l5, l6, .int (a + 1), l8] st v x := vE_s rfl rfl
theorem q60_105 : vE 60 105 [l0, l1, l2, l3, l4, l5, l6, l7, l8] st v x ↔ vE 60 46 [l0, l1, l2, l3, l4, l5, l6, l7, l8] st v x := vE_s rfl rfl
theorem q60_108 : vE 60 108 [l0, l1, l2, l3, l4, l5, l6, l7, l8] st v x ↔ vE 60 109 [l0, l1, l2, l3, l4, l5, l6, l7, l8] (.int 1 :: st) v x := vE_s rfl (by rfl)
theorem q60_109 : vE 60 109 [l0, l1, l2, l3, l4, l5, l6, l7, l8] ([.int a]) v x ↔ x = vr a v := vE_ir rfl
theorem qt60 {X pc : Nat} {L r : List Value} : vB 60 pc L r (vt X v) x ↔ x = vt X v := vB_t rfl
/-! 63 PassChecker$Orderer.orderBlock(LPassChecker$Program;LPassChecker$Program;I)V -/
theorem q63_0 : vE 63 0 [l0, .ref p, l2, l3, l4, l5, l6] st v x ↔ vE 63 1 [l0, .ref p, l2, l3, l4, l5, l6] (.ref p :: st) v x := vE_s rfl rfl
theorem q63_1 : vE 63 1 [l0, l1, l2, .int a, l4, l5, l6] st v x ↔ vE 63 2 [l0, l1, l2, .int a, l4, l5, l6] (.int a :: st) v x := vE_s rfl rfl
theorem q63_2 : vE 63 2 [l0, l1, l2, l3, l4, l5, l6] (w1 :: w0 :: st) v x ↔ ∃ y : vm_Y, vE 31 0 [w0, w1] [] v y ∧ vB 63 2 [l0, l1, l2, l3, l4, l5, l6] st y x := vE_cv rfl rfl rfl rfl
theorem q63_5 : vE 63 5 [l0, l1, l2, l3, l4, l5, l6] st v x ↔ vE 63 7 [l0, l1, l2, l3, l4, l5, l6] (.int 8 :: st) v x := vE_s rfl (by rfl)
theorem q63_7 : vE 63 7 [l0, l1, l2, l3, l4, l5, l6] (w1 :: w0 :: st) v x ↔ ∃ y : vm_Y, vE 64 0 [w0, w1] [] v y ∧ vB 63 7 [l0, l1, l2, l3, l4, l5, l6] st y x := vE_cs rfl rfl rfl rfl
theorem q63_10 : vE 63 10 [l0, l1, l2, l3, l4, l5, l6] (.int a :: st) v x ↔ vE 63 12 [l0, l1, l2, l3, .int a, l5, l6] st v x := vE_s rfl rfl
theorem q63_12 : vE 63 12 [l0, l1, l2, l3, .int a, l5, l6] st v x ↔ vE 63 14 [l0, l1, l2, l3, .int a, l5, l6] (.int a :: st) v x := vE_s rfl rfl
theorem q63_14 : vE 63 14 [l0, l1, l2, l3, l4, l5, l6] st v x ↔ vE 63 15 [l0, l1, l2, l3, l4, l5, l6] (.int 1 :: st) v x := vE_s rfl (by rfl)
theorem q63_15 : vE 63 15 [l0, l1, l2, l3, l4, l5, l6] (.int b :: .int a :: st) v x ↔ vE 63 16 [l0, l1, l2, l3, l4, l5, l6] (.int (a - b) :: st) v x := vE_s rfl rfl
theorem q63_16 : vE 63 16 [l0, l1, l2, l3, l4, l5, l6] (.int a :: st) v x ↔ vE 63 18 [l0, l1, l2, l3, l4, .int a, l6] st v x := vE_s rfl rfl
theorem q63_18 : vE 63 18 [l0, l1, l2, l3, l4, .int a, l6] st v x ↔ vE 63 20 [l0, l1, l2, l3, l4, .int a, l6] (.int a :: st) v x := vE_s rfl rfl
theorem q63_20 : vE 63 20 [l0, l1, l2, l3, l4, l5, l6] (.int a :: st) v x ↔ if a < 0 then vE 63 54 [l0, l1, l2, l3, l4, l5, l6] st v x else vE 63 23 [l0, l1, l2, l3, l4, l5, l6] st v x := vE_if rfl rfl
theorem q63_23 : vE 63 23 [.ref p, l1, l2, l3, l4, l5, l6] st v x ↔ vE 63 24 [.ref p, l1, l2, l3, l4, l5, l6] (.ref p :: st) v x := vE_s rfl rfl
theorem q63_24 : vE 63 24 [l0, l1, l2, l3, l4, l5, l6] (.ref p :: st) v x ↔ vE 63 27 [l0, l1, l2, l3, l4, l5, l6] (.ref (p + 2) :: st) v x := vE_s rfl rfl
theorem q63_27 : vE 63 27 [l0, l1, l2, l3, l4, .int a, l6] st v x ↔ vE 63 29 [l0, l1, l2, l3, l4, .int a, l6] (.int a :: st) v x := vE_s rfl rfl
theorem q63_29 : vE 63 29 [l0, l1, l2, l3, l4, l5, l6] st v x ↔ vE 63 30 [l0, l1, l2, l3, l4, l5, l6] (.int 0 :: st) v x := vE_s rfl (by rfl)
theorem q63_30 : vE 63 30 [l0, l1, l2, l3, l4, l5, l6] (.int b :: .int a :: .ref p :: st) v x ↔ vE 63 31 [l0, l1, l2, l3, l4, l5, l6] st (vm_si v p a.toNatClampNeg (b &&& 1)) x := vE_s rfl rfl
theorem q63_31 : vE 63 31 [.ref p, l1, l2, l3, l4, l5, l6] st v x ↔ vE 63 32 [.ref p, l1, l2, l3, l4, l5, l6] (.ref p :: st) v x := vE_s rfl rfl
theorem q63_32 : vE 63 32 [l0, l1, l2, l3, l4, l5, l6] (.ref p :: st) v x ↔ vE 63 35 [l0, l1, l2, l3, l4, l5, l6] (.ref (p + 1) :: st) v x := vE_s rfl rfl
theorem q63_35 : vE 63 35 [l0, l1, l2, l3, l4, .int a, l6] st v x ↔ vE 63 37 [l0, l1, l2, l3, l4, .int a, l6] (.int a :: st) v x := vE_s rfl rfl
theorem q63_37 : vE 63 37 [.ref p, l1, l2, l3, l4, l5, l6] st v x ↔ vE 63 38 [.ref p, l1, l2, l3, l4, l5, l6] (.ref p :: st) v x := vE_s rfl rfl
theorem q63_38 : vE 63 38 [l0, .ref p, l2, l3, l4, l5, l6] st v x ↔ vE 63 39 [l0, .ref p, l2, l3, l4, l5, l6] (.ref p :: st) v x := vE_s rfl rfl
theorem q63_39 : vE 63 39 [l0, l1, l2, .int a, l4, l5, l6] st v x ↔ vE 63 40 [l0, l1, l2, .int a, l4, l5, l6] (.int a :: st) v x := vE_s rfl rfl
theorem q63_40 : vE 63 40 [l0, l1, l2, l3, l4, .int a, l6] st v x ↔ vE 63 42 [l0, l1, l2, l3, l4, .int a, l6] (.int a :: st) v x := vE_s rfl rfl
theorem q63_42 : vE 63 42 [l0, l1, l2, l3, .int a, l5, l6] st v x ↔ vE 63 44 [l0, l1, l2, l3, .int a, l5, l6] (.int a :: st) v x := vE_s rfl rfl
theorem q63_44 : vE 63 44 [l0, l1, l2, l3, l4, l5, l6] (w4 :: w3 :: w2 :: w1 :: w0 :: st) v x ↔ ∃ y : vm_Y, vE 65 0 [w0, w1, w2, w3, w4, .retAddr 0, .retAddr 0] [] v y ∧ vB 63 44 [l0, l1, l2, l3, l4, l5, l6] st y x := vE_cv rfl rfl rfl rfl
theorem q63_47 : vE 63 47 [l0, l1, l2, l3, l4, l5, l6] (.int b :: .int a :: .ref p :: st) v x ↔ vE 63 48 [l0, l1, l2, l3, l4, l5, l6] st (vm_si v p a.toNatClampNeg b) x := vE_s rfl rfl
theorem q63_48 : vE 63 48 [l0, l1, l2, l3, l4, .int a, l6] st v x ↔ vE 63 51 [l0, l1, l2, l3, l4, .int (a + (-1)), l6] st v x := vE_s rfl rfl
theorem q63_51 : vE 63 51 [l0, l1, l2, l3, l4, l5, l6] st v x ↔ vE 63 18 [l0, l1, l2, l3, l4, l5, l6] st v x := vE_s rfl rfl
theorem q63_54 : vE 63 54 [l0, l1, l2, l3, l4, l5, l6] st v x ↔ vE 63 55 [l0, l1, l2, l3, l4, l5, l6] (.int 0 :: st) v x := vE_s rfl (by rfl)
theorem q63_55 : vE 63 55 [l0, l1, l2, l3, l4, l5, l6] (.int a :: st) v x ↔ vE 63 57 [l0, l1, l2, l3, l4, .int a, l6] st v x := vE_s rfl rfl
theorem q63_57 : vE 63 57 [l0, l1, l2, l3, l4, .int a, l6] st v x ↔ vE 63 59 [l0, l1, l2, l3, l4, .int a, l6] (.int a :: st) v x := vE_s rfl rfl
theorem q63_59 : vE 63 59 [l0, l1, l2, l3, .int a, l5, l6] st v x ↔ vE 63 61 [l0, l1, l2, l3, .int a, l5, l6] (.int a :: st) v x := vE_s rfl rfl
theorem q63_61 : vE 63 61 [l0, l1, l2, l3, l4, l5, l6] (.int b :: .int a :: st) v x ↔ if b ≤ a then vE 63 139 [l0, l1, l2, l3, l4, l5, l6] st v x else vE 63 64 [l0, l1, l2, l3, l4, l5, l6] st v x := vE_if rfl rfl
theorem q63_64 : vE 63 64 [.ref p, l1, l2, l3, l4, l5, l6] st v x ↔ vE 63 65 [.ref p, l1, l2, l3, l4, l5, l6] (.ref p :: st) v x := vE_s rfl rfl
theorem q63_65 : vE 63 65 [l0, .ref p, l2, l3, l4, l5, l6] st v x ↔ vE 63 66 [l0, .ref p, l2, l3, l4, l5, l6] (.ref p :: st) v x := vE_s rfl rfl
theorem q63_66 : vE 63 66 [l0, l1, l2, .int a, l4, l5, l6] st v x ↔ vE 63 67 [l0, l1, l2, .int a, l4, l5, l6] (.int a :: st) v x := vE_s rfl rfl
theorem q63_67 : vE 63 67 [l0, l1, l2, l3, .int a, l5, l6] st v x ↔ vE 63 69 [l0, l1, l2, l3, .int a, l5, l6] (.int a :: st) v x := vE_s rfl rfl
theorem q63_69 : vE 63 69 [l0, l1, l2, l3, l4, l5, l6] (w3 :: w2 :: w1 :: w0 :: st) v x ↔ ∃ y : vm_Y, vE 68 0 [w0, w1, w2, w3, .retAddr 0, .retAddr 0, .retAddr 0] [] v y ∧ vB 63 69 [l0, l1, l2, l3, l4, l5, l6] st y x := vE_cv rfl rfl rfl rfl
theorem q63_72 : vE 63 72 [l0, l1, l2, l3, l4, l5, l6] (.int a :: st) v x ↔ vE 63 74 [l0, l1, l2, l3, l4, l5, .int a] st v x := vE_s rfl rfl
theorem q63_74 : vE 63 74 [l0, l1, l2, l3, l4, l5, .int a] st v x ↔ vE 63 76 [l0, l1, l2, l3, l4, l5, .int a] (.int a :: st) v x := vE_s rfl rfl
theorem q63_76 : vE 63 76 [l0, l1, l2, l3, l4, l5, l6] (.int a :: st) v x ↔ if a < 0 then vE 63 133 [l0, l1, l2, l3, l4, l5, l6] st v x else vE 63 79 [l0, l1, l2, l3, l4, l5, l6] st v x := vE_if rfl rfl
theorem q63_79 : vE 63 79 [l0, l1, l2, l3, l4, l5, .int a] st v x ↔ vE 63 81 [l0, l1, l2, l3, l4, l5, .int a] (.int a :: st) v x := vE_s rfl rfl
theorem q63_81 : vE 63 81 [l0, l1, l2, l3, l4, l5, l6] st v x ↔ vE 63 83 [l0, l1, l2, l3, l4, l5, l6] (.int 8 :: st) v x := vE_s rfl (by rfl)
theorem q63_83 : vE 63 83 [l0, l1, l2, l3, l4, l5, l6] (.int b :: .int a :: st) v x ↔ if b ≤ a then vE 63 133 [l0, l1, l2, l3, l4, l5, l6] st v x else vE 63 86 [l0, l1, l2, l3, l4, l5, l6] st v x := vE_if rfl rfl
theorem q63_86 : vE 63 86 [.ref p, l1, l2, l3, l4, l5, l6] st v x ↔ vE 63 87 [.ref p, l1, l2, l3, l4, l5, l6] (.ref p :: st) v x := vE_s rfl rfl
theorem q63_87 : vE 63 87 [l0, l1, l2, l3, l4, l5, l6] (.ref p :: st) v x ↔ vE 63 90 [l0, l1, l2, l3, l4, l5, l6] (.ref (p + 2) :: st) v x := vE_s rfl rfl
theorem q63_90 : vE 63 90 [l0, l1, l2, l3, l4, l5, .int a] st v x ↔ vE 63 92 [l0, l1, l2, l3, l4, l5, .int a] (.int a :: st) v x := vE_s rfl rfl
theorem q63_92 : vE 63 92 [l0, l1, l2, l3, l4, l5, l6] st v x ↔ vE 63 93 [l0, l1, l2, l3, l4, l5, l6] (.int 1 :: st) v x := vE_s rfl (by rfl)
theorem q63_93 : vE 63 93 [l0, l1, l2, l3, l4, l5, l6] (.int b :: .int a :: .ref p :: st) v x ↔ vE 63 94 [l0, l1, l2, l3, l4, l5, l6] st (vm_si v p a.toNatClampNeg (b &&& 1)) x := vE_s rfl rfl
theorem q63_94 : vE 63 94 [l0, l1, .ref p, l3, l4, l5, l6] st v x ↔ vE 63 95 [l0, l1, .ref p, l3, l4, l5, l6] (.ref p :: st) v x := vE_s rfl rfl
theorem q63_95 : vE 63 95 [l0, l1, l2, .int a, l4, l5, l6] st v x ↔ vE 63 96 [l0, l1, l2, .int a, l4, l5, l6] (.int a :: st) v x := vE_s rfl rfl
theorem q63_96 : vE 63 96 [l0, l1, l2, l3, l4, .int a, l6] st v x ↔ vE 63 98 [l0, l1, l2, l3, l4, .int a, l6] (.int a :: st) v x := vE_s rfl rfl
theorem q63_98 : vE 63 98 [l0, .ref p, l2, l3, l4, l5, l6] st v x ↔ vE 63 99 [l0, .ref p, l2, l3, l4, l5, l6] (.ref p :: st) v x := vE_s rfl rfl
theorem q63_99 : vE 63 99 [l0, l1, l2, .int a, l4, l5, l6] st v x ↔ vE 63 100 [l0, l1, l2, .int a, l4, l5, l6] (.int a :: st) v x := vE_s rfl rfl
theorem q63_100 : vE 63 100 [l0, l1, l2, l3, l4, l5, .int a] st v x ↔ vE 63 102 [l0, l1, l2, l3, l4, l5, .int a] (.int a :: st) v x := vE_s rfl rfl
theorem q63_102 : vE 63 102 [l0, l1, l2, l3, l4, l5, l6] st v x ↔ vE 63 103 [l0, l1, l2, l3, l4, l5, l6] (.int 0 :: st) v x := vE_s rfl (by rfl)
theorem q63_103 : vE 63 103 [l0, l1, l2, l3, l4, l5, l6] (w3 :: w2 :: w1 :: w0 :: st) v x ↔ ∃ y : vm_Y, vE 47 0 [w0, w1, w2, w3, .retAddr 0] [] v y ∧ vB 63 103 [l0, l1, l2, l3, l4, l5, l6] st y x := vE_cv rfl rfl rfl rfl
theorem q63_106 : vE 63 106 [l0, .ref p, l2, l3, l4, l5, l6] st v x ↔ vE 63 107 [l0, .ref p, l2, l3, l4, l5, l6] (.ref p :: st) v x := vE_s rfl rfl
theorem q63_107 : vE 63 107 [l0, l1, l2, .int a, l4, l5, l6] st v x ↔ vE 63 108 [l0, l1, l2, .int a, l4, l5, l6] (.int a :: st) v x := vE_s rfl rfl
theorem q63_108 : vE 63 108 [l0, l1, l2, l3, l4, l5, .int a] st v x ↔ vE 63 110 [l0, l1, l2, l3, l4, l5, .int a] (.int a :: st) v x := vE_s rfl rfl
theorem q63_110 : vE 63 110 [l0, l1, l2, l3, l4, l5, l6] st v x ↔ vE 63 111 [l0, l1, l2, l3, l4, l5, l6] (.int 1 :: st) v x := vE_s rfl (by rfl)
theorem q63_111 : vE 63 111 [l0, l1, l2, l3, l4, l5, l6] (w3 :: w2 :: w1 :: w0 :: st) v x ↔ ∃ y : vm_Y, vE 47 0 [w0, w1, w2, w3, .retAddr 0] [] v y ∧ vB 63 111 [l0, l1, l2, l3, l4, l5, l6] st y x := vE_cv rfl rfl rfl rfl
theorem q63_114 : vE 63 114 [l0, .ref p, l2, l3, l4, l5, l6] st v x ↔ vE 63 115 [l0, .ref p, l2, l3, l4, l5, l6] (.ref p :: st) v x := vE_s rfl rfl
theorem q63_115 : vE 63 115 [l0, l1, l2, .int a, l4, l5, l6] st v x ↔ vE 63 116 [l0, l1, l2, .int a, l4, l5, l6] (.int a :: st) v x := vE_s rfl rfl
theorem q63_116 : vE 63 116 [l0, l1, l2, l3, l4, l5, .int a] st v x ↔ vE 63 118 [l0, l1, l2, l3, l4, l5, .int a] (.int a :: st) v x := vE_s rfl rfl
theorem q63_118 : vE 63 118 [l0, l1, l2, l3, l4, l5, l6] st v x ↔ vE 63 119 [l0, l1, l2, l3, l4, l5, l6] (.int 2 :: st) v x := vE_s rfl (by rfl)
theorem q63_119 : vE 63 119 [l0, l1, l2, l3, l4, l5, l6] (w3 :: w2 :: w1 :: w0 :: st) v x ↔ ∃ y : vm_Y, vE 47 0 [w0, w1, w2, w3, .retAddr 0] [] v y ∧ vB 63 119 [l0, l1, l2, l3, l4, l5, l6] st y x := vE_cv rfl rfl rfl rfl
theorem q63_122 : vE 63 122 [l0, .ref p, l2, l3, l4, l5, l6] st v x ↔ vE 63 123 [l0, .ref p, l2, l3, l4, l5, l6] (.ref p :: st) v x := vE_s rfl rfl
theorem q63_123 : vE 63 123 [l0, l1, l2, .int a, l4, l5, l6] st v x ↔ vE 63 124 [l0, l1, l2, .int a, l4, l5, l6] (.int a :: st) v x := vE_s rfl rfl
theorem q63_124 : vE 63 124 [l0, l1, l2, l3, l4, l5, .int a] st v x ↔ vE 63 126 [l0, l1, l2, l3, l4, l5, .int a] (.int a :: st) v x := vE_s rfl rfl
theorem q63_126 : vE 63 126 [l0, l1, l2, l3, l4, l5, l6] st v x ↔ vE 63 127 [l0, l1, l2, l3, l4, l5, l6] (.int 3 :: st) v x := vE_s rfl (by rfl)
theorem q63_127 : vE 63 127 [l0, l1, l2, l3, l4, l5, l6] (w3 :: w2 :: w1 :: w0 :: st) v x ↔ ∃ y : vm_Y, vE 47 0 [w0, w1, w2, w3, .retAddr 0] [] v y ∧ vB 63 127 [l0, l1, l2, l3, l4, l5, l6] st y x := vE_cv rfl rfl rfl rfl
theorem q63_130 : vE 63 130 [l0, l1, l2, l3, l4, l5, l6] (w6 :: w5 :: w4 :: w3 :: w2 :: w1 :: w0 :: st) v x ↔ ∃ y : vm_Y, vE 33 0 [w0, w1, w2, w3, w4, w5, w6, .retAddr 0] [] v y ∧ vB 63 130 [l0, l1, l2, l3, l4, l5, l6] st y x := vE_cv rfl rfl rfl rfl
theorem q63_133 : vE 63 133 [l0, l1, l2, l3, l4, .int a, l6] st v x ↔ vE 63 136 [l0, l1, l2, l3, l4, .int (a + 1), l6] st v x := vE_s rfl rfl
theorem q63_136 : vE 63 136 [l0, l1, l2, l3, l4, l5, l6] st v x ↔ vE 63 57 [l0, l1, l2, l3, l4, l5, l6] st v x := vE_s rfl rfl
theorem q63_139 : vE 63 139 [l0, l1, l2, l3, l4, l5, l6] [] v x ↔ x = vd v := vE_vr rfl
theorem qt63 {X pc : Nat} {L r : List Value} : vB 63 pc L r (vt X v) x ↔ x = vt X v := vB_t rfl
/-! 64 java/lang/Math.min(II)I -/
theorem q64_0 : vE 64 0 [.int a, l1] st v x ↔ vE 64 1 [.int a, l1] (.int a :: st) v x := vE_s rfl rfl
theorem q64_1 : vE 64 1 [l0, .int a] st v x ↔ vE 64 2 [l0, .int a] (.int a :: st) v x := vE_s rfl rfl
theorem q64_2 : vE 64 2 [l0, l1] (.int b :: .int a :: st) v x ↔ if b < a then vE 64 9 [l0, l1] st v x else vE 64 5 [l0, l1] st v x := vE_if rfl rfl
theorem q64_5 : vE 64 5 [.int a, l1] st v x ↔ vE 64 6 [.int a, l1] (.int a :: st) v x := vE_s rfl rfl
theorem q64_6 : vE 64 6 [l0, l1] st v x ↔ vE 64 10 [l0, l1] st v x := vE_s rfl rfl
theorem q64_9 : vE 64 9 [l0, .int a] st v x ↔ vE 64 10 [l0, .int a] (.int a :: st) v x := vE_s rfl rfl
theorem q64_10 : vE 64 10 [l0, l1] ([.int a]) v x ↔ x = vr a v := vE_ir rfl
/-! 65 PassChecker$Orderer.heightOf(LPassChecker$Program;III)I -/
theorem q65_0 : vE 65 0 [l0, l1, l2, l3, l4, l5, l6] st v x ↔ vE 65 1 [l0, l1, l2, l3, l4, l5, l6] (.int 0 :: st) v x := vE_s rfl (by rfl)
theorem q65_1 : vE 65 1 [l0, l1, l2, l3, l4, l5, l6] (.int a :: st) v x ↔ vE 65 3 [l0, l1, l2, l3, l4, .int a, l6] st v x := vE_s rfl rfl
theorem q65_3 : vE 65 3 [l0, l1, l2, .int a, l4, l5, l6] st v x ↔ vE 65 4 [l0, l1, l2, .int a, l4, l5, l6] (.int a :: st) v x := vE_s rfl rfl
theorem q65_4 : vE 65 4 [l0, l1, l2, l3, l4, l5, l6] st v x ↔ vE 65 5 [l0, l1, l2, l3, l4, l5, l6] (.int 1 :: st) v x := vE_s rfl (by rfl)
theorem q65_5 : vE 65 5 [l0, l1, l2, l3, l4, l5, l6] (.int b :: .int a :: st) v x ↔ vE 65 6 [l0, l1, l2, l3, l4, l5, l6] (.int (a + b) :: st) v x := vE_s rfl rfl
theorem q65_6 : vE 65 6 [l0, l1, l2, l3, l4, l5, l6] (.int a :: st) v x ↔ vE 65 8 [l0, l1, l2, l3, l4, l5, .int a] st v x := vE_s rfl rfl
theorem q65_8 : vE 65 8 [l0, l1, l2, l3, l4, l5, .int a] st v x ↔ vE 65 10 [l0, l1, l2, l3, l4, l5, .int a] (.int a :: st) v x := vE_s rfl rfl
theorem q65_10 : vE 65 10 [l0, l1, l2, l3, .int a, l5, l6] st v x ↔ vE 65 12 [l0, l1, l2, l3, .int a, l5, l6] (.int a :: st) v x := vE_s rfl rfl
theorem q65_12 : vE 65 12 [l0, l1, l2, l3, l4, l5, l6] (.int b :: .int a :: st) v x ↔ if b ≤ a then vE 65 54 [l0, l1, l2, l3, l4, l5, l6] st v x else vE 65 15 [l0, l1, l2, l3, l4, l5, l6] st v x := vE_if rfl rfl
theorem q65_15 : vE 65 15 [l0, l1, l2, l3, l4, l5, .int a] st v x ↔ vE 65 17 [l0, l1, l2, l3, l4, l5, .int a] (.int a :: st) v x := vE_s rfl rfl
theorem q65_17 : vE 65 17 [l0, l1, l2, l3, l4, l5, l6] st v x ↔ vE 65 19 [l0, l1, l2, l3, l4, l5, l6] (.int 8 :: st) v x := vE_s rfl (by rfl)
theorem q65_19 : vE 65 19 [l0, l1, l2, l3, l4, l5, l6] (.int b :: .int a :: st) v x ↔ if b ≤ a then vE 65 54 [l0, l1, l2, l3, l4, l5, l6] st v x else vE 65 22 [l0, l1, l2, l3, l4, l5, l6] st v x := vE_if rfl rfl
theorem q65_22 : vE 65 22 [.ref p, l1, l2, l3, l4, l5, l6] st v x ↔ vE 65 23 [.ref p, l1, l2, l3, l4, l5, l6] (.ref p :: st) v x := vE_s rfl rfl
theorem q65_23 : vE 65 23 [l0, .ref p, l2, l3, l4, l5, l6] st v x ↔ vE 65 24 [l0, .ref p, l2, l3, l4, l5, l6] (.ref p :: st) v x := vE_s rfl rfl
theorem q65_24 : vE 65 24 [l0, l1, .int a, l3, l4, l5, l6] st v x ↔ vE 65 25 [l0, l1, .int a, l3, l4, l5, l6] (.int a :: st) v x := vE_s rfl rfl
theorem q65_25 : vE 65 25 [l0, l1, l2, l3, l4, l5, .int a] st v x ↔ vE 65 27 [l0, l1, l2, l3, l4, l5, .int a] (.int a :: st) v x := vE_s rfl rfl
theorem q65_27 : vE 65 27 [l0, l1, l2, .int a, l4, l5, l6] st v x ↔ vE 65 28 [l0, l1, l2, .int a, l4, l5, l6] (.int a :: st) v x := vE_s rfl rfl
theorem q65_28 : vE 65 28 [l0, l1, l2, l3, l4, l5, l6] (w4 :: w3 :: w2 :: w1 :: w0 :: st) v x ↔ ∃ y : vm_Y, vE 66 0 [w0, w1, w2, w3, w4, .retAddr 0, .retAddr 0, .retAddr 0, .retAddr 0] [] v y ∧ vB 65 28 [l0, l1, l2, l3, l4, l5, l6] st y x := vE_cv rfl rfl rfl rfl
theorem q65_31 : vE 65 31 [l0, l1, l2, l3, l4, l5, l6] (.int a :: st) v x ↔ if a = 0 then vE 65 48 [l0, l1, l2, l3, l4, l5, l6] st v x else vE 65 34 [l0, l1, l2, l3, l4, l5, l6] st v x := vE_if rfl rfl
theorem q65_34 : vE 65 34 [l0, l1, l2, l3, l4, .int a, l6] st v x ↔ vE 65 36 [l0, l1, l2, l3, l4, .int a, l6] (.int a :: st) v x := vE_s rfl rfl
theorem q65_36 : vE 65 36 [.ref p, l1, l2, l3, l4, l5, l6] st v x ↔ vE 65 37 [.ref p, l1, l2, l3, l4, l5, l6] (.ref p :: st) v x := vE_s rfl rfl
theorem q65_37 : vE 65 37 [l0, l1, l2, l3, l4, l5, l6] (.ref p :: st) v x ↔ vE 65 40 [l0, l1, l2, l3, l4, l5, l6] (.ref (p + 1) :: st) v x := vE_s rfl rfl
theorem q65_40 : vE 65 40 [l0, l1, l2, l3, l4, l5, .int a] st v x ↔ vE 65 42 [l0, l1, l2, l3, l4, l5, .int a] (.int a :: st) v x := vE_s rfl rfl
theorem q65_42 : vE 65 42 [l0, l1, l2, l3, l4, l5, l6] (.int a :: .ref p :: st) v x ↔ vE 65 43 [l0, l1, l2, l3, l4, l5, l6] (.int (v.1 p a.toNatClampNeg) :: st) v x := vE_s rfl rfl
theorem q65_43 : vE 65 43 [l0, l1, l2, l3, l4, l5, l6] (w1 :: w0 :: st) v x ↔ ∃ y : vm_Y, vE 67 0 [w0, w1] [] v y ∧ vB 65 43 [l0, l1, l2, l3, l4, l5, l6] st y x := vE_cs rfl rfl rfl rfl
theorem q65_46 : vE 65 46 [l0, l1, l2, l3, l4, l5, l6] (.int a :: st) v x ↔ vE 65 48 [l0, l1, l2, l3, l4, .int a, l6] st v x := vE_s rfl rfl
theorem q65_48 : vE 65 48 [l0, l1, l2, l3, l4, l5, .int a] st v x ↔ vE 65 51 [l0, l1, l2, l3, l4, l5, .int (a + 1)] st v x := vE_s rfl rfl
theorem q65_51 : vE 65 51 [l0, l1, l2, l3, l4, l5, l6] st v x ↔ vE 65 8 [l0, l1, l2, l3, l4, l5, l6] st v x := vE_s rfl rfl
theorem q65_54 : vE 65 54 [l0, .ref p, l2, l3, l4, l5, l6] st v x ↔ vE 65 55 [l0, .ref p, l2, l3, l4, l5, l6] (.ref p :: st) v x := vE_s rfl rfl
theorem q65_55 : vE 65 55 [l0, l1, .int a, l3, l4, l5, l6] st v x ↔ vE 65 56 [l0, l1, .int a, l3, l4, l5, l6] (.int a :: st) v x := vE_s rfl rfl
theorem q65_56 : vE 65 56 [l0, l1, l2, .int a, l4, l5, l6] st v x ↔ vE 65 57 [l0, l1, l2, .int a, l4, l5, l6] (.int a :: st) v x := vE_s rfl rfl
theorem q65_57 : vE 65 57 [l0, l1, l2, l3, l4, l5, l6] st v x ↔ vE 65 58 [l0, l1, l2, l3, l4, l5, l6] (.int 0 :: st) v x := vE_s rfl (by rfl)
theorem q65_58 : vE 65 58 [l0, l1, l2, l3, l4, l5, l6] (w3 :: w2 :: w1 :: w0 :: st) v x ↔ ∃ y : vm_Y, vE 47 0 [w0, w1, w2, w3, .retAddr 0] [] v y ∧ vB 65 58 [l0, l1, l2, l3, l4, l5, l6] st y x := vE_cv rfl rfl rfl rfl
theorem q65_61 : vE 65 61 [l0, l1, l2, l3, l4, l5, l6] (.int a :: st) v x ↔ vE 65 63 [l0, l1, l2, l3, l4, l5, .int a] st v x := vE_s rfl rfl
theorem q65_63 : vE 65 63 [l0, l1, l2, l3, l4, .int a, l6] st v x ↔ vE 65 65 [l0, l1, l2, l3, l4, .int a, l6] (.int a :: st) v x := vE_s rfl rfl
theorem q65_65 : vE 65 65 [l0, l1, l2, l3, l4, l5, .int a] st v x ↔ vE 65 67 [l0, l1, l2, l3, l4, l5, .int a] (.int a :: st) v x := vE_s rfl rfl
theorem q65_67 : vE 65 67 [l0, l1, l2, l3, l4, l5, l6] (.int a :: st) v x ↔ if a < 0 then vE 65 88 [l0, l1, l2, l3, l4, l5, l6] st v x else vE 65 70 [l0, l1, l2, l3, l4, l5, l6] st v x := vE_if rfl rfl
theorem q65_70 : vE 65 70 [l0, l1, l2, l3, l4, l5, .int a] st v x ↔ vE 65 72 [l0, l1, l2, l3, l4, l5, .int a] (.int a :: st) v x := vE_s rfl rfl
theorem q65_72 : vE 65 72 [l0, l1, l2, l3, l4, l5, l6] st v x ↔ vE 65 75 [l0, l1, l2, l3, l4, l5, l6] (.ref 1 :: st) v x := vE_s rfl rfl
theorem q65_75 : vE 65 75 [l0, l1, l2, l3, l4, l5, l6] (.ref p :: st) v x ↔ vE 65 76 [l0, l1, l2, l3, l4, l5, l6] (.int (Int32.ofNat (v.2.2.2 p)) :: st) v x := vE_s rfl rfl
theorem q65_76 : vE 65 76 [l0, l1, l2, l3, l4, l5, l6] (.int b :: .int a :: st) v x ↔ if b ≤ a then vE 65 88 [l0, l1, l2, l3, l4, l5, l6] st v x else vE 65 79 [l0, l1, l2, l3, l4, l5, l6] st v x := vE_if rfl rfl
theorem q65_79 : vE 65 79 [l0, l1, l2, l3, l4, l5, l6] st v x ↔ vE 65 82 [l0, l1, l2, l3, l4, l5, l6] (.ref 1 :: st) v x := vE_s rfl rfl
theorem q65_82 : vE 65 82 [l0, l1, l2, l3, l4, l5, .int a] st v x ↔ vE 65 84 [l0, l1, l2, l3, l4, l5, .int a] (.int a :: st) v x := vE_s rfl rfl
theorem q65_84 : vE 65 84 [l0, l1, l2, l3, l4, l5, l6] (.int a :: .ref p :: st) v x ↔ vE 65 85 [l0, l1, l2, l3, l4, l5, l6] (.int (v.1 p a.toNatClampNeg) :: st) v x := vE_s rfl rfl
theorem q65_85 : vE 65 85 [l0, l1, l2, l3, l4, l5, l6] st v x ↔ vE 65 89 [l0, l1, l2, l3, l4, l5, l6] st v x := vE_s rfl rfl
theorem q65_88 : vE 65 88 [l0, l1, l2, l3, l4, l5, l6] st v x ↔ vE 65 89 [l0, l1, l2, l3, l4, l5, l6] (.int 0 :: st) v x := vE_s rfl (by rfl)
theorem q65_89 : vE 65 89 [l0, l1, l2, l3, l4, l5, l6] (.int b :: .int a :: st) v x ↔ vE 65 90 [l0, l1, l2, l3, l4, l5, l6] (.int (a + b) :: st) v x := vE_s rfl rfl
theorem q65_90 : vE 65 90 [l0, l1, l2, l3, l4, l5, l6] ([.int a]) v x ↔ x = vr a v := vE_ir rfl
theorem qt65 {X pc : Nat} {L r : List Value} : vB 65 pc L r (vt X v) x ↔ x = vt X v := vB_t rfl
/-! 66 PassChecker$Orderer.depends(LPassChecker$Program;III)Z -/
theorem q66_0 : vE 66 0 [l0, .ref p, l2, l3, l4, l5, l6, l7, l8] st v x ↔ vE 66 1 [l0, .ref p, l2, l3, l4, l5, l6, l7, l8] (.ref p :: st) v x := vE_s rfl rfl
theorem q66_1 : vE 66 1 [l0, l1, .int a, l3, l4, l5, l6, l7, l8] st v x ↔ vE 66 2 [l0, l1, .int a, l3, l4, l5, l6, l7, l8] (.int a :: st) v x := vE_s rfl rfl
theorem q66_2 : vE 66 2 [l0, l1, l2, .int a, l4, l5, l6, l7, l8] st v x ↔ vE 66 3 [l0, l1, l2, .int a, l4, l5, l6, l7, l8] (.int a :: st) v x := vE_s rfl rfl
theorem q66_3 : vE 66 3 [l0, l1, l2, l3, l4, l5, l6, l7, l8] st v x ↔ vE 66 4 [l0, l1, l2, l3, l4, l5, l6, l7, l8] (.int 0 :: st) v x := vE_s rfl (by rfl)
theorem q66_4 : vE 66 4 [l0, l1, l2, l3, l4, l5, l6, l7, l8] (w3 :: w2 :: w1 :: w0 :: st) v x ↔ ∃ y : vm_Y, vE 47 0 [w0, w1, w2, w3, .retAddr 0] [] v y ∧ vB 66 4 [l0, l1, l2, l3, l4, l5, l6, l7, l8] st y x := vE_cv rfl rfl rfl rfl
theorem q66_7 : vE 66 7 [l0, l1, l2, l3, l4, l5, l6, l7, l8] (.int a :: st) v x ↔ vE 66 9 [l0, l1, l2, l3, l4, .int a, l6, l7, l8] st v x := vE_s rfl rfl
theorem q66_9 : vE 66 9 [l0, .ref p, l2, l3, l4, l5, l6, l7, l8] st v x ↔ vE 66 10 [l0, .ref p, l2, l3, l4, l5, l6, l7, l8] (.ref p :: st) v x := vE_s rfl rfl
theorem q66_10 : vE 66 10 [l0, l1, .int a, l3, l4, l5, l6, l7, l8] st v x ↔ vE 66 11 [l0, l1, .int a, l3, l4, l5, l6, l7, l8] (.int a :: st) v x := vE_s rfl rfl
theorem q66_11 : vE 66 11 [l0, l1, l2, l3, .int a, l5, l6, l7, l8] st v x ↔ vE 66 13 [l0, l1, l2, l3, .int a, l5, l6, l7, l8] (.int a :: st) v x := vE_s rfl rfl
theorem q66_13 : vE 66 13 [l0, l1, l2, l3, l4, l5, l6, l7, l8] st v x ↔ vE 66 14 [l0, l1, l2, l3, l4, l5, l6, l7, l8] (.int 0 :: st) v x := vE_s rfl (by rfl)
theorem q66_14 : vE 66 14 [l0, l1, l2, l3, l4, l5, l6, l7, l8] (w3 :: w2 :: w1 :: w0 :: st) v x ↔ ∃ y : vm_Y, vE 47 0 [w0, w1, w2, w3, .retAddr 0] [] v y ∧ vB 66 14 [l0, l1, l2, l3, l4, l5, l6, l7, l8] st y x := vE_cv rfl rfl rfl rfl
theorem q66_17 : vE 66 17 [l0, l1, l2, l3, l4, l5, l6, l7, l8] (.int a :: st) v x ↔ vE 66 19 [l0, l1, l2, l3, l4, l5, .int a, l7, l8] st v x := vE_s rfl rfl
theorem q66_19 : vE 66 19 [l0, .ref p, l2, l3, l4, l5, l6, l7, l8] st v x ↔ vE 66 20 [l0, .ref p, l2, l3, l4, l5, l6, l7, l8] (.ref p :: st) v x := vE_s rfl rfl
theorem q66_20 : vE 66 20 [l0, l1, .int a, l3, l4, l5, l6, l7, l8] st v x ↔ vE 66 21 [l0, l1, .int a, l3, l4, l5, l6, l7, l8] (.int a :: st) v x := vE_s rfl rfl
theorem q66_21 : vE 66 21 [l0, l1, l2, .int a, l4, l5, l6, l7, l8] st v x ↔ vE 66 22 [l0, l1, l2, .int a, l4, l5, l6, l7, l8] (.int a :: st) v x := vE_s rfl rfl
theorem q66_22 : vE 66 22 [l0, l1, l2, l3, l4, l5, l6, l7, l8] (w2 :: w1 :: w0 :: st) v x ↔ ∃ y : vm_Y, vE 62 0 [w0, w1, w2] [] v y ∧ vB 66 22 [l0, l1, l2, l3, l4, l5, l6, l7, l8] st y x := vE_cv rfl rfl rfl rfl
theorem q66_25 : vE 66 25 [l0, l1, l2, l3, l4, l5, l6, l7, l8] (.int a :: st) v x ↔ vE 66 27 [l0, l1, l2, l3, l4, l5, l6, .int a, l8] st v x := vE_s rfl rfl
theorem q66_27 : vE 66 27 [l0, .ref p, l2, l3, l4, l5, l6, l7, l8] st v x ↔ vE 66 28 [l0, .ref p, l2, l3, l4, l5, l6, l7, l8] (.ref p :: st) v x := vE_s rfl rfl
theorem q66_28 : vE 66 28 [l0, l1, .int a, l3, l4, l5, l6, l7, l8] st v x ↔ vE 66 29 [l0, l1, .int a, l3, l4, l5, l6, l7, l8] (.int a :: st) v x := vE_s rfl rfl
theorem q66_29 : vE 66 29 [l0, l1, l2, l3, .int a, l5, l6, l7, l8] st v x ↔ vE 66 31 [l0, l1, l2, l3, .int a, l5, l6, l7, l8] (.int a :: st) v x := vE_s rfl rfl
theorem q66_31 : vE 66 31 [l0, l1, l2, l3, l4, l5, l6, l7, l8] (w2 :: w1 :: w0 :: st) v x ↔ ∃ y : vm_Y, vE 62 0 [w0, w1, w2] [] v y ∧ vB 66 31 [l0, l1, l2, l3, l4, l5, l6, l7, l8] st y x := vE_cv rfl rfl rfl rfl
theorem q66_34 : vE 66 34 [l0, l1, l2, l3, l4, l5, l6, l7, l8] (.int a :: st) v x ↔ vE 66 36 [l0, l1, l2, l3, l4, l5, l6, l7, .int a] st v x := vE_s rfl rfl
theorem q66_36 : vE 66 36 [l0, l1, l2, l3, l4, .int a, l6, l7, l8] st v x ↔ vE 66 38 [l0, l1, l2, l3, l4, .int a, l6, l7, l8] (.int a :: st) v x := vE_s rfl rfl
theorem q66_38 : vE 66 38 [l0, l1, l2, l3, l4, l5, l6, l7, l8] st v x ↔ vE 66 40 [l0, l1, l2, l3, l4, l5, l6, l7, l8] (.int 7 :: st) v x := vE_s rfl (by rfl)
theorem q66_40 : vE 66 40 [l0, l1, l2, l3, l4, l5, l6, l7, l8] (.int b :: .int a :: st) v x ↔ if a < b then vE 66 50 [l0, l1, l2, l3, l4, l5, l6, l7, l8] st v x else vE 66 43 [l0, l1, l2, l3, l4, l5, l6, l7, l8] st v x := vE_if rfl rfl
theorem q66_43 : vE 66 43 [l0, l1, l2, l3, l4, l5, .int a, l7, l8] st v x ↔ vE 66 45 [l0, l1, l2, l3, l4, l5, .int a, l7, l8] (.int a :: st) v x := vE_s rfl rfl
theorem q66_45 : vE 66 45 [l0, l1, l2, l3, l4, l5, l6, l7, l8] st v x ↔ vE 66 47 [l0, l1, l2, l3, l4, l5, l6, l7, l8] (.int 7 :: st) v x := vE_s rfl (by rfl)
theorem q66_47 : vE 66 47 [l0, l1, l2, l3, l4, l5, l6, l7, l8] (.int b :: .int a :: st) v x ↔ if b ≤ a then vE 66 80 [l0, l1, l2, l3, l4, l5, l6, l7, l8] st v x else vE 66 50 [l0, l1, l2, l3, l4, l5, l6, l7, l8] st v x := vE_if rfl rfl
theorem q66_50 : vE 66 50 [l0, l1, l2, l3, l4, l5, l6, .int a, l8] st v x ↔ vE 66 52 [l0, l1, l2, l3, l4, l5, l6, .int a, l8] (.int a :: st) v x := vE_s rfl rfl
theorem q66_52 : vE 66 52 [l0, l1, l2, l3, l4, l5, l6, l7, .int a] st v x ↔ vE 66 54 [l0, l1, l2, l3, l4, l5, l6, l7, .int a] (.int a :: st) v x := vE_s rfl rfl
theorem q66_54 : vE 66 54 [l0, l1, l2, l3, l4, l5, l6, l7, l8] (.int b :: .int a :: st) v x ↔ if a = b then vE 66 80 [l0, l1, l2, l3, l4, l5, l6, l7, l8] st v x else vE 66 57 [l0, l1, l2, l3, l4, l5, l6, l7, l8] st v x := vE_if rfl rfl
theorem q66_57 : vE 66 57 [l0, .ref p, l2, l3, l4, l5, l6, l7, l8] st v x ↔ vE 66 58 [l0, .ref p, l2, l3, l4, l5, l6, l7, l8] (.ref p :: st) v x := vE_s rfl rfl
theorem q66_58 : vE 66 58 [l0, l1, .int a, l3, l4, l5, l6, l7, l8] st v x ↔ vE 66 59 [l0, l1, .int a, l3, l4, l5, l6, l7, l8] (.int a :: st) v x := vE_s rfl rfl
theorem q66_59 : vE 66 59 [l0, l1, l2, .int a, l4, l5, l6, l7, l8] st v x ↔ vE 66 60 [l0, l1, l2, .int a, l4, l5, l6, l7, l8] (.int a :: st) v x := vE_s rfl rfl
theorem q66_60 : vE 66 60 [l0, l1, l2, l3, l4, l5, l6, l7, .int a] st v x ↔ vE 66 62 [l0, l1, l2, l3, l4, l5, l6, l7, .int a] (.int a :: st) v x := vE_s rfl rfl
theorem q66_62 : vE 66 62 [l0, l1, l2, l3, l4, l5, l6, l7, l8] (w3 :: w2 :: w1 :: w0 :: st) v x ↔ ∃ y : vm_Y, vE 61 0 [w0, w1, w2, w3, .retAddr 0] [] v y ∧ vB 66 62 [l0, l1, l2, l3, l4, l5, l6, l7, l8] st y x := vE_cv rfl rfl rfl rfl
theorem q66_65 : vE 66 65 [l0, l1, l2, l3, l4, l5, l6, l7, l8] (.int a :: st) v x ↔ if a = 0 then vE 66 68 [l0, l1, l2, l3, l4, l5, l6, l7, l8] st v x else vE 66 80 [l0, l1, l2, l3, l4, l5, l6, l7, l8] st v x := vE_if rfl rfl
theorem q66_68 : vE 66 68 [l0, .ref p, l2, l3, l4, l5, l6, l7, l8] st v x ↔ vE 66 69 [l0, .ref p, l2, l3, l4, l5, l6, l7, l8] (.ref p :: st) v x := vE_s rfl rfl
theorem q66_69 : vE 66 69 [l0, l1, .int a, l3, l4, l5, l6, l7, l8] st v x ↔ vE 66 70 [l0, l1, .int a, l3, l4, l5, l6, l7, l8] (.int a :: st) v x := vE_s rfl rfl
theorem q66_70 : vE 66 70 [l0, l1, l2, l3, .int a, l5, l6, l7, l8] st v x ↔ vE 66 72 [l0, l1, l2, l3, .int a, l5, l6, l7, l8] (.int a :: st) v x := vE_s rfl rfl
theorem q66_72 : vE 66 72 [l0, l1, l2, l3, l4, l5, l6, .int a, l8] st v x ↔ vE 66 74 [l0, l1, l2, l3, l4, l5, l6, .int a, l8] (.int a :: st) v x := vE_s rfl rfl
theorem q66_74 : vE 66 74 [l0, l1, l2, l3, l4, l5, l6, l7, l8] (w3 :: w2 :: w1 :: w0 :: st) v x ↔ ∃ y : vm_Y, vE 61 0 [w0, w1, w2, w3, .retAddr 0] [] v y ∧ vB 66 74 [l0, l1, l2, l3, l4, l5, l6, l7, l8] st y x := vE_cv rfl rfl rfl rfl
theorem q66_77 : vE 66 77 [l0, l1, l2, l3, l4, l5, l6, l7, l8] (.int a :: st) v x ↔ if a = 0 then vE 66 84 [l0, l1, l2, l3, l4, l5, l6, l7, l8] st v x else vE 66 80 [l0, l1, l2, l3, l4, l5, l6, l7, l8] st v x := vE_if rfl rfl
theorem q66_80 : vE 66 80 [l0, l1, l2, l3, l4, l5, l6, l7, l8] st v x ↔ vE 66 81 [l0, l1, l2, l3, l4, l5, l6, l7, l8] (.int 1 :: st) v x := vE_s rfl (by rfl)
theorem q66_81 : vE 66 81 [l0, l1, l2, l3, l4, l5, l6, l7, l8] st v x ↔ vE 66 85 [l0, l1, l2, l3, l4, l5, l6, l7, l8] st v x := vE_s rfl rfl
theorem q66_84 : vE 66 84 [l0, l1, l2, l3, l4, l5, l6, l7, l8] st v x ↔ vE 66 85 [l0, l1, l2, l3, l4, l5, l6, l7, l8] (.int 0 :: st) v x := vE_s rfl (by rfl)
theorem q66_85 : vE 66 85 [l0, l1, l2, l3, l4, l5, l6, l7, l8] ([.int a]) v x ↔ x = vr a v := vE_ir rfl
theorem qt66 {X pc : Nat} {L r : List Value} : vB 66 pc L r (vt X v) x ↔ x = vt X v := vB_t rfl
/-! 67 java/lang/Math.max(II)I -/
theorem q67_0 : vE 67 0 [.int a, l1] st v x ↔ vE 67 1 [.int a, l1] (.int a :: st) v x := vE_s rfl rfl
theorem q67_1 : vE 67 1 [l0, .int a] st v x ↔ vE 67 2 [l0, .int a] (.int a :: st) v x := vE_s rfl rfl
theorem q67_2 : vE 67 2 [l0, l1] (.int b :: .int a :: st) v x ↔ if a < b then vE 67 9 [l0, l1] st v x else vE 67 5 [l0, l1] st v x := vE_if rfl rfl
theorem q67_5 : vE 67 5 [.int a, l1] st v x ↔ vE 67 6 [.int a, l1] (.int a :: st) v x := vE_s rfl rfl
theorem q67_6 : vE 67 6 [l0, l1] st v x ↔ vE 67 10 [l0, l1] st v x := vE_s rfl rfl
theorem q67_9 : vE 67 9 [l0, .int a] st v x ↔ vE 67 10 [l0, .int a] (.int a :: st) v x := vE_s rfl rfl
theorem q67_10 : vE 67 10 [l0, l1] ([.int a]) v x ↔ x = vr a v := vE_ir rfl
/-! 68 PassChecker$Orderer.findNext(LPassChecker$Program;II)I -/
theorem q68_0 : vE 68 0 [l0, l1, l2, l3, l4, l5, l6] st v x ↔ vE 68 1 [l0, l1, l2, l3, l4, l5, l6] (.int (-1) :: st) v x := vE_s rfl (by rfl)
theorem q68_1 : vE 68 1 [l0, l1, l2, l3, l4, l5, l6] (.int a :: st) v x ↔ vE 68 3 [l0, l1, l2, l3, .int a, l5, l6] st v x := vE_s rfl rfl
theorem q68_3 : vE 68 3 [l0, l1, l2, l3, l4, l5, l6] st v x ↔ vE 68 4 [l0, l1, l2, l3, l4, l5, l6] (.int 0 :: st) v x := vE_s rfl (by rfl)
theorem q68_4 : vE 68 4 [l0, l1, l2, l3, l4, l5, l6] (.int a :: st) v x ↔ vE 68 6 [l0, l1, l2, l3, l4, .int a, l6] st v x := vE_s rfl rfl
theorem q68_6 : vE 68 6 [l0, l1, l2, l3, l4, l5, l6] st v x ↔ vE 68 7 [l0, l1, l2, l3, l4, l5, l6] (.int 0 :: st) v x := vE_s rfl (by rfl)
theorem q68_7 : vE 68 7 [l0, l1, l2, l3, l4, l5, l6] (.int a :: st) v x ↔ vE 68 9 [l0, l1, l2, l3, l4, l5, .int a] st v x := vE_s rfl rfl
theorem q68_9 : vE 68 9 [l0, l1, l2, l3, l4, l5, .int a] st v x ↔ vE 68 11 [l0, l1, l2, l3, l4, l5, .int a] (.int a :: st) v x := vE_s rfl rfl
theorem q68_11 : vE 68 11 [l0, l1, l2, .int a, l4, l5, l6] st v x ↔ vE 68 12 [l0, l1, l2, .int a, l4, l5, l6] (.int a :: st) v x := vE_s rfl rfl
theorem q68_12 : vE 68 12 [l0, l1, l2, l3, l4, l5, l6] (.int b :: .int a :: st) v x ↔ if b ≤ a then vE 68 74 [l0, l1, l2, l3, l4, l5, l6] st v x else vE 68 15 [l0, l1, l2, l3, l4, l5, l6] st v x := vE_if rfl rfl
theorem q68_15 : vE 68 15 [l0, l1, l2, l3, l4, l5, .int a] st v x ↔ vE 68 17 [l0, l1, l2, l3, l4, l5, .int a] (.int a :: st) v x := vE_s rfl rfl
theorem q68_17 : vE 68 17 [l0, l1, l2, l3, l4, l5, l6] st v x ↔ vE 68 19 [l0, l1, l2, l3, l4, l5, l6] (.int 8 :: st) v x := vE_s rfl (by rfl)
theorem q68_19 : vE 68 19 [l0, l1, l2, l3, l4, l5, l6] (.int b :: .int a :: st) v x ↔ if b ≤ a then vE 68 74 [l0, l1, l2, l3, l4, l5, l6] st v x else vE 68 22 [l0, l1, l2, l3, l4, l5, l6] st v x := vE_if rfl rfl
theorem q68_22 : vE 68 22 [.ref p, l1, l2, l3, l4, l5, l6] st v x ↔ vE 68 23 [.ref p, l1, l2, l3, l4, l5, l6] (.ref p :: st) v x := vE_s rfl rfl
theorem q68_23 : vE 68 23 [l0, l1, l2, l3, l4, l5, l6] (.ref p :: st) v x ↔ vE 68 26 [l0, l1, l2, l3, l4, l5, l6] (.ref (p + 2) :: st) v x := vE_s rfl rfl
theorem q68_26 : vE 68 26 [l0, l1, l2, l3, l4, l5, .int a] st v x ↔ vE 68 28 [l0, l1, l2, l3, l4, l5, .int a] (.int a :: st) v x := vE_s rfl rfl
theorem q68_28 : vE 68 28 [l0, l1, l2, l3, l4, l5, l6] (.int a :: .ref p :: st) v x ↔ vE 68 29 [l0, l1, l2, l3, l4, l5, l6] (.int (v.1 p a.toNatClampNeg) :: st) v x := vE_s rfl rfl
theorem q68_29 : vE 68 29 [l0, l1, l2, l3, l4, l5, l6] (.int a :: st) v x ↔ if a = 0 then vE 68 32 [l0, l1, l2, l3, l4, l5, l6] st v x else vE 68 68 [l0, l1, l2, l3, l4, l5, l6] st v x := vE_if rfl rfl
theorem q68_32 : vE 68 32 [.ref p, l1, l2, l3, l4, l5, l6] st v x ↔ vE 68 33 [.ref p, l1, l2, l3, l4, l5, l6] (.ref p :: st) v x := vE_s rfl rfl
theorem q68_33 : vE 68 33 [l0, l1, l2, l3, l4, l5, l6] (.ref p :: st) v x ↔ vE 68 36 [l0, l1, l2, l3, l4, l5, l6] (.ref (p + 1) :: st) v x := vE_s rfl rfl
theorem q68_36 : vE 68 36 [l0, l1, l2, l3, l4, l5, .int a] st v x ↔ vE 68 38 [l0, l1, l2, l3, l4, l5, .int a] (.int a :: st) v x := vE_s rfl rfl
theorem q68_38 : vE 68 38 [l0, l1, l2, l3, l4, l5, l6] (.int a :: .ref p :: st) v x ↔ vE 68 39 [l0, l1, l2, l3, l4, l5, l6] (.int (v.1 p a.toNatClampNeg) :: st) v x := vE_s rfl rfl
theorem q68_39 : vE 68 39 [l0, l1, l2, l3, l4, .int a, l6] st v x ↔ vE 68 41 [l0, l1, l2, l3, l4, .int a, l6] (.int a :: st) v x := vE_s rfl rfl
theorem q68_41 : vE 68 41 [l0, l1, l2, l3, l4, l5, l6] (.int b :: .int a :: st) v x ↔ if a ≤ b then vE 68 68 [l0, l1, l2, l3, l4, l5, l6] st v x else vE 68 44 [l0, l1, l2, l3, l4, l5, l6] st v x := vE_if rfl rfl
theorem q68_44 : vE 68 44 [.ref p, l1, l2, l3, l4, l5, l6] st v x ↔ vE 68 45 [.ref p, l1, l2, l3, l4, l5, l6] (.ref p :: st) v x := vE_s rfl rfl
theorem q68_45 : vE 68 45 [l0, .ref p, l2, l3, l4, l5, l6] st v x ↔ vE 68 46 [l0, .ref p, l2, l3, l4, l5, l6] (.ref p :: st) v x := vE_s rfl rfl
theorem q68_46 : vE 68 46 [l0, l1, .int a, l3, l4, l5, l6] st v x ↔ vE 68 47 [l0, l1, .int a, l3, l4, l5, l6] (.int a :: st) v x := vE_s rfl rfl
theorem q68_47 : vE 68 47 [l0, l1, l2, l3, l4, l5, .int a] st v x ↔ vE 68 49 [l0, l1, l2, l3, l4, l5, .int a] (.int a :: st) v x := vE_s rfl rfl
theorem q68_49 : vE 68 49 [l0, l1, l2, l3, l4, l5, l6] (w3 :: w2 :: w1 :: w0 :: st) v x ↔ ∃ y : vm_Y, vE 69 0 [w0, w1, w2, w3, .retAddr 0] [] v y ∧ vB 68 49 [l0, l1, l2, l3, l4, l5, l6] st y x := vE_cv rfl rfl rfl rfl
theorem q68_52 : vE 68 52 [l0, l1, l2, l3, l4, l5, l6] (.int a :: st) v x ↔ if a = 0 then vE 68 68 [l0, l1, l2, l3, l4, l5, l6] st v x else vE 68 55 [l0, l1, l2, l3, l4, l5, l6] st v x := vE_if rfl rfl
theorem q68_55 : vE 68 55 [l0, l1, l2, l3, l4, l5, .int a] st v x ↔ vE 68 57 [l0, l1, l2, l3, l4, l5, .int a] (.int a :: st) v x := vE_s rfl rfl
theorem q68_57 : vE 68 57 [l0, l1, l2, l3, l4, l5, l6] (.int a :: st) v x ↔ vE 68 59 [l0, l1, l2, l3, .int a, l5, l6] st v x := vE_s rfl rfl
theorem q68_59 : vE 68 59 [.ref p, l1, l2, l3, l4, l5, l6] st v x ↔ vE 68 60 [.ref p, l1, l2, l3, l4, l5, l6] (.ref p :: st) v x := vE_s rfl rfl
theorem q68_60 : vE 68 60 [l0, l1, l2, l3, l4, l5, l6] (.ref p :: st) v x ↔ vE 68 63 [l0, l1, l2, l3, l4, l5, l6] (.ref (p + 1) :: st) v x := vE_s rfl rfl
theorem q68_63 : vE 68 63 [l0, l1, l2, l3, l4, l5, .int a] st v x ↔ vE 68 65 [l0, l1, l2, l3, l4, l5, .int a] (.int a :: st) v x := vE_s rfl rfl
theorem q68_65 : vE 68 65 [l0, l1, l2, l3, l4, l5, l6] (.int a :: .ref p :: st) v x ↔ vE 68 66 [l0, l1, l2, l3, l4, l5, l6] (.int (v.1 p a.toNatClampNeg) :: st) v x := vE_s rfl rfl
theorem q68_66 : vE 68 66 [l0, l1, l2, l3, l4, l5, l6] (.int a :: st) v x ↔ vE 68 68 [l0, l1, l2, l3, l4, .int a, l6] st v x := vE_s rfl rfl
theorem q68_68 : vE 68 68 [l0, l1, l2, l3, l4, l5, .int a] st v x ↔ vE 68 71 [l0, l1, l2, l3, l4, l5, .int (a + 1)] st v x := vE_s rfl rfl
theorem q68_71 : vE 68 71 [l0, l1, l2, l3, l4, l5, l6] st v x ↔ vE 68 9 [l0, l1, l2, l3, l4, l5, l6] st v x := vE_s rfl rfl
theorem q68_74 : vE 68 74 [l0, l1, l2, l3, .int a, l5, l6] st v x ↔ vE 68 76 [l0, l1, l2, l3, .int a, l5, l6] (.int a :: st) v x := vE_s rfl rfl
theorem q68_76 : vE 68 76 [l0, l1, l2, l3, l4, l5, l6] ([.int a]) v x ↔ x = vr a v := vE_ir rfl
theorem qt68 {X pc : Nat} {L r : List Value} : vB 68 pc L r (vt X v) x ↔ x = vt X v := vB_t rfl
/-! 69 PassChecker$Orderer.isFree(LPassChecker$Program;II)Z -/
theorem q69_0 : vE 69 0 [l0, l1, l2, l3, l4] st v x ↔ vE 69 1 [l0, l1, l2, l3, l4] (.int 0 :: st) v x := vE_s rfl (by rfl)
theorem q69_1 : vE 69 1 [l0, l1, l2, l3, l4] (.int a :: st) v x ↔ vE 69 3 [l0, l1, l2, l3, .int a] st v x := vE_s rfl rfl
theorem q69_3 : vE 69 3 [l0, l1, l2, l3, .int a] st v x ↔ vE 69 5 [l0, l1, l2, l3, .int a] (.int a :: st) v x := vE_s rfl rfl
theorem q69_5 : vE 69 5 [l0, l1, l2, .int a, l4] st v x ↔ vE 69 6 [l0, l1, l2, .int a, l4] (.int a :: st) v x := vE_s rfl rfl
theorem q69_6 : vE 69 6 [l0, l1, l2, l3, l4] (.int b :: .int a :: st) v x ↔ if b ≤ a then vE 69 46 [l0, l1, l2, l3, l4] st v x else vE 69 9 [l0, l1, l2, l3, l4] st v x := vE_if rfl rfl
theorem q69_9 : vE 69 9 [l0, l1, l2, l3, .int a] st v x ↔ vE 69 11 [l0, l1, l2, l3, .int a] (.int a :: st) v x := vE_s rfl rfl
theorem q69_11 : vE 69 11 [l0, l1, l2, l3, l4] st v x ↔ vE 69 13 [l0, l1, l2, l3, l4] (.int 8 :: st) v x := vE_s rfl (by rfl)
theorem q69_13 : vE 69 13 [l0, l1, l2, l3, l4] (.int b :: .int a :: st) v x ↔ if b ≤ a then vE 69 46 [l0, l1, l2, l3, l4] st v x else vE 69 16 [l0, l1, l2, l3, l4] st v x := vE_if rfl rfl
theorem q69_16 : vE 69 16 [.ref p, l1, l2, l3, l4] st v x ↔ vE 69 17 [.ref p, l1, l2, l3, l4] (.ref p :: st) v x := vE_s rfl rfl
theorem q69_17 : vE 69 17 [l0, l1, l2, l3, l4] (.ref p :: st) v x ↔ vE 69 20 [l0, l1, l2, l3, l4] (.ref (p + 2) :: st) v x := vE_s rfl rfl
theorem q69_20 : vE 69 20 [l0, l1, l2, l3, .int a] st v x ↔ vE 69 22 [l0, l1, l2, l3, .int a] (.int a :: st) v x := vE_s rfl rfl
theorem q69_22 : vE 69 22 [l0, l1, l2, l3, l4] (.int a :: .ref p :: st) v x ↔ vE 69 23 [l0, l1, l2, l3, l4] (.int (v.1 p a.toNatClampNeg) :: st) v x := vE_s rfl rfl
theorem q69_23 : vE 69 23 [l0, l1, l2, l3, l4] (.int a :: st) v x ↔ if a = 0 then vE 69 26 [l0, l1, l2, l3, l4] st v x else vE 69 40 [l0, l1, l2, l3, l4] st v x := vE_if rfl rfl
theorem q69_26 : vE 69 26 [.ref p, l1, l2, l3, l4] st v x ↔ vE 69 27 [.ref p, l1, l2, l3, l4] (.ref p :: st) v x := vE_s rfl rfl
theorem q69_27 : vE 69 27 [l0, .ref p, l2, l3, l4] st v x ↔ vE 69 28 [l0, .ref p, l2, l3, l4] (.ref p :: st) v x := vE_s rfl rfl
theorem q69_28 : vE 69 28 [l0, l1, .int a, l3, l4] st v x ↔ vE 69 29 [l0, l1, .int a, l3, l4] (.int a :: st) v x := vE_s rfl rfl
theorem q69_29 : vE 69 29 [l0, l1, l2, .int a, l4] st v x ↔ vE 69 30 [l0, l1, l2, .int a, l4] (.int a :: st) v x := vE_s rfl rfl
theorem q69_30 : vE 69 30 [l0, l1, l2, l3, .int a] st v x ↔ vE 69 32 [l0, l1, l2, l3, .int a] (.int a :: st) v x := vE_s rfl rfl
theorem q69_32 : vE 69 32 [l0, l1, l2, l3, l4] (w4 :: w3 :: w2 :: w1 :: w0 :: st) v x ↔ ∃ y : vm_Y, vE 66 0 [w0, w1, w2, w3, w4, .retAddr 0, .retAddr 0, .retAddr 0, .retAddr 0] [] v y ∧ vB 69 32 [l0, l1, l2, l3, l4] st y x := vE_cv rfl rfl rfl rfl
theorem q69_35 : vE 69 35 [l0, l1, l2, l3, l4] (.int a :: st) v x ↔ if a = 0 then vE 69 40 [l0, l1, l2, l3, l4] st v x else vE 69 38 [l0, l1, l2, l3, l4] st v x := vE_if rfl rfl
theorem q69_38 : vE 69 38 [l0, l1, l2, l3, l4] st v x ↔ vE 69 39 [l0, l1, l2, l3, l4] (.int 0 :: st) v x := vE_s rfl (by rfl)
theorem q69_39 : vE 69 39 [l0, l1, l2, l3, l4] ([.int a]) v x ↔ x = vr a v := vE_ir rfl
theorem q69_40 : vE 69 40 [l0, l1, l2, l3, .int a] st v x ↔ vE 69 43 [l0, l1, l2, l3, .int (a + 1)] st v x := vE_s rfl rfl
theorem q69_43 : vE 69 43 [l0, l1, l2, l3, l4] st v x ↔ vE 69 3 [l0, l1, l2, l3, l4] st v x := vE_s rfl rfl
theorem q69_46 : vE 69 46 [l0, l1, l2, l3, l4] st v x ↔ vE 69 47 [l0, l1, l2, l3, l4] (.int 1 :: st) v x := vE_s rfl (by rfl)
theorem q69_47 : vE 69 47 [l0, l1, l2, l3, l4] ([.int a]) v x ↔ x = vr a v := vE_ir rfl
theorem qt69 {X pc : Nat} {L r : List Value} : vB 69 pc L r (vt X v) x ↔ x = vt X v := vB_t rfl
/-! 70 PassChecker$Program.differencesFrom(LPassChecker$Program;)I -/
theorem q70_0 : vE 70 0 [l0, l1, l2, l3, l4, l5] st v x ↔ vE 70 1 [l0, l1, l2, l3, l4, l5] (.int 0 :: st) v x := vE_s rfl (by rfl)
theorem q70_1 : vE 70 1 [l0, l1, l2, l3, l4, l5] (.int a :: st) v x ↔ vE 70 2 [l0, l1, .int a, l3, l4, l5] st v x := vE_s rfl rfl
theorem q70_2 : vE 70 2 [l0, l1, l2, l3, l4, l5] st v x ↔ vE 70 3 [l0, l1, l2, l3, l4, l5] (.int 0 :: st) v x := vE_s rfl (by rfl)
theorem q70_3 : vE 70 3 [l0, l1, l2, l3, l4, l5] (.int a :: st) v x ↔ vE 70 4 [l0, l1, l2, .int a, l4, l5] st v x := vE_s rfl rfl
theorem q70_4 : vE 70 4 [l0, l1, l2, .int a, l4, l5] st v x ↔ vE 70 5 [l0, l1, l2, .int a, l4, l5] (.int a :: st) v x := vE_s rfl rfl
theorem q70_5 : vE 70 5 [.ref p, l1, l2, l3, l4, l5] st v x ↔ vE 70 6 [.ref p, l1, l2, l3, l4, l5] (.ref p :: st) v x := vE_s rfl rfl
theorem q70_6 : vE 70 6 [l0, l1, l2, l3, l4, l5] (.ref p :: st) v x ↔ vE 70 9 [l0, l1, l2, l3, l4, l5] (.int (v.1 p 3) :: st) v x := vE_s rfl rfl
theorem q70_9 : vE 70 9 [l0, l1, l2, l3, l4, l5] (.int b :: .int a :: st) v x ↔ if b ≤ a then vE 70 67 [l0, l1, l2, l3, l4, l5] st v x else vE 70 12 [l0, l1, l2, l3, l4, l5] st v x := vE_if rfl rfl
theorem q70_12 : vE 70 12 [.ref p, l1, l2, l3, l4, l5] st v x ↔ vE 70 13 [.ref p, l1, l2, l3, l4, l5] (.ref p :: st) v x := vE_s rfl rfl
theorem q70_13 : vE 70 13 [l0, l1, l2, .int a, l4, l5] st v x ↔ vE 70 14 [l0, l1, l2, .int a, l4, l5] (.int a :: st) v x := vE_s rfl rfl
theorem q70_14 : vE 70 14 [l0, l1, l2, l3, l4, l5] (w1 :: w0 :: st) v x ↔ ∃ y : vm_Y, vE 31 0 [w0, w1] [] v y ∧ vB 70 14 [l0, l1, l2, l3, l4, l5] st y x := vE_cv rfl rfl rfl rfl
theorem q70_17 : vE 70 17 [l0, l1, l2, l3, l4, l5] (.int a :: st) v x ↔ vE 70 19 [l0, l1, l2, l3, .int a, l5] st v x := vE_s rfl rfl
theorem q70_19 : vE 70 19 [l0, l1, l2, l3, l4, l5] st v x ↔ vE 70 20 [l0, l1, l2, l3, l4, l5] (.int 0 :: st) v x := vE_s rfl (by rfl)
theorem q70_20 : vE 70 20 [l0, l1, l2, l3, l4, l5] (.int a :: st) v x ↔ vE 70 22 [l0, l1, l2, l3, l4, .int a] st v x := vE_s rfl rfl
theorem q70_22 : vE 70 22 [l0, l1, l2, l3, l4, .int a] st v x ↔ vE 70 24 [l0, l1, l2, l3, l4, .int a] (.int a :: st) v x := vE_s rfl rfl
theorem q70_24 : vE 70 24 [l0, l1, l2, l3, .int a, l5] st v x ↔ vE 70 26 [l0, l1, l2, l3, .int a, l5] (.int a :: st) v x := vE_s rfl rfl
theorem q70_26 : vE 70 26 [l0, l1, l2, l3, l4, l5] (.int b :: .int a :: st) v x ↔ if b ≤ a then vE 70 49 [l0, l1, l2, l3, l4, l5] st v x else vE 70 29 [l0, l1, l2, l3, l4, l5] st v x := vE_if rfl rfl
theorem q70_29 : vE 70 29 [.ref p, l1, l2, l3, l4, l5] st v x ↔ vE 70 30 [.ref p, l1, l2, l3, l4, l5] (.ref p :: st) v x := vE_s rfl rfl
theorem q70_30 : vE 70 30 [l0, .ref p, l2, l3, l4, l5] st v x ↔ vE 70 31 [l0, .ref p, l2, l3, l4, l5] (.ref p :: st) v x := vE_s rfl rfl
theorem q70_31 : vE 70 31 [l0, l1, l2, .int a, l4, l5] st v x ↔ vE 70 32 [l0, l1, l2, .int a, l4, l5] (.int a :: st) v x := vE_s rfl rfl
theorem q70_32 : vE 70 32 [l0, l1, l2, l3, l4, .int a] st v x ↔ vE 70 34 [l0, l1, l2, l3, l4, .int a] (.int a :: st) v x := vE_s rfl rfl
theorem q70_34 : vE 70 34 [l0, l1, l2, l3, l4, l5] (w3 :: w2 :: w1 :: w0 :: st) v x ↔ ∃ y : vm_Y, vE 71 0 [w0, w1, w2, w3, .retAddr 0] [] v y ∧ vB 70 34 [l0, l1, l2, l3, l4, l5] st y x := vE_cv rfl rfl rfl rfl
theorem q70_37 : vE 70 37 [l0, l1, l2, l3, l4, l5] (.int a :: st) v x ↔ if a = 0 then vE 70 43 [l0, l1, l2, l3, l4, l5] st v x else vE 70 40 [l0, l1, l2, l3, l4, l5] st v x := vE_if rfl rfl
theorem q70_40 : vE 70 40 [l0, l1, .int a, l3, l4, l5] st v x ↔ vE 70 43 [l0, l1, .int (a + 1), l3, l4, l5] st v x := vE_s rfl rfl
theorem q70_43 : vE 70 43 [l0, l1, l2, l3, l4, .int a] st v x ↔ vE 70 46 [l0, l1, l2, l3, l4, .int (a + 1)] st v x := vE_s rfl rfl
theorem q70_46 : vE 70 46 [l0, l1, l2, l3, l4, l5] st v x ↔ vE 70 22 [l0, l1, l2, l3, l4, l5] st v x := vE_s rfl rfl
theorem q70_49 : vE 70 49 [.ref p, l1, l2, l3, l4, l5] st v x ↔ vE 70 50 [.ref p, l1, l2, l3, l4, l5] (.ref p :: st) v x := vE_s rfl rfl
theorem q70_50 : vE 70 50 [l0, .ref p, l2, l3, l4, l5] st v x ↔ vE 70 51 [l0, .ref p, l2, l3, l4, l5] (.ref p :: st) v x := vE_s rfl rfl
theorem q70_51 : vE 70 51 [l0, l1, l2, .int a, l4, l5] st v x ↔ vE 70 52 [l0, l1, l2, .int a, l4, l5] (.int a :: st) v x := vE_s rfl rfl
theorem q70_52 : vE 70 52 [l0, l1, l2, l3, l4, l5] (w2 :: w1 :: w0 :: st) v x ↔ ∃ y : vm_Y, vE 72 0 [w0, w1, w2, .retAddr 0] [] v y ∧ vB 70 52 [l0, l1, l2, l3, l4, l5] st y x := vE_cv rfl rfl rfl rfl
theorem q70_55 : vE 70 55 [l0, l1, l2, l3, l4, l5] (.int a :: st) v x ↔ if a = 0 then vE 70 61 [l0, l1, l2, l3, l4, l5] st v x else vE 70 58 [l0, l1, l2, l3, l4, l5] st v x := vE_if rfl rfl
theorem q70_58 : vE 70 58 [l0, l1, .int a, l3, l4, l5] st v x ↔ vE 70 61 [l0, l1, .int (a + 1), l3, l4, l5] st v x := vE_s rfl rfl
theorem q70_61 : vE 70 61 [l0, l1, l2, .int a, l4, l5] st v x ↔ vE 70 64 [l0, l1, l2, .int (a + 1), l4, l5] st v x := vE_s rfl rfl
theorem q70_64 : vE 70 64 [l0, l1, l2, l3, l4, l5] st v x ↔ vE 70 4 [l0, l1, l2, l3, l4, l5] st v x := vE_s rfl rfl
theorem q70_67 : vE 70 67 [l0, l1, .int a, l3, l4, l5] st v x ↔ vE 70 68 [l0, l1, .int a, l3, l4, l5] (.int a :: st) v x := vE_s rfl rfl
theorem q70_68 : vE 70 68 [l0, l1, l2, l3, l4, l5] ([.int a]) v x ↔ x = vr a v := vE_ir rfl
theorem qt70 {X pc : Nat} {L r : List Value} : vB 70 pc L r (vt X v) x ↔ x = vt X v := vB_t rfl
/-! 71 PassChecker$Program.hasOtherCode(LPassChecker$Program;II)Z -/
theorem q71_0 : vE 71 0 [l0, l1, l2, l3, l4] st v x ↔ vE 71 1 [l0, l1, l2, l3, l4] (.int 0 :: st) v x := vE_s rfl (by rfl)
theorem q71_1 : vE 71 1 [l0, l1, l2, l3, l4] (.int a :: st) v x ↔ vE 71 3 [l0, l1, l2, l3, .int a] st v x := vE_s rfl rfl
theorem q71_3 : vE 71 3 [l0, l1, l2, l3, .int a] st v x ↔ vE 71 5 [l0, l1, l2, l3, .int a] (.int a :: st) v x := vE_s rfl rfl
theorem q71_5 : vE 71 5 [l0, l1, l2, l3, l4] st v x ↔ vE 71 6 [l0, l1, l2, l3, l4] (.int 4 :: st) v x := vE_s rfl (by rfl)
theorem q71_6 : vE 71 6 [l0, l1, l2, l3, l4] (.int b :: .int a :: st) v x ↔ if b ≤ a then vE 71 36 [l0, l1, l2, l3, l4] st v x else vE 71 9 [l0, l1, l2, l3, l4] st v x := vE_if rfl rfl
theorem q71_9 : vE 71 9 [.ref p, l1, l2, l3, l4] st v x ↔ vE 71 10 [.ref p, l1, l2, l3, l4] (.ref p :: st) v x := vE_s rfl rfl
theorem q71_10 : vE 71 10 [l0, l1, .int a, l3, l4] st v x ↔ vE 71 11 [l0, l1, .int a, l3, l4] (.int a :: st) v x := vE_s rfl rfl
theorem q71_11 : vE 71 11 [l0, l1, l2, .int a, l4] st v x ↔ vE 71 12 [l0, l1, l2, .int a, l4] (.int a :: st) v x := vE_s rfl rfl
theorem q71_12 : vE 71 12 [l0, l1, l2, l3, .int a] st v x ↔ vE 71 14 [l0, l1, l2, l3, .int a] (.int a :: st) v x := vE_s rfl rfl
theorem q71_14 : vE 71 14 [l0, l1, l2, l3, l4] (w3 :: w2 :: w1 :: w0 :: st) v x ↔ ∃ y : vm_Y, vE 47 0 [w0, w1, w2, w3, .retAddr 0] [] v y ∧ vB 71 14 [l0, l1, l2, l3, l4] st y x := vE_cv rfl rfl rfl rfl
theorem q71_17 : vE 71 17 [l0, .ref p, l2, l3, l4] st v x ↔ vE 71 18 [l0, .ref p, l2, l3, l4] (.ref p :: st) v x := vE_s rfl rfl
theorem q71_18 : vE 71 18 [l0, l1, .int a, l3, l4] st v x ↔ vE 71 19 [l0, l1, .int a, l3, l4] (.int a :: st) v x := vE_s rfl rfl
theorem q71_19 : vE 71 19 [l0, l1, l2, .int a, l4] st v x ↔ vE 71 20 [l0, l1, l2, .int a, l4] (.int a :: st) v x := vE_s rfl rfl
theorem q71_20 : vE 71 20 [l0, l1, l2, l3, .int a] st v x ↔ vE 71 22 [l0, l1, l2, l3, .int a] (.int a :: st) v x := vE_s rfl rfl
theorem q71_22 : vE 71 22 [l0, l1, l2, l3, l4] (w3 :: w2 :: w1 :: w0 :: st) v x ↔ ∃ y : vm_Y, vE 47 0 [w0, w1, w2, w3, .retAddr 0] [] v y ∧ vB 71 22 [l0, l1, l2, l3, l4] st y x := vE_cv rfl rfl rfl rfl
theorem q71_25 : vE 71 25 [l0, l1, l2, l3, l4] (.int b :: .int a :: st) v x ↔ if a = b then vE 71 30 [l0, l1, l2, l3, l4] st v x else vE 71 28 [l0, l1, l2, l3, l4] st v x := vE_if rfl rfl
theorem q71_28 : vE 71 28 [l0, l1, l2, l3, l4] st v x ↔ vE 71 29 [l0, l1, l2, l3, l4] (.int 1 :: st) v x := vE_s rfl (by rfl)
theorem q71_29 : vE 71 29 [l0, l1, l2, l3, l4] ([.int a]) v x ↔ x = vr a v := vE_ir rfl
theorem q71_30 : vE 71 30 [l0, l1, l2, l3, .int a] st v x ↔ vE 71 33 [l0, l1, l2, l3, .int (a + 1)] st v x := vE_s rfl rfl
theorem q71_33 : vE 71 33 [l0, l1, l2, l3, l4] st v x ↔ vE 71 3 [l0, l1, l2, l3, l4] st v x := vE_s rfl rfl
theorem q71_36 : vE 71 36 [l0, l1, l2, l3, l4] st v x ↔ vE 71 37 [l0, l1, l2, l3, l4] (.int 0 :: st) v x := vE_s rfl (by rfl)
theorem q71_37 : vE 71 37 [l0, l1, l2, l3, l4] ([.int a]) v x ↔ x = vr a v := vE_ir rfl
theorem qt71 {X pc : Nat} {L r : List Value} : vB 71 pc L r (vt X v) x ↔ x = vt X v := vB_t rfl
/-! 72 PassChecker$Program.hasOtherEnd(LPassChecker$Program;I)Z -/
theorem q72_0 : vE 72 0 [l0, l1, l2, l3] st v x ↔ vE 72 1 [l0, l1, l2, l3] (.int 0 :: st) v x := vE_s rfl (by rfl)
theorem q72_1 : vE 72 1 [l0, l1, l2, l3] (.int a :: st) v x ↔ vE 72 2 [l0, l1, l2, .int a] st v x := vE_s rfl rfl
theorem q72_2 : vE 72 2 [l0, l1, l2, .int a] st v x ↔ vE 72 3 [l0, l1, l2, .int a] (.int a :: st) v x := vE_s rfl rfl
theorem q72_3 : vE 72 3 [l0, l1, l2, l3] st v x ↔ vE 72 4 [l0, l1, l2, l3] (.int 4 :: st) v x := vE_s rfl (by rfl)
theorem q72_4 : vE 72 4 [l0, l1, l2, l3] (.int b :: .int a :: st) v x ↔ if b ≤ a then vE 72 30 [l0, l1, l2, l3] st v x else vE 72 7 [l0, l1, l2, l3] st v x := vE_if rfl rfl
theorem q72_7 : vE 72 7 [.ref p, l1, l2, l3] st v x ↔ vE 72 8 [.ref p, l1, l2, l3] (.ref p :: st) v x := vE_s rfl rfl
theorem q72_8 : vE 72 8 [l0, l1, .int a, l3] st v x ↔ vE 72 9 [l0, l1, .int a, l3] (.int a :: st) v x := vE_s rfl rfl
theorem q72_9 : vE 72 9 [l0, l1, l2, .int a] st v x ↔ vE 72 10 [l0, l1, l2, .int a] (.int a :: st) v x := vE_s rfl rfl
theorem q72_10 : vE 72 10 [l0, l1, l2, l3] (w2 :: w1 :: w0 :: st) v x ↔ ∃ y : vm_Y, vE 56 0 [w0, w1, w2] [] v y ∧ vB 72 10 [l0, l1, l2, l3] st y x := vE_cv rfl rfl rfl rfl
theorem q72_13 : vE 72 13 [l0, .ref p, l2, l3] st v x ↔ vE 72 14 [l0, .ref p, l2, l3] (.ref p :: st) v x := vE_s rfl rfl
theorem q72_14 : vE 72 14 [l0, l1, .int a, l3] st v x ↔ vE 72 15 [l0, l1, .int a, l3] (.int a :: st) v x := vE_s rfl rfl
theorem q72_15 : vE 72 15 [l0, l1, l2, .int a] st v x ↔ vE 72 16 [l0, l1, l2, .int a] (.int a :: st) v x := vE_s rfl rfl
theorem q72_16 : vE 72 16 [l0, l1, l2, l3] (w2 :: w1 :: w0 :: st) v x ↔ ∃ y : vm_Y, vE 56 0 [w0, w1, w2] [] v y ∧ vB 72 16 [l0, l1, l2, l3] st y x := vE_cv rfl rfl rfl rfl
theorem q72_19 : vE 72 19 [l0, l1, l2, l3] (.int b :: .int a :: st) v x ↔ if a = b then vE 72 24 [l0, l1, l2, l3] st v x else vE 72 22 [l0, l1, l2, l3] st v x := vE_if rfl rfl
theorem q72_22 : vE 72 22 [l0, l1, l2, l3] st v x ↔ vE 72 23 [l0, l1, l2, l3] (.int 1 :: st) v x := vE_s rfl (by rfl)
theorem q72_23 : vE 72 23 [l0, l1, l2, l3] ([.int a]) v x ↔ x = vr a v := vE_ir rfl
theorem q72_24 : vE 72 24 [l0, l1, l2, .int a] st v x ↔ vE 72 27 [l0, l1, l2, .int (a + 1)] st v x := vE_s rfl rfl
theorem q72_27 : vE 72 27 [l0, l1, l2, l3] st v x ↔ vE 72 2 [l0, l1, l2, l3] st v x := vE_s rfl rfl
theorem q72_30 : vE 72 30 [l0, l1, l2, l3] st v x ↔ vE 72 31 [l0, l1, l2, l3] (.int 0 :: st) v x := vE_s rfl (by rfl)
theorem q72_31 : vE 72 31 [l0, l1, l2, l3] ([.int a]) v x ↔ x = vr a v := vE_ir rfl
theorem qt72 {X pc : Nat} {L r : List Value} : vB 72 pc L r (vt X v) x ↔ x = vt X v := vB_t rfl
/-! 73 PassCheckerLaw.instruction(LPassChecker;IIII[J)I -/
theorem q73_0 : vE 73 0 [l0, l1, l2, l3, l4, .ref p, l6] st v x ↔ vE 73 2 [l0, l1, l2, l3, l4, .ref p, l6] (.ref p :: st) v x := vE_s rfl rfl
theorem q73_2 : vE 73 2 [l0, l1, l2, l3, l4, l5, l6] st v x ↔ vE 73 3 [l0, l1, l2, l3, l4, l5, l6] (.int 0 :: st) v x := vE_s rfl (by rfl)
theorem q73_3 : vE 73 3 [.ref p, l1, l2, l3, l4, l5, l6] st v x ↔ vE 73 4 [.ref p, l1, l2, l3, l4, l5, l6] (.ref p :: st) v x := vE_s rfl rfl
theorem q73_4 : vE 73 4 [l0, .int a, l2, l3, l4, l5, l6] st v x ↔ vE 73 5 [l0, .int a, l2, l3, l4, l5, l6] (.int a :: st) v x := vE_s rfl rfl
theorem q73_5 : vE 73 5 [l0, l1, .int a, l3, l4, l5, l6] st v x ↔ vE 73 6 [l0, l1, .int a, l3, l4, l5, l6] (.int a :: st) v x := vE_s rfl rfl
theorem q73_6 : vE 73 6 [l0, l1, l2, .int a, l4, l5, l6] st v x ↔ vE 73 7 [l0, l1, l2, .int a, l4, l5, l6] (.int a :: st) v x := vE_s rfl rfl
theorem q73_7 : vE 73 7 [l0, l1, l2, l3, .int a, l5, l6] st v x ↔ vE 73 9 [l0, l1, l2, l3, .int a, l5, l6] (.int a :: st) v x := vE_s rfl rfl
theorem q73_9 : vE 73 9 [l0, l1, l2, l3, l4, l5, l6] (w4 :: w3 :: w2 :: w1 :: w0 :: st) v x ↔ ∃ y : vm_Y, vE 74 0 [w0, w1, w2, w3, w4, .retAddr 0] [] v y ∧ vB 73 9 [l0, l1, l2, l3, l4, l5, l6] st y x := vE_cv rfl rfl rfl rfl
theorem q73_12 : vE 73 12 [l0, l1, l2, l3, l4, l5, l6] (.int a :: st) v x ↔ vE 73 13 [l0, l1, l2, l3, l4, l5, l6] (.long a.toInt64 :: st) v x := vE_s rfl rfl
theorem q73_13 : vE 73 13 [l0, l1, l2, l3, l4, l5, l6] (.long w :: .int a :: .ref p :: st) v x ↔ vE 73 14 [l0, l1, l2, l3, l4, l5, l6] st (vm_sl v p a.toNatClampNeg w) x := vE_s rfl rfl
theorem q73_14 : vE 73 14 [l0, l1, l2, l3, l4, l5, l6] st v x ↔ vE 73 25 [l0, l1, l2, l3, l4, l5, l6] st v x := vE_s rfl rfl
theorem q73_17 : vE 73 17 [l0, l1, l2, l3, l4, l5, l6] (.ref p :: st) v x ↔ vE 73 19 [l0, l1, l2, l3, l4, l5, .ref p] st v x := vE_s rfl rfl
theorem q73_19 : vE 73 19 [l0, l1, l2, l3, l4, l5, l6] st v x ↔ vE 73 20 [l0, l1, l2, l3, l4, l5, l6] (.int 1 :: st) v x := vE_s rfl (by rfl)
theorem q73_20 : vE 73 20 [l0, l1, l2, l3, l4, l5, l6] ([.int a]) v x ↔ x = vr a v := vE_ir rfl
theorem q73_21 : vE 73 21 [l0, l1, l2, l3, l4, l5, l6] (.ref p :: st) v x ↔ vE 73 23 [l0, l1, l2, l3, l4, l5, .ref p] st v x := vE_s rfl rfl
theorem q73_23 : vE 73 23 [l0, l1, l2, l3, l4, l5, l6] st v x ↔ vE 73 24 [l0, l1, l2, l3, l4, l5, l6] (.int 2 :: st) v x := vE_s rfl (by rfl)
theorem q73_24 : vE 73 24 [l0, l1, l2, l3, l4, l5, l6] ([.int a]) v x ↔ x = vr a v := vE_ir rfl
theorem q73_25 : vE 73 25 [l0, l1, l2, l3, l4, l5, l6] st v x ↔ vE 73 26 [l0, l1, l2, l3, l4, l5, l6] (.int 0 :: st) v x := vE_s rfl (by rfl)
theorem q73_26 : vE 73 26 [l0, l1, l2, l3, l4, l5, l6] ([.int a]) v x ↔ x = vr a v := vE_ir rfl
theorem qh73_9_10 {L r : List Value} : vB 73 9 L r (vt 10 v) x ↔ vE 73 17 L [.ref v.2.2.1] (vm_nx v) x := vB_h rfl
theorem qh73_9_12 {L r : List Value} : vB 73 9 L r (vt 12 v) x ↔ vE 73 21 L [.ref v.2.2.1] (vm_nx v) x := vB_h rfl
/-! 74 PassChecker.instruction(IIII)I -/
theorem q74_0 : vE 74 0 [.ref p, l1, l2, l3, l4, l5] st v x ↔ vE 74 1 [.ref p, l1, l2, l3, l4, l5] (.ref p :: st) v x := vE_s rfl rfl
theorem q74_1 : vE 74 1 [l0, .int a, l2, l3, l4, l5] st v x ↔ vE 74 2 [l0, .int a, l2, l3, l4, l5] (.int a :: st) v x := vE_s rfl rfl
theorem q74_2 : vE 74 2 [l0, l1, l2, l3, l4, l5] (w1 :: w0 :: st) v x ↔ ∃ y : vm_Y, vE 18 0 [w0, w1] [] v y ∧ vB 74 2 [l0, l1, l2, l3, l4, l5] st y x := vE_cv rfl rfl rfl rfl
theorem q74_5 : vE 74 5 [l0, l1, l2, l3, l4, l5] (.ref p :: st) v x ↔ vE 74 7 [l0, l1, l2, l3, l4, .ref p] st v x := vE_s rfl rfl
theorem q74_7 : vE 74 7 [l0, l1, l2, l3, l4, .ref p] st v x ↔ vE 74 9 [l0, l1, l2, l3, l4, .ref p] (.ref p :: st) v x := vE_s rfl rfl
theorem q74_9 : vE 74 9 [l0, l1, .int a, l3, l4, l5] st v x ↔ vE 74 10 [l0, l1, .int a, l3, l4, l5] (.int a :: st) v x := vE_s rfl rfl
theorem q74_10 : vE 74 10 [l0, l1, l2, .int a, l4, l5] st v x ↔ vE 74 11 [l0, l1, l2, .int a, l4, l5] (.int a :: st) v x := vE_s rfl rfl
theorem q74_11 : vE 74 11 [l0, l1, l2, l3, l4, l5] (w2 :: w1 :: w0 :: st) v x ↔ ∃ y : vm_Y, vE 34 0 [w0, w1, w2] [] v y ∧ vB 74 11 [l0, l1, l2, l3, l4, l5] st y x := vE_cv rfl rfl rfl rfl
theorem q74_14 : vE 74 14 [l0, l1, l2, l3, l4, l5] (.int a :: st) v x ↔ if a = 0 then vE 74 17 [l0, l1, l2, l3, l4, l5] st v x else vE 74 27 [l0, l1, l2, l3, l4, l5] st v x := vE_if rfl rfl
theorem q74_17 : vE 74 17 [l0, l1, l2, l3, l4, l5] st v x ↔ x = vt 10 v := vE_new rfl rfl
theorem q74_20 : vE 74 20 [l0, l1, l2, l3, l4, l5] (.ref p :: st) v x ↔ vE 74 21 [l0, l1, l2, l3, l4, l5] (.ref p :: .ref p :: st) v x := vE_s rfl rfl
theorem q74_27 : vE 74 27 [l0, l1, l2, l3, .int a, l5] st v x ↔ vE 74 29 [l0, l1, l2, l3, .int a, l5] (.int a :: st) v x := vE_s rfl rfl
theorem q74_29 : vE 74 29 [l0, l1, l2, l3, l4, l5] (.int a :: st) v x ↔ if a < 0 then vE 74 38 [l0, l1, l2, l3, l4, l5] st v x else vE 74 32 [l0, l1, l2, l3, l4, l5] st v x := vE_if rfl rfl
theorem q74_32 : vE 74 32 [l0, l1, l2, l3, .int a, l5] st v x ↔ vE 74 34 [l0, l1, l2, l3, .int a, l5] (.int a :: st) v x := vE_s rfl rfl
theorem q74_34 : vE 74 34 [l0, l1, l2, l3, l4, l5] st v x ↔ vE 74 35 [l0, l1, l2, l3, l4, l5] (.int 4 :: st) v x := vE_s rfl (by rfl)
theorem q74_35 : vE 74 35 [l0, l1, l2, l3, l4, l5] (.int b :: .int a :: st) v x ↔ if a < b then vE 74 48 [l0, l1, l2, l3, l4, l5] st v x else vE 74 38 [l0, l1, l2, l3, l4, l5] st v x := vE_if rfl rfl
theorem q74_38 : vE 74 38 [l0, l1, l2, l3, l4, l5] st v x ↔ x = vt 12 v := vE_new rfl rfl
theorem q74_41 : vE 74 41 [l0, l1, l2, l3, l4, l5] (.ref p :: st) v x ↔ vE 74 42 [l0, l1, l2, l3, l4, l5] (.ref p :: .ref p :: st) v x := vE_s rfl rfl
theorem q74_48 : vE 74 48 [l0, l1, l2, l3, l4, .ref p] st v x ↔ vE 74 50 [l0, l1, l2, l3, l4, .ref p] (.ref p :: st) v x := vE_s rfl rfl
theorem q74_50 : vE 74 50 [l0, l1, .int a, l3, l4, l5] st v x ↔ vE 74 51 [l0, l1, .int a, l3, l4, l5] (.int a :: st) v x := vE_s rfl rfl
theorem q74_51 : vE 74 51 [l0, l1, l2, .int a, l4, l5] st v x ↔ vE 74 52 [l0, l1, l2, .int a, l4, l5] (.int a :: st) v x := vE_s rfl rfl
theorem q74_52 : vE 74 52 [l0, l1, l2, l3, .int a, l5] st v x ↔ vE 74 54 [l0, l1, l2, l3, .int a, l5] (.int a :: st) v x := vE_s rfl rfl
theorem q74_54 : vE 74 54 [l0, l1, l2, l3, l4, l5] (w3 :: w2 :: w1 :: w0 :: st) v x ↔ ∃ y : vm_Y, vE 47 0 [w0, w1, w2, w3, .retAddr 0] [] v y ∧ vB 74 54 [l0, l1, l2, l3, l4, l5] st y x := vE_cv rfl rfl rfl rfl
theorem q74_57 : vE 74 57 [l0, l1, l2, l3, l4, l5] ([.int a]) v x ↔ x = vr a v := vE_ir rfl
theorem qt74 {X pc : Nat} {L r : List Value} : vB 74 pc L r (vt X v) x ↔ x = vt X v := vB_t rfl
/-! 75 PassCheckerLaw.ending(LPassChecker;III[J)I -/
theorem q75_0 : vE 75 0 [l0, l1, l2, l3, .ref p, l5] st v x ↔ vE 75 2 [l0, l1, l2, l3, .ref p, l5] (.ref p :: st) v x := vE_s rfl rfl
theorem q75_2 : vE 75 2 [l0, l1, l2, l3, l4, l5] st v x ↔ vE 75 3 [l0, l1, l2, l3, l4, l5] (.int 0 :: st) v x := vE_s rfl (by rfl)
theorem q75_3 : vE 75 3 [.ref p, l1, l2, l3, l4, l5] st v x ↔ vE 75 4 [.ref p, l1, l2, l3, l4, l5] (.ref p :: st) v x := vE_s rfl rfl
theorem q75_4 : vE 75 4 [l0, .int a, l2, l3, l4, l5] st v x ↔ vE 75 5 [l0, .int a, l2, l3, l4, l5] (.int a :: st) v x := vE_s rfl rfl
theorem q75_5 : vE 75 5 [l0, l1, .int a, l3, l4, l5] st v x ↔ vE 75 6 [l0, l1, .int a, l3, l4, l5] (.int a :: st) v x := vE_s rfl rfl
theorem q75_6 : vE 75 6 [l0, l1, l2, .int a, l4, l5] st v x ↔ vE 75 7 [l0, l1, l2, .int a, l4, l5] (.int a :: st) v x := vE_s rfl rfl
theorem q75_7 : vE 75 7 [l0, l1, l2, l3, l4, l5] (w3 :: w2 :: w1 :: w0 :: st) v x ↔ ∃ y : vm_Y, vE 76 0 [w0, w1, w2, w3, .retAddr 0] [] v y ∧ vB 75 7 [l0, l1, l2, l3, l4, l5] st y x := vE_cv rfl rfl rfl rfl
theorem q75_10 : vE 75 10 [l0, l1, l2, l3, l4, l5] (.int a :: st) v x ↔ vE 75 11 [l0, l1, l2, l3, l4, l5] (.long a.toInt64 :: st) v x := vE_s rfl rfl
theorem q75_11 : vE 75 11 [l0, l1, l2, l3, l4, l5] (.long w :: .int a :: .ref p :: st) v x ↔ vE 75 12 [l0, l1, l2, l3, l4, l5] st (vm_sl v p a.toNatClampNeg w) x := vE_s rfl rfl
theorem q75_12 : vE 75 12 [l0, l1, l2, l3, l4, l5] st v x ↔ vE 75 23 [l0, l1, l2, l3, l4, l5] st v x := vE_s rfl rfl
theorem q75_15 : vE 75 15 [l0, l1, l2, l3, l4, l5] (.ref p :: st) v x ↔ vE 75 17 [l0, l1, l2, l3, l4, .ref p] st v x := vE_s rfl rfl
theorem q75_17 : vE 75 17 [l0, l1, l2, l3, l4, l5] st v x ↔ vE 75 18 [l0, l1, l2, l3, l4, l5] (.int 1 :: st) v x := vE_s rfl (by rfl)
theorem q75_18 : vE 75 18 [l0, l1, l2, l3, l4, l5] ([.int a]) v x ↔ x = vr a v := vE_ir rfl
theorem q75_19 : vE 75 19 [l0, l1, l2, l3, l4, l5] (.ref p :: st) v x ↔ vE 75 21 [l0, l1, l2, l3, l4, .ref p] st v x := vE_s rfl rfl
theorem q75_21 : vE 75 21 [l0, l1, l2, l3, l4, l5] st v x ↔ vE 75 22 [l0, l1, l2, l3, l4, l5] (.int 2 :: st) v x := vE_s rfl (by rfl)
theorem q75_22 : vE 75 22 [l0, l1, l2, l3, l4, l5] ([.int a]) v x ↔ x = vr a v := vE_ir rfl
theorem q75_23 : vE 75 23 [l0, l1, l2, l3, l4, l5] st v x ↔ vE 75 24 [l0, l1, l2, l3, l4, l5] (.int 0 :: st) v x := vE_s rfl (by rfl)
theorem q75_24 : vE 75 24 [l0, l1, l2, l3, l4, l5] ([.int a]) v x ↔ x = vr a v := vE_ir rfl
theorem qh75_7_10 {L r : List Value} : vB 75 7 L r (vt 10 v) x ↔ vE 75 15 L [.ref v.2.2.1] (vm_nx v) x := vB_h rfl
theorem qh75_7_12 {L r : List Value} : vB 75 7 L r (vt 12 v) x ↔ vE 75 19 L [.ref v.2.2.1] (vm_nx v) x := vB_h rfl
/-! 76 PassChecker.ending(III)I -/
theorem q76_0 : vE 76 0 [.ref p, l1, l2, l3, l4] st v x ↔ vE 76 1 [.ref p, l1, l2, l3, l4] (.ref p :: st) v x := vE_s rfl rfl
theorem q76_1 : vE 76 1 [l0, .int a, l2, l3, l4] st v x ↔ vE 76 2 [l0, .int a, l2, l3, l4] (.int a :: st) v x := vE_s rfl rfl
theorem q76_2 : vE 76 2 [l0, l1, l2, l3, l4] (w1 :: w0 :: st) v x ↔ ∃ y : vm_Y, vE 18 0 [w0, w1] [] v y ∧ vB 76 2 [l0, l1, l2, l3, l4] st y x := vE_cv rfl rfl rfl rfl
theorem q76_5 : vE 76 5 [l0, l1, l2, l3, l4] (.ref p :: st) v x ↔ vE 76 7 [l0, l1, l2, l3, .ref p] st v x := vE_s rfl rfl
theorem q76_7 : vE 76 7 [l0, l1, l2, l3, .ref p] st v x ↔ vE 76 9 [l0, l1, l2, l3, .ref p] (.ref p :: st) v x := vE_s rfl rfl
theorem q76_9 : vE 76 9 [l0, l1, .int a, l3, l4] st v x ↔ vE 76 10 [l0, l1, .int a, l3, l4] (.int a :: st) v x := vE_s rfl rfl
theorem q76_10 : vE 76 10 [l0, l1, l2, l3, l4] (w1 :: w0 :: st) v x ↔ ∃ y : vm_Y, vE 25 0 [w0, w1] [] v y ∧ vB 76 10 [l0, l1, l2, l3, l4] st y x := vE_cs rfl rfl rfl rfl
theorem q76_13 : vE 76 13 [l0, l1, l2, .int a, l4] st v x ↔ vE 76 14 [l0, l1, l2, .int a, l4] (.int a :: st) v x := vE_s rfl rfl
theorem q76_14 : vE 76 14 [l0, l1, l2, l3, l4] (.int a :: st) v x ↔ if a < 0 then vE 76 22 [l0, l1, l2, l3, l4] st v x else vE 76 17 [l0, l1, l2, l3, l4] st v x := vE_if rfl rfl
theorem q76_17 : vE 76 17 [l0, l1, l2, .int a, l4] st v x ↔ vE 76 18 [l0, l1, l2, .int a, l4] (.int a :: st) v x := vE_s rfl rfl
theorem q76_18 : vE 76 18 [l0, l1, l2, l3, l4] st v x ↔ vE 76 19 [l0, l1, l2, l3, l4] (.int 4 :: st) v x := vE_s rfl (by rfl)
theorem q76_19 : vE 76 19 [l0, l1, l2, l3, l4] (.int b :: .int a :: st) v x ↔ if a ≤ b then vE 76 32 [l0, l1, l2, l3, l4] st v x else vE 76 22 [l0, l1, l2, l3, l4] st v x := vE_if rfl rfl
theorem q76_22 : vE 76 22 [l0, l1, l2, l3, l4] st v x ↔ x = vt 12 v := vE_new rfl rfl
theorem q76_25 : vE 76 25 [l0, l1, l2, l3, l4] (.ref p :: st) v x ↔ vE 76 26 [l0, l1, l2, l3, l4] (.ref p :: .ref p :: st) v x := vE_s rfl rfl
theorem q76_32 : vE 76 32 [l0, l1, l2, .int a, l4] st v x ↔ vE 76 33 [l0, l1, l2, .int a, l4] (.int a :: st) v x := vE_s rfl rfl
theorem q76_33 : vE 76 33 [l0, l1, l2, l3, l4] st v x ↔ vE 76 34 [l0, l1, l2, l3, l4] (.int 4 :: st) v x := vE_s rfl (by rfl)
theorem q76_34 : vE 76 34 [l0, l1, l2, l3, l4] (.int b :: .int a :: st) v x ↔ if a = b then vE 76 37 [l0, l1, l2, l3, l4] st v x else vE 76 46 [l0, l1, l2, l3, l4] st v x := vE_if rfl rfl
theorem q76_37 : vE 76 37 [l0, l1, l2, l3, .ref p] st v x ↔ vE 76 39 [l0, l1, l2, l3, .ref p] (.ref p :: st) v x := vE_s rfl rfl
theorem q76_39 : vE 76 39 [l0, l1, .int a, l3, l4] st v x ↔ vE 76 40 [l0, l1, .int a, l3, l4] (.int a :: st) v x := vE_s rfl rfl
theorem q76_40 : vE 76 40 [l0, l1, l2, l3, l4] (w1 :: w0 :: st) v x ↔ ∃ y : vm_Y, vE 31 0 [w0, w1] [] v y ∧ vB 76 40 [l0, l1, l2, l3, l4] st y x := vE_cv rfl rfl rfl rfl
theorem q76_43 : vE 76 43 [l0, l1, l2, l3, l4] st v x ↔ vE 76 53 [l0, l1, l2, l3, l4] st v x := vE_s rfl rfl
theorem q76_46 : vE 76 46 [l0, l1, l2, l3, .ref p] st v x ↔ vE 76 48 [l0, l1, l2, l3, .ref p] (.ref p :: st) v x := vE_s rfl rfl
theorem q76_48 : vE 76 48 [l0, l1, .int a, l3, l4] st v x ↔ vE 76 49 [l0, l1, .int a, l3, l4] (.int a :: st) v x := vE_s rfl rfl
theorem q76_49 : vE 76 49 [l0, l1, l2, .int a, l4] st v x ↔ vE 76 50 [l0, l1, l2, .int a, l4] (.int a :: st) v x := vE_s rfl rfl
theorem q76_50 : vE 76 50 [l0, l1, l2, l3, l4] (w2 :: w1 :: w0 :: st) v x ↔ ∃ y : vm_Y, vE 56 0 [w0, w1, w2] [] v y ∧ vB 76 50 [l0, l1, l2, l3, l4] st y x := vE_cv rfl rfl rfl rfl
theorem q76_53 : vE 76 53 [l0, l1, l2, l3, l4] ([.int a]) v x ↔ x = vr a v := vE_ir rfl
theorem qt76 {X pc : Nat} {L r : List Value} : vB 76 pc L r (vt X v) x ↔ x = vt X v := vB_t rfl
end QC
