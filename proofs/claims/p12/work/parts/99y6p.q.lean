section QH
variable {l0 l1 l2 l3 l4 l5 l6 l7 l8 l9 l10 w0 w1 w2 w3 w4 w5 w6 w7 : Value} {st : List Value} {v : vm_V} {x : vm_Y} {a b c : Int32} {p q : Nat} {u w : Int64}
/-! 77 PassCheckerLaw.check(LPassChecker;[J)I -/
theorem q77_0 : vE 77 0 [l0, .ref p, l2] st v x ↔ vE 77 1 [l0, .ref p, l2] (.ref p :: st) v x := vE_s rfl rfl
theorem q77_1 : vE 77 1 [l0, l1, l2] st v x ↔ vE 77 2 [l0, l1, l2] (.int 0 :: st) v x := vE_s rfl (by rfl)
theorem q77_2 : vE 77 2 [.ref p, l1, l2] st v x ↔ vE 77 3 [.ref p, l1, l2] (.ref p :: st) v x := vE_s rfl rfl
theorem q77_3 : vE 77 3 [l0, l1, l2] (w0 :: st) v x ↔ ∃ y : vm_Y, vE 78 0 [w0, .retAddr 0, .retAddr 0, .retAddr 0] [] v y ∧ vB 77 3 [l0, l1, l2] st y x := vE_cv rfl rfl rfl rfl
theorem q77_6 : vE 77 6 [l0, l1, l2] (.int a :: st) v x ↔ vE 77 7 [l0, l1, l2] (.long a.toInt64 :: st) v x := vE_s rfl rfl
theorem q77_7 : vE 77 7 [l0, l1, l2] (.long w :: .int a :: .ref p :: st) v x ↔ vE 77 8 [l0, l1, l2] st (vm_sl v p a.toNatClampNeg w) x := vE_s rfl rfl
theorem q77_8 : vE 77 8 [l0, l1, l2] st v x ↔ vE 77 14 [l0, l1, l2] st v x := vE_s rfl rfl
theorem q77_11 : vE 77 11 [l0, l1, l2] (.ref p :: st) v x ↔ vE 77 12 [l0, l1, .ref p] st v x := vE_s rfl rfl
theorem q77_12 : vE 77 12 [l0, l1, l2] st v x ↔ vE 77 13 [l0, l1, l2] (.int 1 :: st) v x := vE_s rfl (by rfl)
theorem q77_13 : vE 77 13 [l0, l1, l2] ([.int a]) v x ↔ x = vr a v := vE_ir rfl
theorem q77_14 : vE 77 14 [l0, l1, l2] st v x ↔ vE 77 15 [l0, l1, l2] (.int 0 :: st) v x := vE_s rfl (by rfl)
theorem q77_15 : vE 77 15 [l0, l1, l2] ([.int a]) v x ↔ x = vr a v := vE_ir rfl
theorem qh77_3_13 {L r : List Value} : vB 77 3 L r (vt 13 v) x ↔ vE 77 11 L [.ref v.2.2.1] (vm_nx v) x := vB_h rfl
/-! 78 PassChecker.check()I -/
theorem q78_0 : vE 78 0 [.ref p, l1, l2, l3] st v x ↔ vE 78 1 [.ref p, l1, l2, l3] (.ref p :: st) v x := vE_s rfl rfl
theorem q78_1 : vE 78 1 [l0, l1, l2, l3] (.ref p :: st) v x ↔ vE 78 4 [l0, l1, l2, l3] (.ref (p + 16) :: st) v x := vE_s rfl rfl
theorem q78_4 : vE 78 4 [l0, l1, l2, l3] (w0 :: st) v x ↔ ∃ y : vm_Y, vE 79 0 [w0] [] v y ∧ vB 78 4 [l0, l1, l2, l3] st y x := vE_cv rfl rfl rfl rfl
theorem q78_7 : vE 78 7 [l0, l1, l2, l3] st v x ↔ vE 78 8 [l0, l1, l2, l3] (.int 0 :: st) v x := vE_s rfl (by rfl)
theorem q78_8 : vE 78 8 [l0, l1, l2, l3] (.int a :: st) v x ↔ vE 78 9 [l0, .int a, l2, l3] st v x := vE_s rfl rfl
theorem q78_9 : vE 78 9 [l0, .int a, l2, l3] st v x ↔ vE 78 10 [l0, .int a, l2, l3] (.int a :: st) v x := vE_s rfl rfl
theorem q78_10 : vE 78 10 [l0, l1, l2, l3] st v x ↔ vE 78 12 [l0, l1, l2, l3] (.int 6 :: st) v x := vE_s rfl (by rfl)
theorem q78_12 : vE 78 12 [l0, l1, l2, l3] (.int b :: .int a :: st) v x ↔ if b ≤ a then vE 78 76 [l0, l1, l2, l3] st v x else vE 78 15 [l0, l1, l2, l3] st v x := vE_if rfl rfl
theorem q78_15 : vE 78 15 [.ref p, l1, l2, l3] st v x ↔ vE 78 16 [.ref p, l1, l2, l3] (.ref p :: st) v x := vE_s rfl rfl
theorem q78_16 : vE 78 16 [l0, l1, l2, l3] (.ref p :: st) v x ↔ vE 78 19 [l0, l1, l2, l3] (.ref (p + 16) :: st) v x := vE_s rfl rfl
theorem q78_19 : vE 78 19 [l0, .int a, l2, l3] st v x ↔ vE 78 20 [l0, .int a, l2, l3] (.int a :: st) v x := vE_s rfl rfl
theorem q78_20 : vE 78 20 [l0, l1, l2, l3] (w1 :: w0 :: st) v x ↔ ∃ y : vm_Y, vE 83 0 [w0, w1] [] v y ∧ vB 78 20 [l0, l1, l2, l3] st y x := vE_cv rfl rfl rfl rfl
theorem q78_23 : vE 78 23 [l0, l1, l2, l3] (.int a :: st) v x ↔ if a = 0 then vE 78 76 [l0, l1, l2, l3] st v x else vE 78 26 [l0, l1, l2, l3] st v x := vE_if rfl rfl
theorem q78_26 : vE 78 26 [.ref p, l1, l2, l3] st v x ↔ vE 78 27 [.ref p, l1, l2, l3] (.ref p :: st) v x := vE_s rfl rfl
theorem q78_27 : vE 78 27 [l0, l1, l2, l3] (.ref p :: st) v x ↔ vE 78 30 [l0, l1, l2, l3] (.ref (p + 16) :: st) v x := vE_s rfl rfl
theorem q78_30 : vE 78 30 [l0, .int a, l2, l3] st v x ↔ vE 78 31 [l0, .int a, l2, l3] (.int a :: st) v x := vE_s rfl rfl
theorem q78_31 : vE 78 31 [l0, l1, l2, l3] (w1 :: w0 :: st) v x ↔ ∃ y : vm_Y, vE 84 0 [w0, w1] [] v y ∧ vB 78 31 [l0, l1, l2, l3] st y x := vE_cv rfl rfl rfl rfl
theorem q78_34 : vE 78 34 [l0, l1, l2, l3] (.int a :: st) v x ↔ vE 78 35 [l0, l1, .int a, l3] st v x := vE_s rfl rfl
theorem q78_35 : vE 78 35 [.ref p, l1, l2, l3] st v x ↔ vE 78 36 [.ref p, l1, l2, l3] (.ref p :: st) v x := vE_s rfl rfl
theorem q78_36 : vE 78 36 [l0, l1, l2, l3] (.ref p :: st) v x ↔ vE 78 39 [l0, l1, l2, l3] (.ref (p + 16) :: st) v x := vE_s rfl rfl
theorem q78_39 : vE 78 39 [l0, l1, .int a, l3] st v x ↔ vE 78 40 [l0, l1, .int a, l3] (.int a :: st) v x := vE_s rfl rfl
theorem q78_40 : vE 78 40 [l0, l1, l2, l3] (w1 :: w0 :: st) v x ↔ ∃ y : vm_Y, vE 85 0 [w0, w1] [] v y ∧ vB 78 40 [l0, l1, l2, l3] st y x := vE_cv rfl rfl rfl rfl
theorem q78_43 : vE 78 43 [l0, l1, l2, l3] (.int a :: st) v x ↔ vE 78 44 [l0, l1, l2, .int a] st v x := vE_s rfl rfl
theorem q78_44 : vE 78 44 [.ref p, l1, l2, l3] st v x ↔ vE 78 45 [.ref p, l1, l2, l3] (.ref p :: st) v x := vE_s rfl rfl
theorem q78_45 : vE 78 45 [l0, l1, l2, l3] (.ref p :: st) v x ↔ vE 78 48 [l0, l1, l2, l3] (.ref (p + 16) :: st) v x := vE_s rfl rfl
theorem q78_48 : vE 78 48 [.ref p, l1, l2, l3] st v x ↔ vE 78 49 [.ref p, l1, l2, l3] (.ref p :: st) v x := vE_s rfl rfl
theorem q78_49 : vE 78 49 [l0, l1, l2, l3] (.ref p :: st) v x ↔ vE 78 52 [l0, l1, l2, l3] (.ref (p + 1) :: st) v x := vE_s rfl rfl
theorem q78_52 : vE 78 52 [l0, l1, .int a, l3] st v x ↔ vE 78 53 [l0, l1, .int a, l3] (.int a :: st) v x := vE_s rfl rfl
theorem q78_53 : vE 78 53 [.ref p, l1, l2, l3] st v x ↔ vE 78 54 [.ref p, l1, l2, l3] (.ref p :: st) v x := vE_s rfl rfl
theorem q78_54 : vE 78 54 [l0, l1, l2, l3] (.ref p :: st) v x ↔ vE 78 57 [l0, l1, l2, l3] (.ref (p + 5) :: st) v x := vE_s rfl rfl
theorem q78_57 : vE 78 57 [l0, l1, l2, .int a] st v x ↔ vE 78 58 [l0, l1, l2, .int a] (.int a :: st) v x := vE_s rfl rfl
theorem q78_58 : vE 78 58 [l0, l1, l2, l3] (w4 :: w3 :: w2 :: w1 :: w0 :: st) v x ↔ ∃ y : vm_Y, vE 86 0 [w0, w1, w2, w3, w4] [] v y ∧ vB 78 58 [l0, l1, l2, l3] st y x := vE_cv rfl rfl rfl rfl
theorem q78_61 : vE 78 61 [.ref p, l1, l2, l3] st v x ↔ vE 78 62 [.ref p, l1, l2, l3] (.ref p :: st) v x := vE_s rfl rfl
theorem q78_62 : vE 78 62 [l0, l1, l2, l3] (.ref p :: st) v x ↔ vE 78 65 [l0, l1, l2, l3] (.ref (p + 16) :: st) v x := vE_s rfl rfl
theorem q78_65 : vE 78 65 [l0, l1, .int a, l3] st v x ↔ vE 78 66 [l0, l1, .int a, l3] (.int a :: st) v x := vE_s rfl rfl
theorem q78_66 : vE 78 66 [l0, l1, l2, .int a] st v x ↔ vE 78 67 [l0, l1, l2, .int a] (.int a :: st) v x := vE_s rfl rfl
theorem q78_67 : vE 78 67 [l0, l1, l2, l3] (w2 :: w1 :: w0 :: st) v x ↔ ∃ y : vm_Y, vE 111 0 [w0, w1, w2] [] v y ∧ vB 78 67 [l0, l1, l2, l3] st y x := vE_cv rfl rfl rfl rfl
theorem q78_70 : vE 78 70 [l0, .int a, l2, l3] st v x ↔ vE 78 73 [l0, .int (a + 1), l2, l3] st v x := vE_s rfl rfl
theorem q78_73 : vE 78 73 [l0, l1, l2, l3] st v x ↔ vE 78 9 [l0, l1, l2, l3] st v x := vE_s rfl rfl
theorem q78_76 : vE 78 76 [.ref p, l1, l2, l3] st v x ↔ vE 78 77 [.ref p, l1, l2, l3] (.ref p :: st) v x := vE_s rfl rfl
theorem q78_77 : vE 78 77 [l0, l1, l2, l3] st v x ↔ vE 78 78 [l0, l1, l2, l3] (.int 1 :: st) v x := vE_s rfl (by rfl)
theorem q78_78 : vE 78 78 [l0, l1, l2, l3] (.int a :: .ref p :: st) v x ↔ vE 78 81 [l0, l1, l2, l3] st (vm_si v p 7 a) x := vE_s rfl rfl
theorem q78_81 : vE 78 81 [.ref p, l1, l2, l3] st v x ↔ vE 78 82 [.ref p, l1, l2, l3] (.ref p :: st) v x := vE_s rfl rfl
theorem q78_82 : vE 78 82 [l0, l1, l2, l3] (.ref p :: st) v x ↔ vE 78 85 [l0, l1, l2, l3] (.ref (p + 16) :: st) v x := vE_s rfl rfl
theorem q78_85 : vE 78 85 [l0, l1, l2, l3] (w0 :: st) v x ↔ ∃ y : vm_Y, vE 119 0 [w0] [] v y ∧ vB 78 85 [l0, l1, l2, l3] st y x := vE_cv rfl rfl rfl rfl
theorem q78_88 : vE 78 88 [l0, l1, l2, l3] (.int a :: st) v x ↔ if a = 0 then vE 78 101 [l0, l1, l2, l3] st v x else vE 78 91 [l0, l1, l2, l3] st v x := vE_if rfl rfl
theorem q78_91 : vE 78 91 [l0, l1, l2, l3] st v x ↔ x = vt 13 v := vE_new rfl rfl
theorem q78_94 : vE 78 94 [l0, l1, l2, l3] (.ref p :: st) v x ↔ vE 78 95 [l0, l1, l2, l3] (.ref p :: .ref p :: st) v x := vE_s rfl rfl
theorem q78_101 : vE 78 101 [.ref p, l1, l2, l3] st v x ↔ vE 78 102 [.ref p, l1, l2, l3] (.ref p :: st) v x := vE_s rfl rfl
theorem q78_102 : vE 78 102 [l0, l1, l2, l3] (.ref p :: st) v x ↔ vE 78 105 [l0, l1, l2, l3] (.ref (p + 16) :: st) v x := vE_s rfl rfl
theorem q78_105 : vE 78 105 [l0, l1, l2, l3] (w0 :: st) v x ↔ ∃ y : vm_Y, vE 120 0 [w0] [] v y ∧ vB 78 105 [l0, l1, l2, l3] st y x := vE_cv rfl rfl rfl rfl
theorem q78_108 : vE 78 108 [l0, l1, l2, l3] ([.int a]) v x ↔ x = vr a v := vE_ir rfl
theorem qt78 {X pc : Nat} {L r : List Value} : vB 78 pc L r (vt X v) x ↔ x = vt X v := vB_t rfl
/-! 79 PassChecker$Checker.begin()V -/
theorem q79_0 : vE 79 0 [.ref p] st v x ↔ vE 79 1 [.ref p] (.ref p :: st) v x := vE_s rfl rfl
theorem q79_1 : vE 79 1 [l0] (.ref p :: st) v x ↔ vE 79 4 [l0] (.ref (p + 41) :: st) v x := vE_s rfl rfl
theorem q79_4 : vE 79 4 [l0] st v x ↔ vE 79 5 [l0] (.int (-1) :: st) v x := vE_s rfl (by rfl)
theorem q79_5 : vE 79 5 [l0] (w1 :: w0 :: st) v x ↔ ∃ y : vm_Y, vE 80 0 [w0, w1, .retAddr 0, .retAddr 0] [] v y ∧ vB 79 5 [l0] st y x := vE_cs rfl rfl rfl rfl
theorem q79_8 : vE 79 8 [.ref p] st v x ↔ vE 79 9 [.ref p] (.ref p :: st) v x := vE_s rfl rfl
theorem q79_9 : vE 79 9 [l0] st v x ↔ vE 79 10 [l0] (.int 0 :: st) v x := vE_s rfl (by rfl)
theorem q79_10 : vE 79 10 [l0] (.int a :: .ref p :: st) v x ↔ vE 79 13 [l0] st (vm_si v p 5 a) x := vE_s rfl rfl
theorem q79_13 : vE 79 13 [.ref p] st v x ↔ vE 79 14 [.ref p] (.ref p :: st) v x := vE_s rfl rfl
theorem q79_14 : vE 79 14 [l0] st v x ↔ vE 79 15 [l0] (.int 0 :: st) v x := vE_s rfl (by rfl)
theorem q79_15 : vE 79 15 [l0] (.int a :: .ref p :: st) v x ↔ vE 79 18 [l0] st (vm_si v p 6 a) x := vE_s rfl rfl
theorem q79_18 : vE 79 18 [.ref p] st v x ↔ vE 79 19 [.ref p] (.ref p :: st) v x := vE_s rfl rfl
theorem q79_19 : vE 79 19 [l0] st v x ↔ vE 79 20 [l0] (.int (-1) :: st) v x := vE_s rfl (by rfl)
theorem q79_20 : vE 79 20 [l0] (.int a :: .ref p :: st) v x ↔ vE 79 23 [l0] st (vm_si v p 7 a) x := vE_s rfl rfl
theorem q79_23 : vE 79 23 [.ref p] st v x ↔ vE 79 24 [.ref p] (.ref p :: st) v x := vE_s rfl rfl
theorem q79_24 : vE 79 24 [l0] st v x ↔ vE 79 25 [l0] (.int (-1) :: st) v x := vE_s rfl (by rfl)
theorem q79_25 : vE 79 25 [l0] (.int a :: .ref p :: st) v x ↔ vE 79 28 [l0] st (vm_si v p 8 a) x := vE_s rfl rfl
theorem q79_28 : vE 79 28 [.ref p] st v x ↔ vE 79 29 [.ref p] (.ref p :: st) v x := vE_s rfl rfl
theorem q79_29 : vE 79 29 [l0] st v x ↔ vE 79 30 [l0] (.int 0 :: st) v x := vE_s rfl (by rfl)
theorem q79_30 : vE 79 30 [l0] st v x ↔ vE 79 31 [l0] (.int 0 :: st) v x := vE_s rfl (by rfl)
theorem q79_31 : vE 79 31 [l0] (w2 :: w1 :: w0 :: st) v x ↔ ∃ y : vm_Y, vE 81 0 [w0, w1, w2] [] v y ∧ vB 79 31 [l0] st y x := vE_cv rfl rfl rfl rfl
theorem q79_34 : vE 79 34 [l0] [] v x ↔ x = vd v := vE_vr rfl
theorem qt79 {X pc : Nat} {L r : List Value} : vB 79 pc L r (vt X v) x ↔ x = vt X v := vB_t rfl
/-! 81 PassChecker$Checker.meet(II)V -/
theorem q81_0 : vE 81 0 [.ref p, l1, l2] st v x ↔ vE 81 1 [.ref p, l1, l2] (.ref p :: st) v x := vE_s rfl rfl
theorem q81_1 : vE 81 1 [l0, l1, l2] (.ref p :: st) v x ↔ vE 81 4 [l0, l1, l2] (.int (v.1 p 6) :: st) v x := vE_s rfl rfl
theorem q81_4 : vE 81 4 [l0, l1, l2] (.int a :: st) v x ↔ if a = 0 then vE 81 7 [l0, l1, l2] st v x else vE 81 27 [l0, l1, l2] st v x := vE_if rfl rfl
theorem q81_7 : vE 81 7 [l0, .int a, l2] st v x ↔ vE 81 8 [l0, .int a, l2] (.int a :: st) v x := vE_s rfl rfl
theorem q81_8 : vE 81 8 [l0, l1, l2] (.int a :: st) v x ↔ if a < 0 then vE 81 27 [l0, l1, l2] st v x else vE 81 11 [l0, l1, l2] st v x := vE_if rfl rfl
theorem q81_11 : vE 81 11 [l0, .int a, l2] st v x ↔ vE 81 12 [l0, .int a, l2] (.int a :: st) v x := vE_s rfl rfl
theorem q81_12 : vE 81 12 [l0, l1, l2] st v x ↔ vE 81 14 [l0, l1, l2] (.int 6 :: st) v x := vE_s rfl (by rfl)
theorem q81_14 : vE 81 14 [l0, l1, l2] (.int b :: .int a :: st) v x ↔ if b ≤ a then vE 81 27 [l0, l1, l2] st v x else vE 81 17 [l0, l1, l2] st v x := vE_if rfl rfl
theorem q81_17 : vE 81 17 [.ref p, l1, l2] st v x ↔ vE 81 18 [.ref p, l1, l2] (.ref p :: st) v x := vE_s rfl rfl
theorem q81_18 : vE 81 18 [l0, l1, l2] (.ref p :: st) v x ↔ vE 81 21 [l0, l1, l2] (.ref (p + 41) :: st) v x := vE_s rfl rfl
theorem q81_21 : vE 81 21 [l0, .int a, l2] st v x ↔ vE 81 22 [l0, .int a, l2] (.int a :: st) v x := vE_s rfl rfl
theorem q81_22 : vE 81 22 [l0, l1, l2] (.int a :: .ref p :: st) v x ↔ vE 81 23 [l0, l1, l2] (.int (v.1 p a.toNatClampNeg) :: st) v x := vE_s rfl rfl
theorem q81_23 : vE 81 23 [l0, l1, .int a] st v x ↔ vE 81 24 [l0, l1, .int a] (.int a :: st) v x := vE_s rfl rfl
theorem q81_24 : vE 81 24 [l0, l1, l2] (.int b :: .int a :: st) v x ↔ if a = b then vE 81 27 [l0, l1, l2] st v x else vE 81 28 [l0, l1, l2] st v x := vE_if rfl rfl
theorem q81_27 : vE 81 27 [l0, l1, l2] [] v x ↔ x = vd v := vE_vr rfl
theorem q81_28 : vE 81 28 [.ref p, l1, l2] st v x ↔ vE 81 29 [.ref p, l1, l2] (.ref p :: st) v x := vE_s rfl rfl
theorem q81_29 : vE 81 29 [l0, l1, l2] (.ref p :: st) v x ↔ vE 81 32 [l0, l1, l2] (.ref (p + 41) :: st) v x := vE_s rfl rfl
theorem q81_32 : vE 81 32 [l0, .int a, l2] st v x ↔ vE 81 33 [l0, .int a, l2] (.int a :: st) v x := vE_s rfl rfl
theorem q81_33 : vE 81 33 [l0, l1, l2] (.int a :: .ref p :: st) v x ↔ vE 81 34 [l0, l1, l2] (.int (v.1 p a.toNatClampNeg) :: st) v x := vE_s rfl rfl
theorem q81_34 : vE 81 34 [l0, l1, l2] st v x ↔ vE 81 35 [l0, l1, l2] (.int (-1) :: st) v x := vE_s rfl (by rfl)
theorem q81_35 : vE 81 35 [l0, l1, l2] (.int b :: .int a :: st) v x ↔ if a = b then vE 81 48 [l0, l1, l2] st v x else vE 81 38 [l0, l1, l2] st v x := vE_if rfl rfl
theorem q81_38 : vE 81 38 [.ref p, l1, l2] st v x ↔ vE 81 39 [.ref p, l1, l2] (.ref p :: st) v x := vE_s rfl rfl
theorem q81_39 : vE 81 39 [l0, l1, l2] st v x ↔ vE 81 40 [l0, l1, l2] (.int 1 :: st) v x := vE_s rfl (by rfl)
theorem q81_40 : vE 81 40 [l0, .int a, l2] st v x ↔ vE 81 41 [l0, .int a, l2] (.int a :: st) v x := vE_s rfl rfl
theorem q81_41 : vE 81 41 [l0, l1, .int a] st v x ↔ vE 81 42 [l0, l1, .int a] (.int a :: st) v x := vE_s rfl rfl
theorem q81_42 : vE 81 42 [l0, l1, l2] (w3 :: w2 :: w1 :: w0 :: st) v x ↔ ∃ y : vm_Y, vE 82 0 [w0, w1, w2, w3] [] v y ∧ vB 81 42 [l0, l1, l2] st y x := vE_cv rfl rfl rfl rfl
theorem q81_45 : vE 81 45 [l0, l1, l2] st v x ↔ vE 81 91 [l0, l1, l2] st v x := vE_s rfl rfl
theorem q81_48 : vE 81 48 [.ref p, l1, l2] st v x ↔ vE 81 49 [.ref p, l1, l2] (.ref p :: st) v x := vE_s rfl rfl
theorem q81_49 : vE 81 49 [l0, l1, l2] (.ref p :: st) v x ↔ vE 81 52 [l0, l1, l2] (.int (v.1 p 5) :: st) v x := vE_s rfl rfl
theorem q81_52 : vE 81 52 [l0, l1, l2] (.int a :: st) v x ↔ if a < 0 then vE 81 91 [l0, l1, l2] st v x else vE 81 55 [l0, l1, l2] st v x := vE_if rfl rfl
theorem q81_55 : vE 81 55 [.ref p, l1, l2] st v x ↔ vE 81 56 [.ref p, l1, l2] (.ref p :: st) v x := vE_s rfl rfl
theorem q81_56 : vE 81 56 [l0, l1, l2] (.ref p :: st) v x ↔ vE 81 59 [l0, l1, l2] (.int (v.1 p 5) :: st) v x := vE_s rfl rfl
theorem q81_59 : vE 81 59 [l0, l1, l2] st v x ↔ vE 81 61 [l0, l1, l2] (.int 6 :: st) v x := vE_s rfl (by rfl)
theorem q81_61 : vE 81 61 [l0, l1, l2] (.int b :: .int a :: st) v x ↔ if b ≤ a then vE 81 91 [l0, l1, l2] st v x else vE 81 64 [l0, l1, l2] st v x := vE_if rfl rfl
theorem q81_64 : vE 81 64 [.ref p, l1, l2] st v x ↔ vE 81 65 [.ref p, l1, l2] (.ref p :: st) v x := vE_s rfl rfl
theorem q81_65 : vE 81 65 [l0, l1, l2] (.ref p :: st) v x ↔ vE 81 68 [l0, l1, l2] (.ref (p + 41) :: st) v x := vE_s rfl rfl
theorem q81_68 : vE 81 68 [l0, .int a, l2] st v x ↔ vE 81 69 [l0, .int a, l2] (.int a :: st) v x := vE_s rfl rfl
theorem q81_69 : vE 81 69 [l0, l1, .int a] st v x ↔ vE 81 70 [l0, l1, .int a] (.int a :: st) v x := vE_s rfl rfl
theorem q81_70 : vE 81 70 [l0, l1, l2] (.int b :: .int a :: .ref p :: st) v x ↔ vE 81 71 [l0, l1, l2] st (vm_si v p a.toNatClampNeg b) x := vE_s rfl rfl
theorem q81_71 : vE 81 71 [.ref p, l1, l2] st v x ↔ vE 81 72 [.ref p, l1, l2] (.ref p :: st) v x := vE_s rfl rfl
theorem q81_72 : vE 81 72 [l0, l1, l2] (.ref p :: st) v x ↔ vE 81 75 [l0, l1, l2] (.ref (p + 42) :: st) v x := vE_s rfl rfl
theorem q81_75 : vE 81 75 [.ref p, l1, l2] st v x ↔ vE 81 76 [.ref p, l1, l2] (.ref p :: st) v x := vE_s rfl rfl
theorem q81_76 : vE 81 76 [l0, l1, l2] (.ref p :: st) v x ↔ vE 81 79 [l0, l1, l2] (.int (v.1 p 5) :: st) v x := vE_s rfl rfl
theorem q81_79 : vE 81 79 [l0, .int a, l2] st v x ↔ vE 81 80 [l0, .int a, l2] (.int a :: st) v x := vE_s rfl rfl
theorem q81_80 : vE 81 80 [l0, l1, l2] (.int b :: .int a :: .ref p :: st) v x ↔ vE 81 81 [l0, l1, l2] st (vm_si v p a.toNatClampNeg b) x := vE_s rfl rfl
theorem q81_81 : vE 81 81 [.ref p, l1, l2] st v x ↔ vE 81 82 [.ref p, l1, l2] (.ref p :: st) v x := vE_s rfl rfl
theorem q81_82 : vE 81 82 [l0, l1, l2] (.ref p :: st) v x ↔ vE 81 83 [l0, l1, l2] (.ref p :: .ref p :: st) v x := vE_s rfl rfl
theorem q81_83 : vE 81 83 [l0, l1, l2] (.ref p :: st) v x ↔ vE 81 86 [l0, l1, l2] (.int (v.1 p 5) :: st) v x := vE_s rfl rfl
theorem q81_86 : vE 81 86 [l0, l1, l2] st v x ↔ vE 81 87 [l0, l1, l2] (.int 1 :: st) v x := vE_s rfl (by rfl)
theorem q81_87 : vE 81 87 [l0, l1, l2] (.int b :: .int a :: st) v x ↔ vE 81 88 [l0, l1, l2] (.int (a + b) :: st) v x := vE_s rfl rfl
theorem q81_88 : vE 81 88 [l0, l1, l2] (.int a :: .ref p :: st) v x ↔ vE 81 91 [l0, l1, l2] st (vm_si v p 5 a) x := vE_s rfl rfl
theorem q81_91 : vE 81 91 [l0, l1, l2] [] v x ↔ x = vd v := vE_vr rfl
theorem qt81 {X pc : Nat} {L r : List Value} : vB 81 pc L r (vt X v) x ↔ x = vt X v := vB_t rfl
/-! 82 PassChecker$Checker.refuse(III)V -/
theorem q82_0 : vE 82 0 [.ref p, l1, l2, l3] st v x ↔ vE 82 1 [.ref p, l1, l2, l3] (.ref p :: st) v x := vE_s rfl rfl
theorem q82_1 : vE 82 1 [l0, .int a, l2, l3] st v x ↔ vE 82 2 [l0, .int a, l2, l3] (.int a :: st) v x := vE_s rfl rfl
theorem q82_2 : vE 82 2 [l0, l1, l2, l3] (.int a :: .ref p :: st) v x ↔ vE 82 5 [l0, l1, l2, l3] st (vm_si v p 6 a) x := vE_s rfl rfl
theorem q82_5 : vE 82 5 [.ref p, l1, l2, l3] st v x ↔ vE 82 6 [.ref p, l1, l2, l3] (.ref p :: st) v x := vE_s rfl rfl
theorem q82_6 : vE 82 6 [l0, l1, .int a, l3] st v x ↔ vE 82 7 [l0, l1, .int a, l3] (.int a :: st) v x := vE_s rfl rfl
theorem q82_7 : vE 82 7 [l0, l1, l2, l3] (.int a :: .ref p :: st) v x ↔ vE 82 10 [l0, l1, l2, l3] st (vm_si v p 7 a) x := vE_s rfl rfl
theorem q82_10 : vE 82 10 [.ref p, l1, l2, l3] st v x ↔ vE 82 11 [.ref p, l1, l2, l3] (.ref p :: st) v x := vE_s rfl rfl
theorem q82_11 : vE 82 11 [l0, l1, l2, .int a] st v x ↔ vE 82 12 [l0, l1, l2, .int a] (.int a :: st) v x := vE_s rfl rfl
theorem q82_12 : vE 82 12 [l0, l1, l2, l3] (.int a :: .ref p :: st) v x ↔ vE 82 15 [l0, l1, l2, l3] st (vm_si v p 8 a) x := vE_s rfl rfl
theorem q82_15 : vE 82 15 [l0, l1, l2, l3] [] v x ↔ x = vd v := vE_vr rfl
/-! 83 PassChecker$Checker.isWaiting(I)Z -/
theorem q83_0 : vE 83 0 [.ref p, l1] st v x ↔ vE 83 1 [.ref p, l1] (.ref p :: st) v x := vE_s rfl rfl
theorem q83_1 : vE 83 1 [l0, l1] (.ref p :: st) v x ↔ vE 83 4 [l0, l1] (.int (v.1 p 6) :: st) v x := vE_s rfl rfl
theorem q83_4 : vE 83 4 [l0, l1] (.int a :: st) v x ↔ if a = 0 then vE 83 7 [l0, l1] st v x else vE 83 19 [l0, l1] st v x := vE_if rfl rfl
theorem q83_7 : vE 83 7 [l0, .int a] st v x ↔ vE 83 8 [l0, .int a] (.int a :: st) v x := vE_s rfl rfl
theorem q83_8 : vE 83 8 [.ref p, l1] st v x ↔ vE 83 9 [.ref p, l1] (.ref p :: st) v x := vE_s rfl rfl
theorem q83_9 : vE 83 9 [l0, l1] (.ref p :: st) v x ↔ vE 83 12 [l0, l1] (.int (v.1 p 5) :: st) v x := vE_s rfl rfl
theorem q83_12 : vE 83 12 [l0, l1] (.int b :: .int a :: st) v x ↔ if b ≤ a then vE 83 19 [l0, l1] st v x else vE 83 15 [l0, l1] st v x := vE_if rfl rfl
theorem q83_15 : vE 83 15 [l0, l1] st v x ↔ vE 83 16 [l0, l1] (.int 1 :: st) v x := vE_s rfl (by rfl)
theorem q83_16 : vE 83 16 [l0, l1] st v x ↔ vE 83 20 [l0, l1] st v x := vE_s rfl rfl
theorem q83_19 : vE 83 19 [l0, l1] st v x ↔ vE 83 20 [l0, l1] (.int 0 :: st) v x := vE_s rfl (by rfl)
theorem q83_20 : vE 83 20 [l0, l1] ([.int a]) v x ↔ x = vr a v := vE_ir rfl
/-! 84 PassChecker$Checker.waitingInSource(I)I -/
theorem q84_0 : vE 84 0 [l0, .int a] st v x ↔ vE 84 1 [l0, .int a] (.int a :: st) v x := vE_s rfl rfl
theorem q84_1 : vE 84 1 [l0, l1] (.int a :: st) v x ↔ if a < 0 then vE 84 19 [l0, l1] st v x else vE 84 4 [l0, l1] st v x := vE_if rfl rfl
theorem q84_4 : vE 84 4 [l0, .int a] st v x ↔ vE 84 5 [l0, .int a] (.int a :: st) v x := vE_s rfl rfl
theorem q84_5 : vE 84 5 [l0, l1] st v x ↔ vE 84 7 [l0, l1] (.int 6 :: st) v x := vE_s rfl (by rfl)
theorem q84_7 : vE 84 7 [l0, l1] (.int b :: .int a :: st) v x ↔ if b ≤ a then vE 84 19 [l0, l1] st v x else vE 84 10 [l0, l1] st v x := vE_if rfl rfl
theorem q84_10 : vE 84 10 [.ref p, l1] st v x ↔ vE 84 11 [.ref p, l1] (.ref p :: st) v x := vE_s rfl rfl
theorem q84_11 : vE 84 11 [l0, l1] (.ref p :: st) v x ↔ vE 84 14 [l0, l1] (.ref (p + 42) :: st) v x := vE_s rfl rfl
theorem q84_14 : vE 84 14 [l0, .int a] st v x ↔ vE 84 15 [l0, .int a] (.int a :: st) v x := vE_s rfl rfl
theorem q84_15 : vE 84 15 [l0, l1] (.int a :: .ref p :: st) v x ↔ vE 84 16 [l0, l1] (.int (v.1 p a.toNatClampNeg) :: st) v x := vE_s rfl rfl
theorem q84_16 : vE 84 16 [l0, l1] st v x ↔ vE 84 20 [l0, l1] st v x := vE_s rfl rfl
theorem q84_19 : vE 84 19 [l0, l1] st v x ↔ vE 84 20 [l0, l1] (.int (-1) :: st) v x := vE_s rfl (by rfl)
theorem q84_20 : vE 84 20 [l0, l1] ([.int a]) v x ↔ x = vr a v := vE_ir rfl
/-! 85 PassChecker$Checker.partnerOf(I)I -/
theorem q85_0 : vE 85 0 [l0, .int a] st v x ↔ vE 85 1 [l0, .int a] (.int a :: st) v x := vE_s rfl rfl
theorem q85_1 : vE 85 1 [l0, l1] (.int a :: st) v x ↔ if a < 0 then vE 85 19 [l0, l1] st v x else vE 85 4 [l0, l1] st v x := vE_if rfl rfl
theorem q85_4 : vE 85 4 [l0, .int a] st v x ↔ vE 85 5 [l0, .int a] (.int a :: st) v x := vE_s rfl rfl
theorem q85_5 : vE 85 5 [l0, l1] st v x ↔ vE 85 7 [l0, l1] (.int 6 :: st) v x := vE_s rfl (by rfl)
theorem q85_7 : vE 85 7 [l0, l1] (.int b :: .int a :: st) v x ↔ if b ≤ a then vE 85 19 [l0, l1] st v x else vE 85 10 [l0, l1] st v x := vE_if rfl rfl
theorem q85_10 : vE 85 10 [.ref p, l1] st v x ↔ vE 85 11 [.ref p, l1] (.ref p :: st) v x := vE_s rfl rfl
theorem q85_11 : vE 85 11 [l0, l1] (.ref p :: st) v x ↔ vE 85 14 [l0, l1] (.ref (p + 41) :: st) v x := vE_s rfl rfl
theorem q85_14 : vE 85 14 [l0, .int a] st v x ↔ vE 85 15 [l0, .int a] (.int a :: st) v x := vE_s rfl rfl
theorem q85_15 : vE 85 15 [l0, l1] (.int a :: .ref p :: st) v x ↔ vE 85 16 [l0, l1] (.int (v.1 p a.toNatClampNeg) :: st) v x := vE_s rfl rfl
theorem q85_16 : vE 85 16 [l0, l1] st v x ↔ vE 85 20 [l0, l1] st v x := vE_s rfl rfl
theorem q85_19 : vE 85 19 [l0, l1] st v x ↔ vE 85 20 [l0, l1] (.int (-1) :: st) v x := vE_s rfl (by rfl)
theorem q85_20 : vE 85 20 [l0, l1] ([.int a]) v x ↔ x = vr a v := vE_ir rfl
/-! 86 PassChecker$Checker.workOut(LPassChecker$Program;ILPassChecker$Program;I)V -/
theorem q86_0 : vE 86 0 [.ref p, l1, l2, l3, l4] st v x ↔ vE 86 1 [.ref p, l1, l2, l3, l4] (.ref p :: st) v x := vE_s rfl rfl
theorem q86_1 : vE 86 1 [l0, l1, l2, l3, l4] (.ref p :: st) v x ↔ vE 86 4 [l0, l1, l2, l3, l4] (.ref (p + 1) :: st) v x := vE_s rfl rfl
theorem q86_4 : vE 86 4 [l0, l1, l2, l3, l4] (w0 :: st) v x ↔ ∃ y : vm_Y, vE 87 0 [w0, .retAddr 0] [] v y ∧ vB 86 4 [l0, l1, l2, l3, l4] st y x := vE_cv rfl rfl rfl rfl
theorem q86_7 : vE 86 7 [.ref p, l1, l2, l3, l4] st v x ↔ vE 86 8 [.ref p, l1, l2, l3, l4] (.ref p :: st) v x := vE_s rfl rfl
theorem q86_8 : vE 86 8 [l0, l1, l2, l3, l4] (.ref p :: st) v x ↔ vE 86 11 [l0, l1, l2, l3, l4] (.ref (p + 31) :: st) v x := vE_s rfl rfl
theorem q86_11 : vE 86 11 [.ref p, l1, l2, l3, l4] st v x ↔ vE 86 12 [.ref p, l1, l2, l3, l4] (.ref p :: st) v x := vE_s rfl rfl
theorem q86_12 : vE 86 12 [l0, l1, l2, l3, l4] (.ref p :: st) v x ↔ vE 86 15 [l0, l1, l2, l3, l4] (.ref (p + 1) :: st) v x := vE_s rfl rfl
theorem q86_15 : vE 86 15 [l0, .ref p, l2, l3, l4] st v x ↔ vE 86 16 [l0, .ref p, l2, l3, l4] (.ref p :: st) v x := vE_s rfl rfl
theorem q86_16 : vE 86 16 [l0, l1, .int a, l3, l4] st v x ↔ vE 86 17 [l0, l1, .int a, l3, l4] (.int a :: st) v x := vE_s rfl rfl
theorem q86_17 : vE 86 17 [l0, l1, l2, l3, l4] (w3 :: w2 :: w1 :: w0 :: st) v x ↔ ∃ y : vm_Y, vE 90 0 [w0, w1, w2, w3, .retAddr 0, .retAddr 0, .retAddr 0, .retAddr 0, .retAddr 0, .retAddr 0, .retAddr 0] [] v y ∧ vB 86 17 [l0, l1, l2, l3, l4] st y x := vE_cv rfl rfl rfl rfl
theorem q86_20 : vE 86 20 [.ref p, l1, l2, l3, l4] st v x ↔ vE 86 21 [.ref p, l1, l2, l3, l4] (.ref p :: st) v x := vE_s rfl rfl
theorem q86_21 : vE 86 21 [l0, l1, l2, l3, l4] (.ref p :: st) v x ↔ vE 86 24 [l0, l1, l2, l3, l4] (.ref (p + 36) :: st) v x := vE_s rfl rfl
theorem q86_24 : vE 86 24 [.ref p, l1, l2, l3, l4] st v x ↔ vE 86 25 [.ref p, l1, l2, l3, l4] (.ref p :: st) v x := vE_s rfl rfl
theorem q86_25 : vE 86 25 [l0, l1, l2, l3, l4] (.ref p :: st) v x ↔ vE 86 28 [l0, l1, l2, l3, l4] (.ref (p + 1) :: st) v x := vE_s rfl rfl
theorem q86_28 : vE 86 28 [l0, l1, l2, .ref p, l4] st v x ↔ vE 86 29 [l0, l1, l2, .ref p, l4] (.ref p :: st) v x := vE_s rfl rfl
theorem q86_29 : vE 86 29 [l0, l1, l2, l3, .int a] st v x ↔ vE 86 31 [l0, l1, l2, l3, .int a] (.int a :: st) v x := vE_s rfl rfl
theorem q86_31 : vE 86 31 [l0, l1, l2, l3, l4] (w3 :: w2 :: w1 :: w0 :: st) v x ↔ ∃ y : vm_Y, vE 90 0 [w0, w1, w2, w3, .retAddr 0, .retAddr 0, .retAddr 0, .retAddr 0, .retAddr 0, .retAddr 0, .retAddr 0] [] v y ∧ vB 86 31 [l0, l1, l2, l3, l4] st y x := vE_cv rfl rfl rfl rfl
theorem q86_34 : vE 86 34 [l0, l1, l2, l3, l4] [] v x ↔ x = vd v := vE_vr rfl
theorem qt86 {X pc : Nat} {L r : List Value} : vB 86 pc L r (vt X v) x ↔ x = vt X v := vB_t rfl
/-! 87 PassChecker$Values.begin()V -/
theorem q87_0 : vE 87 0 [.ref p, l1] st v x ↔ vE 87 1 [.ref p, l1] (.ref p :: st) v x := vE_s rfl rfl
theorem q87_1 : vE 87 1 [l0, l1] st v x ↔ vE 87 2 [l0, l1] (.int 0 :: st) v x := vE_s rfl (by rfl)
theorem q87_2 : vE 87 2 [l0, l1] (.int a :: .ref p :: st) v x ↔ vE 87 5 [l0, l1] st (vm_si v p 7 a) x := vE_s rfl rfl
theorem q87_5 : vE 87 5 [.ref p, l1] st v x ↔ vE 87 6 [.ref p, l1] (.ref p :: st) v x := vE_s rfl rfl
theorem q87_6 : vE 87 6 [l0, l1] st v x ↔ vE 87 7 [l0, l1] (.int 0 :: st) v x := vE_s rfl (by rfl)
theorem q87_7 : vE 87 7 [l0, l1] (.int a :: .ref p :: st) v x ↔ vE 87 10 [l0, l1] st (vm_si v p 8 a) x := vE_s rfl rfl
theorem q87_10 : vE 87 10 [l0, l1] st v x ↔ vE 87 11 [l0, l1] (.int 0 :: st) v x := vE_s rfl (by rfl)
theorem q87_11 : vE 87 11 [l0, l1] (.int a :: st) v x ↔ vE 87 12 [l0, .int a] st v x := vE_s rfl rfl
theorem q87_12 : vE 87 12 [l0, .int a] st v x ↔ vE 87 13 [l0, .int a] (.int a :: st) v x := vE_s rfl rfl
theorem q87_13 : vE 87 13 [l0, l1] st v x ↔ vE 87 15 [l0, l1] (.int 6 :: st) v x := vE_s rfl (by rfl)
theorem q87_15 : vE 87 15 [l0, l1] (.int b :: .int a :: st) v x ↔ if b ≤ a then vE 87 32 [l0, l1] st v x else vE 87 18 [l0, l1] st v x := vE_if rfl rfl
theorem q87_18 : vE 87 18 [.ref p, l1] st v x ↔ vE 87 19 [.ref p, l1] (.ref p :: st) v x := vE_s rfl rfl
theorem q87_19 : vE 87 19 [l0, l1] st v x ↔ vE 87 20 [l0, l1] (.int (-1) :: st) v x := vE_s rfl (by rfl)
theorem q87_20 : vE 87 20 [l0, .int a] st v x ↔ vE 87 21 [l0, .int a] (.int a :: st) v x := vE_s rfl rfl
theorem q87_21 : vE 87 21 [l0, l1] st v x ↔ vE 87 22 [l0, l1] (.int 0 :: st) v x := vE_s rfl (by rfl)
theorem q87_22 : vE 87 22 [l0, l1] (w3 :: w2 :: w1 :: w0 :: st) v x ↔ ∃ y : vm_Y, vE 88 0 [w0, w1, w2, w3, .retAddr 0, .retAddr 0] [] v y ∧ vB 87 22 [l0, l1] st y x := vE_cv rfl rfl rfl rfl
theorem q87_25 : vE 87 25 [l0, l1] (.int a :: st) v x ↔ vE 87 26 [l0, l1] st v x := vE_s rfl rfl
theorem q87_26 : vE 87 26 [l0, .int a] st v x ↔ vE 87 29 [l0, .int (a + 1)] st v x := vE_s rfl rfl
theorem q87_29 : vE 87 29 [l0, l1] st v x ↔ vE 87 12 [l0, l1] st v x := vE_s rfl rfl
theorem q87_32 : vE 87 32 [l0, l1] [] v x ↔ x = vd v := vE_vr rfl
theorem qt87 {X pc : Nat} {L r : List Value} : vB 87 pc L r (vt X v) x ↔ x = vt X v := vB_t rfl
/-! 88 PassChecker$Values.makeAtom(III)I -/
theorem q88_0 : vE 88 0 [l0, l1, l2, l3, l4, l5] st v x ↔ vE 88 1 [l0, l1, l2, l3, l4, l5] (.int 0 :: st) v x := vE_s rfl (by rfl)
theorem q88_1 : vE 88 1 [l0, l1, l2, l3, l4, l5] (.int a :: st) v x ↔ vE 88 3 [l0, l1, l2, l3, .int a, l5] st v x := vE_s rfl rfl
theorem q88_3 : vE 88 3 [l0, l1, l2, l3, .int a, l5] st v x ↔ vE 88 5 [l0, l1, l2, l3, .int a, l5] (.int a :: st) v x := vE_s rfl rfl
theorem q88_5 : vE 88 5 [.ref p, l1, l2, l3, l4, l5] st v x ↔ vE 88 6 [.ref p, l1, l2, l3, l4, l5] (.ref p :: st) v x := vE_s rfl rfl
theorem q88_6 : vE 88 6 [l0, l1, l2, l3, l4, l5] (.ref p :: st) v x ↔ vE 88 9 [l0, l1, l2, l3, l4, l5] (.int (v.1 p 8) :: st) v x := vE_s rfl rfl
theorem q88_9 : vE 88 9 [l0, l1, l2, l3, l4, l5] (.int b :: .int a :: st) v x ↔ if b ≤ a then vE 88 66 [l0, l1, l2, l3, l4, l5] st v x else vE 88 12 [l0, l1, l2, l3, l4, l5] st v x := vE_if rfl rfl
theorem q88_12 : vE 88 12 [l0, l1, l2, l3, .int a, l5] st v x ↔ vE 88 14 [l0, l1, l2, l3, .int a, l5] (.int a :: st) v x := vE_s rfl rfl
theorem q88_14 : vE 88 14 [l0, l1, l2, l3, l4, l5] st v x ↔ vE 88 16 [l0, l1, l2, l3, l4, l5] (.int 22 :: st) v x := vE_s rfl (by rfl)
theorem q88_16 : vE 88 16 [l0, l1, l2, l3, l4, l5] (.int b :: .int a :: st) v x ↔ if b ≤ a then vE 88 66 [l0, l1, l2, l3, l4, l5] st v x else vE 88 19 [l0, l1, l2, l3, l4, l5] st v x := vE_if rfl rfl
theorem q88_19 : vE 88 19 [.ref p, l1, l2, l3, l4, l5] st v x ↔ vE 88 20 [.ref p, l1, l2, l3, l4, l5] (.ref p :: st) v x := vE_s rfl rfl
theorem q88_20 : vE 88 20 [l0, l1, l2, l3, l4, l5] (.ref p :: st) v x ↔ vE 88 23 [l0, l1, l2, l3, l4, l5] (.ref (p + 25) :: st) v x := vE_s rfl rfl
theorem q88_23 : vE 88 23 [l0, l1, l2, l3, .int a, l5] st v x ↔ vE 88 25 [l0, l1, l2, l3, .int a, l5] (.int a :: st) v x := vE_s rfl rfl
theorem q88_25 : vE 88 25 [l0, l1, l2, l3, l4, l5] (.int a :: .ref p :: st) v x ↔ vE 88 26 [l0, l1, l2, l3, l4, l5] (.int (v.1 p a.toNatClampNeg) :: st) v x := vE_s rfl rfl
theorem q88_26 : vE 88 26 [l0, .int a, l2, l3, l4, l5] st v x ↔ vE 88 27 [l0, .int a, l2, l3, l4, l5] (.int a :: st) v x := vE_s rfl rfl
theorem q88_27 : vE 88 27 [l0, l1, l2, l3, l4, l5] (.int b :: .int a :: st) v x ↔ if a = b then vE 88 30 [l0, l1, l2, l3, l4, l5] st v x else vE 88 60 [l0, l1, l2, l3, l4, l5] st v x := vE_if rfl rfl
theorem q88_30 : vE 88 30 [.ref p, l1, l2, l3, l4, l5] st v x ↔ vE 88 31 [.ref p, l1, l2, l3, l4, l5] (.ref p :: st) v x := vE_s rfl rfl
theorem q88_31 : vE 88 31 [l0, l1, l2, l3, l4, l5] (.ref p :: st) v x ↔ vE 88 34 [l0, l1, l2, l3, l4, l5] (.ref (p + 26) :: st) v x := vE_s rfl rfl
theorem q88_34 : vE 88 34 [l0, l1, l2, l3, .int a, l5] st v x ↔ vE 88 36 [l0, l1, l2, l3, .int a, l5] (.int a :: st) v x := vE_s rfl rfl
theorem q88_36 : vE 88 36 [l0, l1, l2, l3, l4, l5] (.int a :: .ref p :: st) v x ↔ vE 88 37 [l0, l1, l2, l3, l4, l5] (.int (v.1 p a.toNatClampNeg) :: st) v x := vE_s rfl rfl
theorem q88_37 : vE 88 37 [l0, l1, .int a, l3, l4, l5] st v x ↔ vE 88 38 [l0, l1, .int a, l3, l4, l5] (.int a :: st) v x := vE_s rfl rfl
theorem q88_38 : vE 88 38 [l0, l1, l2, l3, l4, l5] (.int b :: .int a :: st) v x ↔ if a = b then vE 88 41 [l0, l1, l2, l3, l4, l5] st v x else vE 88 60 [l0, l1, l2, l3, l4, l5] st v x := vE_if rfl rfl
theorem q88_41 : vE 88 41 [.ref p, l1, l2, l3, l4, l5] st v x ↔ vE 88 42 [.ref p, l1, l2, l3, l4, l5] (.ref p :: st) v x := vE_s rfl rfl
theorem q88_42 : vE 88 42 [l0, l1, l2, l3, l4, l5] (.ref p :: st) v x ↔ vE 88 45 [l0, l1, l2, l3, l4, l5] (.ref (p + 27) :: st) v x := vE_s rfl rfl
theorem q88_45 : vE 88 45 [l0, l1, l2, l3, .int a, l5] st v x ↔ vE 88 47 [l0, l1, l2, l3, .int a, l5] (.int a :: st) v x := vE_s rfl rfl
theorem q88_47 : vE 88 47 [l0, l1, l2, l3, l4, l5] (.int a :: .ref p :: st) v x ↔ vE 88 48 [l0, l1, l2, l3, l4, l5] (.int (v.1 p a.toNatClampNeg) :: st) v x := vE_s rfl rfl
theorem q88_48 : vE 88 48 [l0, l1, l2, .int a, l4, l5] st v x ↔ vE 88 49 [l0, l1, l2, .int a, l4, l5] (.int a :: st) v x := vE_s rfl rfl
theorem q88_49 : vE 88 49 [l0, l1, l2, l3, l4, l5] (.int b :: .int a :: st) v x ↔ if a = b then vE 88 52 [l0, l1, l2, l3, l4, l5] st v x else vE 88 60 [l0, l1, l2, l3, l4, l5] st v x := vE_if rfl rfl
theorem q88_52 : vE 88 52 [.ref p, l1, l2, l3, l4, l5] st v x ↔ vE 88 53 [.ref p, l1, l2, l3, l4, l5] (.ref p :: st) v x := vE_s rfl rfl
theorem q88_53 : vE 88 53 [l0, l1, l2, l3, l4, l5] (.ref p :: st) v x ↔ vE 88 56 [l0, l1, l2, l3, l4, l5] (.ref (p + 28) :: st) v x := vE_s rfl rfl
theorem q88_56 : vE 88 56 [l0, l1, l2, l3, .int a, l5] st v x ↔ vE 88 58 [l0, l1, l2, l3, .int a, l5] (.int a :: st) v x := vE_s rfl rfl
theorem q88_58 : vE 88 58 [l0, l1, l2, l3, l4, l5] (.int a :: .ref p :: st) v x ↔ vE 88 59 [l0, l1, l2, l3, l4, l5] (.int (v.1 p a.toNatClampNeg) :: st) v x := vE_s rfl rfl
theorem q88_59 : vE 88 59 [l0, l1, l2, l3, l4, l5] ([.int a]) v x ↔ x = vr a v := vE_ir rfl
theorem q88_60 : vE 88 60 [l0, l1, l2, l3, .int a, l5] st v x ↔ vE 88 63 [l0, l1, l2, l3, .int (a + 1), l5] st v x := vE_s rfl rfl
theorem q88_63 : vE 88 63 [l0, l1, l2, l3, l4, l5] st v x ↔ vE 88 3 [l0, l1, l2, l3, l4, l5] st v x := vE_s rfl rfl
theorem q88_66 : vE 88 66 [.ref p, l1, l2, l3, l4, l5] st v x ↔ vE 88 67 [.ref p, l1, l2, l3, l4, l5] (.ref p :: st) v x := vE_s rfl rfl
theorem q88_67 : vE 88 67 [l0, l1, l2, l3, l4, l5] (.ref p :: st) v x ↔ vE 88 70 [l0, l1, l2, l3, l4, l5] (.int (v.1 p 8) :: st) v x := vE_s rfl rfl
theorem q88_70 : vE 88 70 [l0, l1, l2, l3, l4, l5] (.int a :: st) v x ↔ vE 88 72 [l0, l1, l2, l3, .int a, l5] st v x := vE_s rfl rfl
theorem q88_72 : vE 88 72 [l0, l1, l2, l3, .int a, l5] st v x ↔ vE 88 74 [l0, l1, l2, l3, .int a, l5] (.int a :: st) v x := vE_s rfl rfl
theorem q88_74 : vE 88 74 [l0, l1, l2, l3, l4, l5] (.int a :: st) v x ↔ if a < 0 then vE 88 84 [l0, l1, l2, l3, l4, l5] st v x else vE 88 77 [l0, l1, l2, l3, l4, l5] st v x := vE_if rfl rfl
theorem q88_77 : vE 88 77 [l0, l1, l2, l3, .int a, l5] st v x ↔ vE 88 79 [l0, l1, l2, l3, .int a, l5] (.int a :: st) v x := vE_s rfl rfl
theorem q88_79 : vE 88 79 [l0, l1, l2, l3, l4, l5] st v x ↔ vE 88 81 [l0, l1, l2, l3, l4, l5] (.int 22 :: st) v x := vE_s rfl (by rfl)
theorem q88_81 : vE 88 81 [l0, l1, l2, l3, l4, l5] (.int b :: .int a :: st) v x ↔ if a < b then vE 88 86 [l0, l1, l2, l3, l4, l5] st v x else vE 88 84 [l0, l1, l2, l3, l4, l5] st v x := vE_if rfl rfl
theorem q88_84 : vE 88 84 [l0, l1, l2, l3, l4, l5] st v x ↔ vE 88 85 [l0, l1, l2, l3, l4, l5] (.int 0 :: st) v x := vE_s rfl (by rfl)
theorem q88_85 : vE 88 85 [l0, l1, l2, l3, l4, l5] ([.int a]) v x ↔ x = vr a v := vE_ir rfl
theorem q88_86 : vE 88 86 [.ref p, l1, l2, l3, l4, l5] st v x ↔ vE 88 87 [.ref p, l1, l2, l3, l4, l5] (.ref p :: st) v x := vE_s rfl rfl
theorem q88_87 : vE 88 87 [l0, l1, l2, l3, .int a, l5] st v x ↔ vE 88 89 [l0, l1, l2, l3, .int a, l5] (.int a :: st) v x := vE_s rfl rfl
theorem q88_89 : vE 88 89 [l0, l1, l2, l3, l4, l5] st v x ↔ vE 88 90 [l0, l1, l2, l3, l4, l5] (.int 1 :: st) v x := vE_s rfl (by rfl)
theorem q88_90 : vE 88 90 [l0, l1, l2, l3, l4, l5] (.int b :: .int a :: st) v x ↔ vE 88 91 [l0, l1, l2, l3, l4, l5] (.int (a + b) :: st) v x := vE_s rfl rfl
theorem q88_91 : vE 88 91 [l0, l1, l2, l3, l4, l5] (.int a :: .ref p :: st) v x ↔ vE 88 94 [l0, l1, l2, l3, l4, l5] st (vm_si v p 8 a) x := vE_s rfl rfl
theorem q88_94 : vE 88 94 [.ref p, l1, l2, l3, l4, l5] st v x ↔ vE 88 95 [.ref p, l1, l2, l3, l4, l5] (.ref p :: st) v x := vE_s rfl rfl
theorem q88_95 : vE 88 95 [l0, l1, l2, l3, l4, l5] (.ref p :: st) v x ↔ vE 88 98 [l0, l1, l2, l3, l4, l5] (.ref (p + 29) :: st) v x := vE_s rfl rfl
theorem q88_98 : vE 88 98 [l0, l1, l2, l3, l4, l5] st v x ↔ vE 88 99 [l0, l1, l2, l3, l4, l5] (.int 0 :: st) v x := vE_s rfl (by rfl)
theorem q88_99 : vE 88 99 [l0, l1, l2, l3, l4, l5] (w1 :: w0 :: st) v x ↔ ∃ y : vm_Y, vE 80 0 [w0, w1, .retAddr 0, .retAddr 0] [] v y ∧ vB 88 99 [l0, l1, l2, l3, l4, l5] st y x := vE_cs rfl rfl rfl rfl
theorem q88_102 : vE 88 102 [.ref p, l1, l2, l3, l4, l5] st v x ↔ vE 88 103 [.ref p, l1, l2, l3, l4, l5] (.ref p :: st) v x := vE_s rfl rfl
theorem q88_103 : vE 88 103 [l0, l1, l2, l3, l4, l5] (.ref p :: st) v x ↔ vE 88 106 [l0, l1, l2, l3, l4, l5] (.ref (p + 29) :: st) v x := vE_s rfl rfl
theorem q88_106 : vE 88 106 [l0, l1, l2, l3, l4, l5] st v x ↔ vE 88 107 [l0, l1, l2, l3, l4, l5] (.int 1 :: st) v x := vE_s rfl (by rfl)
theorem q88_107 : vE 88 107 [l0, l1, l2, l3, .int a, l5] st v x ↔ vE 88 109 [l0, l1, l2, l3, .int a, l5] (.int a :: st) v x := vE_s rfl rfl
theorem q88_109 : vE 88 109 [l0, l1, l2, l3, l4, l5] (.int b :: .int a :: st) v x ↔ vE 88 110 [l0, l1, l2, l3, l4, l5] (.int (a + b) :: st) v x := vE_s rfl rfl
theorem q88_110 : vE 88 110 [l0, l1, l2, l3, l4, l5] st v x ↔ vE 88 111 [l0, l1, l2, l3, l4, l5] (.int 1 :: st) v x := vE_s rfl (by rfl)
theorem q88_111 : vE 88 111 [l0, l1, l2, l3, l4, l5] (.int b :: .int a :: .ref p :: st) v x ↔ vE 88 112 [l0, l1, l2, l3, l4, l5] st (vm_si v p a.toNatClampNeg b) x := vE_s rfl rfl
theorem q88_112 : vE 88 112 [.ref p, l1, l2, l3, l4, l5] st v x ↔ vE 88 113 [.ref p, l1, l2, l3, l4, l5] (.ref p :: st) v x := vE_s rfl rfl
theorem q88_113 : vE 88 113 [l0, l1, l2, l3, l4, l5] (w0 :: st) v x ↔ ∃ y : vm_Y, vE 89 0 [w0, .retAddr 0, .retAddr 0] [] v y ∧ vB 88 113 [l0, l1, l2, l3, l4, l5] st y x := vE_cv rfl rfl rfl rfl
theorem q88_116 : vE 88 116 [l0, l1, l2, l3, l4, l5] (.int a :: st) v x ↔ vE 88 118 [l0, l1, l2, l3, l4, .int a] st v x := vE_s rfl rfl
theorem q88_118 : vE 88 118 [.ref p, l1, l2, l3, l4, l5] st v x ↔ vE 88 119 [.ref p, l1, l2, l3, l4, l5] (.ref p :: st) v x := vE_s rfl rfl
theorem q88_119 : vE 88 119 [l0, l1, l2, l3, l4, l5] (.ref p :: st) v x ↔ vE 88 122 [l0, l1, l2, l3, l4, l5] (.ref (p + 25) :: st) v x := vE_s rfl rfl
theorem q88_122 : vE 88 122 [l0, l1, l2, l3, .int a, l5] st v x ↔ vE 88 124 [l0, l1, l2, l3, .int a, l5] (.int a :: st) v x := vE_s rfl rfl
theorem q88_124 : vE 88 124 [l0, .int a, l2, l3, l4, l5] st v x ↔ vE 88 125 [l0, .int a, l2, l3, l4, l5] (.int a :: st) v x := vE_s rfl rfl
theorem q88_125 : vE 88 125 [l0, l1, l2, l3, l4, l5] (.int b :: .int a :: .ref p :: st) v x ↔ vE 88 126 [l0, l1, l2, l3, l4, l5] st (vm_si v p a.toNatClampNeg b) x := vE_s rfl rfl
theorem q88_126 : vE 88 126 [.ref p, l1, l2, l3, l4, l5] st v x ↔ vE 88 127 [.ref p, l1, l2, l3, l4, l5] (.ref p :: st) v x := vE_s rfl rfl
theorem q88_127 : vE 88 127 [l0, l1, l2, l3, l4, l5] (.ref p :: st) v x ↔ vE 88 130 [l0, l1, l2, l3, l4, l5] (.ref (p + 26) :: st) v x := vE_s rfl rfl
theorem q88_130 : vE 88 130 [l0, l1, l2, l3, .int a, l5] st v x ↔ vE 88 132 [l0, l1, l2, l3, .int a, l5] (.int a :: st) v x := vE_s rfl rfl
theorem q88_132 : vE 88 132 [l0, l1, .int a, l3, l4, l5] st v x ↔ vE 88 133 [l0, l1, .int a, l3, l4, l5] (.int a :: st) v x := vE_s rfl rfl
theorem q88_133 : vE 88 133 [l0, l1, l2, l3, l4, l5] (.int b :: .int a :: .ref p :: st) v x ↔ vE 88 134 [l0, l1, l2, l3, l4, l5] st (vm_si v p a.toNatClampNeg b) x := vE_s rfl rfl
theorem q88_134 : vE 88 134 [.ref p, l1, l2, l3, l4, l5] st v x ↔ vE 88 135 [.ref p, l1, l2, l3, l4, l5] (.ref p :: st) v x := vE_s rfl rfl
theorem q88_135 : vE 88 135 [l0, l1, l2, l3, l4, l5] (.ref p :: st) v x ↔ vE 88 138 [l0, l1, l2, l3, l4, l5] (.ref (p + 27) :: st) v x := vE_s rfl rfl
theorem q88_138 : vE 88 138 [l0, l1, l2, l3, .int a, l5] st v x ↔ vE 88 140 [l0, l1, l2, l3, .int a, l5] (.int a :: st) v x := vE_s rfl rfl
theorem q88_140 : vE 88 140 [l0, l1, l2, .int a, l4, l5] st v x ↔ vE 88 141 [l0, l1, l2, .int a, l4, l5] (.int a :: st) v x := vE_s rfl rfl
theorem q88_141 : vE 88 141 [l0, l1, l2, l3, l4, l5] (.int b :: .int a :: .ref p :: st) v x ↔ vE 88 142 [l0, l1, l2, l3, l4, l5] st (vm_si v p a.toNatClampNeg b) x := vE_s rfl rfl
theorem q88_142 : vE 88 142 [.ref p, l1, l2, l3, l4, l5] st v x ↔ vE 88 143 [.ref p, l1, l2, l3, l4, l5] (.ref p :: st) v x := vE_s rfl rfl
theorem q88_143 : vE 88 143 [l0, l1, l2, l3, l4, l5] (.ref p :: st) v x ↔ vE 88 146 [l0, l1, l2, l3, l4, l5] (.ref (p + 28) :: st) v x := vE_s rfl rfl
theorem q88_146 : vE 88 146 [l0, l1, l2, l3, .int a, l5] st v x ↔ vE 88 148 [l0, l1, l2, l3, .int a, l5] (.int a :: st) v x := vE_s rfl rfl
theorem q88_148 : vE 88 148 [l0, l1, l2, l3, l4, .int a] st v x ↔ vE 88 150 [l0, l1, l2, l3, l4, .int a] (.int a :: st) v x := vE_s rfl rfl
theorem q88_150 : vE 88 150 [l0, l1, l2, l3, l4, l5] (.int b :: .int a :: .ref p :: st) v x ↔ vE 88 151 [l0, l1, l2, l3, l4, l5] st (vm_si v p a.toNatClampNeg b) x := vE_s rfl rfl
theorem q88_151 : vE 88 151 [l0, l1, l2, l3, l4, .int a] st v x ↔ vE 88 153 [l0, l1, l2, l3, l4, .int a] (.int a :: st) v x := vE_s rfl rfl
theorem q88_153 : vE 88 153 [l0, l1, l2, l3, l4, l5] ([.int a]) v x ↔ x = vr a v := vE_ir rfl
theorem qt88 {X pc : Nat} {L r : List Value} : vB 88 pc L r (vt X v) x ↔ x = vt X v := vB_t rfl
/-! 89 PassChecker$Values.addDraft()I -/
theorem q89_0 : vE 89 0 [.ref p, l1, l2] st v x ↔ vE 89 1 [.ref p, l1, l2] (.ref p :: st) v x := vE_s rfl rfl
theorem q89_1 : vE 89 1 [l0, l1, l2] (.ref p :: st) v x ↔ vE 89 4 [l0, l1, l2] (.int (v.1 p 7) :: st) v x := vE_s rfl rfl
theorem q89_4 : vE 89 4 [l0, l1, l2] (.int a :: st) v x ↔ vE 89 5 [l0, .int a, l2] st v x := vE_s rfl rfl
theorem q89_5 : vE 89 5 [l0, .int a, l2] st v x ↔ vE 89 6 [l0, .int a, l2] (.int a :: st) v x := vE_s rfl rfl
theorem q89_6 : vE 89 6 [l0, l1, l2] (.int a :: st) v x ↔ if a < 0 then vE 89 15 [l0, l1, l2] st v x else vE 89 9 [l0, l1, l2] st v x := vE_if rfl rfl
theorem q89_9 : vE 89 9 [l0, .int a, l2] st v x ↔ vE 89 10 [l0, .int a, l2] (.int a :: st) v x := vE_s rfl rfl
theorem q89_10 : vE 89 10 [l0, l1, l2] st v x ↔ vE 89 12 [l0, l1, l2] (.int 22 :: st) v x := vE_s rfl (by rfl)
theorem q89_12 : vE 89 12 [l0, l1, l2] (.int b :: .int a :: st) v x ↔ if a < b then vE 89 17 [l0, l1, l2] st v x else vE 89 15 [l0, l1, l2] st v x := vE_if rfl rfl
theorem q89_15 : vE 89 15 [l0, l1, l2] st v x ↔ vE 89 16 [l0, l1, l2] (.int 0 :: st) v x := vE_s rfl (by rfl)
theorem q89_16 : vE 89 16 [l0, l1, l2] ([.int a]) v x ↔ x = vr a v := vE_ir rfl
theorem q89_17 : vE 89 17 [.ref p, l1, l2] st v x ↔ vE 89 18 [.ref p, l1, l2] (.ref p :: st) v x := vE_s rfl rfl
theorem q89_18 : vE 89 18 [l0, .int a, l2] st v x ↔ vE 89 19 [l0, .int a, l2] (.int a :: st) v x := vE_s rfl rfl
theorem q89_19 : vE 89 19 [l0, l1, l2] st v x ↔ vE 89 20 [l0, l1, l2] (.int 1 :: st) v x := vE_s rfl (by rfl)
theorem q89_20 : vE 89 20 [l0, l1, l2] (.int b :: .int a :: st) v x ↔ vE 89 21 [l0, l1, l2] (.int (a + b) :: st) v x := vE_s rfl rfl
theorem q89_21 : vE 89 21 [l0, l1, l2] (.int a :: .ref p :: st) v x ↔ vE 89 24 [l0, l1, l2] st (vm_si v p 7 a) x := vE_s rfl rfl
theorem q89_24 : vE 89 24 [.ref p, l1, l2] st v x ↔ vE 89 25 [.ref p, l1, l2] (.ref p :: st) v x := vE_s rfl rfl
theorem q89_25 : vE 89 25 [l0, l1, l2] (.ref p :: st) v x ↔ vE 89 28 [l0, l1, l2] (.ref (p + 29) :: st) v x := vE_s rfl rfl
theorem q89_28 : vE 89 28 [l0, l1, l2] st v x ↔ vE 89 29 [l0, l1, l2] (.int 0 :: st) v x := vE_s rfl (by rfl)
theorem q89_29 : vE 89 29 [.ref p, l1, l2] st v x ↔ vE 89 30 [.ref p, l1, l2] (.ref p :: st) v x := vE_s rfl rfl
theorem q89_30 : vE 89 30 [l0, l1, l2] (.ref p :: st) v x ↔ vE 89 33 [l0, l1, l2] (.ref (p + 1) :: st) v x := vE_s rfl rfl
theorem q89_33 : vE 89 33 [l0, .int a, l2] st v x ↔ vE 89 34 [l0, .int a, l2] (.int a :: st) v x := vE_s rfl rfl
theorem q89_34 : vE 89 34 [l0, l1, l2] (.int a :: .ref p :: st) v x ↔ vE 89 35 [l0, l1, l2] (.ref (p + 1 + a.toNatClampNeg) :: st) v x := vE_s rfl rfl
theorem q89_35 : vE 89 35 [l0, l1, l2] st v x ↔ vE 89 36 [l0, l1, l2] (.int 0 :: st) v x := vE_s rfl (by rfl)
theorem q89_36 : vE 89 36 [l0, l1, l2] st v x ↔ vE 89 38 [l0, l1, l2] (.int 23 :: st) v x := vE_s rfl (by rfl)
theorem q89_38 : vE 89 38 [l0, l1, l2] (.int a :: .int b :: .ref p :: .int c :: .ref q :: st) v x ↔ vE 89 41 [l0, l1, l2] st (vm_cp v a.toNatClampNeg b.toNatClampNeg p c.toNatClampNeg q) x := vE_ac rfl rfl
theorem q89_41 : vE 89 41 [.ref p, l1, l2] st v x ↔ vE 89 42 [.ref p, l1, l2] (.ref p :: st) v x := vE_s rfl rfl
theorem q89_42 : vE 89 42 [l0, l1, l2] (.ref p :: st) v x ↔ vE 89 45 [l0, l1, l2] (.ref (p + 24) :: st) v x := vE_s rfl rfl
theorem q89_45 : vE 89 45 [l0, .int a, l2] st v x ↔ vE 89 46 [l0, .int a, l2] (.int a :: st) v x := vE_s rfl rfl
theorem q89_46 : vE 89 46 [l0, l1, l2] st v x ↔ vE 89 47 [l0, l1, l2] (.int 1 :: st) v x := vE_s rfl (by rfl)
theorem q89_47 : vE 89 47 [l0, l1, l2] (.int b :: .int a :: .ref p :: st) v x ↔ vE 89 48 [l0, l1, l2] st (vm_si v p a.toNatClampNeg (b &&& 1)) x := vE_s rfl rfl
theorem q89_48 : vE 89 48 [l0, l1, l2] st v x ↔ vE 89 49 [l0, l1, l2] (.int 1 :: st) v x := vE_s rfl (by rfl)
theorem q89_49 : vE 89 49 [l0, l1, l2] (.int a :: st) v x ↔ vE 89 50 [l0, l1, .int a] st v x := vE_s rfl rfl
theorem q89_50 : vE 89 50 [l0, l1, .int a] st v x ↔ vE 89 51 [l0, l1, .int a] (.int a :: st) v x := vE_s rfl rfl
theorem q89_51 : vE 89 51 [l0, l1, l2] st v x ↔ vE 89 53 [l0, l1, l2] (.int 23 :: st) v x := vE_s rfl (by rfl)
theorem q89_53 : vE 89 53 [l0, l1, l2] (.int b :: .int a :: st) v x ↔ if b ≤ a then vE 89 78 [l0, l1, l2] st v x else vE 89 56 [l0, l1, l2] st v x := vE_if rfl rfl
theorem q89_56 : vE 89 56 [.ref p, l1, l2] st v x ↔ vE 89 57 [.ref p, l1, l2] (.ref p :: st) v x := vE_s rfl rfl
theorem q89_57 : vE 89 57 [l0, l1, l2] (.ref p :: st) v x ↔ vE 89 60 [l0, l1, l2] (.ref (p + 29) :: st) v x := vE_s rfl rfl
theorem q89_60 : vE 89 60 [l0, l1, .int a] st v x ↔ vE 89 61 [l0, l1, .int a] (.int a :: st) v x := vE_s rfl rfl
theorem q89_61 : vE 89 61 [l0, l1, l2] (.int a :: .ref p :: st) v x ↔ vE 89 62 [l0, l1, l2] (.int (v.1 p a.toNatClampNeg) :: st) v x := vE_s rfl rfl
theorem q89_62 : vE 89 62 [l0, l1, l2] (.int a :: st) v x ↔ if a = 0 then vE 89 72 [l0, l1, l2] st v x else vE 89 65 [l0, l1, l2] st v x := vE_if rfl rfl
theorem q89_65 : vE 89 65 [.ref p, l1, l2] st v x ↔ vE 89 66 [.ref p, l1, l2] (.ref p :: st) v x := vE_s rfl rfl
theorem q89_66 : vE 89 66 [l0, l1, l2] (.ref p :: st) v x ↔ vE 89 69 [l0, l1, l2] (.ref (p + 24) :: st) v x := vE_s rfl rfl
theorem q89_69 : vE 89 69 [l0, .int a, l2] st v x ↔ vE 89 70 [l0, .int a, l2] (.int a :: st) v x := vE_s rfl rfl
theorem q89_70 : vE 89 70 [l0, l1, l2] st v x ↔ vE 89 71 [l0, l1, l2] (.int 0 :: st) v x := vE_s rfl (by rfl)
theorem q89_71 : vE 89 71 [l0, l1, l2] (.int b :: .int a :: .ref p :: st) v x ↔ vE 89 72 [l0, l1, l2] st (vm_si v p a.toNatClampNeg (b &&& 1)) x := vE_s rfl rfl
theorem q89_72 : vE 89 72 [l0, l1, .int a] st v x ↔ vE 89 75 [l0, l1, .int (a + 1)] st v x := vE_s rfl rfl
theorem q89_75 : vE 89 75 [l0, l1, l2] st v x ↔ vE 89 50 [l0, l1, l2] st v x := vE_s rfl rfl
theorem q89_78 : vE 89 78 [l0, .int a, l2] st v x ↔ vE 89 79 [l0, .int a, l2] (.int a :: st) v x := vE_s rfl rfl
theorem q89_79 : vE 89 79 [l0, l1, l2] ([.int a]) v x ↔ x = vr a v := vE_ir rfl
theorem qt89 {X pc : Nat} {L r : List Value} : vB 89 pc L r (vt X v) x ↔ x = vt X v := vB_t rfl
/-! 90 PassChecker$Outcome.fillFrom(LPassChecker$Values;LPassChecker$Program;I)V -/
theorem q90_0 : vE 90 0 [.ref p, l1, l2, l3, l4, l5, l6, l7, l8, l9, l10] st v x ↔ vE 90 1 [.ref p, l1, l2, l3, l4, l5, l6, l7, l8, l9, l10] (.ref p :: st) v x := vE_s rfl rfl
theorem q90_1 : vE 90 1 [l0, l1, l2, l3, l4, l5, l6, l7, l8, l9, l10] st v x ↔ vE 90 2 [l0, l1, l2, l3, l4, l5, l6, l7, l8, l9, l10] (.int 0 :: st) v x := vE_s rfl (by rfl)
theorem q90_2 : vE 90 2 [l0, l1, l2, l3, l4, l5, l6, l7, l8, l9, l10] (.int a :: .ref p :: st) v x ↔ vE 90 5 [l0, l1, l2, l3, l4, l5, l6, l7, l8, l9, l10] st (vm_si v p 4 a) x := vE_s rfl rfl
theorem q90_5 : vE 90 5 [.ref p, l1, l2, l3, l4, l5, l6, l7, l8, l9, l10] st v x ↔ vE 90 6 [.ref p, l1, l2, l3, l4, l5, l6, l7, l8, l9, l10] (.ref p :: st) v x := vE_s rfl rfl
theorem q90_6 : vE 90 6 [l0, l1, l2, l3, l4, l5, l6, l7, l8, l9, l10] st v x ↔ vE 90 7 [l0, l1, l2, l3, l4, l5, l6, l7, l8, l9, l10] (.int 0 :: st) v x := vE_s rfl (by rfl)
theorem q90_7 : vE 90 7 [l0, l1, l2, l3, l4, l5, l6, l7, l8, l9, l10] (.int a :: .ref p :: st) v x ↔ vE 90 10 [l0, l1, l2, l3, l4, l5, l6, l7, l8, l9, l10] st (vm_si v p 5 a) x := vE_s rfl rfl
theorem q90_10 : vE 90 10 [l0, l1, l2, l3, l4, l5, l6, l7, l8, l9, l10] st v x ↔ vE 90 11 [l0, l1, l2, l3, l4, l5, l6, l7, l8, l9, l10] (.int 0 :: st) v x := vE_s rfl (by rfl)
theorem q90_11 : vE 90 11 [l0, l1, l2, l3, l4, l5, l6, l7, l8, l9, l10] (.int a :: st) v x ↔ vE 90 13 [l0, l1, l2, l3, .int a, l5, l6, l7, l8, l9, l10] st v x := vE_s rfl rfl
theorem q90_13 : vE 90 13 [l0, l1, l2, l3, .int a, l5, l6, l7, l8, l9, l10] st v x ↔ vE 90 15 [l0, l1, l2, l3, .int a, l5, l6, l7, l8, l9, l10] (.int a :: st) v x := vE_s rfl rfl
theorem q90_15 : vE 90 15 [l0, l1, l2, l3, l4, l5, l6, l7, l8, l9, l10] st v x ↔ vE 90 17 [l0, l1, l2, l3, l4, l5, l6, l7, l8, l9, l10] (.int 6 :: st) v x := vE_s rfl (by rfl)
theorem q90_17 : vE 90 17 [l0, l1, l2, l3, l4, l5, l6, l7, l8, l9, l10] (.int b :: .int a :: st) v x ↔ if b ≤ a then vE 90 35 [l0, l1, l2, l3, l4, l5, l6, l7, l8, l9, l10] st v x else vE 90 20 [l0, l1, l2, l3, l4, l5, l6, l7, l8, l9, l10] st v x := vE_if rfl rfl
theorem q90_20 : vE 90 20 [.ref p, l1, l2, l3, l4, l5, l6, l7, l8, l9, l10] st v x ↔ vE 90 21 [.ref p, l1, l2, l3, l4, l5, l6, l7, l8, l9, l10] (.ref p :: st) v x := vE_s rfl rfl
theorem q90_21 : vE 90 21 [l0, l1, l2, l3, l4, l5, l6, l7, l8, l9, l10] (.ref p :: st) v x ↔ vE 90 24 [l0, l1, l2, l3, l4, l5, l6, l7, l8, l9, l10] (.ref (p + 1) :: st) v x := vE_s rfl rfl
theorem q90_24 : vE 90 24 [l0, l1, l2, l3, .int a, l5, l6, l7, l8, l9, l10] st v x ↔ vE 90 26 [l0, l1, l2, l3, .int a, l5, l6, l7, l8, l9, l10] (.int a :: st) v x := vE_s rfl rfl
theorem q90_26 : vE 90 26 [l0, l1, l2, l3, .int a, l5, l6, l7, l8, l9, l10] st v x ↔ vE 90 28 [l0, l1, l2, l3, .int a, l5, l6, l7, l8, l9, l10] (.int a :: st) v x := vE_s rfl rfl
theorem q90_28 : vE 90 28 [l0, l1, l2, l3, l4, l5, l6, l7, l8, l9, l10] (.int b :: .int a :: .ref p :: st) v x ↔ vE 90 29 [l0, l1, l2, l3, l4, l5, l6, l7, l8, l9, l10] st (vm_si v p a.toNatClampNeg b) x := vE_s rfl rfl
theorem q90_29 : vE 90 29 [l0, l1, l2, l3, .int a, l5, l6, l7, l8, l9, l10] st v x ↔ vE 90 32 [l0, l1, l2, l3, .int (a + 1), l5, l6, l7, l8, l9, l10] st v x := vE_s rfl rfl
theorem q90_32 : vE 90 32 [l0, l1, l2, l3, l4, l5, l6, l7, l8, l9, l10] st v x ↔ vE 90 13 [l0, l1, l2, l3, l4, l5, l6, l7, l8, l9, l10] st v x := vE_s rfl rfl
theorem q90_35 : vE 90 35 [l0, l1, .ref p, l3, l4, l5, l6, l7, l8, l9, l10] st v x ↔ vE 90 36 [l0, l1, .ref p, l3, l4, l5, l6, l7, l8, l9, l10] (.ref p :: st) v x := vE_s rfl rfl
theorem q90_36 : vE 90 36 [l0, l1, l2, .int a, l4, l5, l6, l7, l8, l9, l10] st v x ↔ vE 90 37 [l0, l1, l2, .int a, l4, l5, l6, l7, l8, l9, l10] (.int a :: st) v x := vE_s rfl rfl
theorem q90_37 : vE 90 37 [l0, l1, l2, l3, l4, l5, l6, l7, l8, l9, l10] (w1 :: w0 :: st) v x ↔ ∃ y : vm_Y, vE 31 0 [w0, w1] [] v y ∧ vB 90 37 [l0, l1, l2, l3, l4, l5, l6, l7, l8, l9, l10] st y x := vE_cv rfl rfl rfl rfl
theorem q90_40 : vE 90 40 [l0, l1, l2, l3, l4, l5, l6, l7, l8, l9, l10] (.int a :: st) v x ↔ vE 90 42 [l0, l1, l2, l3, .int a, l5, l6, l7, l8, l9, l10] st v x := vE_s rfl rfl
theorem q90_42 : vE 90 42 [l0, l1, l2, l3, l4, l5, l6, l7, l8, l9, l10] st v x ↔ vE 90 43 [l0, l1, l2, l3, l4, l5, l6, l7, l8, l9, l10] (.int 0 :: st) v x := vE_s rfl (by rfl)
theorem q90_43 : vE 90 43 [l0, l1, l2, l3, l4, l5, l6, l7, l8, l9, l10] (.int a :: st) v x ↔ vE 90 45 [l0, l1, l2, l3, l4, .int a, l6, l7, l8, l9, l10] st v x := vE_s rfl rfl
theorem q90_45 : vE 90 45 [l0, l1, l2, l3, l4, .int a, l6, l7, l8, l9, l10] st v x ↔ vE 90 47 [l0, l1, l2, l3, l4, .int a, l6, l7, l8, l9, l10] (.int a :: st) v x := vE_s rfl rfl
theorem q90_47 : vE 90 47 [l0, l1, l2, l3, .int a, l5, l6, l7, l8, l9, l10] st v x ↔ vE 90 49 [l0, l1, l2, l3, .int a, l5, l6, l7, l8, l9, l10] (.int a :: st) v x := vE_s rfl rfl
theorem q90_49 : vE 90 49 [l0, l1, l2, l3, l4, l5, l6, l7, l8, l9, l10] (.int b :: .int a :: st) v x ↔ if b ≤ a then vE 90 151 [l0, l1, l2, l3, l4, l5, l6, l7, l8, l9, l10] st v x else vE 90 52 [l0, l1, l2, l3, l4, l5, l6, l7, l8, l9, l10] st v x := vE_if rfl rfl
theorem q90_52 : vE 90 52 [l0, l1, .ref p, l3, l4, l5, l6, l7, l8, l9, l10] st v x ↔ vE 90 53 [l0, l1, .ref p, l3, l4, l5, l6, l7, l8, l9, l10] (.ref p :: st) v x := vE_s rfl rfl
theorem q90_53 : vE 90 53 [l0, l1, l2, .int a, l4, l5, l6, l7, l8, l9, l10] st v x ↔ vE 90 54 [l0, l1, l2, .int a, l4, l5, l6, l7, l8, l9, l10] (.int a :: st) v x := vE_s rfl rfl
theorem q90_54 : vE 90 54 [l0, l1, l2, l3, l4, .int a, l6, l7, l8, l9, l10] st v x ↔ vE 90 56 [l0, l1, l2, l3, l4, .int a, l6, l7, l8, l9, l10] (.int a :: st) v x := vE_s rfl rfl
theorem q90_56 : vE 90 56 [l0, l1, l2, l3, l4, l5, l6, l7, l8, l9, l10] st v x ↔ vE 90 57 [l0, l1, l2, l3, l4, l5, l6, l7, l8, l9, l10] (.int 0 :: st) v x := vE_s rfl (by rfl)
theorem q90_57 : vE 90 57 [l0, l1, l2, l3, l4, l5, l6, l7, l8, l9, l10] (w3 :: w2 :: w1 :: w0 :: st) v x ↔ ∃ y : vm_Y, vE 47 0 [w0, w1, w2, w3, .retAddr 0] [] v y ∧ vB 90 57 [l0, l1, l2, l3, l4, l5, l6, l7, l8, l9, l10] st y x := vE_cv rfl rfl rfl rfl
theorem q90_60 : vE 90 60 [l0, l1, l2, l3, l4, l5, l6, l7, l8, l9, l10] (.int a :: st) v x ↔ vE 90 62 [l0, l1, l2, l3, l4, l5, .int a, l7, l8, l9, l10] st v x := vE_s rfl rfl
theorem q90_62 : vE 90 62 [l0, l1, .ref p, l3, l4, l5, l6, l7, l8, l9, l10] st v x ↔ vE 90 63 [l0, l1, .ref p, l3, l4, l5, l6, l7, l8, l9, l10] (.ref p :: st) v x := vE_s rfl rfl
theorem q90_63 : vE 90 63 [l0, l1, l2, .int a, l4, l5, l6, l7, l8, l9, l10] st v x ↔ vE 90 64 [l0, l1, l2, .int a, l4, l5, l6, l7, l8, l9, l10] (.int a :: st) v x := vE_s rfl rfl
theorem q90_64 : vE 90 64 [l0, l1, l2, l3, l4, .int a, l6, l7, l8, l9, l10] st v x ↔ vE 90 66 [l0, l1, l2, l3, l4, .int a, l6, l7, l8, l9, l10] (.int a :: st) v x := vE_s rfl rfl
theorem q90_66 : vE 90 66 [l0, l1, l2, l3, l4, l5, l6, l7, l8, l9, l10] st v x ↔ vE 90 67 [l0, l1, l2, l3, l4, l5, l6, l7, l8, l9, l10] (.int 3 :: st) v x := vE_s rfl (by rfl)
theorem q90_67 : vE 90 67 [l0, l1, l2, l3, l4, l5, l6, l7, l8, l9, l10] (w3 :: w2 :: w1 :: w0 :: st) v x ↔ ∃ y : vm_Y, vE 47 0 [w0, w1, w2, w3, .retAddr 0] [] v y ∧ vB 90 67 [l0, l1, l2, l3, l4, l5, l6, l7, l8, l9, l10] st y x := vE_cv rfl rfl rfl rfl
theorem q90_70 : vE 90 70 [l0, l1, l2, l3, l4, l5, l6, l7, l8, l9, l10] (.int a :: st) v x ↔ vE 90 72 [l0, l1, l2, l3, l4, l5, l6, .int a, l8, l9, l10] st v x := vE_s rfl rfl
theorem q90_72 : vE 90 72 [.ref p, l1, l2, l3, l4, l5, l6, l7, l8, l9, l10] st v x ↔ vE 90 73 [.ref p, l1, l2, l3, l4, l5, l6, l7, l8, l9, l10] (.ref p :: st) v x := vE_s rfl rfl
theorem q90_73 : vE 90 73 [l0, l1, .ref p, l3, l4, l5, l6, l7, l8, l9, l10] st v x ↔ vE 90 74 [l0, l1, .ref p, l3, l4, l5, l6, l7, l8, l9, l10] (.ref p :: st) v x := vE_s rfl rfl
theorem q90_74 : vE 90 74 [l0, l1, l2, .int a, l4, l5, l6, l7, l8, l9, l10] st v x ↔ vE 90 75 [l0, l1, l2, .int a, l4, l5, l6, l7, l8, l9, l10] (.int a :: st) v x := vE_s rfl rfl
theorem q90_75 : vE 90 75 [l0, l1, l2, l3, l4, .int a, l6, l7, l8, l9, l10] st v x ↔ vE 90 77 [l0, l1, l2, l3, l4, .int a, l6, l7, l8, l9, l10] (.int a :: st) v x := vE_s rfl rfl
theorem q90_77 : vE 90 77 [l0, l1, l2, l3, l4, l5, l6, l7, l8, l9, l10] st v x ↔ vE 90 78 [l0, l1, l2, l3, l4, l5, l6, l7, l8, l9, l10] (.int 2 :: st) v x := vE_s rfl (by rfl)
theorem q90_78 : vE 90 78 [l0, l1, l2, l3, l4, l5, l6, l7, l8, l9, l10] (w3 :: w2 :: w1 :: w0 :: st) v x ↔ ∃ y : vm_Y, vE 47 0 [w0, w1, w2, w3, .retAddr 0] [] v y ∧ vB 90 78 [l0, l1, l2, l3, l4, l5, l6, l7, l8, l9, l10] st y x := vE_cv rfl rfl rfl rfl
theorem q90_81 : vE 90 81 [l0, l1, l2, l3, l4, l5, l6, l7, l8, l9, l10] (w1 :: w0 :: st) v x ↔ ∃ y : vm_Y, vE 91 0 [w0, w1] [] v y ∧ vB 90 81 [l0, l1, l2, l3, l4, l5, l6, l7, l8, l9, l10] st y x := vE_cv rfl rfl rfl rfl
theorem q90_84 : vE 90 84 [l0, l1, l2, l3, l4, l5, l6, l7, l8, l9, l10] (.int a :: st) v x ↔ vE 90 86 [l0, l1, l2, l3, l4, l5, l6, l7, .int a, l9, l10] st v x := vE_s rfl rfl
theorem q90_86 : vE 90 86 [.ref p, l1, l2, l3, l4, l5, l6, l7, l8, l9, l10] st v x ↔ vE 90 87 [.ref p, l1, l2, l3, l4, l5, l6, l7, l8, l9, l10] (.ref p :: st) v x := vE_s rfl rfl
theorem q90_87 : vE 90 87 [l0, l1, l2, l3, l4, l5, l6, .int a, l8, l9, l10] st v x ↔ vE 90 89 [l0, l1, l2, l3, l4, l5, l6, .int a, l8, l9, l10] (.int a :: st) v x := vE_s rfl rfl
theorem q90_89 : vE 90 89 [l0, l1, l2, l3, l4, l5, l6, l7, l8, l9, l10] (w1 :: w0 :: st) v x ↔ ∃ y : vm_Y, vE 91 0 [w0, w1] [] v y ∧ vB 90 89 [l0, l1, l2, l3, l4, l5, l6, l7, l8, l9, l10] st y x := vE_cv rfl rfl rfl rfl
theorem q90_92 : vE 90 92 [l0, l1, l2, l3, l4, l5, l6, l7, l8, l9, l10] (.int a :: st) v x ↔ vE 90 94 [l0, l1, l2, l3, l4, l5, l6, l7, l8, .int a, l10] st v x := vE_s rfl rfl
theorem q90_94 : vE 90 94 [.ref p, l1, l2, l3, l4, l5, l6, l7, l8, l9, l10] st v x ↔ vE 90 95 [.ref p, l1, l2, l3, l4, l5, l6, l7, l8, l9, l10] (.ref p :: st) v x := vE_s rfl rfl
theorem q90_95 : vE 90 95 [l0, .ref p, l2, l3, l4, l5, l6, l7, l8, l9, l10] st v x ↔ vE 90 96 [l0, .ref p, l2, l3, l4, l5, l6, l7, l8, l9, l10] (.ref p :: st) v x := vE_s rfl rfl
theorem q90_96 : vE 90 96 [l0, l1, l2, l3, l4, l5, .int a, l7, l8, l9, l10] st v x ↔ vE 90 98 [l0, l1, l2, l3, l4, l5, .int a, l7, l8, l9, l10] (.int a :: st) v x := vE_s rfl rfl
theorem q90_98 : vE 90 98 [l0, l1, l2, l3, l4, l5, l6, l7, .int a, l9, l10] st v x ↔ vE 90 100 [l0, l1, l2, l3, l4, l5, l6, l7, .int a, l9, l10] (.int a :: st) v x := vE_s rfl rfl
theorem q90_100 : vE 90 100 [l0, l1, l2, l3, l4, l5, l6, l7, l8, .int a, l10] st v x ↔ vE 90 102 [l0, l1, l2, l3, l4, l5, l6, l7, l8, .int a, l10] (.int a :: st) v x := vE_s rfl rfl
theorem q90_102 : vE 90 102 [l0, l1, l2, l3, l4, l5, l6, l7, l8, l9, l10] (w4 :: w3 :: w2 :: w1 :: w0 :: st) v x ↔ ∃ y : vm_Y, vE 92 0 [w0, w1, w2, w3, w4] [] v y ∧ vB 90 102 [l0, l1, l2, l3, l4, l5, l6, l7, l8, l9, l10] st y x := vE_cv rfl rfl rfl rfl
theorem q90_105 : vE 90 105 [l0, l1, l2, l3, l4, l5, .int a, l7, l8, l9, l10] st v x ↔ vE 90 107 [l0, l1, l2, l3, l4, l5, .int a, l7, l8, l9, l10] (.int a :: st) v x := vE_s rfl rfl
theorem q90_107 : vE 90 107 [l0, l1, l2, l3, l4, l5, l6, l7, l8, l9, l10] (.int a :: st) v x ↔ if a = 0 then vE 90 110 [l0, l1, l2, l3, l4, l5, l6, l7, l8, l9, l10] st v x else vE 90 119 [l0, l1, l2, l3, l4, l5, l6, l7, l8, l9, l10] st v x := vE_if rfl rfl
theorem q90_110 : vE 90 110 [l0, .ref p, l2, l3, l4, l5, l6, l7, l8, l9, l10] st v x ↔ vE 90 111 [l0, .ref p, l2, l3, l4, l5, l6, l7, l8, l9, l10] (.ref p :: st) v x := vE_s rfl rfl
theorem q90_111 : vE 90 111 [l0, l1, l2, l3, l4, l5, l6, .int a, l8, l9, l10] st v x ↔ vE 90 113 [l0, l1, l2, l3, l4, l5, l6, .int a, l8, l9, l10] (.int a :: st) v x := vE_s rfl rfl
theorem q90_113 : vE 90 113 [l0, l1, l2, l3, l4, l5, l6, l7, l8, l9, l10] (w1 :: w0 :: st) v x ↔ ∃ y : vm_Y, vE 100 0 [w0, w1] [] v y ∧ vB 90 113 [l0, l1, l2, l3, l4, l5, l6, l7, l8, l9, l10] st y x := vE_cv rfl rfl rfl rfl
theorem q90_116 : vE 90 116 [l0, l1, l2, l3, l4, l5, l6, l7, l8, l9, l10] st v x ↔ vE 90 130 [l0, l1, l2, l3, l4, l5, l6, l7, l8, l9, l10] st v x := vE_s rfl rfl
theorem q90_119 : vE 90 119 [.ref p, l1, l2, l3, l4, l5, l6, l7, l8, l9, l10] st v x ↔ vE 90 120 [.ref p, l1, l2, l3, l4, l5, l6, l7, l8, l9, l10] (.ref p :: st) v x := vE_s rfl rfl
theorem q90_120 : vE 90 120 [l0, .ref p, l2, l3, l4, l5, l6, l7, l8, l9, l10] st v x ↔ vE 90 121 [l0, .ref p, l2, l3, l4, l5, l6, l7, l8, l9, l10] (.ref p :: st) v x := vE_s rfl rfl
theorem q90_121 : vE 90 121 [l0, l1, l2, l3, l4, l5, .int a, l7, l8, l9, l10] st v x ↔ vE 90 123 [l0, l1, l2, l3, l4, l5, .int a, l7, l8, l9, l10] (.int a :: st) v x := vE_s rfl rfl
theorem q90_123 : vE 90 123 [l0, l1, l2, l3, l4, l5, l6, l7, .int a, l9, l10] st v x ↔ vE 90 125 [l0, l1, l2, l3, l4, l5, l6, l7, .int a, l9, l10] (.int a :: st) v x := vE_s rfl rfl
theorem q90_125 : vE 90 125 [l0, l1, l2, l3, l4, l5, l6, l7, l8, .int a, l10] st v x ↔ vE 90 127 [l0, l1, l2, l3, l4, l5, l6, l7, l8, .int a, l10] (.int a :: st) v x := vE_s rfl rfl
theorem q90_127 : vE 90 127 [l0, l1, l2, l3, l4, l5, l6, l7, l8, l9, l10] (w4 :: w3 :: w2 :: w1 :: w0 :: st) v x ↔ ∃ y : vm_Y, vE 103 0 [w0, w1, w2, w3, w4, .retAddr 0] [] v y ∧ vB 90 127 [l0, l1, l2, l3, l4, l5, l6, l7, l8, l9, l10] st y x := vE_cv rfl rfl rfl rfl
theorem q90_130 : vE 90 130 [l0, l1, l2, l3, l4, l5, l6, l7, l8, l9, l10] (.int a :: st) v x ↔ vE 90 132 [l0, l1, l2, l3, l4, l5, l6, l7, l8, l9, .int a] st v x := vE_s rfl rfl
theorem q90_132 : vE 90 132 [.ref p, l1, l2, l3, l4, l5, l6, l7, l8, l9, l10] st v x ↔ vE 90 133 [.ref p, l1, l2, l3, l4, l5, l6, l7, l8, l9, l10] (.ref p :: st) v x := vE_s rfl rfl
theorem q90_133 : vE 90 133 [l0, l1, .ref p, l3, l4, l5, l6, l7, l8, l9, l10] st v x ↔ vE 90 134 [l0, l1, .ref p, l3, l4, l5, l6, l7, l8, l9, l10] (.ref p :: st) v x := vE_s rfl rfl
theorem q90_134 : vE 90 134 [l0, l1, l2, .int a, l4, l5, l6, l7, l8, l9, l10] st v x ↔ vE 90 135 [l0, l1, l2, .int a, l4, l5, l6, l7, l8, l9, l10] (.int a :: st) v x := vE_s rfl rfl
theorem q90_135 : vE 90 135 [l0, l1, l2, l3, l4, .int a, l6, l7, l8, l9, l10] st v x ↔ vE 90 137 [l0, l1, l2, l3, l4, .int a, l6, l7, l8, l9, l10] (.int a :: st) v x := vE_s rfl rfl
theorem q90_137 : vE 90 137 [l0, l1, l2, l3, l4, l5, l6, l7, l8, l9, l10] (w2 :: w1 :: w0 :: st) v x ↔ ∃ y : vm_Y, vE 62 0 [w0, w1, w2] [] v y ∧ vB 90 137 [l0, l1, l2, l3, l4, l5, l6, l7, l8, l9, l10] st y x := vE_cv rfl rfl rfl rfl
theorem q90_140 : vE 90 140 [l0, l1, l2, l3, l4, l5, l6, l7, l8, l9, .int a] st v x ↔ vE 90 142 [l0, l1, l2, l3, l4, l5, l6, l7, l8, l9, .int a] (.int a :: st) v x := vE_s rfl rfl
theorem q90_142 : vE 90 142 [l0, l1, l2, l3, l4, l5, l6, l7, l8, l9, l10] (w2 :: w1 :: w0 :: st) v x ↔ ∃ y : vm_Y, vE 109 0 [w0, w1, w2] [] v y ∧ vB 90 142 [l0, l1, l2, l3, l4, l5, l6, l7, l8, l9, l10] st y x := vE_cv rfl rfl rfl rfl
theorem q90_145 : vE 90 145 [l0, l1, l2, l3, l4, .int a, l6, l7, l8, l9, l10] st v x ↔ vE 90 148 [l0, l1, l2, l3, l4, .int (a + 1), l6, l7, l8, l9, l10] st v x := vE_s rfl rfl
theorem q90_148 : vE 90 148 [l0, l1, l2, l3, l4, l5, l6, l7, l8, l9, l10] st v x ↔ vE 90 45 [l0, l1, l2, l3, l4, l5, l6, l7, l8, l9, l10] st v x := vE_s rfl rfl
theorem q90_151 : vE 90 151 [.ref p, l1, l2, l3, l4, l5, l6, l7, l8, l9, l10] st v x ↔ vE 90 152 [.ref p, l1, l2, l3, l4, l5, l6, l7, l8, l9, l10] (.ref p :: st) v x := vE_s rfl rfl
theorem q90_152 : vE 90 152 [l0, .ref p, l2, l3, l4, l5, l6, l7, l8, l9, l10] st v x ↔ vE 90 153 [l0, .ref p, l2, l3, l4, l5, l6, l7, l8, l9, l10] (.ref p :: st) v x := vE_s rfl rfl
theorem q90_153 : vE 90 153 [l0, l1, .ref p, l3, l4, l5, l6, l7, l8, l9, l10] st v x ↔ vE 90 154 [l0, l1, .ref p, l3, l4, l5, l6, l7, l8, l9, l10] (.ref p :: st) v x := vE_s rfl rfl
theorem q90_154 : vE 90 154 [l0, l1, l2, .int a, l4, l5, l6, l7, l8, l9, l10] st v x ↔ vE 90 155 [l0, l1, l2, .int a, l4, l5, l6, l7, l8, l9, l10] (.int a :: st) v x := vE_s rfl rfl
theorem q90_155 : vE 90 155 [l0, l1, l2, l3, l4, l5, l6, l7, l8, l9, l10] (w3 :: w2 :: w1 :: w0 :: st) v x ↔ ∃ y : vm_Y, vE 110 0 [w0, w1, w2, w3, .retAddr 0] [] v y ∧ vB 90 155 [l0, l1, l2, l3, l4, l5, l6, l7, l8, l9, l10] st y x := vE_cv rfl rfl rfl rfl
theorem q90_158 : vE 90 158 [l0, l1, l2, l3, l4, l5, l6, l7, l8, l9, l10] [] v x ↔ x = vd v := vE_vr rfl
theorem qt90 {X pc : Nat} {L r : List Value} : vB 90 pc L r (vt X v) x ↔ x = vt X v := vB_t rfl
/-! 91 PassChecker$Outcome.valueIn(I)I -/
theorem q91_0 : vE 91 0 [l0, .int a] st v x ↔ vE 91 1 [l0, .int a] (.int a :: st) v x := vE_s rfl rfl
theorem q91_1 : vE 91 1 [l0, l1] (w0 :: st) v x ↔ ∃ y : vm_Y, vE 28 0 [w0] [] v y ∧ vB 91 1 [l0, l1] st y x := vE_cs rfl rfl rfl rfl
theorem q91_4 : vE 91 4 [l0, l1] (.int a :: st) v x ↔ if a = 0 then vE 91 16 [l0, l1] st v x else vE 91 7 [l0, l1] st v x := vE_if rfl rfl
theorem q91_7 : vE 91 7 [.ref p, l1] st v x ↔ vE 91 8 [.ref p, l1] (.ref p :: st) v x := vE_s rfl rfl
theorem q91_8 : vE 91 8 [l0, l1] (.ref p :: st) v x ↔ vE 91 11 [l0, l1] (.ref (p + 1) :: st) v x := vE_s rfl rfl
theorem q91_11 : vE 91 11 [l0, .int a] st v x ↔ vE 91 12 [l0, .int a] (.int a :: st) v x := vE_s rfl rfl
theorem q91_12 : vE 91 12 [l0, l1] (.int a :: .ref p :: st) v x ↔ vE 91 13 [l0, l1] (.int (v.1 p a.toNatClampNeg) :: st) v x := vE_s rfl rfl
theorem q91_13 : vE 91 13 [l0, l1] st v x ↔ vE 91 17 [l0, l1] st v x := vE_s rfl rfl
theorem q91_16 : vE 91 16 [l0, l1] st v x ↔ vE 91 17 [l0, l1] (.int 0 :: st) v x := vE_s rfl (by rfl)
theorem q91_17 : vE 91 17 [l0, l1] ([.int a]) v x ↔ x = vr a v := vE_ir rfl
theorem qt91 {X pc : Nat} {L r : List Value} : vB 91 pc L r (vt X v) x ↔ x = vt X v := vB_t rfl
/-! 92 PassChecker$Outcome.noteEffect(LPassChecker$Values;III)V -/
theorem q92_0 : vE 92 0 [l0, l1, .int a, l3, l4] st v x ↔ vE 92 1 [l0, l1, .int a, l3, l4] (.int a :: st) v x := vE_s rfl rfl
theorem q92_1 : vE 92 1 [l0, l1, l2, l3, l4] st v x ↔ vE 92 3 [l0, l1, l2, l3, l4] (.int 9 :: st) v x := vE_s rfl (by rfl)
theorem q92_3 : vE 92 3 [l0, l1, l2, l3, l4] (.int b :: .int a :: st) v x ↔ if a = b then vE 92 6 [l0, l1, l2, l3, l4] st v x else vE 92 28 [l0, l1, l2, l3, l4] st v x := vE_if rfl rfl
theorem q92_6 : vE 92 6 [.ref p, l1, l2, l3, l4] st v x ↔ vE 92 7 [.ref p, l1, l2, l3, l4] (.ref p :: st) v x := vE_s rfl rfl
theorem q92_7 : vE 92 7 [l0, l1, l2, l3, l4] st v x ↔ vE 92 9 [l0, l1, l2, l3, l4] (.int 9 :: st) v x := vE_s rfl (by rfl)
theorem q92_9 : vE 92 9 [l0, l1, l2, .int a, l4] st v x ↔ vE 92 10 [l0, l1, l2, .int a, l4] (.int a :: st) v x := vE_s rfl rfl
theorem q92_10 : vE 92 10 [l0, l1, l2, l3, .int a] st v x ↔ vE 92 12 [l0, l1, l2, l3, .int a] (.int a :: st) v x := vE_s rfl rfl
theorem q92_12 : vE 92 12 [l0, l1, l2, l3, l4] (w3 :: w2 :: w1 :: w0 :: st) v x ↔ ∃ y : vm_Y, vE 93 0 [w0, w1, w2, w3, .retAddr 0] [] v y ∧ vB 92 12 [l0, l1, l2, l3, l4] st y x := vE_cv rfl rfl rfl rfl
theorem q92_15 : vE 92 15 [.ref p, l1, l2, l3, l4] st v x ↔ vE 92 16 [.ref p, l1, l2, l3, l4] (.ref p :: st) v x := vE_s rfl rfl
theorem q92_16 : vE 92 16 [l0, l1, l2, l3, l4] (.ref p :: st) v x ↔ vE 92 17 [l0, l1, l2, l3, l4] (.ref p :: .ref p :: st) v x := vE_s rfl rfl
theorem q92_17 : vE 92 17 [l0, l1, l2, l3, l4] (.ref p :: st) v x ↔ vE 92 20 [l0, l1, l2, l3, l4] (.int (v.1 p 5) :: st) v x := vE_s rfl rfl
theorem q92_20 : vE 92 20 [l0, l1, l2, l3, l4] st v x ↔ vE 92 21 [l0, l1, l2, l3, l4] (.int 1 :: st) v x := vE_s rfl (by rfl)
theorem q92_21 : vE 92 21 [l0, l1, l2, l3, l4] (.int b :: .int a :: st) v x ↔ vE 92 22 [l0, l1, l2, l3, l4] (.int (a + b) :: st) v x := vE_s rfl rfl
theorem q92_22 : vE 92 22 [l0, l1, l2, l3, l4] (.int a :: .ref p :: st) v x ↔ vE 92 25 [l0, l1, l2, l3, l4] st (vm_si v p 5 a) x := vE_s rfl rfl
theorem q92_25 : vE 92 25 [l0, l1, l2, l3, l4] st v x ↔ vE 92 100 [l0, l1, l2, l3, l4] st v x := vE_s rfl rfl
theorem q92_28 : vE 92 28 [l0, l1, .int a, l3, l4] st v x ↔ vE 92 29 [l0, l1, .int a, l3, l4] (.int a :: st) v x := vE_s rfl rfl
theorem q92_29 : vE 92 29 [l0, l1, l2, l3, l4] st v x ↔ vE 92 31 [l0, l1, l2, l3, l4] (.int 7 :: st) v x := vE_s rfl (by rfl)
theorem q92_31 : vE 92 31 [l0, l1, l2, l3, l4] (.int b :: .int a :: st) v x ↔ if a = b then vE 92 34 [l0, l1, l2, l3, l4] st v x else vE 92 64 [l0, l1, l2, l3, l4] st v x := vE_if rfl rfl
theorem q92_34 : vE 92 34 [l0, .ref p, l2, l3, l4] st v x ↔ vE 92 35 [l0, .ref p, l2, l3, l4] (.ref p :: st) v x := vE_s rfl rfl
theorem q92_35 : vE 92 35 [l0, l1, l2, l3, .int a] st v x ↔ vE 92 37 [l0, l1, l2, l3, .int a] (.int a :: st) v x := vE_s rfl rfl
theorem q92_37 : vE 92 37 [l0, l1, l2, l3, l4] (w1 :: w0 :: st) v x ↔ ∃ y : vm_Y, vE 94 0 [w0, w1] [] v y ∧ vB 92 37 [l0, l1, l2, l3, l4] st y x := vE_cv rfl rfl rfl rfl
theorem q92_40 : vE 92 40 [l0, l1, l2, l3, l4] (.int a :: st) v x ↔ if a = 0 then vE 92 52 [l0, l1, l2, l3, l4] st v x else vE 92 43 [l0, l1, l2, l3, l4] st v x := vE_if rfl rfl
theorem q92_43 : vE 92 43 [l0, .ref p, l2, l3, l4] st v x ↔ vE 92 44 [l0, .ref p, l2, l3, l4] (.ref p :: st) v x := vE_s rfl rfl
theorem q92_44 : vE 92 44 [l0, l1, l2, l3, .int a] st v x ↔ vE 92 46 [l0, l1, l2, l3, .int a] (.int a :: st) v x := vE_s rfl rfl
theorem q92_46 : vE 92 46 [l0, l1, l2, l3, l4] (w1 :: w0 :: st) v x ↔ ∃ y : vm_Y, vE 95 0 [w0, w1] [] v y ∧ vB 92 46 [l0, l1, l2, l3, l4] st y x := vE_cv rfl rfl rfl rfl
theorem q92_49 : vE 92 49 [l0, l1, l2, l3, l4] (.int a :: st) v x ↔ if a = 0 then vE 92 52 [l0, l1, l2, l3, l4] st v x else vE 92 64 [l0, l1, l2, l3, l4] st v x := vE_if rfl rfl
theorem q92_52 : vE 92 52 [.ref p, l1, l2, l3, l4] st v x ↔ vE 92 53 [.ref p, l1, l2, l3, l4] (.ref p :: st) v x := vE_s rfl rfl
theorem q92_53 : vE 92 53 [l0, l1, l2, l3, l4] st v x ↔ vE 92 55 [l0, l1, l2, l3, l4] (.int 7 :: st) v x := vE_s rfl (by rfl)
theorem q92_55 : vE 92 55 [l0, l1, l2, .int a, l4] st v x ↔ vE 92 56 [l0, l1, l2, .int a, l4] (.int a :: st) v x := vE_s rfl rfl
theorem q92_56 : vE 92 56 [l0, l1, l2, l3, .int a] st v x ↔ vE 92 58 [l0, l1, l2, l3, .int a] (.int a :: st) v x := vE_s rfl rfl
theorem q92_58 : vE 92 58 [l0, l1, l2, l3, l4] (w3 :: w2 :: w1 :: w0 :: st) v x ↔ ∃ y : vm_Y, vE 97 0 [w0, w1, w2, w3, .retAddr 0] [] v y ∧ vB 92 58 [l0, l1, l2, l3, l4] st y x := vE_cv rfl rfl rfl rfl
theorem q92_61 : vE 92 61 [l0, l1, l2, l3, l4] st v x ↔ vE 92 100 [l0, l1, l2, l3, l4] st v x := vE_s rfl rfl
theorem q92_64 : vE 92 64 [l0, l1, .int a, l3, l4] st v x ↔ vE 92 65 [l0, l1, .int a, l3, l4] (.int a :: st) v x := vE_s rfl rfl
theorem q92_65 : vE 92 65 [l0, l1, l2, l3, l4] st v x ↔ vE 92 67 [l0, l1, l2, l3, l4] (.int 8 :: st) v x := vE_s rfl (by rfl)
theorem q92_67 : vE 92 67 [l0, l1, l2, l3, l4] (.int b :: .int a :: st) v x ↔ if a = b then vE 92 70 [l0, l1, l2, l3, l4] st v x else vE 92 100 [l0, l1, l2, l3, l4] st v x := vE_if rfl rfl
theorem q92_70 : vE 92 70 [l0, .ref p, l2, l3, l4] st v x ↔ vE 92 71 [l0, .ref p, l2, l3, l4] (.ref p :: st) v x := vE_s rfl rfl
theorem q92_71 : vE 92 71 [l0, l1, l2, .int a, l4] st v x ↔ vE 92 72 [l0, l1, l2, .int a, l4] (.int a :: st) v x := vE_s rfl rfl
theorem q92_72 : vE 92 72 [l0, l1, l2, l3, l4] (w1 :: w0 :: st) v x ↔ ∃ y : vm_Y, vE 94 0 [w0, w1] [] v y ∧ vB 92 72 [l0, l1, l2, l3, l4] st y x := vE_cv rfl rfl rfl rfl
theorem q92_75 : vE 92 75 [l0, l1, l2, l3, l4] (.int a :: st) v x ↔ if a = 0 then vE 92 89 [l0, l1, l2, l3, l4] st v x else vE 92 78 [l0, l1, l2, l3, l4] st v x := vE_if rfl rfl
theorem q92_78 : vE 92 78 [l0, .ref p, l2, l3, l4] st v x ↔ vE 92 79 [l0, .ref p, l2, l3, l4] (.ref p :: st) v x := vE_s rfl rfl
theorem q92_79 : vE 92 79 [l0, l1, l2, .int a, l4] st v x ↔ vE 92 80 [l0, l1, l2, .int a, l4] (.int a :: st) v x := vE_s rfl rfl
theorem q92_80 : vE 92 80 [l0, l1, l2, l3, l4] (w1 :: w0 :: st) v x ↔ ∃ y : vm_Y, vE 95 0 [w0, w1] [] v y ∧ vB 92 80 [l0, l1, l2, l3, l4] st y x := vE_cv rfl rfl rfl rfl
theorem q92_83 : vE 92 83 [l0, l1, l2, l3, l4] (w0 :: st) v x ↔ ∃ y : vm_Y, vE 99 0 [w0] [] v y ∧ vB 92 83 [l0, l1, l2, l3, l4] st y x := vE_cs rfl rfl rfl rfl
theorem q92_86 : vE 92 86 [l0, l1, l2, l3, l4] (.int a :: st) v x ↔ if a = 0 then vE 92 89 [l0, l1, l2, l3, l4] st v x else vE 92 100 [l0, l1, l2, l3, l4] st v x := vE_if rfl rfl
theorem q92_89 : vE 92 89 [.ref p, l1, l2, l3, l4] st v x ↔ vE 92 90 [.ref p, l1, l2, l3, l4] (.ref p :: st) v x := vE_s rfl rfl
theorem q92_90 : vE 92 90 [l0, l1, l2, l3, l4] st v x ↔ vE 92 92 [l0, l1, l2, l3, l4] (.int 8 :: st) v x := vE_s rfl (by rfl)
theorem q92_92 : vE 92 92 [l0, l1, l2, .int a, l4] st v x ↔ vE 92 93 [l0, l1, l2, .int a, l4] (.int a :: st) v x := vE_s rfl rfl
theorem q92_93 : vE 92 93 [.ref p, l1, l2, l3, l4] st v x ↔ vE 92 94 [.ref p, l1, l2, l3, l4] (.ref p :: st) v x := vE_s rfl rfl
theorem q92_94 : vE 92 94 [l0, l1, l2, l3, l4] (.ref p :: st) v x ↔ vE 92 97 [l0, l1, l2, l3, l4] (.int (v.1 p 5) :: st) v x := vE_s rfl rfl
theorem q92_97 : vE 92 97 [l0, l1, l2, l3, l4] (w3 :: w2 :: w1 :: w0 :: st) v x ↔ ∃ y : vm_Y, vE 97 0 [w0, w1, w2, w3, .retAddr 0] [] v y ∧ vB 92 97 [l0, l1, l2, l3, l4] st y x := vE_cv rfl rfl rfl rfl
theorem q92_100 : vE 92 100 [l0, l1, l2, l3, l4] [] v x ↔ x = vd v := vE_vr rfl
theorem qt92 {X pc : Nat} {L r : List Value} : vB 92 pc L r (vt X v) x ↔ x = vt X v := vB_t rfl
/-! 93 PassChecker$Outcome.addEffect(III)V -/
theorem q93_0 : vE 93 0 [.ref p, l1, l2, l3, l4] st v x ↔ vE 93 1 [.ref p, l1, l2, l3, l4] (.ref p :: st) v x := vE_s rfl rfl
theorem q93_1 : vE 93 1 [l0, l1, l2, l3, l4] (.ref p :: st) v x ↔ vE 93 4 [l0, l1, l2, l3, l4] (.int (v.1 p 4) :: st) v x := vE_s rfl rfl
theorem q93_4 : vE 93 4 [l0, l1, l2, l3, l4] (.int a :: st) v x ↔ vE 93 6 [l0, l1, l2, l3, .int a] st v x := vE_s rfl rfl
theorem q93_6 : vE 93 6 [l0, l1, l2, l3, .int a] st v x ↔ vE 93 8 [l0, l1, l2, l3, .int a] (.int a :: st) v x := vE_s rfl rfl
theorem q93_8 : vE 93 8 [l0, l1, l2, l3, l4] (.int a :: st) v x ↔ if a < 0 then vE 93 50 [l0, l1, l2, l3, l4] st v x else vE 93 11 [l0, l1, l2, l3, l4] st v x := vE_if rfl rfl
theorem q93_11 : vE 93 11 [l0, l1, l2, l3, .int a] st v x ↔ vE 93 13 [l0, l1, l2, l3, .int a] (.int a :: st) v x := vE_s rfl rfl
theorem q93_13 : vE 93 13 [l0, l1, l2, l3, l4] st v x ↔ vE 93 15 [l0, l1, l2, l3, l4] (.int 8 :: st) v x := vE_s rfl (by rfl)
theorem q93_15 : vE 93 15 [l0, l1, l2, l3, l4] (.int b :: .int a :: st) v x ↔ if b ≤ a then vE 93 50 [l0, l1, l2, l3, l4] st v x else vE 93 18 [l0, l1, l2, l3, l4] st v x := vE_if rfl rfl
theorem q93_18 : vE 93 18 [.ref p, l1, l2, l3, l4] st v x ↔ vE 93 19 [.ref p, l1, l2, l3, l4] (.ref p :: st) v x := vE_s rfl rfl
theorem q93_19 : vE 93 19 [l0, l1, l2, l3, .int a] st v x ↔ vE 93 21 [l0, l1, l2, l3, .int a] (.int a :: st) v x := vE_s rfl rfl
theorem q93_21 : vE 93 21 [l0, l1, l2, l3, l4] st v x ↔ vE 93 22 [l0, l1, l2, l3, l4] (.int 1 :: st) v x := vE_s rfl (by rfl)
theorem q93_22 : vE 93 22 [l0, l1, l2, l3, l4] (.int b :: .int a :: st) v x ↔ vE 93 23 [l0, l1, l2, l3, l4] (.int (a + b) :: st) v x := vE_s rfl rfl
theorem q93_23 : vE 93 23 [l0, l1, l2, l3, l4] (.int a :: .ref p :: st) v x ↔ vE 93 26 [l0, l1, l2, l3, l4] st (vm_si v p 4 a) x := vE_s rfl rfl
theorem q93_26 : vE 93 26 [.ref p, l1, l2, l3, l4] st v x ↔ vE 93 27 [.ref p, l1, l2, l3, l4] (.ref p :: st) v x := vE_s rfl rfl
theorem q93_27 : vE 93 27 [l0, l1, l2, l3, l4] (.ref p :: st) v x ↔ vE 93 30 [l0, l1, l2, l3, l4] (.ref (p + 2) :: st) v x := vE_s rfl rfl
theorem q93_30 : vE 93 30 [l0, l1, l2, l3, .int a] st v x ↔ vE 93 32 [l0, l1, l2, l3, .int a] (.int a :: st) v x := vE_s rfl rfl
theorem q93_32 : vE 93 32 [l0, .int a, l2, l3, l4] st v x ↔ vE 93 33 [l0, .int a, l2, l3, l4] (.int a :: st) v x := vE_s rfl rfl
theorem q93_33 : vE 93 33 [l0, l1, l2, l3, l4] (.int b :: .int a :: .ref p :: st) v x ↔ vE 93 34 [l0, l1, l2, l3, l4] st (vm_si v p a.toNatClampNeg b) x := vE_s rfl rfl
theorem q93_34 : vE 93 34 [.ref p, l1, l2, l3, l4] st v x ↔ vE 93 35 [.ref p, l1, l2, l3, l4] (.ref p :: st) v x := vE_s rfl rfl
theorem q93_35 : vE 93 35 [l0, l1, l2, l3, l4] (.ref p :: st) v x ↔ vE 93 38 [l0, l1, l2, l3, l4] (.ref (p + 3) :: st) v x := vE_s rfl rfl
theorem q93_38 : vE 93 38 [l0, l1, l2, l3, .int a] st v x ↔ vE 93 40 [l0, l1, l2, l3, .int a] (.int a :: st) v x := vE_s rfl rfl
theorem q93_40 : vE 93 40 [l0, l1, .int a, l3, l4] st v x ↔ vE 93 41 [l0, l1, .int a, l3, l4] (.int a :: st) v x := vE_s rfl rfl
theorem q93_41 : vE 93 41 [l0, l1, l2, l3, l4] (.int b :: .int a :: .ref p :: st) v x ↔ vE 93 42 [l0, l1, l2, l3, l4] st (vm_si v p a.toNatClampNeg b) x := vE_s rfl rfl
theorem q93_42 : vE 93 42 [.ref p, l1, l2, l3, l4] st v x ↔ vE 93 43 [.ref p, l1, l2, l3, l4] (.ref p :: st) v x := vE_s rfl rfl
theorem q93_43 : vE 93 43 [l0, l1, l2, l3, l4] (.ref p :: st) v x ↔ vE 93 46 [l0, l1, l2, l3, l4] (.ref (p + 4) :: st) v x := vE_s rfl rfl
theorem q93_46 : vE 93 46 [l0, l1, l2, l3, .int a] st v x ↔ vE 93 48 [l0, l1, l2, l3, .int a] (.int a :: st) v x := vE_s rfl rfl
theorem q93_48 : vE 93 48 [l0, l1, l2, .int a, l4] st v x ↔ vE 93 49 [l0, l1, l2, .int a, l4] (.int a :: st) v x := vE_s rfl rfl
theorem q93_49 : vE 93 49 [l0, l1, l2, l3, l4] (.int b :: .int a :: .ref p :: st) v x ↔ vE 93 50 [l0, l1, l2, l3, l4] st (vm_si v p a.toNatClampNeg b) x := vE_s rfl rfl
theorem q93_50 : vE 93 50 [l0, l1, l2, l3, l4] [] v x ↔ x = vd v := vE_vr rfl
/-! 94 PassChecker$Values.isNumber(I)Z -/
theorem q94_0 : vE 94 0 [l0, .int a] st v x ↔ vE 94 1 [l0, .int a] (.int a :: st) v x := vE_s rfl rfl
theorem q94_1 : vE 94 1 [l0, l1] (.int a :: st) v x ↔ if a < 0 then vE 94 23 [l0, l1] st v x else vE 94 4 [l0, l1] st v x := vE_if rfl rfl
theorem q94_4 : vE 94 4 [l0, .int a] st v x ↔ vE 94 5 [l0, .int a] (.int a :: st) v x := vE_s rfl rfl
theorem q94_5 : vE 94 5 [l0, l1] st v x ↔ vE 94 7 [l0, l1] (.int 22 :: st) v x := vE_s rfl (by rfl)
theorem q94_7 : vE 94 7 [l0, l1] (.int b :: .int a :: st) v x ↔ if b ≤ a then vE 94 23 [l0, l1] st v x else vE 94 10 [l0, l1] st v x := vE_if rfl rfl
theorem q94_10 : vE 94 10 [.ref p, l1] st v x ↔ vE 94 11 [.ref p, l1] (.ref p :: st) v x := vE_s rfl rfl
theorem q94_11 : vE 94 11 [l0, l1] (.ref p :: st) v x ↔ vE 94 14 [l0, l1] (.ref (p + 24) :: st) v x := vE_s rfl rfl
theorem q94_14 : vE 94 14 [l0, .int a] st v x ↔ vE 94 15 [l0, .int a] (.int a :: st) v x := vE_s rfl rfl
theorem q94_15 : vE 94 15 [l0, l1] (.int a :: .ref p :: st) v x ↔ vE 94 16 [l0, l1] (.int (v.1 p a.toNatClampNeg) :: st) v x := vE_s rfl rfl
theorem q94_16 : vE 94 16 [l0, l1] (.int a :: st) v x ↔ if a = 0 then vE 94 23 [l0, l1] st v x else vE 94 19 [l0, l1] st v x := vE_if rfl rfl
theorem q94_19 : vE 94 19 [l0, l1] st v x ↔ vE 94 20 [l0, l1] (.int 1 :: st) v x := vE_s rfl (by rfl)
theorem q94_20 : vE 94 20 [l0, l1] st v x ↔ vE 94 24 [l0, l1] st v x := vE_s rfl rfl
theorem q94_23 : vE 94 23 [l0, l1] st v x ↔ vE 94 24 [l0, l1] (.int 0 :: st) v x := vE_s rfl (by rfl)
theorem q94_24 : vE 94 24 [l0, l1] ([.int a]) v x ↔ x = vr a v := vE_ir rfl
/-! 95 PassChecker$Values.numberOf(I)I -/
theorem q95_0 : vE 95 0 [.ref p, l1] st v x ↔ vE 95 1 [.ref p, l1] (.ref p :: st) v x := vE_s rfl rfl
theorem q95_1 : vE 95 1 [l0, .int a] st v x ↔ vE 95 2 [l0, .int a] (.int a :: st) v x := vE_s rfl rfl
theorem q95_2 : vE 95 2 [l0, l1] st v x ↔ vE 95 3 [l0, l1] (.int 0 :: st) v x := vE_s rfl (by rfl)
theorem q95_3 : vE 95 3 [l0, l1] (w2 :: w1 :: w0 :: st) v x ↔ ∃ y : vm_Y, vE 96 0 [w0, w1, w2, .retAddr 0] [] v y ∧ vB 95 3 [l0, l1] st y x := vE_cv rfl rfl rfl rfl
theorem q95_6 : vE 95 6 [l0, l1] ([.int a]) v x ↔ x = vr a v := vE_ir rfl
theorem qt95 {X pc : Nat} {L r : List Value} : vB 95 pc L r (vt X v) x ↔ x = vt X v := vB_t rfl
/-! 96 PassChecker$Values.cell(II)I -/
theorem q96_0 : vE 96 0 [l0, .int a, l2, l3] st v x ↔ vE 96 1 [l0, .int a, l2, l3] (.int a :: st) v x := vE_s rfl rfl
theorem q96_1 : vE 96 1 [l0, l1, l2, l3] (.int a :: st) v x ↔ if a < 0 then vE 96 24 [l0, l1, l2, l3] st v x else vE 96 4 [l0, l1, l2, l3] st v x := vE_if rfl rfl
theorem q96_4 : vE 96 4 [l0, .int a, l2, l3] st v x ↔ vE 96 5 [l0, .int a, l2, l3] (.int a :: st) v x := vE_s rfl rfl
theorem q96_5 : vE 96 5 [l0, l1, l2, l3] st v x ↔ vE 96 7 [l0, l1, l2, l3] (.int 22 :: st) v x := vE_s rfl (by rfl)
theorem q96_7 : vE 96 7 [l0, l1, l2, l3] (.int b :: .int a :: st) v x ↔ if b ≤ a then vE 96 24 [l0, l1, l2, l3] st v x else vE 96 10 [l0, l1, l2, l3] st v x := vE_if rfl rfl
theorem q96_10 : vE 96 10 [l0, l1, .int a, l3] st v x ↔ vE 96 11 [l0, l1, .int a, l3] (.int a :: st) v x := vE_s rfl rfl
theorem q96_11 : vE 96 11 [l0, l1, l2, l3] (.int a :: st) v x ↔ if a < 0 then vE 96 24 [l0, l1, l2, l3] st v x else vE 96 14 [l0, l1, l2, l3] st v x := vE_if rfl rfl
theorem q96_14 : vE 96 14 [l0, l1, .int a, l3] st v x ↔ vE 96 15 [l0, l1, .int a, l3] (.int a :: st) v x := vE_s rfl rfl
theorem q96_15 : vE 96 15 [l0, l1, l2, l3] st v x ↔ vE 96 17 [l0, l1, l2, l3] (.int 23 :: st) v x := vE_s rfl (by rfl)
theorem q96_17 : vE 96 17 [l0, l1, l2, l3] (.int b :: .int a :: st) v x ↔ if b ≤ a then vE 96 24 [l0, l1, l2, l3] st v x else vE 96 20 [l0, l1, l2, l3] st v x := vE_if rfl rfl
theorem q96_20 : vE 96 20 [l0, l1, l2, l3] st v x ↔ vE 96 21 [l0, l1, l2, l3] (.int 1 :: st) v x := vE_s rfl (by rfl)
theorem q96_21 : vE 96 21 [l0, l1, l2, l3] st v x ↔ vE 96 25 [l0, l1, l2, l3] st v x := vE_s rfl rfl
theorem q96_24 : vE 96 24 [l0, l1, l2, l3] st v x ↔ vE 96 25 [l0, l1, l2, l3] (.int 0 :: st) v x := vE_s rfl (by rfl)
theorem q96_25 : vE 96 25 [l0, l1, l2, l3] (.int a :: st) v x ↔ vE 96 26 [l0, l1, l2, .int a] st v x := vE_s rfl rfl
theorem q96_26 : vE 96 26 [l0, l1, l2, .int a] st v x ↔ vE 96 27 [l0, l1, l2, .int a] (.int a :: st) v x := vE_s rfl rfl
theorem q96_27 : vE 96 27 [l0, l1, l2, l3] (.int a :: st) v x ↔ if a = 0 then vE 96 41 [l0, l1, l2, l3] st v x else vE 96 30 [l0, l1, l2, l3] st v x := vE_if rfl rfl
theorem q96_30 : vE 96 30 [.ref p, l1, l2, l3] st v x ↔ vE 96 31 [.ref p, l1, l2, l3] (.ref p :: st) v x := vE_s rfl rfl
theorem q96_31 : vE 96 31 [l0, l1, l2, l3] (.ref p :: st) v x ↔ vE 96 34 [l0, l1, l2, l3] (.ref (p + 1) :: st) v x := vE_s rfl rfl
theorem q96_34 : vE 96 34 [l0, .int a, l2, l3] st v x ↔ vE 96 35 [l0, .int a, l2, l3] (.int a :: st) v x := vE_s rfl rfl
theorem q96_35 : vE 96 35 [l0, l1, l2, l3] (.int a :: .ref p :: st) v x ↔ vE 96 36 [l0, l1, l2, l3] (.ref (p + 1 + a.toNatClampNeg) :: st) v x := vE_s rfl rfl
theorem q96_36 : vE 96 36 [l0, l1, .int a, l3] st v x ↔ vE 96 37 [l0, l1, .int a, l3] (.int a :: st) v x := vE_s rfl rfl
theorem q96_37 : vE 96 37 [l0, l1, l2, l3] (.int a :: .ref p :: st) v x ↔ vE 96 38 [l0, l1, l2, l3] (.int (v.1 p a.toNatClampNeg) :: st) v x := vE_s rfl rfl
theorem q96_38 : vE 96 38 [l0, l1, l2, l3] st v x ↔ vE 96 42 [l0, l1, l2, l3] st v x := vE_s rfl rfl
theorem q96_41 : vE 96 41 [l0, l1, l2, l3] st v x ↔ vE 96 42 [l0, l1, l2, l3] (.int 0 :: st) v x := vE_s rfl (by rfl)
theorem q96_42 : vE 96 42 [l0, l1, l2, l3] ([.int a]) v x ↔ x = vr a v := vE_ir rfl
/-! 97 PassChecker$Outcome.addEffectOnce(III)V -/
theorem q97_0 : vE 97 0 [l0, l1, l2, l3, l4] st v x ↔ vE 97 1 [l0, l1, l2, l3, l4] (.int 0 :: st) v x := vE_s rfl (by rfl)
theorem q97_1 : vE 97 1 [l0, l1, l2, l3, l4] (.int a :: st) v x ↔ vE 97 3 [l0, l1, l2, l3, .int a] st v x := vE_s rfl rfl
theorem q97_3 : vE 97 3 [l0, l1, l2, l3, .int a] st v x ↔ vE 97 5 [l0, l1, l2, l3, .int a] (.int a :: st) v x := vE_s rfl rfl
theorem q97_5 : vE 97 5 [.ref p, l1, l2, l3, l4] st v x ↔ vE 97 6 [.ref p, l1, l2, l3, l4] (.ref p :: st) v x := vE_s rfl rfl
theorem q97_6 : vE 97 6 [l0, l1, l2, l3, l4] (.ref p :: st) v x ↔ vE 97 9 [l0, l1, l2, l3, l4] (.int (v.1 p 4) :: st) v x := vE_s rfl rfl
theorem q97_9 : vE 97 9 [l0, l1, l2, l3, l4] (.int b :: .int a :: st) v x ↔ if b ≤ a then vE 97 38 [l0, l1, l2, l3, l4] st v x else vE 97 12 [l0, l1, l2, l3, l4] st v x := vE_if rfl rfl
theorem q97_12 : vE 97 12 [l0, l1, l2, l3, .int a] st v x ↔ vE 97 14 [l0, l1, l2, l3, .int a] (.int a :: st) v x := vE_s rfl rfl
theorem q97_14 : vE 97 14 [l0, l1, l2, l3, l4] st v x ↔ vE 97 16 [l0, l1, l2, l3, l4] (.int 8 :: st) v x := vE_s rfl (by rfl)
theorem q97_16 : vE 97 16 [l0, l1, l2, l3, l4] (.int b :: .int a :: st) v x ↔ if b ≤ a then vE 97 38 [l0, l1, l2, l3, l4] st v x else vE 97 19 [l0, l1, l2, l3, l4] st v x := vE_if rfl rfl
theorem q97_19 : vE 97 19 [.ref p, l1, l2, l3, l4] st v x ↔ vE 97 20 [.ref p, l1, l2, l3, l4] (.ref p :: st) v x := vE_s rfl rfl
theorem q97_20 : vE 97 20 [l0, l1, l2, l3, .int a] st v x ↔ vE 97 22 [l0, l1, l2, l3, .int a] (.int a :: st) v x := vE_s rfl rfl
theorem q97_22 : vE 97 22 [l0, .int a, l2, l3, l4] st v x ↔ vE 97 23 [l0, .int a, l2, l3, l4] (.int a :: st) v x := vE_s rfl rfl
theorem q97_23 : vE 97 23 [l0, l1, .int a, l3, l4] st v x ↔ vE 97 24 [l0, l1, .int a, l3, l4] (.int a :: st) v x := vE_s rfl rfl
theorem q97_24 : vE 97 24 [l0, l1, l2, .int a, l4] st v x ↔ vE 97 25 [l0, l1, l2, .int a, l4] (.int a :: st) v x := vE_s rfl rfl
theorem q97_25 : vE 97 25 [l0, l1, l2, l3, l4] (w4 :: w3 :: w2 :: w1 :: w0 :: st) v x ↔ ∃ y : vm_Y, vE 98 0 [w0, w1, w2, w3, w4] [] v y ∧ vB 97 25 [l0, l1, l2, l3, l4] st y x := vE_cv rfl rfl rfl rfl
theorem q97_28 : vE 97 28 [l0, l1, l2, l3, l4] (.int a :: st) v x ↔ if a = 0 then vE 97 32 [l0, l1, l2, l3, l4] st v x else vE 97 31 [l0, l1, l2, l3, l4] st v x := vE_if rfl rfl
theorem q97_31 : vE 97 31 [l0, l1, l2, l3, l4] [] v x ↔ x = vd v := vE_vr rfl
theorem q97_32 : vE 97 32 [l0, l1, l2, l3, .int a] st v x ↔ vE 97 35 [l0, l1, l2, l3, .int (a + 1)] st v x := vE_s rfl rfl
theorem q97_35 : vE 97 35 [l0, l1, l2, l3, l4] st v x ↔ vE 97 3 [l0, l1, l2, l3, l4] st v x := vE_s rfl rfl
theorem q97_38 : vE 97 38 [.ref p, l1, l2, l3, l4] st v x ↔ vE 97 39 [.ref p, l1, l2, l3, l4] (.ref p :: st) v x := vE_s rfl rfl
theorem q97_39 : vE 97 39 [l0, .int a, l2, l3, l4] st v x ↔ vE 97 40 [l0, .int a, l2, l3, l4] (.int a :: st) v x := vE_s rfl rfl
theorem q97_40 : vE 97 40 [l0, l1, .int a, l3, l4] st v x ↔ vE 97 41 [l0, l1, .int a, l3, l4] (.int a :: st) v x := vE_s rfl rfl
theorem q97_41 : vE 97 41 [l0, l1, l2, .int a, l4] st v x ↔ vE 97 42 [l0, l1, l2, .int a, l4] (.int a :: st) v x := vE_s rfl rfl
theorem q97_42 : vE 97 42 [l0, l1, l2, l3, l4] (w3 :: w2 :: w1 :: w0 :: st) v x ↔ ∃ y : vm_Y, vE 93 0 [w0, w1, w2, w3, .retAddr 0] [] v y ∧ vB 97 42 [l0, l1, l2, l3, l4] st y x := vE_cv rfl rfl rfl rfl
theorem q97_45 : vE 97 45 [l0, l1, l2, l3, l4] [] v x ↔ x = vd v := vE_vr rfl
theorem qt97 {X pc : Nat} {L r : List Value} : vB 97 pc L r (vt X v) x ↔ x = vt X v := vB_t rfl
/-! 98 PassChecker$Outcome.isEffect(IIII)Z -/
theorem q98_0 : vE 98 0 [l0, .int a, l2, l3, l4] st v x ↔ vE 98 1 [l0, .int a, l2, l3, l4] (.int a :: st) v x := vE_s rfl rfl
theorem q98_1 : vE 98 1 [l0, l1, l2, l3, l4] (.int a :: st) v x ↔ if a < 0 then vE 98 45 [l0, l1, l2, l3, l4] st v x else vE 98 4 [l0, l1, l2, l3, l4] st v x := vE_if rfl rfl
theorem q98_4 : vE 98 4 [l0, .int a, l2, l3, l4] st v x ↔ vE 98 5 [l0, .int a, l2, l3, l4] (.int a :: st) v x := vE_s rfl rfl
theorem q98_5 : vE 98 5 [l0, l1, l2, l3, l4] st v x ↔ vE 98 7 [l0, l1, l2, l3, l4] (.int 8 :: st) v x := vE_s rfl (by rfl)
theorem q98_7 : vE 98 7 [l0, l1, l2, l3, l4] (.int b :: .int a :: st) v x ↔ if b ≤ a then vE 98 45 [l0, l1, l2, l3, l4] st v x else vE 98 10 [l0, l1, l2, l3, l4] st v x := vE_if rfl rfl
theorem q98_10 : vE 98 10 [.ref p, l1, l2, l3, l4] st v x ↔ vE 98 11 [.ref p, l1, l2, l3, l4] (.ref p :: st) v x := vE_s rfl rfl
theorem q98_11 : vE 98 11 [l0, l1, l2, l3, l4] (.ref p :: st) v x ↔ vE 98 14 [l0, l1, l2, l3, l4] (.ref (p + 2) :: st) v x := vE_s rfl rfl
theorem q98_14 : vE 98 14 [l0, .int a, l2, l3, l4] st v x ↔ vE 98 15 [l0, .int a, l2, l3, l4] (.int a :: st) v x := vE_s rfl rfl
theorem q98_15 : vE 98 15 [l0, l1, l2, l3, l4] (.int a :: .ref p :: st) v x ↔ vE 98 16 [l0, l1, l2, l3, l4] (.int (v.1 p a.toNatClampNeg) :: st) v x := vE_s rfl rfl
theorem q98_16 : vE 98 16 [l0, l1, .int a, l3, l4] st v x ↔ vE 98 17 [l0, l1, .int a, l3, l4] (.int a :: st) v x := vE_s rfl rfl
theorem q98_17 : vE 98 17 [l0, l1, l2, l3, l4] (.int b :: .int a :: st) v x ↔ if a = b then vE 98 20 [l0, l1, l2, l3, l4] st v x else vE 98 45 [l0, l1, l2, l3, l4] st v x := vE_if rfl rfl
theorem q98_20 : vE 98 20 [.ref p, l1, l2, l3, l4] st v x ↔ vE 98 21 [.ref p, l1, l2, l3, l4] (.ref p :: st) v x := vE_s rfl rfl
theorem q98_21 : vE 98 21 [l0, l1, l2, l3, l4] (.ref p :: st) v x ↔ vE 98 24 [l0, l1, l2, l3, l4] (.ref (p + 3) :: st) v x := vE_s rfl rfl
theorem q98_24 : vE 98 24 [l0, .int a, l2, l3, l4] st v x ↔ vE 98 25 [l0, .int a, l2, l3, l4] (.int a :: st) v x := vE_s rfl rfl
theorem q98_25 : vE 98 25 [l0, l1, l2, l3, l4] (.int a :: .ref p :: st) v x ↔ vE 98 26 [l0, l1, l2, l3, l4] (.int (v.1 p a.toNatClampNeg) :: st) v x := vE_s rfl rfl
theorem q98_26 : vE 98 26 [l0, l1, l2, .int a, l4] st v x ↔ vE 98 27 [l0, l1, l2, .int a, l4] (.int a :: st) v x := vE_s rfl rfl
theorem q98_27 : vE 98 27 [l0, l1, l2, l3, l4] (.int b :: .int a :: st) v x ↔ if a = b then vE 98 30 [l0, l1, l2, l3, l4] st v x else vE 98 45 [l0, l1, l2, l3, l4] st v x := vE_if rfl rfl
theorem q98_30 : vE 98 30 [.ref p, l1, l2, l3, l4] st v x ↔ vE 98 31 [.ref p, l1, l2, l3, l4] (.ref p :: st) v x := vE_s rfl rfl
theorem q98_31 : vE 98 31 [l0, l1, l2, l3, l4] (.ref p :: st) v x ↔ vE 98 34 [l0, l1, l2, l3, l4] (.ref (p + 4) :: st) v x := vE_s rfl rfl
theorem q98_34 : vE 98 34 [l0, .int a, l2, l3, l4] st v x ↔ vE 98 35 [l0, .int a, l2, l3, l4] (.int a :: st) v x := vE_s rfl rfl
theorem q98_35 : vE 98 35 [l0, l1, l2, l3, l4] (.int a :: .ref p :: st) v x ↔ vE 98 36 [l0, l1, l2, l3, l4] (.int (v.1 p a.toNatClampNeg) :: st) v x := vE_s rfl rfl
theorem q98_36 : vE 98 36 [l0, l1, l2, l3, .int a] st v x ↔ vE 98 38 [l0, l1, l2, l3, .int a] (.int a :: st) v x := vE_s rfl rfl
theorem q98_38 : vE 98 38 [l0, l1, l2, l3, l4] (.int b :: .int a :: st) v x ↔ if a = b then vE 98 41 [l0, l1, l2, l3, l4] st v x else vE 98 45 [l0, l1, l2, l3, l4] st v x := vE_if rfl rfl
theorem q98_41 : vE 98 41 [l0, l1, l2, l3, l4] st v x ↔ vE 98 42 [l0, l1, l2, l3, l4] (.int 1 :: st) v x := vE_s rfl (by rfl)
theorem q98_42 : vE 98 42 [l0, l1, l2, l3, l4] st v x ↔ vE 98 46 [l0, l1, l2, l3, l4] st v x := vE_s rfl rfl
theorem q98_45 : vE 98 45 [l0, l1, l2, l3, l4] st v x ↔ vE 98 46 [l0, l1, l2, l3, l4] (.int 0 :: st) v x := vE_s rfl (by rfl)
theorem q98_46 : vE 98 46 [l0, l1, l2, l3, l4] ([.int a]) v x ↔ x = vr a v := vE_ir rfl
/-! 100 PassChecker$Values.makeNumber(I)I -/
theorem q100_0 : vE 100 0 [.ref p, l1] st v x ↔ vE 100 1 [.ref p, l1] (.ref p :: st) v x := vE_s rfl rfl
theorem q100_1 : vE 100 1 [l0, l1] (.ref p :: st) v x ↔ vE 100 4 [l0, l1] (.ref (p + 29) :: st) v x := vE_s rfl rfl
theorem q100_4 : vE 100 4 [l0, l1] st v x ↔ vE 100 5 [l0, l1] (.int 0 :: st) v x := vE_s rfl (by rfl)
theorem q100_5 : vE 100 5 [l0, l1] (w1 :: w0 :: st) v x ↔ ∃ y : vm_Y, vE 80 0 [w0, w1, .retAddr 0, .retAddr 0] [] v y ∧ vB 100 5 [l0, l1] st y x := vE_cs rfl rfl rfl rfl
theorem q100_8 : vE 100 8 [.ref p, l1] st v x ↔ vE 100 9 [.ref p, l1] (.ref p :: st) v x := vE_s rfl rfl
theorem q100_9 : vE 100 9 [l0, l1] (.ref p :: st) v x ↔ vE 100 12 [l0, l1] (.ref (p + 29) :: st) v x := vE_s rfl rfl
theorem q100_12 : vE 100 12 [l0, l1] st v x ↔ vE 100 13 [l0, l1] (.int 0 :: st) v x := vE_s rfl (by rfl)
theorem q100_13 : vE 100 13 [l0, .int a] st v x ↔ vE 100 14 [l0, .int a] (.int a :: st) v x := vE_s rfl rfl
theorem q100_14 : vE 100 14 [l0, l1] (.int b :: .int a :: .ref p :: st) v x ↔ vE 100 15 [l0, l1] st (vm_si v p a.toNatClampNeg b) x := vE_s rfl rfl
theorem q100_15 : vE 100 15 [.ref p, l1] st v x ↔ vE 100 16 [.ref p, l1] (.ref p :: st) v x := vE_s rfl rfl
theorem q100_16 : vE 100 16 [l0, l1] (w0 :: st) v x ↔ ∃ y : vm_Y, vE 101 0 [w0, .retAddr 0] [] v y ∧ vB 100 16 [l0, l1] st y x := vE_cv rfl rfl rfl rfl
theorem q100_19 : vE 100 19 [l0, l1] ([.int a]) v x ↔ x = vr a v := vE_ir rfl
theorem qt100 {X pc : Nat} {L r : List Value} : vB 100 pc L r (vt X v) x ↔ x = vt X v := vB_t rfl
/-! 101 PassChecker$Values.keepDraft()I -/
theorem q101_0 : vE 101 0 [l0, l1] st v x ↔ vE 101 1 [l0, l1] (.int 0 :: st) v x := vE_s rfl (by rfl)
theorem q101_1 : vE 101 1 [l0, l1] (.int a :: st) v x ↔ vE 101 2 [l0, .int a] st v x := vE_s rfl rfl
theorem q101_2 : vE 101 2 [l0, .int a] st v x ↔ vE 101 3 [l0, .int a] (.int a :: st) v x := vE_s rfl rfl
theorem q101_3 : vE 101 3 [.ref p, l1] st v x ↔ vE 101 4 [.ref p, l1] (.ref p :: st) v x := vE_s rfl rfl
theorem q101_4 : vE 101 4 [l0, l1] (.ref p :: st) v x ↔ vE 101 7 [l0, l1] (.int (v.1 p 7) :: st) v x := vE_s rfl rfl
theorem q101_7 : vE 101 7 [l0, l1] (.int b :: .int a :: st) v x ↔ if b ≤ a then vE 101 37 [l0, l1] st v x else vE 101 10 [l0, l1] st v x := vE_if rfl rfl
theorem q101_10 : vE 101 10 [l0, .int a] st v x ↔ vE 101 11 [l0, .int a] (.int a :: st) v x := vE_s rfl rfl
theorem q101_11 : vE 101 11 [l0, l1] st v x ↔ vE 101 13 [l0, l1] (.int 22 :: st) v x := vE_s rfl (by rfl)
theorem q101_13 : vE 101 13 [l0, l1] (.int b :: .int a :: st) v x ↔ if b ≤ a then vE 101 37 [l0, l1] st v x else vE 101 16 [l0, l1] st v x := vE_if rfl rfl
theorem q101_16 : vE 101 16 [.ref p, l1] st v x ↔ vE 101 17 [.ref p, l1] (.ref p :: st) v x := vE_s rfl rfl
theorem q101_17 : vE 101 17 [.ref p, l1] st v x ↔ vE 101 18 [.ref p, l1] (.ref p :: st) v x := vE_s rfl rfl
theorem q101_18 : vE 101 18 [l0, l1] (.ref p :: st) v x ↔ vE 101 21 [l0, l1] (.ref (p + 1) :: st) v x := vE_s rfl rfl
theorem q101_21 : vE 101 21 [l0, .int a] st v x ↔ vE 101 22 [l0, .int a] (.int a :: st) v x := vE_s rfl rfl
theorem q101_22 : vE 101 22 [l0, l1] (.int a :: .ref p :: st) v x ↔ vE 101 23 [l0, l1] (.ref (p + 1 + a.toNatClampNeg) :: st) v x := vE_s rfl rfl
theorem q101_23 : vE 101 23 [l0, l1] (w1 :: w0 :: st) v x ↔ ∃ y : vm_Y, vE 102 0 [w0, w1, .retAddr 0] [] v y ∧ vB 101 23 [l0, l1] st y x := vE_cv rfl rfl rfl rfl
theorem q101_26 : vE 101 26 [l0, l1] (.int a :: st) v x ↔ if a = 0 then vE 101 31 [l0, l1] st v x else vE 101 29 [l0, l1] st v x := vE_if rfl rfl
theorem q101_29 : vE 101 29 [l0, .int a] st v x ↔ vE 101 30 [l0, .int a] (.int a :: st) v x := vE_s rfl rfl
theorem q101_30 : vE 101 30 [l0, l1] ([.int a]) v x ↔ x = vr a v := vE_ir rfl
theorem q101_31 : vE 101 31 [l0, .int a] st v x ↔ vE 101 34 [l0, .int (a + 1)] st v x := vE_s rfl rfl
theorem q101_34 : vE 101 34 [l0, l1] st v x ↔ vE 101 2 [l0, l1] st v x := vE_s rfl rfl
theorem q101_37 : vE 101 37 [.ref p, l1] st v x ↔ vE 101 38 [.ref p, l1] (.ref p :: st) v x := vE_s rfl rfl
theorem q101_38 : vE 101 38 [l0, l1] (w0 :: st) v x ↔ ∃ y : vm_Y, vE 89 0 [w0, .retAddr 0, .retAddr 0] [] v y ∧ vB 101 38 [l0, l1] st y x := vE_cv rfl rfl rfl rfl
theorem q101_41 : vE 101 41 [l0, l1] ([.int a]) v x ↔ x = vr a v := vE_ir rfl
theorem qt101 {X pc : Nat} {L r : List Value} : vB 101 pc L r (vt X v) x ↔ x = vt X v := vB_t rfl
/-! 102 PassChecker$Values.isDraft([I)Z -/
theorem q102_0 : vE 102 0 [l0, l1, l2] st v x ↔ vE 102 1 [l0, l1, l2] (.int 0 :: st) v x := vE_s rfl (by rfl)
theorem q102_1 : vE 102 1 [l0, l1, l2] (.int a :: st) v x ↔ vE 102 2 [l0, l1, .int a] st v x := vE_s rfl rfl
theorem q102_2 : vE 102 2 [l0, l1, .int a] st v x ↔ vE 102 3 [l0, l1, .int a] (.int a :: st) v x := vE_s rfl rfl
theorem q102_3 : vE 102 3 [l0, l1, l2] st v x ↔ vE 102 5 [l0, l1, l2] (.int 23 :: st) v x := vE_s rfl (by rfl)
theorem q102_5 : vE 102 5 [l0, l1, l2] (.int b :: .int a :: st) v x ↔ if b ≤ a then vE 102 34 [l0, l1, l2] st v x else vE 102 8 [l0, l1, l2] st v x := vE_if rfl rfl
theorem q102_8 : vE 102 8 [l0, l1, .int a] st v x ↔ vE 102 9 [l0, l1, .int a] (.int a :: st) v x := vE_s rfl rfl
theorem q102_9 : vE 102 9 [l0, .ref p, l2] st v x ↔ vE 102 10 [l0, .ref p, l2] (.ref p :: st) v x := vE_s rfl rfl
theorem q102_10 : vE 102 10 [l0, l1, l2] (.ref p :: st) v x ↔ vE 102 11 [l0, l1, l2] (.int (Int32.ofNat (v.2.2.2 p)) :: st) v x := vE_s rfl rfl
theorem q102_11 : vE 102 11 [l0, l1, l2] (.int b :: .int a :: st) v x ↔ if b ≤ a then vE 102 34 [l0, l1, l2] st v x else vE 102 14 [l0, l1, l2] st v x := vE_if rfl rfl
theorem q102_14 : vE 102 14 [l0, .ref p, l2] st v x ↔ vE 102 15 [l0, .ref p, l2] (.ref p :: st) v x := vE_s rfl rfl
theorem q102_15 : vE 102 15 [l0, l1, .int a] st v x ↔ vE 102 16 [l0, l1, .int a] (.int a :: st) v x := vE_s rfl rfl
theorem q102_16 : vE 102 16 [l0, l1, l2] (.int a :: .ref p :: st) v x ↔ vE 102 17 [l0, l1, l2] (.int (v.1 p a.toNatClampNeg) :: st) v x := vE_s rfl rfl
theorem q102_17 : vE 102 17 [.ref p, l1, l2] st v x ↔ vE 102 18 [.ref p, l1, l2] (.ref p :: st) v x := vE_s rfl rfl
theorem q102_18 : vE 102 18 [l0, l1, l2] (.ref p :: st) v x ↔ vE 102 21 [l0, l1, l2] (.ref (p + 29) :: st) v x := vE_s rfl rfl
theorem q102_21 : vE 102 21 [l0, l1, .int a] st v x ↔ vE 102 22 [l0, l1, .int a] (.int a :: st) v x := vE_s rfl rfl
theorem q102_22 : vE 102 22 [l0, l1, l2] (.int a :: .ref p :: st) v x ↔ vE 102 23 [l0, l1, l2] (.int (v.1 p a.toNatClampNeg) :: st) v x := vE_s rfl rfl
theorem q102_23 : vE 102 23 [l0, l1, l2] (.int b :: .int a :: st) v x ↔ if a = b then vE 102 28 [l0, l1, l2] st v x else vE 102 26 [l0, l1, l2] st v x := vE_if rfl rfl
theorem q102_26 : vE 102 26 [l0, l1, l2] st v x ↔ vE 102 27 [l0, l1, l2] (.int 0 :: st) v x := vE_s rfl (by rfl)
theorem q102_27 : vE 102 27 [l0, l1, l2] ([.int a]) v x ↔ x = vr a v := vE_ir rfl
theorem q102_28 : vE 102 28 [l0, l1, .int a] st v x ↔ vE 102 31 [l0, l1, .int (a + 1)] st v x := vE_s rfl rfl
theorem q102_31 : vE 102 31 [l0, l1, l2] st v x ↔ vE 102 2 [l0, l1, l2] st v x := vE_s rfl rfl
theorem q102_34 : vE 102 34 [l0, l1, l2] st v x ↔ vE 102 35 [l0, l1, l2] (.int 1 :: st) v x := vE_s rfl (by rfl)
theorem q102_35 : vE 102 35 [l0, l1, l2] ([.int a]) v x ↔ x = vr a v := vE_ir rfl
/-! 103 PassChecker$Outcome.combine(LPassChecker$Values;III)I -/
theorem q103_0 : vE 103 0 [l0, .ref p, l2, l3, l4, l5] st v x ↔ vE 103 1 [l0, .ref p, l2, l3, l4, l5] (.ref p :: st) v x := vE_s rfl rfl
theorem q103_1 : vE 103 1 [l0, l1, l2, .int a, l4, l5] st v x ↔ vE 103 2 [l0, l1, l2, .int a, l4, l5] (.int a :: st) v x := vE_s rfl rfl
theorem q103_2 : vE 103 2 [l0, l1, l2, l3, l4, l5] (w1 :: w0 :: st) v x ↔ ∃ y : vm_Y, vE 94 0 [w0, w1] [] v y ∧ vB 103 2 [l0, l1, l2, l3, l4, l5] st y x := vE_cv rfl rfl rfl rfl
theorem q103_5 : vE 103 5 [l0, l1, l2, l3, l4, l5] (.int a :: st) v x ↔ if a = 0 then vE 103 21 [l0, l1, l2, l3, l4, l5] st v x else vE 103 8 [l0, l1, l2, l3, l4, l5] st v x := vE_if rfl rfl
theorem q103_8 : vE 103 8 [l0, .ref p, l2, l3, l4, l5] st v x ↔ vE 103 9 [l0, .ref p, l2, l3, l4, l5] (.ref p :: st) v x := vE_s rfl rfl
theorem q103_9 : vE 103 9 [l0, l1, l2, l3, .int a, l5] st v x ↔ vE 103 11 [l0, l1, l2, l3, .int a, l5] (.int a :: st) v x := vE_s rfl rfl
theorem q103_11 : vE 103 11 [l0, l1, l2, l3, l4, l5] (w1 :: w0 :: st) v x ↔ ∃ y : vm_Y, vE 94 0 [w0, w1] [] v y ∧ vB 103 11 [l0, l1, l2, l3, l4, l5] st y x := vE_cv rfl rfl rfl rfl
theorem q103_14 : vE 103 14 [l0, l1, l2, l3, l4, l5] (.int a :: st) v x ↔ if a = 0 then vE 103 21 [l0, l1, l2, l3, l4, l5] st v x else vE 103 17 [l0, l1, l2, l3, l4, l5] st v x := vE_if rfl rfl
theorem q103_17 : vE 103 17 [l0, l1, l2, l3, l4, l5] st v x ↔ vE 103 18 [l0, l1, l2, l3, l4, l5] (.int 1 :: st) v x := vE_s rfl (by rfl)
theorem q103_18 : vE 103 18 [l0, l1, l2, l3, l4, l5] st v x ↔ vE 103 22 [l0, l1, l2, l3, l4, l5] st v x := vE_s rfl rfl
theorem q103_21 : vE 103 21 [l0, l1, l2, l3, l4, l5] st v x ↔ vE 103 22 [l0, l1, l2, l3, l4, l5] (.int 0 :: st) v x := vE_s rfl (by rfl)
theorem q103_22 : vE 103 22 [l0, l1, l2, l3, l4, l5] (.int a :: st) v x ↔ vE 103 24 [l0, l1, l2, l3, l4, .int a] st v x := vE_s rfl rfl
theorem q103_24 : vE 103 24 [l0, l1, .int a, l3, l4, l5] st v x ↔ vE 103 25 [l0, l1, .int a, l3, l4, l5] (.int a :: st) v x := vE_s rfl rfl
theorem q103_25 : vE 103 25 [l0, l1, l2, l3, l4, l5] (w0 :: st) v x ↔ ∃ y : vm_Y, vE 51 0 [w0] [] v y ∧ vB 103 25 [l0, l1, l2, l3, l4, l5] st y x := vE_cs rfl rfl rfl rfl
theorem q103_28 : vE 103 28 [l0, l1, l2, l3, l4, l5] (.int a :: st) v x ↔ if a = 0 then vE 103 69 [l0, l1, l2, l3, l4, l5] st v x else vE 103 31 [l0, l1, l2, l3, l4, l5] st v x := vE_if rfl rfl
theorem q103_31 : vE 103 31 [l0, l1, l2, l3, l4, .int a] st v x ↔ vE 103 33 [l0, l1, l2, l3, l4, .int a] (.int a :: st) v x := vE_s rfl rfl
theorem q103_33 : vE 103 33 [l0, l1, l2, l3, l4, l5] (.int a :: st) v x ↔ if a = 0 then vE 103 69 [l0, l1, l2, l3, l4, l5] st v x else vE 103 36 [l0, l1, l2, l3, l4, l5] st v x := vE_if rfl rfl
theorem q103_36 : vE 103 36 [l0, l1, .int a, l3, l4, l5] st v x ↔ vE 103 37 [l0, l1, .int a, l3, l4, l5] (.int a :: st) v x := vE_s rfl rfl
theorem q103_37 : vE 103 37 [l0, .ref p, l2, l3, l4, l5] st v x ↔ vE 103 38 [l0, .ref p, l2, l3, l4, l5] (.ref p :: st) v x := vE_s rfl rfl
theorem q103_38 : vE 103 38 [l0, l1, l2, l3, .int a, l5] st v x ↔ vE 103 40 [l0, l1, l2, l3, .int a, l5] (.int a :: st) v x := vE_s rfl rfl
theorem q103_40 : vE 103 40 [l0, l1, l2, l3, l4, l5] (w1 :: w0 :: st) v x ↔ ∃ y : vm_Y, vE 95 0 [w0, w1] [] v y ∧ vB 103 40 [l0, l1, l2, l3, l4, l5] st y x := vE_cv rfl rfl rfl rfl
theorem q103_43 : vE 103 43 [l0, l1, l2, l3, l4, l5] (w1 :: w0 :: st) v x ↔ ∃ y : vm_Y, vE 53 0 [w0, w1] [] v y ∧ vB 103 43 [l0, l1, l2, l3, l4, l5] st y x := vE_cs rfl rfl rfl rfl
theorem q103_46 : vE 103 46 [l0, l1, l2, l3, l4, l5] (.int a :: st) v x ↔ if a = 0 then vE 103 49 [l0, l1, l2, l3, l4, l5] st v x else vE 103 69 [l0, l1, l2, l3, l4, l5] st v x := vE_if rfl rfl
theorem q103_49 : vE 103 49 [l0, .ref p, l2, l3, l4, l5] st v x ↔ vE 103 50 [l0, .ref p, l2, l3, l4, l5] (.ref p :: st) v x := vE_s rfl rfl
theorem q103_50 : vE 103 50 [l0, l1, .int a, l3, l4, l5] st v x ↔ vE 103 51 [l0, l1, .int a, l3, l4, l5] (.int a :: st) v x := vE_s rfl rfl
theorem q103_51 : vE 103 51 [l0, .ref p, l2, l3, l4, l5] st v x ↔ vE 103 52 [l0, .ref p, l2, l3, l4, l5] (.ref p :: st) v x := vE_s rfl rfl
theorem q103_52 : vE 103 52 [l0, l1, l2, .int a, l4, l5] st v x ↔ vE 103 53 [l0, l1, l2, .int a, l4, l5] (.int a :: st) v x := vE_s rfl rfl
theorem q103_53 : vE 103 53 [l0, l1, l2, l3, l4, l5] (w1 :: w0 :: st) v x ↔ ∃ y : vm_Y, vE 95 0 [w0, w1] [] v y ∧ vB 103 53 [l0, l1, l2, l3, l4, l5] st y x := vE_cv rfl rfl rfl rfl
theorem q103_56 : vE 103 56 [l0, .ref p, l2, l3, l4, l5] st v x ↔ vE 103 57 [l0, .ref p, l2, l3, l4, l5] (.ref p :: st) v x := vE_s rfl rfl
theorem q103_57 : vE 103 57 [l0, l1, l2, l3, .int a, l5] st v x ↔ vE 103 59 [l0, l1, l2, l3, .int a, l5] (.int a :: st) v x := vE_s rfl rfl
theorem q103_59 : vE 103 59 [l0, l1, l2, l3, l4, l5] (w1 :: w0 :: st) v x ↔ ∃ y : vm_Y, vE 95 0 [w0, w1] [] v y ∧ vB 103 59 [l0, l1, l2, l3, l4, l5] st y x := vE_cv rfl rfl rfl rfl
theorem q103_62 : vE 103 62 [l0, l1, l2, l3, l4, l5] (w2 :: w1 :: w0 :: st) v x ↔ ∃ y : vm_Y, vE 54 0 [w0, w1, w2] [] v y ∧ vB 103 62 [l0, l1, l2, l3, l4, l5] st y x := vE_cs rfl rfl rfl rfl
theorem q103_65 : vE 103 65 [l0, l1, l2, l3, l4, l5] (w1 :: w0 :: st) v x ↔ ∃ y : vm_Y, vE 100 0 [w0, w1] [] v y ∧ vB 103 65 [l0, l1, l2, l3, l4, l5] st y x := vE_cv rfl rfl rfl rfl
theorem q103_68 : vE 103 68 [l0, l1, l2, l3, l4, l5] ([.int a]) v x ↔ x = vr a v := vE_ir rfl
theorem q103_69 : vE 103 69 [l0, l1, .int a, l3, l4, l5] st v x ↔ vE 103 70 [l0, l1, .int a, l3, l4, l5] (.int a :: st) v x := vE_s rfl rfl
theorem q103_70 : vE 103 70 [l0, l1, l2, l3, l4, l5] (.int a :: st) v x ↔ if a = 2 then vE 103 112 [l0, l1, l2, l3, l4, l5] st v x else if a = 3 then vE 103 121 [l0, l1, l2, l3, l4, l5] st v x else if a = 4 then vE 103 130 [l0, l1, l2, l3, l4, l5] st v x else if a = 5 then vE 103 138 [l0, l1, l2, l3, l4, l5] st v x else if a = 6 then vE 103 146 [l0, l1, l2, l3, l4, l5] st v x else if a = 7 then vE 103 170 [l0, l1, l2, l3, l4, l5] st v x else if a = 8 then vE 103 178 [l0, l1, l2, l3, l4, l5] st v x else vE 103 190 [l0, l1, l2, l3, l4, l5] st v x := vE_ts (d := 120) (lo := 2) (hi := 8) (os := #[42, 51, 60, 68, 76, 100, 108]) rfl (by decide) (by decide) (by decide)
theorem q103_112 : vE 103 112 [l0, .ref p, l2, l3, l4, l5] st v x ↔ vE 103 113 [l0, .ref p, l2, l3, l4, l5] (.ref p :: st) v x := vE_s rfl rfl
theorem q103_113 : vE 103 113 [l0, l1, l2, .int a, l4, l5] st v x ↔ vE 103 114 [l0, l1, l2, .int a, l4, l5] (.int a :: st) v x := vE_s rfl rfl
theorem q103_114 : vE 103 114 [l0, l1, l2, l3, .int a, l5] st v x ↔ vE 103 116 [l0, l1, l2, l3, .int a, l5] (.int a :: st) v x := vE_s rfl rfl
theorem q103_116 : vE 103 116 [l0, l1, l2, l3, l4, l5] st v x ↔ vE 103 117 [l0, l1, l2, l3, l4, l5] (.int 1 :: st) v x := vE_s rfl (by rfl)
theorem q103_117 : vE 103 117 [l0, l1, l2, l3, l4, l5] (w3 :: w2 :: w1 :: w0 :: st) v x ↔ ∃ y : vm_Y, vE 104 0 [w0, w1, w2, w3, .retAddr 0] [] v y ∧ vB 103 117 [l0, l1, l2, l3, l4, l5] st y x := vE_cv rfl rfl rfl rfl
theorem q103_120 : vE 103 120 [l0, l1, l2, l3, l4, l5] ([.int a]) v x ↔ x = vr a v := vE_ir rfl
theorem q103_121 : vE 103 121 [l0, .ref p, l2, l3, l4, l5] st v x ↔ vE 103 122 [l0, .ref p, l2, l3, l4, l5] (.ref p :: st) v x := vE_s rfl rfl
theorem q103_122 : vE 103 122 [l0, l1, l2, .int a, l4, l5] st v x ↔ vE 103 123 [l0, l1, l2, .int a, l4, l5] (.int a :: st) v x := vE_s rfl rfl
theorem q103_123 : vE 103 123 [l0, l1, l2, l3, .int a, l5] st v x ↔ vE 103 125 [l0, l1, l2, l3, .int a, l5] (.int a :: st) v x := vE_s rfl rfl
theorem q103_125 : vE 103 125 [l0, l1, l2, l3, l4, l5] st v x ↔ vE 103 126 [l0, l1, l2, l3, l4, l5] (.int (-1) :: st) v x := vE_s rfl (by rfl)
theorem q103_126 : vE 103 126 [l0, l1, l2, l3, l4, l5] (w3 :: w2 :: w1 :: w0 :: st) v x ↔ ∃ y : vm_Y, vE 104 0 [w0, w1, w2, w3, .retAddr 0] [] v y ∧ vB 103 126 [l0, l1, l2, l3, l4, l5] st y x := vE_cv rfl rfl rfl rfl
theorem q103_129 : vE 103 129 [l0, l1, l2, l3, l4, l5] ([.int a]) v x ↔ x = vr a v := vE_ir rfl
theorem q103_130 : vE 103 130 [l0, .ref p, l2, l3, l4, l5] st v x ↔ vE 103 131 [l0, .ref p, l2, l3, l4, l5] (.ref p :: st) v x := vE_s rfl rfl
theorem q103_131 : vE 103 131 [l0, l1, l2, .int a, l4, l5] st v x ↔ vE 103 132 [l0, l1, l2, .int a, l4, l5] (.int a :: st) v x := vE_s rfl rfl
theorem q103_132 : vE 103 132 [l0, l1, l2, l3, .int a, l5] st v x ↔ vE 103 134 [l0, l1, l2, l3, .int a, l5] (.int a :: st) v x := vE_s rfl rfl
theorem q103_134 : vE 103 134 [l0, l1, l2, l3, l4, l5] (w2 :: w1 :: w0 :: st) v x ↔ ∃ y : vm_Y, vE 105 0 [w0, w1, w2, .retAddr 0, .retAddr 0, .retAddr 0] [] v y ∧ vB 103 134 [l0, l1, l2, l3, l4, l5] st y x := vE_cv rfl rfl rfl rfl
theorem q103_137 : vE 103 137 [l0, l1, l2, l3, l4, l5] ([.int a]) v x ↔ x = vr a v := vE_ir rfl
theorem q103_138 : vE 103 138 [l0, .ref p, l2, l3, l4, l5] st v x ↔ vE 103 139 [l0, .ref p, l2, l3, l4, l5] (.ref p :: st) v x := vE_s rfl rfl
theorem q103_139 : vE 103 139 [l0, l1, l2, .int a, l4, l5] st v x ↔ vE 103 140 [l0, l1, l2, .int a, l4, l5] (.int a :: st) v x := vE_s rfl rfl
theorem q103_140 : vE 103 140 [l0, l1, l2, l3, .int a, l5] st v x ↔ vE 103 142 [l0, l1, l2, l3, .int a, l5] (.int a :: st) v x := vE_s rfl rfl
theorem q103_142 : vE 103 142 [l0, l1, l2, l3, l4, l5] (w2 :: w1 :: w0 :: st) v x ↔ ∃ y : vm_Y, vE 106 0 [w0, w1, w2] [] v y ∧ vB 103 142 [l0, l1, l2, l3, l4, l5] st y x := vE_cv rfl rfl rfl rfl
theorem q103_145 : vE 103 145 [l0, l1, l2, l3, l4, l5] ([.int a]) v x ↔ x = vr a v := vE_ir rfl
theorem q103_146 : vE 103 146 [l0, l1, l2, .int a, l4, l5] st v x ↔ vE 103 147 [l0, l1, l2, .int a, l4, l5] (.int a :: st) v x := vE_s rfl rfl
theorem q103_147 : vE 103 147 [l0, l1, l2, l3, .int a, l5] st v x ↔ vE 103 149 [l0, l1, l2, l3, .int a, l5] (.int a :: st) v x := vE_s rfl rfl
theorem q103_149 : vE 103 149 [l0, l1, l2, l3, l4, l5] (.int b :: .int a :: st) v x ↔ if a = b then vE 103 152 [l0, l1, l2, l3, l4, l5] st v x else vE 103 160 [l0, l1, l2, l3, l4, l5] st v x := vE_if rfl rfl
theorem q103_152 : vE 103 152 [l0, .ref p, l2, l3, l4, l5] st v x ↔ vE 103 153 [l0, .ref p, l2, l3, l4, l5] (.ref p :: st) v x := vE_s rfl rfl
theorem q103_153 : vE 103 153 [l0, l1, l2, l3, l4, l5] st v x ↔ vE 103 154 [l0, l1, l2, l3, l4, l5] (.int 0 :: st) v x := vE_s rfl (by rfl)
theorem q103_154 : vE 103 154 [l0, l1, l2, l3, l4, l5] (w1 :: w0 :: st) v x ↔ ∃ y : vm_Y, vE 100 0 [w0, w1] [] v y ∧ vB 103 154 [l0, l1, l2, l3, l4, l5] st y x := vE_cv rfl rfl rfl rfl
theorem q103_157 : vE 103 157 [l0, l1, l2, l3, l4, l5] st v x ↔ vE 103 169 [l0, l1, l2, l3, l4, l5] st v x := vE_s rfl rfl
theorem q103_160 : vE 103 160 [l0, .ref p, l2, l3, l4, l5] st v x ↔ vE 103 161 [l0, .ref p, l2, l3, l4, l5] (.ref p :: st) v x := vE_s rfl rfl
theorem q103_161 : vE 103 161 [l0, l1, l2, l3, l4, l5] st v x ↔ vE 103 163 [l0, l1, l2, l3, l4, l5] (.int 6 :: st) v x := vE_s rfl (by rfl)
theorem q103_163 : vE 103 163 [l0, l1, l2, .int a, l4, l5] st v x ↔ vE 103 164 [l0, l1, l2, .int a, l4, l5] (.int a :: st) v x := vE_s rfl rfl
theorem q103_164 : vE 103 164 [l0, l1, l2, l3, .int a, l5] st v x ↔ vE 103 166 [l0, l1, l2, l3, .int a, l5] (.int a :: st) v x := vE_s rfl rfl
theorem q103_166 : vE 103 166 [l0, l1, l2, l3, l4, l5] (w3 :: w2 :: w1 :: w0 :: st) v x ↔ ∃ y : vm_Y, vE 88 0 [w0, w1, w2, w3, .retAddr 0, .retAddr 0] [] v y ∧ vB 103 166 [l0, l1, l2, l3, l4, l5] st y x := vE_cv rfl rfl rfl rfl
theorem q103_169 : vE 103 169 [l0, l1, l2, l3, l4, l5] ([.int a]) v x ↔ x = vr a v := vE_ir rfl
theorem q103_170 : vE 103 170 [l0, .ref p, l2, l3, l4, l5] st v x ↔ vE 103 171 [l0, .ref p, l2, l3, l4, l5] (.ref p :: st) v x := vE_s rfl rfl
theorem q103_171 : vE 103 171 [l0, l1, l2, .int a, l4, l5] st v x ↔ vE 103 172 [l0, l1, l2, .int a, l4, l5] (.int a :: st) v x := vE_s rfl rfl
theorem q103_172 : vE 103 172 [l0, l1, l2, l3, .int a, l5] st v x ↔ vE 103 174 [l0, l1, l2, l3, .int a, l5] (.int a :: st) v x := vE_s rfl rfl
theorem q103_174 : vE 103 174 [l0, l1, l2, l3, l4, l5] (w2 :: w1 :: w0 :: st) v x ↔ ∃ y : vm_Y, vE 108 0 [w0, w1, w2] [] v y ∧ vB 103 174 [l0, l1, l2, l3, l4, l5] st y x := vE_cv rfl rfl rfl rfl
theorem q103_177 : vE 103 177 [l0, l1, l2, l3, l4, l5] ([.int a]) v x ↔ x = vr a v := vE_ir rfl
theorem q103_178 : vE 103 178 [l0, .ref p, l2, l3, l4, l5] st v x ↔ vE 103 179 [l0, .ref p, l2, l3, l4, l5] (.ref p :: st) v x := vE_s rfl rfl
theorem q103_179 : vE 103 179 [l0, l1, l2, l3, l4, l5] st v x ↔ vE 103 181 [l0, l1, l2, l3, l4, l5] (.int 8 :: st) v x := vE_s rfl (by rfl)
theorem q103_181 : vE 103 181 [l0, l1, l2, .int a, l4, l5] st v x ↔ vE 103 182 [l0, l1, l2, .int a, l4, l5] (.int a :: st) v x := vE_s rfl rfl
theorem q103_182 : vE 103 182 [.ref p, l1, l2, l3, l4, l5] st v x ↔ vE 103 183 [.ref p, l1, l2, l3, l4, l5] (.ref p :: st) v x := vE_s rfl rfl
theorem q103_183 : vE 103 183 [l0, l1, l2, l3, l4, l5] (.ref p :: st) v x ↔ vE 103 186 [l0, l1, l2, l3, l4, l5] (.int (v.1 p 5) :: st) v x := vE_s rfl rfl
theorem q103_186 : vE 103 186 [l0, l1, l2, l3, l4, l5] (w3 :: w2 :: w1 :: w0 :: st) v x ↔ ∃ y : vm_Y, vE 88 0 [w0, w1, w2, w3, .retAddr 0, .retAddr 0] [] v y ∧ vB 103 186 [l0, l1, l2, l3, l4, l5] st y x := vE_cv rfl rfl rfl rfl
theorem q103_189 : vE 103 189 [l0, l1, l2, l3, l4, l5] ([.int a]) v x ↔ x = vr a v := vE_ir rfl
theorem q103_190 : vE 103 190 [l0, l1, l2, .int a, l4, l5] st v x ↔ vE 103 191 [l0, l1, l2, .int a, l4, l5] (.int a :: st) v x := vE_s rfl rfl
theorem q103_191 : vE 103 191 [l0, l1, l2, l3, l4, l5] ([.int a]) v x ↔ x = vr a v := vE_ir rfl
theorem qt103 {X pc : Nat} {L r : List Value} : vB 103 pc L r (vt X v) x ↔ x = vt X v := vB_t rfl
/-! 104 PassChecker$Values.makeSum(III)I -/
theorem q104_0 : vE 104 0 [l0, l1, l2, l3, l4] st v x ↔ vE 104 1 [l0, l1, l2, l3, l4] (.int 0 :: st) v x := vE_s rfl (by rfl)
theorem q104_1 : vE 104 1 [l0, l1, l2, l3, l4] (.int a :: st) v x ↔ vE 104 3 [l0, l1, l2, l3, .int a] st v x := vE_s rfl rfl
theorem q104_3 : vE 104 3 [l0, l1, l2, l3, .int a] st v x ↔ vE 104 5 [l0, l1, l2, l3, .int a] (.int a :: st) v x := vE_s rfl rfl
theorem q104_5 : vE 104 5 [l0, l1, l2, l3, l4] st v x ↔ vE 104 7 [l0, l1, l2, l3, l4] (.int 23 :: st) v x := vE_s rfl (by rfl)
theorem q104_7 : vE 104 7 [l0, l1, l2, l3, l4] (.int b :: .int a :: st) v x ↔ if b ≤ a then vE 104 40 [l0, l1, l2, l3, l4] st v x else vE 104 10 [l0, l1, l2, l3, l4] st v x := vE_if rfl rfl
theorem q104_10 : vE 104 10 [.ref p, l1, l2, l3, l4] st v x ↔ vE 104 11 [.ref p, l1, l2, l3, l4] (.ref p :: st) v x := vE_s rfl rfl
theorem q104_11 : vE 104 11 [l0, l1, l2, l3, l4] (.ref p :: st) v x ↔ vE 104 14 [l0, l1, l2, l3, l4] (.ref (p + 29) :: st) v x := vE_s rfl rfl
theorem q104_14 : vE 104 14 [l0, l1, l2, l3, .int a] st v x ↔ vE 104 16 [l0, l1, l2, l3, .int a] (.int a :: st) v x := vE_s rfl rfl
theorem q104_16 : vE 104 16 [.ref p, l1, l2, l3, l4] st v x ↔ vE 104 17 [.ref p, l1, l2, l3, l4] (.ref p :: st) v x := vE_s rfl rfl
theorem q104_17 : vE 104 17 [l0, .int a, l2, l3, l4] st v x ↔ vE 104 18 [l0, .int a, l2, l3, l4] (.int a :: st) v x := vE_s rfl rfl
theorem q104_18 : vE 104 18 [l0, l1, l2, l3, .int a] st v x ↔ vE 104 20 [l0, l1, l2, l3, .int a] (.int a :: st) v x := vE_s rfl rfl
theorem q104_20 : vE 104 20 [l0, l1, l2, l3, l4] (w2 :: w1 :: w0 :: st) v x ↔ ∃ y : vm_Y, vE 96 0 [w0, w1, w2, .retAddr 0] [] v y ∧ vB 104 20 [l0, l1, l2, l3, l4] st y x := vE_cv rfl rfl rfl rfl
theorem q104_23 : vE 104 23 [l0, l1, l2, .int a, l4] st v x ↔ vE 104 24 [l0, l1, l2, .int a, l4] (.int a :: st) v x := vE_s rfl rfl
theorem q104_24 : vE 104 24 [.ref p, l1, l2, l3, l4] st v x ↔ vE 104 25 [.ref p, l1, l2, l3, l4] (.ref p :: st) v x := vE_s rfl rfl
theorem q104_25 : vE 104 25 [l0, l1, .int a, l3, l4] st v x ↔ vE 104 26 [l0, l1, .int a, l3, l4] (.int a :: st) v x := vE_s rfl rfl
theorem q104_26 : vE 104 26 [l0, l1, l2, l3, .int a] st v x ↔ vE 104 28 [l0, l1, l2, l3, .int a] (.int a :: st) v x := vE_s rfl rfl
theorem q104_28 : vE 104 28 [l0, l1, l2, l3, l4] (w2 :: w1 :: w0 :: st) v x ↔ ∃ y : vm_Y, vE 96 0 [w0, w1, w2, .retAddr 0] [] v y ∧ vB 104 28 [l0, l1, l2, l3, l4] st y x := vE_cv rfl rfl rfl rfl
theorem q104_31 : vE 104 31 [l0, l1, l2, l3, l4] (.int b :: .int a :: st) v x ↔ vE 104 32 [l0, l1, l2, l3, l4] (.int (a * b) :: st) v x := vE_s rfl rfl
theorem q104_32 : vE 104 32 [l0, l1, l2, l3, l4] (.int b :: .int a :: st) v x ↔ vE 104 33 [l0, l1, l2, l3, l4] (.int (a + b) :: st) v x := vE_s rfl rfl
theorem q104_33 : vE 104 33 [l0, l1, l2, l3, l4] (.int b :: .int a :: .ref p :: st) v x ↔ vE 104 34 [l0, l1, l2, l3, l4] st (vm_si v p a.toNatClampNeg b) x := vE_s rfl rfl
theorem q104_34 : vE 104 34 [l0, l1, l2, l3, .int a] st v x ↔ vE 104 37 [l0, l1, l2, l3, .int (a + 1)] st v x := vE_s rfl rfl
theorem q104_37 : vE 104 37 [l0, l1, l2, l3, l4] st v x ↔ vE 104 3 [l0, l1, l2, l3, l4] st v x := vE_s rfl rfl
theorem q104_40 : vE 104 40 [.ref p, l1, l2, l3, l4] st v x ↔ vE 104 41 [.ref p, l1, l2, l3, l4] (.ref p :: st) v x := vE_s rfl rfl
theorem q104_41 : vE 104 41 [l0, l1, l2, l3, l4] (w0 :: st) v x ↔ ∃ y : vm_Y, vE 101 0 [w0, .retAddr 0] [] v y ∧ vB 104 41 [l0, l1, l2, l3, l4] st y x := vE_cv rfl rfl rfl rfl
theorem q104_44 : vE 104 44 [l0, l1, l2, l3, l4] ([.int a]) v x ↔ x = vr a v := vE_ir rfl
theorem qt104 {X pc : Nat} {L r : List Value} : vB 104 pc L r (vt X v) x ↔ x = vt X v := vB_t rfl
/-! 105 PassChecker$Values.makeProduct(II)I -/
theorem q105_0 : vE 105 0 [.ref p, l1, l2, l3, l4, l5] st v x ↔ vE 105 1 [.ref p, l1, l2, l3, l4, l5] (.ref p :: st) v x := vE_s rfl rfl
theorem q105_1 : vE 105 1 [l0, .int a, l2, l3, l4, l5] st v x ↔ vE 105 2 [l0, .int a, l2, l3, l4, l5] (.int a :: st) v x := vE_s rfl rfl
theorem q105_2 : vE 105 2 [l0, l1, l2, l3, l4, l5] (w1 :: w0 :: st) v x ↔ ∃ y : vm_Y, vE 94 0 [w0, w1] [] v y ∧ vB 105 2 [l0, l1, l2, l3, l4, l5] st y x := vE_cv rfl rfl rfl rfl
theorem q105_5 : vE 105 5 [l0, l1, l2, l3, l4, l5] (.int a :: st) v x ↔ if a = 0 then vE 105 8 [l0, l1, l2, l3, l4, l5] st v x else vE 105 32 [l0, l1, l2, l3, l4, l5] st v x := vE_if rfl rfl
theorem q105_8 : vE 105 8 [.ref p, l1, l2, l3, l4, l5] st v x ↔ vE 105 9 [.ref p, l1, l2, l3, l4, l5] (.ref p :: st) v x := vE_s rfl rfl
theorem q105_9 : vE 105 9 [l0, l1, .int a, l3, l4, l5] st v x ↔ vE 105 10 [l0, l1, .int a, l3, l4, l5] (.int a :: st) v x := vE_s rfl rfl
theorem q105_10 : vE 105 10 [l0, l1, l2, l3, l4, l5] (w1 :: w0 :: st) v x ↔ ∃ y : vm_Y, vE 94 0 [w0, w1] [] v y ∧ vB 105 10 [l0, l1, l2, l3, l4, l5] st y x := vE_cv rfl rfl rfl rfl
theorem q105_13 : vE 105 13 [l0, l1, l2, l3, l4, l5] (.int a :: st) v x ↔ if a = 0 then vE 105 16 [l0, l1, l2, l3, l4, l5] st v x else vE 105 32 [l0, l1, l2, l3, l4, l5] st v x := vE_if rfl rfl
theorem q105_16 : vE 105 16 [.ref p, l1, l2, l3, l4, l5] st v x ↔ vE 105 17 [.ref p, l1, l2, l3, l4, l5] (.ref p :: st) v x := vE_s rfl rfl
theorem q105_17 : vE 105 17 [l0, l1, l2, l3, l4, l5] st v x ↔ vE 105 18 [l0, l1, l2, l3, l4, l5] (.int 4 :: st) v x := vE_s rfl (by rfl)
theorem q105_18 : vE 105 18 [l0, .int a, l2, l3, l4, l5] st v x ↔ vE 105 19 [l0, .int a, l2, l3, l4, l5] (.int a :: st) v x := vE_s rfl rfl
theorem q105_19 : vE 105 19 [l0, l1, .int a, l3, l4, l5] st v x ↔ vE 105 20 [l0, l1, .int a, l3, l4, l5] (.int a :: st) v x := vE_s rfl rfl
theorem q105_20 : vE 105 20 [l0, l1, l2, l3, l4, l5] (w1 :: w0 :: st) v x ↔ ∃ y : vm_Y, vE 64 0 [w0, w1] [] v y ∧ vB 105 20 [l0, l1, l2, l3, l4, l5] st y x := vE_cs rfl rfl rfl rfl
theorem q105_23 : vE 105 23 [l0, .int a, l2, l3, l4, l5] st v x ↔ vE 105 24 [l0, .int a, l2, l3, l4, l5] (.int a :: st) v x := vE_s rfl rfl
theorem q105_24 : vE 105 24 [l0, l1, .int a, l3, l4, l5] st v x ↔ vE 105 25 [l0, l1, .int a, l3, l4, l5] (.int a :: st) v x := vE_s rfl rfl
theorem q105_25 : vE 105 25 [l0, l1, l2, l3, l4, l5] (w1 :: w0 :: st) v x ↔ ∃ y : vm_Y, vE 67 0 [w0, w1] [] v y ∧ vB 105 25 [l0, l1, l2, l3, l4, l5] st y x := vE_cs rfl rfl rfl rfl
theorem q105_28 : vE 105 28 [l0, l1, l2, l3, l4, l5] (w3 :: w2 :: w1 :: w0 :: st) v x ↔ ∃ y : vm_Y, vE 88 0 [w0, w1, w2, w3, .retAddr 0, .retAddr 0] [] v y ∧ vB 105 28 [l0, l1, l2, l3, l4, l5] st y x := vE_cv rfl rfl rfl rfl
theorem q105_31 : vE 105 31 [l0, l1, l2, l3, l4, l5] ([.int a]) v x ↔ x = vr a v := vE_ir rfl
theorem q105_32 : vE 105 32 [.ref p, l1, l2, l3, l4, l5] st v x ↔ vE 105 33 [.ref p, l1, l2, l3, l4, l5] (.ref p :: st) v x := vE_s rfl rfl
theorem q105_33 : vE 105 33 [l0, .int a, l2, l3, l4, l5] st v x ↔ vE 105 34 [l0, .int a, l2, l3, l4, l5] (.int a :: st) v x := vE_s rfl rfl
theorem q105_34 : vE 105 34 [l0, l1, l2, l3, l4, l5] (w1 :: w0 :: st) v x ↔ ∃ y : vm_Y, vE 94 0 [w0, w1] [] v y ∧ vB 105 34 [l0, l1, l2, l3, l4, l5] st y x := vE_cv rfl rfl rfl rfl
theorem q105_37 : vE 105 37 [l0, l1, l2, l3, l4, l5] (.int a :: st) v x ↔ if a = 0 then vE 105 48 [l0, l1, l2, l3, l4, l5] st v x else vE 105 40 [l0, l1, l2, l3, l4, l5] st v x := vE_if rfl rfl
theorem q105_40 : vE 105 40 [.ref p, l1, l2, l3, l4, l5] st v x ↔ vE 105 41 [.ref p, l1, l2, l3, l4, l5] (.ref p :: st) v x := vE_s rfl rfl
theorem q105_41 : vE 105 41 [l0, .int a, l2, l3, l4, l5] st v x ↔ vE 105 42 [l0, .int a, l2, l3, l4, l5] (.int a :: st) v x := vE_s rfl rfl
theorem q105_42 : vE 105 42 [l0, l1, l2, l3, l4, l5] (w1 :: w0 :: st) v x ↔ ∃ y : vm_Y, vE 95 0 [w0, w1] [] v y ∧ vB 105 42 [l0, l1, l2, l3, l4, l5] st y x := vE_cv rfl rfl rfl rfl
theorem q105_45 : vE 105 45 [l0, l1, l2, l3, l4, l5] st v x ↔ vE 105 53 [l0, l1, l2, l3, l4, l5] st v x := vE_s rfl rfl
theorem q105_48 : vE 105 48 [.ref p, l1, l2, l3, l4, l5] st v x ↔ vE 105 49 [.ref p, l1, l2, l3, l4, l5] (.ref p :: st) v x := vE_s rfl rfl
theorem q105_49 : vE 105 49 [l0, l1, .int a, l3, l4, l5] st v x ↔ vE 105 50 [l0, l1, .int a, l3, l4, l5] (.int a :: st) v x := vE_s rfl rfl
theorem q105_50 : vE 105 50 [l0, l1, l2, l3, l4, l5] (w1 :: w0 :: st) v x ↔ ∃ y : vm_Y, vE 95 0 [w0, w1] [] v y ∧ vB 105 50 [l0, l1, l2, l3, l4, l5] st y x := vE_cv rfl rfl rfl rfl
theorem q105_53 : vE 105 53 [l0, l1, l2, l3, l4, l5] (.int a :: st) v x ↔ vE 105 54 [l0, l1, l2, .int a, l4, l5] st v x := vE_s rfl rfl
theorem q105_54 : vE 105 54 [.ref p, l1, l2, l3, l4, l5] st v x ↔ vE 105 55 [.ref p, l1, l2, l3, l4, l5] (.ref p :: st) v x := vE_s rfl rfl
theorem q105_55 : vE 105 55 [l0, .int a, l2, l3, l4, l5] st v x ↔ vE 105 56 [l0, .int a, l2, l3, l4, l5] (.int a :: st) v x := vE_s rfl rfl
theorem q105_56 : vE 105 56 [l0, l1, l2, l3, l4, l5] (w1 :: w0 :: st) v x ↔ ∃ y : vm_Y, vE 94 0 [w0, w1] [] v y ∧ vB 105 56 [l0, l1, l2, l3, l4, l5] st y x := vE_cv rfl rfl rfl rfl
theorem q105_59 : vE 105 59 [l0, l1, l2, l3, l4, l5] (.int a :: st) v x ↔ if a = 0 then vE 105 66 [l0, l1, l2, l3, l4, l5] st v x else vE 105 62 [l0, l1, l2, l3, l4, l5] st v x := vE_if rfl rfl
theorem q105_62 : vE 105 62 [l0, l1, .int a, l3, l4, l5] st v x ↔ vE 105 63 [l0, l1, .int a, l3, l4, l5] (.int a :: st) v x := vE_s rfl rfl
theorem q105_63 : vE 105 63 [l0, l1, l2, l3, l4, l5] st v x ↔ vE 105 67 [l0, l1, l2, l3, l4, l5] st v x := vE_s rfl rfl
theorem q105_66 : vE 105 66 [l0, .int a, l2, l3, l4, l5] st v x ↔ vE 105 67 [l0, .int a, l2, l3, l4, l5] (.int a :: st) v x := vE_s rfl rfl
theorem q105_67 : vE 105 67 [l0, l1, l2, l3, l4, l5] (.int a :: st) v x ↔ vE 105 69 [l0, l1, l2, l3, .int a, l5] st v x := vE_s rfl rfl
theorem q105_69 : vE 105 69 [l0, l1, l2, l3, l4, l5] st v x ↔ vE 105 70 [l0, l1, l2, l3, l4, l5] (.int 0 :: st) v x := vE_s rfl (by rfl)
theorem q105_70 : vE 105 70 [l0, l1, l2, l3, l4, l5] (.int a :: st) v x ↔ vE 105 72 [l0, l1, l2, l3, l4, .int a] st v x := vE_s rfl rfl
theorem q105_72 : vE 105 72 [l0, l1, l2, l3, l4, .int a] st v x ↔ vE 105 74 [l0, l1, l2, l3, l4, .int a] (.int a :: st) v x := vE_s rfl rfl
theorem q105_74 : vE 105 74 [l0, l1, l2, l3, l4, l5] st v x ↔ vE 105 76 [l0, l1, l2, l3, l4, l5] (.int 23 :: st) v x := vE_s rfl (by rfl)
theorem q105_76 : vE 105 76 [l0, l1, l2, l3, l4, l5] (.int b :: .int a :: st) v x ↔ if b ≤ a then vE 105 102 [l0, l1, l2, l3, l4, l5] st v x else vE 105 79 [l0, l1, l2, l3, l4, l5] st v x := vE_if rfl rfl
theorem q105_79 : vE 105 79 [.ref p, l1, l2, l3, l4, l5] st v x ↔ vE 105 80 [.ref p, l1, l2, l3, l4, l5] (.ref p :: st) v x := vE_s rfl rfl
theorem q105_80 : vE 105 80 [l0, l1, l2, l3, l4, l5] (.ref p :: st) v x ↔ vE 105 83 [l0, l1, l2, l3, l4, l5] (.ref (p + 29) :: st) v x := vE_s rfl rfl
theorem q105_83 : vE 105 83 [l0, l1, l2, l3, l4, .int a] st v x ↔ vE 105 85 [l0, l1, l2, l3, l4, .int a] (.int a :: st) v x := vE_s rfl rfl
theorem q105_85 : vE 105 85 [l0, l1, l2, .int a, l4, l5] st v x ↔ vE 105 86 [l0, l1, l2, .int a, l4, l5] (.int a :: st) v x := vE_s rfl rfl
theorem q105_86 : vE 105 86 [.ref p, l1, l2, l3, l4, l5] st v x ↔ vE 105 87 [.ref p, l1, l2, l3, l4, l5] (.ref p :: st) v x := vE_s rfl rfl
theorem q105_87 : vE 105 87 [l0, l1, l2, l3, .int a, l5] st v x ↔ vE 105 89 [l0, l1, l2, l3, .int a, l5] (.int a :: st) v x := vE_s rfl rfl
theorem q105_89 : vE 105 89 [l0, l1, l2, l3, l4, .int a] st v x ↔ vE 105 91 [l0, l1, l2, l3, l4, .int a] (.int a :: st) v x := vE_s rfl rfl
theorem q105_91 : vE 105 91 [l0, l1, l2, l3, l4, l5] (w2 :: w1 :: w0 :: st) v x ↔ ∃ y : vm_Y, vE 96 0 [w0, w1, w2, .retAddr 0] [] v y ∧ vB 105 91 [l0, l1, l2, l3, l4, l5] st y x := vE_cv rfl rfl rfl rfl
theorem q105_94 : vE 105 94 [l0, l1, l2, l3, l4, l5] (.int b :: .int a :: st) v x ↔ vE 105 95 [l0, l1, l2, l3, l4, l5] (.int (a * b) :: st) v x := vE_s rfl rfl
theorem q105_95 : vE 105 95 [l0, l1, l2, l3, l4, l5] (.int b :: .int a :: .ref p :: st) v x ↔ vE 105 96 [l0, l1, l2, l3, l4, l5] st (vm_si v p a.toNatClampNeg b) x := vE_s rfl rfl
theorem q105_96 : vE 105 96 [l0, l1, l2, l3, l4, .int a] st v x ↔ vE 105 99 [l0, l1, l2, l3, l4, .int (a + 1)] st v x := vE_s rfl rfl
theorem q105_99 : vE 105 99 [l0, l1, l2, l3, l4, l5] st v x ↔ vE 105 72 [l0, l1, l2, l3, l4, l5] st v x := vE_s rfl rfl
theorem q105_102 : vE 105 102 [.ref p, l1, l2, l3, l4, l5] st v x ↔ vE 105 103 [.ref p, l1, l2, l3, l4, l5] (.ref p :: st) v x := vE_s rfl rfl
theorem q105_103 : vE 105 103 [l0, l1, l2, l3, l4, l5] (w0 :: st) v x ↔ ∃ y : vm_Y, vE 101 0 [w0, .retAddr 0] [] v y ∧ vB 105 103 [l0, l1, l2, l3, l4, l5] st y x := vE_cv rfl rfl rfl rfl
theorem q105_106 : vE 105 106 [l0, l1, l2, l3, l4, l5] ([.int a]) v x ↔ x = vr a v := vE_ir rfl
theorem qt105 {X pc : Nat} {L r : List Value} : vB 105 pc L r (vt X v) x ↔ x = vt X v := vB_t rfl
/-! 106 PassChecker$Values.makeAnd(II)I -/
theorem q106_0 : vE 106 0 [l0, .int a, l2] st v x ↔ vE 106 1 [l0, .int a, l2] (.int a :: st) v x := vE_s rfl rfl
theorem q106_1 : vE 106 1 [l0, l1, .int a] st v x ↔ vE 106 2 [l0, l1, .int a] (.int a :: st) v x := vE_s rfl rfl
theorem q106_2 : vE 106 2 [l0, l1, l2] (.int b :: .int a :: st) v x ↔ if a = b then vE 106 23 [l0, l1, l2] st v x else vE 106 5 [l0, l1, l2] st v x := vE_if rfl rfl
theorem q106_5 : vE 106 5 [.ref p, l1, l2] st v x ↔ vE 106 6 [.ref p, l1, l2] (.ref p :: st) v x := vE_s rfl rfl
theorem q106_6 : vE 106 6 [l0, .int a, l2] st v x ↔ vE 106 7 [l0, .int a, l2] (.int a :: st) v x := vE_s rfl rfl
theorem q106_7 : vE 106 7 [l0, l1, l2] st v x ↔ vE 106 8 [l0, l1, l2] (.int 0 :: st) v x := vE_s rfl (by rfl)
theorem q106_8 : vE 106 8 [l0, l1, l2] (w2 :: w1 :: w0 :: st) v x ↔ ∃ y : vm_Y, vE 107 0 [w0, w1, w2] [] v y ∧ vB 106 8 [l0, l1, l2] st y x := vE_cv rfl rfl rfl rfl
theorem q106_11 : vE 106 11 [l0, l1, l2] (.int a :: st) v x ↔ if a = 0 then vE 106 14 [l0, l1, l2] st v x else vE 106 23 [l0, l1, l2] st v x := vE_if rfl rfl
theorem q106_14 : vE 106 14 [.ref p, l1, l2] st v x ↔ vE 106 15 [.ref p, l1, l2] (.ref p :: st) v x := vE_s rfl rfl
theorem q106_15 : vE 106 15 [l0, l1, .int a] st v x ↔ vE 106 16 [l0, l1, .int a] (.int a :: st) v x := vE_s rfl rfl
theorem q106_16 : vE 106 16 [l0, l1, l2] st v x ↔ vE 106 17 [l0, l1, l2] (.int (-1) :: st) v x := vE_s rfl (by rfl)
theorem q106_17 : vE 106 17 [l0, l1, l2] (w2 :: w1 :: w0 :: st) v x ↔ ∃ y : vm_Y, vE 107 0 [w0, w1, w2] [] v y ∧ vB 106 17 [l0, l1, l2] st y x := vE_cv rfl rfl rfl rfl
theorem q106_20 : vE 106 20 [l0, l1, l2] (.int a :: st) v x ↔ if a = 0 then vE 106 25 [l0, l1, l2] st v x else vE 106 23 [l0, l1, l2] st v x := vE_if rfl rfl
theorem q106_23 : vE 106 23 [l0, .int a, l2] st v x ↔ vE 106 24 [l0, .int a, l2] (.int a :: st) v x := vE_s rfl rfl
theorem q106_24 : vE 106 24 [l0, l1, l2] ([.int a]) v x ↔ x = vr a v := vE_ir rfl
theorem q106_25 : vE 106 25 [.ref p, l1, l2] st v x ↔ vE 106 26 [.ref p, l1, l2] (.ref p :: st) v x := vE_s rfl rfl
theorem q106_26 : vE 106 26 [l0, l1, .int a] st v x ↔ vE 106 27 [l0, l1, .int a] (.int a :: st) v x := vE_s rfl rfl
theorem q106_27 : vE 106 27 [l0, l1, l2] st v x ↔ vE 106 28 [l0, l1, l2] (.int 0 :: st) v x := vE_s rfl (by rfl)
theorem q106_28 : vE 106 28 [l0, l1, l2] (w2 :: w1 :: w0 :: st) v x ↔ ∃ y : vm_Y, vE 107 0 [w0, w1, w2] [] v y ∧ vB 106 28 [l0, l1, l2] st y x := vE_cv rfl rfl rfl rfl
theorem q106_31 : vE 106 31 [l0, l1, l2] (.int a :: st) v x ↔ if a = 0 then vE 106 34 [l0, l1, l2] st v x else vE 106 43 [l0, l1, l2] st v x := vE_if rfl rfl
theorem q106_34 : vE 106 34 [.ref p, l1, l2] st v x ↔ vE 106 35 [.ref p, l1, l2] (.ref p :: st) v x := vE_s rfl rfl
theorem q106_35 : vE 106 35 [l0, .int a, l2] st v x ↔ vE 106 36 [l0, .int a, l2] (.int a :: st) v x := vE_s rfl rfl
theorem q106_36 : vE 106 36 [l0, l1, l2] st v x ↔ vE 106 37 [l0, l1, l2] (.int (-1) :: st) v x := vE_s rfl (by rfl)
theorem q106_37 : vE 106 37 [l0, l1, l2] (w2 :: w1 :: w0 :: st) v x ↔ ∃ y : vm_Y, vE 107 0 [w0, w1, w2] [] v y ∧ vB 106 37 [l0, l1, l2] st y x := vE_cv rfl rfl rfl rfl
theorem q106_40 : vE 106 40 [l0, l1, l2] (.int a :: st) v x ↔ if a = 0 then vE 106 45 [l0, l1, l2] st v x else vE 106 43 [l0, l1, l2] st v x := vE_if rfl rfl
theorem q106_43 : vE 106 43 [l0, l1, .int a] st v x ↔ vE 106 44 [l0, l1, .int a] (.int a :: st) v x := vE_s rfl rfl
theorem q106_44 : vE 106 44 [l0, l1, l2] ([.int a]) v x ↔ x = vr a v := vE_ir rfl
theorem q106_45 : vE 106 45 [.ref p, l1, l2] st v x ↔ vE 106 46 [.ref p, l1, l2] (.ref p :: st) v x := vE_s rfl rfl
theorem q106_46 : vE 106 46 [l0, l1, l2] st v x ↔ vE 106 47 [l0, l1, l2] (.int 5 :: st) v x := vE_s rfl (by rfl)
theorem q106_47 : vE 106 47 [l0, .int a, l2] st v x ↔ vE 106 48 [l0, .int a, l2] (.int a :: st) v x := vE_s rfl rfl
theorem q106_48 : vE 106 48 [l0, l1, .int a] st v x ↔ vE 106 49 [l0, l1, .int a] (.int a :: st) v x := vE_s rfl rfl
theorem q106_49 : vE 106 49 [l0, l1, l2] (w1 :: w0 :: st) v x ↔ ∃ y : vm_Y, vE 64 0 [w0, w1] [] v y ∧ vB 106 49 [l0, l1, l2] st y x := vE_cs rfl rfl rfl rfl
theorem q106_52 : vE 106 52 [l0, .int a, l2] st v x ↔ vE 106 53 [l0, .int a, l2] (.int a :: st) v x := vE_s rfl rfl
theorem q106_53 : vE 106 53 [l0, l1, .int a] st v x ↔ vE 106 54 [l0, l1, .int a] (.int a :: st) v x := vE_s rfl rfl
theorem q106_54 : vE 106 54 [l0, l1, l2] (w1 :: w0 :: st) v x ↔ ∃ y : vm_Y, vE 67 0 [w0, w1] [] v y ∧ vB 106 54 [l0, l1, l2] st y x := vE_cs rfl rfl rfl rfl
theorem q106_57 : vE 106 57 [l0, l1, l2] (w3 :: w2 :: w1 :: w0 :: st) v x ↔ ∃ y : vm_Y, vE 88 0 [w0, w1, w2, w3, .retAddr 0, .retAddr 0] [] v y ∧ vB 106 57 [l0, l1, l2] st y x := vE_cv rfl rfl rfl rfl
theorem q106_60 : vE 106 60 [l0, l1, l2] ([.int a]) v x ↔ x = vr a v := vE_ir rfl
theorem qt106 {X pc : Nat} {L r : List Value} : vB 106 pc L r (vt X v) x ↔ x = vt X v := vB_t rfl
/-! 107 PassChecker$Values.isThis(II)Z -/
theorem q107_0 : vE 107 0 [.ref p, l1, l2] st v x ↔ vE 107 1 [.ref p, l1, l2] (.ref p :: st) v x := vE_s rfl rfl
theorem q107_1 : vE 107 1 [l0, .int a, l2] st v x ↔ vE 107 2 [l0, .int a, l2] (.int a :: st) v x := vE_s rfl rfl
theorem q107_2 : vE 107 2 [l0, l1, l2] (w1 :: w0 :: st) v x ↔ ∃ y : vm_Y, vE 94 0 [w0, w1] [] v y ∧ vB 107 2 [l0, l1, l2] st y x := vE_cv rfl rfl rfl rfl
theorem q107_5 : vE 107 5 [l0, l1, l2] (.int a :: st) v x ↔ if a = 0 then vE 107 22 [l0, l1, l2] st v x else vE 107 8 [l0, l1, l2] st v x := vE_if rfl rfl
theorem q107_8 : vE 107 8 [.ref p, l1, l2] st v x ↔ vE 107 9 [.ref p, l1, l2] (.ref p :: st) v x := vE_s rfl rfl
theorem q107_9 : vE 107 9 [l0, .int a, l2] st v x ↔ vE 107 10 [l0, .int a, l2] (.int a :: st) v x := vE_s rfl rfl
theorem q107_10 : vE 107 10 [l0, l1, l2] st v x ↔ vE 107 11 [l0, l1, l2] (.int 0 :: st) v x := vE_s rfl (by rfl)
theorem q107_11 : vE 107 11 [l0, l1, l2] (w2 :: w1 :: w0 :: st) v x ↔ ∃ y : vm_Y, vE 96 0 [w0, w1, w2, .retAddr 0] [] v y ∧ vB 107 11 [l0, l1, l2] st y x := vE_cv rfl rfl rfl rfl
theorem q107_14 : vE 107 14 [l0, l1, .int a] st v x ↔ vE 107 15 [l0, l1, .int a] (.int a :: st) v x := vE_s rfl rfl
theorem q107_15 : vE 107 15 [l0, l1, l2] (.int b :: .int a :: st) v x ↔ if a = b then vE 107 18 [l0, l1, l2] st v x else vE 107 22 [l0, l1, l2] st v x := vE_if rfl rfl
theorem q107_18 : vE 107 18 [l0, l1, l2] st v x ↔ vE 107 19 [l0, l1, l2] (.int 1 :: st) v x := vE_s rfl (by rfl)
theorem q107_19 : vE 107 19 [l0, l1, l2] st v x ↔ vE 107 23 [l0, l1, l2] st v x := vE_s rfl rfl
theorem q107_22 : vE 107 22 [l0, l1, l2] st v x ↔ vE 107 23 [l0, l1, l2] (.int 0 :: st) v x := vE_s rfl (by rfl)
theorem q107_23 : vE 107 23 [l0, l1, l2] ([.int a]) v x ↔ x = vr a v := vE_ir rfl
theorem qt107 {X pc : Nat} {L r : List Value} : vB 107 pc L r (vt X v) x ↔ x = vt X v := vB_t rfl
/-! 108 PassChecker$Values.makeQuotient(II)I -/
theorem q108_0 : vE 108 0 [.ref p, l1, l2] st v x ↔ vE 108 1 [.ref p, l1, l2] (.ref p :: st) v x := vE_s rfl rfl
theorem q108_1 : vE 108 1 [l0, l1, .int a] st v x ↔ vE 108 2 [l0, l1, .int a] (.int a :: st) v x := vE_s rfl rfl
theorem q108_2 : vE 108 2 [l0, l1, l2] st v x ↔ vE 108 3 [l0, l1, l2] (.int 1 :: st) v x := vE_s rfl (by rfl)
theorem q108_3 : vE 108 3 [l0, l1, l2] (w2 :: w1 :: w0 :: st) v x ↔ ∃ y : vm_Y, vE 107 0 [w0, w1, w2] [] v y ∧ vB 108 3 [l0, l1, l2] st y x := vE_cv rfl rfl rfl rfl
theorem q108_6 : vE 108 6 [l0, l1, l2] (.int a :: st) v x ↔ if a = 0 then vE 108 13 [l0, l1, l2] st v x else vE 108 9 [l0, l1, l2] st v x := vE_if rfl rfl
theorem q108_9 : vE 108 9 [l0, .int a, l2] st v x ↔ vE 108 10 [l0, .int a, l2] (.int a :: st) v x := vE_s rfl rfl
theorem q108_10 : vE 108 10 [l0, l1, l2] st v x ↔ vE 108 21 [l0, l1, l2] st v x := vE_s rfl rfl
theorem q108_13 : vE 108 13 [.ref p, l1, l2] st v x ↔ vE 108 14 [.ref p, l1, l2] (.ref p :: st) v x := vE_s rfl rfl
theorem q108_14 : vE 108 14 [l0, l1, l2] st v x ↔ vE 108 16 [l0, l1, l2] (.int 7 :: st) v x := vE_s rfl (by rfl)
theorem q108_16 : vE 108 16 [l0, .int a, l2] st v x ↔ vE 108 17 [l0, .int a, l2] (.int a :: st) v x := vE_s rfl rfl
theorem q108_17 : vE 108 17 [l0, l1, .int a] st v x ↔ vE 108 18 [l0, l1, .int a] (.int a :: st) v x := vE_s rfl rfl
theorem q108_18 : vE 108 18 [l0, l1, l2] (w3 :: w2 :: w1 :: w0 :: st) v x ↔ ∃ y : vm_Y, vE 88 0 [w0, w1, w2, w3, .retAddr 0, .retAddr 0] [] v y ∧ vB 108 18 [l0, l1, l2] st y x := vE_cv rfl rfl rfl rfl
theorem q108_21 : vE 108 21 [l0, l1, l2] ([.int a]) v x ↔ x = vr a v := vE_ir rfl
theorem qt108 {X pc : Nat} {L r : List Value} : vB 108 pc L r (vt X v) x ↔ x = vt X v := vB_t rfl
/-! 109 PassChecker$Outcome.write(II)V -/
theorem q109_0 : vE 109 0 [l0, .int a, l2] st v x ↔ vE 109 1 [l0, .int a, l2] (.int a :: st) v x := vE_s rfl rfl
theorem q109_1 : vE 109 1 [l0, l1, l2] (w0 :: st) v x ↔ ∃ y : vm_Y, vE 28 0 [w0] [] v y ∧ vB 109 1 [l0, l1, l2] st y x := vE_cs rfl rfl rfl rfl
theorem q109_4 : vE 109 4 [l0, l1, l2] (.int a :: st) v x ↔ if a = 0 then vE 109 14 [l0, l1, l2] st v x else vE 109 7 [l0, l1, l2] st v x := vE_if rfl rfl
theorem q109_7 : vE 109 7 [.ref p, l1, l2] st v x ↔ vE 109 8 [.ref p, l1, l2] (.ref p :: st) v x := vE_s rfl rfl
theorem q109_8 : vE 109 8 [l0, l1, l2] (.ref p :: st) v x ↔ vE 109 11 [l0, l1, l2] (.ref (p + 1) :: st) v x := vE_s rfl rfl
theorem q109_11 : vE 109 11 [l0, .int a, l2] st v x ↔ vE 109 12 [l0, .int a, l2] (.int a :: st) v x := vE_s rfl rfl
theorem q109_12 : vE 109 12 [l0, l1, .int a] st v x ↔ vE 109 13 [l0, l1, .int a] (.int a :: st) v x := vE_s rfl rfl
theorem q109_13 : vE 109 13 [l0, l1, l2] (.int b :: .int a :: .ref p :: st) v x ↔ vE 109 14 [l0, l1, l2] st (vm_si v p a.toNatClampNeg b) x := vE_s rfl rfl
theorem q109_14 : vE 109 14 [l0, l1, l2] [] v x ↔ x = vd v := vE_vr rfl
theorem qt109 {X pc : Nat} {L r : List Value} : vB 109 pc L r (vt X v) x ↔ x = vt X v := vB_t rfl
/-! 110 PassChecker$Outcome.workOutEnd(LPassChecker$Values;LPassChecker$Program;I)V -/
theorem q110_0 : vE 110 0 [.ref p, l1, l2, l3, l4] st v x ↔ vE 110 1 [.ref p, l1, l2, l3, l4] (.ref p :: st) v x := vE_s rfl rfl
theorem q110_1 : vE 110 1 [l0, l1, .ref p, l3, l4] st v x ↔ vE 110 2 [l0, l1, .ref p, l3, l4] (.ref p :: st) v x := vE_s rfl rfl
theorem q110_2 : vE 110 2 [l0, l1, l2, .int a, l4] st v x ↔ vE 110 3 [l0, l1, l2, .int a, l4] (.int a :: st) v x := vE_s rfl rfl
theorem q110_3 : vE 110 3 [l0, l1, l2, l3, l4] st v x ↔ vE 110 4 [l0, l1, l2, l3, l4] (.int 0 :: st) v x := vE_s rfl (by rfl)
theorem q110_4 : vE 110 4 [l0, l1, l2, l3, l4] (w2 :: w1 :: w0 :: st) v x ↔ ∃ y : vm_Y, vE 56 0 [w0, w1, w2] [] v y ∧ vB 110 4 [l0, l1, l2, l3, l4] st y x := vE_cv rfl rfl rfl rfl
theorem q110_7 : vE 110 7 [l0, l1, l2, l3, l4] (.int a :: .ref p :: st) v x ↔ vE 110 10 [l0, l1, l2, l3, l4] st (vm_si v p 6 a) x := vE_s rfl rfl
theorem q110_10 : vE 110 10 [.ref p, l1, l2, l3, l4] st v x ↔ vE 110 11 [.ref p, l1, l2, l3, l4] (.ref p :: st) v x := vE_s rfl rfl
theorem q110_11 : vE 110 11 [.ref p, l1, l2, l3, l4] st v x ↔ vE 110 12 [.ref p, l1, l2, l3, l4] (.ref p :: st) v x := vE_s rfl rfl
theorem q110_12 : vE 110 12 [l0, l1, l2, l3, l4] (.ref p :: st) v x ↔ vE 110 15 [l0, l1, l2, l3, l4] (.int (v.1 p 6) :: st) v x := vE_s rfl rfl
theorem q110_15 : vE 110 15 [l0, l1, l2, l3, l4] (.int a :: st) v x ↔ if a = 0 then vE 110 18 [l0, l1, l2, l3, l4] st v x else vE 110 22 [l0, l1, l2, l3, l4] st v x := vE_if rfl rfl
theorem q110_18 : vE 110 18 [l0, l1, l2, l3, l4] st v x ↔ vE 110 19 [l0, l1, l2, l3, l4] (.int 0 :: st) v x := vE_s rfl (by rfl)
theorem q110_19 : vE 110 19 [l0, l1, l2, l3, l4] st v x ↔ vE 110 32 [l0, l1, l2, l3, l4] st v x := vE_s rfl rfl
theorem q110_22 : vE 110 22 [.ref p, l1, l2, l3, l4] st v x ↔ vE 110 23 [.ref p, l1, l2, l3, l4] (.ref p :: st) v x := vE_s rfl rfl
theorem q110_23 : vE 110 23 [l0, l1, .ref p, l3, l4] st v x ↔ vE 110 24 [l0, l1, .ref p, l3, l4] (.ref p :: st) v x := vE_s rfl rfl
theorem q110_24 : vE 110 24 [l0, l1, l2, .int a, l4] st v x ↔ vE 110 25 [l0, l1, l2, .int a, l4] (.int a :: st) v x := vE_s rfl rfl
theorem q110_25 : vE 110 25 [l0, l1, l2, l3, l4] st v x ↔ vE 110 26 [l0, l1, l2, l3, l4] (.int 1 :: st) v x := vE_s rfl (by rfl)
theorem q110_26 : vE 110 26 [l0, l1, l2, l3, l4] (w2 :: w1 :: w0 :: st) v x ↔ ∃ y : vm_Y, vE 56 0 [w0, w1, w2] [] v y ∧ vB 110 26 [l0, l1, l2, l3, l4] st y x := vE_cv rfl rfl rfl rfl
theorem q110_29 : vE 110 29 [l0, l1, l2, l3, l4] (w1 :: w0 :: st) v x ↔ ∃ y : vm_Y, vE 91 0 [w0, w1] [] v y ∧ vB 110 29 [l0, l1, l2, l3, l4] st y x := vE_cv rfl rfl rfl rfl
theorem q110_32 : vE 110 32 [l0, l1, l2, l3, l4] (.int a :: .ref p :: st) v x ↔ vE 110 35 [l0, l1, l2, l3, l4] st (vm_si v p 7 a) x := vE_s rfl rfl
theorem q110_35 : vE 110 35 [.ref p, l1, l2, l3, l4] st v x ↔ vE 110 36 [.ref p, l1, l2, l3, l4] (.ref p :: st) v x := vE_s rfl rfl
theorem q110_36 : vE 110 36 [l0, l1, .ref p, l3, l4] st v x ↔ vE 110 37 [l0, l1, .ref p, l3, l4] (.ref p :: st) v x := vE_s rfl rfl
theorem q110_37 : vE 110 37 [l0, l1, l2, .int a, l4] st v x ↔ vE 110 38 [l0, l1, l2, .int a, l4] (.int a :: st) v x := vE_s rfl rfl
theorem q110_38 : vE 110 38 [l0, l1, l2, l3, l4] st v x ↔ vE 110 39 [l0, l1, l2, l3, l4] (.int 2 :: st) v x := vE_s rfl (by rfl)
theorem q110_39 : vE 110 39 [l0, l1, l2, l3, l4] (w2 :: w1 :: w0 :: st) v x ↔ ∃ y : vm_Y, vE 56 0 [w0, w1, w2] [] v y ∧ vB 110 39 [l0, l1, l2, l3, l4] st y x := vE_cv rfl rfl rfl rfl
theorem q110_42 : vE 110 42 [l0, l1, l2, l3, l4] (.int a :: .ref p :: st) v x ↔ vE 110 45 [l0, l1, l2, l3, l4] st (vm_si v p 8 a) x := vE_s rfl rfl
theorem q110_45 : vE 110 45 [.ref p, l1, l2, l3, l4] st v x ↔ vE 110 46 [.ref p, l1, l2, l3, l4] (.ref p :: st) v x := vE_s rfl rfl
theorem q110_46 : vE 110 46 [l0, l1, .ref p, l3, l4] st v x ↔ vE 110 47 [l0, l1, .ref p, l3, l4] (.ref p :: st) v x := vE_s rfl rfl
theorem q110_47 : vE 110 47 [l0, l1, l2, .int a, l4] st v x ↔ vE 110 48 [l0, l1, l2, .int a, l4] (.int a :: st) v x := vE_s rfl rfl
theorem q110_48 : vE 110 48 [l0, l1, l2, l3, l4] st v x ↔ vE 110 49 [l0, l1, l2, l3, l4] (.int 3 :: st) v x := vE_s rfl (by rfl)
theorem q110_49 : vE 110 49 [l0, l1, l2, l3, l4] (w2 :: w1 :: w0 :: st) v x ↔ ∃ y : vm_Y, vE 56 0 [w0, w1, w2] [] v y ∧ vB 110 49 [l0, l1, l2, l3, l4] st y x := vE_cv rfl rfl rfl rfl
theorem q110_52 : vE 110 52 [l0, l1, l2, l3, l4] (.int a :: .ref p :: st) v x ↔ vE 110 55 [l0, l1, l2, l3, l4] st (vm_si v p 9 a) x := vE_s rfl rfl
theorem q110_55 : vE 110 55 [.ref p, l1, l2, l3, l4] st v x ↔ vE 110 56 [.ref p, l1, l2, l3, l4] (.ref p :: st) v x := vE_s rfl rfl
theorem q110_56 : vE 110 56 [l0, l1, l2, l3, l4] (.ref p :: st) v x ↔ vE 110 59 [l0, l1, l2, l3, l4] (.int (v.1 p 6) :: st) v x := vE_s rfl rfl
theorem q110_59 : vE 110 59 [l0, l1, l2, l3, l4] st v x ↔ vE 110 60 [l0, l1, l2, l3, l4] (.int 1 :: st) v x := vE_s rfl (by rfl)
theorem q110_60 : vE 110 60 [l0, l1, l2, l3, l4] (.int b :: .int a :: st) v x ↔ if a = b then vE 110 64 [l0, l1, l2, l3, l4] st v x else vE 110 63 [l0, l1, l2, l3, l4] st v x := vE_if rfl rfl
theorem q110_63 : vE 110 63 [l0, l1, l2, l3, l4] [] v x ↔ x = vd v := vE_vr rfl
theorem q110_64 : vE 110 64 [l0, .ref p, l2, l3, l4] st v x ↔ vE 110 65 [l0, .ref p, l2, l3, l4] (.ref p :: st) v x := vE_s rfl rfl
theorem q110_65 : vE 110 65 [.ref p, l1, l2, l3, l4] st v x ↔ vE 110 66 [.ref p, l1, l2, l3, l4] (.ref p :: st) v x := vE_s rfl rfl
theorem q110_66 : vE 110 66 [l0, l1, l2, l3, l4] (.ref p :: st) v x ↔ vE 110 69 [l0, l1, l2, l3, l4] (.int (v.1 p 7) :: st) v x := vE_s rfl rfl
theorem q110_69 : vE 110 69 [l0, l1, l2, l3, l4] (w1 :: w0 :: st) v x ↔ ∃ y : vm_Y, vE 94 0 [w0, w1] [] v y ∧ vB 110 69 [l0, l1, l2, l3, l4] st y x := vE_cv rfl rfl rfl rfl
theorem q110_72 : vE 110 72 [l0, l1, l2, l3, l4] (.int a :: st) v x ↔ vE 110 74 [l0, l1, l2, l3, .int a] st v x := vE_s rfl rfl
theorem q110_74 : vE 110 74 [l0, l1, l2, l3, .int a] st v x ↔ vE 110 76 [l0, l1, l2, l3, .int a] (.int a :: st) v x := vE_s rfl rfl
theorem q110_76 : vE 110 76 [l0, l1, l2, l3, l4] (.int a :: st) v x ↔ if a = 0 then vE 110 79 [l0, l1, l2, l3, l4] st v x else vE 110 90 [l0, l1, l2, l3, l4] st v x := vE_if rfl rfl
theorem q110_79 : vE 110 79 [.ref p, l1, l2, l3, l4] st v x ↔ vE 110 80 [.ref p, l1, l2, l3, l4] (.ref p :: st) v x := vE_s rfl rfl
theorem q110_80 : vE 110 80 [l0, l1, l2, l3, l4] (.ref p :: st) v x ↔ vE 110 83 [l0, l1, l2, l3, l4] (.int (v.1 p 8) :: st) v x := vE_s rfl rfl
theorem q110_83 : vE 110 83 [.ref p, l1, l2, l3, l4] st v x ↔ vE 110 84 [.ref p, l1, l2, l3, l4] (.ref p :: st) v x := vE_s rfl rfl
theorem q110_84 : vE 110 84 [l0, l1, l2, l3, l4] (.ref p :: st) v x ↔ vE 110 87 [l0, l1, l2, l3, l4] (.int (v.1 p 9) :: st) v x := vE_s rfl rfl
theorem q110_87 : vE 110 87 [l0, l1, l2, l3, l4] (.int b :: .int a :: st) v x ↔ if a = b then vE 110 90 [l0, l1, l2, l3, l4] st v x else vE 110 136 [l0, l1, l2, l3, l4] st v x := vE_if rfl rfl
theorem q110_90 : vE 110 90 [.ref p, l1, l2, l3, l4] st v x ↔ vE 110 91 [.ref p, l1, l2, l3, l4] (.ref p :: st) v x := vE_s rfl rfl
theorem q110_91 : vE 110 91 [l0, l1, l2, l3, .int a] st v x ↔ vE 110 93 [l0, l1, l2, l3, .int a] (.int a :: st) v x := vE_s rfl rfl
theorem q110_93 : vE 110 93 [l0, l1, l2, l3, l4] (.int a :: st) v x ↔ if a = 0 then vE 110 114 [l0, l1, l2, l3, l4] st v x else vE 110 96 [l0, l1, l2, l3, l4] st v x := vE_if rfl rfl
theorem q110_96 : vE 110 96 [l0, .ref p, l2, l3, l4] st v x ↔ vE 110 97 [l0, .ref p, l2, l3, l4] (.ref p :: st) v x := vE_s rfl rfl
theorem q110_97 : vE 110 97 [.ref p, l1, l2, l3, l4] st v x ↔ vE 110 98 [.ref p, l1, l2, l3, l4] (.ref p :: st) v x := vE_s rfl rfl
theorem q110_98 : vE 110 98 [l0, l1, l2, l3, l4] (.ref p :: st) v x ↔ vE 110 101 [l0, l1, l2, l3, l4] (.int (v.1 p 7) :: st) v x := vE_s rfl rfl
theorem q110_101 : vE 110 101 [l0, l1, l2, l3, l4] (w1 :: w0 :: st) v x ↔ ∃ y : vm_Y, vE 95 0 [w0, w1] [] v y ∧ vB 110 101 [l0, l1, l2, l3, l4] st y x := vE_cv rfl rfl rfl rfl
theorem q110_104 : vE 110 104 [l0, l1, l2, l3, l4] (.int a :: st) v x ↔ if a = 0 then vE 110 107 [l0, l1, l2, l3, l4] st v x else vE 110 114 [l0, l1, l2, l3, l4] st v x := vE_if rfl rfl
theorem q110_107 : vE 110 107 [.ref p, l1, l2, l3, l4] st v x ↔ vE 110 108 [.ref p, l1, l2, l3, l4] (.ref p :: st) v x := vE_s rfl rfl
theorem q110_108 : vE 110 108 [l0, l1, l2, l3, l4] (.ref p :: st) v x ↔ vE 110 111 [l0, l1, l2, l3, l4] (.int (v.1 p 9) :: st) v x := vE_s rfl rfl
theorem q110_111 : vE 110 111 [l0, l1, l2, l3, l4] st v x ↔ vE 110 118 [l0, l1, l2, l3, l4] st v x := vE_s rfl rfl
theorem q110_114 : vE 110 114 [.ref p, l1, l2, l3, l4] st v x ↔ vE 110 115 [.ref p, l1, l2, l3, l4] (.ref p :: st) v x := vE_s rfl rfl
theorem q110_115 : vE 110 115 [l0, l1, l2, l3, l4] (.ref p :: st) v x ↔ vE 110 118 [l0, l1, l2, l3, l4] (.int (v.1 p 8) :: st) v x := vE_s rfl rfl
theorem q110_118 : vE 110 118 [l0, l1, l2, l3, l4] (.int a :: .ref p :: st) v x ↔ vE 110 121 [l0, l1, l2, l3, l4] st (vm_si v p 8 a) x := vE_s rfl rfl
theorem q110_121 : vE 110 121 [.ref p, l1, l2, l3, l4] st v x ↔ vE 110 122 [.ref p, l1, l2, l3, l4] (.ref p :: st) v x := vE_s rfl rfl
theorem q110_122 : vE 110 122 [l0, l1, l2, l3, l4] st v x ↔ vE 110 123 [l0, l1, l2, l3, l4] (.int 0 :: st) v x := vE_s rfl (by rfl)
theorem q110_123 : vE 110 123 [l0, l1, l2, l3, l4] (.int a :: .ref p :: st) v x ↔ vE 110 126 [l0, l1, l2, l3, l4] st (vm_si v p 6 a) x := vE_s rfl rfl
theorem q110_126 : vE 110 126 [.ref p, l1, l2, l3, l4] st v x ↔ vE 110 127 [.ref p, l1, l2, l3, l4] (.ref p :: st) v x := vE_s rfl rfl
theorem q110_127 : vE 110 127 [l0, l1, l2, l3, l4] st v x ↔ vE 110 128 [l0, l1, l2, l3, l4] (.int 0 :: st) v x := vE_s rfl (by rfl)
theorem q110_128 : vE 110 128 [l0, l1, l2, l3, l4] (.int a :: .ref p :: st) v x ↔ vE 110 131 [l0, l1, l2, l3, l4] st (vm_si v p 7 a) x := vE_s rfl rfl
theorem q110_131 : vE 110 131 [.ref p, l1, l2, l3, l4] st v x ↔ vE 110 132 [.ref p, l1, l2, l3, l4] (.ref p :: st) v x := vE_s rfl rfl
theorem q110_132 : vE 110 132 [l0, l1, l2, l3, l4] st v x ↔ vE 110 133 [l0, l1, l2, l3, l4] (.int 0 :: st) v x := vE_s rfl (by rfl)
theorem q110_133 : vE 110 133 [l0, l1, l2, l3, l4] (.int a :: .ref p :: st) v x ↔ vE 110 136 [l0, l1, l2, l3, l4] st (vm_si v p 9 a) x := vE_s rfl rfl
theorem q110_136 : vE 110 136 [l0, l1, l2, l3, l4] [] v x ↔ x = vd v := vE_vr rfl
theorem qt110 {X pc : Nat} {L r : List Value} : vB 110 pc L r (vt X v) x ↔ x = vt X v := vB_t rfl
/-! 111 PassChecker$Checker.judge(II)V -/
theorem q111_0 : vE 111 0 [.ref p, l1, l2] st v x ↔ vE 111 1 [.ref p, l1, l2] (.ref p :: st) v x := vE_s rfl rfl
theorem q111_1 : vE 111 1 [l0, l1, l2] (.ref p :: st) v x ↔ vE 111 4 [l0, l1, l2] (.ref (p + 31) :: st) v x := vE_s rfl rfl
theorem q111_4 : vE 111 4 [.ref p, l1, l2] st v x ↔ vE 111 5 [.ref p, l1, l2] (.ref p :: st) v x := vE_s rfl rfl
theorem q111_5 : vE 111 5 [l0, l1, l2] (.ref p :: st) v x ↔ vE 111 8 [l0, l1, l2] (.ref (p + 36) :: st) v x := vE_s rfl rfl
theorem q111_8 : vE 111 8 [l0, l1, l2] (w1 :: w0 :: st) v x ↔ ∃ y : vm_Y, vE 112 0 [w0, w1, .retAddr 0] [] v y ∧ vB 111 8 [l0, l1, l2] st y x := vE_cv rfl rfl rfl rfl
theorem q111_11 : vE 111 11 [l0, l1, l2] (.int a :: st) v x ↔ if a = 0 then vE 111 14 [l0, l1, l2] st v x else vE 111 24 [l0, l1, l2] st v x := vE_if rfl rfl
theorem q111_14 : vE 111 14 [.ref p, l1, l2] st v x ↔ vE 111 15 [.ref p, l1, l2] (.ref p :: st) v x := vE_s rfl rfl
theorem q111_15 : vE 111 15 [l0, l1, l2] st v x ↔ vE 111 16 [l0, l1, l2] (.int 2 :: st) v x := vE_s rfl (by rfl)
theorem q111_16 : vE 111 16 [l0, .int a, l2] st v x ↔ vE 111 17 [l0, .int a, l2] (.int a :: st) v x := vE_s rfl rfl
theorem q111_17 : vE 111 17 [l0, l1, .int a] st v x ↔ vE 111 18 [l0, l1, .int a] (.int a :: st) v x := vE_s rfl rfl
theorem q111_18 : vE 111 18 [l0, l1, l2] (w3 :: w2 :: w1 :: w0 :: st) v x ↔ ∃ y : vm_Y, vE 82 0 [w0, w1, w2, w3] [] v y ∧ vB 111 18 [l0, l1, l2] st y x := vE_cv rfl rfl rfl rfl
theorem q111_21 : vE 111 21 [l0, l1, l2] st v x ↔ vE 111 87 [l0, l1, l2] st v x := vE_s rfl rfl
theorem q111_24 : vE 111 24 [.ref p, l1, l2] st v x ↔ vE 111 25 [.ref p, l1, l2] (.ref p :: st) v x := vE_s rfl rfl
theorem q111_25 : vE 111 25 [l0, l1, l2] (.ref p :: st) v x ↔ vE 111 28 [l0, l1, l2] (.ref (p + 31) :: st) v x := vE_s rfl rfl
theorem q111_28 : vE 111 28 [.ref p, l1, l2] st v x ↔ vE 111 29 [.ref p, l1, l2] (.ref p :: st) v x := vE_s rfl rfl
theorem q111_29 : vE 111 29 [l0, l1, l2] (.ref p :: st) v x ↔ vE 111 32 [l0, l1, l2] (.ref (p + 36) :: st) v x := vE_s rfl rfl
theorem q111_32 : vE 111 32 [l0, l1, l2] (w1 :: w0 :: st) v x ↔ ∃ y : vm_Y, vE 113 0 [w0, w1] [] v y ∧ vB 111 32 [l0, l1, l2] st y x := vE_cv rfl rfl rfl rfl
theorem q111_35 : vE 111 35 [l0, l1, l2] (.int a :: st) v x ↔ if a = 0 then vE 111 38 [l0, l1, l2] st v x else vE 111 48 [l0, l1, l2] st v x := vE_if rfl rfl
theorem q111_38 : vE 111 38 [.ref p, l1, l2] st v x ↔ vE 111 39 [.ref p, l1, l2] (.ref p :: st) v x := vE_s rfl rfl
theorem q111_39 : vE 111 39 [l0, l1, l2] st v x ↔ vE 111 40 [l0, l1, l2] (.int 3 :: st) v x := vE_s rfl (by rfl)
theorem q111_40 : vE 111 40 [l0, .int a, l2] st v x ↔ vE 111 41 [l0, .int a, l2] (.int a :: st) v x := vE_s rfl rfl
theorem q111_41 : vE 111 41 [l0, l1, .int a] st v x ↔ vE 111 42 [l0, l1, .int a] (.int a :: st) v x := vE_s rfl rfl
theorem q111_42 : vE 111 42 [l0, l1, l2] (w3 :: w2 :: w1 :: w0 :: st) v x ↔ ∃ y : vm_Y, vE 82 0 [w0, w1, w2, w3] [] v y ∧ vB 111 42 [l0, l1, l2] st y x := vE_cv rfl rfl rfl rfl
theorem q111_45 : vE 111 45 [l0, l1, l2] st v x ↔ vE 111 87 [l0, l1, l2] st v x := vE_s rfl rfl
theorem q111_48 : vE 111 48 [.ref p, l1, l2] st v x ↔ vE 111 49 [.ref p, l1, l2] (.ref p :: st) v x := vE_s rfl rfl
theorem q111_49 : vE 111 49 [l0, l1, l2] (.ref p :: st) v x ↔ vE 111 52 [l0, l1, l2] (.ref (p + 31) :: st) v x := vE_s rfl rfl
theorem q111_52 : vE 111 52 [l0, l1, l2] (w0 :: st) v x ↔ ∃ y : vm_Y, vE 114 0 [w0] [] v y ∧ vB 111 52 [l0, l1, l2] st y x := vE_cv rfl rfl rfl rfl
theorem q111_55 : vE 111 55 [l0, l1, l2] st v x ↔ vE 111 56 [l0, l1, l2] (.int 2 :: st) v x := vE_s rfl (by rfl)
theorem q111_56 : vE 111 56 [l0, l1, l2] (.int b :: .int a :: st) v x ↔ if a = b then vE 111 83 [l0, l1, l2] st v x else vE 111 59 [l0, l1, l2] st v x := vE_if rfl rfl
theorem q111_59 : vE 111 59 [.ref p, l1, l2] st v x ↔ vE 111 60 [.ref p, l1, l2] (.ref p :: st) v x := vE_s rfl rfl
theorem q111_60 : vE 111 60 [l0, l1, l2] (.ref p :: st) v x ↔ vE 111 63 [l0, l1, l2] (.ref (p + 31) :: st) v x := vE_s rfl rfl
theorem q111_63 : vE 111 63 [.ref p, l1, l2] st v x ↔ vE 111 64 [.ref p, l1, l2] (.ref p :: st) v x := vE_s rfl rfl
theorem q111_64 : vE 111 64 [l0, l1, l2] (.ref p :: st) v x ↔ vE 111 67 [l0, l1, l2] (.ref (p + 36) :: st) v x := vE_s rfl rfl
theorem q111_67 : vE 111 67 [l0, l1, l2] (w1 :: w0 :: st) v x ↔ ∃ y : vm_Y, vE 115 0 [w0, w1, .retAddr 0] [] v y ∧ vB 111 67 [l0, l1, l2] st y x := vE_cv rfl rfl rfl rfl
theorem q111_70 : vE 111 70 [l0, l1, l2] (.int a :: st) v x ↔ if a = 0 then vE 111 73 [l0, l1, l2] st v x else vE 111 83 [l0, l1, l2] st v x := vE_if rfl rfl
theorem q111_73 : vE 111 73 [.ref p, l1, l2] st v x ↔ vE 111 74 [.ref p, l1, l2] (.ref p :: st) v x := vE_s rfl rfl
theorem q111_74 : vE 111 74 [l0, l1, l2] st v x ↔ vE 111 75 [l0, l1, l2] (.int 4 :: st) v x := vE_s rfl (by rfl)
theorem q111_75 : vE 111 75 [l0, .int a, l2] st v x ↔ vE 111 76 [l0, .int a, l2] (.int a :: st) v x := vE_s rfl rfl
theorem q111_76 : vE 111 76 [l0, l1, .int a] st v x ↔ vE 111 77 [l0, l1, .int a] (.int a :: st) v x := vE_s rfl rfl
theorem q111_77 : vE 111 77 [l0, l1, l2] (w3 :: w2 :: w1 :: w0 :: st) v x ↔ ∃ y : vm_Y, vE 82 0 [w0, w1, w2, w3] [] v y ∧ vB 111 77 [l0, l1, l2] st y x := vE_cv rfl rfl rfl rfl
theorem q111_80 : vE 111 80 [l0, l1, l2] st v x ↔ vE 111 87 [l0, l1, l2] st v x := vE_s rfl rfl
theorem q111_83 : vE 111 83 [.ref p, l1, l2] st v x ↔ vE 111 84 [.ref p, l1, l2] (.ref p :: st) v x := vE_s rfl rfl
theorem q111_84 : vE 111 84 [l0, l1, l2] (w0 :: st) v x ↔ ∃ y : vm_Y, vE 116 0 [w0, .retAddr 0] [] v y ∧ vB 111 84 [l0, l1, l2] st y x := vE_cv rfl rfl rfl rfl
theorem q111_87 : vE 111 87 [l0, l1, l2] [] v x ↔ x = vd v := vE_vr rfl
theorem qt111 {X pc : Nat} {L r : List Value} : vB 111 pc L r (vt X v) x ↔ x = vt X v := vB_t rfl
/-! 112 PassChecker$Outcome.hasEffectsOf(LPassChecker$Outcome;)Z -/
theorem q112_0 : vE 112 0 [.ref p, l1, l2] st v x ↔ vE 112 1 [.ref p, l1, l2] (.ref p :: st) v x := vE_s rfl rfl
theorem q112_1 : vE 112 1 [l0, l1, l2] (.ref p :: st) v x ↔ vE 112 4 [l0, l1, l2] (.int (v.1 p 4) :: st) v x := vE_s rfl rfl
theorem q112_4 : vE 112 4 [l0, .ref p, l2] st v x ↔ vE 112 5 [l0, .ref p, l2] (.ref p :: st) v x := vE_s rfl rfl
theorem q112_5 : vE 112 5 [l0, l1, l2] (.ref p :: st) v x ↔ vE 112 8 [l0, l1, l2] (.int (v.1 p 4) :: st) v x := vE_s rfl rfl
theorem q112_8 : vE 112 8 [l0, l1, l2] (.int b :: .int a :: st) v x ↔ if a = b then vE 112 13 [l0, l1, l2] st v x else vE 112 11 [l0, l1, l2] st v x := vE_if rfl rfl
theorem q112_11 : vE 112 11 [l0, l1, l2] st v x ↔ vE 112 12 [l0, l1, l2] (.int 0 :: st) v x := vE_s rfl (by rfl)
theorem q112_12 : vE 112 12 [l0, l1, l2] ([.int a]) v x ↔ x = vr a v := vE_ir rfl
theorem q112_13 : vE 112 13 [l0, l1, l2] st v x ↔ vE 112 14 [l0, l1, l2] (.int 0 :: st) v x := vE_s rfl (by rfl)
theorem q112_14 : vE 112 14 [l0, l1, l2] (.int a :: st) v x ↔ vE 112 15 [l0, l1, .int a] st v x := vE_s rfl rfl
theorem q112_15 : vE 112 15 [l0, l1, .int a] st v x ↔ vE 112 16 [l0, l1, .int a] (.int a :: st) v x := vE_s rfl rfl
theorem q112_16 : vE 112 16 [.ref p, l1, l2] st v x ↔ vE 112 17 [.ref p, l1, l2] (.ref p :: st) v x := vE_s rfl rfl
theorem q112_17 : vE 112 17 [l0, l1, l2] (.ref p :: st) v x ↔ vE 112 20 [l0, l1, l2] (.int (v.1 p 4) :: st) v x := vE_s rfl rfl
theorem q112_20 : vE 112 20 [l0, l1, l2] (.int b :: .int a :: st) v x ↔ if b ≤ a then vE 112 63 [l0, l1, l2] st v x else vE 112 23 [l0, l1, l2] st v x := vE_if rfl rfl
theorem q112_23 : vE 112 23 [l0, l1, .int a] st v x ↔ vE 112 24 [l0, l1, .int a] (.int a :: st) v x := vE_s rfl rfl
theorem q112_24 : vE 112 24 [l0, l1, l2] st v x ↔ vE 112 26 [l0, l1, l2] (.int 8 :: st) v x := vE_s rfl (by rfl)
theorem q112_26 : vE 112 26 [l0, l1, l2] (.int b :: .int a :: st) v x ↔ if b ≤ a then vE 112 63 [l0, l1, l2] st v x else vE 112 29 [l0, l1, l2] st v x := vE_if rfl rfl
theorem q112_29 : vE 112 29 [.ref p, l1, l2] st v x ↔ vE 112 30 [.ref p, l1, l2] (.ref p :: st) v x := vE_s rfl rfl
theorem q112_30 : vE 112 30 [l0, l1, .int a] st v x ↔ vE 112 31 [l0, l1, .int a] (.int a :: st) v x := vE_s rfl rfl
theorem q112_31 : vE 112 31 [l0, .ref p, l2] st v x ↔ vE 112 32 [l0, .ref p, l2] (.ref p :: st) v x := vE_s rfl rfl
theorem q112_32 : vE 112 32 [l0, l1, l2] (.ref p :: st) v x ↔ vE 112 35 [l0, l1, l2] (.ref (p + 2) :: st) v x := vE_s rfl rfl
theorem q112_35 : vE 112 35 [l0, l1, .int a] st v x ↔ vE 112 36 [l0, l1, .int a] (.int a :: st) v x := vE_s rfl rfl
theorem q112_36 : vE 112 36 [l0, l1, l2] (.int a :: .ref p :: st) v x ↔ vE 112 37 [l0, l1, l2] (.int (v.1 p a.toNatClampNeg) :: st) v x := vE_s rfl rfl
theorem q112_37 : vE 112 37 [l0, .ref p, l2] st v x ↔ vE 112 38 [l0, .ref p, l2] (.ref p :: st) v x := vE_s rfl rfl
theorem q112_38 : vE 112 38 [l0, l1, l2] (.ref p :: st) v x ↔ vE 112 41 [l0, l1, l2] (.ref (p + 3) :: st) v x := vE_s rfl rfl
theorem q112_41 : vE 112 41 [l0, l1, .int a] st v x ↔ vE 112 42 [l0, l1, .int a] (.int a :: st) v x := vE_s rfl rfl
theorem q112_42 : vE 112 42 [l0, l1, l2] (.int a :: .ref p :: st) v x ↔ vE 112 43 [l0, l1, l2] (.int (v.1 p a.toNatClampNeg) :: st) v x := vE_s rfl rfl
theorem q112_43 : vE 112 43 [l0, .ref p, l2] st v x ↔ vE 112 44 [l0, .ref p, l2] (.ref p :: st) v x := vE_s rfl rfl
theorem q112_44 : vE 112 44 [l0, l1, l2] (.ref p :: st) v x ↔ vE 112 47 [l0, l1, l2] (.ref (p + 4) :: st) v x := vE_s rfl rfl
theorem q112_47 : vE 112 47 [l0, l1, .int a] st v x ↔ vE 112 48 [l0, l1, .int a] (.int a :: st) v x := vE_s rfl rfl
theorem q112_48 : vE 112 48 [l0, l1, l2] (.int a :: .ref p :: st) v x ↔ vE 112 49 [l0, l1, l2] (.int (v.1 p a.toNatClampNeg) :: st) v x := vE_s rfl rfl
theorem q112_49 : vE 112 49 [l0, l1, l2] (w4 :: w3 :: w2 :: w1 :: w0 :: st) v x ↔ ∃ y : vm_Y, vE 98 0 [w0, w1, w2, w3, w4] [] v y ∧ vB 112 49 [l0, l1, l2] st y x := vE_cv rfl rfl rfl rfl
theorem q112_52 : vE 112 52 [l0, l1, l2] (.int a :: st) v x ↔ if a = 0 then vE 112 55 [l0, l1, l2] st v x else vE 112 57 [l0, l1, l2] st v x := vE_if rfl rfl
theorem q112_55 : vE 112 55 [l0, l1, l2] st v x ↔ vE 112 56 [l0, l1, l2] (.int 0 :: st) v x := vE_s rfl (by rfl)
theorem q112_56 : vE 112 56 [l0, l1, l2] ([.int a]) v x ↔ x = vr a v := vE_ir rfl
theorem q112_57 : vE 112 57 [l0, l1, .int a] st v x ↔ vE 112 60 [l0, l1, .int (a + 1)] st v x := vE_s rfl rfl
theorem q112_60 : vE 112 60 [l0, l1, l2] st v x ↔ vE 112 15 [l0, l1, l2] st v x := vE_s rfl rfl
theorem q112_63 : vE 112 63 [l0, l1, l2] st v x ↔ vE 112 64 [l0, l1, l2] (.int 1 :: st) v x := vE_s rfl (by rfl)
theorem q112_64 : vE 112 64 [l0, l1, l2] ([.int a]) v x ↔ x = vr a v := vE_ir rfl
theorem qt112 {X pc : Nat} {L r : List Value} : vB 112 pc L r (vt X v) x ↔ x = vt X v := vB_t rfl
/-! 113 PassChecker$Outcome.hasEndOf(LPassChecker$Outcome;)Z -/
theorem q113_0 : vE 113 0 [.ref p, l1] st v x ↔ vE 113 1 [.ref p, l1] (.ref p :: st) v x := vE_s rfl rfl
theorem q113_1 : vE 113 1 [l0, l1] (.ref p :: st) v x ↔ vE 113 4 [l0, l1] (.int (v.1 p 6) :: st) v x := vE_s rfl rfl
theorem q113_4 : vE 113 4 [l0, .ref p] st v x ↔ vE 113 5 [l0, .ref p] (.ref p :: st) v x := vE_s rfl rfl
theorem q113_5 : vE 113 5 [l0, l1] (.ref p :: st) v x ↔ vE 113 8 [l0, l1] (.int (v.1 p 6) :: st) v x := vE_s rfl rfl
theorem q113_8 : vE 113 8 [l0, l1] (.int b :: .int a :: st) v x ↔ if a = b then vE 113 11 [l0, l1] st v x else vE 113 26 [l0, l1] st v x := vE_if rfl rfl
theorem q113_11 : vE 113 11 [.ref p, l1] st v x ↔ vE 113 12 [.ref p, l1] (.ref p :: st) v x := vE_s rfl rfl
theorem q113_12 : vE 113 12 [l0, l1] (.ref p :: st) v x ↔ vE 113 15 [l0, l1] (.int (v.1 p 7) :: st) v x := vE_s rfl rfl
theorem q113_15 : vE 113 15 [l0, .ref p] st v x ↔ vE 113 16 [l0, .ref p] (.ref p :: st) v x := vE_s rfl rfl
theorem q113_16 : vE 113 16 [l0, l1] (.ref p :: st) v x ↔ vE 113 19 [l0, l1] (.int (v.1 p 7) :: st) v x := vE_s rfl rfl
theorem q113_19 : vE 113 19 [l0, l1] (.int b :: .int a :: st) v x ↔ if a = b then vE 113 22 [l0, l1] st v x else vE 113 26 [l0, l1] st v x := vE_if rfl rfl
theorem q113_22 : vE 113 22 [l0, l1] st v x ↔ vE 113 23 [l0, l1] (.int 1 :: st) v x := vE_s rfl (by rfl)
theorem q113_23 : vE 113 23 [l0, l1] st v x ↔ vE 113 27 [l0, l1] st v x := vE_s rfl rfl
theorem q113_26 : vE 113 26 [l0, l1] st v x ↔ vE 113 27 [l0, l1] (.int 0 :: st) v x := vE_s rfl (by rfl)
theorem q113_27 : vE 113 27 [l0, l1] ([.int a]) v x ↔ x = vr a v := vE_ir rfl
/-! 114 PassChecker$Outcome.endKind()I -/
theorem q114_0 : vE 114 0 [.ref p] st v x ↔ vE 114 1 [.ref p] (.ref p :: st) v x := vE_s rfl rfl
theorem q114_1 : vE 114 1 [l0] (.ref p :: st) v x ↔ vE 114 4 [l0] (.int (v.1 p 6) :: st) v x := vE_s rfl rfl
theorem q114_4 : vE 114 4 [l0] ([.int a]) v x ↔ x = vr a v := vE_ir rfl
/-! 115 PassChecker$Outcome.hasRegistersOf(LPassChecker$Outcome;)Z -/
theorem q115_0 : vE 115 0 [l0, l1, l2] st v x ↔ vE 115 1 [l0, l1, l2] (.int 0 :: st) v x := vE_s rfl (by rfl)
theorem q115_1 : vE 115 1 [l0, l1, l2] (.int a :: st) v x ↔ vE 115 2 [l0, l1, .int a] st v x := vE_s rfl rfl
theorem q115_2 : vE 115 2 [l0, l1, .int a] st v x ↔ vE 115 3 [l0, l1, .int a] (.int a :: st) v x := vE_s rfl rfl
theorem q115_3 : vE 115 3 [l0, l1, l2] st v x ↔ vE 115 5 [l0, l1, l2] (.int 6 :: st) v x := vE_s rfl (by rfl)
theorem q115_5 : vE 115 5 [l0, l1, l2] (.int b :: .int a :: st) v x ↔ if b ≤ a then vE 115 31 [l0, l1, l2] st v x else vE 115 8 [l0, l1, l2] st v x := vE_if rfl rfl
theorem q115_8 : vE 115 8 [.ref p, l1, l2] st v x ↔ vE 115 9 [.ref p, l1, l2] (.ref p :: st) v x := vE_s rfl rfl
theorem q115_9 : vE 115 9 [l0, l1, l2] (.ref p :: st) v x ↔ vE 115 12 [l0, l1, l2] (.ref (p + 1) :: st) v x := vE_s rfl rfl
theorem q115_12 : vE 115 12 [l0, l1, .int a] st v x ↔ vE 115 13 [l0, l1, .int a] (.int a :: st) v x := vE_s rfl rfl
theorem q115_13 : vE 115 13 [l0, l1, l2] (.int a :: .ref p :: st) v x ↔ vE 115 14 [l0, l1, l2] (.int (v.1 p a.toNatClampNeg) :: st) v x := vE_s rfl rfl
theorem q115_14 : vE 115 14 [l0, .ref p, l2] st v x ↔ vE 115 15 [l0, .ref p, l2] (.ref p :: st) v x := vE_s rfl rfl
theorem q115_15 : vE 115 15 [l0, l1, l2] (.ref p :: st) v x ↔ vE 115 18 [l0, l1, l2] (.ref (p + 1) :: st) v x := vE_s rfl rfl
theorem q115_18 : vE 115 18 [l0, l1, .int a] st v x ↔ vE 115 19 [l0, l1, .int a] (.int a :: st) v x := vE_s rfl rfl
theorem q115_19 : vE 115 19 [l0, l1, l2] (.int a :: .ref p :: st) v x ↔ vE 115 20 [l0, l1, l2] (.int (v.1 p a.toNatClampNeg) :: st) v x := vE_s rfl rfl
theorem q115_20 : vE 115 20 [l0, l1, l2] (.int b :: .int a :: st) v x ↔ if a = b then vE 115 25 [l0, l1, l2] st v x else vE 115 23 [l0, l1, l2] st v x := vE_if rfl rfl
theorem q115_23 : vE 115 23 [l0, l1, l2] st v x ↔ vE 115 24 [l0, l1, l2] (.int 0 :: st) v x := vE_s rfl (by rfl)
theorem q115_24 : vE 115 24 [l0, l1, l2] ([.int a]) v x ↔ x = vr a v := vE_ir rfl
theorem q115_25 : vE 115 25 [l0, l1, .int a] st v x ↔ vE 115 28 [l0, l1, .int (a + 1)] st v x := vE_s rfl rfl
theorem q115_28 : vE 115 28 [l0, l1, l2] st v x ↔ vE 115 2 [l0, l1, l2] st v x := vE_s rfl rfl
theorem q115_31 : vE 115 31 [l0, l1, l2] st v x ↔ vE 115 32 [l0, l1, l2] (.int 1 :: st) v x := vE_s rfl (by rfl)
theorem q115_32 : vE 115 32 [l0, l1, l2] ([.int a]) v x ↔ x = vr a v := vE_ir rfl
/-! 116 PassChecker$Checker.meetGoals()V -/
theorem q116_0 : vE 116 0 [.ref p, l1] st v x ↔ vE 116 1 [.ref p, l1] (.ref p :: st) v x := vE_s rfl rfl
theorem q116_1 : vE 116 1 [l0, l1] (.ref p :: st) v x ↔ vE 116 4 [l0, l1] (.ref (p + 31) :: st) v x := vE_s rfl rfl
theorem q116_4 : vE 116 4 [l0, l1] (w0 :: st) v x ↔ ∃ y : vm_Y, vE 114 0 [w0] [] v y ∧ vB 116 4 [l0, l1] st y x := vE_cv rfl rfl rfl rfl
theorem q116_7 : vE 116 7 [l0, l1] (.int a :: st) v x ↔ vE 116 8 [l0, .int a] st v x := vE_s rfl rfl
theorem q116_8 : vE 116 8 [l0, .int a] st v x ↔ vE 116 9 [l0, .int a] (.int a :: st) v x := vE_s rfl rfl
theorem q116_9 : vE 116 9 [l0, l1] st v x ↔ vE 116 10 [l0, l1] (.int 2 :: st) v x := vE_s rfl (by rfl)
theorem q116_10 : vE 116 10 [l0, l1] (.int b :: .int a :: st) v x ↔ if a = b then vE 116 31 [l0, l1] st v x else vE 116 13 [l0, l1] st v x := vE_if rfl rfl
theorem q116_13 : vE 116 13 [.ref p, l1] st v x ↔ vE 116 14 [.ref p, l1] (.ref p :: st) v x := vE_s rfl rfl
theorem q116_14 : vE 116 14 [.ref p, l1] st v x ↔ vE 116 15 [.ref p, l1] (.ref p :: st) v x := vE_s rfl rfl
theorem q116_15 : vE 116 15 [l0, l1] (.ref p :: st) v x ↔ vE 116 18 [l0, l1] (.ref (p + 31) :: st) v x := vE_s rfl rfl
theorem q116_18 : vE 116 18 [l0, l1] (w0 :: st) v x ↔ ∃ y : vm_Y, vE 117 0 [w0] [] v y ∧ vB 116 18 [l0, l1] st y x := vE_cv rfl rfl rfl rfl
theorem q116_21 : vE 116 21 [.ref p, l1] st v x ↔ vE 116 22 [.ref p, l1] (.ref p :: st) v x := vE_s rfl rfl
theorem q116_22 : vE 116 22 [l0, l1] (.ref p :: st) v x ↔ vE 116 25 [l0, l1] (.ref (p + 36) :: st) v x := vE_s rfl rfl
theorem q116_25 : vE 116 25 [l0, l1] (w0 :: st) v x ↔ ∃ y : vm_Y, vE 117 0 [w0] [] v y ∧ vB 116 25 [l0, l1] st y x := vE_cv rfl rfl rfl rfl
theorem q116_28 : vE 116 28 [l0, l1] (w2 :: w1 :: w0 :: st) v x ↔ ∃ y : vm_Y, vE 81 0 [w0, w1, w2] [] v y ∧ vB 116 28 [l0, l1] st y x := vE_cv rfl rfl rfl rfl
theorem q116_31 : vE 116 31 [l0, .int a] st v x ↔ vE 116 32 [l0, .int a] (.int a :: st) v x := vE_s rfl rfl
theorem q116_32 : vE 116 32 [l0, l1] st v x ↔ vE 116 33 [l0, l1] (.int 1 :: st) v x := vE_s rfl (by rfl)
theorem q116_33 : vE 116 33 [l0, l1] (.int b :: .int a :: st) v x ↔ if a = b then vE 116 36 [l0, l1] st v x else vE 116 54 [l0, l1] st v x := vE_if rfl rfl
theorem q116_36 : vE 116 36 [.ref p, l1] st v x ↔ vE 116 37 [.ref p, l1] (.ref p :: st) v x := vE_s rfl rfl
theorem q116_37 : vE 116 37 [.ref p, l1] st v x ↔ vE 116 38 [.ref p, l1] (.ref p :: st) v x := vE_s rfl rfl
theorem q116_38 : vE 116 38 [l0, l1] (.ref p :: st) v x ↔ vE 116 41 [l0, l1] (.ref (p + 31) :: st) v x := vE_s rfl rfl
theorem q116_41 : vE 116 41 [l0, l1] (w0 :: st) v x ↔ ∃ y : vm_Y, vE 118 0 [w0] [] v y ∧ vB 116 41 [l0, l1] st y x := vE_cv rfl rfl rfl rfl
theorem q116_44 : vE 116 44 [.ref p, l1] st v x ↔ vE 116 45 [.ref p, l1] (.ref p :: st) v x := vE_s rfl rfl
theorem q116_45 : vE 116 45 [l0, l1] (.ref p :: st) v x ↔ vE 116 48 [l0, l1] (.ref (p + 36) :: st) v x := vE_s rfl rfl
theorem q116_48 : vE 116 48 [l0, l1] (w0 :: st) v x ↔ ∃ y : vm_Y, vE 118 0 [w0] [] v y ∧ vB 116 48 [l0, l1] st y x := vE_cv rfl rfl rfl rfl
theorem q116_51 : vE 116 51 [l0, l1] (w2 :: w1 :: w0 :: st) v x ↔ ∃ y : vm_Y, vE 81 0 [w0, w1, w2] [] v y ∧ vB 116 51 [l0, l1] st y x := vE_cv rfl rfl rfl rfl
theorem q116_54 : vE 116 54 [l0, l1] [] v x ↔ x = vd v := vE_vr rfl
theorem qt116 {X pc : Nat} {L r : List Value} : vB 116 pc L r (vt X v) x ↔ x = vt X v := vB_t rfl
/-! 117 PassChecker$Outcome.goalX()I -/
theorem q117_0 : vE 117 0 [.ref p] st v x ↔ vE 117 1 [.ref p] (.ref p :: st) v x := vE_s rfl rfl
theorem q117_1 : vE 117 1 [l0] (.ref p :: st) v x ↔ vE 117 4 [l0] (.int (v.1 p 8) :: st) v x := vE_s rfl rfl
theorem q117_4 : vE 117 4 [l0] ([.int a]) v x ↔ x = vr a v := vE_ir rfl
/-! 118 PassChecker$Outcome.goalY()I -/
theorem q118_0 : vE 118 0 [.ref p] st v x ↔ vE 118 1 [.ref p] (.ref p :: st) v x := vE_s rfl rfl
theorem q118_1 : vE 118 1 [l0] (.ref p :: st) v x ↔ vE 118 4 [l0] (.int (v.1 p 9) :: st) v x := vE_s rfl rfl
theorem q118_4 : vE 118 4 [l0] ([.int a]) v x ↔ x = vr a v := vE_ir rfl
/-! 119 PassChecker$Checker.reason()I -/
theorem q119_0 : vE 119 0 [.ref p] st v x ↔ vE 119 1 [.ref p] (.ref p :: st) v x := vE_s rfl rfl
theorem q119_1 : vE 119 1 [l0] (.ref p :: st) v x ↔ vE 119 4 [l0] (.int (v.1 p 6) :: st) v x := vE_s rfl rfl
theorem q119_4 : vE 119 4 [l0] ([.int a]) v x ↔ x = vr a v := vE_ir rfl
/-! 120 PassChecker$Checker.pairCount()I -/
theorem q120_0 : vE 120 0 [.ref p] st v x ↔ vE 120 1 [.ref p] (.ref p :: st) v x := vE_s rfl rfl
theorem q120_1 : vE 120 1 [l0] (.ref p :: st) v x ↔ vE 120 4 [l0] (.int (v.1 p 5) :: st) v x := vE_s rfl rfl
theorem q120_4 : vE 120 4 [l0] ([.int a]) v x ↔ x = vr a v := vE_ir rfl
/-! 121 PassCheckerLaw.refused(LPassChecker;I[J)I -/
theorem q121_0 : vE 121 0 [l0, l1, .ref p, l3] st v x ↔ vE 121 1 [l0, l1, .ref p, l3] (.ref p :: st) v x := vE_s rfl rfl
theorem q121_1 : vE 121 1 [l0, l1, l2, l3] st v x ↔ vE 121 2 [l0, l1, l2, l3] (.int 0 :: st) v x := vE_s rfl (by rfl)
theorem q121_2 : vE 121 2 [.ref p, l1, l2, l3] st v x ↔ vE 121 3 [.ref p, l1, l2, l3] (.ref p :: st) v x := vE_s rfl rfl
theorem q121_3 : vE 121 3 [l0, .int a, l2, l3] st v x ↔ vE 121 4 [l0, .int a, l2, l3] (.int a :: st) v x := vE_s rfl rfl
theorem q121_4 : vE 121 4 [l0, l1, l2, l3] (w1 :: w0 :: st) v x ↔ ∃ y : vm_Y, vE 122 0 [w0, w1] [] v y ∧ vB 121 4 [l0, l1, l2, l3] st y x := vE_cv rfl rfl rfl rfl
theorem q121_7 : vE 121 7 [l0, l1, l2, l3] (.int a :: st) v x ↔ vE 121 8 [l0, l1, l2, l3] (.long a.toInt64 :: st) v x := vE_s rfl rfl
theorem q121_8 : vE 121 8 [l0, l1, l2, l3] (.long w :: .int a :: .ref p :: st) v x ↔ vE 121 9 [l0, l1, l2, l3] st (vm_sl v p a.toNatClampNeg w) x := vE_s rfl rfl
theorem q121_9 : vE 121 9 [l0, l1, l2, l3] st v x ↔ vE 121 15 [l0, l1, l2, l3] st v x := vE_s rfl rfl
theorem q121_12 : vE 121 12 [l0, l1, l2, l3] (.ref p :: st) v x ↔ vE 121 13 [l0, l1, l2, .ref p] st v x := vE_s rfl rfl
theorem q121_13 : vE 121 13 [l0, l1, l2, l3] st v x ↔ vE 121 14 [l0, l1, l2, l3] (.int 1 :: st) v x := vE_s rfl (by rfl)
theorem q121_14 : vE 121 14 [l0, l1, l2, l3] ([.int a]) v x ↔ x = vr a v := vE_ir rfl
theorem q121_15 : vE 121 15 [l0, l1, l2, l3] st v x ↔ vE 121 16 [l0, l1, l2, l3] (.int 0 :: st) v x := vE_s rfl (by rfl)
theorem q121_16 : vE 121 16 [l0, l1, l2, l3] ([.int a]) v x ↔ x = vr a v := vE_ir rfl
theorem qh121_4_12 {L r : List Value} : vB 121 4 L r (vt 12 v) x ↔ vE 121 12 L [.ref v.2.2.1] (vm_nx v) x := vB_h rfl
/-! 122 PassChecker.refused(I)I -/
theorem q122_0 : vE 122 0 [l0, .int a] st v x ↔ vE 122 1 [l0, .int a] (.int a :: st) v x := vE_s rfl rfl
theorem q122_1 : vE 122 1 [l0, l1] (.int a :: st) v x ↔ if a = 0 then vE 122 28 [l0, l1] st v x else if a = 1 then vE 122 47 [l0, l1] st v x else if a = 2 then vE 122 55 [l0, l1] st v x else vE 122 63 [l0, l1] st v x := vE_ts (d := 62) (lo := 0) (hi := 2) (os := #[27, 46, 54]) rfl (by decide) (by decide) (by decide)
theorem q122_28 : vE 122 28 [.ref p, l1] st v x ↔ vE 122 29 [.ref p, l1] (.ref p :: st) v x := vE_s rfl rfl
theorem q122_29 : vE 122 29 [l0, l1] (.ref p :: st) v x ↔ vE 122 32 [l0, l1] (.int (v.1 p 7) :: st) v x := vE_s rfl rfl
theorem q122_32 : vE 122 32 [l0, l1] (.int a :: st) v x ↔ if a = 0 then vE 122 45 [l0, l1] st v x else vE 122 35 [l0, l1] st v x := vE_if rfl rfl
theorem q122_35 : vE 122 35 [.ref p, l1] st v x ↔ vE 122 36 [.ref p, l1] (.ref p :: st) v x := vE_s rfl rfl
theorem q122_36 : vE 122 36 [l0, l1] (.ref p :: st) v x ↔ vE 122 39 [l0, l1] (.ref (p + 16) :: st) v x := vE_s rfl rfl
theorem q122_39 : vE 122 39 [l0, l1] (w0 :: st) v x ↔ ∃ y : vm_Y, vE 119 0 [w0] [] v y ∧ vB 122 39 [l0, l1] st y x := vE_cv rfl rfl rfl rfl
theorem q122_42 : vE 122 42 [l0, l1] st v x ↔ vE 122 46 [l0, l1] st v x := vE_s rfl rfl
theorem q122_45 : vE 122 45 [l0, l1] st v x ↔ vE 122 46 [l0, l1] (.int (-1) :: st) v x := vE_s rfl (by rfl)
theorem q122_46 : vE 122 46 [l0, l1] ([.int a]) v x ↔ x = vr a v := vE_ir rfl
theorem q122_47 : vE 122 47 [.ref p, l1] st v x ↔ vE 122 48 [.ref p, l1] (.ref p :: st) v x := vE_s rfl rfl
theorem q122_48 : vE 122 48 [l0, l1] (.ref p :: st) v x ↔ vE 122 51 [l0, l1] (.ref (p + 16) :: st) v x := vE_s rfl rfl
theorem q122_51 : vE 122 51 [l0, l1] (w0 :: st) v x ↔ ∃ y : vm_Y, vE 123 0 [w0] [] v y ∧ vB 122 51 [l0, l1] st y x := vE_cv rfl rfl rfl rfl
theorem q122_54 : vE 122 54 [l0, l1] ([.int a]) v x ↔ x = vr a v := vE_ir rfl
theorem q122_55 : vE 122 55 [.ref p, l1] st v x ↔ vE 122 56 [.ref p, l1] (.ref p :: st) v x := vE_s rfl rfl
theorem q122_56 : vE 122 56 [l0, l1] (.ref p :: st) v x ↔ vE 122 59 [l0, l1] (.ref (p + 16) :: st) v x := vE_s rfl rfl
theorem q122_59 : vE 122 59 [l0, l1] (w0 :: st) v x ↔ ∃ y : vm_Y, vE 124 0 [w0] [] v y ∧ vB 122 59 [l0, l1] st y x := vE_cv rfl rfl rfl rfl
theorem q122_62 : vE 122 62 [l0, l1] ([.int a]) v x ↔ x = vr a v := vE_ir rfl
theorem q122_63 : vE 122 63 [l0, l1] st v x ↔ x = vt 12 v := vE_new rfl rfl
theorem q122_66 : vE 122 66 [l0, l1] (.ref p :: st) v x ↔ vE 122 67 [l0, l1] (.ref p :: .ref p :: st) v x := vE_s rfl rfl
theorem qt122 {X pc : Nat} {L r : List Value} : vB 122 pc L r (vt X v) x ↔ x = vt X v := vB_t rfl
/-! 123 PassChecker$Checker.refusedInSource()I -/
theorem q123_0 : vE 123 0 [.ref p] st v x ↔ vE 123 1 [.ref p] (.ref p :: st) v x := vE_s rfl rfl
theorem q123_1 : vE 123 1 [l0] (.ref p :: st) v x ↔ vE 123 4 [l0] (.int (v.1 p 7) :: st) v x := vE_s rfl rfl
theorem q123_4 : vE 123 4 [l0] ([.int a]) v x ↔ x = vr a v := vE_ir rfl
/-! 124 PassChecker$Checker.refusedInTarget()I -/
theorem q124_0 : vE 124 0 [.ref p] st v x ↔ vE 124 1 [.ref p] (.ref p :: st) v x := vE_s rfl rfl
theorem q124_1 : vE 124 1 [l0] (.ref p :: st) v x ↔ vE 124 4 [l0] (.int (v.1 p 8) :: st) v x := vE_s rfl rfl
theorem q124_4 : vE 124 4 [l0] ([.int a]) v x ↔ x = vr a v := vE_ir rfl
/-! 125 PassCheckerLaw.same(LPassChecker;IIII[J)I -/
theorem q125_0 : vE 125 0 [l0, l1, l2, l3, l4, .ref p, l6] st v x ↔ vE 125 2 [l0, l1, l2, l3, l4, .ref p, l6] (.ref p :: st) v x := vE_s rfl rfl
theorem q125_2 : vE 125 2 [l0, l1, l2, l3, l4, l5, l6] st v x ↔ vE 125 3 [l0, l1, l2, l3, l4, l5, l6] (.int 0 :: st) v x := vE_s rfl (by rfl)
theorem q125_3 : vE 125 3 [.ref p, l1, l2, l3, l4, l5, l6] st v x ↔ vE 125 4 [.ref p, l1, l2, l3, l4, l5, l6] (.ref p :: st) v x := vE_s rfl rfl
theorem q125_4 : vE 125 4 [l0, .int a, l2, l3, l4, l5, l6] st v x ↔ vE 125 5 [l0, .int a, l2, l3, l4, l5, l6] (.int a :: st) v x := vE_s rfl rfl
theorem q125_5 : vE 125 5 [l0, l1, .int a, l3, l4, l5, l6] st v x ↔ vE 125 6 [l0, l1, .int a, l3, l4, l5, l6] (.int a :: st) v x := vE_s rfl rfl
theorem q125_6 : vE 125 6 [l0, l1, l2, .int a, l4, l5, l6] st v x ↔ vE 125 7 [l0, l1, l2, .int a, l4, l5, l6] (.int a :: st) v x := vE_s rfl rfl
theorem q125_7 : vE 125 7 [l0, l1, l2, l3, .int a, l5, l6] st v x ↔ vE 125 9 [l0, l1, l2, l3, .int a, l5, l6] (.int a :: st) v x := vE_s rfl rfl
theorem q125_9 : vE 125 9 [l0, l1, l2, l3, l4, l5, l6] (w4 :: w3 :: w2 :: w1 :: w0 :: st) v x ↔ ∃ y : vm_Y, vE 126 0 [w0, w1, w2, w3, w4] [] v y ∧ vB 125 9 [l0, l1, l2, l3, l4, l5, l6] st y x := vE_cv rfl rfl rfl rfl
theorem q125_12 : vE 125 12 [l0, l1, l2, l3, l4, l5, l6] (.int a :: st) v x ↔ if a = 0 then vE 125 19 [l0, l1, l2, l3, l4, l5, l6] st v x else vE 125 15 [l0, l1, l2, l3, l4, l5, l6] st v x := vE_if rfl rfl
theorem q125_15 : vE 125 15 [l0, l1, l2, l3, l4, l5, l6] st v x ↔ vE 125 16 [l0, l1, l2, l3, l4, l5, l6] (.long 1 :: st) v x := vE_s rfl rfl
theorem q125_16 : vE 125 16 [l0, l1, l2, l3, l4, l5, l6] st v x ↔ vE 125 20 [l0, l1, l2, l3, l4, l5, l6] st v x := vE_s rfl rfl
theorem q125_19 : vE 125 19 [l0, l1, l2, l3, l4, l5, l6] st v x ↔ vE 125 20 [l0, l1, l2, l3, l4, l5, l6] (.long 0 :: st) v x := vE_s rfl rfl
theorem q125_20 : vE 125 20 [l0, l1, l2, l3, l4, l5, l6] (.long w :: .int a :: .ref p :: st) v x ↔ vE 125 21 [l0, l1, l2, l3, l4, l5, l6] st (vm_sl v p a.toNatClampNeg w) x := vE_s rfl rfl
theorem q125_21 : vE 125 21 [l0, l1, l2, l3, l4, l5, l6] st v x ↔ vE 125 28 [l0, l1, l2, l3, l4, l5, l6] st v x := vE_s rfl rfl
theorem q125_24 : vE 125 24 [l0, l1, l2, l3, l4, l5, l6] (.ref p :: st) v x ↔ vE 125 26 [l0, l1, l2, l3, l4, l5, .ref p] st v x := vE_s rfl rfl
theorem q125_26 : vE 125 26 [l0, l1, l2, l3, l4, l5, l6] st v x ↔ vE 125 27 [l0, l1, l2, l3, l4, l5, l6] (.int 1 :: st) v x := vE_s rfl (by rfl)
theorem q125_27 : vE 125 27 [l0, l1, l2, l3, l4, l5, l6] ([.int a]) v x ↔ x = vr a v := vE_ir rfl
theorem q125_28 : vE 125 28 [l0, l1, l2, l3, l4, l5, l6] st v x ↔ vE 125 29 [l0, l1, l2, l3, l4, l5, l6] (.int 0 :: st) v x := vE_s rfl (by rfl)
theorem q125_29 : vE 125 29 [l0, l1, l2, l3, l4, l5, l6] ([.int a]) v x ↔ x = vr a v := vE_ir rfl
theorem qh125_9_10 {L r : List Value} : vB 125 9 L r (vt 10 v) x ↔ vE 125 24 L [.ref v.2.2.1] (vm_nx v) x := vB_h rfl
/-! 126 PassChecker.same(IIII)Z -/
theorem q126_0 : vE 126 0 [.ref p, l1, l2, l3, l4] st v x ↔ vE 126 1 [.ref p, l1, l2, l3, l4] (.ref p :: st) v x := vE_s rfl rfl
theorem q126_1 : vE 126 1 [l0, l1, l2, l3, l4] (.ref p :: st) v x ↔ vE 126 4 [l0, l1, l2, l3, l4] (.ref (p + 1) :: st) v x := vE_s rfl rfl
theorem q126_4 : vE 126 4 [l0, .int a, l2, l3, l4] st v x ↔ vE 126 5 [l0, .int a, l2, l3, l4] (.int a :: st) v x := vE_s rfl rfl
theorem q126_5 : vE 126 5 [l0, l1, l2, l3, l4] (w1 :: w0 :: st) v x ↔ ∃ y : vm_Y, vE 25 0 [w0, w1] [] v y ∧ vB 126 5 [l0, l1, l2, l3, l4] st y x := vE_cs rfl rfl rfl rfl
theorem q126_8 : vE 126 8 [.ref p, l1, l2, l3, l4] st v x ↔ vE 126 9 [.ref p, l1, l2, l3, l4] (.ref p :: st) v x := vE_s rfl rfl
theorem q126_9 : vE 126 9 [l0, l1, l2, l3, l4] (.ref p :: st) v x ↔ vE 126 12 [l0, l1, l2, l3, l4] (.ref (p + 5) :: st) v x := vE_s rfl rfl
theorem q126_12 : vE 126 12 [l0, l1, l2, .int a, l4] st v x ↔ vE 126 13 [l0, l1, l2, .int a, l4] (.int a :: st) v x := vE_s rfl rfl
theorem q126_13 : vE 126 13 [l0, l1, l2, l3, l4] (w1 :: w0 :: st) v x ↔ ∃ y : vm_Y, vE 25 0 [w0, w1] [] v y ∧ vB 126 13 [l0, l1, l2, l3, l4] st y x := vE_cs rfl rfl rfl rfl
theorem q126_16 : vE 126 16 [l0, l1, .int a, l3, l4] st v x ↔ vE 126 17 [l0, l1, .int a, l3, l4] (.int a :: st) v x := vE_s rfl rfl
theorem q126_17 : vE 126 17 [l0, l1, l2, l3, l4] (w0 :: st) v x ↔ ∃ y : vm_Y, vE 28 0 [w0] [] v y ∧ vB 126 17 [l0, l1, l2, l3, l4] st y x := vE_cs rfl rfl rfl rfl
theorem q126_20 : vE 126 20 [l0, l1, l2, l3, l4] (.int a :: st) v x ↔ if a = 0 then vE 126 31 [l0, l1, l2, l3, l4] st v x else vE 126 23 [l0, l1, l2, l3, l4] st v x := vE_if rfl rfl
theorem q126_23 : vE 126 23 [l0, l1, l2, l3, .int a] st v x ↔ vE 126 25 [l0, l1, l2, l3, .int a] (.int a :: st) v x := vE_s rfl rfl
theorem q126_25 : vE 126 25 [l0, l1, l2, l3, l4] (w0 :: st) v x ↔ ∃ y : vm_Y, vE 28 0 [w0] [] v y ∧ vB 126 25 [l0, l1, l2, l3, l4] st y x := vE_cs rfl rfl rfl rfl
theorem q126_28 : vE 126 28 [l0, l1, l2, l3, l4] (.int a :: st) v x ↔ if a = 0 then vE 126 31 [l0, l1, l2, l3, l4] st v x else vE 126 41 [l0, l1, l2, l3, l4] st v x := vE_if rfl rfl
theorem q126_31 : vE 126 31 [l0, l1, l2, l3, l4] st v x ↔ x = vt 10 v := vE_new rfl rfl
theorem q126_34 : vE 126 34 [l0, l1, l2, l3, l4] (.ref p :: st) v x ↔ vE 126 35 [l0, l1, l2, l3, l4] (.ref p :: .ref p :: st) v x := vE_s rfl rfl
theorem q126_41 : vE 126 41 [.ref p, l1, l2, l3, l4] st v x ↔ vE 126 42 [.ref p, l1, l2, l3, l4] (.ref p :: st) v x := vE_s rfl rfl
theorem q126_42 : vE 126 42 [l0, l1, l2, l3, l4] (.ref p :: st) v x ↔ vE 126 45 [l0, l1, l2, l3, l4] (.ref (p + 16) :: st) v x := vE_s rfl rfl
theorem q126_45 : vE 126 45 [.ref p, l1, l2, l3, l4] st v x ↔ vE 126 46 [.ref p, l1, l2, l3, l4] (.ref p :: st) v x := vE_s rfl rfl
theorem q126_46 : vE 126 46 [l0, l1, l2, l3, l4] (.ref p :: st) v x ↔ vE 126 49 [l0, l1, l2, l3, l4] (.ref (p + 1) :: st) v x := vE_s rfl rfl
theorem q126_49 : vE 126 49 [l0, .int a, l2, l3, l4] st v x ↔ vE 126 50 [l0, .int a, l2, l3, l4] (.int a :: st) v x := vE_s rfl rfl
theorem q126_50 : vE 126 50 [.ref p, l1, l2, l3, l4] st v x ↔ vE 126 51 [.ref p, l1, l2, l3, l4] (.ref p :: st) v x := vE_s rfl rfl
theorem q126_51 : vE 126 51 [l0, l1, l2, l3, l4] (.ref p :: st) v x ↔ vE 126 54 [l0, l1, l2, l3, l4] (.ref (p + 5) :: st) v x := vE_s rfl rfl
theorem q126_54 : vE 126 54 [l0, l1, l2, .int a, l4] st v x ↔ vE 126 55 [l0, l1, l2, .int a, l4] (.int a :: st) v x := vE_s rfl rfl
theorem q126_55 : vE 126 55 [l0, l1, l2, l3, l4] (w4 :: w3 :: w2 :: w1 :: w0 :: st) v x ↔ ∃ y : vm_Y, vE 86 0 [w0, w1, w2, w3, w4] [] v y ∧ vB 126 55 [l0, l1, l2, l3, l4] st y x := vE_cv rfl rfl rfl rfl
theorem q126_58 : vE 126 58 [.ref p, l1, l2, l3, l4] st v x ↔ vE 126 59 [.ref p, l1, l2, l3, l4] (.ref p :: st) v x := vE_s rfl rfl
theorem q126_59 : vE 126 59 [l0, l1, l2, l3, l4] (.ref p :: st) v x ↔ vE 126 62 [l0, l1, l2, l3, l4] (.ref (p + 16) :: st) v x := vE_s rfl rfl
theorem q126_62 : vE 126 62 [l0, l1, .int a, l3, l4] st v x ↔ vE 126 63 [l0, l1, .int a, l3, l4] (.int a :: st) v x := vE_s rfl rfl
theorem q126_63 : vE 126 63 [l0, l1, l2, l3, .int a] st v x ↔ vE 126 65 [l0, l1, l2, l3, .int a] (.int a :: st) v x := vE_s rfl rfl
theorem q126_65 : vE 126 65 [l0, l1, l2, l3, l4] (w2 :: w1 :: w0 :: st) v x ↔ ∃ y : vm_Y, vE 127 0 [w0, w1, w2] [] v y ∧ vB 126 65 [l0, l1, l2, l3, l4] st y x := vE_cv rfl rfl rfl rfl
theorem q126_68 : vE 126 68 [l0, l1, l2, l3, l4] ([.int a]) v x ↔ x = vr a v := vE_ir rfl
theorem qt126 {X pc : Nat} {L r : List Value} : vB 126 pc L r (vt X v) x ↔ x = vt X v := vB_t rfl
/-! 127 PassChecker$Checker.hasSame(II)Z -/
theorem q127_0 : vE 127 0 [.ref p, l1, l2] st v x ↔ vE 127 1 [.ref p, l1, l2] (.ref p :: st) v x := vE_s rfl rfl
theorem q127_1 : vE 127 1 [l0, l1, l2] (.ref p :: st) v x ↔ vE 127 4 [l0, l1, l2] (.ref (p + 31) :: st) v x := vE_s rfl rfl
theorem q127_4 : vE 127 4 [l0, .int a, l2] st v x ↔ vE 127 5 [l0, .int a, l2] (.int a :: st) v x := vE_s rfl rfl
theorem q127_5 : vE 127 5 [l0, l1, l2] (w1 :: w0 :: st) v x ↔ ∃ y : vm_Y, vE 91 0 [w0, w1] [] v y ∧ vB 127 5 [l0, l1, l2] st y x := vE_cv rfl rfl rfl rfl
theorem q127_8 : vE 127 8 [.ref p, l1, l2] st v x ↔ vE 127 9 [.ref p, l1, l2] (.ref p :: st) v x := vE_s rfl rfl
theorem q127_9 : vE 127 9 [l0, l1, l2] (.ref p :: st) v x ↔ vE 127 12 [l0, l1, l2] (.ref (p + 36) :: st) v x := vE_s rfl rfl
theorem q127_12 : vE 127 12 [l0, l1, .int a] st v x ↔ vE 127 13 [l0, l1, .int a] (.int a :: st) v x := vE_s rfl rfl
theorem q127_13 : vE 127 13 [l0, l1, l2] (w1 :: w0 :: st) v x ↔ ∃ y : vm_Y, vE 91 0 [w0, w1] [] v y ∧ vB 127 13 [l0, l1, l2] st y x := vE_cv rfl rfl rfl rfl
theorem q127_16 : vE 127 16 [l0, l1, l2] (.int b :: .int a :: st) v x ↔ if a = b then vE 127 19 [l0, l1, l2] st v x else vE 127 23 [l0, l1, l2] st v x := vE_if rfl rfl
theorem q127_19 : vE 127 19 [l0, l1, l2] st v x ↔ vE 127 20 [l0, l1, l2] (.int 1 :: st) v x := vE_s rfl (by rfl)
theorem q127_20 : vE 127 20 [l0, l1, l2] st v x ↔ vE 127 24 [l0, l1, l2] st v x := vE_s rfl rfl
theorem q127_23 : vE 127 23 [l0, l1, l2] st v x ↔ vE 127 24 [l0, l1, l2] (.int 0 :: st) v x := vE_s rfl (by rfl)
theorem q127_24 : vE 127 24 [l0, l1, l2] ([.int a]) v x ↔ x = vr a v := vE_ir rfl
theorem qt127 {X pc : Nat} {L r : List Value} : vB 127 pc L r (vt X v) x ↔ x = vt X v := vB_t rfl
/-! 128 PassCheckerLaw.effects(LPassChecker;II[J)I -/
theorem q128_0 : vE 128 0 [l0, l1, l2, .ref p, l4] st v x ↔ vE 128 1 [l0, l1, l2, .ref p, l4] (.ref p :: st) v x := vE_s rfl rfl
theorem q128_1 : vE 128 1 [l0, l1, l2, l3, l4] st v x ↔ vE 128 2 [l0, l1, l2, l3, l4] (.int 0 :: st) v x := vE_s rfl (by rfl)
theorem q128_2 : vE 128 2 [.ref p, l1, l2, l3, l4] st v x ↔ vE 128 3 [.ref p, l1, l2, l3, l4] (.ref p :: st) v x := vE_s rfl rfl
theorem q128_3 : vE 128 3 [l0, .int a, l2, l3, l4] st v x ↔ vE 128 4 [l0, .int a, l2, l3, l4] (.int a :: st) v x := vE_s rfl rfl
theorem q128_4 : vE 128 4 [l0, l1, .int a, l3, l4] st v x ↔ vE 128 5 [l0, l1, .int a, l3, l4] (.int a :: st) v x := vE_s rfl rfl
theorem q128_5 : vE 128 5 [l0, l1, l2, l3, l4] (w2 :: w1 :: w0 :: st) v x ↔ ∃ y : vm_Y, vE 129 0 [w0, w1, w2, .retAddr 0] [] v y ∧ vB 128 5 [l0, l1, l2, l3, l4] st y x := vE_cv rfl rfl rfl rfl
theorem q128_8 : vE 128 8 [l0, l1, l2, l3, l4] (.int a :: st) v x ↔ vE 128 9 [l0, l1, l2, l3, l4] (.long a.toInt64 :: st) v x := vE_s rfl rfl
theorem q128_9 : vE 128 9 [l0, l1, l2, l3, l4] (.long w :: .int a :: .ref p :: st) v x ↔ vE 128 10 [l0, l1, l2, l3, l4] st (vm_sl v p a.toNatClampNeg w) x := vE_s rfl rfl
theorem q128_10 : vE 128 10 [l0, l1, l2, l3, l4] st v x ↔ vE 128 17 [l0, l1, l2, l3, l4] st v x := vE_s rfl rfl
theorem q128_13 : vE 128 13 [l0, l1, l2, l3, l4] (.ref p :: st) v x ↔ vE 128 15 [l0, l1, l2, l3, .ref p] st v x := vE_s rfl rfl
theorem q128_15 : vE 128 15 [l0, l1, l2, l3, l4] st v x ↔ vE 128 16 [l0, l1, l2, l3, l4] (.int 1 :: st) v x := vE_s rfl (by rfl)
theorem q128_16 : vE 128 16 [l0, l1, l2, l3, l4] ([.int a]) v x ↔ x = vr a v := vE_ir rfl
theorem q128_17 : vE 128 17 [l0, l1, l2, l3, l4] st v x ↔ vE 128 18 [l0, l1, l2, l3, l4] (.int 0 :: st) v x := vE_s rfl (by rfl)
theorem q128_18 : vE 128 18 [l0, l1, l2, l3, l4] ([.int a]) v x ↔ x = vr a v := vE_ir rfl
theorem qh128_5_10 {L r : List Value} : vB 128 5 L r (vt 10 v) x ↔ vE 128 13 L [.ref v.2.2.1] (vm_nx v) x := vB_h rfl
/-! 129 PassChecker.effects(II)I -/
theorem q129_0 : vE 129 0 [.ref p, l1, l2, l3] st v x ↔ vE 129 1 [.ref p, l1, l2, l3] (.ref p :: st) v x := vE_s rfl rfl
theorem q129_1 : vE 129 1 [l0, .int a, l2, l3] st v x ↔ vE 129 2 [l0, .int a, l2, l3] (.int a :: st) v x := vE_s rfl rfl
theorem q129_2 : vE 129 2 [l0, l1, l2, l3] (w1 :: w0 :: st) v x ↔ ∃ y : vm_Y, vE 18 0 [w0, w1] [] v y ∧ vB 129 2 [l0, l1, l2, l3] st y x := vE_cv rfl rfl rfl rfl
theorem q129_5 : vE 129 5 [l0, l1, l2, l3] (.ref p :: st) v x ↔ vE 129 6 [l0, l1, l2, .ref p] st v x := vE_s rfl rfl
theorem q129_6 : vE 129 6 [l0, l1, l2, .ref p] st v x ↔ vE 129 7 [l0, l1, l2, .ref p] (.ref p :: st) v x := vE_s rfl rfl
theorem q129_7 : vE 129 7 [l0, l1, .int a, l3] st v x ↔ vE 129 8 [l0, l1, .int a, l3] (.int a :: st) v x := vE_s rfl rfl
theorem q129_8 : vE 129 8 [l0, l1, l2, l3] (w1 :: w0 :: st) v x ↔ ∃ y : vm_Y, vE 25 0 [w0, w1] [] v y ∧ vB 129 8 [l0, l1, l2, l3] st y x := vE_cs rfl rfl rfl rfl
theorem q129_11 : vE 129 11 [.ref p, l1, l2, l3] st v x ↔ vE 129 12 [.ref p, l1, l2, l3] (.ref p :: st) v x := vE_s rfl rfl
theorem q129_12 : vE 129 12 [l0, l1, l2, l3] (.ref p :: st) v x ↔ vE 129 15 [l0, l1, l2, l3] (.ref (p + 16) :: st) v x := vE_s rfl rfl
theorem q129_15 : vE 129 15 [l0, l1, l2, .ref p] st v x ↔ vE 129 16 [l0, l1, l2, .ref p] (.ref p :: st) v x := vE_s rfl rfl
theorem q129_16 : vE 129 16 [l0, l1, .int a, l3] st v x ↔ vE 129 17 [l0, l1, .int a, l3] (.int a :: st) v x := vE_s rfl rfl
theorem q129_17 : vE 129 17 [l0, l1, l2, l3] (w2 :: w1 :: w0 :: st) v x ↔ ∃ y : vm_Y, vE 130 0 [w0, w1, w2] [] v y ∧ vB 129 17 [l0, l1, l2, l3] st y x := vE_cv rfl rfl rfl rfl
theorem q129_20 : vE 129 20 [l0, l1, l2, l3] ([.int a]) v x ↔ x = vr a v := vE_ir rfl
theorem qt129 {X pc : Nat} {L r : List Value} : vB 129 pc L r (vt X v) x ↔ x = vt X v := vB_t rfl
/-! 130 PassChecker$Checker.countEffects(LPassChecker$Program;I)I -/
theorem q130_0 : vE 130 0 [.ref p, l1, l2] st v x ↔ vE 130 1 [.ref p, l1, l2] (.ref p :: st) v x := vE_s rfl rfl
theorem q130_1 : vE 130 1 [l0, l1, l2] (.ref p :: st) v x ↔ vE 130 4 [l0, l1, l2] (.ref (p + 1) :: st) v x := vE_s rfl rfl
theorem q130_4 : vE 130 4 [l0, l1, l2] (w0 :: st) v x ↔ ∃ y : vm_Y, vE 87 0 [w0, .retAddr 0] [] v y ∧ vB 130 4 [l0, l1, l2] st y x := vE_cv rfl rfl rfl rfl
theorem q130_7 : vE 130 7 [.ref p, l1, l2] st v x ↔ vE 130 8 [.ref p, l1, l2] (.ref p :: st) v x := vE_s rfl rfl
theorem q130_8 : vE 130 8 [l0, l1, l2] (.ref p :: st) v x ↔ vE 130 11 [l0, l1, l2] (.ref (p + 31) :: st) v x := vE_s rfl rfl
theorem q130_11 : vE 130 11 [.ref p, l1, l2] st v x ↔ vE 130 12 [.ref p, l1, l2] (.ref p :: st) v x := vE_s rfl rfl
theorem q130_12 : vE 130 12 [l0, l1, l2] (.ref p :: st) v x ↔ vE 130 15 [l0, l1, l2] (.ref (p + 1) :: st) v x := vE_s rfl rfl
theorem q130_15 : vE 130 15 [l0, .ref p, l2] st v x ↔ vE 130 16 [l0, .ref p, l2] (.ref p :: st) v x := vE_s rfl rfl
theorem q130_16 : vE 130 16 [l0, l1, .int a] st v x ↔ vE 130 17 [l0, l1, .int a] (.int a :: st) v x := vE_s rfl rfl
theorem q130_17 : vE 130 17 [l0, l1, l2] (w3 :: w2 :: w1 :: w0 :: st) v x ↔ ∃ y : vm_Y, vE 90 0 [w0, w1, w2, w3, .retAddr 0, .retAddr 0, .retAddr 0, .retAddr 0, .retAddr 0, .retAddr 0, .retAddr 0] [] v y ∧ vB 130 17 [l0, l1, l2] st y x := vE_cv rfl rfl rfl rfl
theorem q130_20 : vE 130 20 [.ref p, l1, l2] st v x ↔ vE 130 21 [.ref p, l1, l2] (.ref p :: st) v x := vE_s rfl rfl
theorem q130_21 : vE 130 21 [l0, l1, l2] (.ref p :: st) v x ↔ vE 130 24 [l0, l1, l2] (.ref (p + 31) :: st) v x := vE_s rfl rfl
theorem q130_24 : vE 130 24 [l0, l1, l2] (w0 :: st) v x ↔ ∃ y : vm_Y, vE 131 0 [w0] [] v y ∧ vB 130 24 [l0, l1, l2] st y x := vE_cv rfl rfl rfl rfl
theorem q130_27 : vE 130 27 [l0, l1, l2] ([.int a]) v x ↔ x = vr a v := vE_ir rfl
theorem qt130 {X pc : Nat} {L r : List Value} : vB 130 pc L r (vt X v) x ↔ x = vt X v := vB_t rfl
/-! 131 PassChecker$Outcome.countOfEffects()I -/
theorem q131_0 : vE 131 0 [.ref p] st v x ↔ vE 131 1 [.ref p] (.ref p :: st) v x := vE_s rfl rfl
theorem q131_1 : vE 131 1 [l0] (.ref p :: st) v x ↔ vE 131 4 [l0] (.int (v.1 p 4) :: st) v x := vE_s rfl rfl
theorem q131_4 : vE 131 4 [l0] ([.int a]) v x ↔ x = vr a v := vE_ir rfl
end QH
