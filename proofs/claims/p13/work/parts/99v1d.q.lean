section QD
variable {l0 l1 l2 l3 l4 l5 l6 l7 l8 l9 l10 w0 w1 w2 w3 w4 w5 w6 w7 : Value} {st : List Value} {v : vm_V} {x : vm_Y} {a b c : Int32} {p q : Nat} {u w : Int64}
/-! 132 PassCheckerLaw.run(LPassChecker;IIII[J)I -/
theorem q132_0 : vE 132 0 [l0, l1, l2, l3, l4, .ref p, l6] st v x ↔ vE 132 2 [l0, l1, l2, l3, l4, .ref p, l6] (.ref p :: st) v x := vE_s rfl rfl
theorem q132_2 : vE 132 2 [l0, l1, l2, l3, l4, l5, l6] st v x ↔ vE 132 3 [l0, l1, l2, l3, l4, l5, l6] (.int 0 :: st) v x := vE_s rfl (by rfl)
theorem q132_3 : vE 132 3 [.ref p, l1, l2, l3, l4, l5, l6] st v x ↔ vE 132 4 [.ref p, l1, l2, l3, l4, l5, l6] (.ref p :: st) v x := vE_s rfl rfl
theorem q132_4 : vE 132 4 [l0, .int a, l2, l3, l4, l5, l6] st v x ↔ vE 132 5 [l0, .int a, l2, l3, l4, l5, l6] (.int a :: st) v x := vE_s rfl rfl
theorem q132_5 : vE 132 5 [l0, l1, .int a, l3, l4, l5, l6] st v x ↔ vE 132 6 [l0, l1, .int a, l3, l4, l5, l6] (.int a :: st) v x := vE_s rfl rfl
theorem q132_6 : vE 132 6 [l0, l1, l2, .int a, l4, l5, l6] st v x ↔ vE 132 7 [l0, l1, l2, .int a, l4, l5, l6] (.int a :: st) v x := vE_s rfl rfl
theorem q132_7 : vE 132 7 [l0, l1, l2, l3, .int a, l5, l6] st v x ↔ vE 132 9 [l0, l1, l2, l3, .int a, l5, l6] (.int a :: st) v x := vE_s rfl rfl
theorem q132_9 : vE 132 9 [l0, l1, l2, l3, l4, l5, l6] (w4 :: w3 :: w2 :: w1 :: w0 :: st) v x ↔ ∃ y : vm_Y, vE 133 0 [w0, w1, w2, w3, w4, .retAddr 0] [] v y ∧ vB 132 9 [l0, l1, l2, l3, l4, l5, l6] st y x := vE_cv rfl rfl rfl rfl
theorem q132_12 : vE 132 12 [l0, l1, l2, l3, l4, l5, l6] (.int a :: st) v x ↔ vE 132 13 [l0, l1, l2, l3, l4, l5, l6] (.long a.toInt64 :: st) v x := vE_s rfl rfl
theorem q132_13 : vE 132 13 [l0, l1, l2, l3, l4, l5, l6] (.long w :: .int a :: .ref p :: st) v x ↔ vE 132 14 [l0, l1, l2, l3, l4, l5, l6] st (vm_sl v p a.toNatClampNeg w) x := vE_s rfl rfl
theorem q132_14 : vE 132 14 [l0, l1, l2, l3, l4, l5, l6] st v x ↔ vE 132 25 [l0, l1, l2, l3, l4, l5, l6] st v x := vE_s rfl rfl
theorem q132_17 : vE 132 17 [l0, l1, l2, l3, l4, l5, l6] (.ref p :: st) v x ↔ vE 132 19 [l0, l1, l2, l3, l4, l5, .ref p] st v x := vE_s rfl rfl
theorem q132_19 : vE 132 19 [l0, l1, l2, l3, l4, l5, l6] st v x ↔ vE 132 20 [l0, l1, l2, l3, l4, l5, l6] (.int 1 :: st) v x := vE_s rfl (by rfl)
theorem q132_20 : vE 132 20 [l0, l1, l2, l3, l4, l5, l6] ([.int a]) v x ↔ x = vr a v := vE_ir rfl
theorem q132_21 : vE 132 21 [l0, l1, l2, l3, l4, l5, l6] (.ref p :: st) v x ↔ vE 132 23 [l0, l1, l2, l3, l4, l5, .ref p] st v x := vE_s rfl rfl
theorem q132_23 : vE 132 23 [l0, l1, l2, l3, l4, l5, l6] st v x ↔ vE 132 24 [l0, l1, l2, l3, l4, l5, l6] (.int 2 :: st) v x := vE_s rfl (by rfl)
theorem q132_24 : vE 132 24 [l0, l1, l2, l3, l4, l5, l6] ([.int a]) v x ↔ x = vr a v := vE_ir rfl
theorem q132_25 : vE 132 25 [l0, l1, l2, l3, l4, l5, l6] st v x ↔ vE 132 26 [l0, l1, l2, l3, l4, l5, l6] (.int 0 :: st) v x := vE_s rfl (by rfl)
theorem q132_26 : vE 132 26 [l0, l1, l2, l3, l4, l5, l6] ([.int a]) v x ↔ x = vr a v := vE_ir rfl
theorem qh132_9_10 {L r : List Value} : vB 132 9 L r (vt 10 v) x ↔ vE 132 17 L [.ref v.2.2.1] (vm_nx v) x := vB_h rfl
theorem qh132_9_12 {L r : List Value} : vB 132 9 L r (vt 12 v) x ↔ vE 132 21 L [.ref v.2.2.1] (vm_nx v) x := vB_h rfl
/-! 133 PassChecker.run(IIII)I -/
theorem q133_0 : vE 133 0 [.ref p, l1, l2, l3, l4, l5] st v x ↔ vE 133 1 [.ref p, l1, l2, l3, l4, l5] (.ref p :: st) v x := vE_s rfl rfl
theorem q133_1 : vE 133 1 [l0, .int a, l2, l3, l4, l5] st v x ↔ vE 133 2 [l0, .int a, l2, l3, l4, l5] (.int a :: st) v x := vE_s rfl rfl
theorem q133_2 : vE 133 2 [l0, l1, l2, l3, l4, l5] (w1 :: w0 :: st) v x ↔ ∃ y : vm_Y, vE 18 0 [w0, w1] [] v y ∧ vB 133 2 [l0, l1, l2, l3, l4, l5] st y x := vE_cv rfl rfl rfl rfl
theorem q133_5 : vE 133 5 [l0, l1, l2, l3, l4, l5] (.ref p :: st) v x ↔ vE 133 7 [l0, l1, l2, l3, l4, .ref p] st v x := vE_s rfl rfl
theorem q133_7 : vE 133 7 [l0, l1, l2, l3, .int a, l5] st v x ↔ vE 133 9 [l0, l1, l2, l3, .int a, l5] (.int a :: st) v x := vE_s rfl rfl
theorem q133_9 : vE 133 9 [l0, l1, l2, l3, l4, l5] (.int a :: st) v x ↔ if a < 0 then vE 133 20 [l0, l1, l2, l3, l4, l5] st v x else vE 133 12 [l0, l1, l2, l3, l4, l5] st v x := vE_if rfl rfl
theorem q133_12 : vE 133 12 [l0, l1, l2, l3, .int a, l5] st v x ↔ vE 133 14 [l0, l1, l2, l3, .int a, l5] (.int a :: st) v x := vE_s rfl rfl
theorem q133_14 : vE 133 14 [l0, l1, l2, l3, l4, l5] st v x ↔ vE 133 17 [l0, l1, l2, l3, l4, l5] (.int 500 :: st) v x := vE_s rfl (by rfl)
theorem q133_17 : vE 133 17 [l0, l1, l2, l3, l4, l5] (.int b :: .int a :: st) v x ↔ if a ≤ b then vE 133 30 [l0, l1, l2, l3, l4, l5] st v x else vE 133 20 [l0, l1, l2, l3, l4, l5] st v x := vE_if rfl rfl
theorem q133_20 : vE 133 20 [l0, l1, l2, l3, l4, l5] st v x ↔ x = vt 12 v := vE_new rfl rfl
theorem q133_23 : vE 133 23 [l0, l1, l2, l3, l4, l5] (.ref p :: st) v x ↔ vE 133 24 [l0, l1, l2, l3, l4, l5] (.ref p :: .ref p :: st) v x := vE_s rfl rfl
theorem q133_30 : vE 133 30 [.ref p, l1, l2, l3, l4, l5] st v x ↔ vE 133 31 [.ref p, l1, l2, l3, l4, l5] (.ref p :: st) v x := vE_s rfl rfl
theorem q133_31 : vE 133 31 [l0, l1, l2, l3, l4, l5] (.ref p :: st) v x ↔ vE 133 34 [l0, l1, l2, l3, l4, l5] (.ref (p + 59) :: st) v x := vE_s rfl rfl
theorem q133_34 : vE 133 34 [l0, l1, l2, l3, l4, .ref p] st v x ↔ vE 133 36 [l0, l1, l2, l3, l4, .ref p] (.ref p :: st) v x := vE_s rfl rfl
theorem q133_36 : vE 133 36 [l0, l1, .int a, l3, l4, l5] st v x ↔ vE 133 37 [l0, l1, .int a, l3, l4, l5] (.int a :: st) v x := vE_s rfl rfl
theorem q133_37 : vE 133 37 [l0, l1, l2, .int a, l4, l5] st v x ↔ vE 133 38 [l0, l1, l2, .int a, l4, l5] (.int a :: st) v x := vE_s rfl rfl
theorem q133_38 : vE 133 38 [l0, l1, l2, l3, .int a, l5] st v x ↔ vE 133 40 [l0, l1, l2, l3, .int a, l5] (.int a :: st) v x := vE_s rfl rfl
theorem q133_40 : vE 133 40 [l0, l1, l2, l3, l4, l5] (w4 :: w3 :: w2 :: w1 :: w0 :: st) v x ↔ ∃ y : vm_Y, vE 134 0 [w0, w1, w2, w3, w4, .retAddr 0, .retAddr 0] [] v y ∧ vB 133 40 [l0, l1, l2, l3, l4, l5] st y x := vE_cv rfl rfl rfl rfl
theorem q133_43 : vE 133 43 [l0, l1, l2, l3, l4, l5] ([.int a]) v x ↔ x = vr a v := vE_ir rfl
theorem qt133 {X pc : Nat} {L r : List Value} : vB 133 pc L r (vt X v) x ↔ x = vt X v := vB_t rfl
/-! 134 PassChecker$Machine.execute(LPassChecker$Program;III)I -/
theorem q134_0 : vE 134 0 [.ref p, l1, l2, l3, l4, l5, l6] st v x ↔ vE 134 1 [.ref p, l1, l2, l3, l4, l5, l6] (.ref p :: st) v x := vE_s rfl rfl
theorem q134_1 : vE 134 1 [l0, l1, .int a, l3, l4, l5, l6] st v x ↔ vE 134 2 [l0, l1, .int a, l3, l4, l5, l6] (.int a :: st) v x := vE_s rfl rfl
theorem q134_2 : vE 134 2 [l0, l1, l2, .int a, l4, l5, l6] st v x ↔ vE 134 3 [l0, l1, l2, .int a, l4, l5, l6] (.int a :: st) v x := vE_s rfl rfl
theorem q134_3 : vE 134 3 [l0, l1, l2, l3, l4, l5, l6] (w2 :: w1 :: w0 :: st) v x ↔ ∃ y : vm_Y, vE 135 0 [w0, w1, w2] [] v y ∧ vB 134 3 [l0, l1, l2, l3, l4, l5, l6] st y x := vE_cv rfl rfl rfl rfl
theorem q134_6 : vE 134 6 [l0, l1, l2, l3, l4, l5, l6] st v x ↔ vE 134 7 [l0, l1, l2, l3, l4, l5, l6] (.int 0 :: st) v x := vE_s rfl (by rfl)
theorem q134_7 : vE 134 7 [l0, l1, l2, l3, l4, l5, l6] (.int a :: st) v x ↔ vE 134 9 [l0, l1, l2, l3, l4, .int a, l6] st v x := vE_s rfl rfl
theorem q134_9 : vE 134 9 [l0, l1, l2, l3, l4, l5, l6] st v x ↔ vE 134 10 [l0, l1, l2, l3, l4, l5, l6] (.int 0 :: st) v x := vE_s rfl (by rfl)
theorem q134_10 : vE 134 10 [l0, l1, l2, l3, l4, l5, l6] (.int a :: st) v x ↔ vE 134 12 [l0, l1, l2, l3, l4, l5, .int a] st v x := vE_s rfl rfl
theorem q134_12 : vE 134 12 [l0, l1, l2, l3, l4, l5, .int a] st v x ↔ vE 134 14 [l0, l1, l2, l3, l4, l5, .int a] (.int a :: st) v x := vE_s rfl rfl
theorem q134_14 : vE 134 14 [l0, l1, l2, l3, .int a, l5, l6] st v x ↔ vE 134 16 [l0, l1, l2, l3, .int a, l5, l6] (.int a :: st) v x := vE_s rfl rfl
theorem q134_16 : vE 134 16 [l0, l1, l2, l3, l4, l5, l6] (.int b :: .int a :: st) v x ↔ if b ≤ a then vE 134 60 [l0, l1, l2, l3, l4, l5, l6] st v x else vE 134 19 [l0, l1, l2, l3, l4, l5, l6] st v x := vE_if rfl rfl
theorem q134_19 : vE 134 19 [l0, l1, l2, l3, l4, .int a, l6] st v x ↔ vE 134 21 [l0, l1, l2, l3, l4, .int a, l6] (.int a :: st) v x := vE_s rfl rfl
theorem q134_21 : vE 134 21 [l0, l1, l2, l3, l4, l5, l6] (.int a :: st) v x ↔ if a = 0 then vE 134 24 [l0, l1, l2, l3, l4, l5, l6] st v x else vE 134 60 [l0, l1, l2, l3, l4, l5, l6] st v x := vE_if rfl rfl
theorem q134_24 : vE 134 24 [.ref p, l1, l2, l3, l4, l5, l6] st v x ↔ vE 134 25 [.ref p, l1, l2, l3, l4, l5, l6] (.ref p :: st) v x := vE_s rfl rfl
theorem q134_25 : vE 134 25 [l0, l1, l2, l3, l4, l5, l6] (.ref p :: st) v x ↔ vE 134 28 [l0, l1, l2, l3, l4, l5, l6] (.int (v.1 p 3) :: st) v x := vE_s rfl rfl
theorem q134_28 : vE 134 28 [l0, .ref p, l2, l3, l4, l5, l6] st v x ↔ vE 134 29 [l0, .ref p, l2, l3, l4, l5, l6] (.ref p :: st) v x := vE_s rfl rfl
theorem q134_29 : vE 134 29 [.ref p, l1, l2, l3, l4, l5, l6] st v x ↔ vE 134 30 [.ref p, l1, l2, l3, l4, l5, l6] (.ref p :: st) v x := vE_s rfl rfl
theorem q134_30 : vE 134 30 [l0, l1, l2, l3, l4, l5, l6] (.ref p :: st) v x ↔ vE 134 33 [l0, l1, l2, l3, l4, l5, l6] (.int (v.1 p 2) :: st) v x := vE_s rfl rfl
theorem q134_33 : vE 134 33 [l0, l1, l2, l3, l4, l5, l6] (w1 :: w0 :: st) v x ↔ ∃ y : vm_Y, vE 31 0 [w0, w1] [] v y ∧ vB 134 33 [l0, l1, l2, l3, l4, l5, l6] st y x := vE_cv rfl rfl rfl rfl
theorem q134_36 : vE 134 36 [l0, l1, l2, l3, l4, l5, l6] (.int b :: .int a :: st) v x ↔ if b ≤ a then vE 134 47 [l0, l1, l2, l3, l4, l5, l6] st v x else vE 134 39 [l0, l1, l2, l3, l4, l5, l6] st v x := vE_if rfl rfl
theorem q134_39 : vE 134 39 [.ref p, l1, l2, l3, l4, l5, l6] st v x ↔ vE 134 40 [.ref p, l1, l2, l3, l4, l5, l6] (.ref p :: st) v x := vE_s rfl rfl
theorem q134_40 : vE 134 40 [l0, .ref p, l2, l3, l4, l5, l6] st v x ↔ vE 134 41 [l0, .ref p, l2, l3, l4, l5, l6] (.ref p :: st) v x := vE_s rfl rfl
theorem q134_41 : vE 134 41 [l0, l1, l2, l3, l4, l5, l6] (w1 :: w0 :: st) v x ↔ ∃ y : vm_Y, vE 137 0 [w0, w1, .retAddr 0, .retAddr 0, .retAddr 0, .retAddr 0, .retAddr 0] [] v y ∧ vB 134 41 [l0, l1, l2, l3, l4, l5, l6] st y x := vE_cv rfl rfl rfl rfl
theorem q134_44 : vE 134 44 [l0, l1, l2, l3, l4, l5, l6] st v x ↔ vE 134 52 [l0, l1, l2, l3, l4, l5, l6] st v x := vE_s rfl rfl
theorem q134_47 : vE 134 47 [.ref p, l1, l2, l3, l4, l5, l6] st v x ↔ vE 134 48 [.ref p, l1, l2, l3, l4, l5, l6] (.ref p :: st) v x := vE_s rfl rfl
theorem q134_48 : vE 134 48 [l0, .ref p, l2, l3, l4, l5, l6] st v x ↔ vE 134 49 [l0, .ref p, l2, l3, l4, l5, l6] (.ref p :: st) v x := vE_s rfl rfl
theorem q134_49 : vE 134 49 [l0, l1, l2, l3, l4, l5, l6] (w1 :: w0 :: st) v x ↔ ∃ y : vm_Y, vE 142 0 [w0, w1, .retAddr 0, .retAddr 0] [] v y ∧ vB 134 49 [l0, l1, l2, l3, l4, l5, l6] st y x := vE_cv rfl rfl rfl rfl
theorem q134_52 : vE 134 52 [l0, l1, l2, l3, l4, l5, l6] (.int a :: st) v x ↔ vE 134 54 [l0, l1, l2, l3, l4, .int a, l6] st v x := vE_s rfl rfl
theorem q134_54 : vE 134 54 [l0, l1, l2, l3, l4, l5, .int a] st v x ↔ vE 134 57 [l0, l1, l2, l3, l4, l5, .int (a + 1)] st v x := vE_s rfl rfl
theorem q134_57 : vE 134 57 [l0, l1, l2, l3, l4, l5, l6] st v x ↔ vE 134 12 [l0, l1, l2, l3, l4, l5, l6] st v x := vE_s rfl rfl
theorem q134_60 : vE 134 60 [l0, l1, l2, l3, l4, .int a, l6] st v x ↔ vE 134 62 [l0, l1, l2, l3, l4, .int a, l6] (.int a :: st) v x := vE_s rfl rfl
theorem q134_62 : vE 134 62 [l0, l1, l2, l3, l4, l5, l6] ([.int a]) v x ↔ x = vr a v := vE_ir rfl
theorem qt134 {X pc : Nat} {L r : List Value} : vB 134 pc L r (vt X v) x ↔ x = vt X v := vB_t rfl
/-! 135 PassChecker$Machine.begin(II)V -/
theorem q135_0 : vE 135 0 [.ref p, l1, l2] st v x ↔ vE 135 1 [.ref p, l1, l2] (.ref p :: st) v x := vE_s rfl rfl
theorem q135_1 : vE 135 1 [l0, l1, l2] (.ref p :: st) v x ↔ vE 135 4 [l0, l1, l2] (.ref (p + 1) :: st) v x := vE_s rfl rfl
theorem q135_4 : vE 135 4 [l0, l1, l2] st v x ↔ vE 135 5 [l0, l1, l2] (.int 0 :: st) v x := vE_s rfl (by rfl)
theorem q135_5 : vE 135 5 [l0, l1, l2] (w1 :: w0 :: st) v x ↔ ∃ y : vm_Y, vE 80 0 [w0, w1, .retAddr 0, .retAddr 0] [] v y ∧ vB 135 5 [l0, l1, l2] st y x := vE_cs rfl rfl rfl rfl
theorem q135_8 : vE 135 8 [.ref p, l1, l2] st v x ↔ vE 135 9 [.ref p, l1, l2] (.ref p :: st) v x := vE_s rfl rfl
theorem q135_9 : vE 135 9 [l0, l1, l2] (.ref p :: st) v x ↔ vE 135 12 [l0, l1, l2] (.ref (p + 2) :: st) v x := vE_s rfl rfl
theorem q135_12 : vE 135 12 [l0, l1, l2] st v x ↔ vE 135 13 [l0, l1, l2] (.int 0 :: st) v x := vE_s rfl (by rfl)
theorem q135_13 : vE 135 13 [l0, l1, l2] (w1 :: w0 :: st) v x ↔ ∃ y : vm_Y, vE 80 0 [w0, w1, .retAddr 0, .retAddr 0] [] v y ∧ vB 135 13 [l0, l1, l2] st y x := vE_cs rfl rfl rfl rfl
theorem q135_16 : vE 135 16 [.ref p, l1, l2] st v x ↔ vE 135 17 [.ref p, l1, l2] (.ref p :: st) v x := vE_s rfl rfl
theorem q135_17 : vE 135 17 [l0, l1, l2] st v x ↔ vE 135 18 [l0, l1, l2] (.int 0 :: st) v x := vE_s rfl (by rfl)
theorem q135_18 : vE 135 18 [l0, .int a, l2] st v x ↔ vE 135 19 [l0, .int a, l2] (.int a :: st) v x := vE_s rfl rfl
theorem q135_19 : vE 135 19 [l0, l1, l2] (w2 :: w1 :: w0 :: st) v x ↔ ∃ y : vm_Y, vE 136 0 [w0, w1, w2] [] v y ∧ vB 135 19 [l0, l1, l2] st y x := vE_cv rfl rfl rfl rfl
theorem q135_22 : vE 135 22 [.ref p, l1, l2] st v x ↔ vE 135 23 [.ref p, l1, l2] (.ref p :: st) v x := vE_s rfl rfl
theorem q135_23 : vE 135 23 [l0, l1, l2] st v x ↔ vE 135 24 [l0, l1, l2] (.int 1 :: st) v x := vE_s rfl (by rfl)
theorem q135_24 : vE 135 24 [l0, l1, .int a] st v x ↔ vE 135 25 [l0, l1, .int a] (.int a :: st) v x := vE_s rfl rfl
theorem q135_25 : vE 135 25 [l0, l1, l2] (w2 :: w1 :: w0 :: st) v x ↔ ∃ y : vm_Y, vE 136 0 [w0, w1, w2] [] v y ∧ vB 135 25 [l0, l1, l2] st y x := vE_cv rfl rfl rfl rfl
theorem q135_28 : vE 135 28 [.ref p, l1, l2] st v x ↔ vE 135 29 [.ref p, l1, l2] (.ref p :: st) v x := vE_s rfl rfl
theorem q135_29 : vE 135 29 [l0, l1, l2] st v x ↔ vE 135 30 [l0, l1, l2] (.int 0 :: st) v x := vE_s rfl (by rfl)
theorem q135_30 : vE 135 30 [l0, l1, l2] (.int a :: .ref p :: st) v x ↔ vE 135 33 [l0, l1, l2] st (vm_si v p 2 a) x := vE_s rfl rfl
theorem q135_33 : vE 135 33 [.ref p, l1, l2] st v x ↔ vE 135 34 [.ref p, l1, l2] (.ref p :: st) v x := vE_s rfl rfl
theorem q135_34 : vE 135 34 [l0, l1, l2] st v x ↔ vE 135 35 [l0, l1, l2] (.int 0 :: st) v x := vE_s rfl (by rfl)
theorem q135_35 : vE 135 35 [l0, l1, l2] (.int a :: .ref p :: st) v x ↔ vE 135 38 [l0, l1, l2] st (vm_si v p 3 a) x := vE_s rfl rfl
theorem q135_38 : vE 135 38 [.ref p, l1, l2] st v x ↔ vE 135 39 [.ref p, l1, l2] (.ref p :: st) v x := vE_s rfl rfl
theorem q135_39 : vE 135 39 [l0, l1, l2] st v x ↔ vE 135 40 [l0, l1, l2] (.int 0 :: st) v x := vE_s rfl (by rfl)
theorem q135_40 : vE 135 40 [l0, l1, l2] (.int a :: .ref p :: st) v x ↔ vE 135 43 [l0, l1, l2] st (vm_si v p 4 a) x := vE_s rfl rfl
theorem q135_43 : vE 135 43 [.ref p, l1, l2] st v x ↔ vE 135 44 [.ref p, l1, l2] (.ref p :: st) v x := vE_s rfl rfl
theorem q135_44 : vE 135 44 [l0, l1, l2] st v x ↔ vE 135 45 [l0, l1, l2] (.int 0 :: st) v x := vE_s rfl (by rfl)
theorem q135_45 : vE 135 45 [l0, l1, l2] (.int a :: .ref p :: st) v x ↔ vE 135 48 [l0, l1, l2] st (vm_si v p 5 a) x := vE_s rfl rfl
theorem q135_48 : vE 135 48 [l0, l1, l2] [] v x ↔ x = vd v := vE_vr rfl
theorem qt135 {X pc : Nat} {L r : List Value} : vB 135 pc L r (vt X v) x ↔ x = vt X v := vB_t rfl
/-! 136 PassChecker$Machine.write(II)V -/
theorem q136_0 : vE 136 0 [l0, .int a, l2] st v x ↔ vE 136 1 [l0, .int a, l2] (.int a :: st) v x := vE_s rfl rfl
theorem q136_1 : vE 136 1 [l0, l1, l2] (w0 :: st) v x ↔ ∃ y : vm_Y, vE 28 0 [w0] [] v y ∧ vB 136 1 [l0, l1, l2] st y x := vE_cs rfl rfl rfl rfl
theorem q136_4 : vE 136 4 [l0, l1, l2] (.int a :: st) v x ↔ if a = 0 then vE 136 14 [l0, l1, l2] st v x else vE 136 7 [l0, l1, l2] st v x := vE_if rfl rfl
theorem q136_7 : vE 136 7 [.ref p, l1, l2] st v x ↔ vE 136 8 [.ref p, l1, l2] (.ref p :: st) v x := vE_s rfl rfl
theorem q136_8 : vE 136 8 [l0, l1, l2] (.ref p :: st) v x ↔ vE 136 11 [l0, l1, l2] (.ref (p + 1) :: st) v x := vE_s rfl rfl
theorem q136_11 : vE 136 11 [l0, .int a, l2] st v x ↔ vE 136 12 [l0, .int a, l2] (.int a :: st) v x := vE_s rfl rfl
theorem q136_12 : vE 136 12 [l0, l1, .int a] st v x ↔ vE 136 13 [l0, l1, .int a] (.int a :: st) v x := vE_s rfl rfl
theorem q136_13 : vE 136 13 [l0, l1, l2] (.int b :: .int a :: .ref p :: st) v x ↔ vE 136 14 [l0, l1, l2] st (vm_si v p a.toNatClampNeg b) x := vE_s rfl rfl
theorem q136_14 : vE 136 14 [l0, l1, l2] [] v x ↔ x = vd v := vE_vr rfl
theorem qt136 {X pc : Nat} {L r : List Value} : vB 136 pc L r (vt X v) x ↔ x = vt X v := vB_t rfl
/-! 137 PassChecker$Machine.doCode(LPassChecker$Program;)I -/
theorem q137_0 : vE 137 0 [l0, .ref p, l2, l3, l4, l5, l6] st v x ↔ vE 137 1 [l0, .ref p, l2, l3, l4, l5, l6] (.ref p :: st) v x := vE_s rfl rfl
theorem q137_1 : vE 137 1 [.ref p, l1, l2, l3, l4, l5, l6] st v x ↔ vE 137 2 [.ref p, l1, l2, l3, l4, l5, l6] (.ref p :: st) v x := vE_s rfl rfl
theorem q137_2 : vE 137 2 [l0, l1, l2, l3, l4, l5, l6] (.ref p :: st) v x ↔ vE 137 5 [l0, l1, l2, l3, l4, l5, l6] (.int (v.1 p 2) :: st) v x := vE_s rfl rfl
theorem q137_5 : vE 137 5 [.ref p, l1, l2, l3, l4, l5, l6] st v x ↔ vE 137 6 [.ref p, l1, l2, l3, l4, l5, l6] (.ref p :: st) v x := vE_s rfl rfl
theorem q137_6 : vE 137 6 [l0, l1, l2, l3, l4, l5, l6] (.ref p :: st) v x ↔ vE 137 9 [l0, l1, l2, l3, l4, l5, l6] (.int (v.1 p 3) :: st) v x := vE_s rfl rfl
theorem q137_9 : vE 137 9 [l0, l1, l2, l3, l4, l5, l6] st v x ↔ vE 137 10 [l0, l1, l2, l3, l4, l5, l6] (.int 0 :: st) v x := vE_s rfl (by rfl)
theorem q137_10 : vE 137 10 [l0, l1, l2, l3, l4, l5, l6] (w3 :: w2 :: w1 :: w0 :: st) v x ↔ ∃ y : vm_Y, vE 47 0 [w0, w1, w2, w3, .retAddr 0] [] v y ∧ vB 137 10 [l0, l1, l2, l3, l4, l5, l6] st y x := vE_cv rfl rfl rfl rfl
theorem q137_13 : vE 137 13 [l0, l1, l2, l3, l4, l5, l6] (.int a :: st) v x ↔ vE 137 14 [l0, l1, .int a, l3, l4, l5, l6] st v x := vE_s rfl rfl
theorem q137_14 : vE 137 14 [l0, .ref p, l2, l3, l4, l5, l6] st v x ↔ vE 137 15 [l0, .ref p, l2, l3, l4, l5, l6] (.ref p :: st) v x := vE_s rfl rfl
theorem q137_15 : vE 137 15 [.ref p, l1, l2, l3, l4, l5, l6] st v x ↔ vE 137 16 [.ref p, l1, l2, l3, l4, l5, l6] (.ref p :: st) v x := vE_s rfl rfl
theorem q137_16 : vE 137 16 [l0, l1, l2, l3, l4, l5, l6] (.ref p :: st) v x ↔ vE 137 19 [l0, l1, l2, l3, l4, l5, l6] (.int (v.1 p 2) :: st) v x := vE_s rfl rfl
theorem q137_19 : vE 137 19 [.ref p, l1, l2, l3, l4, l5, l6] st v x ↔ vE 137 20 [.ref p, l1, l2, l3, l4, l5, l6] (.ref p :: st) v x := vE_s rfl rfl
theorem q137_20 : vE 137 20 [l0, l1, l2, l3, l4, l5, l6] (.ref p :: st) v x ↔ vE 137 23 [l0, l1, l2, l3, l4, l5, l6] (.int (v.1 p 3) :: st) v x := vE_s rfl rfl
theorem q137_23 : vE 137 23 [l0, l1, l2, l3, l4, l5, l6] st v x ↔ vE 137 24 [l0, l1, l2, l3, l4, l5, l6] (.int 1 :: st) v x := vE_s rfl (by rfl)
theorem q137_24 : vE 137 24 [l0, l1, l2, l3, l4, l5, l6] (w3 :: w2 :: w1 :: w0 :: st) v x ↔ ∃ y : vm_Y, vE 47 0 [w0, w1, w2, w3, .retAddr 0] [] v y ∧ vB 137 24 [l0, l1, l2, l3, l4, l5, l6] st y x := vE_cv rfl rfl rfl rfl
theorem q137_27 : vE 137 27 [l0, l1, l2, l3, l4, l5, l6] (.int a :: st) v x ↔ vE 137 28 [l0, l1, l2, .int a, l4, l5, l6] st v x := vE_s rfl rfl
theorem q137_28 : vE 137 28 [.ref p, l1, l2, l3, l4, l5, l6] st v x ↔ vE 137 29 [.ref p, l1, l2, l3, l4, l5, l6] (.ref p :: st) v x := vE_s rfl rfl
theorem q137_29 : vE 137 29 [l0, .ref p, l2, l3, l4, l5, l6] st v x ↔ vE 137 30 [l0, .ref p, l2, l3, l4, l5, l6] (.ref p :: st) v x := vE_s rfl rfl
theorem q137_30 : vE 137 30 [.ref p, l1, l2, l3, l4, l5, l6] st v x ↔ vE 137 31 [.ref p, l1, l2, l3, l4, l5, l6] (.ref p :: st) v x := vE_s rfl rfl
theorem q137_31 : vE 137 31 [l0, l1, l2, l3, l4, l5, l6] (.ref p :: st) v x ↔ vE 137 34 [l0, l1, l2, l3, l4, l5, l6] (.int (v.1 p 2) :: st) v x := vE_s rfl rfl
theorem q137_34 : vE 137 34 [.ref p, l1, l2, l3, l4, l5, l6] st v x ↔ vE 137 35 [.ref p, l1, l2, l3, l4, l5, l6] (.ref p :: st) v x := vE_s rfl rfl
theorem q137_35 : vE 137 35 [l0, l1, l2, l3, l4, l5, l6] (.ref p :: st) v x ↔ vE 137 38 [l0, l1, l2, l3, l4, l5, l6] (.int (v.1 p 3) :: st) v x := vE_s rfl rfl
theorem q137_38 : vE 137 38 [l0, l1, l2, l3, l4, l5, l6] st v x ↔ vE 137 39 [l0, l1, l2, l3, l4, l5, l6] (.int 2 :: st) v x := vE_s rfl (by rfl)
theorem q137_39 : vE 137 39 [l0, l1, l2, l3, l4, l5, l6] (w3 :: w2 :: w1 :: w0 :: st) v x ↔ ∃ y : vm_Y, vE 47 0 [w0, w1, w2, w3, .retAddr 0] [] v y ∧ vB 137 39 [l0, l1, l2, l3, l4, l5, l6] st y x := vE_cv rfl rfl rfl rfl
theorem q137_42 : vE 137 42 [l0, l1, l2, l3, l4, l5, l6] (w1 :: w0 :: st) v x ↔ ∃ y : vm_Y, vE 138 0 [w0, w1] [] v y ∧ vB 137 42 [l0, l1, l2, l3, l4, l5, l6] st y x := vE_cv rfl rfl rfl rfl
theorem q137_45 : vE 137 45 [l0, l1, l2, l3, l4, l5, l6] (.int a :: st) v x ↔ vE 137 47 [l0, l1, l2, l3, .int a, l5, l6] st v x := vE_s rfl rfl
theorem q137_47 : vE 137 47 [.ref p, l1, l2, l3, l4, l5, l6] st v x ↔ vE 137 48 [.ref p, l1, l2, l3, l4, l5, l6] (.ref p :: st) v x := vE_s rfl rfl
theorem q137_48 : vE 137 48 [l0, .ref p, l2, l3, l4, l5, l6] st v x ↔ vE 137 49 [l0, .ref p, l2, l3, l4, l5, l6] (.ref p :: st) v x := vE_s rfl rfl
theorem q137_49 : vE 137 49 [.ref p, l1, l2, l3, l4, l5, l6] st v x ↔ vE 137 50 [.ref p, l1, l2, l3, l4, l5, l6] (.ref p :: st) v x := vE_s rfl rfl
theorem q137_50 : vE 137 50 [l0, l1, l2, l3, l4, l5, l6] (.ref p :: st) v x ↔ vE 137 53 [l0, l1, l2, l3, l4, l5, l6] (.int (v.1 p 2) :: st) v x := vE_s rfl rfl
theorem q137_53 : vE 137 53 [.ref p, l1, l2, l3, l4, l5, l6] st v x ↔ vE 137 54 [.ref p, l1, l2, l3, l4, l5, l6] (.ref p :: st) v x := vE_s rfl rfl
theorem q137_54 : vE 137 54 [l0, l1, l2, l3, l4, l5, l6] (.ref p :: st) v x ↔ vE 137 57 [l0, l1, l2, l3, l4, l5, l6] (.int (v.1 p 3) :: st) v x := vE_s rfl rfl
theorem q137_57 : vE 137 57 [l0, l1, l2, l3, l4, l5, l6] st v x ↔ vE 137 58 [l0, l1, l2, l3, l4, l5, l6] (.int 3 :: st) v x := vE_s rfl (by rfl)
theorem q137_58 : vE 137 58 [l0, l1, l2, l3, l4, l5, l6] (w3 :: w2 :: w1 :: w0 :: st) v x ↔ ∃ y : vm_Y, vE 47 0 [w0, w1, w2, w3, .retAddr 0] [] v y ∧ vB 137 58 [l0, l1, l2, l3, l4, l5, l6] st y x := vE_cv rfl rfl rfl rfl
theorem q137_61 : vE 137 61 [l0, l1, l2, l3, l4, l5, l6] (w1 :: w0 :: st) v x ↔ ∃ y : vm_Y, vE 138 0 [w0, w1] [] v y ∧ vB 137 61 [l0, l1, l2, l3, l4, l5, l6] st y x := vE_cv rfl rfl rfl rfl
theorem q137_64 : vE 137 64 [l0, l1, l2, l3, l4, l5, l6] (.int a :: st) v x ↔ vE 137 66 [l0, l1, l2, l3, l4, .int a, l6] st v x := vE_s rfl rfl
theorem q137_66 : vE 137 66 [.ref p, l1, l2, l3, l4, l5, l6] st v x ↔ vE 137 67 [.ref p, l1, l2, l3, l4, l5, l6] (.ref p :: st) v x := vE_s rfl rfl
theorem q137_67 : vE 137 67 [l0, l1, .int a, l3, l4, l5, l6] st v x ↔ vE 137 68 [l0, l1, .int a, l3, l4, l5, l6] (.int a :: st) v x := vE_s rfl rfl
theorem q137_68 : vE 137 68 [l0, l1, l2, l3, .int a, l5, l6] st v x ↔ vE 137 70 [l0, l1, l2, l3, .int a, l5, l6] (.int a :: st) v x := vE_s rfl rfl
theorem q137_70 : vE 137 70 [l0, l1, l2, l3, l4, .int a, l6] st v x ↔ vE 137 72 [l0, l1, l2, l3, l4, .int a, l6] (.int a :: st) v x := vE_s rfl rfl
theorem q137_72 : vE 137 72 [l0, l1, l2, l3, l4, l5, l6] (w3 :: w2 :: w1 :: w0 :: st) v x ↔ ∃ y : vm_Y, vE 139 0 [w0, w1, w2, w3] [] v y ∧ vB 137 72 [l0, l1, l2, l3, l4, l5, l6] st y x := vE_cv rfl rfl rfl rfl
theorem q137_75 : vE 137 75 [l0, l1, l2, l3, l4, l5, l6] (.int a :: st) v x ↔ vE 137 77 [l0, l1, l2, l3, l4, l5, .int a] st v x := vE_s rfl rfl
theorem q137_77 : vE 137 77 [l0, l1, l2, l3, l4, l5, .int a] st v x ↔ vE 137 79 [l0, l1, l2, l3, l4, l5, .int a] (.int a :: st) v x := vE_s rfl rfl
theorem q137_79 : vE 137 79 [l0, l1, l2, l3, l4, l5, l6] (.int a :: st) v x ↔ if a = 0 then vE 137 85 [l0, l1, l2, l3, l4, l5, l6] st v x else vE 137 82 [l0, l1, l2, l3, l4, l5, l6] st v x := vE_if rfl rfl
theorem q137_82 : vE 137 82 [l0, l1, l2, l3, l4, l5, .int a] st v x ↔ vE 137 84 [l0, l1, l2, l3, l4, l5, .int a] (.int a :: st) v x := vE_s rfl rfl
theorem q137_84 : vE 137 84 [l0, l1, l2, l3, l4, l5, l6] ([.int a]) v x ↔ x = vr a v := vE_ir rfl
theorem q137_85 : vE 137 85 [l0, l1, .int a, l3, l4, l5, l6] st v x ↔ vE 137 86 [l0, l1, .int a, l3, l4, l5, l6] (.int a :: st) v x := vE_s rfl rfl
theorem q137_86 : vE 137 86 [l0, l1, l2, l3, l4, l5, l6] (.int a :: st) v x ↔ if a = 0 then vE 137 89 [l0, l1, l2, l3, l4, l5, l6] st v x else vE 137 110 [l0, l1, l2, l3, l4, l5, l6] st v x := vE_if rfl rfl
theorem q137_89 : vE 137 89 [.ref p, l1, l2, l3, l4, l5, l6] st v x ↔ vE 137 90 [.ref p, l1, l2, l3, l4, l5, l6] (.ref p :: st) v x := vE_s rfl rfl
theorem q137_90 : vE 137 90 [l0, l1, l2, .int a, l4, l5, l6] st v x ↔ vE 137 91 [l0, l1, l2, .int a, l4, l5, l6] (.int a :: st) v x := vE_s rfl rfl
theorem q137_91 : vE 137 91 [l0, .ref p, l2, l3, l4, l5, l6] st v x ↔ vE 137 92 [l0, .ref p, l2, l3, l4, l5, l6] (.ref p :: st) v x := vE_s rfl rfl
theorem q137_92 : vE 137 92 [.ref p, l1, l2, l3, l4, l5, l6] st v x ↔ vE 137 93 [.ref p, l1, l2, l3, l4, l5, l6] (.ref p :: st) v x := vE_s rfl rfl
theorem q137_93 : vE 137 93 [l0, l1, l2, l3, l4, l5, l6] (.ref p :: st) v x ↔ vE 137 96 [l0, l1, l2, l3, l4, l5, l6] (.int (v.1 p 2) :: st) v x := vE_s rfl rfl
theorem q137_96 : vE 137 96 [.ref p, l1, l2, l3, l4, l5, l6] st v x ↔ vE 137 97 [.ref p, l1, l2, l3, l4, l5, l6] (.ref p :: st) v x := vE_s rfl rfl
theorem q137_97 : vE 137 97 [l0, l1, l2, l3, l4, l5, l6] (.ref p :: st) v x ↔ vE 137 100 [l0, l1, l2, l3, l4, l5, l6] (.int (v.1 p 3) :: st) v x := vE_s rfl rfl
theorem q137_100 : vE 137 100 [l0, l1, l2, l3, l4, l5, l6] st v x ↔ vE 137 101 [l0, l1, l2, l3, l4, l5, l6] (.int 3 :: st) v x := vE_s rfl (by rfl)
theorem q137_101 : vE 137 101 [l0, l1, l2, l3, l4, l5, l6] (w3 :: w2 :: w1 :: w0 :: st) v x ↔ ∃ y : vm_Y, vE 47 0 [w0, w1, w2, w3, .retAddr 0] [] v y ∧ vB 137 101 [l0, l1, l2, l3, l4, l5, l6] st y x := vE_cv rfl rfl rfl rfl
theorem q137_104 : vE 137 104 [l0, l1, l2, l3, l4, l5, l6] (w2 :: w1 :: w0 :: st) v x ↔ ∃ y : vm_Y, vE 136 0 [w0, w1, w2] [] v y ∧ vB 137 104 [l0, l1, l2, l3, l4, l5, l6] st y x := vE_cv rfl rfl rfl rfl
theorem q137_107 : vE 137 107 [l0, l1, l2, l3, l4, l5, l6] st v x ↔ vE 137 175 [l0, l1, l2, l3, l4, l5, l6] st v x := vE_s rfl rfl
theorem q137_110 : vE 137 110 [l0, l1, .int a, l3, l4, l5, l6] st v x ↔ vE 137 111 [l0, l1, .int a, l3, l4, l5, l6] (.int a :: st) v x := vE_s rfl rfl
theorem q137_111 : vE 137 111 [l0, l1, l2, l3, l4, l5, l6] st v x ↔ vE 137 112 [l0, l1, l2, l3, l4, l5, l6] (.int 1 :: st) v x := vE_s rfl (by rfl)
theorem q137_112 : vE 137 112 [l0, l1, l2, l3, l4, l5, l6] (.int b :: .int a :: st) v x ↔ if a = b then vE 137 115 [l0, l1, l2, l3, l4, l5, l6] st v x else vE 137 125 [l0, l1, l2, l3, l4, l5, l6] st v x := vE_if rfl rfl
theorem q137_115 : vE 137 115 [.ref p, l1, l2, l3, l4, l5, l6] st v x ↔ vE 137 116 [.ref p, l1, l2, l3, l4, l5, l6] (.ref p :: st) v x := vE_s rfl rfl
theorem q137_116 : vE 137 116 [l0, l1, l2, .int a, l4, l5, l6] st v x ↔ vE 137 117 [l0, l1, l2, .int a, l4, l5, l6] (.int a :: st) v x := vE_s rfl rfl
theorem q137_117 : vE 137 117 [l0, l1, l2, l3, .int a, l5, l6] st v x ↔ vE 137 119 [l0, l1, l2, l3, .int a, l5, l6] (.int a :: st) v x := vE_s rfl rfl
theorem q137_119 : vE 137 119 [l0, l1, l2, l3, l4, l5, l6] (w2 :: w1 :: w0 :: st) v x ↔ ∃ y : vm_Y, vE 136 0 [w0, w1, w2] [] v y ∧ vB 137 119 [l0, l1, l2, l3, l4, l5, l6] st y x := vE_cv rfl rfl rfl rfl
theorem q137_122 : vE 137 122 [l0, l1, l2, l3, l4, l5, l6] st v x ↔ vE 137 175 [l0, l1, l2, l3, l4, l5, l6] st v x := vE_s rfl rfl
theorem q137_125 : vE 137 125 [l0, l1, .int a, l3, l4, l5, l6] st v x ↔ vE 137 126 [l0, l1, .int a, l3, l4, l5, l6] (.int a :: st) v x := vE_s rfl rfl
theorem q137_126 : vE 137 126 [l0, l1, l2, l3, l4, l5, l6] st v x ↔ vE 137 128 [l0, l1, l2, l3, l4, l5, l6] (.int 8 :: st) v x := vE_s rfl (by rfl)
theorem q137_128 : vE 137 128 [l0, l1, l2, l3, l4, l5, l6] (.int b :: .int a :: st) v x ↔ if a = b then vE 137 131 [l0, l1, l2, l3, l4, l5, l6] st v x else vE 137 145 [l0, l1, l2, l3, l4, l5, l6] st v x := vE_if rfl rfl
theorem q137_131 : vE 137 131 [.ref p, l1, l2, l3, l4, l5, l6] st v x ↔ vE 137 132 [.ref p, l1, l2, l3, l4, l5, l6] (.ref p :: st) v x := vE_s rfl rfl
theorem q137_132 : vE 137 132 [l0, l1, l2, .int a, l4, l5, l6] st v x ↔ vE 137 133 [l0, l1, l2, .int a, l4, l5, l6] (.int a :: st) v x := vE_s rfl rfl
theorem q137_133 : vE 137 133 [.ref p, l1, l2, l3, l4, l5, l6] st v x ↔ vE 137 134 [.ref p, l1, l2, l3, l4, l5, l6] (.ref p :: st) v x := vE_s rfl rfl
theorem q137_134 : vE 137 134 [l0, l1, l2, l3, .int a, l5, l6] st v x ↔ vE 137 136 [l0, l1, l2, l3, .int a, l5, l6] (.int a :: st) v x := vE_s rfl rfl
theorem q137_136 : vE 137 136 [l0, l1, l2, l3, l4, l5, l6] (w1 :: w0 :: st) v x ↔ ∃ y : vm_Y, vE 140 0 [w0, w1] [] v y ∧ vB 137 136 [l0, l1, l2, l3, l4, l5, l6] st y x := vE_cv rfl rfl rfl rfl
theorem q137_139 : vE 137 139 [l0, l1, l2, l3, l4, l5, l6] (w2 :: w1 :: w0 :: st) v x ↔ ∃ y : vm_Y, vE 136 0 [w0, w1, w2] [] v y ∧ vB 137 139 [l0, l1, l2, l3, l4, l5, l6] st y x := vE_cv rfl rfl rfl rfl
theorem q137_142 : vE 137 142 [l0, l1, l2, l3, l4, l5, l6] st v x ↔ vE 137 175 [l0, l1, l2, l3, l4, l5, l6] st v x := vE_s rfl rfl
theorem q137_145 : vE 137 145 [l0, l1, .int a, l3, l4, l5, l6] st v x ↔ vE 137 146 [l0, l1, .int a, l3, l4, l5, l6] (.int a :: st) v x := vE_s rfl rfl
theorem q137_146 : vE 137 146 [l0, l1, l2, l3, l4, l5, l6] st v x ↔ vE 137 148 [l0, l1, l2, l3, l4, l5, l6] (.int 9 :: st) v x := vE_s rfl (by rfl)
theorem q137_148 : vE 137 148 [l0, l1, l2, l3, l4, l5, l6] (.int b :: .int a :: st) v x ↔ if a = b then vE 137 151 [l0, l1, l2, l3, l4, l5, l6] st v x else vE 137 162 [l0, l1, l2, l3, l4, l5, l6] st v x := vE_if rfl rfl
theorem q137_151 : vE 137 151 [.ref p, l1, l2, l3, l4, l5, l6] st v x ↔ vE 137 152 [.ref p, l1, l2, l3, l4, l5, l6] (.ref p :: st) v x := vE_s rfl rfl
theorem q137_152 : vE 137 152 [l0, l1, l2, l3, .int a, l5, l6] st v x ↔ vE 137 154 [l0, l1, l2, l3, .int a, l5, l6] (.int a :: st) v x := vE_s rfl rfl
theorem q137_154 : vE 137 154 [l0, l1, l2, l3, l4, .int a, l6] st v x ↔ vE 137 156 [l0, l1, l2, l3, l4, .int a, l6] (.int a :: st) v x := vE_s rfl rfl
theorem q137_156 : vE 137 156 [l0, l1, l2, l3, l4, l5, l6] (w2 :: w1 :: w0 :: st) v x ↔ ∃ y : vm_Y, vE 141 0 [w0, w1, w2] [] v y ∧ vB 137 156 [l0, l1, l2, l3, l4, l5, l6] st y x := vE_cv rfl rfl rfl rfl
theorem q137_159 : vE 137 159 [l0, l1, l2, l3, l4, l5, l6] st v x ↔ vE 137 175 [l0, l1, l2, l3, l4, l5, l6] st v x := vE_s rfl rfl
theorem q137_162 : vE 137 162 [.ref p, l1, l2, l3, l4, l5, l6] st v x ↔ vE 137 163 [.ref p, l1, l2, l3, l4, l5, l6] (.ref p :: st) v x := vE_s rfl rfl
theorem q137_163 : vE 137 163 [l0, l1, l2, .int a, l4, l5, l6] st v x ↔ vE 137 164 [l0, l1, l2, .int a, l4, l5, l6] (.int a :: st) v x := vE_s rfl rfl
theorem q137_164 : vE 137 164 [l0, l1, .int a, l3, l4, l5, l6] st v x ↔ vE 137 165 [l0, l1, .int a, l3, l4, l5, l6] (.int a :: st) v x := vE_s rfl rfl
theorem q137_165 : vE 137 165 [l0, l1, l2, l3, .int a, l5, l6] st v x ↔ vE 137 167 [l0, l1, l2, l3, .int a, l5, l6] (.int a :: st) v x := vE_s rfl rfl
theorem q137_167 : vE 137 167 [l0, l1, l2, l3, l4, .int a, l6] st v x ↔ vE 137 169 [l0, l1, l2, l3, l4, .int a, l6] (.int a :: st) v x := vE_s rfl rfl
theorem q137_169 : vE 137 169 [l0, l1, l2, l3, l4, l5, l6] (w2 :: w1 :: w0 :: st) v x ↔ ∃ y : vm_Y, vE 54 0 [w0, w1, w2] [] v y ∧ vB 137 169 [l0, l1, l2, l3, l4, l5, l6] st y x := vE_cs rfl rfl rfl rfl
theorem q137_172 : vE 137 172 [l0, l1, l2, l3, l4, l5, l6] (w2 :: w1 :: w0 :: st) v x ↔ ∃ y : vm_Y, vE 136 0 [w0, w1, w2] [] v y ∧ vB 137 172 [l0, l1, l2, l3, l4, l5, l6] st y x := vE_cv rfl rfl rfl rfl
theorem q137_175 : vE 137 175 [.ref p, l1, l2, l3, l4, l5, l6] st v x ↔ vE 137 176 [.ref p, l1, l2, l3, l4, l5, l6] (.ref p :: st) v x := vE_s rfl rfl
theorem q137_176 : vE 137 176 [l0, l1, l2, l3, l4, l5, l6] (.ref p :: st) v x ↔ vE 137 177 [l0, l1, l2, l3, l4, l5, l6] (.ref p :: .ref p :: st) v x := vE_s rfl rfl
theorem q137_177 : vE 137 177 [l0, l1, l2, l3, l4, l5, l6] (.ref p :: st) v x ↔ vE 137 180 [l0, l1, l2, l3, l4, l5, l6] (.int (v.1 p 3) :: st) v x := vE_s rfl rfl
theorem q137_180 : vE 137 180 [l0, l1, l2, l3, l4, l5, l6] st v x ↔ vE 137 181 [l0, l1, l2, l3, l4, l5, l6] (.int 1 :: st) v x := vE_s rfl (by rfl)
theorem q137_181 : vE 137 181 [l0, l1, l2, l3, l4, l5, l6] (.int b :: .int a :: st) v x ↔ vE 137 182 [l0, l1, l2, l3, l4, l5, l6] (.int (a + b) :: st) v x := vE_s rfl rfl
theorem q137_182 : vE 137 182 [l0, l1, l2, l3, l4, l5, l6] (.int a :: .ref p :: st) v x ↔ vE 137 185 [l0, l1, l2, l3, l4, l5, l6] st (vm_si v p 3 a) x := vE_s rfl rfl
theorem q137_185 : vE 137 185 [.ref p, l1, l2, l3, l4, l5, l6] st v x ↔ vE 137 186 [.ref p, l1, l2, l3, l4, l5, l6] (.ref p :: st) v x := vE_s rfl rfl
theorem q137_186 : vE 137 186 [l0, l1, l2, l3, l4, l5, l6] (.ref p :: st) v x ↔ vE 137 187 [l0, l1, l2, l3, l4, l5, l6] (.ref p :: .ref p :: st) v x := vE_s rfl rfl
theorem q137_187 : vE 137 187 [l0, l1, l2, l3, l4, l5, l6] (.ref p :: st) v x ↔ vE 137 190 [l0, l1, l2, l3, l4, l5, l6] (.int (v.1 p 4) :: st) v x := vE_s rfl rfl
theorem q137_190 : vE 137 190 [l0, l1, l2, l3, l4, l5, l6] st v x ↔ vE 137 191 [l0, l1, l2, l3, l4, l5, l6] (.int 1 :: st) v x := vE_s rfl (by rfl)
theorem q137_191 : vE 137 191 [l0, l1, l2, l3, l4, l5, l6] (.int b :: .int a :: st) v x ↔ vE 137 192 [l0, l1, l2, l3, l4, l5, l6] (.int (a + b) :: st) v x := vE_s rfl rfl
theorem q137_192 : vE 137 192 [l0, l1, l2, l3, l4, l5, l6] (.int a :: .ref p :: st) v x ↔ vE 137 195 [l0, l1, l2, l3, l4, l5, l6] st (vm_si v p 4 a) x := vE_s rfl rfl
theorem q137_195 : vE 137 195 [l0, l1, l2, l3, l4, l5, l6] st v x ↔ vE 137 196 [l0, l1, l2, l3, l4, l5, l6] (.int 0 :: st) v x := vE_s rfl (by rfl)
theorem q137_196 : vE 137 196 [l0, l1, l2, l3, l4, l5, l6] ([.int a]) v x ↔ x = vr a v := vE_ir rfl
theorem qt137 {X pc : Nat} {L r : List Value} : vB 137 pc L r (vt X v) x ↔ x = vt X v := vB_t rfl
/-! 138 PassChecker$Machine.valueIn(I)I -/
theorem q138_0 : vE 138 0 [l0, .int a] st v x ↔ vE 138 1 [l0, .int a] (.int a :: st) v x := vE_s rfl rfl
theorem q138_1 : vE 138 1 [l0, l1] (w0 :: st) v x ↔ ∃ y : vm_Y, vE 28 0 [w0] [] v y ∧ vB 138 1 [l0, l1] st y x := vE_cs rfl rfl rfl rfl
theorem q138_4 : vE 138 4 [l0, l1] (.int a :: st) v x ↔ if a = 0 then vE 138 16 [l0, l1] st v x else vE 138 7 [l0, l1] st v x := vE_if rfl rfl
theorem q138_7 : vE 138 7 [.ref p, l1] st v x ↔ vE 138 8 [.ref p, l1] (.ref p :: st) v x := vE_s rfl rfl
theorem q138_8 : vE 138 8 [l0, l1] (.ref p :: st) v x ↔ vE 138 11 [l0, l1] (.ref (p + 1) :: st) v x := vE_s rfl rfl
theorem q138_11 : vE 138 11 [l0, .int a] st v x ↔ vE 138 12 [l0, .int a] (.int a :: st) v x := vE_s rfl rfl
theorem q138_12 : vE 138 12 [l0, l1] (.int a :: .ref p :: st) v x ↔ vE 138 13 [l0, l1] (.int (v.1 p a.toNatClampNeg) :: st) v x := vE_s rfl rfl
theorem q138_13 : vE 138 13 [l0, l1] st v x ↔ vE 138 17 [l0, l1] st v x := vE_s rfl rfl
theorem q138_16 : vE 138 16 [l0, l1] st v x ↔ vE 138 17 [l0, l1] (.int 0 :: st) v x := vE_s rfl (by rfl)
theorem q138_17 : vE 138 17 [l0, l1] ([.int a]) v x ↔ x = vr a v := vE_ir rfl
theorem qt138 {X pc : Nat} {L r : List Value} : vB 138 pc L r (vt X v) x ↔ x = vt X v := vB_t rfl
/-! 139 PassChecker$Machine.trapOf(III)I -/
theorem q139_0 : vE 139 0 [l0, .int a, l2, l3] st v x ↔ vE 139 1 [l0, .int a, l2, l3] (.int a :: st) v x := vE_s rfl rfl
theorem q139_1 : vE 139 1 [l0, l1, l2, .int a] st v x ↔ vE 139 2 [l0, l1, l2, .int a] (.int a :: st) v x := vE_s rfl rfl
theorem q139_2 : vE 139 2 [l0, l1, l2, l3] (w1 :: w0 :: st) v x ↔ ∃ y : vm_Y, vE 53 0 [w0, w1] [] v y ∧ vB 139 2 [l0, l1, l2, l3] st y x := vE_cs rfl rfl rfl rfl
theorem q139_5 : vE 139 5 [l0, l1, l2, l3] (.int a :: st) v x ↔ if a = 0 then vE 139 10 [l0, l1, l2, l3] st v x else vE 139 8 [l0, l1, l2, l3] st v x := vE_if rfl rfl
theorem q139_8 : vE 139 8 [l0, l1, l2, l3] st v x ↔ vE 139 9 [l0, l1, l2, l3] (.int 2 :: st) v x := vE_s rfl (by rfl)
theorem q139_9 : vE 139 9 [l0, l1, l2, l3] ([.int a]) v x ↔ x = vr a v := vE_ir rfl
theorem q139_10 : vE 139 10 [l0, .int a, l2, l3] st v x ↔ vE 139 11 [l0, .int a, l2, l3] (.int a :: st) v x := vE_s rfl rfl
theorem q139_11 : vE 139 11 [l0, l1, l2, l3] st v x ↔ vE 139 13 [l0, l1, l2, l3] (.int 8 :: st) v x := vE_s rfl (by rfl)
theorem q139_13 : vE 139 13 [l0, l1, l2, l3] (.int b :: .int a :: st) v x ↔ if a = b then vE 139 16 [l0, l1, l2, l3] st v x else vE 139 25 [l0, l1, l2, l3] st v x := vE_if rfl rfl
theorem q139_16 : vE 139 16 [l0, l1, .int a, l3] st v x ↔ vE 139 17 [l0, l1, .int a, l3] (.int a :: st) v x := vE_s rfl rfl
theorem q139_17 : vE 139 17 [l0, l1, l2, l3] (w0 :: st) v x ↔ ∃ y : vm_Y, vE 99 0 [w0] [] v y ∧ vB 139 17 [l0, l1, l2, l3] st y x := vE_cs rfl rfl rfl rfl
theorem q139_20 : vE 139 20 [l0, l1, l2, l3] (.int a :: st) v x ↔ if a = 0 then vE 139 23 [l0, l1, l2, l3] st v x else vE 139 25 [l0, l1, l2, l3] st v x := vE_if rfl rfl
theorem q139_23 : vE 139 23 [l0, l1, l2, l3] st v x ↔ vE 139 24 [l0, l1, l2, l3] (.int 3 :: st) v x := vE_s rfl (by rfl)
theorem q139_24 : vE 139 24 [l0, l1, l2, l3] ([.int a]) v x ↔ x = vr a v := vE_ir rfl
theorem q139_25 : vE 139 25 [l0, .int a, l2, l3] st v x ↔ vE 139 26 [l0, .int a, l2, l3] (.int a :: st) v x := vE_s rfl rfl
theorem q139_26 : vE 139 26 [l0, l1, l2, l3] st v x ↔ vE 139 28 [l0, l1, l2, l3] (.int 9 :: st) v x := vE_s rfl (by rfl)
theorem q139_28 : vE 139 28 [l0, l1, l2, l3] (.int b :: .int a :: st) v x ↔ if a = b then vE 139 31 [l0, l1, l2, l3] st v x else vE 139 42 [l0, l1, l2, l3] st v x := vE_if rfl rfl
theorem q139_31 : vE 139 31 [l0, l1, .int a, l3] st v x ↔ vE 139 32 [l0, l1, .int a, l3] (.int a :: st) v x := vE_s rfl rfl
theorem q139_32 : vE 139 32 [l0, l1, l2, l3] (w0 :: st) v x ↔ ∃ y : vm_Y, vE 99 0 [w0] [] v y ∧ vB 139 32 [l0, l1, l2, l3] st y x := vE_cs rfl rfl rfl rfl
theorem q139_35 : vE 139 35 [l0, l1, l2, l3] (.int a :: st) v x ↔ if a = 0 then vE 139 38 [l0, l1, l2, l3] st v x else vE 139 42 [l0, l1, l2, l3] st v x := vE_if rfl rfl
theorem q139_38 : vE 139 38 [l0, l1, l2, l3] st v x ↔ vE 139 39 [l0, l1, l2, l3] (.int 4 :: st) v x := vE_s rfl (by rfl)
theorem q139_39 : vE 139 39 [l0, l1, l2, l3] st v x ↔ vE 139 43 [l0, l1, l2, l3] st v x := vE_s rfl rfl
theorem q139_42 : vE 139 42 [l0, l1, l2, l3] st v x ↔ vE 139 43 [l0, l1, l2, l3] (.int 0 :: st) v x := vE_s rfl (by rfl)
theorem q139_43 : vE 139 43 [l0, l1, l2, l3] ([.int a]) v x ↔ x = vr a v := vE_ir rfl
theorem qt139 {X pc : Nat} {L r : List Value} : vB 139 pc L r (vt X v) x ↔ x = vt X v := vB_t rfl
/-! 140 PassChecker$Machine.wordAt(I)I -/
theorem q140_0 : vE 140 0 [l0, .int a] st v x ↔ vE 140 1 [l0, .int a] (.int a :: st) v x := vE_s rfl rfl
theorem q140_1 : vE 140 1 [l0, l1] (w0 :: st) v x ↔ ∃ y : vm_Y, vE 99 0 [w0] [] v y ∧ vB 140 1 [l0, l1] st y x := vE_cs rfl rfl rfl rfl
theorem q140_4 : vE 140 4 [l0, l1] (.int a :: st) v x ↔ if a = 0 then vE 140 16 [l0, l1] st v x else vE 140 7 [l0, l1] st v x := vE_if rfl rfl
theorem q140_7 : vE 140 7 [.ref p, l1] st v x ↔ vE 140 8 [.ref p, l1] (.ref p :: st) v x := vE_s rfl rfl
theorem q140_8 : vE 140 8 [l0, l1] (.ref p :: st) v x ↔ vE 140 11 [l0, l1] (.ref (p + 2) :: st) v x := vE_s rfl rfl
theorem q140_11 : vE 140 11 [l0, .int a] st v x ↔ vE 140 12 [l0, .int a] (.int a :: st) v x := vE_s rfl rfl
theorem q140_12 : vE 140 12 [l0, l1] (.int a :: .ref p :: st) v x ↔ vE 140 13 [l0, l1] (.int (v.1 p a.toNatClampNeg) :: st) v x := vE_s rfl rfl
theorem q140_13 : vE 140 13 [l0, l1] st v x ↔ vE 140 17 [l0, l1] st v x := vE_s rfl rfl
theorem q140_16 : vE 140 16 [l0, l1] st v x ↔ vE 140 17 [l0, l1] (.int 0 :: st) v x := vE_s rfl (by rfl)
theorem q140_17 : vE 140 17 [l0, l1] ([.int a]) v x ↔ x = vr a v := vE_ir rfl
theorem qt140 {X pc : Nat} {L r : List Value} : vB 140 pc L r (vt X v) x ↔ x = vt X v := vB_t rfl
/-! 141 PassChecker$Machine.store(II)V -/
theorem q141_0 : vE 141 0 [l0, .int a, l2] st v x ↔ vE 141 1 [l0, .int a, l2] (.int a :: st) v x := vE_s rfl rfl
theorem q141_1 : vE 141 1 [l0, l1, l2] (w0 :: st) v x ↔ ∃ y : vm_Y, vE 99 0 [w0] [] v y ∧ vB 141 1 [l0, l1, l2] st y x := vE_cs rfl rfl rfl rfl
theorem q141_4 : vE 141 4 [l0, l1, l2] (.int a :: st) v x ↔ if a = 0 then vE 141 14 [l0, l1, l2] st v x else vE 141 7 [l0, l1, l2] st v x := vE_if rfl rfl
theorem q141_7 : vE 141 7 [.ref p, l1, l2] st v x ↔ vE 141 8 [.ref p, l1, l2] (.ref p :: st) v x := vE_s rfl rfl
theorem q141_8 : vE 141 8 [l0, l1, l2] (.ref p :: st) v x ↔ vE 141 11 [l0, l1, l2] (.ref (p + 2) :: st) v x := vE_s rfl rfl
theorem q141_11 : vE 141 11 [l0, .int a, l2] st v x ↔ vE 141 12 [l0, .int a, l2] (.int a :: st) v x := vE_s rfl rfl
theorem q141_12 : vE 141 12 [l0, l1, .int a] st v x ↔ vE 141 13 [l0, l1, .int a] (.int a :: st) v x := vE_s rfl rfl
theorem q141_13 : vE 141 13 [l0, l1, l2] (.int b :: .int a :: .ref p :: st) v x ↔ vE 141 14 [l0, l1, l2] st (vm_si v p a.toNatClampNeg b) x := vE_s rfl rfl
theorem q141_14 : vE 141 14 [l0, l1, l2] [] v x ↔ x = vd v := vE_vr rfl
theorem qt141 {X pc : Nat} {L r : List Value} : vB 141 pc L r (vt X v) x ↔ x = vt X v := vB_t rfl
/-! 142 PassChecker$Machine.doEnd(LPassChecker$Program;)I -/
theorem q142_0 : vE 142 0 [l0, .ref p, l2, l3] st v x ↔ vE 142 1 [l0, .ref p, l2, l3] (.ref p :: st) v x := vE_s rfl rfl
theorem q142_1 : vE 142 1 [.ref p, l1, l2, l3] st v x ↔ vE 142 2 [.ref p, l1, l2, l3] (.ref p :: st) v x := vE_s rfl rfl
theorem q142_2 : vE 142 2 [l0, l1, l2, l3] (.ref p :: st) v x ↔ vE 142 5 [l0, l1, l2, l3] (.int (v.1 p 2) :: st) v x := vE_s rfl rfl
theorem q142_5 : vE 142 5 [l0, l1, l2, l3] st v x ↔ vE 142 6 [l0, l1, l2, l3] (.int 0 :: st) v x := vE_s rfl (by rfl)
theorem q142_6 : vE 142 6 [l0, l1, l2, l3] (w2 :: w1 :: w0 :: st) v x ↔ ∃ y : vm_Y, vE 56 0 [w0, w1, w2] [] v y ∧ vB 142 6 [l0, l1, l2, l3] st y x := vE_cv rfl rfl rfl rfl
theorem q142_9 : vE 142 9 [l0, l1, l2, l3] (.int a :: st) v x ↔ vE 142 10 [l0, l1, .int a, l3] st v x := vE_s rfl rfl
theorem q142_10 : vE 142 10 [.ref p, l1, l2, l3] st v x ↔ vE 142 11 [.ref p, l1, l2, l3] (.ref p :: st) v x := vE_s rfl rfl
theorem q142_11 : vE 142 11 [l0, .ref p, l2, l3] st v x ↔ vE 142 12 [l0, .ref p, l2, l3] (.ref p :: st) v x := vE_s rfl rfl
theorem q142_12 : vE 142 12 [.ref p, l1, l2, l3] st v x ↔ vE 142 13 [.ref p, l1, l2, l3] (.ref p :: st) v x := vE_s rfl rfl
theorem q142_13 : vE 142 13 [l0, l1, l2, l3] (.ref p :: st) v x ↔ vE 142 16 [l0, l1, l2, l3] (.int (v.1 p 2) :: st) v x := vE_s rfl rfl
theorem q142_16 : vE 142 16 [l0, l1, l2, l3] st v x ↔ vE 142 17 [l0, l1, l2, l3] (.int 1 :: st) v x := vE_s rfl (by rfl)
theorem q142_17 : vE 142 17 [l0, l1, l2, l3] (w2 :: w1 :: w0 :: st) v x ↔ ∃ y : vm_Y, vE 56 0 [w0, w1, w2] [] v y ∧ vB 142 17 [l0, l1, l2, l3] st y x := vE_cv rfl rfl rfl rfl
theorem q142_20 : vE 142 20 [l0, l1, l2, l3] (w1 :: w0 :: st) v x ↔ ∃ y : vm_Y, vE 138 0 [w0, w1] [] v y ∧ vB 142 20 [l0, l1, l2, l3] st y x := vE_cv rfl rfl rfl rfl
theorem q142_23 : vE 142 23 [l0, l1, l2, l3] (.int a :: st) v x ↔ vE 142 24 [l0, l1, l2, .int a] st v x := vE_s rfl rfl
theorem q142_24 : vE 142 24 [.ref p, l1, l2, l3] st v x ↔ vE 142 25 [.ref p, l1, l2, l3] (.ref p :: st) v x := vE_s rfl rfl
theorem q142_25 : vE 142 25 [l0, l1, l2, l3] (.ref p :: st) v x ↔ vE 142 26 [l0, l1, l2, l3] (.ref p :: .ref p :: st) v x := vE_s rfl rfl
theorem q142_26 : vE 142 26 [l0, l1, l2, l3] (.ref p :: st) v x ↔ vE 142 29 [l0, l1, l2, l3] (.int (v.1 p 4) :: st) v x := vE_s rfl rfl
theorem q142_29 : vE 142 29 [l0, l1, l2, l3] st v x ↔ vE 142 30 [l0, l1, l2, l3] (.int 1 :: st) v x := vE_s rfl (by rfl)
theorem q142_30 : vE 142 30 [l0, l1, l2, l3] (.int b :: .int a :: st) v x ↔ vE 142 31 [l0, l1, l2, l3] (.int (a + b) :: st) v x := vE_s rfl rfl
theorem q142_31 : vE 142 31 [l0, l1, l2, l3] (.int a :: .ref p :: st) v x ↔ vE 142 34 [l0, l1, l2, l3] st (vm_si v p 4 a) x := vE_s rfl rfl
theorem q142_34 : vE 142 34 [l0, l1, .int a, l3] st v x ↔ vE 142 35 [l0, l1, .int a, l3] (.int a :: st) v x := vE_s rfl rfl
theorem q142_35 : vE 142 35 [l0, l1, l2, l3] st v x ↔ vE 142 36 [l0, l1, l2, l3] (.int 2 :: st) v x := vE_s rfl (by rfl)
theorem q142_36 : vE 142 36 [l0, l1, l2, l3] (.int b :: .int a :: st) v x ↔ if a = b then vE 142 39 [l0, l1, l2, l3] st v x else vE 142 46 [l0, l1, l2, l3] st v x := vE_if rfl rfl
theorem q142_39 : vE 142 39 [.ref p, l1, l2, l3] st v x ↔ vE 142 40 [.ref p, l1, l2, l3] (.ref p :: st) v x := vE_s rfl rfl
theorem q142_40 : vE 142 40 [l0, l1, l2, .int a] st v x ↔ vE 142 41 [l0, l1, l2, .int a] (.int a :: st) v x := vE_s rfl rfl
theorem q142_41 : vE 142 41 [l0, l1, l2, l3] (.int a :: .ref p :: st) v x ↔ vE 142 44 [l0, l1, l2, l3] st (vm_si v p 5 a) x := vE_s rfl rfl
theorem q142_44 : vE 142 44 [l0, l1, l2, l3] st v x ↔ vE 142 45 [l0, l1, l2, l3] (.int 1 :: st) v x := vE_s rfl (by rfl)
theorem q142_45 : vE 142 45 [l0, l1, l2, l3] ([.int a]) v x ↔ x = vr a v := vE_ir rfl
theorem q142_46 : vE 142 46 [.ref p, l1, l2, l3] st v x ↔ vE 142 47 [.ref p, l1, l2, l3] (.ref p :: st) v x := vE_s rfl rfl
theorem q142_47 : vE 142 47 [l0, l1, .int a, l3] st v x ↔ vE 142 48 [l0, l1, .int a, l3] (.int a :: st) v x := vE_s rfl rfl
theorem q142_48 : vE 142 48 [l0, l1, l2, l3] st v x ↔ vE 142 49 [l0, l1, l2, l3] (.int 1 :: st) v x := vE_s rfl (by rfl)
theorem q142_49 : vE 142 49 [l0, l1, l2, l3] (.int b :: .int a :: st) v x ↔ if a = b then vE 142 52 [l0, l1, l2, l3] st v x else vE 142 68 [l0, l1, l2, l3] st v x := vE_if rfl rfl
theorem q142_52 : vE 142 52 [l0, l1, l2, .int a] st v x ↔ vE 142 53 [l0, l1, l2, .int a] (.int a :: st) v x := vE_s rfl rfl
theorem q142_53 : vE 142 53 [l0, l1, l2, l3] (.int a :: st) v x ↔ if a = 0 then vE 142 56 [l0, l1, l2, l3] st v x else vE 142 68 [l0, l1, l2, l3] st v x := vE_if rfl rfl
theorem q142_56 : vE 142 56 [l0, .ref p, l2, l3] st v x ↔ vE 142 57 [l0, .ref p, l2, l3] (.ref p :: st) v x := vE_s rfl rfl
theorem q142_57 : vE 142 57 [.ref p, l1, l2, l3] st v x ↔ vE 142 58 [.ref p, l1, l2, l3] (.ref p :: st) v x := vE_s rfl rfl
theorem q142_58 : vE 142 58 [l0, l1, l2, l3] (.ref p :: st) v x ↔ vE 142 61 [l0, l1, l2, l3] (.int (v.1 p 2) :: st) v x := vE_s rfl rfl
theorem q142_61 : vE 142 61 [l0, l1, l2, l3] st v x ↔ vE 142 62 [l0, l1, l2, l3] (.int 3 :: st) v x := vE_s rfl (by rfl)
theorem q142_62 : vE 142 62 [l0, l1, l2, l3] (w2 :: w1 :: w0 :: st) v x ↔ ∃ y : vm_Y, vE 56 0 [w0, w1, w2] [] v y ∧ vB 142 62 [l0, l1, l2, l3] st y x := vE_cv rfl rfl rfl rfl
theorem q142_65 : vE 142 65 [l0, l1, l2, l3] st v x ↔ vE 142 77 [l0, l1, l2, l3] st v x := vE_s rfl rfl
theorem q142_68 : vE 142 68 [l0, .ref p, l2, l3] st v x ↔ vE 142 69 [l0, .ref p, l2, l3] (.ref p :: st) v x := vE_s rfl rfl
theorem q142_69 : vE 142 69 [.ref p, l1, l2, l3] st v x ↔ vE 142 70 [.ref p, l1, l2, l3] (.ref p :: st) v x := vE_s rfl rfl
theorem q142_70 : vE 142 70 [l0, l1, l2, l3] (.ref p :: st) v x ↔ vE 142 73 [l0, l1, l2, l3] (.int (v.1 p 2) :: st) v x := vE_s rfl rfl
theorem q142_73 : vE 142 73 [l0, l1, l2, l3] st v x ↔ vE 142 74 [l0, l1, l2, l3] (.int 2 :: st) v x := vE_s rfl (by rfl)
theorem q142_74 : vE 142 74 [l0, l1, l2, l3] (w2 :: w1 :: w0 :: st) v x ↔ ∃ y : vm_Y, vE 56 0 [w0, w1, w2] [] v y ∧ vB 142 74 [l0, l1, l2, l3] st y x := vE_cv rfl rfl rfl rfl
theorem q142_77 : vE 142 77 [l0, l1, l2, l3] (.int a :: .ref p :: st) v x ↔ vE 142 80 [l0, l1, l2, l3] st (vm_si v p 2 a) x := vE_s rfl rfl
theorem q142_80 : vE 142 80 [.ref p, l1, l2, l3] st v x ↔ vE 142 81 [.ref p, l1, l2, l3] (.ref p :: st) v x := vE_s rfl rfl
theorem q142_81 : vE 142 81 [l0, l1, l2, l3] st v x ↔ vE 142 82 [l0, l1, l2, l3] (.int 0 :: st) v x := vE_s rfl (by rfl)
theorem q142_82 : vE 142 82 [l0, l1, l2, l3] (.int a :: .ref p :: st) v x ↔ vE 142 85 [l0, l1, l2, l3] st (vm_si v p 3 a) x := vE_s rfl rfl
theorem q142_85 : vE 142 85 [l0, l1, l2, l3] st v x ↔ vE 142 86 [l0, l1, l2, l3] (.int 0 :: st) v x := vE_s rfl (by rfl)
theorem q142_86 : vE 142 86 [l0, l1, l2, l3] ([.int a]) v x ↔ x = vr a v := vE_ir rfl
theorem qt142 {X pc : Nat} {L r : List Value} : vB 142 pc L r (vt X v) x ↔ x = vt X v := vB_t rfl
/-! 143 PassCheckerLaw.word(LPassChecker;I[J)I -/
theorem q143_0 : vE 143 0 [l0, l1, .ref p, l3] st v x ↔ vE 143 1 [l0, l1, .ref p, l3] (.ref p :: st) v x := vE_s rfl rfl
theorem q143_1 : vE 143 1 [l0, l1, l2, l3] st v x ↔ vE 143 2 [l0, l1, l2, l3] (.int 0 :: st) v x := vE_s rfl (by rfl)
theorem q143_2 : vE 143 2 [.ref p, l1, l2, l3] st v x ↔ vE 143 3 [.ref p, l1, l2, l3] (.ref p :: st) v x := vE_s rfl rfl
theorem q143_3 : vE 143 3 [l0, .int a, l2, l3] st v x ↔ vE 143 4 [l0, .int a, l2, l3] (.int a :: st) v x := vE_s rfl rfl
theorem q143_4 : vE 143 4 [l0, l1, l2, l3] (w1 :: w0 :: st) v x ↔ ∃ y : vm_Y, vE 144 0 [w0, w1] [] v y ∧ vB 143 4 [l0, l1, l2, l3] st y x := vE_cv rfl rfl rfl rfl
theorem q143_7 : vE 143 7 [l0, l1, l2, l3] (.int a :: st) v x ↔ vE 143 8 [l0, l1, l2, l3] (.long a.toInt64 :: st) v x := vE_s rfl rfl
theorem q143_8 : vE 143 8 [l0, l1, l2, l3] (.long w :: .int a :: .ref p :: st) v x ↔ vE 143 9 [l0, l1, l2, l3] st (vm_sl v p a.toNatClampNeg w) x := vE_s rfl rfl
theorem q143_9 : vE 143 9 [l0, l1, l2, l3] st v x ↔ vE 143 15 [l0, l1, l2, l3] st v x := vE_s rfl rfl
theorem q143_12 : vE 143 12 [l0, l1, l2, l3] (.ref p :: st) v x ↔ vE 143 13 [l0, l1, l2, .ref p] st v x := vE_s rfl rfl
theorem q143_13 : vE 143 13 [l0, l1, l2, l3] st v x ↔ vE 143 14 [l0, l1, l2, l3] (.int 1 :: st) v x := vE_s rfl (by rfl)
theorem q143_14 : vE 143 14 [l0, l1, l2, l3] ([.int a]) v x ↔ x = vr a v := vE_ir rfl
theorem q143_15 : vE 143 15 [l0, l1, l2, l3] st v x ↔ vE 143 16 [l0, l1, l2, l3] (.int 0 :: st) v x := vE_s rfl (by rfl)
theorem q143_16 : vE 143 16 [l0, l1, l2, l3] ([.int a]) v x ↔ x = vr a v := vE_ir rfl
theorem qh143_4_10 {L r : List Value} : vB 143 4 L r (vt 10 v) x ↔ vE 143 12 L [.ref v.2.2.1] (vm_nx v) x := vB_h rfl
/-! 144 PassChecker.word(I)I -/
theorem q144_0 : vE 144 0 [l0, .int a] st v x ↔ vE 144 1 [l0, .int a] (.int a :: st) v x := vE_s rfl rfl
theorem q144_1 : vE 144 1 [l0, l1] (w0 :: st) v x ↔ ∃ y : vm_Y, vE 99 0 [w0] [] v y ∧ vB 144 1 [l0, l1] st y x := vE_cs rfl rfl rfl rfl
theorem q144_4 : vE 144 4 [l0, l1] (.int a :: st) v x ↔ if a = 0 then vE 144 7 [l0, l1] st v x else vE 144 17 [l0, l1] st v x := vE_if rfl rfl
theorem q144_7 : vE 144 7 [l0, l1] st v x ↔ x = vt 10 v := vE_new rfl rfl
theorem q144_10 : vE 144 10 [l0, l1] (.ref p :: st) v x ↔ vE 144 11 [l0, l1] (.ref p :: .ref p :: st) v x := vE_s rfl rfl
theorem q144_17 : vE 144 17 [.ref p, l1] st v x ↔ vE 144 18 [.ref p, l1] (.ref p :: st) v x := vE_s rfl rfl
theorem q144_18 : vE 144 18 [l0, l1] (.ref p :: st) v x ↔ vE 144 21 [l0, l1] (.ref (p + 59) :: st) v x := vE_s rfl rfl
theorem q144_21 : vE 144 21 [l0, .int a] st v x ↔ vE 144 22 [l0, .int a] (.int a :: st) v x := vE_s rfl rfl
theorem q144_22 : vE 144 22 [l0, l1] (w1 :: w0 :: st) v x ↔ ∃ y : vm_Y, vE 140 0 [w0, w1] [] v y ∧ vB 144 22 [l0, l1] st y x := vE_cv rfl rfl rfl rfl
theorem q144_25 : vE 144 25 [l0, l1] ([.int a]) v x ↔ x = vr a v := vE_ir rfl
theorem qt144 {X pc : Nat} {L r : List Value} : vB 144 pc L r (vt X v) x ↔ x = vt X v := vB_t rfl
/-! 80 java/util/Arrays.fill([II)V -/
theorem q80_0 : vE 80 0 [l0, l1, l2, l3] st v x ↔ vE 80 1 [l0, l1, l2, l3] (.int 0 :: st) v x := vE_s rfl (by rfl)
theorem q80_1 : vE 80 1 [l0, l1, l2, l3] (.int a :: st) v x ↔ vE 80 2 [l0, l1, .int a, l3] st v x := vE_s rfl rfl
theorem q80_2 : vE 80 2 [.ref p, l1, l2, l3] st v x ↔ vE 80 3 [.ref p, l1, l2, l3] (.ref p :: st) v x := vE_s rfl rfl
theorem q80_3 : vE 80 3 [l0, l1, l2, l3] (.ref p :: st) v x ↔ vE 80 4 [l0, l1, l2, l3] (.int (Int32.ofNat (v.2.2.2 p)) :: st) v x := vE_s rfl rfl
theorem q80_4 : vE 80 4 [l0, l1, l2, l3] (.int a :: st) v x ↔ vE 80 5 [l0, l1, l2, .int a] st v x := vE_s rfl rfl
theorem q80_5 : vE 80 5 [l0, l1, .int a, l3] st v x ↔ vE 80 6 [l0, l1, .int a, l3] (.int a :: st) v x := vE_s rfl rfl
theorem q80_6 : vE 80 6 [l0, l1, l2, .int a] st v x ↔ vE 80 7 [l0, l1, l2, .int a] (.int a :: st) v x := vE_s rfl rfl
theorem q80_7 : vE 80 7 [l0, l1, l2, l3] (.int b :: .int a :: st) v x ↔ if b ≤ a then vE 80 20 [l0, l1, l2, l3] st v x else vE 80 10 [l0, l1, l2, l3] st v x := vE_if rfl rfl
theorem q80_10 : vE 80 10 [.ref p, l1, l2, l3] st v x ↔ vE 80 11 [.ref p, l1, l2, l3] (.ref p :: st) v x := vE_s rfl rfl
theorem q80_11 : vE 80 11 [l0, l1, .int a, l3] st v x ↔ vE 80 12 [l0, l1, .int a, l3] (.int a :: st) v x := vE_s rfl rfl
theorem q80_12 : vE 80 12 [l0, .int a, l2, l3] st v x ↔ vE 80 13 [l0, .int a, l2, l3] (.int a :: st) v x := vE_s rfl rfl
theorem q80_13 : vE 80 13 [l0, l1, l2, l3] (.int b :: .int a :: .ref p :: st) v x ↔ vE 80 14 [l0, l1, l2, l3] st (vm_si v p a.toNatClampNeg b) x := vE_s rfl rfl
theorem q80_14 : vE 80 14 [l0, l1, .int a, l3] st v x ↔ vE 80 17 [l0, l1, .int (a + 1), l3] st v x := vE_s rfl rfl
theorem q80_17 : vE 80 17 [l0, l1, l2, l3] st v x ↔ vE 80 5 [l0, l1, l2, l3] st v x := vE_s rfl rfl
theorem q80_20 : vE 80 20 [l0, l1, l2, l3] [] v x ↔ x = vd v := vE_vr rfl
/-! 99 PassChecker.isWord(I)Z -/
theorem q99_0 : vE 99 0 [.int a] st v x ↔ vE 99 1 [.int a] (.int a :: st) v x := vE_s rfl rfl
theorem q99_1 : vE 99 1 [l0] (.int a :: st) v x ↔ if a < 0 then vE 99 14 [l0] st v x else vE 99 4 [l0] st v x := vE_if rfl rfl
theorem q99_4 : vE 99 4 [.int a] st v x ↔ vE 99 5 [.int a] (.int a :: st) v x := vE_s rfl rfl
theorem q99_5 : vE 99 5 [l0] st v x ↔ vE 99 7 [l0] (.int 8 :: st) v x := vE_s rfl (by rfl)
theorem q99_7 : vE 99 7 [l0] (.int b :: .int a :: st) v x ↔ if b ≤ a then vE 99 14 [l0] st v x else vE 99 10 [l0] st v x := vE_if rfl rfl
theorem q99_10 : vE 99 10 [l0] st v x ↔ vE 99 11 [l0] (.int 1 :: st) v x := vE_s rfl (by rfl)
theorem q99_11 : vE 99 11 [l0] st v x ↔ vE 99 15 [l0] st v x := vE_s rfl rfl
theorem q99_14 : vE 99 14 [l0] st v x ↔ vE 99 15 [l0] (.int 0 :: st) v x := vE_s rfl (by rfl)
theorem q99_15 : vE 99 15 [l0] ([.int a]) v x ↔ x = vr a v := vE_ir rfl
end QD
