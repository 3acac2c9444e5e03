section QB
variable {l0 l1 l2 l3 l4 l5 l6 l7 l8 l9 l10 w0 w1 w2 w3 w4 w5 w6 w7 : Value} {st : List Value} {v : vm_V} {x : vm_Y} {a b c : Int32} {p q : Nat} {u w : Int64}
/-! 10 PassChecker.take()V -/
theorem q10_0 : vE 10 0 [.ref p] st v x ↔ vE 10 1 [.ref p] (.ref p :: st) v x := vE_s rfl rfl
theorem q10_1 : vE 10 1 [l0] st v x ↔ vE 10 2 [l0] (.int 0 :: st) v x := vE_s rfl (by rfl)
theorem q10_2 : vE 10 2 [l0] (.int a :: .ref p :: st) v x ↔ vE 10 5 [l0] st (vm_si v p 7 a) x := vE_s rfl rfl
theorem q10_5 : vE 10 5 [.ref p] st v x ↔ vE 10 6 [.ref p] (.ref p :: st) v x := vE_s rfl rfl
theorem q10_6 : vE 10 6 [l0] (.ref p :: st) v x ↔ vE 10 9 [l0] (.ref (p + 1) :: st) v x := vE_s rfl rfl
theorem q10_9 : vE 10 9 [.ref p] st v x ↔ vE 10 10 [.ref p] (.ref p :: st) v x := vE_s rfl rfl
theorem q10_10 : vE 10 10 [l0] (.ref p :: st) v x ↔ vE 10 13 [l0] (.ref (p + 5) :: st) v x := vE_s rfl rfl
theorem q10_13 : vE 10 13 [l0] (w1 :: w0 :: st) v x ↔ ∃ y : vm_Y, vE 11 0 [w0, w1] [] v y ∧ vB 10 13 [l0] st y x := vE_cv rfl rfl rfl rfl
theorem q10_16 : vE 10 16 [l0] [] v x ↔ x = vd v := vE_vr rfl
theorem qt10 {X pc : Nat} {L r : List Value} : vB 10 pc L r (vt X v) x ↔ x = vt X v := vB_t rfl
/-! 11 PassChecker$Program.copyFrom(LPassChecker$Program;)V -/
theorem q11_0 : vE 11 0 [l0, .ref p] st v x ↔ vE 11 1 [l0, .ref p] (.ref p :: st) v x := vE_s rfl rfl
theorem q11_1 : vE 11 1 [l0, l1] (.ref p :: st) v x ↔ vE 11 4 [l0, l1] (.ref (p + 1) :: st) v x := vE_s rfl rfl
theorem q11_4 : vE 11 4 [l0, l1] st v x ↔ vE 11 5 [l0, l1] (.int 0 :: st) v x := vE_s rfl (by rfl)
theorem q11_5 : vE 11 5 [.ref p, l1] st v x ↔ vE 11 6 [.ref p, l1] (.ref p :: st) v x := vE_s rfl rfl
theorem q11_6 : vE 11 6 [l0, l1] (.ref p :: st) v x ↔ vE 11 9 [l0, l1] (.ref (p + 1) :: st) v x := vE_s rfl rfl
theorem q11_9 : vE 11 9 [l0, l1] st v x ↔ vE 11 10 [l0, l1] (.int 0 :: st) v x := vE_s rfl (by rfl)
theorem q11_10 : vE 11 10 [l0, l1] st v x ↔ vE 11 13 [l0, l1] (.int 192 :: st) v x := vE_s rfl (by rfl)
theorem q11_13 : vE 11 13 [l0, l1] (.int a :: .int b :: .ref p :: .int c :: .ref q :: st) v x ↔ vE 11 16 [l0, l1] st (vm_cp v a.toNatClampNeg b.toNatClampNeg p c.toNatClampNeg q) x := vE_ac rfl rfl
theorem q11_16 : vE 11 16 [l0, .ref p] st v x ↔ vE 11 17 [l0, .ref p] (.ref p :: st) v x := vE_s rfl rfl
theorem q11_17 : vE 11 17 [l0, l1] (.ref p :: st) v x ↔ vE 11 20 [l0, l1] (.ref (p + 2) :: st) v x := vE_s rfl rfl
theorem q11_20 : vE 11 20 [l0, l1] st v x ↔ vE 11 21 [l0, l1] (.int 0 :: st) v x := vE_s rfl (by rfl)
theorem q11_21 : vE 11 21 [.ref p, l1] st v x ↔ vE 11 22 [.ref p, l1] (.ref p :: st) v x := vE_s rfl rfl
theorem q11_22 : vE 11 22 [l0, l1] (.ref p :: st) v x ↔ vE 11 25 [l0, l1] (.ref (p + 2) :: st) v x := vE_s rfl rfl
theorem q11_25 : vE 11 25 [l0, l1] st v x ↔ vE 11 26 [l0, l1] (.int 0 :: st) v x := vE_s rfl (by rfl)
theorem q11_26 : vE 11 26 [l0, l1] st v x ↔ vE 11 28 [l0, l1] (.int 24 :: st) v x := vE_s rfl (by rfl)
theorem q11_28 : vE 11 28 [l0, l1] (.int a :: .int b :: .ref p :: .int c :: .ref q :: st) v x ↔ vE 11 31 [l0, l1] st (vm_cp v a.toNatClampNeg b.toNatClampNeg p c.toNatClampNeg q) x := vE_ac rfl rfl
theorem q11_31 : vE 11 31 [l0, .ref p] st v x ↔ vE 11 32 [l0, .ref p] (.ref p :: st) v x := vE_s rfl rfl
theorem q11_32 : vE 11 32 [l0, l1] (.ref p :: st) v x ↔ vE 11 35 [l0, l1] (.ref (p + 3) :: st) v x := vE_s rfl rfl
theorem q11_35 : vE 11 35 [l0, l1] st v x ↔ vE 11 36 [l0, l1] (.int 0 :: st) v x := vE_s rfl (by rfl)
theorem q11_36 : vE 11 36 [.ref p, l1] st v x ↔ vE 11 37 [.ref p, l1] (.ref p :: st) v x := vE_s rfl rfl
theorem q11_37 : vE 11 37 [l0, l1] (.ref p :: st) v x ↔ vE 11 40 [l0, l1] (.ref (p + 3) :: st) v x := vE_s rfl rfl
theorem q11_40 : vE 11 40 [l0, l1] st v x ↔ vE 11 41 [l0, l1] (.int 0 :: st) v x := vE_s rfl (by rfl)
theorem q11_41 : vE 11 41 [l0, l1] st v x ↔ vE 11 43 [l0, l1] (.int 6 :: st) v x := vE_s rfl (by rfl)
theorem q11_43 : vE 11 43 [l0, l1] (.int a :: .int b :: .ref p :: .int c :: .ref q :: st) v x ↔ vE 11 46 [l0, l1] st (vm_cp v a.toNatClampNeg b.toNatClampNeg p c.toNatClampNeg q) x := vE_ac rfl rfl
theorem q11_46 : vE 11 46 [.ref p, l1] st v x ↔ vE 11 47 [.ref p, l1] (.ref p :: st) v x := vE_s rfl rfl
theorem q11_47 : vE 11 47 [l0, .ref p] st v x ↔ vE 11 48 [l0, .ref p] (.ref p :: st) v x := vE_s rfl rfl
theorem q11_48 : vE 11 48 [l0, l1] (.ref p :: st) v x ↔ vE 11 51 [l0, l1] (.int (v.1 p 3) :: st) v x := vE_s rfl rfl
theorem q11_51 : vE 11 51 [l0, l1] (.int a :: .ref p :: st) v x ↔ vE 11 54 [l0, l1] st (vm_si v p 3 a) x := vE_s rfl rfl
theorem q11_54 : vE 11 54 [l0, l1] [] v x ↔ x = vd v := vE_vr rfl
theorem qt11 {X pc : Nat} {L r : List Value} : vB 11 pc L r (vt X v) x ↔ x = vt X v := vB_t rfl
/-! 12 PassChecker.returned()I -/
theorem q12_0 : vE 12 0 [.ref p] st v x ↔ vE 12 1 [.ref p] (.ref p :: st) v x := vE_s rfl rfl
theorem q12_1 : vE 12 1 [l0] (.ref p :: st) v x ↔ vE 12 4 [l0] (.ref (p + 59) :: st) v x := vE_s rfl rfl
theorem q12_4 : vE 12 4 [l0] (w0 :: st) v x ↔ ∃ y : vm_Y, vE 13 0 [w0] [] v y ∧ vB 12 4 [l0] st y x := vE_cv rfl rfl rfl rfl
theorem q12_7 : vE 12 7 [l0] ([.int a]) v x ↔ x = vr a v := vE_ir rfl
theorem qt12 {X pc : Nat} {L r : List Value} : vB 12 pc L r (vt X v) x ↔ x = vt X v := vB_t rfl
/-! 13 PassChecker$Machine.result()I -/
theorem q13_0 : vE 13 0 [.ref p] st v x ↔ vE 13 1 [.ref p] (.ref p :: st) v x := vE_s rfl rfl
theorem q13_1 : vE 13 1 [l0] (.ref p :: st) v x ↔ vE 13 4 [l0] (.int (v.1 p 5) :: st) v x := vE_s rfl rfl
theorem q13_4 : vE 13 4 [l0] ([.int a]) v x ↔ x = vr a v := vE_ir rfl
/-! 14 PassChecker.steps()I -/
theorem q14_0 : vE 14 0 [.ref p] st v x ↔ vE 14 1 [.ref p] (.ref p :: st) v x := vE_s rfl rfl
theorem q14_1 : vE 14 1 [l0] (.ref p :: st) v x ↔ vE 14 4 [l0] (.ref (p + 59) :: st) v x := vE_s rfl rfl
theorem q14_4 : vE 14 4 [l0] (w0 :: st) v x ↔ ∃ y : vm_Y, vE 15 0 [w0] [] v y ∧ vB 14 4 [l0] st y x := vE_cv rfl rfl rfl rfl
theorem q14_7 : vE 14 7 [l0] ([.int a]) v x ↔ x = vr a v := vE_ir rfl
theorem qt14 {X pc : Nat} {L r : List Value} : vB 14 pc L r (vt X v) x ↔ x = vt X v := vB_t rfl
/-! 15 PassChecker$Machine.stepsDone()I -/
theorem q15_0 : vE 15 0 [.ref p] st v x ↔ vE 15 1 [.ref p] (.ref p :: st) v x := vE_s rfl rfl
theorem q15_1 : vE 15 1 [l0] (.ref p :: st) v x ↔ vE 15 4 [l0] (.int (v.1 p 4) :: st) v x := vE_s rfl rfl
theorem q15_4 : vE 15 4 [l0] ([.int a]) v x ↔ x = vr a v := vE_ir rfl
/-! 16 PassCheckerLaw.block(LPassChecker;I[J)I -/
theorem q16_0 : vE 16 0 [l0, l1, .ref p, l3] st v x ↔ vE 16 1 [l0, l1, .ref p, l3] (.ref p :: st) v x := vE_s rfl rfl
theorem q16_1 : vE 16 1 [l0, l1, l2, l3] st v x ↔ vE 16 2 [l0, l1, l2, l3] (.int 0 :: st) v x := vE_s rfl (by rfl)
theorem q16_2 : vE 16 2 [.ref p, l1, l2, l3] st v x ↔ vE 16 3 [.ref p, l1, l2, l3] (.ref p :: st) v x := vE_s rfl rfl
theorem q16_3 : vE 16 3 [l0, .int a, l2, l3] st v x ↔ vE 16 4 [l0, .int a, l2, l3] (.int a :: st) v x := vE_s rfl rfl
theorem q16_4 : vE 16 4 [l0, l1, l2, l3] (w1 :: w0 :: st) v x ↔ ∃ y : vm_Y, vE 17 0 [w0, w1, .retAddr 0] [] v y ∧ vB 16 4 [l0, l1, l2, l3] st y x := vE_cv rfl rfl rfl rfl
theorem q16_7 : vE 16 7 [l0, l1, l2, l3] (.int a :: st) v x ↔ vE 16 8 [l0, l1, l2, l3] (.long a.toInt64 :: st) v x := vE_s rfl rfl
theorem q16_8 : vE 16 8 [l0, l1, l2, l3] (.long w :: .int a :: .ref p :: st) v x ↔ vE 16 9 [l0, l1, l2, l3] st (vm_sl v p a.toNatClampNeg w) x := vE_s rfl rfl
theorem q16_9 : vE 16 9 [l0, l1, l2, l3] st v x ↔ vE 16 18 [l0, l1, l2, l3] st v x := vE_s rfl rfl
theorem q16_12 : vE 16 12 [l0, l1, l2, l3] (.ref p :: st) v x ↔ vE 16 13 [l0, l1, l2, .ref p] st v x := vE_s rfl rfl
theorem q16_13 : vE 16 13 [l0, l1, l2, l3] st v x ↔ vE 16 14 [l0, l1, l2, l3] (.int 1 :: st) v x := vE_s rfl (by rfl)
theorem q16_14 : vE 16 14 [l0, l1, l2, l3] ([.int a]) v x ↔ x = vr a v := vE_ir rfl
theorem q16_15 : vE 16 15 [l0, l1, l2, l3] (.ref p :: st) v x ↔ vE 16 16 [l0, l1, l2, .ref p] st v x := vE_s rfl rfl
theorem q16_16 : vE 16 16 [l0, l1, l2, l3] st v x ↔ vE 16 17 [l0, l1, l2, l3] (.int 2 :: st) v x := vE_s rfl (by rfl)
theorem q16_17 : vE 16 17 [l0, l1, l2, l3] ([.int a]) v x ↔ x = vr a v := vE_ir rfl
theorem q16_18 : vE 16 18 [l0, l1, l2, l3] st v x ↔ vE 16 19 [l0, l1, l2, l3] (.int 0 :: st) v x := vE_s rfl (by rfl)
theorem q16_19 : vE 16 19 [l0, l1, l2, l3] ([.int a]) v x ↔ x = vr a v := vE_ir rfl
theorem qh16_4_10 {L r : List Value} : vB 16 4 L r (vt 10 v) x ↔ vE 16 12 L [.ref v.2.2.1] (vm_nx v) x := vB_h rfl
theorem qh16_4_11 {L r : List Value} : vB 16 4 L r (vt 11 v) x ↔ vE 16 15 L [.ref v.2.2.1] (vm_nx v) x := vB_h rfl
/-! 17 PassChecker.block(I)I -/
theorem q17_0 : vE 17 0 [.ref p, l1, l2] st v x ↔ vE 17 1 [.ref p, l1, l2] (.ref p :: st) v x := vE_s rfl rfl
theorem q17_1 : vE 17 1 [l0, .int a, l2] st v x ↔ vE 17 2 [l0, .int a, l2] (.int a :: st) v x := vE_s rfl rfl
theorem q17_2 : vE 17 2 [l0, l1, l2] (w1 :: w0 :: st) v x ↔ ∃ y : vm_Y, vE 18 0 [w0, w1] [] v y ∧ vB 17 2 [l0, l1, l2] st y x := vE_cv rfl rfl rfl rfl
theorem q17_5 : vE 17 5 [l0, l1, l2] (.ref p :: st) v x ↔ vE 17 6 [l0, l1, .ref p] st v x := vE_s rfl rfl
theorem q17_6 : vE 17 6 [l0, l1, .ref p] st v x ↔ vE 17 7 [l0, l1, .ref p] (.ref p :: st) v x := vE_s rfl rfl
theorem q17_7 : vE 17 7 [l0, l1, l2] (w0 :: st) v x ↔ ∃ y : vm_Y, vE 19 0 [w0] [] v y ∧ vB 17 7 [l0, l1, l2] st y x := vE_cv rfl rfl rfl rfl
theorem q17_10 : vE 17 10 [l0, l1, l2] (.int a :: st) v x ↔ if a = 0 then vE 17 23 [l0, l1, l2] st v x else vE 17 13 [l0, l1, l2] st v x := vE_if rfl rfl
theorem q17_13 : vE 17 13 [l0, l1, l2] st v x ↔ x = vt 11 v := vE_new rfl rfl
theorem q17_16 : vE 17 16 [l0, l1, l2] (.ref p :: st) v x ↔ vE 17 17 [l0, l1, l2] (.ref p :: .ref p :: st) v x := vE_s rfl rfl
theorem q17_23 : vE 17 23 [.ref p, l1, l2] st v x ↔ vE 17 24 [.ref p, l1, l2] (.ref p :: st) v x := vE_s rfl rfl
theorem q17_24 : vE 17 24 [l0, l1, l2] st v x ↔ vE 17 25 [l0, l1, l2] (.int 0 :: st) v x := vE_s rfl (by rfl)
theorem q17_25 : vE 17 25 [l0, l1, l2] (.int a :: .ref p :: st) v x ↔ vE 17 28 [l0, l1, l2] st (vm_si v p 7 a) x := vE_s rfl rfl
theorem q17_28 : vE 17 28 [l0, l1, .ref p] st v x ↔ vE 17 29 [l0, l1, .ref p] (.ref p :: st) v x := vE_s rfl rfl
theorem q17_29 : vE 17 29 [l0, l1, l2] (w0 :: st) v x ↔ ∃ y : vm_Y, vE 20 0 [w0, .retAddr 0] [] v y ∧ vB 17 29 [l0, l1, l2] st y x := vE_cv rfl rfl rfl rfl
theorem q17_32 : vE 17 32 [l0, l1, l2] ([.int a]) v x ↔ x = vr a v := vE_ir rfl
theorem qt17 {X pc : Nat} {L r : List Value} : vB 17 pc L r (vt X v) x ↔ x = vt X v := vB_t rfl
/-! 23 PassCheckerLaw.code(LPassChecker;IIIIII[J)I -/
theorem q23_0 : vE 23 0 [l0, l1, l2, l3, l4, l5, l6, .ref p, l8] st v x ↔ vE 23 2 [l0, l1, l2, l3, l4, l5, l6, .ref p, l8] (.ref p :: st) v x := vE_s rfl rfl
theorem q23_2 : vE 23 2 [l0, l1, l2, l3, l4, l5, l6, l7, l8] st v x ↔ vE 23 3 [l0, l1, l2, l3, l4, l5, l6, l7, l8] (.int 0 :: st) v x := vE_s rfl (by rfl)
theorem q23_3 : vE 23 3 [.ref p, l1, l2, l3, l4, l5, l6, l7, l8] st v x ↔ vE 23 4 [.ref p, l1, l2, l3, l4, l5, l6, l7, l8] (.ref p :: st) v x := vE_s rfl rfl
theorem q23_4 : vE 23 4 [l0, .int a, l2, l3, l4, l5, l6, l7, l8] st v x ↔ vE 23 5 [l0, .int a, l2, l3, l4, l5, l6, l7, l8] (.int a :: st) v x := vE_s rfl rfl
theorem q23_5 : vE 23 5 [l0, l1, .int a, l3, l4, l5, l6, l7, l8] st v x ↔ vE 23 6 [l0, l1, .int a, l3, l4, l5, l6, l7, l8] (.int a :: st) v x := vE_s rfl rfl
theorem q23_6 : vE 23 6 [l0, l1, l2, .int a, l4, l5, l6, l7, l8] st v x ↔ vE 23 7 [l0, l1, l2, .int a, l4, l5, l6, l7, l8] (.int a :: st) v x := vE_s rfl rfl
theorem q23_7 : vE 23 7 [l0, l1, l2, l3, .int a, l5, l6, l7, l8] st v x ↔ vE 23 9 [l0, l1, l2, l3, .int a, l5, l6, l7, l8] (.int a :: st) v x := vE_s rfl rfl
theorem q23_9 : vE 23 9 [l0, l1, l2, l3, l4, .int a, l6, l7, l8] st v x ↔ vE 23 11 [l0, l1, l2, l3, l4, .int a, l6, l7, l8] (.int a :: st) v x := vE_s rfl rfl
theorem q23_11 : vE 23 11 [l0, l1, l2, l3, l4, l5, .int a, l7, l8] st v x ↔ vE 23 13 [l0, l1, l2, l3, l4, l5, .int a, l7, l8] (.int a :: st) v x := vE_s rfl rfl
theorem q23_13 : vE 23 13 [l0, l1, l2, l3, l4, l5, l6, l7, l8] (w6 :: w5 :: w4 :: w3 :: w2 :: w1 :: w0 :: st) v x ↔ ∃ y : vm_Y, vE 24 0 [w0, w1, w2, w3, w4, w5, w6, .retAddr 0, .retAddr 0] [] v y ∧ vB 23 13 [l0, l1, l2, l3, l4, l5, l6, l7, l8] st y x := vE_cv rfl rfl rfl rfl
theorem q23_16 : vE 23 16 [l0, l1, l2, l3, l4, l5, l6, l7, l8] (.int a :: st) v x ↔ vE 23 17 [l0, l1, l2, l3, l4, l5, l6, l7, l8] (.long a.toInt64 :: st) v x := vE_s rfl rfl
theorem q23_17 : vE 23 17 [l0, l1, l2, l3, l4, l5, l6, l7, l8] (.long w :: .int a :: .ref p :: st) v x ↔ vE 23 18 [l0, l1, l2, l3, l4, l5, l6, l7, l8] st (vm_sl v p a.toNatClampNeg w) x := vE_s rfl rfl
theorem q23_18 : vE 23 18 [l0, l1, l2, l3, l4, l5, l6, l7, l8] st v x ↔ vE 23 33 [l0, l1, l2, l3, l4, l5, l6, l7, l8] st v x := vE_s rfl rfl
theorem q23_21 : vE 23 21 [l0, l1, l2, l3, l4, l5, l6, l7, l8] (.ref p :: st) v x ↔ vE 23 23 [l0, l1, l2, l3, l4, l5, l6, l7, .ref p] st v x := vE_s rfl rfl
theorem q23_23 : vE 23 23 [l0, l1, l2, l3, l4, l5, l6, l7, l8] st v x ↔ vE 23 24 [l0, l1, l2, l3, l4, l5, l6, l7, l8] (.int 1 :: st) v x := vE_s rfl (by rfl)
theorem q23_24 : vE 23 24 [l0, l1, l2, l3, l4, l5, l6, l7, l8] ([.int a]) v x ↔ x = vr a v := vE_ir rfl
theorem q23_25 : vE 23 25 [l0, l1, l2, l3, l4, l5, l6, l7, l8] (.ref p :: st) v x ↔ vE 23 27 [l0, l1, l2, l3, l4, l5, l6, l7, .ref p] st v x := vE_s rfl rfl
theorem q23_27 : vE 23 27 [l0, l1, l2, l3, l4, l5, l6, l7, l8] st v x ↔ vE 23 28 [l0, l1, l2, l3, l4, l5, l6, l7, l8] (.int 2 :: st) v x := vE_s rfl (by rfl)
theorem q23_28 : vE 23 28 [l0, l1, l2, l3, l4, l5, l6, l7, l8] ([.int a]) v x ↔ x = vr a v := vE_ir rfl
theorem q23_29 : vE 23 29 [l0, l1, l2, l3, l4, l5, l6, l7, l8] (.ref p :: st) v x ↔ vE 23 31 [l0, l1, l2, l3, l4, l5, l6, l7, .ref p] st v x := vE_s rfl rfl
theorem q23_31 : vE 23 31 [l0, l1, l2, l3, l4, l5, l6, l7, l8] st v x ↔ vE 23 32 [l0, l1, l2, l3, l4, l5, l6, l7, l8] (.int 3 :: st) v x := vE_s rfl (by rfl)
theorem q23_32 : vE 23 32 [l0, l1, l2, l3, l4, l5, l6, l7, l8] ([.int a]) v x ↔ x = vr a v := vE_ir rfl
theorem q23_33 : vE 23 33 [l0, l1, l2, l3, l4, l5, l6, l7, l8] st v x ↔ vE 23 34 [l0, l1, l2, l3, l4, l5, l6, l7, l8] (.int 0 :: st) v x := vE_s rfl (by rfl)
theorem q23_34 : vE 23 34 [l0, l1, l2, l3, l4, l5, l6, l7, l8] ([.int a]) v x ↔ x = vr a v := vE_ir rfl
theorem qh23_13_10 {L r : List Value} : vB 23 13 L r (vt 10 v) x ↔ vE 23 21 L [.ref v.2.2.1] (vm_nx v) x := vB_h rfl
theorem qh23_13_12 {L r : List Value} : vB 23 13 L r (vt 12 v) x ↔ vE 23 25 L [.ref v.2.2.1] (vm_nx v) x := vB_h rfl
theorem qh23_13_11 {L r : List Value} : vB 23 13 L r (vt 11 v) x ↔ vE 23 29 L [.ref v.2.2.1] (vm_nx v) x := vB_h rfl
/-! 24 PassChecker.code(IIIIII)I -/
theorem q24_0 : vE 24 0 [.ref p, l1, l2, l3, l4, l5, l6, l7, l8] st v x ↔ vE 24 1 [.ref p, l1, l2, l3, l4, l5, l6, l7, l8] (.ref p :: st) v x := vE_s rfl rfl
theorem q24_1 : vE 24 1 [l0, .int a, l2, l3, l4, l5, l6, l7, l8] st v x ↔ vE 24 2 [l0, .int a, l2, l3, l4, l5, l6, l7, l8] (.int a :: st) v x := vE_s rfl rfl
theorem q24_2 : vE 24 2 [l0, l1, l2, l3, l4, l5, l6, l7, l8] (w1 :: w0 :: st) v x ↔ ∃ y : vm_Y, vE 18 0 [w0, w1] [] v y ∧ vB 24 2 [l0, l1, l2, l3, l4, l5, l6, l7, l8] st y x := vE_cv rfl rfl rfl rfl
theorem q24_5 : vE 24 5 [l0, l1, l2, l3, l4, l5, l6, l7, l8] (.ref p :: st) v x ↔ vE 24 7 [l0, l1, l2, l3, l4, l5, l6, .ref p, l8] st v x := vE_s rfl rfl
theorem q24_7 : vE 24 7 [l0, l1, l2, l3, l4, l5, l6, .ref p, l8] st v x ↔ vE 24 9 [l0, l1, l2, l3, l4, l5, l6, .ref p, l8] (.ref p :: st) v x := vE_s rfl rfl
theorem q24_9 : vE 24 9 [l0, l1, .int a, l3, l4, l5, l6, l7, l8] st v x ↔ vE 24 10 [l0, l1, .int a, l3, l4, l5, l6, l7, l8] (.int a :: st) v x := vE_s rfl rfl
theorem q24_10 : vE 24 10 [l0, l1, l2, l3, l4, l5, l6, l7, l8] (w1 :: w0 :: st) v x ↔ ∃ y : vm_Y, vE 25 0 [w0, w1] [] v y ∧ vB 24 10 [l0, l1, l2, l3, l4, l5, l6, l7, l8] st y x := vE_cs rfl rfl rfl rfl
theorem q24_13 : vE 24 13 [l0, l1, l2, .int a, l4, l5, l6, l7, l8] st v x ↔ vE 24 14 [l0, l1, l2, .int a, l4, l5, l6, l7, l8] (.int a :: st) v x := vE_s rfl rfl
theorem q24_14 : vE 24 14 [l0, l1, l2, l3, l4, l5, l6, l7, l8] (.int a :: st) v x ↔ if a < 0 then vE 24 23 [l0, l1, l2, l3, l4, l5, l6, l7, l8] st v x else vE 24 17 [l0, l1, l2, l3, l4, l5, l6, l7, l8] st v x := vE_if rfl rfl
theorem q24_17 : vE 24 17 [l0, l1, l2, .int a, l4, l5, l6, l7, l8] st v x ↔ vE 24 18 [l0, l1, l2, .int a, l4, l5, l6, l7, l8] (.int a :: st) v x := vE_s rfl rfl
theorem q24_18 : vE 24 18 [l0, l1, l2, l3, l4, l5, l6, l7, l8] st v x ↔ vE 24 20 [l0, l1, l2, l3, l4, l5, l6, l7, l8] (.int 9 :: st) v x := vE_s rfl (by rfl)
theorem q24_20 : vE 24 20 [l0, l1, l2, l3, l4, l5, l6, l7, l8] (.int b :: .int a :: st) v x ↔ if a ≤ b then vE 24 33 [l0, l1, l2, l3, l4, l5, l6, l7, l8] st v x else vE 24 23 [l0, l1, l2, l3, l4, l5, l6, l7, l8] st v x := vE_if rfl rfl
theorem q24_23 : vE 24 23 [l0, l1, l2, l3, l4, l5, l6, l7, l8] st v x ↔ x = vt 12 v := vE_new rfl rfl
theorem q24_26 : vE 24 26 [l0, l1, l2, l3, l4, l5, l6, l7, l8] (.ref p :: st) v x ↔ vE 24 27 [l0, l1, l2, l3, l4, l5, l6, l7, l8] (.ref p :: .ref p :: st) v x := vE_s rfl rfl
theorem q24_33 : vE 24 33 [l0, l1, l2, .int a, l4, l5, l6, l7, l8] st v x ↔ vE 24 34 [l0, l1, l2, .int a, l4, l5, l6, l7, l8] (.int a :: st) v x := vE_s rfl rfl
theorem q24_34 : vE 24 34 [l0, l1, l2, l3, l4, l5, l6, l7, l8] (w0 :: st) v x ↔ ∃ y : vm_Y, vE 26 0 [w0] [] v y ∧ vB 24 34 [l0, l1, l2, l3, l4, l5, l6, l7, l8] st y x := vE_cs rfl rfl rfl rfl
theorem q24_37 : vE 24 37 [l0, l1, l2, l3, .int a, l5, l6, l7, l8] st v x ↔ vE 24 39 [l0, l1, l2, l3, .int a, l5, l6, l7, l8] (.int a :: st) v x := vE_s rfl rfl
theorem q24_39 : vE 24 39 [l0, l1, l2, l3, l4, l5, l6, l7, l8] (w1 :: w0 :: st) v x ↔ ∃ y : vm_Y, vE 27 0 [w0, w1] [] v y ∧ vB 24 39 [l0, l1, l2, l3, l4, l5, l6, l7, l8] st y x := vE_cs rfl rfl rfl rfl
theorem q24_42 : vE 24 42 [l0, l1, l2, .int a, l4, l5, l6, l7, l8] st v x ↔ vE 24 43 [l0, l1, l2, .int a, l4, l5, l6, l7, l8] (.int a :: st) v x := vE_s rfl rfl
theorem q24_43 : vE 24 43 [l0, l1, l2, l3, l4, l5, l6, l7, l8] (w0 :: st) v x ↔ ∃ y : vm_Y, vE 29 0 [w0] [] v y ∧ vB 24 43 [l0, l1, l2, l3, l4, l5, l6, l7, l8] st y x := vE_cs rfl rfl rfl rfl
theorem q24_46 : vE 24 46 [l0, l1, l2, l3, l4, .int a, l6, l7, l8] st v x ↔ vE 24 48 [l0, l1, l2, l3, l4, .int a, l6, l7, l8] (.int a :: st) v x := vE_s rfl rfl
theorem q24_48 : vE 24 48 [l0, l1, l2, l3, l4, l5, l6, l7, l8] (w1 :: w0 :: st) v x ↔ ∃ y : vm_Y, vE 27 0 [w0, w1] [] v y ∧ vB 24 48 [l0, l1, l2, l3, l4, l5, l6, l7, l8] st y x := vE_cs rfl rfl rfl rfl
theorem q24_51 : vE 24 51 [l0, l1, l2, .int a, l4, l5, l6, l7, l8] st v x ↔ vE 24 52 [l0, l1, l2, .int a, l4, l5, l6, l7, l8] (.int a :: st) v x := vE_s rfl rfl
theorem q24_52 : vE 24 52 [l0, l1, l2, l3, l4, l5, l6, l7, l8] (w0 :: st) v x ↔ ∃ y : vm_Y, vE 30 0 [w0] [] v y ∧ vB 24 52 [l0, l1, l2, l3, l4, l5, l6, l7, l8] st y x := vE_cs rfl rfl rfl rfl
theorem q24_55 : vE 24 55 [l0, l1, l2, l3, l4, l5, .int a, l7, l8] st v x ↔ vE 24 57 [l0, l1, l2, l3, l4, l5, .int a, l7, l8] (.int a :: st) v x := vE_s rfl rfl
theorem q24_57 : vE 24 57 [l0, l1, l2, l3, l4, l5, l6, l7, l8] (w1 :: w0 :: st) v x ↔ ∃ y : vm_Y, vE 27 0 [w0, w1] [] v y ∧ vB 24 57 [l0, l1, l2, l3, l4, l5, l6, l7, l8] st y x := vE_cs rfl rfl rfl rfl
theorem q24_60 : vE 24 60 [l0, l1, l2, l3, l4, l5, l6, .ref p, l8] st v x ↔ vE 24 62 [l0, l1, l2, l3, l4, l5, l6, .ref p, l8] (.ref p :: st) v x := vE_s rfl rfl
theorem q24_62 : vE 24 62 [l0, l1, .int a, l3, l4, l5, l6, l7, l8] st v x ↔ vE 24 63 [l0, l1, .int a, l3, l4, l5, l6, l7, l8] (.int a :: st) v x := vE_s rfl rfl
theorem q24_63 : vE 24 63 [l0, l1, l2, l3, l4, l5, l6, l7, l8] (w1 :: w0 :: st) v x ↔ ∃ y : vm_Y, vE 31 0 [w0, w1] [] v y ∧ vB 24 63 [l0, l1, l2, l3, l4, l5, l6, l7, l8] st y x := vE_cv rfl rfl rfl rfl
theorem q24_66 : vE 24 66 [l0, l1, l2, l3, l4, l5, l6, l7, l8] st v x ↔ vE 24 68 [l0, l1, l2, l3, l4, l5, l6, l7, l8] (.int 8 :: st) v x := vE_s rfl (by rfl)
theorem q24_68 : vE 24 68 [l0, l1, l2, l3, l4, l5, l6, l7, l8] (.int b :: .int a :: st) v x ↔ if a < b then vE 24 81 [l0, l1, l2, l3, l4, l5, l6, l7, l8] st v x else vE 24 71 [l0, l1, l2, l3, l4, l5, l6, l7, l8] st v x := vE_if rfl rfl
theorem q24_71 : vE 24 71 [l0, l1, l2, l3, l4, l5, l6, l7, l8] st v x ↔ x = vt 11 v := vE_new rfl rfl
theorem q24_74 : vE 24 74 [l0, l1, l2, l3, l4, l5, l6, l7, l8] (.ref p :: st) v x ↔ vE 24 75 [l0, l1, l2, l3, l4, l5, l6, l7, l8] (.ref p :: .ref p :: st) v x := vE_s rfl rfl
theorem q24_81 : vE 24 81 [.ref p, l1, l2, l3, l4, l5, l6, l7, l8] st v x ↔ vE 24 82 [.ref p, l1, l2, l3, l4, l5, l6, l7, l8] (.ref p :: st) v x := vE_s rfl rfl
theorem q24_82 : vE 24 82 [l0, l1, l2, l3, l4, l5, l6, l7, l8] st v x ↔ vE 24 83 [l0, l1, l2, l3, l4, l5, l6, l7, l8] (.int 0 :: st) v x := vE_s rfl (by rfl)
theorem q24_83 : vE 24 83 [l0, l1, l2, l3, l4, l5, l6, l7, l8] (.int a :: .ref p :: st) v x ↔ vE 24 86 [l0, l1, l2, l3, l4, l5, l6, l7, l8] st (vm_si v p 7 a) x := vE_s rfl rfl
theorem q24_86 : vE 24 86 [l0, l1, l2, .int a, l4, l5, l6, l7, l8] st v x ↔ vE 24 87 [l0, l1, l2, .int a, l4, l5, l6, l7, l8] (.int a :: st) v x := vE_s rfl rfl
theorem q24_87 : vE 24 87 [l0, l1, l2, l3, l4, l5, l6, l7, l8] (w0 :: st) v x ↔ ∃ y : vm_Y, vE 30 0 [w0] [] v y ∧ vB 24 87 [l0, l1, l2, l3, l4, l5, l6, l7, l8] st y x := vE_cs rfl rfl rfl rfl
theorem q24_90 : vE 24 90 [l0, l1, l2, l3, l4, l5, l6, l7, l8] (.int a :: st) v x ↔ if a = 0 then vE 24 93 [l0, l1, l2, l3, l4, l5, l6, l7, l8] st v x else vE 24 97 [l0, l1, l2, l3, l4, l5, l6, l7, l8] st v x := vE_if rfl rfl
theorem q24_93 : vE 24 93 [l0, l1, l2, .int a, l4, l5, l6, l7, l8] st v x ↔ vE 24 94 [l0, l1, l2, .int a, l4, l5, l6, l7, l8] (.int a :: st) v x := vE_s rfl rfl
theorem q24_94 : vE 24 94 [l0, l1, l2, l3, l4, l5, l6, l7, l8] (.int a :: st) v x ↔ if a = 0 then vE 24 97 [l0, l1, l2, l3, l4, l5, l6, l7, l8] st v x else vE 24 101 [l0, l1, l2, l3, l4, l5, l6, l7, l8] st v x := vE_if rfl rfl
theorem q24_97 : vE 24 97 [l0, l1, l2, l3, l4, l5, l6, l7, l8] st v x ↔ vE 24 98 [l0, l1, l2, l3, l4, l5, l6, l7, l8] (.int 1 :: st) v x := vE_s rfl (by rfl)
theorem q24_98 : vE 24 98 [l0, l1, l2, l3, l4, l5, l6, l7, l8] st v x ↔ vE 24 102 [l0, l1, l2, l3, l4, l5, l6, l7, l8] st v x := vE_s rfl rfl
theorem q24_101 : vE 24 101 [l0, l1, l2, l3, l4, l5, l6, l7, l8] st v x ↔ vE 24 102 [l0, l1, l2, l3, l4, l5, l6, l7, l8] (.int 0 :: st) v x := vE_s rfl (by rfl)
theorem q24_102 : vE 24 102 [l0, l1, l2, l3, l4, l5, l6, l7, l8] (.int a :: st) v x ↔ vE 24 104 [l0, l1, l2, l3, l4, l5, l6, l7, .int a] st v x := vE_s rfl rfl
theorem q24_104 : vE 24 104 [l0, l1, l2, l3, l4, l5, l6, .ref p, l8] st v x ↔ vE 24 106 [l0, l1, l2, l3, l4, l5, l6, .ref p, l8] (.ref p :: st) v x := vE_s rfl rfl
theorem q24_106 : vE 24 106 [l0, l1, .int a, l3, l4, l5, l6, l7, l8] st v x ↔ vE 24 107 [l0, l1, .int a, l3, l4, l5, l6, l7, l8] (.int a :: st) v x := vE_s rfl rfl
theorem q24_107 : vE 24 107 [l0, l1, l2, .int a, l4, l5, l6, l7, l8] st v x ↔ vE 24 108 [l0, l1, l2, .int a, l4, l5, l6, l7, l8] (.int a :: st) v x := vE_s rfl rfl
theorem q24_108 : vE 24 108 [l0, l1, l2, .int a, l4, l5, l6, l7, l8] st v x ↔ vE 24 109 [l0, l1, l2, .int a, l4, l5, l6, l7, l8] (.int a :: st) v x := vE_s rfl rfl
theorem q24_109 : vE 24 109 [l0, l1, l2, l3, l4, l5, l6, l7, l8] (w0 :: st) v x ↔ ∃ y : vm_Y, vE 26 0 [w0] [] v y ∧ vB 24 109 [l0, l1, l2, l3, l4, l5, l6, l7, l8] st y x := vE_cs rfl rfl rfl rfl
theorem q24_112 : vE 24 112 [l0, l1, l2, l3, l4, l5, l6, l7, l8] (.int a :: st) v x ↔ if a = 0 then vE 24 120 [l0, l1, l2, l3, l4, l5, l6, l7, l8] st v x else vE 24 115 [l0, l1, l2, l3, l4, l5, l6, l7, l8] st v x := vE_if rfl rfl
theorem q24_115 : vE 24 115 [l0, l1, l2, l3, .int a, l5, l6, l7, l8] st v x ↔ vE 24 117 [l0, l1, l2, l3, .int a, l5, l6, l7, l8] (.int a :: st) v x := vE_s rfl rfl
theorem q24_117 : vE 24 117 [l0, l1, l2, l3, l4, l5, l6, l7, l8] st v x ↔ vE 24 121 [l0, l1, l2, l3, l4, l5, l6, l7, l8] st v x := vE_s rfl rfl
theorem q24_120 : vE 24 120 [l0, l1, l2, l3, l4, l5, l6, l7, l8] st v x ↔ vE 24 121 [l0, l1, l2, l3, l4, l5, l6, l7, l8] (.int 0 :: st) v x := vE_s rfl (by rfl)
theorem q24_121 : vE 24 121 [l0, l1, l2, .int a, l4, l5, l6, l7, l8] st v x ↔ vE 24 122 [l0, l1, l2, .int a, l4, l5, l6, l7, l8] (.int a :: st) v x := vE_s rfl rfl
theorem q24_122 : vE 24 122 [l0, l1, l2, l3, l4, l5, l6, l7, l8] (w0 :: st) v x ↔ ∃ y : vm_Y, vE 29 0 [w0] [] v y ∧ vB 24 122 [l0, l1, l2, l3, l4, l5, l6, l7, l8] st y x := vE_cs rfl rfl rfl rfl
theorem q24_125 : vE 24 125 [l0, l1, l2, l3, l4, l5, l6, l7, l8] (.int a :: st) v x ↔ if a = 0 then vE 24 133 [l0, l1, l2, l3, l4, l5, l6, l7, l8] st v x else vE 24 128 [l0, l1, l2, l3, l4, l5, l6, l7, l8] st v x := vE_if rfl rfl
theorem q24_128 : vE 24 128 [l0, l1, l2, l3, l4, .int a, l6, l7, l8] st v x ↔ vE 24 130 [l0, l1, l2, l3, l4, .int a, l6, l7, l8] (.int a :: st) v x := vE_s rfl rfl
theorem q24_130 : vE 24 130 [l0, l1, l2, l3, l4, l5, l6, l7, l8] st v x ↔ vE 24 134 [l0, l1, l2, l3, l4, l5, l6, l7, l8] st v x := vE_s rfl rfl
theorem q24_133 : vE 24 133 [l0, l1, l2, l3, l4, l5, l6, l7, l8] st v x ↔ vE 24 134 [l0, l1, l2, l3, l4, l5, l6, l7, l8] (.int 0 :: st) v x := vE_s rfl (by rfl)
theorem q24_134 : vE 24 134 [l0, l1, l2, l3, l4, l5, l6, l7, .int a] st v x ↔ vE 24 136 [l0, l1, l2, l3, l4, l5, l6, l7, .int a] (.int a :: st) v x := vE_s rfl rfl
theorem q24_136 : vE 24 136 [l0, l1, l2, l3, l4, l5, l6, l7, l8] (.int a :: st) v x ↔ if a = 0 then vE 24 144 [l0, l1, l2, l3, l4, l5, l6, l7, l8] st v x else vE 24 139 [l0, l1, l2, l3, l4, l5, l6, l7, l8] st v x := vE_if rfl rfl
theorem q24_139 : vE 24 139 [l0, l1, l2, l3, l4, l5, .int a, l7, l8] st v x ↔ vE 24 141 [l0, l1, l2, l3, l4, l5, .int a, l7, l8] (.int a :: st) v x := vE_s rfl rfl
theorem q24_141 : vE 24 141 [l0, l1, l2, l3, l4, l5, l6, l7, l8] st v x ↔ vE 24 145 [l0, l1, l2, l3, l4, l5, l6, l7, l8] st v x := vE_s rfl rfl
theorem q24_144 : vE 24 144 [l0, l1, l2, l3, l4, l5, l6, l7, l8] st v x ↔ vE 24 145 [l0, l1, l2, l3, l4, l5, l6, l7, l8] (.int 0 :: st) v x := vE_s rfl (by rfl)
theorem q24_145 : vE 24 145 [l0, l1, l2, l3, l4, l5, l6, l7, l8] (w5 :: w4 :: w3 :: w2 :: w1 :: w0 :: st) v x ↔ ∃ y : vm_Y, vE 32 0 [w0, w1, w2, w3, w4, w5, .retAddr 0] [] v y ∧ vB 24 145 [l0, l1, l2, l3, l4, l5, l6, l7, l8] st y x := vE_cv rfl rfl rfl rfl
theorem q24_148 : vE 24 148 [l0, l1, l2, l3, l4, l5, l6, l7, l8] ([.int a]) v x ↔ x = vr a v := vE_ir rfl
theorem qt24 {X pc : Nat} {L r : List Value} : vB 24 pc L r (vt X v) x ↔ x = vt X v := vB_t rfl
/-! 35 PassCheckerLaw.end(LPassChecker;IIIIII)I -/
theorem q35_0 : vE 35 0 [.ref p, l1, l2, l3, l4, l5, l6, l7] st v x ↔ vE 35 1 [.ref p, l1, l2, l3, l4, l5, l6, l7] (.ref p :: st) v x := vE_s rfl rfl
theorem q35_1 : vE 35 1 [l0, .int a, l2, l3, l4, l5, l6, l7] st v x ↔ vE 35 2 [l0, .int a, l2, l3, l4, l5, l6, l7] (.int a :: st) v x := vE_s rfl rfl
theorem q35_2 : vE 35 2 [l0, l1, .int a, l3, l4, l5, l6, l7] st v x ↔ vE 35 3 [l0, l1, .int a, l3, l4, l5, l6, l7] (.int a :: st) v x := vE_s rfl rfl
theorem q35_3 : vE 35 3 [l0, l1, l2, .int a, l4, l5, l6, l7] st v x ↔ vE 35 4 [l0, l1, l2, .int a, l4, l5, l6, l7] (.int a :: st) v x := vE_s rfl rfl
theorem q35_4 : vE 35 4 [l0, l1, l2, l3, .int a, l5, l6, l7] st v x ↔ vE 35 6 [l0, l1, l2, l3, .int a, l5, l6, l7] (.int a :: st) v x := vE_s rfl rfl
theorem q35_6 : vE 35 6 [l0, l1, l2, l3, l4, .int a, l6, l7] st v x ↔ vE 35 8 [l0, l1, l2, l3, l4, .int a, l6, l7] (.int a :: st) v x := vE_s rfl rfl
theorem q35_8 : vE 35 8 [l0, l1, l2, l3, l4, l5, .int a, l7] st v x ↔ vE 35 10 [l0, l1, l2, l3, l4, l5, .int a, l7] (.int a :: st) v x := vE_s rfl rfl
theorem q35_10 : vE 35 10 [l0, l1, l2, l3, l4, l5, l6, l7] (w6 :: w5 :: w4 :: w3 :: w2 :: w1 :: w0 :: st) v x ↔ ∃ y : vm_Y, vE 36 0 [w0, w1, w2, w3, w4, w5, w6, .retAddr 0] [] v y ∧ vB 35 10 [l0, l1, l2, l3, l4, l5, l6, l7] st y x := vE_cv rfl rfl rfl rfl
theorem q35_13 : vE 35 13 [l0, l1, l2, l3, l4, l5, l6, l7] st v x ↔ vE 35 24 [l0, l1, l2, l3, l4, l5, l6, l7] st v x := vE_s rfl rfl
theorem q35_16 : vE 35 16 [l0, l1, l2, l3, l4, l5, l6, l7] (.ref p :: st) v x ↔ vE 35 18 [l0, l1, l2, l3, l4, l5, l6, .ref p] st v x := vE_s rfl rfl
theorem q35_18 : vE 35 18 [l0, l1, l2, l3, l4, l5, l6, l7] st v x ↔ vE 35 19 [l0, l1, l2, l3, l4, l5, l6, l7] (.int 1 :: st) v x := vE_s rfl (by rfl)
theorem q35_19 : vE 35 19 [l0, l1, l2, l3, l4, l5, l6, l7] ([.int a]) v x ↔ x = vr a v := vE_ir rfl
theorem q35_20 : vE 35 20 [l0, l1, l2, l3, l4, l5, l6, l7] (.ref p :: st) v x ↔ vE 35 22 [l0, l1, l2, l3, l4, l5, l6, .ref p] st v x := vE_s rfl rfl
theorem q35_22 : vE 35 22 [l0, l1, l2, l3, l4, l5, l6, l7] st v x ↔ vE 35 23 [l0, l1, l2, l3, l4, l5, l6, l7] (.int 2 :: st) v x := vE_s rfl (by rfl)
theorem q35_23 : vE 35 23 [l0, l1, l2, l3, l4, l5, l6, l7] ([.int a]) v x ↔ x = vr a v := vE_ir rfl
theorem q35_24 : vE 35 24 [l0, l1, l2, l3, l4, l5, l6, l7] st v x ↔ vE 35 25 [l0, l1, l2, l3, l4, l5, l6, l7] (.int 0 :: st) v x := vE_s rfl (by rfl)
theorem q35_25 : vE 35 25 [l0, l1, l2, l3, l4, l5, l6, l7] ([.int a]) v x ↔ x = vr a v := vE_ir rfl
theorem qh35_10_10 {L r : List Value} : vB 35 10 L r (vt 10 v) x ↔ vE 35 16 L [.ref v.2.2.1] (vm_nx v) x := vB_h rfl
theorem qh35_10_12 {L r : List Value} : vB 35 10 L r (vt 12 v) x ↔ vE 35 20 L [.ref v.2.2.1] (vm_nx v) x := vB_h rfl
/-! 36 PassChecker.end(IIIIII)V -/
theorem q36_0 : vE 36 0 [.ref p, l1, l2, l3, l4, l5, l6, l7] st v x ↔ vE 36 1 [.ref p, l1, l2, l3, l4, l5, l6, l7] (.ref p :: st) v x := vE_s rfl rfl
theorem q36_1 : vE 36 1 [l0, .int a, l2, l3, l4, l5, l6, l7] st v x ↔ vE 36 2 [l0, .int a, l2, l3, l4, l5, l6, l7] (.int a :: st) v x := vE_s rfl rfl
theorem q36_2 : vE 36 2 [l0, l1, l2, l3, l4, l5, l6, l7] (w1 :: w0 :: st) v x ↔ ∃ y : vm_Y, vE 18 0 [w0, w1] [] v y ∧ vB 36 2 [l0, l1, l2, l3, l4, l5, l6, l7] st y x := vE_cv rfl rfl rfl rfl
theorem q36_5 : vE 36 5 [l0, l1, l2, l3, l4, l5, l6, l7] (.ref p :: st) v x ↔ vE 36 7 [l0, l1, l2, l3, l4, l5, l6, .ref p] st v x := vE_s rfl rfl
theorem q36_7 : vE 36 7 [l0, l1, l2, l3, l4, l5, l6, .ref p] st v x ↔ vE 36 9 [l0, l1, l2, l3, l4, l5, l6, .ref p] (.ref p :: st) v x := vE_s rfl rfl
theorem q36_9 : vE 36 9 [l0, l1, .int a, l3, l4, l5, l6, l7] st v x ↔ vE 36 10 [l0, l1, .int a, l3, l4, l5, l6, l7] (.int a :: st) v x := vE_s rfl rfl
theorem q36_10 : vE 36 10 [l0, l1, l2, l3, l4, l5, l6, l7] (w1 :: w0 :: st) v x ↔ ∃ y : vm_Y, vE 25 0 [w0, w1] [] v y ∧ vB 36 10 [l0, l1, l2, l3, l4, l5, l6, l7] st y x := vE_cs rfl rfl rfl rfl
theorem q36_13 : vE 36 13 [l0, l1, l2, .int a, l4, l5, l6, l7] st v x ↔ vE 36 14 [l0, l1, l2, .int a, l4, l5, l6, l7] (.int a :: st) v x := vE_s rfl rfl
theorem q36_14 : vE 36 14 [l0, l1, l2, l3, l4, l5, l6, l7] (.int a :: st) v x ↔ if a < 0 then vE 36 22 [l0, l1, l2, l3, l4, l5, l6, l7] st v x else vE 36 17 [l0, l1, l2, l3, l4, l5, l6, l7] st v x := vE_if rfl rfl
theorem q36_17 : vE 36 17 [l0, l1, l2, .int a, l4, l5, l6, l7] st v x ↔ vE 36 18 [l0, l1, l2, .int a, l4, l5, l6, l7] (.int a :: st) v x := vE_s rfl rfl
theorem q36_18 : vE 36 18 [l0, l1, l2, l3, l4, l5, l6, l7] st v x ↔ vE 36 19 [l0, l1, l2, l3, l4, l5, l6, l7] (.int 2 :: st) v x := vE_s rfl (by rfl)
theorem q36_19 : vE 36 19 [l0, l1, l2, l3, l4, l5, l6, l7] (.int b :: .int a :: st) v x ↔ if a ≤ b then vE 36 32 [l0, l1, l2, l3, l4, l5, l6, l7] st v x else vE 36 22 [l0, l1, l2, l3, l4, l5, l6, l7] st v x := vE_if rfl rfl
theorem q36_22 : vE 36 22 [l0, l1, l2, l3, l4, l5, l6, l7] st v x ↔ x = vt 12 v := vE_new rfl rfl
theorem q36_25 : vE 36 25 [l0, l1, l2, l3, l4, l5, l6, l7] (.ref p :: st) v x ↔ vE 36 26 [l0, l1, l2, l3, l4, l5, l6, l7] (.ref p :: .ref p :: st) v x := vE_s rfl rfl
theorem q36_32 : vE 36 32 [l0, l1, l2, .int a, l4, l5, l6, l7] st v x ↔ vE 36 33 [l0, l1, l2, .int a, l4, l5, l6, l7] (.int a :: st) v x := vE_s rfl rfl
theorem q36_33 : vE 36 33 [l0, l1, l2, l3, l4, l5, l6, l7] (.int a :: st) v x ↔ if a = 0 then vE 36 40 [l0, l1, l2, l3, l4, l5, l6, l7] st v x else vE 36 36 [l0, l1, l2, l3, l4, l5, l6, l7] st v x := vE_if rfl rfl
theorem q36_36 : vE 36 36 [l0, l1, l2, l3, l4, l5, l6, l7] st v x ↔ vE 36 37 [l0, l1, l2, l3, l4, l5, l6, l7] (.int 1 :: st) v x := vE_s rfl (by rfl)
theorem q36_37 : vE 36 37 [l0, l1, l2, l3, l4, l5, l6, l7] st v x ↔ vE 36 41 [l0, l1, l2, l3, l4, l5, l6, l7] st v x := vE_s rfl rfl
theorem q36_40 : vE 36 40 [l0, l1, l2, l3, l4, l5, l6, l7] st v x ↔ vE 36 41 [l0, l1, l2, l3, l4, l5, l6, l7] (.int 0 :: st) v x := vE_s rfl (by rfl)
theorem q36_41 : vE 36 41 [l0, l1, l2, l3, .int a, l5, l6, l7] st v x ↔ vE 36 43 [l0, l1, l2, l3, .int a, l5, l6, l7] (.int a :: st) v x := vE_s rfl rfl
theorem q36_43 : vE 36 43 [l0, l1, l2, l3, l4, l5, l6, l7] (w1 :: w0 :: st) v x ↔ ∃ y : vm_Y, vE 27 0 [w0, w1] [] v y ∧ vB 36 43 [l0, l1, l2, l3, l4, l5, l6, l7] st y x := vE_cs rfl rfl rfl rfl
theorem q36_46 : vE 36 46 [l0, l1, l2, .int a, l4, l5, l6, l7] st v x ↔ vE 36 47 [l0, l1, l2, .int a, l4, l5, l6, l7] (.int a :: st) v x := vE_s rfl rfl
theorem q36_47 : vE 36 47 [l0, l1, l2, l3, l4, l5, l6, l7] st v x ↔ vE 36 48 [l0, l1, l2, l3, l4, l5, l6, l7] (.int 2 :: st) v x := vE_s rfl (by rfl)
theorem q36_48 : vE 36 48 [l0, l1, l2, l3, l4, l5, l6, l7] (.int b :: .int a :: st) v x ↔ if a = b then vE 36 55 [l0, l1, l2, l3, l4, l5, l6, l7] st v x else vE 36 51 [l0, l1, l2, l3, l4, l5, l6, l7] st v x := vE_if rfl rfl
theorem q36_51 : vE 36 51 [l0, l1, l2, l3, l4, l5, l6, l7] st v x ↔ vE 36 52 [l0, l1, l2, l3, l4, l5, l6, l7] (.int 1 :: st) v x := vE_s rfl (by rfl)
theorem q36_52 : vE 36 52 [l0, l1, l2, l3, l4, l5, l6, l7] st v x ↔ vE 36 56 [l0, l1, l2, l3, l4, l5, l6, l7] st v x := vE_s rfl rfl
theorem q36_55 : vE 36 55 [l0, l1, l2, l3, l4, l5, l6, l7] st v x ↔ vE 36 56 [l0, l1, l2, l3, l4, l5, l6, l7] (.int 0 :: st) v x := vE_s rfl (by rfl)
theorem q36_56 : vE 36 56 [l0, l1, l2, l3, l4, .int a, l6, l7] st v x ↔ vE 36 58 [l0, l1, l2, l3, l4, .int a, l6, l7] (.int a :: st) v x := vE_s rfl rfl
theorem q36_58 : vE 36 58 [l0, l1, l2, l3, l4, l5, l6, l7] (w1 :: w0 :: st) v x ↔ ∃ y : vm_Y, vE 37 0 [w0, w1] [] v y ∧ vB 36 58 [l0, l1, l2, l3, l4, l5, l6, l7] st y x := vE_cs rfl rfl rfl rfl
theorem q36_61 : vE 36 61 [l0, l1, l2, .int a, l4, l5, l6, l7] st v x ↔ vE 36 62 [l0, l1, l2, .int a, l4, l5, l6, l7] (.int a :: st) v x := vE_s rfl rfl
theorem q36_62 : vE 36 62 [l0, l1, l2, l3, l4, l5, l6, l7] st v x ↔ vE 36 63 [l0, l1, l2, l3, l4, l5, l6, l7] (.int 1 :: st) v x := vE_s rfl (by rfl)
theorem q36_63 : vE 36 63 [l0, l1, l2, l3, l4, l5, l6, l7] (.int b :: .int a :: st) v x ↔ if a = b then vE 36 66 [l0, l1, l2, l3, l4, l5, l6, l7] st v x else vE 36 70 [l0, l1, l2, l3, l4, l5, l6, l7] st v x := vE_if rfl rfl
theorem q36_66 : vE 36 66 [l0, l1, l2, l3, l4, l5, l6, l7] st v x ↔ vE 36 67 [l0, l1, l2, l3, l4, l5, l6, l7] (.int 1 :: st) v x := vE_s rfl (by rfl)
theorem q36_67 : vE 36 67 [l0, l1, l2, l3, l4, l5, l6, l7] st v x ↔ vE 36 71 [l0, l1, l2, l3, l4, l5, l6, l7] st v x := vE_s rfl rfl
theorem q36_70 : vE 36 70 [l0, l1, l2, l3, l4, l5, l6, l7] st v x ↔ vE 36 71 [l0, l1, l2, l3, l4, l5, l6, l7] (.int 0 :: st) v x := vE_s rfl (by rfl)
theorem q36_71 : vE 36 71 [l0, l1, l2, l3, l4, l5, .int a, l7] st v x ↔ vE 36 73 [l0, l1, l2, l3, l4, l5, .int a, l7] (.int a :: st) v x := vE_s rfl rfl
theorem q36_73 : vE 36 73 [l0, l1, l2, l3, l4, l5, l6, l7] (w1 :: w0 :: st) v x ↔ ∃ y : vm_Y, vE 37 0 [w0, w1] [] v y ∧ vB 36 73 [l0, l1, l2, l3, l4, l5, l6, l7] st y x := vE_cs rfl rfl rfl rfl
theorem q36_76 : vE 36 76 [.ref p, l1, l2, l3, l4, l5, l6, l7] st v x ↔ vE 36 77 [.ref p, l1, l2, l3, l4, l5, l6, l7] (.ref p :: st) v x := vE_s rfl rfl
theorem q36_77 : vE 36 77 [l0, l1, l2, l3, l4, l5, l6, l7] st v x ↔ vE 36 78 [l0, l1, l2, l3, l4, l5, l6, l7] (.int 0 :: st) v x := vE_s rfl (by rfl)
theorem q36_78 : vE 36 78 [l0, l1, l2, l3, l4, l5, l6, l7] (.int a :: .ref p :: st) v x ↔ vE 36 81 [l0, l1, l2, l3, l4, l5, l6, l7] st (vm_si v p 7 a) x := vE_s rfl rfl
theorem q36_81 : vE 36 81 [l0, l1, l2, l3, l4, l5, l6, .ref p] st v x ↔ vE 36 83 [l0, l1, l2, l3, l4, l5, l6, .ref p] (.ref p :: st) v x := vE_s rfl rfl
theorem q36_83 : vE 36 83 [l0, l1, .int a, l3, l4, l5, l6, l7] st v x ↔ vE 36 84 [l0, l1, .int a, l3, l4, l5, l6, l7] (.int a :: st) v x := vE_s rfl rfl
theorem q36_84 : vE 36 84 [l0, l1, l2, .int a, l4, l5, l6, l7] st v x ↔ vE 36 85 [l0, l1, l2, .int a, l4, l5, l6, l7] (.int a :: st) v x := vE_s rfl rfl
theorem q36_85 : vE 36 85 [l0, l1, l2, .int a, l4, l5, l6, l7] st v x ↔ vE 36 86 [l0, l1, l2, .int a, l4, l5, l6, l7] (.int a :: st) v x := vE_s rfl rfl
theorem q36_86 : vE 36 86 [l0, l1, l2, l3, l4, l5, l6, l7] (.int a :: st) v x ↔ if a = 0 then vE 36 94 [l0, l1, l2, l3, l4, l5, l6, l7] st v x else vE 36 89 [l0, l1, l2, l3, l4, l5, l6, l7] st v x := vE_if rfl rfl
theorem q36_89 : vE 36 89 [l0, l1, l2, l3, .int a, l5, l6, l7] st v x ↔ vE 36 91 [l0, l1, l2, l3, .int a, l5, l6, l7] (.int a :: st) v x := vE_s rfl rfl
theorem q36_91 : vE 36 91 [l0, l1, l2, l3, l4, l5, l6, l7] st v x ↔ vE 36 95 [l0, l1, l2, l3, l4, l5, l6, l7] st v x := vE_s rfl rfl
theorem q36_94 : vE 36 94 [l0, l1, l2, l3, l4, l5, l6, l7] st v x ↔ vE 36 95 [l0, l1, l2, l3, l4, l5, l6, l7] (.int 0 :: st) v x := vE_s rfl (by rfl)
theorem q36_95 : vE 36 95 [l0, l1, l2, .int a, l4, l5, l6, l7] st v x ↔ vE 36 96 [l0, l1, l2, .int a, l4, l5, l6, l7] (.int a :: st) v x := vE_s rfl rfl
theorem q36_96 : vE 36 96 [l0, l1, l2, l3, l4, l5, l6, l7] st v x ↔ vE 36 97 [l0, l1, l2, l3, l4, l5, l6, l7] (.int 2 :: st) v x := vE_s rfl (by rfl)
theorem q36_97 : vE 36 97 [l0, l1, l2, l3, l4, l5, l6, l7] (.int b :: .int a :: st) v x ↔ if a = b then vE 36 105 [l0, l1, l2, l3, l4, l5, l6, l7] st v x else vE 36 100 [l0, l1, l2, l3, l4, l5, l6, l7] st v x := vE_if rfl rfl
theorem q36_100 : vE 36 100 [l0, l1, l2, l3, l4, .int a, l6, l7] st v x ↔ vE 36 102 [l0, l1, l2, l3, l4, .int a, l6, l7] (.int a :: st) v x := vE_s rfl rfl
theorem q36_102 : vE 36 102 [l0, l1, l2, l3, l4, l5, l6, l7] st v x ↔ vE 36 106 [l0, l1, l2, l3, l4, l5, l6, l7] st v x := vE_s rfl rfl
theorem q36_105 : vE 36 105 [l0, l1, l2, l3, l4, l5, l6, l7] st v x ↔ vE 36 106 [l0, l1, l2, l3, l4, l5, l6, l7] (.int 0 :: st) v x := vE_s rfl (by rfl)
theorem q36_106 : vE 36 106 [l0, l1, l2, .int a, l4, l5, l6, l7] st v x ↔ vE 36 107 [l0, l1, l2, .int a, l4, l5, l6, l7] (.int a :: st) v x := vE_s rfl rfl
theorem q36_107 : vE 36 107 [l0, l1, l2, l3, l4, l5, l6, l7] st v x ↔ vE 36 108 [l0, l1, l2, l3, l4, l5, l6, l7] (.int 1 :: st) v x := vE_s rfl (by rfl)
theorem q36_108 : vE 36 108 [l0, l1, l2, l3, l4, l5, l6, l7] (.int b :: .int a :: st) v x ↔ if a = b then vE 36 111 [l0, l1, l2, l3, l4, l5, l6, l7] st v x else vE 36 116 [l0, l1, l2, l3, l4, l5, l6, l7] st v x := vE_if rfl rfl
theorem q36_111 : vE 36 111 [l0, l1, l2, l3, l4, l5, .int a, l7] st v x ↔ vE 36 113 [l0, l1, l2, l3, l4, l5, .int a, l7] (.int a :: st) v x := vE_s rfl rfl
theorem q36_113 : vE 36 113 [l0, l1, l2, l3, l4, l5, l6, l7] st v x ↔ vE 36 117 [l0, l1, l2, l3, l4, l5, l6, l7] st v x := vE_s rfl rfl
theorem q36_116 : vE 36 116 [l0, l1, l2, l3, l4, l5, l6, l7] st v x ↔ vE 36 117 [l0, l1, l2, l3, l4, l5, l6, l7] (.int 0 :: st) v x := vE_s rfl (by rfl)
theorem q36_117 : vE 36 117 [l0, l1, l2, l3, l4, l5, l6, l7] (w5 :: w4 :: w3 :: w2 :: w1 :: w0 :: st) v x ↔ ∃ y : vm_Y, vE 21 0 [w0, w1, w2, w3, w4, w5, .retAddr 0] [] v y ∧ vB 36 117 [l0, l1, l2, l3, l4, l5, l6, l7] st y x := vE_cv rfl rfl rfl rfl
theorem q36_120 : vE 36 120 [l0, l1, l2, l3, l4, l5, l6, l7] [] v x ↔ x = vd v := vE_vr rfl
theorem qt36 {X pc : Nat} {L r : List Value} : vB 36 pc L r (vt X v) x ↔ x = vt X v := vB_t rfl
/-! 38 PassCheckerLaw.wipe(LPassChecker;I)I -/
theorem q38_0 : vE 38 0 [.ref p, l1, l2] st v x ↔ vE 38 1 [.ref p, l1, l2] (.ref p :: st) v x := vE_s rfl rfl
theorem q38_1 : vE 38 1 [l0, .int a, l2] st v x ↔ vE 38 2 [l0, .int a, l2] (.int a :: st) v x := vE_s rfl rfl
theorem q38_2 : vE 38 2 [l0, l1, l2] (w1 :: w0 :: st) v x ↔ ∃ y : vm_Y, vE 39 0 [w0, w1, .retAddr 0] [] v y ∧ vB 38 2 [l0, l1, l2] st y x := vE_cv rfl rfl rfl rfl
theorem q38_5 : vE 38 5 [l0, l1, l2] st v x ↔ vE 38 11 [l0, l1, l2] st v x := vE_s rfl rfl
theorem q38_8 : vE 38 8 [l0, l1, l2] (.ref p :: st) v x ↔ vE 38 9 [l0, l1, .ref p] st v x := vE_s rfl rfl
theorem q38_9 : vE 38 9 [l0, l1, l2] st v x ↔ vE 38 10 [l0, l1, l2] (.int 1 :: st) v x := vE_s rfl (by rfl)
theorem q38_10 : vE 38 10 [l0, l1, l2] ([.int a]) v x ↔ x = vr a v := vE_ir rfl
theorem q38_11 : vE 38 11 [l0, l1, l2] st v x ↔ vE 38 12 [l0, l1, l2] (.int 0 :: st) v x := vE_s rfl (by rfl)
theorem q38_12 : vE 38 12 [l0, l1, l2] ([.int a]) v x ↔ x = vr a v := vE_ir rfl
theorem qh38_2_10 {L r : List Value} : vB 38 2 L r (vt 10 v) x ↔ vE 38 8 L [.ref v.2.2.1] (vm_nx v) x := vB_h rfl
/-! 39 PassChecker.wipe(I)V -/
theorem q39_0 : vE 39 0 [.ref p, l1, l2] st v x ↔ vE 39 1 [.ref p, l1, l2] (.ref p :: st) v x := vE_s rfl rfl
theorem q39_1 : vE 39 1 [l0, .int a, l2] st v x ↔ vE 39 2 [l0, .int a, l2] (.int a :: st) v x := vE_s rfl rfl
theorem q39_2 : vE 39 2 [l0, l1, l2] (w1 :: w0 :: st) v x ↔ ∃ y : vm_Y, vE 18 0 [w0, w1] [] v y ∧ vB 39 2 [l0, l1, l2] st y x := vE_cv rfl rfl rfl rfl
theorem q39_5 : vE 39 5 [l0, l1, l2] (.ref p :: st) v x ↔ vE 39 6 [l0, l1, .ref p] st v x := vE_s rfl rfl
theorem q39_6 : vE 39 6 [.ref p, l1, l2] st v x ↔ vE 39 7 [.ref p, l1, l2] (.ref p :: st) v x := vE_s rfl rfl
theorem q39_7 : vE 39 7 [l0, l1, l2] st v x ↔ vE 39 8 [l0, l1, l2] (.int 0 :: st) v x := vE_s rfl (by rfl)
theorem q39_8 : vE 39 8 [l0, l1, l2] (.int a :: .ref p :: st) v x ↔ vE 39 11 [l0, l1, l2] st (vm_si v p 7 a) x := vE_s rfl rfl
theorem q39_11 : vE 39 11 [l0, l1, .ref p] st v x ↔ vE 39 12 [l0, l1, .ref p] (.ref p :: st) v x := vE_s rfl rfl
theorem q39_12 : vE 39 12 [l0, l1, l2] (w0 :: st) v x ↔ ∃ y : vm_Y, vE 40 0 [w0] [] v y ∧ vB 39 12 [l0, l1, l2] st y x := vE_cv rfl rfl rfl rfl
theorem q39_15 : vE 39 15 [l0, l1, l2] [] v x ↔ x = vd v := vE_vr rfl
theorem qt39 {X pc : Nat} {L r : List Value} : vB 39 pc L r (vt X v) x ↔ x = vt X v := vB_t rfl
/-! 41 PassCheckerLaw.pass(LPassChecker;I[J)I -/
theorem q41_0 : vE 41 0 [l0, l1, .ref p, l3] st v x ↔ vE 41 1 [l0, l1, .ref p, l3] (.ref p :: st) v x := vE_s rfl rfl
theorem q41_1 : vE 41 1 [l0, l1, l2, l3] st v x ↔ vE 41 2 [l0, l1, l2, l3] (.int 0 :: st) v x := vE_s rfl (by rfl)
theorem q41_2 : vE 41 2 [.ref p, l1, l2, l3] st v x ↔ vE 41 3 [.ref p, l1, l2, l3] (.ref p :: st) v x := vE_s rfl rfl
theorem q41_3 : vE 41 3 [l0, .int a, l2, l3] st v x ↔ vE 41 4 [l0, .int a, l2, l3] (.int a :: st) v x := vE_s rfl rfl
theorem q41_4 : vE 41 4 [l0, l1, l2, l3] (w1 :: w0 :: st) v x ↔ ∃ y : vm_Y, vE 42 0 [w0, w1, .retAddr 0, .retAddr 0] [] v y ∧ vB 41 4 [l0, l1, l2, l3] st y x := vE_cv rfl rfl rfl rfl
theorem q41_7 : vE 41 7 [l0, l1, l2, l3] (.int a :: st) v x ↔ vE 41 8 [l0, l1, l2, l3] (.long a.toInt64 :: st) v x := vE_s rfl rfl
theorem q41_8 : vE 41 8 [l0, l1, l2, l3] (.long w :: .int a :: .ref p :: st) v x ↔ vE 41 9 [l0, l1, l2, l3] st (vm_sl v p a.toNatClampNeg w) x := vE_s rfl rfl
theorem q41_9 : vE 41 9 [l0, l1, l2, l3] st v x ↔ vE 41 15 [l0, l1, l2, l3] st v x := vE_s rfl rfl
theorem q41_12 : vE 41 12 [l0, l1, l2, l3] (.ref p :: st) v x ↔ vE 41 13 [l0, l1, l2, .ref p] st v x := vE_s rfl rfl
theorem q41_13 : vE 41 13 [l0, l1, l2, l3] st v x ↔ vE 41 14 [l0, l1, l2, l3] (.int 1 :: st) v x := vE_s rfl (by rfl)
theorem q41_14 : vE 41 14 [l0, l1, l2, l3] ([.int a]) v x ↔ x = vr a v := vE_ir rfl
theorem q41_15 : vE 41 15 [l0, l1, l2, l3] st v x ↔ vE 41 16 [l0, l1, l2, l3] (.int 0 :: st) v x := vE_s rfl (by rfl)
theorem q41_16 : vE 41 16 [l0, l1, l2, l3] ([.int a]) v x ↔ x = vr a v := vE_ir rfl
theorem qh41_4_12 {L r : List Value} : vB 41 4 L r (vt 12 v) x ↔ vE 41 12 L [.ref v.2.2.1] (vm_nx v) x := vB_h rfl
/-! 42 PassChecker.pass(I)I -/
theorem q42_0 : vE 42 0 [l0, .int a, l2, l3] st v x ↔ vE 42 1 [l0, .int a, l2, l3] (.int a :: st) v x := vE_s rfl rfl
theorem q42_1 : vE 42 1 [l0, l1, l2, l3] (.int a :: st) v x ↔ if a < 0 then vE 42 9 [l0, l1, l2, l3] st v x else vE 42 4 [l0, l1, l2, l3] st v x := vE_if rfl rfl
theorem q42_4 : vE 42 4 [l0, .int a, l2, l3] st v x ↔ vE 42 5 [l0, .int a, l2, l3] (.int a :: st) v x := vE_s rfl rfl
theorem q42_5 : vE 42 5 [l0, l1, l2, l3] st v x ↔ vE 42 6 [l0, l1, l2, l3] (.int 2 :: st) v x := vE_s rfl (by rfl)
theorem q42_6 : vE 42 6 [l0, l1, l2, l3] (.int b :: .int a :: st) v x ↔ if a ≤ b then vE 42 19 [l0, l1, l2, l3] st v x else vE 42 9 [l0, l1, l2, l3] st v x := vE_if rfl rfl
theorem q42_9 : vE 42 9 [l0, l1, l2, l3] st v x ↔ x = vt 12 v := vE_new rfl rfl
theorem q42_12 : vE 42 12 [l0, l1, l2, l3] (.ref p :: st) v x ↔ vE 42 13 [l0, l1, l2, l3] (.ref p :: .ref p :: st) v x := vE_s rfl rfl
theorem q42_19 : vE 42 19 [.ref p, l1, l2, l3] st v x ↔ vE 42 20 [.ref p, l1, l2, l3] (.ref p :: st) v x := vE_s rfl rfl
theorem q42_20 : vE 42 20 [l0, l1, l2, l3] st v x ↔ vE 42 21 [l0, l1, l2, l3] (.int 0 :: st) v x := vE_s rfl (by rfl)
theorem q42_21 : vE 42 21 [l0, l1, l2, l3] (.int a :: .ref p :: st) v x ↔ vE 42 24 [l0, l1, l2, l3] st (vm_si v p 7 a) x := vE_s rfl rfl
theorem q42_24 : vE 42 24 [.ref p, l1, l2, l3] st v x ↔ vE 42 25 [.ref p, l1, l2, l3] (.ref p :: st) v x := vE_s rfl rfl
theorem q42_25 : vE 42 25 [l0, l1, l2, l3] (.ref p :: st) v x ↔ vE 42 28 [l0, l1, l2, l3] (.ref (p + 5) :: st) v x := vE_s rfl rfl
theorem q42_28 : vE 42 28 [.ref p, l1, l2, l3] st v x ↔ vE 42 29 [.ref p, l1, l2, l3] (.ref p :: st) v x := vE_s rfl rfl
theorem q42_29 : vE 42 29 [l0, l1, l2, l3] (.ref p :: st) v x ↔ vE 42 32 [l0, l1, l2, l3] (.ref (p + 1) :: st) v x := vE_s rfl rfl
theorem q42_32 : vE 42 32 [l0, l1, l2, l3] (w1 :: w0 :: st) v x ↔ ∃ y : vm_Y, vE 11 0 [w0, w1] [] v y ∧ vB 42 32 [l0, l1, l2, l3] st y x := vE_cv rfl rfl rfl rfl
theorem q42_35 : vE 42 35 [.ref p, l1, l2, l3] st v x ↔ vE 42 36 [.ref p, l1, l2, l3] (.ref p :: st) v x := vE_s rfl rfl
theorem q42_36 : vE 42 36 [l0, l1, l2, l3] (.ref p :: st) v x ↔ vE 42 39 [l0, l1, l2, l3] (.ref (p + 1) :: st) v x := vE_s rfl rfl
theorem q42_39 : vE 42 39 [l0, l1, l2, l3] (w0 :: st) v x ↔ ∃ y : vm_Y, vE 43 0 [w0] [] v y ∧ vB 42 39 [l0, l1, l2, l3] st y x := vE_cv rfl rfl rfl rfl
theorem q42_42 : vE 42 42 [l0, l1, l2, l3] (.int a :: st) v x ↔ vE 42 43 [l0, l1, .int a, l3] st v x := vE_s rfl rfl
theorem q42_43 : vE 42 43 [l0, l1, l2, l3] st v x ↔ vE 42 44 [l0, l1, l2, l3] (.int 0 :: st) v x := vE_s rfl (by rfl)
theorem q42_44 : vE 42 44 [l0, l1, l2, l3] (.int a :: st) v x ↔ vE 42 45 [l0, l1, l2, .int a] st v x := vE_s rfl rfl
theorem q42_45 : vE 42 45 [l0, l1, l2, .int a] st v x ↔ vE 42 46 [l0, l1, l2, .int a] (.int a :: st) v x := vE_s rfl rfl
theorem q42_46 : vE 42 46 [l0, l1, .int a, l3] st v x ↔ vE 42 47 [l0, l1, .int a, l3] (.int a :: st) v x := vE_s rfl rfl
theorem q42_47 : vE 42 47 [l0, l1, l2, l3] (.int b :: .int a :: st) v x ↔ if b ≤ a then vE 42 119 [l0, l1, l2, l3] st v x else vE 42 50 [l0, l1, l2, l3] st v x := vE_if rfl rfl
theorem q42_50 : vE 42 50 [l0, .int a, l2, l3] st v x ↔ vE 42 51 [l0, .int a, l2, l3] (.int a :: st) v x := vE_s rfl rfl
theorem q42_51 : vE 42 51 [l0, l1, l2, l3] (.int a :: st) v x ↔ if a = 0 then vE 42 54 [l0, l1, l2, l3] st v x else vE 42 73 [l0, l1, l2, l3] st v x := vE_if rfl rfl
theorem q42_54 : vE 42 54 [.ref p, l1, l2, l3] st v x ↔ vE 42 55 [.ref p, l1, l2, l3] (.ref p :: st) v x := vE_s rfl rfl
theorem q42_55 : vE 42 55 [l0, l1, l2, l3] (.ref p :: st) v x ↔ vE 42 58 [l0, l1, l2, l3] (.ref (p + 9) :: st) v x := vE_s rfl rfl
theorem q42_58 : vE 42 58 [.ref p, l1, l2, l3] st v x ↔ vE 42 59 [.ref p, l1, l2, l3] (.ref p :: st) v x := vE_s rfl rfl
theorem q42_59 : vE 42 59 [l0, l1, l2, l3] (.ref p :: st) v x ↔ vE 42 62 [l0, l1, l2, l3] (.ref (p + 1) :: st) v x := vE_s rfl rfl
theorem q42_62 : vE 42 62 [.ref p, l1, l2, l3] st v x ↔ vE 42 63 [.ref p, l1, l2, l3] (.ref p :: st) v x := vE_s rfl rfl
theorem q42_63 : vE 42 63 [l0, l1, l2, l3] (.ref p :: st) v x ↔ vE 42 66 [l0, l1, l2, l3] (.ref (p + 5) :: st) v x := vE_s rfl rfl
theorem q42_66 : vE 42 66 [l0, l1, l2, .int a] st v x ↔ vE 42 67 [l0, l1, l2, .int a] (.int a :: st) v x := vE_s rfl rfl
theorem q42_67 : vE 42 67 [l0, l1, l2, l3] (w3 :: w2 :: w1 :: w0 :: st) v x ↔ ∃ y : vm_Y, vE 44 0 [w0, w1, w2, w3, .retAddr 0, .retAddr 0] [] v y ∧ vB 42 67 [l0, l1, l2, l3] st y x := vE_cv rfl rfl rfl rfl
theorem q42_70 : vE 42 70 [l0, l1, l2, l3] st v x ↔ vE 42 113 [l0, l1, l2, l3] st v x := vE_s rfl rfl
theorem q42_73 : vE 42 73 [l0, .int a, l2, l3] st v x ↔ vE 42 74 [l0, .int a, l2, l3] (.int a :: st) v x := vE_s rfl rfl
theorem q42_74 : vE 42 74 [l0, l1, l2, l3] st v x ↔ vE 42 75 [l0, l1, l2, l3] (.int 1 :: st) v x := vE_s rfl (by rfl)
theorem q42_75 : vE 42 75 [l0, l1, l2, l3] (.int b :: .int a :: st) v x ↔ if a = b then vE 42 78 [l0, l1, l2, l3] st v x else vE 42 97 [l0, l1, l2, l3] st v x := vE_if rfl rfl
theorem q42_78 : vE 42 78 [.ref p, l1, l2, l3] st v x ↔ vE 42 79 [.ref p, l1, l2, l3] (.ref p :: st) v x := vE_s rfl rfl
theorem q42_79 : vE 42 79 [l0, l1, l2, l3] (.ref p :: st) v x ↔ vE 42 82 [l0, l1, l2, l3] (.ref (p + 12) :: st) v x := vE_s rfl rfl
theorem q42_82 : vE 42 82 [.ref p, l1, l2, l3] st v x ↔ vE 42 83 [.ref p, l1, l2, l3] (.ref p :: st) v x := vE_s rfl rfl
theorem q42_83 : vE 42 83 [l0, l1, l2, l3] (.ref p :: st) v x ↔ vE 42 86 [l0, l1, l2, l3] (.ref (p + 1) :: st) v x := vE_s rfl rfl
theorem q42_86 : vE 42 86 [.ref p, l1, l2, l3] st v x ↔ vE 42 87 [.ref p, l1, l2, l3] (.ref p :: st) v x := vE_s rfl rfl
theorem q42_87 : vE 42 87 [l0, l1, l2, l3] (.ref p :: st) v x ↔ vE 42 90 [l0, l1, l2, l3] (.ref (p + 5) :: st) v x := vE_s rfl rfl
theorem q42_90 : vE 42 90 [l0, l1, l2, .int a] st v x ↔ vE 42 91 [l0, l1, l2, .int a] (.int a :: st) v x := vE_s rfl rfl
theorem q42_91 : vE 42 91 [l0, l1, l2, l3] (w3 :: w2 :: w1 :: w0 :: st) v x ↔ ∃ y : vm_Y, vE 57 0 [w0, w1, w2, w3, .retAddr 0, .retAddr 0, .retAddr 0, .retAddr 0] [] v y ∧ vB 42 91 [l0, l1, l2, l3] st y x := vE_cv rfl rfl rfl rfl
theorem q42_94 : vE 42 94 [l0, l1, l2, l3] st v x ↔ vE 42 113 [l0, l1, l2, l3] st v x := vE_s rfl rfl
theorem q42_97 : vE 42 97 [.ref p, l1, l2, l3] st v x ↔ vE 42 98 [.ref p, l1, l2, l3] (.ref p :: st) v x := vE_s rfl rfl
theorem q42_98 : vE 42 98 [l0, l1, l2, l3] (.ref p :: st) v x ↔ vE 42 101 [l0, l1, l2, l3] (.ref (p + 13) :: st) v x := vE_s rfl rfl
theorem q42_101 : vE 42 101 [.ref p, l1, l2, l3] st v x ↔ vE 42 102 [.ref p, l1, l2, l3] (.ref p :: st) v x := vE_s rfl rfl
theorem q42_102 : vE 42 102 [l0, l1, l2, l3] (.ref p :: st) v x ↔ vE 42 105 [l0, l1, l2, l3] (.ref (p + 1) :: st) v x := vE_s rfl rfl
theorem q42_105 : vE 42 105 [.ref p, l1, l2, l3] st v x ↔ vE 42 106 [.ref p, l1, l2, l3] (.ref p :: st) v x := vE_s rfl rfl
theorem q42_106 : vE 42 106 [l0, l1, l2, l3] (.ref p :: st) v x ↔ vE 42 109 [l0, l1, l2, l3] (.ref (p + 5) :: st) v x := vE_s rfl rfl
theorem q42_109 : vE 42 109 [l0, l1, l2, .int a] st v x ↔ vE 42 110 [l0, l1, l2, .int a] (.int a :: st) v x := vE_s rfl rfl
theorem q42_110 : vE 42 110 [l0, l1, l2, l3] (w3 :: w2 :: w1 :: w0 :: st) v x ↔ ∃ y : vm_Y, vE 63 0 [w0, w1, w2, w3, .retAddr 0, .retAddr 0, .retAddr 0] [] v y ∧ vB 42 110 [l0, l1, l2, l3] st y x := vE_cv rfl rfl rfl rfl
theorem q42_113 : vE 42 113 [l0, l1, l2, .int a] st v x ↔ vE 42 116 [l0, l1, l2, .int (a + 1)] st v x := vE_s rfl rfl
theorem q42_116 : vE 42 116 [l0, l1, l2, l3] st v x ↔ vE 42 45 [l0, l1, l2, l3] st v x := vE_s rfl rfl
theorem q42_119 : vE 42 119 [.ref p, l1, l2, l3] st v x ↔ vE 42 120 [.ref p, l1, l2, l3] (.ref p :: st) v x := vE_s rfl rfl
theorem q42_120 : vE 42 120 [l0, l1, l2, l3] (.ref p :: st) v x ↔ vE 42 123 [l0, l1, l2, l3] (.ref (p + 5) :: st) v x := vE_s rfl rfl
theorem q42_123 : vE 42 123 [.ref p, l1, l2, l3] st v x ↔ vE 42 124 [.ref p, l1, l2, l3] (.ref p :: st) v x := vE_s rfl rfl
theorem q42_124 : vE 42 124 [l0, l1, l2, l3] (.ref p :: st) v x ↔ vE 42 127 [l0, l1, l2, l3] (.ref (p + 1) :: st) v x := vE_s rfl rfl
theorem q42_127 : vE 42 127 [l0, l1, l2, l3] (w1 :: w0 :: st) v x ↔ ∃ y : vm_Y, vE 70 0 [w0, w1, .retAddr 0, .retAddr 0, .retAddr 0, .retAddr 0] [] v y ∧ vB 42 127 [l0, l1, l2, l3] st y x := vE_cv rfl rfl rfl rfl
theorem q42_130 : vE 42 130 [l0, l1, l2, l3] ([.int a]) v x ↔ x = vr a v := vE_ir rfl
theorem qt42 {X pc : Nat} {L r : List Value} : vB 42 pc L r (vt X v) x ↔ x = vt X v := vB_t rfl
/-! 44 PassChecker$Folder.foldBlock(LPassChecker$Program;LPassChecker$Program;I)V -/
theorem q44_0 : vE 44 0 [l0, l1, l2, l3, l4, l5] st v x ↔ vE 44 1 [l0, l1, l2, l3, l4, l5] (.int 0 :: st) v x := vE_s rfl (by rfl)
theorem q44_1 : vE 44 1 [l0, l1, l2, l3, l4, l5] (.int a :: st) v x ↔ vE 44 3 [l0, l1, l2, l3, .int a, l5] st v x := vE_s rfl rfl
theorem q44_3 : vE 44 3 [l0, l1, l2, l3, .int a, l5] st v x ↔ vE 44 5 [l0, l1, l2, l3, .int a, l5] (.int a :: st) v x := vE_s rfl rfl
theorem q44_5 : vE 44 5 [l0, l1, l2, l3, l4, l5] st v x ↔ vE 44 7 [l0, l1, l2, l3, l4, l5] (.int 6 :: st) v x := vE_s rfl (by rfl)
theorem q44_7 : vE 44 7 [l0, l1, l2, l3, l4, l5] (.int b :: .int a :: st) v x ↔ if b ≤ a then vE 44 22 [l0, l1, l2, l3, l4, l5] st v x else vE 44 10 [l0, l1, l2, l3, l4, l5] st v x := vE_if rfl rfl
theorem q44_10 : vE 44 10 [.ref p, l1, l2, l3, l4, l5] st v x ↔ vE 44 11 [.ref p, l1, l2, l3, l4, l5] (.ref p :: st) v x := vE_s rfl rfl
theorem q44_11 : vE 44 11 [l0, l1, l2, l3, .int a, l5] st v x ↔ vE 44 13 [l0, l1, l2, l3, .int a, l5] (.int a :: st) v x := vE_s rfl rfl
theorem q44_13 : vE 44 13 [l0, l1, l2, l3, l4, l5] (w1 :: w0 :: st) v x ↔ ∃ y : vm_Y, vE 45 0 [w0, w1] [] v y ∧ vB 44 13 [l0, l1, l2, l3, l4, l5] st y x := vE_cv rfl rfl rfl rfl
theorem q44_16 : vE 44 16 [l0, l1, l2, l3, .int a, l5] st v x ↔ vE 44 19 [l0, l1, l2, l3, .int (a + 1), l5] st v x := vE_s rfl rfl
theorem q44_19 : vE 44 19 [l0, l1, l2, l3, l4, l5] st v x ↔ vE 44 3 [l0, l1, l2, l3, l4, l5] st v x := vE_s rfl rfl
theorem q44_22 : vE 44 22 [l0, .ref p, l2, l3, l4, l5] st v x ↔ vE 44 23 [l0, .ref p, l2, l3, l4, l5] (.ref p :: st) v x := vE_s rfl rfl
theorem q44_23 : vE 44 23 [l0, l1, l2, .int a, l4, l5] st v x ↔ vE 44 24 [l0, l1, l2, .int a, l4, l5] (.int a :: st) v x := vE_s rfl rfl
theorem q44_24 : vE 44 24 [l0, l1, l2, l3, l4, l5] (w1 :: w0 :: st) v x ↔ ∃ y : vm_Y, vE 31 0 [w0, w1] [] v y ∧ vB 44 24 [l0, l1, l2, l3, l4, l5] st y x := vE_cv rfl rfl rfl rfl
theorem q44_27 : vE 44 27 [l0, l1, l2, l3, l4, l5] (.int a :: st) v x ↔ vE 44 29 [l0, l1, l2, l3, .int a, l5] st v x := vE_s rfl rfl
theorem q44_29 : vE 44 29 [l0, l1, l2, l3, l4, l5] st v x ↔ vE 44 30 [l0, l1, l2, l3, l4, l5] (.int 0 :: st) v x := vE_s rfl (by rfl)
theorem q44_30 : vE 44 30 [l0, l1, l2, l3, l4, l5] (.int a :: st) v x ↔ vE 44 32 [l0, l1, l2, l3, l4, .int a] st v x := vE_s rfl rfl
theorem q44_32 : vE 44 32 [l0, l1, l2, l3, l4, .int a] st v x ↔ vE 44 34 [l0, l1, l2, l3, l4, .int a] (.int a :: st) v x := vE_s rfl rfl
theorem q44_34 : vE 44 34 [l0, l1, l2, l3, .int a, l5] st v x ↔ vE 44 36 [l0, l1, l2, l3, .int a, l5] (.int a :: st) v x := vE_s rfl rfl
theorem q44_36 : vE 44 36 [l0, l1, l2, l3, l4, l5] (.int b :: .int a :: st) v x ↔ if b ≤ a then vE 44 54 [l0, l1, l2, l3, l4, l5] st v x else vE 44 39 [l0, l1, l2, l3, l4, l5] st v x := vE_if rfl rfl
theorem q44_39 : vE 44 39 [.ref p, l1, l2, l3, l4, l5] st v x ↔ vE 44 40 [.ref p, l1, l2, l3, l4, l5] (.ref p :: st) v x := vE_s rfl rfl
theorem q44_40 : vE 44 40 [l0, .ref p, l2, l3, l4, l5] st v x ↔ vE 44 41 [l0, .ref p, l2, l3, l4, l5] (.ref p :: st) v x := vE_s rfl rfl
theorem q44_41 : vE 44 41 [l0, l1, .ref p, l3, l4, l5] st v x ↔ vE 44 42 [l0, l1, .ref p, l3, l4, l5] (.ref p :: st) v x := vE_s rfl rfl
theorem q44_42 : vE 44 42 [l0, l1, l2, .int a, l4, l5] st v x ↔ vE 44 43 [l0, l1, l2, .int a, l4, l5] (.int a :: st) v x := vE_s rfl rfl
theorem q44_43 : vE 44 43 [l0, l1, l2, l3, l4, .int a] st v x ↔ vE 44 45 [l0, l1, l2, l3, l4, .int a] (.int a :: st) v x := vE_s rfl rfl
theorem q44_45 : vE 44 45 [l0, l1, l2, l3, l4, l5] (w4 :: w3 :: w2 :: w1 :: w0 :: st) v x ↔ ∃ y : vm_Y, vE 46 0 [w0, w1, w2, w3, w4, .retAddr 0, .retAddr 0, .retAddr 0, .retAddr 0] [] v y ∧ vB 44 45 [l0, l1, l2, l3, l4, l5] st y x := vE_cv rfl rfl rfl rfl
theorem q44_48 : vE 44 48 [l0, l1, l2, l3, l4, .int a] st v x ↔ vE 44 51 [l0, l1, l2, l3, l4, .int (a + 1)] st v x := vE_s rfl rfl
theorem q44_51 : vE 44 51 [l0, l1, l2, l3, l4, l5] st v x ↔ vE 44 32 [l0, l1, l2, l3, l4, l5] st v x := vE_s rfl rfl
theorem q44_54 : vE 44 54 [.ref p, l1, l2, l3, l4, l5] st v x ↔ vE 44 55 [.ref p, l1, l2, l3, l4, l5] (.ref p :: st) v x := vE_s rfl rfl
theorem q44_55 : vE 44 55 [l0, .ref p, l2, l3, l4, l5] st v x ↔ vE 44 56 [l0, .ref p, l2, l3, l4, l5] (.ref p :: st) v x := vE_s rfl rfl
theorem q44_56 : vE 44 56 [l0, l1, .ref p, l3, l4, l5] st v x ↔ vE 44 57 [l0, l1, .ref p, l3, l4, l5] (.ref p :: st) v x := vE_s rfl rfl
theorem q44_57 : vE 44 57 [l0, l1, l2, .int a, l4, l5] st v x ↔ vE 44 58 [l0, l1, l2, .int a, l4, l5] (.int a :: st) v x := vE_s rfl rfl
theorem q44_58 : vE 44 58 [l0, l1, l2, l3, l4, l5] (w3 :: w2 :: w1 :: w0 :: st) v x ↔ ∃ y : vm_Y, vE 55 0 [w0, w1, w2, w3, .retAddr 0, .retAddr 0] [] v y ∧ vB 44 58 [l0, l1, l2, l3, l4, l5] st y x := vE_cv rfl rfl rfl rfl
theorem q44_61 : vE 44 61 [l0, l1, l2, l3, l4, l5] [] v x ↔ x = vd v := vE_vr rfl
theorem qt44 {X pc : Nat} {L r : List Value} : vB 44 pc L r (vt X v) x ↔ x = vt X v := vB_t rfl
/-! 45 PassChecker$Folder.forget(I)V -/
theorem q45_0 : vE 45 0 [l0, .int a] st v x ↔ vE 45 1 [l0, .int a] (.int a :: st) v x := vE_s rfl rfl
theorem q45_1 : vE 45 1 [l0, l1] (w0 :: st) v x ↔ ∃ y : vm_Y, vE 28 0 [w0] [] v y ∧ vB 45 1 [l0, l1] st y x := vE_cs rfl rfl rfl rfl
theorem q45_4 : vE 45 4 [l0, l1] (.int a :: st) v x ↔ if a = 0 then vE 45 14 [l0, l1] st v x else vE 45 7 [l0, l1] st v x := vE_if rfl rfl
theorem q45_7 : vE 45 7 [.ref p, l1] st v x ↔ vE 45 8 [.ref p, l1] (.ref p :: st) v x := vE_s rfl rfl
theorem q45_8 : vE 45 8 [l0, l1] (.ref p :: st) v x ↔ vE 45 11 [l0, l1] (.ref (p + 1) :: st) v x := vE_s rfl rfl
theorem q45_11 : vE 45 11 [l0, .int a] st v x ↔ vE 45 12 [l0, .int a] (.int a :: st) v x := vE_s rfl rfl
theorem q45_12 : vE 45 12 [l0, l1] st v x ↔ vE 45 13 [l0, l1] (.int 0 :: st) v x := vE_s rfl (by rfl)
theorem q45_13 : vE 45 13 [l0, l1] (.int b :: .int a :: .ref p :: st) v x ↔ vE 45 14 [l0, l1] st (vm_si v p a.toNatClampNeg (b &&& 1)) x := vE_s rfl rfl
theorem q45_14 : vE 45 14 [l0, l1] [] v x ↔ x = vd v := vE_vr rfl
theorem qt45 {X pc : Nat} {L r : List Value} : vB 45 pc L r (vt X v) x ↔ x = vt X v := vB_t rfl
/-! 46 PassChecker$Folder.foldCode(LPassChecker$Program;LPassChecker$Program;II)V -/
theorem q46_0 : vE 46 0 [l0, .ref p, l2, l3, l4, l5, l6, l7, l8] st v x ↔ vE 46 1 [l0, .ref p, l2, l3, l4, l5, l6, l7, l8] (.ref p :: st) v x := vE_s rfl rfl
theorem q46_1 : vE 46 1 [l0, l1, l2, .int a, l4, l5, l6, l7, l8] st v x ↔ vE 46 2 [l0, l1, l2, .int a, l4, l5, l6, l7, l8] (.int a :: st) v x := vE_s rfl rfl
theorem q46_2 : vE 46 2 [l0, l1, l2, l3, .int a, l5, l6, l7, l8] st v x ↔ vE 46 4 [l0, l1, l2, l3, .int a, l5, l6, l7, l8] (.int a :: st) v x := vE_s rfl rfl
theorem q46_4 : vE 46 4 [l0, l1, l2, l3, l4, l5, l6, l7, l8] st v x ↔ vE 46 5 [l0, l1, l2, l3, l4, l5, l6, l7, l8] (.int 0 :: st) v x := vE_s rfl (by rfl)
theorem q46_5 : vE 46 5 [l0, l1, l2, l3, l4, l5, l6, l7, l8] (w3 :: w2 :: w1 :: w0 :: st) v x ↔ ∃ y : vm_Y, vE 47 0 [w0, w1, w2, w3, .retAddr 0] [] v y ∧ vB 46 5 [l0, l1, l2, l3, l4, l5, l6, l7, l8] st y x := vE_cv rfl rfl rfl rfl
theorem q46_8 : vE 46 8 [l0, l1, l2, l3, l4, l5, l6, l7, l8] (.int a :: st) v x ↔ vE 46 10 [l0, l1, l2, l3, l4, .int a, l6, l7, l8] st v x := vE_s rfl rfl
theorem q46_10 : vE 46 10 [l0, .ref p, l2, l3, l4, l5, l6, l7, l8] st v x ↔ vE 46 11 [l0, .ref p, l2, l3, l4, l5, l6, l7, l8] (.ref p :: st) v x := vE_s rfl rfl
theorem q46_11 : vE 46 11 [l0, l1, l2, .int a, l4, l5, l6, l7, l8] st v x ↔ vE 46 12 [l0, l1, l2, .int a, l4, l5, l6, l7, l8] (.int a :: st) v x := vE_s rfl rfl
theorem q46_12 : vE 46 12 [l0, l1, l2, l3, .int a, l5, l6, l7, l8] st v x ↔ vE 46 14 [l0, l1, l2, l3, .int a, l5, l6, l7, l8] (.int a :: st) v x := vE_s rfl rfl
theorem q46_14 : vE 46 14 [l0, l1, l2, l3, l4, l5, l6, l7, l8] st v x ↔ vE 46 15 [l0, l1, l2, l3, l4, l5, l6, l7, l8] (.int 1 :: st) v x := vE_s rfl (by rfl)
theorem q46_15 : vE 46 15 [l0, l1, l2, l3, l4, l5, l6, l7, l8] (w3 :: w2 :: w1 :: w0 :: st) v x ↔ ∃ y : vm_Y, vE 47 0 [w0, w1, w2, w3, .retAddr 0] [] v y ∧ vB 46 15 [l0, l1, l2, l3, l4, l5, l6, l7, l8] st y x := vE_cv rfl rfl rfl rfl
theorem q46_18 : vE 46 18 [l0, l1, l2, l3, l4, l5, l6, l7, l8] (.int a :: st) v x ↔ vE 46 20 [l0, l1, l2, l3, l4, l5, .int a, l7, l8] st v x := vE_s rfl rfl
theorem q46_20 : vE 46 20 [l0, .ref p, l2, l3, l4, l5, l6, l7, l8] st v x ↔ vE 46 21 [l0, .ref p, l2, l3, l4, l5, l6, l7, l8] (.ref p :: st) v x := vE_s rfl rfl
theorem q46_21 : vE 46 21 [l0, l1, l2, .int a, l4, l5, l6, l7, l8] st v x ↔ vE 46 22 [l0, l1, l2, .int a, l4, l5, l6, l7, l8] (.int a :: st) v x := vE_s rfl rfl
theorem q46_22 : vE 46 22 [l0, l1, l2, l3, .int a, l5, l6, l7, l8] st v x ↔ vE 46 24 [l0, l1, l2, l3, .int a, l5, l6, l7, l8] (.int a :: st) v x := vE_s rfl rfl
theorem q46_24 : vE 46 24 [l0, l1, l2, l3, l4, l5, l6, l7, l8] st v x ↔ vE 46 25 [l0, l1, l2, l3, l4, l5, l6, l7, l8] (.int 2 :: st) v x := vE_s rfl (by rfl)
theorem q46_25 : vE 46 25 [l0, l1, l2, l3, l4, l5, l6, l7, l8] (w3 :: w2 :: w1 :: w0 :: st) v x ↔ ∃ y : vm_Y, vE 47 0 [w0, w1, w2, w3, .retAddr 0] [] v y ∧ vB 46 25 [l0, l1, l2, l3, l4, l5, l6, l7, l8] st y x := vE_cv rfl rfl rfl rfl
theorem q46_28 : vE 46 28 [l0, l1, l2, l3, l4, l5, l6, l7, l8] (.int a :: st) v x ↔ vE 46 30 [l0, l1, l2, l3, l4, l5, l6, .int a, l8] st v x := vE_s rfl rfl
theorem q46_30 : vE 46 30 [l0, .ref p, l2, l3, l4, l5, l6, l7, l8] st v x ↔ vE 46 31 [l0, .ref p, l2, l3, l4, l5, l6, l7, l8] (.ref p :: st) v x := vE_s rfl rfl
theorem q46_31 : vE 46 31 [l0, l1, l2, .int a, l4, l5, l6, l7, l8] st v x ↔ vE 46 32 [l0, l1, l2, .int a, l4, l5, l6, l7, l8] (.int a :: st) v x := vE_s rfl rfl
theorem q46_32 : vE 46 32 [l0, l1, l2, l3, .int a, l5, l6, l7, l8] st v x ↔ vE 46 34 [l0, l1, l2, l3, .int a, l5, l6, l7, l8] (.int a :: st) v x := vE_s rfl rfl
theorem q46_34 : vE 46 34 [l0, l1, l2, l3, l4, l5, l6, l7, l8] st v x ↔ vE 46 35 [l0, l1, l2, l3, l4, l5, l6, l7, l8] (.int 3 :: st) v x := vE_s rfl (by rfl)
theorem q46_35 : vE 46 35 [l0, l1, l2, l3, l4, l5, l6, l7, l8] (w3 :: w2 :: w1 :: w0 :: st) v x ↔ ∃ y : vm_Y, vE 47 0 [w0, w1, w2, w3, .retAddr 0] [] v y ∧ vB 46 35 [l0, l1, l2, l3, l4, l5, l6, l7, l8] st y x := vE_cv rfl rfl rfl rfl
theorem q46_38 : vE 46 38 [l0, l1, l2, l3, l4, l5, l6, l7, l8] (.int a :: st) v x ↔ vE 46 40 [l0, l1, l2, l3, l4, l5, l6, l7, .int a] st v x := vE_s rfl rfl
theorem q46_40 : vE 46 40 [l0, l1, l2, l3, l4, .int a, l6, l7, l8] st v x ↔ vE 46 42 [l0, l1, l2, l3, l4, .int a, l6, l7, l8] (.int a :: st) v x := vE_s rfl rfl
theorem q46_42 : vE 46 42 [l0, l1, l2, l3, l4, l5, l6, l7, l8] (.int a :: st) v x ↔ if a = 0 then vE 46 45 [l0, l1, l2, l3, l4, l5, l6, l7, l8] st v x else vE 46 56 [l0, l1, l2, l3, l4, l5, l6, l7, l8] st v x := vE_if rfl rfl
theorem q46_45 : vE 46 45 [.ref p, l1, l2, l3, l4, l5, l6, l7, l8] st v x ↔ vE 46 46 [.ref p, l1, l2, l3, l4, l5, l6, l7, l8] (.ref p :: st) v x := vE_s rfl rfl
theorem q46_46 : vE 46 46 [l0, l1, l2, l3, l4, l5, .int a, l7, l8] st v x ↔ vE 46 48 [l0, l1, l2, l3, l4, l5, .int a, l7, l8] (.int a :: st) v x := vE_s rfl rfl
theorem q46_48 : vE 46 48 [l0, l1, l2, l3, l4, l5, l6, l7, .int a] st v x ↔ vE 46 50 [l0, l1, l2, l3, l4, l5, l6, l7, .int a] (.int a :: st) v x := vE_s rfl rfl
theorem q46_50 : vE 46 50 [l0, l1, l2, l3, l4, l5, l6, l7, l8] (w2 :: w1 :: w0 :: st) v x ↔ ∃ y : vm_Y, vE 48 0 [w0, w1, w2] [] v y ∧ vB 46 50 [l0, l1, l2, l3, l4, l5, l6, l7, l8] st y x := vE_cv rfl rfl rfl rfl
theorem q46_53 : vE 46 53 [l0, l1, l2, l3, l4, l5, l6, l7, l8] st v x ↔ vE 46 181 [l0, l1, l2, l3, l4, l5, l6, l7, l8] st v x := vE_s rfl rfl
theorem q46_56 : vE 46 56 [l0, l1, l2, l3, l4, .int a, l6, l7, l8] st v x ↔ vE 46 58 [l0, l1, l2, l3, l4, .int a, l6, l7, l8] (.int a :: st) v x := vE_s rfl rfl
theorem q46_58 : vE 46 58 [l0, l1, l2, l3, l4, l5, l6, l7, l8] st v x ↔ vE 46 59 [l0, l1, l2, l3, l4, l5, l6, l7, l8] (.int 1 :: st) v x := vE_s rfl (by rfl)
theorem q46_59 : vE 46 59 [l0, l1, l2, l3, l4, l5, l6, l7, l8] (.int b :: .int a :: st) v x ↔ if a = b then vE 46 62 [l0, l1, l2, l3, l4, l5, l6, l7, l8] st v x else vE 46 103 [l0, l1, l2, l3, l4, l5, l6, l7, l8] st v x := vE_if rfl rfl
theorem q46_62 : vE 46 62 [.ref p, l1, l2, l3, l4, l5, l6, l7, l8] st v x ↔ vE 46 63 [.ref p, l1, l2, l3, l4, l5, l6, l7, l8] (.ref p :: st) v x := vE_s rfl rfl
theorem q46_63 : vE 46 63 [l0, l1, l2, l3, l4, l5, l6, .int a, l8] st v x ↔ vE 46 65 [l0, l1, l2, l3, l4, l5, l6, .int a, l8] (.int a :: st) v x := vE_s rfl rfl
theorem q46_65 : vE 46 65 [l0, l1, l2, l3, l4, l5, l6, l7, l8] (w1 :: w0 :: st) v x ↔ ∃ y : vm_Y, vE 49 0 [w0, w1] [] v y ∧ vB 46 65 [l0, l1, l2, l3, l4, l5, l6, l7, l8] st y x := vE_cv rfl rfl rfl rfl
theorem q46_68 : vE 46 68 [l0, l1, l2, l3, l4, l5, l6, l7, l8] (.int a :: st) v x ↔ if a = 0 then vE 46 103 [l0, l1, l2, l3, l4, l5, l6, l7, l8] st v x else vE 46 71 [l0, l1, l2, l3, l4, l5, l6, l7, l8] st v x := vE_if rfl rfl
theorem q46_71 : vE 46 71 [.ref p, l1, l2, l3, l4, l5, l6, l7, l8] st v x ↔ vE 46 72 [.ref p, l1, l2, l3, l4, l5, l6, l7, l8] (.ref p :: st) v x := vE_s rfl rfl
theorem q46_72 : vE 46 72 [l0, l1, l2, l3, l4, l5, .int a, l7, l8] st v x ↔ vE 46 74 [l0, l1, l2, l3, l4, l5, .int a, l7, l8] (.int a :: st) v x := vE_s rfl rfl
theorem q46_74 : vE 46 74 [.ref p, l1, l2, l3, l4, l5, l6, l7, l8] st v x ↔ vE 46 75 [.ref p, l1, l2, l3, l4, l5, l6, l7, l8] (.ref p :: st) v x := vE_s rfl rfl
theorem q46_75 : vE 46 75 [l0, l1, l2, l3, l4, l5, l6, .int a, l8] st v x ↔ vE 46 77 [l0, l1, l2, l3, l4, l5, l6, .int a, l8] (.int a :: st) v x := vE_s rfl rfl
theorem q46_77 : vE 46 77 [l0, l1, l2, l3, l4, l5, l6, l7, l8] (w1 :: w0 :: st) v x ↔ ∃ y : vm_Y, vE 50 0 [w0, w1] [] v y ∧ vB 46 77 [l0, l1, l2, l3, l4, l5, l6, l7, l8] st y x := vE_cv rfl rfl rfl rfl
theorem q46_80 : vE 46 80 [l0, l1, l2, l3, l4, l5, l6, l7, l8] (w2 :: w1 :: w0 :: st) v x ↔ ∃ y : vm_Y, vE 48 0 [w0, w1, w2] [] v y ∧ vB 46 80 [l0, l1, l2, l3, l4, l5, l6, l7, l8] st y x := vE_cv rfl rfl rfl rfl
theorem q46_83 : vE 46 83 [l0, l1, .ref p, l3, l4, l5, l6, l7, l8] st v x ↔ vE 46 84 [l0, l1, .ref p, l3, l4, l5, l6, l7, l8] (.ref p :: st) v x := vE_s rfl rfl
theorem q46_84 : vE 46 84 [l0, l1, l2, .int a, l4, l5, l6, l7, l8] st v x ↔ vE 46 85 [l0, l1, l2, .int a, l4, l5, l6, l7, l8] (.int a :: st) v x := vE_s rfl rfl
theorem q46_85 : vE 46 85 [l0, l1, l2, l3, .int a, l5, l6, l7, l8] st v x ↔ vE 46 87 [l0, l1, l2, l3, .int a, l5, l6, l7, l8] (.int a :: st) v x := vE_s rfl rfl
theorem q46_87 : vE 46 87 [l0, l1, l2, l3, l4, l5, l6, l7, l8] st v x ↔ vE 46 88 [l0, l1, l2, l3, l4, l5, l6, l7, l8] (.int 0 :: st) v x := vE_s rfl (by rfl)
theorem q46_88 : vE 46 88 [l0, l1, l2, l3, l4, l5, .int a, l7, l8] st v x ↔ vE 46 90 [l0, l1, l2, l3, l4, l5, .int a, l7, l8] (.int a :: st) v x := vE_s rfl rfl
theorem q46_90 : vE 46 90 [l0, l1, l2, l3, l4, l5, l6, l7, l8] st v x ↔ vE 46 91 [l0, l1, l2, l3, l4, l5, l6, l7, l8] (.int 0 :: st) v x := vE_s rfl (by rfl)
theorem q46_91 : vE 46 91 [.ref p, l1, l2, l3, l4, l5, l6, l7, l8] st v x ↔ vE 46 92 [.ref p, l1, l2, l3, l4, l5, l6, l7, l8] (.ref p :: st) v x := vE_s rfl rfl
theorem q46_92 : vE 46 92 [l0, l1, l2, l3, l4, l5, .int a, l7, l8] st v x ↔ vE 46 94 [l0, l1, l2, l3, l4, l5, .int a, l7, l8] (.int a :: st) v x := vE_s rfl rfl
theorem q46_94 : vE 46 94 [l0, l1, l2, l3, l4, l5, l6, l7, l8] (w1 :: w0 :: st) v x ↔ ∃ y : vm_Y, vE 50 0 [w0, w1] [] v y ∧ vB 46 94 [l0, l1, l2, l3, l4, l5, l6, l7, l8] st y x := vE_cv rfl rfl rfl rfl
theorem q46_97 : vE 46 97 [l0, l1, l2, l3, l4, l5, l6, l7, l8] (w6 :: w5 :: w4 :: w3 :: w2 :: w1 :: w0 :: st) v x ↔ ∃ y : vm_Y, vE 33 0 [w0, w1, w2, w3, w4, w5, w6, .retAddr 0] [] v y ∧ vB 46 97 [l0, l1, l2, l3, l4, l5, l6, l7, l8] st y x := vE_cv rfl rfl rfl rfl
theorem q46_100 : vE 46 100 [l0, l1, l2, l3, l4, l5, l6, l7, l8] st v x ↔ vE 46 181 [l0, l1, l2, l3, l4, l5, l6, l7, l8] st v x := vE_s rfl rfl
theorem q46_103 : vE 46 103 [l0, l1, l2, l3, l4, .int a, l6, l7, l8] st v x ↔ vE 46 105 [l0, l1, l2, l3, l4, .int a, l6, l7, l8] (.int a :: st) v x := vE_s rfl rfl
theorem q46_105 : vE 46 105 [l0, l1, l2, l3, l4, l5, l6, l7, l8] (w0 :: st) v x ↔ ∃ y : vm_Y, vE 51 0 [w0] [] v y ∧ vB 46 105 [l0, l1, l2, l3, l4, l5, l6, l7, l8] st y x := vE_cs rfl rfl rfl rfl
theorem q46_108 : vE 46 108 [l0, l1, l2, l3, l4, l5, l6, l7, l8] (.int a :: st) v x ↔ if a = 0 then vE 46 167 [l0, l1, l2, l3, l4, l5, l6, l7, l8] st v x else vE 46 111 [l0, l1, l2, l3, l4, l5, l6, l7, l8] st v x := vE_if rfl rfl
theorem q46_111 : vE 46 111 [.ref p, l1, l2, l3, l4, l5, l6, l7, l8] st v x ↔ vE 46 112 [.ref p, l1, l2, l3, l4, l5, l6, l7, l8] (.ref p :: st) v x := vE_s rfl rfl
theorem q46_112 : vE 46 112 [l0, l1, l2, l3, l4, .int a, l6, l7, l8] st v x ↔ vE 46 114 [l0, l1, l2, l3, l4, .int a, l6, l7, l8] (.int a :: st) v x := vE_s rfl rfl
theorem q46_114 : vE 46 114 [l0, l1, l2, l3, l4, l5, l6, .int a, l8] st v x ↔ vE 46 116 [l0, l1, l2, l3, l4, l5, l6, .int a, l8] (.int a :: st) v x := vE_s rfl rfl
theorem q46_116 : vE 46 116 [l0, l1, l2, l3, l4, l5, l6, l7, .int a] st v x ↔ vE 46 118 [l0, l1, l2, l3, l4, l5, l6, l7, .int a] (.int a :: st) v x := vE_s rfl rfl
theorem q46_118 : vE 46 118 [l0, l1, l2, l3, l4, l5, l6, l7, l8] (w3 :: w2 :: w1 :: w0 :: st) v x ↔ ∃ y : vm_Y, vE 52 0 [w0, w1, w2, w3] [] v y ∧ vB 46 118 [l0, l1, l2, l3, l4, l5, l6, l7, l8] st y x := vE_cv rfl rfl rfl rfl
theorem q46_121 : vE 46 121 [l0, l1, l2, l3, l4, l5, l6, l7, l8] (.int a :: st) v x ↔ if a = 0 then vE 46 167 [l0, l1, l2, l3, l4, l5, l6, l7, l8] st v x else vE 46 124 [l0, l1, l2, l3, l4, l5, l6, l7, l8] st v x := vE_if rfl rfl
theorem q46_124 : vE 46 124 [.ref p, l1, l2, l3, l4, l5, l6, l7, l8] st v x ↔ vE 46 125 [.ref p, l1, l2, l3, l4, l5, l6, l7, l8] (.ref p :: st) v x := vE_s rfl rfl
theorem q46_125 : vE 46 125 [l0, l1, l2, l3, l4, l5, .int a, l7, l8] st v x ↔ vE 46 127 [l0, l1, l2, l3, l4, l5, .int a, l7, l8] (.int a :: st) v x := vE_s rfl rfl
theorem q46_127 : vE 46 127 [l0, l1, l2, l3, l4, .int a, l6, l7, l8] st v x ↔ vE 46 129 [l0, l1, l2, l3, l4, .int a, l6, l7, l8] (.int a :: st) v x := vE_s rfl rfl
theorem q46_129 : vE 46 129 [.ref p, l1, l2, l3, l4, l5, l6, l7, l8] st v x ↔ vE 46 130 [.ref p, l1, l2, l3, l4, l5, l6, l7, l8] (.ref p :: st) v x := vE_s rfl rfl
theorem q46_130 : vE 46 130 [l0, l1, l2, l3, l4, l5, l6, .int a, l8] st v x ↔ vE 46 132 [l0, l1, l2, l3, l4, l5, l6, .int a, l8] (.int a :: st) v x := vE_s rfl rfl
theorem q46_132 : vE 46 132 [l0, l1, l2, l3, l4, l5, l6, l7, l8] (w1 :: w0 :: st) v x ↔ ∃ y : vm_Y, vE 50 0 [w0, w1] [] v y ∧ vB 46 132 [l0, l1, l2, l3, l4, l5, l6, l7, l8] st y x := vE_cv rfl rfl rfl rfl
theorem q46_135 : vE 46 135 [.ref p, l1, l2, l3, l4, l5, l6, l7, l8] st v x ↔ vE 46 136 [.ref p, l1, l2, l3, l4, l5, l6, l7, l8] (.ref p :: st) v x := vE_s rfl rfl
theorem q46_136 : vE 46 136 [l0, l1, l2, l3, l4, l5, l6, l7, .int a] st v x ↔ vE 46 138 [l0, l1, l2, l3, l4, l5, l6, l7, .int a] (.int a :: st) v x := vE_s rfl rfl
theorem q46_138 : vE 46 138 [l0, l1, l2, l3, l4, l5, l6, l7, l8] (w1 :: w0 :: st) v x ↔ ∃ y : vm_Y, vE 50 0 [w0, w1] [] v y ∧ vB 46 138 [l0, l1, l2, l3, l4, l5, l6, l7, l8] st y x := vE_cv rfl rfl rfl rfl
theorem q46_141 : vE 46 141 [l0, l1, l2, l3, l4, l5, l6, l7, l8] (w2 :: w1 :: w0 :: st) v x ↔ ∃ y : vm_Y, vE 54 0 [w0, w1, w2] [] v y ∧ vB 46 141 [l0, l1, l2, l3, l4, l5, l6, l7, l8] st y x := vE_cs rfl rfl rfl rfl
theorem q46_144 : vE 46 144 [l0, l1, l2, l3, l4, l5, l6, l7, l8] (w2 :: w1 :: w0 :: st) v x ↔ ∃ y : vm_Y, vE 48 0 [w0, w1, w2] [] v y ∧ vB 46 144 [l0, l1, l2, l3, l4, l5, l6, l7, l8] st y x := vE_cv rfl rfl rfl rfl
theorem q46_147 : vE 46 147 [l0, l1, .ref p, l3, l4, l5, l6, l7, l8] st v x ↔ vE 46 148 [l0, l1, .ref p, l3, l4, l5, l6, l7, l8] (.ref p :: st) v x := vE_s rfl rfl
theorem q46_148 : vE 46 148 [l0, l1, l2, .int a, l4, l5, l6, l7, l8] st v x ↔ vE 46 149 [l0, l1, l2, .int a, l4, l5, l6, l7, l8] (.int a :: st) v x := vE_s rfl rfl
theorem q46_149 : vE 46 149 [l0, l1, l2, l3, .int a, l5, l6, l7, l8] st v x ↔ vE 46 151 [l0, l1, l2, l3, .int a, l5, l6, l7, l8] (.int a :: st) v x := vE_s rfl rfl
theorem q46_151 : vE 46 151 [l0, l1, l2, l3, l4, l5, l6, l7, l8] st v x ↔ vE 46 152 [l0, l1, l2, l3, l4, l5, l6, l7, l8] (.int 0 :: st) v x := vE_s rfl (by rfl)
theorem q46_152 : vE 46 152 [l0, l1, l2, l3, l4, l5, .int a, l7, l8] st v x ↔ vE 46 154 [l0, l1, l2, l3, l4, l5, .int a, l7, l8] (.int a :: st) v x := vE_s rfl rfl
theorem q46_154 : vE 46 154 [l0, l1, l2, l3, l4, l5, l6, l7, l8] st v x ↔ vE 46 155 [l0, l1, l2, l3, l4, l5, l6, l7, l8] (.int 0 :: st) v x := vE_s rfl (by rfl)
theorem q46_155 : vE 46 155 [.ref p, l1, l2, l3, l4, l5, l6, l7, l8] st v x ↔ vE 46 156 [.ref p, l1, l2, l3, l4, l5, l6, l7, l8] (.ref p :: st) v x := vE_s rfl rfl
theorem q46_156 : vE 46 156 [l0, l1, l2, l3, l4, l5, .int a, l7, l8] st v x ↔ vE 46 158 [l0, l1, l2, l3, l4, l5, .int a, l7, l8] (.int a :: st) v x := vE_s rfl rfl
theorem q46_158 : vE 46 158 [l0, l1, l2, l3, l4, l5, l6, l7, l8] (w1 :: w0 :: st) v x ↔ ∃ y : vm_Y, vE 50 0 [w0, w1] [] v y ∧ vB 46 158 [l0, l1, l2, l3, l4, l5, l6, l7, l8] st y x := vE_cv rfl rfl rfl rfl
theorem q46_161 : vE 46 161 [l0, l1, l2, l3, l4, l5, l6, l7, l8] (w6 :: w5 :: w4 :: w3 :: w2 :: w1 :: w0 :: st) v x ↔ ∃ y : vm_Y, vE 33 0 [w0, w1, w2, w3, w4, w5, w6, .retAddr 0] [] v y ∧ vB 46 161 [l0, l1, l2, l3, l4, l5, l6, l7, l8] st y x := vE_cv rfl rfl rfl rfl
theorem q46_164 : vE 46 164 [l0, l1, l2, l3, l4, l5, l6, l7, l8] st v x ↔ vE 46 181 [l0, l1, l2, l3, l4, l5, l6, l7, l8] st v x := vE_s rfl rfl
theorem q46_167 : vE 46 167 [l0, l1, l2, l3, l4, .int a, l6, l7, l8] st v x ↔ vE 46 169 [l0, l1, l2, l3, l4, .int a, l6, l7, l8] (.int a :: st) v x := vE_s rfl rfl
theorem q46_169 : vE 46 169 [l0, l1, l2, l3, l4, l5, l6, l7, l8] (w0 :: st) v x ↔ ∃ y : vm_Y, vE 26 0 [w0] [] v y ∧ vB 46 169 [l0, l1, l2, l3, l4, l5, l6, l7, l8] st y x := vE_cs rfl rfl rfl rfl
theorem q46_172 : vE 46 172 [l0, l1, l2, l3, l4, l5, l6, l7, l8] (.int a :: st) v x ↔ if a = 0 then vE 46 181 [l0, l1, l2, l3, l4, l5, l6, l7, l8] st v x else vE 46 175 [l0, l1, l2, l3, l4, l5, l6, l7, l8] st v x := vE_if rfl rfl
theorem q46_175 : vE 46 175 [.ref p, l1, l2, l3, l4, l5, l6, l7, l8] st v x ↔ vE 46 176 [.ref p, l1, l2, l3, l4, l5, l6, l7, l8] (.ref p :: st) v x := vE_s rfl rfl
theorem q46_176 : vE 46 176 [l0, l1, l2, l3, l4, l5, .int a, l7, l8] st v x ↔ vE 46 178 [l0, l1, l2, l3, l4, l5, .int a, l7, l8] (.int a :: st) v x := vE_s rfl rfl
theorem q46_178 : vE 46 178 [l0, l1, l2, l3, l4, l5, l6, l7, l8] (w1 :: w0 :: st) v x ↔ ∃ y : vm_Y, vE 45 0 [w0, w1] [] v y ∧ vB 46 178 [l0, l1, l2, l3, l4, l5, l6, l7, l8] st y x := vE_cv rfl rfl rfl rfl
theorem q46_181 : vE 46 181 [l0, l1, l2, l3, l4, l5, l6, l7, l8] [] v x ↔ x = vd v := vE_vr rfl
theorem qt46 {X pc : Nat} {L r : List Value} : vB 46 pc L r (vt X v) x ↔ x = vt X v := vB_t rfl
/-! 48 PassChecker$Folder.note(II)V -/
theorem q48_0 : vE 48 0 [l0, .int a, l2] st v x ↔ vE 48 1 [l0, .int a, l2] (.int a :: st) v x := vE_s rfl rfl
theorem q48_1 : vE 48 1 [l0, l1, l2] (w0 :: st) v x ↔ ∃ y : vm_Y, vE 28 0 [w0] [] v y ∧ vB 48 1 [l0, l1, l2] st y x := vE_cs rfl rfl rfl rfl
theorem q48_4 : vE 48 4 [l0, l1, l2] (.int a :: st) v x ↔ if a = 0 then vE 48 21 [l0, l1, l2] st v x else vE 48 7 [l0, l1, l2] st v x := vE_if rfl rfl
theorem q48_7 : vE 48 7 [.ref p, l1, l2] st v x ↔ vE 48 8 [.ref p, l1, l2] (.ref p :: st) v x := vE_s rfl rfl
theorem q48_8 : vE 48 8 [l0, l1, l2] (.ref p :: st) v x ↔ vE 48 11 [l0, l1, l2] (.ref (p + 1) :: st) v x := vE_s rfl rfl
theorem q48_11 : vE 48 11 [l0, .int a, l2] st v x ↔ vE 48 12 [l0, .int a, l2] (.int a :: st) v x := vE_s rfl rfl
theorem q48_12 : vE 48 12 [l0, l1, l2] st v x ↔ vE 48 13 [l0, l1, l2] (.int 1 :: st) v x := vE_s rfl (by rfl)
theorem q48_13 : vE 48 13 [l0, l1, l2] (.int b :: .int a :: .ref p :: st) v x ↔ vE 48 14 [l0, l1, l2] st (vm_si v p a.toNatClampNeg (b &&& 1)) x := vE_s rfl rfl
theorem q48_14 : vE 48 14 [.ref p, l1, l2] st v x ↔ vE 48 15 [.ref p, l1, l2] (.ref p :: st) v x := vE_s rfl rfl
theorem q48_15 : vE 48 15 [l0, l1, l2] (.ref p :: st) v x ↔ vE 48 18 [l0, l1, l2] (.ref (p + 2) :: st) v x := vE_s rfl rfl
theorem q48_18 : vE 48 18 [l0, .int a, l2] st v x ↔ vE 48 19 [l0, .int a, l2] (.int a :: st) v x := vE_s rfl rfl
theorem q48_19 : vE 48 19 [l0, l1, .int a] st v x ↔ vE 48 20 [l0, l1, .int a] (.int a :: st) v x := vE_s rfl rfl
theorem q48_20 : vE 48 20 [l0, l1, l2] (.int b :: .int a :: .ref p :: st) v x ↔ vE 48 21 [l0, l1, l2] st (vm_si v p a.toNatClampNeg b) x := vE_s rfl rfl
theorem q48_21 : vE 48 21 [l0, l1, l2] [] v x ↔ x = vd v := vE_vr rfl
theorem qt48 {X pc : Nat} {L r : List Value} : vB 48 pc L r (vt X v) x ↔ x = vt X v := vB_t rfl
/-! 49 PassChecker$Folder.isKnown(I)Z -/
theorem q49_0 : vE 49 0 [l0, .int a] st v x ↔ vE 49 1 [l0, .int a] (.int a :: st) v x := vE_s rfl rfl
theorem q49_1 : vE 49 1 [l0, l1] (w0 :: st) v x ↔ ∃ y : vm_Y, vE 28 0 [w0] [] v y ∧ vB 49 1 [l0, l1] st y x := vE_cs rfl rfl rfl rfl
theorem q49_4 : vE 49 4 [l0, l1] (.int a :: st) v x ↔ if a = 0 then vE 49 20 [l0, l1] st v x else vE 49 7 [l0, l1] st v x := vE_if rfl rfl
theorem q49_7 : vE 49 7 [.ref p, l1] st v x ↔ vE 49 8 [.ref p, l1] (.ref p :: st) v x := vE_s rfl rfl
theorem q49_8 : vE 49 8 [l0, l1] (.ref p :: st) v x ↔ vE 49 11 [l0, l1] (.ref (p + 1) :: st) v x := vE_s rfl rfl
theorem q49_11 : vE 49 11 [l0, .int a] st v x ↔ vE 49 12 [l0, .int a] (.int a :: st) v x := vE_s rfl rfl
theorem q49_12 : vE 49 12 [l0, l1] (.int a :: .ref p :: st) v x ↔ vE 49 13 [l0, l1] (.int (v.1 p a.toNatClampNeg) :: st) v x := vE_s rfl rfl
theorem q49_13 : vE 49 13 [l0, l1] (.int a :: st) v x ↔ if a = 0 then vE 49 20 [l0, l1] st v x else vE 49 16 [l0, l1] st v x := vE_if rfl rfl
theorem q49_16 : vE 49 16 [l0, l1] st v x ↔ vE 49 17 [l0, l1] (.int 1 :: st) v x := vE_s rfl (by rfl)
theorem q49_17 : vE 49 17 [l0, l1] st v x ↔ vE 49 21 [l0, l1] st v x := vE_s rfl rfl
theorem q49_20 : vE 49 20 [l0, l1] st v x ↔ vE 49 21 [l0, l1] (.int 0 :: st) v x := vE_s rfl (by rfl)
theorem q49_21 : vE 49 21 [l0, l1] ([.int a]) v x ↔ x = vr a v := vE_ir rfl
theorem qt49 {X pc : Nat} {L r : List Value} : vB 49 pc L r (vt X v) x ↔ x = vt X v := vB_t rfl
/-! 50 PassChecker$Folder.numberIn(I)I -/
theorem q50_0 : vE 50 0 [l0, .int a] st v x ↔ vE 50 1 [l0, .int a] (.int a :: st) v x := vE_s rfl rfl
theorem q50_1 : vE 50 1 [l0, l1] (w0 :: st) v x ↔ ∃ y : vm_Y, vE 28 0 [w0] [] v y ∧ vB 50 1 [l0, l1] st y x := vE_cs rfl rfl rfl rfl
theorem q50_4 : vE 50 4 [l0, l1] (.int a :: st) v x ↔ if a = 0 then vE 50 16 [l0, l1] st v x else vE 50 7 [l0, l1] st v x := vE_if rfl rfl
theorem q50_7 : vE 50 7 [.ref p, l1] st v x ↔ vE 50 8 [.ref p, l1] (.ref p :: st) v x := vE_s rfl rfl
theorem q50_8 : vE 50 8 [l0, l1] (.ref p :: st) v x ↔ vE 50 11 [l0, l1] (.ref (p + 2) :: st) v x := vE_s rfl rfl
theorem q50_11 : vE 50 11 [l0, .int a] st v x ↔ vE 50 12 [l0, .int a] (.int a :: st) v x := vE_s rfl rfl
theorem q50_12 : vE 50 12 [l0, l1] (.int a :: .ref p :: st) v x ↔ vE 50 13 [l0, l1] (.int (v.1 p a.toNatClampNeg) :: st) v x := vE_s rfl rfl
theorem q50_13 : vE 50 13 [l0, l1] st v x ↔ vE 50 17 [l0, l1] st v x := vE_s rfl rfl
theorem q50_16 : vE 50 16 [l0, l1] st v x ↔ vE 50 17 [l0, l1] (.int 0 :: st) v x := vE_s rfl (by rfl)
theorem q50_17 : vE 50 17 [l0, l1] ([.int a]) v x ↔ x = vr a v := vE_ir rfl
theorem qt50 {X pc : Nat} {L r : List Value} : vB 50 pc L r (vt X v) x ↔ x = vt X v := vB_t rfl
/-! 51 PassChecker.isCalculation(I)Z -/
theorem q51_0 : vE 51 0 [.int a] st v x ↔ vE 51 1 [.int a] (.int a :: st) v x := vE_s rfl rfl
theorem q51_1 : vE 51 1 [l0] st v x ↔ vE 51 2 [l0] (.int 2 :: st) v x := vE_s rfl (by rfl)
theorem q51_2 : vE 51 2 [l0] (.int b :: .int a :: st) v x ↔ if a < b then vE 51 15 [l0] st v x else vE 51 5 [l0] st v x := vE_if rfl rfl
theorem q51_5 : vE 51 5 [.int a] st v x ↔ vE 51 6 [.int a] (.int a :: st) v x := vE_s rfl rfl
theorem q51_6 : vE 51 6 [l0] st v x ↔ vE 51 8 [l0] (.int 7 :: st) v x := vE_s rfl (by rfl)
theorem q51_8 : vE 51 8 [l0] (.int b :: .int a :: st) v x ↔ if b < a then vE 51 15 [l0] st v x else vE 51 11 [l0] st v x := vE_if rfl rfl
theorem q51_11 : vE 51 11 [l0] st v x ↔ vE 51 12 [l0] (.int 1 :: st) v x := vE_s rfl (by rfl)
theorem q51_12 : vE 51 12 [l0] st v x ↔ vE 51 16 [l0] st v x := vE_s rfl rfl
theorem q51_15 : vE 51 15 [l0] st v x ↔ vE 51 16 [l0] (.int 0 :: st) v x := vE_s rfl (by rfl)
theorem q51_16 : vE 51 16 [l0] ([.int a]) v x ↔ x = vr a v := vE_ir rfl
/-! 52 PassChecker$Folder.canCalculate(III)Z -/
theorem q52_0 : vE 52 0 [.ref p, l1, l2, l3] st v x ↔ vE 52 1 [.ref p, l1, l2, l3] (.ref p :: st) v x := vE_s rfl rfl
theorem q52_1 : vE 52 1 [l0, l1, .int a, l3] st v x ↔ vE 52 2 [l0, l1, .int a, l3] (.int a :: st) v x := vE_s rfl rfl
theorem q52_2 : vE 52 2 [l0, l1, l2, l3] (w1 :: w0 :: st) v x ↔ ∃ y : vm_Y, vE 49 0 [w0, w1] [] v y ∧ vB 52 2 [l0, l1, l2, l3] st y x := vE_cv rfl rfl rfl rfl
theorem q52_5 : vE 52 5 [l0, l1, l2, l3] (.int a :: st) v x ↔ if a = 0 then vE 52 32 [l0, l1, l2, l3] st v x else vE 52 8 [l0, l1, l2, l3] st v x := vE_if rfl rfl
theorem q52_8 : vE 52 8 [.ref p, l1, l2, l3] st v x ↔ vE 52 9 [.ref p, l1, l2, l3] (.ref p :: st) v x := vE_s rfl rfl
theorem q52_9 : vE 52 9 [l0, l1, l2, .int a] st v x ↔ vE 52 10 [l0, l1, l2, .int a] (.int a :: st) v x := vE_s rfl rfl
theorem q52_10 : vE 52 10 [l0, l1, l2, l3] (w1 :: w0 :: st) v x ↔ ∃ y : vm_Y, vE 49 0 [w0, w1] [] v y ∧ vB 52 10 [l0, l1, l2, l3] st y x := vE_cv rfl rfl rfl rfl
theorem q52_13 : vE 52 13 [l0, l1, l2, l3] (.int a :: st) v x ↔ if a = 0 then vE 52 32 [l0, l1, l2, l3] st v x else vE 52 16 [l0, l1, l2, l3] st v x := vE_if rfl rfl
theorem q52_16 : vE 52 16 [l0, .int a, l2, l3] st v x ↔ vE 52 17 [l0, .int a, l2, l3] (.int a :: st) v x := vE_s rfl rfl
theorem q52_17 : vE 52 17 [.ref p, l1, l2, l3] st v x ↔ vE 52 18 [.ref p, l1, l2, l3] (.ref p :: st) v x := vE_s rfl rfl
theorem q52_18 : vE 52 18 [l0, l1, l2, .int a] st v x ↔ vE 52 19 [l0, l1, l2, .int a] (.int a :: st) v x := vE_s rfl rfl
theorem q52_19 : vE 52 19 [l0, l1, l2, l3] (w1 :: w0 :: st) v x ↔ ∃ y : vm_Y, vE 50 0 [w0, w1] [] v y ∧ vB 52 19 [l0, l1, l2, l3] st y x := vE_cv rfl rfl rfl rfl
theorem q52_22 : vE 52 22 [l0, l1, l2, l3] (w1 :: w0 :: st) v x ↔ ∃ y : vm_Y, vE 53 0 [w0, w1] [] v y ∧ vB 52 22 [l0, l1, l2, l3] st y x := vE_cs rfl rfl rfl rfl
theorem q52_25 : vE 52 25 [l0, l1, l2, l3] (.int a :: st) v x ↔ if a = 0 then vE 52 28 [l0, l1, l2, l3] st v x else vE 52 32 [l0, l1, l2, l3] st v x := vE_if rfl rfl
theorem q52_28 : vE 52 28 [l0, l1, l2, l3] st v x ↔ vE 52 29 [l0, l1, l2, l3] (.int 1 :: st) v x := vE_s rfl (by rfl)
theorem q52_29 : vE 52 29 [l0, l1, l2, l3] st v x ↔ vE 52 33 [l0, l1, l2, l3] st v x := vE_s rfl rfl
theorem q52_32 : vE 52 32 [l0, l1, l2, l3] st v x ↔ vE 52 33 [l0, l1, l2, l3] (.int 0 :: st) v x := vE_s rfl (by rfl)
theorem q52_33 : vE 52 33 [l0, l1, l2, l3] ([.int a]) v x ↔ x = vr a v := vE_ir rfl
theorem qt52 {X pc : Nat} {L r : List Value} : vB 52 pc L r (vt X v) x ↔ x = vt X v := vB_t rfl
/-! 53 PassChecker.dividesByZero(II)Z -/
theorem q53_0 : vE 53 0 [.int a, l1] st v x ↔ vE 53 1 [.int a, l1] (.int a :: st) v x := vE_s rfl rfl
theorem q53_1 : vE 53 1 [l0, l1] st v x ↔ vE 53 3 [l0, l1] (.int 7 :: st) v x := vE_s rfl (by rfl)
theorem q53_3 : vE 53 3 [l0, l1] (.int b :: .int a :: st) v x ↔ if a = b then vE 53 6 [l0, l1] st v x else vE 53 14 [l0, l1] st v x := vE_if rfl rfl
theorem q53_6 : vE 53 6 [l0, .int a] st v x ↔ vE 53 7 [l0, .int a] (.int a :: st) v x := vE_s rfl rfl
theorem q53_7 : vE 53 7 [l0, l1] (.int a :: st) v x ↔ if a = 0 then vE 53 10 [l0, l1] st v x else vE 53 14 [l0, l1] st v x := vE_if rfl rfl
theorem q53_10 : vE 53 10 [l0, l1] st v x ↔ vE 53 11 [l0, l1] (.int 1 :: st) v x := vE_s rfl (by rfl)
theorem q53_11 : vE 53 11 [l0, l1] st v x ↔ vE 53 15 [l0, l1] st v x := vE_s rfl rfl
theorem q53_14 : vE 53 14 [l0, l1] st v x ↔ vE 53 15 [l0, l1] (.int 0 :: st) v x := vE_s rfl (by rfl)
theorem q53_15 : vE 53 15 [l0, l1] ([.int a]) v x ↔ x = vr a v := vE_ir rfl
/-! 54 PassChecker.calculate(III)I -/
theorem q54_0 : vE 54 0 [.int a, l1, l2] st v x ↔ vE 54 1 [.int a, l1, l2] (.int a :: st) v x := vE_s rfl rfl
theorem q54_1 : vE 54 1 [l0, l1, l2] (.int a :: st) v x ↔ if a = 2 then vE 54 40 [l0, l1, l2] st v x else if a = 3 then vE 54 44 [l0, l1, l2] st v x else if a = 4 then vE 54 48 [l0, l1, l2] st v x else if a = 5 then vE 54 52 [l0, l1, l2] st v x else if a = 6 then vE 54 56 [l0, l1, l2] st v x else if a = 7 then vE 54 67 [l0, l1, l2] st v x else vE 54 79 [l0, l1, l2] st v x := vE_ts (d := 78) (lo := 2) (hi := 7) (os := #[39, 43, 47, 51, 55, 66]) rfl (by decide) (by decide) (by decide)
theorem q54_40 : vE 54 40 [l0, .int a, l2] st v x ↔ vE 54 41 [l0, .int a, l2] (.int a :: st) v x := vE_s rfl rfl
theorem q54_41 : vE 54 41 [l0, l1, .int a] st v x ↔ vE 54 42 [l0, l1, .int a] (.int a :: st) v x := vE_s rfl rfl
theorem q54_42 : vE 54 42 [l0, l1, l2] (.int b :: .int a :: st) v x ↔ vE 54 43 [l0, l1, l2] (.int (a + b) :: st) v x := vE_s rfl rfl
theorem q54_43 : vE 54 43 [l0, l1, l2] ([.int a]) v x ↔ x = vr a v := vE_ir rfl
theorem q54_44 : vE 54 44 [l0, .int a, l2] st v x ↔ vE 54 45 [l0, .int a, l2] (.int a :: st) v x := vE_s rfl rfl
theorem q54_45 : vE 54 45 [l0, l1, .int a] st v x ↔ vE 54 46 [l0, l1, .int a] (.int a :: st) v x := vE_s rfl rfl
theorem q54_46 : vE 54 46 [l0, l1, l2] (.int b :: .int a :: st) v x ↔ vE 54 47 [l0, l1, l2] (.int (a - b) :: st) v x := vE_s rfl rfl
theorem q54_47 : vE 54 47 [l0, l1, l2] ([.int a]) v x ↔ x = vr a v := vE_ir rfl
theorem q54_48 : vE 54 48 [l0, .int a, l2] st v x ↔ vE 54 49 [l0, .int a, l2] (.int a :: st) v x := vE_s rfl rfl
theorem q54_49 : vE 54 49 [l0, l1, .int a] st v x ↔ vE 54 50 [l0, l1, .int a] (.int a :: st) v x := vE_s rfl rfl
theorem q54_50 : vE 54 50 [l0, l1, l2] (.int b :: .int a :: st) v x ↔ vE 54 51 [l0, l1, l2] (.int (a * b) :: st) v x := vE_s rfl rfl
theorem q54_51 : vE 54 51 [l0, l1, l2] ([.int a]) v x ↔ x = vr a v := vE_ir rfl
theorem q54_52 : vE 54 52 [l0, .int a, l2] st v x ↔ vE 54 53 [l0, .int a, l2] (.int a :: st) v x := vE_s rfl rfl
theorem q54_53 : vE 54 53 [l0, l1, .int a] st v x ↔ vE 54 54 [l0, l1, .int a] (.int a :: st) v x := vE_s rfl rfl
theorem q54_54 : vE 54 54 [l0, l1, l2] (.int b :: .int a :: st) v x ↔ vE 54 55 [l0, l1, l2] (.int (a &&& b) :: st) v x := vE_s rfl rfl
theorem q54_55 : vE 54 55 [l0, l1, l2] ([.int a]) v x ↔ x = vr a v := vE_ir rfl
theorem q54_56 : vE 54 56 [l0, .int a, l2] st v x ↔ vE 54 57 [l0, .int a, l2] (.int a :: st) v x := vE_s rfl rfl
theorem q54_57 : vE 54 57 [l0, l1, .int a] st v x ↔ vE 54 58 [l0, l1, .int a] (.int a :: st) v x := vE_s rfl rfl
theorem q54_58 : vE 54 58 [l0, l1, l2] (.int b :: .int a :: st) v x ↔ if b ≤ a then vE 54 65 [l0, l1, l2] st v x else vE 54 61 [l0, l1, l2] st v x := vE_if rfl rfl
theorem q54_61 : vE 54 61 [l0, l1, l2] st v x ↔ vE 54 62 [l0, l1, l2] (.int 1 :: st) v x := vE_s rfl (by rfl)
theorem q54_62 : vE 54 62 [l0, l1, l2] st v x ↔ vE 54 66 [l0, l1, l2] st v x := vE_s rfl rfl
theorem q54_65 : vE 54 65 [l0, l1, l2] st v x ↔ vE 54 66 [l0, l1, l2] (.int 0 :: st) v x := vE_s rfl (by rfl)
theorem q54_66 : vE 54 66 [l0, l1, l2] ([.int a]) v x ↔ x = vr a v := vE_ir rfl
theorem q54_67 : vE 54 67 [l0, l1, .int a] st v x ↔ vE 54 68 [l0, l1, .int a] (.int a :: st) v x := vE_s rfl rfl
theorem q54_68 : vE 54 68 [l0, l1, l2] (.int a :: st) v x ↔ if a = 0 then vE 54 71 [l0, l1, l2] st v x else vE 54 75 [l0, l1, l2] st v x := vE_if rfl rfl
theorem q54_71 : vE 54 71 [l0, l1, l2] st v x ↔ vE 54 72 [l0, l1, l2] (.int 0 :: st) v x := vE_s rfl (by rfl)
theorem q54_72 : vE 54 72 [l0, l1, l2] st v x ↔ vE 54 78 [l0, l1, l2] st v x := vE_s rfl rfl
theorem q54_75 : vE 54 75 [l0, .int a, l2] st v x ↔ vE 54 76 [l0, .int a, l2] (.int a :: st) v x := vE_s rfl rfl
theorem q54_76 : vE 54 76 [l0, l1, .int a] st v x ↔ vE 54 77 [l0, l1, .int a] (.int a :: st) v x := vE_s rfl rfl
theorem q54_77 (hb : b ≠ 0) : vE 54 77 [l0, l1, l2] (.int b :: .int a :: st) v x ↔ vE 54 78 [l0, l1, l2] (.int (a / b) :: st) v x := vE_s rfl (by simp only [vm_step, vm_heap, am_step, if_neg hb]; rfl)
theorem q54_78 : vE 54 78 [l0, l1, l2] ([.int a]) v x ↔ x = vr a v := vE_ir rfl
theorem q54_79 : vE 54 79 [l0, l1, l2] st v x ↔ vE 54 80 [l0, l1, l2] (.int 0 :: st) v x := vE_s rfl (by rfl)
theorem q54_80 : vE 54 80 [l0, l1, l2] ([.int a]) v x ↔ x = vr a v := vE_ir rfl
/-! 55 PassChecker$Folder.foldEnd(LPassChecker$Program;LPassChecker$Program;I)V -/
theorem q55_0 : vE 55 0 [l0, .ref p, l2, l3, l4, l5] st v x ↔ vE 55 1 [l0, .ref p, l2, l3, l4, l5] (.ref p :: st) v x := vE_s rfl rfl
theorem q55_1 : vE 55 1 [l0, l1, l2, .int a, l4, l5] st v x ↔ vE 55 2 [l0, l1, l2, .int a, l4, l5] (.int a :: st) v x := vE_s rfl rfl
theorem q55_2 : vE 55 2 [l0, l1, l2, l3, l4, l5] st v x ↔ vE 55 3 [l0, l1, l2, l3, l4, l5] (.int 1 :: st) v x := vE_s rfl (by rfl)
theorem q55_3 : vE 55 3 [l0, l1, l2, l3, l4, l5] (w2 :: w1 :: w0 :: st) v x ↔ ∃ y : vm_Y, vE 56 0 [w0, w1, w2] [] v y ∧ vB 55 3 [l0, l1, l2, l3, l4, l5] st y x := vE_cv rfl rfl rfl rfl
theorem q55_6 : vE 55 6 [l0, l1, l2, l3, l4, l5] (.int a :: st) v x ↔ vE 55 8 [l0, l1, l2, l3, .int a, l5] st v x := vE_s rfl rfl
theorem q55_8 : vE 55 8 [l0, .ref p, l2, l3, l4, l5] st v x ↔ vE 55 9 [l0, .ref p, l2, l3, l4, l5] (.ref p :: st) v x := vE_s rfl rfl
theorem q55_9 : vE 55 9 [l0, l1, l2, .int a, l4, l5] st v x ↔ vE 55 10 [l0, l1, l2, .int a, l4, l5] (.int a :: st) v x := vE_s rfl rfl
theorem q55_10 : vE 55 10 [l0, l1, l2, l3, l4, l5] st v x ↔ vE 55 11 [l0, l1, l2, l3, l4, l5] (.int 0 :: st) v x := vE_s rfl (by rfl)
theorem q55_11 : vE 55 11 [l0, l1, l2, l3, l4, l5] (w2 :: w1 :: w0 :: st) v x ↔ ∃ y : vm_Y, vE 56 0 [w0, w1, w2] [] v y ∧ vB 55 11 [l0, l1, l2, l3, l4, l5] st y x := vE_cv rfl rfl rfl rfl
theorem q55_14 : vE 55 14 [l0, l1, l2, l3, l4, l5] st v x ↔ vE 55 15 [l0, l1, l2, l3, l4, l5] (.int 1 :: st) v x := vE_s rfl (by rfl)
theorem q55_15 : vE 55 15 [l0, l1, l2, l3, l4, l5] (.int b :: .int a :: st) v x ↔ if a = b then vE 55 18 [l0, l1, l2, l3, l4, l5] st v x else vE 55 63 [l0, l1, l2, l3, l4, l5] st v x := vE_if rfl rfl
theorem q55_18 : vE 55 18 [.ref p, l1, l2, l3, l4, l5] st v x ↔ vE 55 19 [.ref p, l1, l2, l3, l4, l5] (.ref p :: st) v x := vE_s rfl rfl
theorem q55_19 : vE 55 19 [l0, l1, l2, l3, .int a, l5] st v x ↔ vE 55 21 [l0, l1, l2, l3, .int a, l5] (.int a :: st) v x := vE_s rfl rfl
theorem q55_21 : vE 55 21 [l0, l1, l2, l3, l4, l5] (w1 :: w0 :: st) v x ↔ ∃ y : vm_Y, vE 49 0 [w0, w1] [] v y ∧ vB 55 21 [l0, l1, l2, l3, l4, l5] st y x := vE_cv rfl rfl rfl rfl
theorem q55_24 : vE 55 24 [l0, l1, l2, l3, l4, l5] (.int a :: st) v x ↔ if a = 0 then vE 55 63 [l0, l1, l2, l3, l4, l5] st v x else vE 55 27 [l0, l1, l2, l3, l4, l5] st v x := vE_if rfl rfl
theorem q55_27 : vE 55 27 [.ref p, l1, l2, l3, l4, l5] st v x ↔ vE 55 28 [.ref p, l1, l2, l3, l4, l5] (.ref p :: st) v x := vE_s rfl rfl
theorem q55_28 : vE 55 28 [l0, l1, l2, l3, .int a, l5] st v x ↔ vE 55 30 [l0, l1, l2, l3, .int a, l5] (.int a :: st) v x := vE_s rfl rfl
theorem q55_30 : vE 55 30 [l0, l1, l2, l3, l4, l5] (w1 :: w0 :: st) v x ↔ ∃ y : vm_Y, vE 50 0 [w0, w1] [] v y ∧ vB 55 30 [l0, l1, l2, l3, l4, l5] st y x := vE_cv rfl rfl rfl rfl
theorem q55_33 : vE 55 33 [l0, l1, l2, l3, l4, l5] (.int a :: st) v x ↔ if a = 0 then vE 55 45 [l0, l1, l2, l3, l4, l5] st v x else vE 55 36 [l0, l1, l2, l3, l4, l5] st v x := vE_if rfl rfl
theorem q55_36 : vE 55 36 [l0, .ref p, l2, l3, l4, l5] st v x ↔ vE 55 37 [l0, .ref p, l2, l3, l4, l5] (.ref p :: st) v x := vE_s rfl rfl
theorem q55_37 : vE 55 37 [l0, l1, l2, .int a, l4, l5] st v x ↔ vE 55 38 [l0, l1, l2, .int a, l4, l5] (.int a :: st) v x := vE_s rfl rfl
theorem q55_38 : vE 55 38 [l0, l1, l2, l3, l4, l5] st v x ↔ vE 55 39 [l0, l1, l2, l3, l4, l5] (.int 2 :: st) v x := vE_s rfl (by rfl)
theorem q55_39 : vE 55 39 [l0, l1, l2, l3, l4, l5] (w2 :: w1 :: w0 :: st) v x ↔ ∃ y : vm_Y, vE 56 0 [w0, w1, w2] [] v y ∧ vB 55 39 [l0, l1, l2, l3, l4, l5] st y x := vE_cv rfl rfl rfl rfl
theorem q55_42 : vE 55 42 [l0, l1, l2, l3, l4, l5] st v x ↔ vE 55 51 [l0, l1, l2, l3, l4, l5] st v x := vE_s rfl rfl
theorem q55_45 : vE 55 45 [l0, .ref p, l2, l3, l4, l5] st v x ↔ vE 55 46 [l0, .ref p, l2, l3, l4, l5] (.ref p :: st) v x := vE_s rfl rfl
theorem q55_46 : vE 55 46 [l0, l1, l2, .int a, l4, l5] st v x ↔ vE 55 47 [l0, l1, l2, .int a, l4, l5] (.int a :: st) v x := vE_s rfl rfl
theorem q55_47 : vE 55 47 [l0, l1, l2, l3, l4, l5] st v x ↔ vE 55 48 [l0, l1, l2, l3, l4, l5] (.int 3 :: st) v x := vE_s rfl (by rfl)
theorem q55_48 : vE 55 48 [l0, l1, l2, l3, l4, l5] (w2 :: w1 :: w0 :: st) v x ↔ ∃ y : vm_Y, vE 56 0 [w0, w1, w2] [] v y ∧ vB 55 48 [l0, l1, l2, l3, l4, l5] st y x := vE_cv rfl rfl rfl rfl
theorem q55_51 : vE 55 51 [l0, l1, l2, l3, l4, l5] (.int a :: st) v x ↔ vE 55 53 [l0, l1, l2, l3, l4, .int a] st v x := vE_s rfl rfl
theorem q55_53 : vE 55 53 [l0, l1, .ref p, l3, l4, l5] st v x ↔ vE 55 54 [l0, l1, .ref p, l3, l4, l5] (.ref p :: st) v x := vE_s rfl rfl
theorem q55_54 : vE 55 54 [l0, l1, l2, .int a, l4, l5] st v x ↔ vE 55 55 [l0, l1, l2, .int a, l4, l5] (.int a :: st) v x := vE_s rfl rfl
theorem q55_55 : vE 55 55 [l0, l1, l2, l3, l4, l5] st v x ↔ vE 55 56 [l0, l1, l2, l3, l4, l5] (.int 0 :: st) v x := vE_s rfl (by rfl)
theorem q55_56 : vE 55 56 [l0, l1, l2, l3, l4, l5] st v x ↔ vE 55 57 [l0, l1, l2, l3, l4, l5] (.int 0 :: st) v x := vE_s rfl (by rfl)
theorem q55_57 : vE 55 57 [l0, l1, l2, l3, l4, .int a] st v x ↔ vE 55 59 [l0, l1, l2, l3, l4, .int a] (.int a :: st) v x := vE_s rfl rfl
theorem q55_59 : vE 55 59 [l0, l1, l2, l3, l4, l5] st v x ↔ vE 55 60 [l0, l1, l2, l3, l4, l5] (.int 0 :: st) v x := vE_s rfl (by rfl)
theorem q55_60 : vE 55 60 [l0, l1, l2, l3, l4, l5] (w5 :: w4 :: w3 :: w2 :: w1 :: w0 :: st) v x ↔ ∃ y : vm_Y, vE 21 0 [w0, w1, w2, w3, w4, w5, .retAddr 0] [] v y ∧ vB 55 60 [l0, l1, l2, l3, l4, l5] st y x := vE_cv rfl rfl rfl rfl
theorem q55_63 : vE 55 63 [l0, l1, l2, l3, l4, l5] [] v x ↔ x = vd v := vE_vr rfl
theorem qt55 {X pc : Nat} {L r : List Value} : vB 55 pc L r (vt X v) x ↔ x = vt X v := vB_t rfl
end QB
