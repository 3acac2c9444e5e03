/-! the instructions of the methods, one by one (written by wip/tools/genq.py) -/
section QA
variable {l0 l1 l2 l3 l4 l5 l6 l7 l8 l9 l10 w0 w1 w2 w3 w4 w5 w6 w7 : Value} {st : List Value} {v : vm_V} {x : vm_Y} {a b c : Int32} {p q : Nat} {u w : Int64}
/-! 18 PassChecker.programOf(I)LPassChecker$Program; -/
theorem q18_0 : vE 18 0 [l0, .int a] st v x ↔ vE 18 1 [l0, .int a] (.int a :: st) v x := vE_s rfl rfl
theorem q18_1 : vE 18 1 [l0, l1] (.int a :: st) v x ↔ if a = 0 then vE 18 19 [l0, l1] st v x else vE 18 4 [l0, l1] st v x := vE_if rfl rfl
theorem q18_4 : vE 18 4 [l0, .int a] st v x ↔ vE 18 5 [l0, .int a] (.int a :: st) v x := vE_s rfl rfl
theorem q18_5 : vE 18 5 [l0, l1] st v x ↔ vE 18 6 [l0, l1] (.int 1 :: st) v x := vE_s rfl (by rfl)
theorem q18_6 : vE 18 6 [l0, l1] (.int b :: .int a :: st) v x ↔ if a = b then vE 18 19 [l0, l1] st v x else vE 18 9 [l0, l1] st v x := vE_if rfl rfl
theorem q18_9 : vE 18 9 [l0, l1] st v x ↔ x = vt 10 v := vE_new rfl rfl
theorem q18_12 : vE 18 12 [l0, l1] (.ref p :: st) v x ↔ vE 18 13 [l0, l1] (.ref p :: .ref p :: st) v x := vE_s rfl rfl
theorem q18_19 : vE 18 19 [l0, .int a] st v x ↔ vE 18 20 [l0, .int a] (.int a :: st) v x := vE_s rfl rfl
theorem q18_20 : vE 18 20 [l0, l1] (.int a :: st) v x ↔ if a = 0 then vE 18 23 [l0, l1] st v x else vE 18 30 [l0, l1] st v x := vE_if rfl rfl
theorem q18_23 : vE 18 23 [.ref p, l1] st v x ↔ vE 18 24 [.ref p, l1] (.ref p :: st) v x := vE_s rfl rfl
theorem q18_24 : vE 18 24 [l0, l1] (.ref p :: st) v x ↔ vE 18 27 [l0, l1] (.ref (p + 1) :: st) v x := vE_s rfl rfl
theorem q18_27 : vE 18 27 [l0, l1] st v x ↔ vE 18 34 [l0, l1] st v x := vE_s rfl rfl
theorem q18_30 : vE 18 30 [.ref p, l1] st v x ↔ vE 18 31 [.ref p, l1] (.ref p :: st) v x := vE_s rfl rfl
theorem q18_31 : vE 18 31 [l0, l1] (.ref p :: st) v x ↔ vE 18 34 [l0, l1] (.ref (p + 5) :: st) v x := vE_s rfl rfl
theorem q18_34 : vE 18 34 [l0, l1] ([.ref p]) v x ↔ x = va p v := vE_ar rfl
/-! 19 PassChecker$Program.isFull()Z -/
theorem q19_0 : vE 19 0 [.ref p] st v x ↔ vE 19 1 [.ref p] (.ref p :: st) v x := vE_s rfl rfl
theorem q19_1 : vE 19 1 [l0] (.ref p :: st) v x ↔ vE 19 4 [l0] (.int (v.1 p 3) :: st) v x := vE_s rfl rfl
theorem q19_4 : vE 19 4 [l0] st v x ↔ vE 19 6 [l0] (.int 6 :: st) v x := vE_s rfl (by rfl)
theorem q19_6 : vE 19 6 [l0] (.int b :: .int a :: st) v x ↔ if a < b then vE 19 13 [l0] st v x else vE 19 9 [l0] st v x := vE_if rfl rfl
theorem q19_9 : vE 19 9 [l0] st v x ↔ vE 19 10 [l0] (.int 1 :: st) v x := vE_s rfl (by rfl)
theorem q19_10 : vE 19 10 [l0] st v x ↔ vE 19 14 [l0] st v x := vE_s rfl rfl
theorem q19_13 : vE 19 13 [l0] st v x ↔ vE 19 14 [l0] (.int 0 :: st) v x := vE_s rfl (by rfl)
theorem q19_14 : vE 19 14 [l0] ([.int a]) v x ↔ x = vr a v := vE_ir rfl
/-! 20 PassChecker$Program.addBlock()I -/
theorem q20_0 : vE 20 0 [.ref p, l1] st v x ↔ vE 20 1 [.ref p, l1] (.ref p :: st) v x := vE_s rfl rfl
theorem q20_1 : vE 20 1 [l0, l1] (.ref p :: st) v x ↔ vE 20 4 [l0, l1] (.int (v.1 p 3) :: st) v x := vE_s rfl rfl
theorem q20_4 : vE 20 4 [l0, l1] (.int a :: st) v x ↔ vE 20 5 [l0, .int a] st v x := vE_s rfl rfl
theorem q20_5 : vE 20 5 [l0, .int a] st v x ↔ vE 20 6 [l0, .int a] (.int a :: st) v x := vE_s rfl rfl
theorem q20_6 : vE 20 6 [l0, l1] (.int a :: st) v x ↔ if a < 0 then vE 20 15 [l0, l1] st v x else vE 20 9 [l0, l1] st v x := vE_if rfl rfl
theorem q20_9 : vE 20 9 [l0, .int a] st v x ↔ vE 20 10 [l0, .int a] (.int a :: st) v x := vE_s rfl rfl
theorem q20_10 : vE 20 10 [l0, l1] st v x ↔ vE 20 12 [l0, l1] (.int 6 :: st) v x := vE_s rfl (by rfl)
theorem q20_12 : vE 20 12 [l0, l1] (.int b :: .int a :: st) v x ↔ if a < b then vE 20 17 [l0, l1] st v x else vE 20 15 [l0, l1] st v x := vE_if rfl rfl
theorem q20_15 : vE 20 15 [l0, l1] st v x ↔ vE 20 16 [l0, l1] (.int (-1) :: st) v x := vE_s rfl (by rfl)
theorem q20_16 : vE 20 16 [l0, l1] ([.int a]) v x ↔ x = vr a v := vE_ir rfl
theorem q20_17 : vE 20 17 [.ref p, l1] st v x ↔ vE 20 18 [.ref p, l1] (.ref p :: st) v x := vE_s rfl rfl
theorem q20_18 : vE 20 18 [l0, .int a] st v x ↔ vE 20 19 [l0, .int a] (.int a :: st) v x := vE_s rfl rfl
theorem q20_19 : vE 20 19 [l0, l1] st v x ↔ vE 20 20 [l0, l1] (.int 1 :: st) v x := vE_s rfl (by rfl)
theorem q20_20 : vE 20 20 [l0, l1] (.int b :: .int a :: st) v x ↔ vE 20 21 [l0, l1] (.int (a + b) :: st) v x := vE_s rfl rfl
theorem q20_21 : vE 20 21 [l0, l1] (.int a :: .ref p :: st) v x ↔ vE 20 24 [l0, l1] st (vm_si v p 3 a) x := vE_s rfl rfl
theorem q20_24 : vE 20 24 [.ref p, l1] st v x ↔ vE 20 25 [.ref p, l1] (.ref p :: st) v x := vE_s rfl rfl
theorem q20_25 : vE 20 25 [l0, l1] (.ref p :: st) v x ↔ vE 20 28 [l0, l1] (.ref (p + 3) :: st) v x := vE_s rfl rfl
theorem q20_28 : vE 20 28 [l0, .int a] st v x ↔ vE 20 29 [l0, .int a] (.int a :: st) v x := vE_s rfl rfl
theorem q20_29 : vE 20 29 [l0, l1] st v x ↔ vE 20 30 [l0, l1] (.int 0 :: st) v x := vE_s rfl (by rfl)
theorem q20_30 : vE 20 30 [l0, l1] (.int b :: .int a :: .ref p :: st) v x ↔ vE 20 31 [l0, l1] st (vm_si v p a.toNatClampNeg b) x := vE_s rfl rfl
theorem q20_31 : vE 20 31 [.ref p, l1] st v x ↔ vE 20 32 [.ref p, l1] (.ref p :: st) v x := vE_s rfl rfl
theorem q20_32 : vE 20 32 [l0, .int a] st v x ↔ vE 20 33 [l0, .int a] (.int a :: st) v x := vE_s rfl rfl
theorem q20_33 : vE 20 33 [l0, l1] st v x ↔ vE 20 34 [l0, l1] (.int 2 :: st) v x := vE_s rfl (by rfl)
theorem q20_34 : vE 20 34 [l0, l1] st v x ↔ vE 20 35 [l0, l1] (.int 0 :: st) v x := vE_s rfl (by rfl)
theorem q20_35 : vE 20 35 [l0, l1] st v x ↔ vE 20 36 [l0, l1] (.int 0 :: st) v x := vE_s rfl (by rfl)
theorem q20_36 : vE 20 36 [l0, l1] st v x ↔ vE 20 37 [l0, l1] (.int 0 :: st) v x := vE_s rfl (by rfl)
theorem q20_37 : vE 20 37 [l0, l1] (w5 :: w4 :: w3 :: w2 :: w1 :: w0 :: st) v x ↔ ∃ y : vm_Y, vE 21 0 [w0, w1, w2, w3, w4, w5, .retAddr 0] [] v y ∧ vB 20 37 [l0, l1] st y x := vE_cv rfl rfl rfl rfl
theorem q20_40 : vE 20 40 [l0, .int a] st v x ↔ vE 20 41 [l0, .int a] (.int a :: st) v x := vE_s rfl rfl
theorem q20_41 : vE 20 41 [l0, l1] ([.int a]) v x ↔ x = vr a v := vE_ir rfl
theorem qt20 {X pc : Nat} {L r : List Value} : vB 20 pc L r (vt X v) x ↔ x = vt X v := vB_t rfl
/-! 21 PassChecker$Program.setEnd(IIIII)V -/
theorem q21_0 : vE 21 0 [.ref p, l1, l2, l3, l4, l5, l6] st v x ↔ vE 21 1 [.ref p, l1, l2, l3, l4, l5, l6] (.ref p :: st) v x := vE_s rfl rfl
theorem q21_1 : vE 21 1 [l0, .int a, l2, l3, l4, l5, l6] st v x ↔ vE 21 2 [l0, .int a, l2, l3, l4, l5, l6] (.int a :: st) v x := vE_s rfl rfl
theorem q21_2 : vE 21 2 [l0, l1, l2, l3, l4, l5, l6] (w1 :: w0 :: st) v x ↔ ∃ y : vm_Y, vE 22 0 [w0, w1] [] v y ∧ vB 21 2 [l0, l1, l2, l3, l4, l5, l6] st y x := vE_cv rfl rfl rfl rfl
theorem q21_5 : vE 21 5 [l0, l1, l2, l3, l4, l5, l6] (.int a :: st) v x ↔ if a = 0 then vE 21 8 [l0, l1, l2, l3, l4, l5, l6] st v x else vE 21 9 [l0, l1, l2, l3, l4, l5, l6] st v x := vE_if rfl rfl
theorem q21_8 : vE 21 8 [l0, l1, l2, l3, l4, l5, l6] [] v x ↔ x = vd v := vE_vr rfl
theorem q21_9 : vE 21 9 [l0, .int a, l2, l3, l4, l5, l6] st v x ↔ vE 21 10 [l0, .int a, l2, l3, l4, l5, l6] (.int a :: st) v x := vE_s rfl rfl
theorem q21_10 : vE 21 10 [l0, l1, l2, l3, l4, l5, l6] st v x ↔ vE 21 11 [l0, l1, l2, l3, l4, l5, l6] (.int 4 :: st) v x := vE_s rfl (by rfl)
theorem q21_11 : vE 21 11 [l0, l1, l2, l3, l4, l5, l6] (.int b :: .int a :: st) v x ↔ vE 21 12 [l0, l1, l2, l3, l4, l5, l6] (.int (a * b) :: st) v x := vE_s rfl rfl
theorem q21_12 : vE 21 12 [l0, l1, l2, l3, l4, l5, l6] (.int a :: st) v x ↔ vE 21 14 [l0, l1, l2, l3, l4, l5, .int a] st v x := vE_s rfl rfl
theorem q21_14 : vE 21 14 [.ref p, l1, l2, l3, l4, l5, l6] st v x ↔ vE 21 15 [.ref p, l1, l2, l3, l4, l5, l6] (.ref p :: st) v x := vE_s rfl rfl
theorem q21_15 : vE 21 15 [l0, l1, l2, l3, l4, l5, l6] (.ref p :: st) v x ↔ vE 21 18 [l0, l1, l2, l3, l4, l5, l6] (.ref (p + 2) :: st) v x := vE_s rfl rfl
theorem q21_18 : vE 21 18 [l0, l1, l2, l3, l4, l5, .int a] st v x ↔ vE 21 20 [l0, l1, l2, l3, l4, l5, .int a] (.int a :: st) v x := vE_s rfl rfl
theorem q21_20 : vE 21 20 [l0, l1, l2, l3, l4, l5, l6] st v x ↔ vE 21 21 [l0, l1, l2, l3, l4, l5, l6] (.int 0 :: st) v x := vE_s rfl (by rfl)
theorem q21_21 : vE 21 21 [l0, l1, l2, l3, l4, l5, l6] (.int b :: .int a :: st) v x ↔ vE 21 22 [l0, l1, l2, l3, l4, l5, l6] (.int (a + b) :: st) v x := vE_s rfl rfl
theorem q21_22 : vE 21 22 [l0, l1, .int a, l3, l4, l5, l6] st v x ↔ vE 21 23 [l0, l1, .int a, l3, l4, l5, l6] (.int a :: st) v x := vE_s rfl rfl
theorem q21_23 : vE 21 23 [l0, l1, l2, l3, l4, l5, l6] (.int b :: .int a :: .ref p :: st) v x ↔ vE 21 24 [l0, l1, l2, l3, l4, l5, l6] st (vm_si v p a.toNatClampNeg b) x := vE_s rfl rfl
theorem q21_24 : vE 21 24 [.ref p, l1, l2, l3, l4, l5, l6] st v x ↔ vE 21 25 [.ref p, l1, l2, l3, l4, l5, l6] (.ref p :: st) v x := vE_s rfl rfl
theorem q21_25 : vE 21 25 [l0, l1, l2, l3, l4, l5, l6] (.ref p :: st) v x ↔ vE 21 28 [l0, l1, l2, l3, l4, l5, l6] (.ref (p + 2) :: st) v x := vE_s rfl rfl
theorem q21_28 : vE 21 28 [l0, l1, l2, l3, l4, l5, .int a] st v x ↔ vE 21 30 [l0, l1, l2, l3, l4, l5, .int a] (.int a :: st) v x := vE_s rfl rfl
theorem q21_30 : vE 21 30 [l0, l1, l2, l3, l4, l5, l6] st v x ↔ vE 21 31 [l0, l1, l2, l3, l4, l5, l6] (.int 1 :: st) v x := vE_s rfl (by rfl)
theorem q21_31 : vE 21 31 [l0, l1, l2, l3, l4, l5, l6] (.int b :: .int a :: st) v x ↔ vE 21 32 [l0, l1, l2, l3, l4, l5, l6] (.int (a + b) :: st) v x := vE_s rfl rfl
theorem q21_32 : vE 21 32 [l0, l1, l2, .int a, l4, l5, l6] st v x ↔ vE 21 33 [l0, l1, l2, .int a, l4, l5, l6] (.int a :: st) v x := vE_s rfl rfl
theorem q21_33 : vE 21 33 [l0, l1, l2, l3, l4, l5, l6] (.int b :: .int a :: .ref p :: st) v x ↔ vE 21 34 [l0, l1, l2, l3, l4, l5, l6] st (vm_si v p a.toNatClampNeg b) x := vE_s rfl rfl
theorem q21_34 : vE 21 34 [.ref p, l1, l2, l3, l4, l5, l6] st v x ↔ vE 21 35 [.ref p, l1, l2, l3, l4, l5, l6] (.ref p :: st) v x := vE_s rfl rfl
theorem q21_35 : vE 21 35 [l0, l1, l2, l3, l4, l5, l6] (.ref p :: st) v x ↔ vE 21 38 [l0, l1, l2, l3, l4, l5, l6] (.ref (p + 2) :: st) v x := vE_s rfl rfl
theorem q21_38 : vE 21 38 [l0, l1, l2, l3, l4, l5, .int a] st v x ↔ vE 21 40 [l0, l1, l2, l3, l4, l5, .int a] (.int a :: st) v x := vE_s rfl rfl
theorem q21_40 : vE 21 40 [l0, l1, l2, l3, l4, l5, l6] st v x ↔ vE 21 41 [l0, l1, l2, l3, l4, l5, l6] (.int 2 :: st) v x := vE_s rfl (by rfl)
theorem q21_41 : vE 21 41 [l0, l1, l2, l3, l4, l5, l6] (.int b :: .int a :: st) v x ↔ vE 21 42 [l0, l1, l2, l3, l4, l5, l6] (.int (a + b) :: st) v x := vE_s rfl rfl
theorem q21_42 : vE 21 42 [l0, l1, l2, l3, .int a, l5, l6] st v x ↔ vE 21 44 [l0, l1, l2, l3, .int a, l5, l6] (.int a :: st) v x := vE_s rfl rfl
theorem q21_44 : vE 21 44 [l0, l1, l2, l3, l4, l5, l6] (.int b :: .int a :: .ref p :: st) v x ↔ vE 21 45 [l0, l1, l2, l3, l4, l5, l6] st (vm_si v p a.toNatClampNeg b) x := vE_s rfl rfl
theorem q21_45 : vE 21 45 [.ref p, l1, l2, l3, l4, l5, l6] st v x ↔ vE 21 46 [.ref p, l1, l2, l3, l4, l5, l6] (.ref p :: st) v x := vE_s rfl rfl
theorem q21_46 : vE 21 46 [l0, l1, l2, l3, l4, l5, l6] (.ref p :: st) v x ↔ vE 21 49 [l0, l1, l2, l3, l4, l5, l6] (.ref (p + 2) :: st) v x := vE_s rfl rfl
theorem q21_49 : vE 21 49 [l0, l1, l2, l3, l4, l5, .int a] st v x ↔ vE 21 51 [l0, l1, l2, l3, l4, l5, .int a] (.int a :: st) v x := vE_s rfl rfl
theorem q21_51 : vE 21 51 [l0, l1, l2, l3, l4, l5, l6] st v x ↔ vE 21 52 [l0, l1, l2, l3, l4, l5, l6] (.int 3 :: st) v x := vE_s rfl (by rfl)
theorem q21_52 : vE 21 52 [l0, l1, l2, l3, l4, l5, l6] (.int b :: .int a :: st) v x ↔ vE 21 53 [l0, l1, l2, l3, l4, l5, l6] (.int (a + b) :: st) v x := vE_s rfl rfl
theorem q21_53 : vE 21 53 [l0, l1, l2, l3, l4, .int a, l6] st v x ↔ vE 21 55 [l0, l1, l2, l3, l4, .int a, l6] (.int a :: st) v x := vE_s rfl rfl
theorem q21_55 : vE 21 55 [l0, l1, l2, l3, l4, l5, l6] (.int b :: .int a :: .ref p :: st) v x ↔ vE 21 56 [l0, l1, l2, l3, l4, l5, l6] st (vm_si v p a.toNatClampNeg b) x := vE_s rfl rfl
theorem q21_56 : vE 21 56 [l0, l1, l2, l3, l4, l5, l6] [] v x ↔ x = vd v := vE_vr rfl
theorem qt21 {X pc : Nat} {L r : List Value} : vB 21 pc L r (vt X v) x ↔ x = vt X v := vB_t rfl
/-! 22 PassChecker$Program.hasBlock(I)Z -/
theorem q22_0 : vE 22 0 [l0, .int a] st v x ↔ vE 22 1 [l0, .int a] (.int a :: st) v x := vE_s rfl rfl
theorem q22_1 : vE 22 1 [l0, l1] (.int a :: st) v x ↔ if a < 0 then vE 22 22 [l0, l1] st v x else vE 22 4 [l0, l1] st v x := vE_if rfl rfl
theorem q22_4 : vE 22 4 [l0, .int a] st v x ↔ vE 22 5 [l0, .int a] (.int a :: st) v x := vE_s rfl rfl
theorem q22_5 : vE 22 5 [.ref p, l1] st v x ↔ vE 22 6 [.ref p, l1] (.ref p :: st) v x := vE_s rfl rfl
theorem q22_6 : vE 22 6 [l0, l1] (.ref p :: st) v x ↔ vE 22 9 [l0, l1] (.int (v.1 p 3) :: st) v x := vE_s rfl rfl
theorem q22_9 : vE 22 9 [l0, l1] (.int b :: .int a :: st) v x ↔ if b ≤ a then vE 22 22 [l0, l1] st v x else vE 22 12 [l0, l1] st v x := vE_if rfl rfl
theorem q22_12 : vE 22 12 [l0, .int a] st v x ↔ vE 22 13 [l0, .int a] (.int a :: st) v x := vE_s rfl rfl
theorem q22_13 : vE 22 13 [l0, l1] st v x ↔ vE 22 15 [l0, l1] (.int 6 :: st) v x := vE_s rfl (by rfl)
theorem q22_15 : vE 22 15 [l0, l1] (.int b :: .int a :: st) v x ↔ if b ≤ a then vE 22 22 [l0, l1] st v x else vE 22 18 [l0, l1] st v x := vE_if rfl rfl
theorem q22_18 : vE 22 18 [l0, l1] st v x ↔ vE 22 19 [l0, l1] (.int 1 :: st) v x := vE_s rfl (by rfl)
theorem q22_19 : vE 22 19 [l0, l1] st v x ↔ vE 22 23 [l0, l1] st v x := vE_s rfl rfl
theorem q22_22 : vE 22 22 [l0, l1] st v x ↔ vE 22 23 [l0, l1] (.int 0 :: st) v x := vE_s rfl (by rfl)
theorem q22_23 : vE 22 23 [l0, l1] ([.int a]) v x ↔ x = vr a v := vE_ir rfl
/-! 25 PassChecker.requireBlock(LPassChecker$Program;I)V -/
theorem q25_0 : vE 25 0 [.ref p, l1] st v x ↔ vE 25 1 [.ref p, l1] (.ref p :: st) v x := vE_s rfl rfl
theorem q25_1 : vE 25 1 [l0, .int a] st v x ↔ vE 25 2 [l0, .int a] (.int a :: st) v x := vE_s rfl rfl
theorem q25_2 : vE 25 2 [l0, l1] (w1 :: w0 :: st) v x ↔ ∃ y : vm_Y, vE 22 0 [w0, w1] [] v y ∧ vB 25 2 [l0, l1] st y x := vE_cv rfl rfl rfl rfl
theorem q25_5 : vE 25 5 [l0, l1] (.int a :: st) v x ↔ if a = 0 then vE 25 8 [l0, l1] st v x else vE 25 18 [l0, l1] st v x := vE_if rfl rfl
theorem q25_8 : vE 25 8 [l0, l1] st v x ↔ x = vt 10 v := vE_new rfl rfl
theorem q25_11 : vE 25 11 [l0, l1] (.ref p :: st) v x ↔ vE 25 12 [l0, l1] (.ref p :: .ref p :: st) v x := vE_s rfl rfl
theorem q25_18 : vE 25 18 [l0, l1] [] v x ↔ x = vd v := vE_vr rfl
theorem qt25 {X pc : Nat} {L r : List Value} : vB 25 pc L r (vt X v) x ↔ x = vt X v := vB_t rfl
/-! 26 PassChecker.writes(I)Z -/
theorem q26_0 : vE 26 0 [.int a] st v x ↔ vE 26 1 [.int a] (.int a :: st) v x := vE_s rfl rfl
theorem q26_1 : vE 26 1 [l0] st v x ↔ vE 26 3 [l0] (.int 9 :: st) v x := vE_s rfl (by rfl)
theorem q26_3 : vE 26 3 [l0] (.int b :: .int a :: st) v x ↔ if a = b then vE 26 10 [l0] st v x else vE 26 6 [l0] st v x := vE_if rfl rfl
theorem q26_6 : vE 26 6 [l0] st v x ↔ vE 26 7 [l0] (.int 1 :: st) v x := vE_s rfl (by rfl)
theorem q26_7 : vE 26 7 [l0] st v x ↔ vE 26 11 [l0] st v x := vE_s rfl rfl
theorem q26_10 : vE 26 10 [l0] st v x ↔ vE 26 11 [l0] (.int 0 :: st) v x := vE_s rfl (by rfl)
theorem q26_11 : vE 26 11 [l0] ([.int a]) v x ↔ x = vr a v := vE_ir rfl
/-! 27 PassChecker.requireRegisterIf(ZI)V -/
theorem q27_0 : vE 27 0 [.int a, l1] st v x ↔ vE 27 1 [.int a, l1] (.int a :: st) v x := vE_s rfl rfl
theorem q27_1 : vE 27 1 [l0, l1] (.int a :: st) v x ↔ if a = 0 then vE 27 21 [l0, l1] st v x else vE 27 4 [l0, l1] st v x := vE_if rfl rfl
theorem q27_4 : vE 27 4 [l0, .int a] st v x ↔ vE 27 5 [l0, .int a] (.int a :: st) v x := vE_s rfl rfl
theorem q27_5 : vE 27 5 [l0, l1] (w0 :: st) v x ↔ ∃ y : vm_Y, vE 28 0 [w0] [] v y ∧ vB 27 5 [l0, l1] st y x := vE_cs rfl rfl rfl rfl
theorem q27_8 : vE 27 8 [l0, l1] (.int a :: st) v x ↔ if a = 0 then vE 27 11 [l0, l1] st v x else vE 27 21 [l0, l1] st v x := vE_if rfl rfl
theorem q27_11 : vE 27 11 [l0, l1] st v x ↔ x = vt 12 v := vE_new rfl rfl
theorem q27_14 : vE 27 14 [l0, l1] (.ref p :: st) v x ↔ vE 27 15 [l0, l1] (.ref p :: .ref p :: st) v x := vE_s rfl rfl
theorem q27_21 : vE 27 21 [l0, l1] [] v x ↔ x = vd v := vE_vr rfl
theorem qt27 {X pc : Nat} {L r : List Value} : vB 27 pc L r (vt X v) x ↔ x = vt X v := vB_t rfl
/-! 28 PassChecker.isRegister(I)Z -/
theorem q28_0 : vE 28 0 [.int a] st v x ↔ vE 28 1 [.int a] (.int a :: st) v x := vE_s rfl rfl
theorem q28_1 : vE 28 1 [l0] (.int a :: st) v x ↔ if a < 0 then vE 28 14 [l0] st v x else vE 28 4 [l0] st v x := vE_if rfl rfl
theorem q28_4 : vE 28 4 [.int a] st v x ↔ vE 28 5 [.int a] (.int a :: st) v x := vE_s rfl rfl
theorem q28_5 : vE 28 5 [l0] st v x ↔ vE 28 7 [l0] (.int 6 :: st) v x := vE_s rfl (by rfl)
theorem q28_7 : vE 28 7 [l0] (.int b :: .int a :: st) v x ↔ if b ≤ a then vE 28 14 [l0] st v x else vE 28 10 [l0] st v x := vE_if rfl rfl
theorem q28_10 : vE 28 10 [l0] st v x ↔ vE 28 11 [l0] (.int 1 :: st) v x := vE_s rfl (by rfl)
theorem q28_11 : vE 28 11 [l0] st v x ↔ vE 28 15 [l0] st v x := vE_s rfl rfl
theorem q28_14 : vE 28 14 [l0] st v x ↔ vE 28 15 [l0] (.int 0 :: st) v x := vE_s rfl (by rfl)
theorem q28_15 : vE 28 15 [l0] ([.int a]) v x ↔ x = vr a v := vE_ir rfl
/-! 29 PassChecker.readsA(I)Z -/
theorem q29_0 : vE 29 0 [.int a] st v x ↔ vE 29 1 [.int a] (.int a :: st) v x := vE_s rfl rfl
theorem q29_1 : vE 29 1 [l0] (.int a :: st) v x ↔ if a = 0 then vE 29 8 [l0] st v x else vE 29 4 [l0] st v x := vE_if rfl rfl
theorem q29_4 : vE 29 4 [l0] st v x ↔ vE 29 5 [l0] (.int 1 :: st) v x := vE_s rfl (by rfl)
theorem q29_5 : vE 29 5 [l0] st v x ↔ vE 29 9 [l0] st v x := vE_s rfl rfl
theorem q29_8 : vE 29 8 [l0] st v x ↔ vE 29 9 [l0] (.int 0 :: st) v x := vE_s rfl (by rfl)
theorem q29_9 : vE 29 9 [l0] ([.int a]) v x ↔ x = vr a v := vE_ir rfl
/-! 30 PassChecker.readsB(I)Z -/
theorem q30_0 : vE 30 0 [.int a] st v x ↔ vE 30 1 [.int a] (.int a :: st) v x := vE_s rfl rfl
theorem q30_1 : vE 30 1 [l0] st v x ↔ vE 30 2 [l0] (.int 2 :: st) v x := vE_s rfl (by rfl)
theorem q30_2 : vE 30 2 [l0] (.int b :: .int a :: st) v x ↔ if a < b then vE 30 15 [l0] st v x else vE 30 5 [l0] st v x := vE_if rfl rfl
theorem q30_5 : vE 30 5 [.int a] st v x ↔ vE 30 6 [.int a] (.int a :: st) v x := vE_s rfl rfl
theorem q30_6 : vE 30 6 [l0] st v x ↔ vE 30 8 [l0] (.int 8 :: st) v x := vE_s rfl (by rfl)
theorem q30_8 : vE 30 8 [l0] (.int b :: .int a :: st) v x ↔ if a = b then vE 30 15 [l0] st v x else vE 30 11 [l0] st v x := vE_if rfl rfl
theorem q30_11 : vE 30 11 [l0] st v x ↔ vE 30 12 [l0] (.int 1 :: st) v x := vE_s rfl (by rfl)
theorem q30_12 : vE 30 12 [l0] st v x ↔ vE 30 16 [l0] st v x := vE_s rfl rfl
theorem q30_15 : vE 30 15 [l0] st v x ↔ vE 30 16 [l0] (.int 0 :: st) v x := vE_s rfl (by rfl)
theorem q30_16 : vE 30 16 [l0] ([.int a]) v x ↔ x = vr a v := vE_ir rfl
/-! 31 PassChecker$Program.lengthOf(I)I -/
theorem q31_0 : vE 31 0 [.ref p, l1] st v x ↔ vE 31 1 [.ref p, l1] (.ref p :: st) v x := vE_s rfl rfl
theorem q31_1 : vE 31 1 [l0, .int a] st v x ↔ vE 31 2 [l0, .int a] (.int a :: st) v x := vE_s rfl rfl
theorem q31_2 : vE 31 2 [l0, l1] (w1 :: w0 :: st) v x ↔ ∃ y : vm_Y, vE 22 0 [w0, w1] [] v y ∧ vB 31 2 [l0, l1] st y x := vE_cv rfl rfl rfl rfl
theorem q31_5 : vE 31 5 [l0, l1] (.int a :: st) v x ↔ if a = 0 then vE 31 17 [l0, l1] st v x else vE 31 8 [l0, l1] st v x := vE_if rfl rfl
theorem q31_8 : vE 31 8 [.ref p, l1] st v x ↔ vE 31 9 [.ref p, l1] (.ref p :: st) v x := vE_s rfl rfl
theorem q31_9 : vE 31 9 [l0, l1] (.ref p :: st) v x ↔ vE 31 12 [l0, l1] (.ref (p + 3) :: st) v x := vE_s rfl rfl
theorem q31_12 : vE 31 12 [l0, .int a] st v x ↔ vE 31 13 [l0, .int a] (.int a :: st) v x := vE_s rfl rfl
theorem q31_13 : vE 31 13 [l0, l1] (.int a :: .ref p :: st) v x ↔ vE 31 14 [l0, l1] (.int (v.1 p a.toNatClampNeg) :: st) v x := vE_s rfl rfl
theorem q31_14 : vE 31 14 [l0, l1] st v x ↔ vE 31 18 [l0, l1] st v x := vE_s rfl rfl
theorem q31_17 : vE 31 17 [l0, l1] st v x ↔ vE 31 18 [l0, l1] (.int 0 :: st) v x := vE_s rfl (by rfl)
theorem q31_18 : vE 31 18 [l0, l1] ([.int a]) v x ↔ x = vr a v := vE_ir rfl
theorem qt31 {X pc : Nat} {L r : List Value} : vB 31 pc L r (vt X v) x ↔ x = vt X v := vB_t rfl
/-! 32 PassChecker$Program.addCode(IIIII)I -/
theorem q32_0 : vE 32 0 [.ref p, l1, l2, l3, l4, l5, l6] st v x ↔ vE 32 1 [.ref p, l1, l2, l3, l4, l5, l6] (.ref p :: st) v x := vE_s rfl rfl
theorem q32_1 : vE 32 1 [l0, .int a, l2, l3, l4, l5, l6] st v x ↔ vE 32 2 [l0, .int a, l2, l3, l4, l5, l6] (.int a :: st) v x := vE_s rfl rfl
theorem q32_2 : vE 32 2 [l0, l1, l2, l3, l4, l5, l6] (w1 :: w0 :: st) v x ↔ ∃ y : vm_Y, vE 31 0 [w0, w1] [] v y ∧ vB 32 2 [l0, l1, l2, l3, l4, l5, l6] st y x := vE_cv rfl rfl rfl rfl
theorem q32_5 : vE 32 5 [l0, l1, l2, l3, l4, l5, l6] (.int a :: st) v x ↔ vE 32 7 [l0, l1, l2, l3, l4, l5, .int a] st v x := vE_s rfl rfl
theorem q32_7 : vE 32 7 [.ref p, l1, l2, l3, l4, l5, l6] st v x ↔ vE 32 8 [.ref p, l1, l2, l3, l4, l5, l6] (.ref p :: st) v x := vE_s rfl rfl
theorem q32_8 : vE 32 8 [l0, .int a, l2, l3, l4, l5, l6] st v x ↔ vE 32 9 [l0, .int a, l2, l3, l4, l5, l6] (.int a :: st) v x := vE_s rfl rfl
theorem q32_9 : vE 32 9 [l0, l1, l2, l3, l4, l5, l6] (w1 :: w0 :: st) v x ↔ ∃ y : vm_Y, vE 22 0 [w0, w1] [] v y ∧ vB 32 9 [l0, l1, l2, l3, l4, l5, l6] st y x := vE_cv rfl rfl rfl rfl
theorem q32_12 : vE 32 12 [l0, l1, l2, l3, l4, l5, l6] (.int a :: st) v x ↔ if a = 0 then vE 32 22 [l0, l1, l2, l3, l4, l5, l6] st v x else vE 32 15 [l0, l1, l2, l3, l4, l5, l6] st v x := vE_if rfl rfl
theorem q32_15 : vE 32 15 [l0, l1, l2, l3, l4, l5, .int a] st v x ↔ vE 32 17 [l0, l1, l2, l3, l4, l5, .int a] (.int a :: st) v x := vE_s rfl rfl
theorem q32_17 : vE 32 17 [l0, l1, l2, l3, l4, l5, l6] st v x ↔ vE 32 19 [l0, l1, l2, l3, l4, l5, l6] (.int 8 :: st) v x := vE_s rfl (by rfl)
theorem q32_19 : vE 32 19 [l0, l1, l2, l3, l4, l5, l6] (.int b :: .int a :: st) v x ↔ if a < b then vE 32 24 [l0, l1, l2, l3, l4, l5, l6] st v x else vE 32 22 [l0, l1, l2, l3, l4, l5, l6] st v x := vE_if rfl rfl
theorem q32_22 : vE 32 22 [l0, l1, l2, l3, l4, l5, l6] st v x ↔ vE 32 23 [l0, l1, l2, l3, l4, l5, l6] (.int (-1) :: st) v x := vE_s rfl (by rfl)
theorem q32_23 : vE 32 23 [l0, l1, l2, l3, l4, l5, l6] ([.int a]) v x ↔ x = vr a v := vE_ir rfl
theorem q32_24 : vE 32 24 [.ref p, l1, l2, l3, l4, l5, l6] st v x ↔ vE 32 25 [.ref p, l1, l2, l3, l4, l5, l6] (.ref p :: st) v x := vE_s rfl rfl
theorem q32_25 : vE 32 25 [l0, l1, l2, l3, l4, l5, l6] (.ref p :: st) v x ↔ vE 32 28 [l0, l1, l2, l3, l4, l5, l6] (.ref (p + 3) :: st) v x := vE_s rfl rfl
theorem q32_28 : vE 32 28 [l0, .int a, l2, l3, l4, l5, l6] st v x ↔ vE 32 29 [l0, .int a, l2, l3, l4, l5, l6] (.int a :: st) v x := vE_s rfl rfl
theorem q32_29 : vE 32 29 [l0, l1, l2, l3, l4, l5, .int a] st v x ↔ vE 32 31 [l0, l1, l2, l3, l4, l5, .int a] (.int a :: st) v x := vE_s rfl rfl
theorem q32_31 : vE 32 31 [l0, l1, l2, l3, l4, l5, l6] st v x ↔ vE 32 32 [l0, l1, l2, l3, l4, l5, l6] (.int 1 :: st) v x := vE_s rfl (by rfl)
theorem q32_32 : vE 32 32 [l0, l1, l2, l3, l4, l5, l6] (.int b :: .int a :: st) v x ↔ vE 32 33 [l0, l1, l2, l3, l4, l5, l6] (.int (a + b) :: st) v x := vE_s rfl rfl
theorem q32_33 : vE 32 33 [l0, l1, l2, l3, l4, l5, l6] (.int b :: .int a :: .ref p :: st) v x ↔ vE 32 34 [l0, l1, l2, l3, l4, l5, l6] st (vm_si v p a.toNatClampNeg b) x := vE_s rfl rfl
theorem q32_34 : vE 32 34 [.ref p, l1, l2, l3, l4, l5, l6] st v x ↔ vE 32 35 [.ref p, l1, l2, l3, l4, l5, l6] (.ref p :: st) v x := vE_s rfl rfl
theorem q32_35 : vE 32 35 [l0, .int a, l2, l3, l4, l5, l6] st v x ↔ vE 32 36 [l0, .int a, l2, l3, l4, l5, l6] (.int a :: st) v x := vE_s rfl rfl
theorem q32_36 : vE 32 36 [l0, l1, l2, l3, l4, l5, .int a] st v x ↔ vE 32 38 [l0, l1, l2, l3, l4, l5, .int a] (.int a :: st) v x := vE_s rfl rfl
theorem q32_38 : vE 32 38 [l0, l1, .int a, l3, l4, l5, l6] st v x ↔ vE 32 39 [l0, l1, .int a, l3, l4, l5, l6] (.int a :: st) v x := vE_s rfl rfl
theorem q32_39 : vE 32 39 [l0, l1, l2, .int a, l4, l5, l6] st v x ↔ vE 32 40 [l0, l1, l2, .int a, l4, l5, l6] (.int a :: st) v x := vE_s rfl rfl
theorem q32_40 : vE 32 40 [l0, l1, l2, l3, .int a, l5, l6] st v x ↔ vE 32 42 [l0, l1, l2, l3, .int a, l5, l6] (.int a :: st) v x := vE_s rfl rfl
theorem q32_42 : vE 32 42 [l0, l1, l2, l3, l4, .int a, l6] st v x ↔ vE 32 44 [l0, l1, l2, l3, l4, .int a, l6] (.int a :: st) v x := vE_s rfl rfl
theorem q32_44 : vE 32 44 [l0, l1, l2, l3, l4, l5, l6] (w6 :: w5 :: w4 :: w3 :: w2 :: w1 :: w0 :: st) v x ↔ ∃ y : vm_Y, vE 33 0 [w0, w1, w2, w3, w4, w5, w6, .retAddr 0] [] v y ∧ vB 32 44 [l0, l1, l2, l3, l4, l5, l6] st y x := vE_cv rfl rfl rfl rfl
theorem q32_47 : vE 32 47 [l0, l1, l2, l3, l4, l5, .int a] st v x ↔ vE 32 49 [l0, l1, l2, l3, l4, l5, .int a] (.int a :: st) v x := vE_s rfl rfl
theorem q32_49 : vE 32 49 [l0, l1, l2, l3, l4, l5, l6] ([.int a]) v x ↔ x = vr a v := vE_ir rfl
theorem qt32 {X pc : Nat} {L r : List Value} : vB 32 pc L r (vt X v) x ↔ x = vt X v := vB_t rfl
/-! 33 PassChecker$Program.setCode(IIIIII)V -/
theorem q33_0 : vE 33 0 [.ref p, l1, l2, l3, l4, l5, l6, l7] st v x ↔ vE 33 1 [.ref p, l1, l2, l3, l4, l5, l6, l7] (.ref p :: st) v x := vE_s rfl rfl
theorem q33_1 : vE 33 1 [l0, .int a, l2, l3, l4, l5, l6, l7] st v x ↔ vE 33 2 [l0, .int a, l2, l3, l4, l5, l6, l7] (.int a :: st) v x := vE_s rfl rfl
theorem q33_2 : vE 33 2 [l0, l1, .int a, l3, l4, l5, l6, l7] st v x ↔ vE 33 3 [l0, l1, .int a, l3, l4, l5, l6, l7] (.int a :: st) v x := vE_s rfl rfl
theorem q33_3 : vE 33 3 [l0, l1, l2, l3, l4, l5, l6, l7] (w2 :: w1 :: w0 :: st) v x ↔ ∃ y : vm_Y, vE 34 0 [w0, w1, w2] [] v y ∧ vB 33 3 [l0, l1, l2, l3, l4, l5, l6, l7] st y x := vE_cv rfl rfl rfl rfl
theorem q33_6 : vE 33 6 [l0, l1, l2, l3, l4, l5, l6, l7] (.int a :: st) v x ↔ if a = 0 then vE 33 9 [l0, l1, l2, l3, l4, l5, l6, l7] st v x else vE 33 10 [l0, l1, l2, l3, l4, l5, l6, l7] st v x := vE_if rfl rfl
theorem q33_9 : vE 33 9 [l0, l1, l2, l3, l4, l5, l6, l7] [] v x ↔ x = vd v := vE_vr rfl
theorem q33_10 : vE 33 10 [l0, .int a, l2, l3, l4, l5, l6, l7] st v x ↔ vE 33 11 [l0, .int a, l2, l3, l4, l5, l6, l7] (.int a :: st) v x := vE_s rfl rfl
theorem q33_11 : vE 33 11 [l0, l1, l2, l3, l4, l5, l6, l7] st v x ↔ vE 33 13 [l0, l1, l2, l3, l4, l5, l6, l7] (.int 8 :: st) v x := vE_s rfl (by rfl)
theorem q33_13 : vE 33 13 [l0, l1, l2, l3, l4, l5, l6, l7] (.int b :: .int a :: st) v x ↔ vE 33 14 [l0, l1, l2, l3, l4, l5, l6, l7] (.int (a * b) :: st) v x := vE_s rfl rfl
theorem q33_14 : vE 33 14 [l0, l1, .int a, l3, l4, l5, l6, l7] st v x ↔ vE 33 15 [l0, l1, .int a, l3, l4, l5, l6, l7] (.int a :: st) v x := vE_s rfl rfl
theorem q33_15 : vE 33 15 [l0, l1, l2, l3, l4, l5, l6, l7] (.int b :: .int a :: st) v x ↔ vE 33 16 [l0, l1, l2, l3, l4, l5, l6, l7] (.int (a + b) :: st) v x := vE_s rfl rfl
theorem q33_16 : vE 33 16 [l0, l1, l2, l3, l4, l5, l6, l7] st v x ↔ vE 33 17 [l0, l1, l2, l3, l4, l5, l6, l7] (.int 4 :: st) v x := vE_s rfl (by rfl)
theorem q33_17 : vE 33 17 [l0, l1, l2, l3, l4, l5, l6, l7] (.int b :: .int a :: st) v x ↔ vE 33 18 [l0, l1, l2, l3, l4, l5, l6, l7] (.int (a * b) :: st) v x := vE_s rfl rfl
theorem q33_18 : vE 33 18 [l0, l1, l2, l3, l4, l5, l6, l7] (.int a :: st) v x ↔ vE 33 20 [l0, l1, l2, l3, l4, l5, l6, .int a] st v x := vE_s rfl rfl
theorem q33_20 : vE 33 20 [.ref p, l1, l2, l3, l4, l5, l6, l7] st v x ↔ vE 33 21 [.ref p, l1, l2, l3, l4, l5, l6, l7] (.ref p :: st) v x := vE_s rfl rfl
theorem q33_21 : vE 33 21 [l0, l1, l2, l3, l4, l5, l6, l7] (.ref p :: st) v x ↔ vE 33 24 [l0, l1, l2, l3, l4, l5, l6, l7] (.ref (p + 1) :: st) v x := vE_s rfl rfl
theorem q33_24 : vE 33 24 [l0, l1, l2, l3, l4, l5, l6, .int a] st v x ↔ vE 33 26 [l0, l1, l2, l3, l4, l5, l6, .int a] (.int a :: st) v x := vE_s rfl rfl
theorem q33_26 : vE 33 26 [l0, l1, l2, l3, l4, l5, l6, l7] st v x ↔ vE 33 27 [l0, l1, l2, l3, l4, l5, l6, l7] (.int 0 :: st) v x := vE_s rfl (by rfl)
theorem q33_27 : vE 33 27 [l0, l1, l2, l3, l4, l5, l6, l7] (.int b :: .int a :: st) v x ↔ vE 33 28 [l0, l1, l2, l3, l4, l5, l6, l7] (.int (a + b) :: st) v x := vE_s rfl rfl
theorem q33_28 : vE 33 28 [l0, l1, l2, .int a, l4, l5, l6, l7] st v x ↔ vE 33 29 [l0, l1, l2, .int a, l4, l5, l6, l7] (.int a :: st) v x := vE_s rfl rfl
theorem q33_29 : vE 33 29 [l0, l1, l2, l3, l4, l5, l6, l7] (.int b :: .int a :: .ref p :: st) v x ↔ vE 33 30 [l0, l1, l2, l3, l4, l5, l6, l7] st (vm_si v p a.toNatClampNeg b) x := vE_s rfl rfl
theorem q33_30 : vE 33 30 [.ref p, l1, l2, l3, l4, l5, l6, l7] st v x ↔ vE 33 31 [.ref p, l1, l2, l3, l4, l5, l6, l7] (.ref p :: st) v x := vE_s rfl rfl
theorem q33_31 : vE 33 31 [l0, l1, l2, l3, l4, l5, l6, l7] (.ref p :: st) v x ↔ vE 33 34 [l0, l1, l2, l3, l4, l5, l6, l7] (.ref (p + 1) :: st) v x := vE_s rfl rfl
theorem q33_34 : vE 33 34 [l0, l1, l2, l3, l4, l5, l6, .int a] st v x ↔ vE 33 36 [l0, l1, l2, l3, l4, l5, l6, .int a] (.int a :: st) v x := vE_s rfl rfl
theorem q33_36 : vE 33 36 [l0, l1, l2, l3, l4, l5, l6, l7] st v x ↔ vE 33 37 [l0, l1, l2, l3, l4, l5, l6, l7] (.int 1 :: st) v x := vE_s rfl (by rfl)
theorem q33_37 : vE 33 37 [l0, l1, l2, l3, l4, l5, l6, l7] (.int b :: .int a :: st) v x ↔ vE 33 38 [l0, l1, l2, l3, l4, l5, l6, l7] (.int (a + b) :: st) v x := vE_s rfl rfl
theorem q33_38 : vE 33 38 [l0, l1, l2, l3, .int a, l5, l6, l7] st v x ↔ vE 33 40 [l0, l1, l2, l3, .int a, l5, l6, l7] (.int a :: st) v x := vE_s rfl rfl
theorem q33_40 : vE 33 40 [l0, l1, l2, l3, l4, l5, l6, l7] (.int b :: .int a :: .ref p :: st) v x ↔ vE 33 41 [l0, l1, l2, l3, l4, l5, l6, l7] st (vm_si v p a.toNatClampNeg b) x := vE_s rfl rfl
theorem q33_41 : vE 33 41 [.ref p, l1, l2, l3, l4, l5, l6, l7] st v x ↔ vE 33 42 [.ref p, l1, l2, l3, l4, l5, l6, l7] (.ref p :: st) v x := vE_s rfl rfl
theorem q33_42 : vE 33 42 [l0, l1, l2, l3, l4, l5, l6, l7] (.ref p :: st) v x ↔ vE 33 45 [l0, l1, l2, l3, l4, l5, l6, l7] (.ref (p + 1) :: st) v x := vE_s rfl rfl
theorem q33_45 : vE 33 45 [l0, l1, l2, l3, l4, l5, l6, .int a] st v x ↔ vE 33 47 [l0, l1, l2, l3, l4, l5, l6, .int a] (.int a :: st) v x := vE_s rfl rfl
theorem q33_47 : vE 33 47 [l0, l1, l2, l3, l4, l5, l6, l7] st v x ↔ vE 33 48 [l0, l1, l2, l3, l4, l5, l6, l7] (.int 2 :: st) v x := vE_s rfl (by rfl)
theorem q33_48 : vE 33 48 [l0, l1, l2, l3, l4, l5, l6, l7] (.int b :: .int a :: st) v x ↔ vE 33 49 [l0, l1, l2, l3, l4, l5, l6, l7] (.int (a + b) :: st) v x := vE_s rfl rfl
theorem q33_49 : vE 33 49 [l0, l1, l2, l3, l4, .int a, l6, l7] st v x ↔ vE 33 51 [l0, l1, l2, l3, l4, .int a, l6, l7] (.int a :: st) v x := vE_s rfl rfl
theorem q33_51 : vE 33 51 [l0, l1, l2, l3, l4, l5, l6, l7] (.int b :: .int a :: .ref p :: st) v x ↔ vE 33 52 [l0, l1, l2, l3, l4, l5, l6, l7] st (vm_si v p a.toNatClampNeg b) x := vE_s rfl rfl
theorem q33_52 : vE 33 52 [.ref p, l1, l2, l3, l4, l5, l6, l7] st v x ↔ vE 33 53 [.ref p, l1, l2, l3, l4, l5, l6, l7] (.ref p :: st) v x := vE_s rfl rfl
theorem q33_53 : vE 33 53 [l0, l1, l2, l3, l4, l5, l6, l7] (.ref p :: st) v x ↔ vE 33 56 [l0, l1, l2, l3, l4, l5, l6, l7] (.ref (p + 1) :: st) v x := vE_s rfl rfl
theorem q33_56 : vE 33 56 [l0, l1, l2, l3, l4, l5, l6, .int a] st v x ↔ vE 33 58 [l0, l1, l2, l3, l4, l5, l6, .int a] (.int a :: st) v x := vE_s rfl rfl
theorem q33_58 : vE 33 58 [l0, l1, l2, l3, l4, l5, l6, l7] st v x ↔ vE 33 59 [l0, l1, l2, l3, l4, l5, l6, l7] (.int 3 :: st) v x := vE_s rfl (by rfl)
theorem q33_59 : vE 33 59 [l0, l1, l2, l3, l4, l5, l6, l7] (.int b :: .int a :: st) v x ↔ vE 33 60 [l0, l1, l2, l3, l4, l5, l6, l7] (.int (a + b) :: st) v x := vE_s rfl rfl
theorem q33_60 : vE 33 60 [l0, l1, l2, l3, l4, l5, .int a, l7] st v x ↔ vE 33 62 [l0, l1, l2, l3, l4, l5, .int a, l7] (.int a :: st) v x := vE_s rfl rfl
theorem q33_62 : vE 33 62 [l0, l1, l2, l3, l4, l5, l6, l7] (.int b :: .int a :: .ref p :: st) v x ↔ vE 33 63 [l0, l1, l2, l3, l4, l5, l6, l7] st (vm_si v p a.toNatClampNeg b) x := vE_s rfl rfl
theorem q33_63 : vE 33 63 [l0, l1, l2, l3, l4, l5, l6, l7] [] v x ↔ x = vd v := vE_vr rfl
theorem qt33 {X pc : Nat} {L r : List Value} : vB 33 pc L r (vt X v) x ↔ x = vt X v := vB_t rfl
/-! 34 PassChecker$Program.hasCode(II)Z -/
theorem q34_0 : vE 34 0 [l0, l1, .int a] st v x ↔ vE 34 1 [l0, l1, .int a] (.int a :: st) v x := vE_s rfl rfl
theorem q34_1 : vE 34 1 [l0, l1, l2] (.int a :: st) v x ↔ if a < 0 then vE 34 23 [l0, l1, l2] st v x else vE 34 4 [l0, l1, l2] st v x := vE_if rfl rfl
theorem q34_4 : vE 34 4 [l0, l1, .int a] st v x ↔ vE 34 5 [l0, l1, .int a] (.int a :: st) v x := vE_s rfl rfl
theorem q34_5 : vE 34 5 [l0, l1, l2] st v x ↔ vE 34 7 [l0, l1, l2] (.int 8 :: st) v x := vE_s rfl (by rfl)
theorem q34_7 : vE 34 7 [l0, l1, l2] (.int b :: .int a :: st) v x ↔ if b ≤ a then vE 34 23 [l0, l1, l2] st v x else vE 34 10 [l0, l1, l2] st v x := vE_if rfl rfl
theorem q34_10 : vE 34 10 [l0, l1, .int a] st v x ↔ vE 34 11 [l0, l1, .int a] (.int a :: st) v x := vE_s rfl rfl
theorem q34_11 : vE 34 11 [.ref p, l1, l2] st v x ↔ vE 34 12 [.ref p, l1, l2] (.ref p :: st) v x := vE_s rfl rfl
theorem q34_12 : vE 34 12 [l0, .int a, l2] st v x ↔ vE 34 13 [l0, .int a, l2] (.int a :: st) v x := vE_s rfl rfl
theorem q34_13 : vE 34 13 [l0, l1, l2] (w1 :: w0 :: st) v x ↔ ∃ y : vm_Y, vE 31 0 [w0, w1] [] v y ∧ vB 34 13 [l0, l1, l2] st y x := vE_cv rfl rfl rfl rfl
theorem q34_16 : vE 34 16 [l0, l1, l2] (.int b :: .int a :: st) v x ↔ if b ≤ a then vE 34 23 [l0, l1, l2] st v x else vE 34 19 [l0, l1, l2] st v x := vE_if rfl rfl
theorem q34_19 : vE 34 19 [l0, l1, l2] st v x ↔ vE 34 20 [l0, l1, l2] (.int 1 :: st) v x := vE_s rfl (by rfl)
theorem q34_20 : vE 34 20 [l0, l1, l2] st v x ↔ vE 34 24 [l0, l1, l2] st v x := vE_s rfl rfl
theorem q34_23 : vE 34 23 [l0, l1, l2] st v x ↔ vE 34 24 [l0, l1, l2] (.int 0 :: st) v x := vE_s rfl (by rfl)
theorem q34_24 : vE 34 24 [l0, l1, l2] ([.int a]) v x ↔ x = vr a v := vE_ir rfl
theorem qt34 {X pc : Nat} {L r : List Value} : vB 34 pc L r (vt X v) x ↔ x = vt X v := vB_t rfl
/-! 37 PassChecker.requireGoalIf(ZI)V -/
theorem q37_0 : vE 37 0 [.int a, l1] st v x ↔ vE 37 1 [.int a, l1] (.int a :: st) v x := vE_s rfl rfl
theorem q37_1 : vE 37 1 [l0, l1] (.int a :: st) v x ↔ if a = 0 then vE 37 24 [l0, l1] st v x else vE 37 4 [l0, l1] st v x := vE_if rfl rfl
theorem q37_4 : vE 37 4 [l0, .int a] st v x ↔ vE 37 5 [l0, .int a] (.int a :: st) v x := vE_s rfl rfl
theorem q37_5 : vE 37 5 [l0, l1] (.int a :: st) v x ↔ if a < 0 then vE 37 14 [l0, l1] st v x else vE 37 8 [l0, l1] st v x := vE_if rfl rfl
theorem q37_8 : vE 37 8 [l0, .int a] st v x ↔ vE 37 9 [l0, .int a] (.int a :: st) v x := vE_s rfl rfl
theorem q37_9 : vE 37 9 [l0, l1] st v x ↔ vE 37 11 [l0, l1] (.int 6 :: st) v x := vE_s rfl (by rfl)
theorem q37_11 : vE 37 11 [l0, l1] (.int b :: .int a :: st) v x ↔ if a < b then vE 37 24 [l0, l1] st v x else vE 37 14 [l0, l1] st v x := vE_if rfl rfl
theorem q37_14 : vE 37 14 [l0, l1] st v x ↔ x = vt 12 v := vE_new rfl rfl
theorem q37_17 : vE 37 17 [l0, l1] (.ref p :: st) v x ↔ vE 37 18 [l0, l1] (.ref p :: .ref p :: st) v x := vE_s rfl rfl
theorem q37_24 : vE 37 24 [l0, l1] [] v x ↔ x = vd v := vE_vr rfl
/-! 40 PassChecker$Program.clear()V -/
theorem q40_0 : vE 40 0 [.ref p] st v x ↔ vE 40 1 [.ref p] (.ref p :: st) v x := vE_s rfl rfl
theorem q40_1 : vE 40 1 [l0] st v x ↔ vE 40 2 [l0] (.int 0 :: st) v x := vE_s rfl (by rfl)
theorem q40_2 : vE 40 2 [l0] (.int a :: .ref p :: st) v x ↔ vE 40 5 [l0] st (vm_si v p 3 a) x := vE_s rfl rfl
theorem q40_5 : vE 40 5 [l0] [] v x ↔ x = vd v := vE_vr rfl
/-! 43 PassChecker$Program.blockCount()I -/
theorem q43_0 : vE 43 0 [.ref p] st v x ↔ vE 43 1 [.ref p] (.ref p :: st) v x := vE_s rfl rfl
theorem q43_1 : vE 43 1 [l0] (.ref p :: st) v x ↔ vE 43 4 [l0] (.int (v.1 p 3) :: st) v x := vE_s rfl rfl
theorem q43_4 : vE 43 4 [l0] ([.int a]) v x ↔ x = vr a v := vE_ir rfl
/-! 47 PassChecker$Program.codeAt(III)I -/
theorem q47_0 : vE 47 0 [l0, .int a, l2, l3, l4] st v x ↔ vE 47 1 [l0, .int a, l2, l3, l4] (.int a :: st) v x := vE_s rfl rfl
theorem q47_1 : vE 47 1 [l0, l1, l2, l3, l4] (.int a :: st) v x ↔ if a < 0 then vE 47 41 [l0, l1, l2, l3, l4] st v x else vE 47 4 [l0, l1, l2, l3, l4] st v x := vE_if rfl rfl
theorem q47_4 : vE 47 4 [l0, .int a, l2, l3, l4] st v x ↔ vE 47 5 [l0, .int a, l2, l3, l4] (.int a :: st) v x := vE_s rfl rfl
theorem q47_5 : vE 47 5 [.ref p, l1, l2, l3, l4] st v x ↔ vE 47 6 [.ref p, l1, l2, l3, l4] (.ref p :: st) v x := vE_s rfl rfl
theorem q47_6 : vE 47 6 [l0, l1, l2, l3, l4] (.ref p :: st) v x ↔ vE 47 9 [l0, l1, l2, l3, l4] (.int (v.1 p 3) :: st) v x := vE_s rfl rfl
theorem q47_9 : vE 47 9 [l0, l1, l2, l3, l4] (.int b :: .int a :: st) v x ↔ if b ≤ a then vE 47 41 [l0, l1, l2, l3, l4] st v x else vE 47 12 [l0, l1, l2, l3, l4] st v x := vE_if rfl rfl
theorem q47_12 : vE 47 12 [l0, .int a, l2, l3, l4] st v x ↔ vE 47 13 [l0, .int a, l2, l3, l4] (.int a :: st) v x := vE_s rfl rfl
theorem q47_13 : vE 47 13 [l0, l1, l2, l3, l4] st v x ↔ vE 47 15 [l0, l1, l2, l3, l4] (.int 6 :: st) v x := vE_s rfl (by rfl)
theorem q47_15 : vE 47 15 [l0, l1, l2, l3, l4] (.int b :: .int a :: st) v x ↔ if b ≤ a then vE 47 41 [l0, l1, l2, l3, l4] st v x else vE 47 18 [l0, l1, l2, l3, l4] st v x := vE_if rfl rfl
theorem q47_18 : vE 47 18 [l0, l1, .int a, l3, l4] st v x ↔ vE 47 19 [l0, l1, .int a, l3, l4] (.int a :: st) v x := vE_s rfl rfl
theorem q47_19 : vE 47 19 [l0, l1, l2, l3, l4] (.int a :: st) v x ↔ if a < 0 then vE 47 41 [l0, l1, l2, l3, l4] st v x else vE 47 22 [l0, l1, l2, l3, l4] st v x := vE_if rfl rfl
theorem q47_22 : vE 47 22 [l0, l1, .int a, l3, l4] st v x ↔ vE 47 23 [l0, l1, .int a, l3, l4] (.int a :: st) v x := vE_s rfl rfl
theorem q47_23 : vE 47 23 [l0, l1, l2, l3, l4] st v x ↔ vE 47 25 [l0, l1, l2, l3, l4] (.int 8 :: st) v x := vE_s rfl (by rfl)
theorem q47_25 : vE 47 25 [l0, l1, l2, l3, l4] (.int b :: .int a :: st) v x ↔ if b ≤ a then vE 47 41 [l0, l1, l2, l3, l4] st v x else vE 47 28 [l0, l1, l2, l3, l4] st v x := vE_if rfl rfl
theorem q47_28 : vE 47 28 [l0, l1, l2, .int a, l4] st v x ↔ vE 47 29 [l0, l1, l2, .int a, l4] (.int a :: st) v x := vE_s rfl rfl
theorem q47_29 : vE 47 29 [l0, l1, l2, l3, l4] (.int a :: st) v x ↔ if a < 0 then vE 47 41 [l0, l1, l2, l3, l4] st v x else vE 47 32 [l0, l1, l2, l3, l4] st v x := vE_if rfl rfl
theorem q47_32 : vE 47 32 [l0, l1, l2, .int a, l4] st v x ↔ vE 47 33 [l0, l1, l2, .int a, l4] (.int a :: st) v x := vE_s rfl rfl
theorem q47_33 : vE 47 33 [l0, l1, l2, l3, l4] st v x ↔ vE 47 34 [l0, l1, l2, l3, l4] (.int 4 :: st) v x := vE_s rfl (by rfl)
theorem q47_34 : vE 47 34 [l0, l1, l2, l3, l4] (.int b :: .int a :: st) v x ↔ if b ≤ a then vE 47 41 [l0, l1, l2, l3, l4] st v x else vE 47 37 [l0, l1, l2, l3, l4] st v x := vE_if rfl rfl
theorem q47_37 : vE 47 37 [l0, l1, l2, l3, l4] st v x ↔ vE 47 38 [l0, l1, l2, l3, l4] (.int 1 :: st) v x := vE_s rfl (by rfl)
theorem q47_38 : vE 47 38 [l0, l1, l2, l3, l4] st v x ↔ vE 47 42 [l0, l1, l2, l3, l4] st v x := vE_s rfl rfl
theorem q47_41 : vE 47 41 [l0, l1, l2, l3, l4] st v x ↔ vE 47 42 [l0, l1, l2, l3, l4] (.int 0 :: st) v x := vE_s rfl (by rfl)
theorem q47_42 : vE 47 42 [l0, l1, l2, l3, l4] (.int a :: st) v x ↔ vE 47 44 [l0, l1, l2, l3, .int a] st v x := vE_s rfl rfl
theorem q47_44 : vE 47 44 [l0, l1, l2, l3, .int a] st v x ↔ vE 47 46 [l0, l1, l2, l3, .int a] (.int a :: st) v x := vE_s rfl rfl
theorem q47_46 : vE 47 46 [l0, l1, l2, l3, l4] (.int a :: st) v x ↔ if a = 0 then vE 47 67 [l0, l1, l2, l3, l4] st v x else vE 47 49 [l0, l1, l2, l3, l4] st v x := vE_if rfl rfl
theorem q47_49 : vE 47 49 [.ref p, l1, l2, l3, l4] st v x ↔ vE 47 50 [.ref p, l1, l2, l3, l4] (.ref p :: st) v x := vE_s rfl rfl
theorem q47_50 : vE 47 50 [l0, l1, l2, l3, l4] (.ref p :: st) v x ↔ vE 47 53 [l0, l1, l2, l3, l4] (.ref (p + 1) :: st) v x := vE_s rfl rfl
theorem q47_53 : vE 47 53 [l0, .int a, l2, l3, l4] st v x ↔ vE 47 54 [l0, .int a, l2, l3, l4] (.int a :: st) v x := vE_s rfl rfl
theorem q47_54 : vE 47 54 [l0, l1, l2, l3, l4] st v x ↔ vE 47 56 [l0, l1, l2, l3, l4] (.int 8 :: st) v x := vE_s rfl (by rfl)
theorem q47_56 : vE 47 56 [l0, l1, l2, l3, l4] (.int b :: .int a :: st) v x ↔ vE 47 57 [l0, l1, l2, l3, l4] (.int (a * b) :: st) v x := vE_s rfl rfl
theorem q47_57 : vE 47 57 [l0, l1, .int a, l3, l4] st v x ↔ vE 47 58 [l0, l1, .int a, l3, l4] (.int a :: st) v x := vE_s rfl rfl
theorem q47_58 : vE 47 58 [l0, l1, l2, l3, l4] (.int b :: .int a :: st) v x ↔ vE 47 59 [l0, l1, l2, l3, l4] (.int (a + b) :: st) v x := vE_s rfl rfl
theorem q47_59 : vE 47 59 [l0, l1, l2, l3, l4] st v x ↔ vE 47 60 [l0, l1, l2, l3, l4] (.int 4 :: st) v x := vE_s rfl (by rfl)
theorem q47_60 : vE 47 60 [l0, l1, l2, l3, l4] (.int b :: .int a :: st) v x ↔ vE 47 61 [l0, l1, l2, l3, l4] (.int (a * b) :: st) v x := vE_s rfl rfl
theorem q47_61 : vE 47 61 [l0, l1, l2, .int a, l4] st v x ↔ vE 47 62 [l0, l1, l2, .int a, l4] (.int a :: st) v x := vE_s rfl rfl
theorem q47_62 : vE 47 62 [l0, l1, l2, l3, l4] (.int b :: .int a :: st) v x ↔ vE 47 63 [l0, l1, l2, l3, l4] (.int (a + b) :: st) v x := vE_s rfl rfl
theorem q47_63 : vE 47 63 [l0, l1, l2, l3, l4] (.int a :: .ref p :: st) v x ↔ vE 47 64 [l0, l1, l2, l3, l4] (.int (v.1 p a.toNatClampNeg) :: st) v x := vE_s rfl rfl
theorem q47_64 : vE 47 64 [l0, l1, l2, l3, l4] st v x ↔ vE 47 68 [l0, l1, l2, l3, l4] st v x := vE_s rfl rfl
theorem q47_67 : vE 47 67 [l0, l1, l2, l3, l4] st v x ↔ vE 47 68 [l0, l1, l2, l3, l4] (.int 0 :: st) v x := vE_s rfl (by rfl)
theorem q47_68 : vE 47 68 [l0, l1, l2, l3, l4] ([.int a]) v x ↔ x = vr a v := vE_ir rfl
/-! 56 PassChecker$Program.endAt(II)I -/
theorem q56_0 : vE 56 0 [l0, .int a, l2] st v x ↔ vE 56 1 [l0, .int a, l2] (.int a :: st) v x := vE_s rfl rfl
theorem q56_1 : vE 56 1 [l0, l1, l2] (.int a :: st) v x ↔ if a < 0 then vE 56 18 [l0, l1, l2] st v x else vE 56 4 [l0, l1, l2] st v x := vE_if rfl rfl
theorem q56_4 : vE 56 4 [l0, .int a, l2] st v x ↔ vE 56 5 [l0, .int a, l2] (.int a :: st) v x := vE_s rfl rfl
theorem q56_5 : vE 56 5 [.ref p, l1, l2] st v x ↔ vE 56 6 [.ref p, l1, l2] (.ref p :: st) v x := vE_s rfl rfl
theorem q56_6 : vE 56 6 [l0, l1, l2] (.ref p :: st) v x ↔ vE 56 9 [l0, l1, l2] (.int (v.1 p 3) :: st) v x := vE_s rfl rfl
theorem q56_9 : vE 56 9 [l0, l1, l2] (.int b :: .int a :: st) v x ↔ if b ≤ a then vE 56 18 [l0, l1, l2] st v x else vE 56 12 [l0, l1, l2] st v x := vE_if rfl rfl
theorem q56_12 : vE 56 12 [l0, .int a, l2] st v x ↔ vE 56 13 [l0, .int a, l2] (.int a :: st) v x := vE_s rfl rfl
theorem q56_13 : vE 56 13 [l0, l1, l2] st v x ↔ vE 56 15 [l0, l1, l2] (.int 6 :: st) v x := vE_s rfl (by rfl)
theorem q56_15 : vE 56 15 [l0, l1, l2] (.int b :: .int a :: st) v x ↔ if a < b then vE 56 28 [l0, l1, l2] st v x else vE 56 18 [l0, l1, l2] st v x := vE_if rfl rfl
theorem q56_18 : vE 56 18 [l0, l1, .int a] st v x ↔ vE 56 19 [l0, l1, .int a] (.int a :: st) v x := vE_s rfl rfl
theorem q56_19 : vE 56 19 [l0, l1, l2] (.int a :: st) v x ↔ if a = 0 then vE 56 22 [l0, l1, l2] st v x else vE 56 26 [l0, l1, l2] st v x := vE_if rfl rfl
theorem q56_22 : vE 56 22 [l0, l1, l2] st v x ↔ vE 56 23 [l0, l1, l2] (.int 2 :: st) v x := vE_s rfl (by rfl)
theorem q56_23 : vE 56 23 [l0, l1, l2] st v x ↔ vE 56 27 [l0, l1, l2] st v x := vE_s rfl rfl
theorem q56_26 : vE 56 26 [l0, l1, l2] st v x ↔ vE 56 27 [l0, l1, l2] (.int 0 :: st) v x := vE_s rfl (by rfl)
theorem q56_27 : vE 56 27 [l0, l1, l2] ([.int a]) v x ↔ x = vr a v := vE_ir rfl
theorem q56_28 : vE 56 28 [l0, l1, .int a] st v x ↔ vE 56 29 [l0, l1, .int a] (.int a :: st) v x := vE_s rfl rfl
theorem q56_29 : vE 56 29 [l0, l1, l2] (.int a :: st) v x ↔ if a < 0 then vE 56 50 [l0, l1, l2] st v x else vE 56 32 [l0, l1, l2] st v x := vE_if rfl rfl
theorem q56_32 : vE 56 32 [l0, l1, .int a] st v x ↔ vE 56 33 [l0, l1, .int a] (.int a :: st) v x := vE_s rfl rfl
theorem q56_33 : vE 56 33 [l0, l1, l2] st v x ↔ vE 56 34 [l0, l1, l2] (.int 4 :: st) v x := vE_s rfl (by rfl)
theorem q56_34 : vE 56 34 [l0, l1, l2] (.int b :: .int a :: st) v x ↔ if b ≤ a then vE 56 50 [l0, l1, l2] st v x else vE 56 37 [l0, l1, l2] st v x := vE_if rfl rfl
theorem q56_37 : vE 56 37 [.ref p, l1, l2] st v x ↔ vE 56 38 [.ref p, l1, l2] (.ref p :: st) v x := vE_s rfl rfl
theorem q56_38 : vE 56 38 [l0, l1, l2] (.ref p :: st) v x ↔ vE 56 41 [l0, l1, l2] (.ref (p + 2) :: st) v x := vE_s rfl rfl
theorem q56_41 : vE 56 41 [l0, .int a, l2] st v x ↔ vE 56 42 [l0, .int a, l2] (.int a :: st) v x := vE_s rfl rfl
theorem q56_42 : vE 56 42 [l0, l1, l2] st v x ↔ vE 56 43 [l0, l1, l2] (.int 4 :: st) v x := vE_s rfl (by rfl)
theorem q56_43 : vE 56 43 [l0, l1, l2] (.int b :: .int a :: st) v x ↔ vE 56 44 [l0, l1, l2] (.int (a * b) :: st) v x := vE_s rfl rfl
theorem q56_44 : vE 56 44 [l0, l1, .int a] st v x ↔ vE 56 45 [l0, l1, .int a] (.int a :: st) v x := vE_s rfl rfl
theorem q56_45 : vE 56 45 [l0, l1, l2] (.int b :: .int a :: st) v x ↔ vE 56 46 [l0, l1, l2] (.int (a + b) :: st) v x := vE_s rfl rfl
theorem q56_46 : vE 56 46 [l0, l1, l2] (.int a :: .ref p :: st) v x ↔ vE 56 47 [l0, l1, l2] (.int (v.1 p a.toNatClampNeg) :: st) v x := vE_s rfl rfl
theorem q56_47 : vE 56 47 [l0, l1, l2] st v x ↔ vE 56 51 [l0, l1, l2] st v x := vE_s rfl rfl
theorem q56_50 : vE 56 50 [l0, l1, l2] st v x ↔ vE 56 51 [l0, l1, l2] (.int 0 :: st) v x := vE_s rfl (by rfl)
theorem q56_51 : vE 56 51 [l0, l1, l2] ([.int a]) v x ↔ x = vr a v := vE_ir rfl
/-! 61 PassChecker$Program.readsAt(III)Z -/
theorem q61_0 : vE 61 0 [.ref p, l1, l2, l3, l4] st v x ↔ vE 61 1 [.ref p, l1, l2, l3, l4] (.ref p :: st) v x := vE_s rfl rfl
theorem q61_1 : vE 61 1 [l0, .int a, l2, l3, l4] st v x ↔ vE 61 2 [l0, .int a, l2, l3, l4] (.int a :: st) v x := vE_s rfl rfl
theorem q61_2 : vE 61 2 [l0, l1, .int a, l3, l4] st v x ↔ vE 61 3 [l0, l1, .int a, l3, l4] (.int a :: st) v x := vE_s rfl rfl
theorem q61_3 : vE 61 3 [l0, l1, l2, l3, l4] st v x ↔ vE 61 4 [l0, l1, l2, l3, l4] (.int 0 :: st) v x := vE_s rfl (by rfl)
theorem q61_4 : vE 61 4 [l0, l1, l2, l3, l4] (w3 :: w2 :: w1 :: w0 :: st) v x ↔ ∃ y : vm_Y, vE 47 0 [w0, w1, w2, w3, .retAddr 0] [] v y ∧ vB 61 4 [l0, l1, l2, l3, l4] st y x := vE_cv rfl rfl rfl rfl
theorem q61_7 : vE 61 7 [l0, l1, l2, l3, l4] (.int a :: st) v x ↔ vE 61 9 [l0, l1, l2, l3, .int a] st v x := vE_s rfl rfl
theorem q61_9 : vE 61 9 [l0, l1, l2, l3, .int a] st v x ↔ vE 61 11 [l0, l1, l2, l3, .int a] (.int a :: st) v x := vE_s rfl rfl
theorem q61_11 : vE 61 11 [l0, l1, l2, l3, l4] (w0 :: st) v x ↔ ∃ y : vm_Y, vE 29 0 [w0] [] v y ∧ vB 61 11 [l0, l1, l2, l3, l4] st y x := vE_cs rfl rfl rfl rfl
theorem q61_14 : vE 61 14 [l0, l1, l2, l3, l4] (.int a :: st) v x ↔ if a = 0 then vE 61 28 [l0, l1, l2, l3, l4] st v x else vE 61 17 [l0, l1, l2, l3, l4] st v x := vE_if rfl rfl
theorem q61_17 : vE 61 17 [.ref p, l1, l2, l3, l4] st v x ↔ vE 61 18 [.ref p, l1, l2, l3, l4] (.ref p :: st) v x := vE_s rfl rfl
theorem q61_18 : vE 61 18 [l0, .int a, l2, l3, l4] st v x ↔ vE 61 19 [l0, .int a, l2, l3, l4] (.int a :: st) v x := vE_s rfl rfl
theorem q61_19 : vE 61 19 [l0, l1, .int a, l3, l4] st v x ↔ vE 61 20 [l0, l1, .int a, l3, l4] (.int a :: st) v x := vE_s rfl rfl
theorem q61_20 : vE 61 20 [l0, l1, l2, l3, l4] st v x ↔ vE 61 21 [l0, l1, l2, l3, l4] (.int 2 :: st) v x := vE_s rfl (by rfl)
theorem q61_21 : vE 61 21 [l0, l1, l2, l3, l4] (w3 :: w2 :: w1 :: w0 :: st) v x ↔ ∃ y : vm_Y, vE 47 0 [w0, w1, w2, w3, .retAddr 0] [] v y ∧ vB 61 21 [l0, l1, l2, l3, l4] st y x := vE_cv rfl rfl rfl rfl
theorem q61_24 : vE 61 24 [l0, l1, l2, .int a, l4] st v x ↔ vE 61 25 [l0, l1, l2, .int a, l4] (.int a :: st) v x := vE_s rfl rfl
theorem q61_25 : vE 61 25 [l0, l1, l2, l3, l4] (.int b :: .int a :: st) v x ↔ if a = b then vE 61 47 [l0, l1, l2, l3, l4] st v x else vE 61 28 [l0, l1, l2, l3, l4] st v x := vE_if rfl rfl
theorem q61_28 : vE 61 28 [l0, l1, l2, l3, .int a] st v x ↔ vE 61 30 [l0, l1, l2, l3, .int a] (.int a :: st) v x := vE_s rfl rfl
theorem q61_30 : vE 61 30 [l0, l1, l2, l3, l4] (w0 :: st) v x ↔ ∃ y : vm_Y, vE 30 0 [w0] [] v y ∧ vB 61 30 [l0, l1, l2, l3, l4] st y x := vE_cs rfl rfl rfl rfl
theorem q61_33 : vE 61 33 [l0, l1, l2, l3, l4] (.int a :: st) v x ↔ if a = 0 then vE 61 51 [l0, l1, l2, l3, l4] st v x else vE 61 36 [l0, l1, l2, l3, l4] st v x := vE_if rfl rfl
theorem q61_36 : vE 61 36 [.ref p, l1, l2, l3, l4] st v x ↔ vE 61 37 [.ref p, l1, l2, l3, l4] (.ref p :: st) v x := vE_s rfl rfl
theorem q61_37 : vE 61 37 [l0, .int a, l2, l3, l4] st v x ↔ vE 61 38 [l0, .int a, l2, l3, l4] (.int a :: st) v x := vE_s rfl rfl
theorem q61_38 : vE 61 38 [l0, l1, .int a, l3, l4] st v x ↔ vE 61 39 [l0, l1, .int a, l3, l4] (.int a :: st) v x := vE_s rfl rfl
theorem q61_39 : vE 61 39 [l0, l1, l2, l3, l4] st v x ↔ vE 61 40 [l0, l1, l2, l3, l4] (.int 3 :: st) v x := vE_s rfl (by rfl)
theorem q61_40 : vE 61 40 [l0, l1, l2, l3, l4] (w3 :: w2 :: w1 :: w0 :: st) v x ↔ ∃ y : vm_Y, vE 47 0 [w0, w1, w2, w3, .retAddr 0] [] v y ∧ vB 61 40 [l0, l1, l2, l3, l4] st y x := vE_cv rfl rfl rfl rfl
theorem q61_43 : vE 61 43 [l0, l1, l2, .int a, l4] st v x ↔ vE 61 44 [l0, l1, l2, .int a, l4] (.int a :: st) v x := vE_s rfl rfl
theorem q61_44 : vE 61 44 [l0, l1, l2, l3, l4] (.int b :: .int a :: st) v x ↔ if a = b then vE 61 47 [l0, l1, l2, l3, l4] st v x else vE 61 51 [l0, l1, l2, l3, l4] st v x := vE_if rfl rfl
theorem q61_47 : vE 61 47 [l0, l1, l2, l3, l4] st v x ↔ vE 61 48 [l0, l1, l2, l3, l4] (.int 1 :: st) v x := vE_s rfl (by rfl)
theorem q61_48 : vE 61 48 [l0, l1, l2, l3, l4] st v x ↔ vE 61 52 [l0, l1, l2, l3, l4] st v x := vE_s rfl rfl
theorem q61_51 : vE 61 51 [l0, l1, l2, l3, l4] st v x ↔ vE 61 52 [l0, l1, l2, l3, l4] (.int 0 :: st) v x := vE_s rfl (by rfl)
theorem q61_52 : vE 61 52 [l0, l1, l2, l3, l4] ([.int a]) v x ↔ x = vr a v := vE_ir rfl
theorem qt61 {X pc : Nat} {L r : List Value} : vB 61 pc L r (vt X v) x ↔ x = vt X v := vB_t rfl
/-! 62 PassChecker$Program.writtenAt(II)I -/
theorem q62_0 : vE 62 0 [.ref p, l1, l2] st v x ↔ vE 62 1 [.ref p, l1, l2] (.ref p :: st) v x := vE_s rfl rfl
theorem q62_1 : vE 62 1 [l0, .int a, l2] st v x ↔ vE 62 2 [l0, .int a, l2] (.int a :: st) v x := vE_s rfl rfl
theorem q62_2 : vE 62 2 [l0, l1, .int a] st v x ↔ vE 62 3 [l0, l1, .int a] (.int a :: st) v x := vE_s rfl rfl
theorem q62_3 : vE 62 3 [l0, l1, l2] st v x ↔ vE 62 4 [l0, l1, l2] (.int 0 :: st) v x := vE_s rfl (by rfl)
theorem q62_4 : vE 62 4 [l0, l1, l2] (w3 :: w2 :: w1 :: w0 :: st) v x ↔ ∃ y : vm_Y, vE 47 0 [w0, w1, w2, w3, .retAddr 0] [] v y ∧ vB 62 4 [l0, l1, l2] st y x := vE_cv rfl rfl rfl rfl
theorem q62_7 : vE 62 7 [l0, l1, l2] (w0 :: st) v x ↔ ∃ y : vm_Y, vE 26 0 [w0] [] v y ∧ vB 62 7 [l0, l1, l2] st y x := vE_cs rfl rfl rfl rfl
theorem q62_10 : vE 62 10 [l0, l1, l2] (.int a :: st) v x ↔ if a = 0 then vE 62 23 [l0, l1, l2] st v x else vE 62 13 [l0, l1, l2] st v x := vE_if rfl rfl
theorem q62_13 : vE 62 13 [.ref p, l1, l2] st v x ↔ vE 62 14 [.ref p, l1, l2] (.ref p :: st) v x := vE_s rfl rfl
theorem q62_14 : vE 62 14 [l0, .int a, l2] st v x ↔ vE 62 15 [l0, .int a, l2] (.int a :: st) v x := vE_s rfl rfl
theorem q62_15 : vE 62 15 [l0, l1, .int a] st v x ↔ vE 62 16 [l0, l1, .int a] (.int a :: st) v x := vE_s rfl rfl
theorem q62_16 : vE 62 16 [l0, l1, l2] st v x ↔ vE 62 17 [l0, l1, l2] (.int 1 :: st) v x := vE_s rfl (by rfl)
theorem q62_17 : vE 62 17 [l0, l1, l2] (w3 :: w2 :: w1 :: w0 :: st) v x ↔ ∃ y : vm_Y, vE 47 0 [w0, w1, w2, w3, .retAddr 0] [] v y ∧ vB 62 17 [l0, l1, l2] st y x := vE_cv rfl rfl rfl rfl
theorem q62_20 : vE 62 20 [l0, l1, l2] st v x ↔ vE 62 24 [l0, l1, l2] st v x := vE_s rfl rfl
theorem q62_23 : vE 62 23 [l0, l1, l2] st v x ↔ vE 62 24 [l0, l1, l2] (.int (-1) :: st) v x := vE_s rfl (by rfl)
theorem q62_24 : vE 62 24 [l0, l1, l2] ([.int a]) v x ↔ x = vr a v := vE_ir rfl
theorem qt62 {X pc : Nat} {L r : List Value} : vB 62 pc L r (vt X v) x ↔ x = vt X v := vB_t rfl
end QA
