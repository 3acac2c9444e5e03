section QF
variable {l0 l1 l2 l3 l4 l5 l6 l7 l8 l9 l10 w0 w1 w2 w3 w4 w5 w6 w7 : Value} {st : List Value} {v : vm_V} {x : vm_Y} {a b c : Int32} {p q : Nat} {u w : Int64}
/-! 165 PassCheckerModel.fold(I)V -/
theorem q165_0 : vE 165 0 [l0, l1, l2, l3, l4, l5, l6, l7, l8, l9] st v x ↔ vE 165 1 [l0, l1, l2, l3, l4, l5, l6, l7, l8, l9] (.int 0 :: st) v x := vE_s rfl (by rfl)
theorem q165_1 : vE 165 1 [l0, l1, l2, l3, l4, l5, l6, l7, l8, l9] (.int a :: st) v x ↔ vE 165 2 [l0, l1, .int a, l3, l4, l5, l6, l7, l8, l9] st v x := vE_s rfl rfl
theorem q165_2 : vE 165 2 [l0, l1, .int a, l3, l4, l5, l6, l7, l8, l9] st v x ↔ vE 165 3 [l0, l1, .int a, l3, l4, l5, l6, l7, l8, l9] (.int a :: st) v x := vE_s rfl rfl
theorem q165_3 : vE 165 3 [l0, l1, l2, l3, l4, l5, l6, l7, l8, l9] st v x ↔ vE 165 5 [l0, l1, l2, l3, l4, l5, l6, l7, l8, l9] (.int 6 :: st) v x := vE_s rfl (by rfl)
theorem q165_5 : vE 165 5 [l0, l1, l2, l3, l4, l5, l6, l7, l8, l9] (.int b :: .int a :: st) v x ↔ if b ≤ a then vE 165 21 [l0, l1, l2, l3, l4, l5, l6, l7, l8, l9] st v x else vE 165 8 [l0, l1, l2, l3, l4, l5, l6, l7, l8, l9] st v x := vE_if rfl rfl
theorem q165_8 : vE 165 8 [.ref p, l1, l2, l3, l4, l5, l6, l7, l8, l9] st v x ↔ vE 165 9 [.ref p, l1, l2, l3, l4, l5, l6, l7, l8, l9] (.ref p :: st) v x := vE_s rfl rfl
theorem q165_9 : vE 165 9 [l0, l1, l2, l3, l4, l5, l6, l7, l8, l9] (.ref p :: st) v x ↔ vE 165 12 [l0, l1, l2, l3, l4, l5, l6, l7, l8, l9] (.ref (p + 22) :: st) v x := vE_s rfl rfl
theorem q165_12 : vE 165 12 [l0, l1, .int a, l3, l4, l5, l6, l7, l8, l9] st v x ↔ vE 165 13 [l0, l1, .int a, l3, l4, l5, l6, l7, l8, l9] (.int a :: st) v x := vE_s rfl rfl
theorem q165_13 : vE 165 13 [l0, l1, l2, l3, l4, l5, l6, l7, l8, l9] st v x ↔ vE 165 14 [l0, l1, l2, l3, l4, l5, l6, l7, l8, l9] (.int 0 :: st) v x := vE_s rfl (by rfl)
theorem q165_14 : vE 165 14 [l0, l1, l2, l3, l4, l5, l6, l7, l8, l9] (.int b :: .int a :: .ref p :: st) v x ↔ vE 165 15 [l0, l1, l2, l3, l4, l5, l6, l7, l8, l9] st (vm_si v p a.toNatClampNeg (b &&& 1)) x := vE_s rfl rfl
theorem q165_15 : vE 165 15 [l0, l1, .int a, l3, l4, l5, l6, l7, l8, l9] st v x ↔ vE 165 18 [l0, l1, .int (a + 1), l3, l4, l5, l6, l7, l8, l9] st v x := vE_s rfl rfl
theorem q165_18 : vE 165 18 [l0, l1, l2, l3, l4, l5, l6, l7, l8, l9] st v x ↔ vE 165 2 [l0, l1, l2, l3, l4, l5, l6, l7, l8, l9] st v x := vE_s rfl rfl
theorem q165_21 : vE 165 21 [l0, l1, l2, l3, l4, l5, l6, l7, l8, l9] st v x ↔ vE 165 22 [l0, l1, l2, l3, l4, l5, l6, l7, l8, l9] (.int 0 :: st) v x := vE_s rfl (by rfl)
theorem q165_22 : vE 165 22 [l0, l1, l2, l3, l4, l5, l6, l7, l8, l9] (.int a :: st) v x ↔ vE 165 23 [l0, l1, .int a, l3, l4, l5, l6, l7, l8, l9] st v x := vE_s rfl rfl
theorem q165_23 : vE 165 23 [l0, l1, .int a, l3, l4, l5, l6, l7, l8, l9] st v x ↔ vE 165 24 [l0, l1, .int a, l3, l4, l5, l6, l7, l8, l9] (.int a :: st) v x := vE_s rfl rfl
theorem q165_24 : vE 165 24 [.ref p, l1, l2, l3, l4, l5, l6, l7, l8, l9] st v x ↔ vE 165 25 [.ref p, l1, l2, l3, l4, l5, l6, l7, l8, l9] (.ref p :: st) v x := vE_s rfl rfl
theorem q165_25 : vE 165 25 [l0, l1, l2, l3, l4, l5, l6, l7, l8, l9] (.ref p :: st) v x ↔ vE 165 28 [l0, l1, l2, l3, l4, l5, l6, l7, l8, l9] (.ref (p + 2) :: st) v x := vE_s rfl rfl
theorem q165_28 : vE 165 28 [l0, .int a, l2, l3, l4, l5, l6, l7, l8, l9] st v x ↔ vE 165 29 [l0, .int a, l2, l3, l4, l5, l6, l7, l8, l9] (.int a :: st) v x := vE_s rfl rfl
theorem q165_29 : vE 165 29 [l0, l1, l2, l3, l4, l5, l6, l7, l8, l9] (.int a :: .ref p :: st) v x ↔ vE 165 30 [l0, l1, l2, l3, l4, l5, l6, l7, l8, l9] (.int (v.1 p a.toNatClampNeg) :: st) v x := vE_s rfl rfl
theorem q165_30 : vE 165 30 [l0, l1, l2, l3, l4, l5, l6, l7, l8, l9] (.int b :: .int a :: st) v x ↔ if b ≤ a then vE 165 262 [l0, l1, l2, l3, l4, l5, l6, l7, l8, l9] st v x else vE 165 33 [l0, l1, l2, l3, l4, l5, l6, l7, l8, l9] st v x := vE_if rfl rfl
theorem q165_33 : vE 165 33 [l0, l1, l2, l3, l4, l5, l6, l7, l8, l9] st v x ↔ vE 165 36 [l0, l1, l2, l3, l4, l5, l6, l7, l8, l9] (.int 192 :: st) v x := vE_s rfl (by rfl)
theorem q165_36 : vE 165 36 [l0, l1, l2, l3, l4, l5, l6, l7, l8, l9] st v x ↔ vE 165 38 [l0, l1, l2, l3, l4, l5, l6, l7, l8, l9] (.int 32 :: st) v x := vE_s rfl (by rfl)
theorem q165_38 : vE 165 38 [l0, .int a, l2, l3, l4, l5, l6, l7, l8, l9] st v x ↔ vE 165 39 [l0, .int a, l2, l3, l4, l5, l6, l7, l8, l9] (.int a :: st) v x := vE_s rfl rfl
theorem q165_39 : vE 165 39 [l0, l1, l2, l3, l4, l5, l6, l7, l8, l9] (.int b :: .int a :: st) v x ↔ vE 165 40 [l0, l1, l2, l3, l4, l5, l6, l7, l8, l9] (.int (a * b) :: st) v x := vE_s rfl rfl
theorem q165_40 : vE 165 40 [l0, l1, l2, l3, l4, l5, l6, l7, l8, l9] (.int b :: .int a :: st) v x ↔ vE 165 41 [l0, l1, l2, l3, l4, l5, l6, l7, l8, l9] (.int (a + b) :: st) v x := vE_s rfl rfl
theorem q165_41 : vE 165 41 [l0, l1, l2, l3, l4, l5, l6, l7, l8, l9] st v x ↔ vE 165 42 [l0, l1, l2, l3, l4, l5, l6, l7, l8, l9] (.int 4 :: st) v x := vE_s rfl (by rfl)
theorem q165_42 : vE 165 42 [l0, l1, .int a, l3, l4, l5, l6, l7, l8, l9] st v x ↔ vE 165 43 [l0, l1, .int a, l3, l4, l5, l6, l7, l8, l9] (.int a :: st) v x := vE_s rfl rfl
theorem q165_43 : vE 165 43 [l0, l1, l2, l3, l4, l5, l6, l7, l8, l9] (.int b :: .int a :: st) v x ↔ vE 165 44 [l0, l1, l2, l3, l4, l5, l6, l7, l8, l9] (.int (a * b) :: st) v x := vE_s rfl rfl
theorem q165_44 : vE 165 44 [l0, l1, l2, l3, l4, l5, l6, l7, l8, l9] (.int b :: .int a :: st) v x ↔ vE 165 45 [l0, l1, l2, l3, l4, l5, l6, l7, l8, l9] (.int (a + b) :: st) v x := vE_s rfl rfl
theorem q165_45 : vE 165 45 [l0, l1, l2, l3, l4, l5, l6, l7, l8, l9] (.int a :: st) v x ↔ vE 165 46 [l0, l1, l2, .int a, l4, l5, l6, l7, l8, l9] st v x := vE_s rfl rfl
theorem q165_46 : vE 165 46 [.ref p, l1, l2, l3, l4, l5, l6, l7, l8, l9] st v x ↔ vE 165 47 [.ref p, l1, l2, l3, l4, l5, l6, l7, l8, l9] (.ref p :: st) v x := vE_s rfl rfl
theorem q165_47 : vE 165 47 [l0, l1, l2, l3, l4, l5, l6, l7, l8, l9] (.ref p :: st) v x ↔ vE 165 50 [l0, l1, l2, l3, l4, l5, l6, l7, l8, l9] (.ref (p + 3) :: st) v x := vE_s rfl rfl
theorem q165_50 : vE 165 50 [l0, l1, l2, .int a, l4, l5, l6, l7, l8, l9] st v x ↔ vE 165 51 [l0, l1, l2, .int a, l4, l5, l6, l7, l8, l9] (.int a :: st) v x := vE_s rfl rfl
theorem q165_51 : vE 165 51 [l0, l1, l2, l3, l4, l5, l6, l7, l8, l9] (.int a :: .ref p :: st) v x ↔ vE 165 52 [l0, l1, l2, l3, l4, l5, l6, l7, l8, l9] (.int (v.1 p a.toNatClampNeg) :: st) v x := vE_s rfl rfl
theorem q165_52 : vE 165 52 [l0, l1, l2, l3, l4, l5, l6, l7, l8, l9] (.int a :: st) v x ↔ vE 165 54 [l0, l1, l2, l3, .int a, l5, l6, l7, l8, l9] st v x := vE_s rfl rfl
theorem q165_54 : vE 165 54 [.ref p, l1, l2, l3, l4, l5, l6, l7, l8, l9] st v x ↔ vE 165 55 [.ref p, l1, l2, l3, l4, l5, l6, l7, l8, l9] (.ref p :: st) v x := vE_s rfl rfl
theorem q165_55 : vE 165 55 [l0, l1, l2, l3, l4, l5, l6, l7, l8, l9] (.ref p :: st) v x ↔ vE 165 58 [l0, l1, l2, l3, l4, l5, l6, l7, l8, l9] (.ref (p + 3) :: st) v x := vE_s rfl rfl
theorem q165_58 : vE 165 58 [l0, l1, l2, .int a, l4, l5, l6, l7, l8, l9] st v x ↔ vE 165 59 [l0, l1, l2, .int a, l4, l5, l6, l7, l8, l9] (.int a :: st) v x := vE_s rfl rfl
theorem q165_59 : vE 165 59 [l0, l1, l2, l3, l4, l5, l6, l7, l8, l9] st v x ↔ vE 165 60 [l0, l1, l2, l3, l4, l5, l6, l7, l8, l9] (.int 2 :: st) v x := vE_s rfl (by rfl)
theorem q165_60 : vE 165 60 [l0, l1, l2, l3, l4, l5, l6, l7, l8, l9] (.int b :: .int a :: st) v x ↔ vE 165 61 [l0, l1, l2, l3, l4, l5, l6, l7, l8, l9] (.int (a + b) :: st) v x := vE_s rfl rfl
theorem q165_61 : vE 165 61 [l0, l1, l2, l3, l4, l5, l6, l7, l8, l9] (.int a :: .ref p :: st) v x ↔ vE 165 62 [l0, l1, l2, l3, l4, l5, l6, l7, l8, l9] (.int (v.1 p a.toNatClampNeg) :: st) v x := vE_s rfl rfl
theorem q165_62 : vE 165 62 [l0, l1, l2, l3, l4, l5, l6, l7, l8, l9] (.int a :: st) v x ↔ vE 165 64 [l0, l1, l2, l3, l4, .int a, l6, l7, l8, l9] st v x := vE_s rfl rfl
theorem q165_64 : vE 165 64 [.ref p, l1, l2, l3, l4, l5, l6, l7, l8, l9] st v x ↔ vE 165 65 [.ref p, l1, l2, l3, l4, l5, l6, l7, l8, l9] (.ref p :: st) v x := vE_s rfl rfl
theorem q165_65 : vE 165 65 [l0, l1, l2, l3, l4, l5, l6, l7, l8, l9] (.ref p :: st) v x ↔ vE 165 68 [l0, l1, l2, l3, l4, l5, l6, l7, l8, l9] (.ref (p + 3) :: st) v x := vE_s rfl rfl
theorem q165_68 : vE 165 68 [l0, l1, l2, .int a, l4, l5, l6, l7, l8, l9] st v x ↔ vE 165 69 [l0, l1, l2, .int a, l4, l5, l6, l7, l8, l9] (.int a :: st) v x := vE_s rfl rfl
theorem q165_69 : vE 165 69 [l0, l1, l2, l3, l4, l5, l6, l7, l8, l9] st v x ↔ vE 165 70 [l0, l1, l2, l3, l4, l5, l6, l7, l8, l9] (.int 3 :: st) v x := vE_s rfl (by rfl)
theorem q165_70 : vE 165 70 [l0, l1, l2, l3, l4, l5, l6, l7, l8, l9] (.int b :: .int a :: st) v x ↔ vE 165 71 [l0, l1, l2, l3, l4, l5, l6, l7, l8, l9] (.int (a + b) :: st) v x := vE_s rfl rfl
theorem q165_71 : vE 165 71 [l0, l1, l2, l3, l4, l5, l6, l7, l8, l9] (.int a :: .ref p :: st) v x ↔ vE 165 72 [l0, l1, l2, l3, l4, l5, l6, l7, l8, l9] (.int (v.1 p a.toNatClampNeg) :: st) v x := vE_s rfl rfl
theorem q165_72 : vE 165 72 [l0, l1, l2, l3, l4, l5, l6, l7, l8, l9] (.int a :: st) v x ↔ vE 165 74 [l0, l1, l2, l3, l4, l5, .int a, l7, l8, l9] st v x := vE_s rfl rfl
theorem q165_74 : vE 165 74 [l0, l1, l2, l3, .int a, l5, l6, l7, l8, l9] st v x ↔ vE 165 76 [l0, l1, l2, l3, .int a, l5, l6, l7, l8, l9] (.int a :: st) v x := vE_s rfl rfl
theorem q165_76 : vE 165 76 [l0, l1, l2, l3, l4, l5, l6, l7, l8, l9] (.int a :: st) v x ↔ if a = 0 then vE 165 145 [l0, l1, l2, l3, l4, l5, l6, l7, l8, l9] st v x else vE 165 79 [l0, l1, l2, l3, l4, l5, l6, l7, l8, l9] st v x := vE_if rfl rfl
theorem q165_79 : vE 165 79 [l0, l1, l2, l3, .int a, l5, l6, l7, l8, l9] st v x ↔ vE 165 81 [l0, l1, l2, l3, .int a, l5, l6, l7, l8, l9] (.int a :: st) v x := vE_s rfl rfl
theorem q165_81 : vE 165 81 [l0, l1, l2, l3, l4, l5, l6, l7, l8, l9] st v x ↔ vE 165 82 [l0, l1, l2, l3, l4, l5, l6, l7, l8, l9] (.int 1 :: st) v x := vE_s rfl (by rfl)
theorem q165_82 : vE 165 82 [l0, l1, l2, l3, l4, l5, l6, l7, l8, l9] (.int b :: .int a :: st) v x ↔ if a = b then vE 165 85 [l0, l1, l2, l3, l4, l5, l6, l7, l8, l9] st v x else vE 165 95 [l0, l1, l2, l3, l4, l5, l6, l7, l8, l9] st v x := vE_if rfl rfl
theorem q165_85 : vE 165 85 [.ref p, l1, l2, l3, l4, l5, l6, l7, l8, l9] st v x ↔ vE 165 86 [.ref p, l1, l2, l3, l4, l5, l6, l7, l8, l9] (.ref p :: st) v x := vE_s rfl rfl
theorem q165_86 : vE 165 86 [l0, l1, l2, l3, l4, l5, l6, l7, l8, l9] (.ref p :: st) v x ↔ vE 165 89 [l0, l1, l2, l3, l4, l5, l6, l7, l8, l9] (.ref (p + 22) :: st) v x := vE_s rfl rfl
theorem q165_89 : vE 165 89 [l0, l1, l2, l3, l4, .int a, l6, l7, l8, l9] st v x ↔ vE 165 91 [l0, l1, l2, l3, l4, .int a, l6, l7, l8, l9] (.int a :: st) v x := vE_s rfl rfl
theorem q165_91 : vE 165 91 [l0, l1, l2, l3, l4, l5, l6, l7, l8, l9] (.int a :: .ref p :: st) v x ↔ vE 165 92 [l0, l1, l2, l3, l4, l5, l6, l7, l8, l9] (.int (v.1 p a.toNatClampNeg) :: st) v x := vE_s rfl rfl
theorem q165_92 : vE 165 92 [l0, l1, l2, l3, l4, l5, l6, l7, l8, l9] (.int a :: st) v x ↔ if a = 0 then vE 165 95 [l0, l1, l2, l3, l4, l5, l6, l7, l8, l9] st v x else vE 165 145 [l0, l1, l2, l3, l4, l5, l6, l7, l8, l9] st v x := vE_if rfl rfl
theorem q165_95 : vE 165 95 [l0, l1, l2, l3, .int a, l5, l6, l7, l8, l9] st v x ↔ vE 165 97 [l0, l1, l2, l3, .int a, l5, l6, l7, l8, l9] (.int a :: st) v x := vE_s rfl rfl
theorem q165_97 : vE 165 97 [l0, l1, l2, l3, l4, l5, l6, l7, l8, l9] st v x ↔ vE 165 98 [l0, l1, l2, l3, l4, l5, l6, l7, l8, l9] (.int 1 :: st) v x := vE_s rfl (by rfl)
theorem q165_98 : vE 165 98 [l0, l1, l2, l3, l4, l5, l6, l7, l8, l9] (.int b :: .int a :: st) v x ↔ if a ≤ b then vE 165 149 [l0, l1, l2, l3, l4, l5, l6, l7, l8, l9] st v x else vE 165 101 [l0, l1, l2, l3, l4, l5, l6, l7, l8, l9] st v x := vE_if rfl rfl
theorem q165_101 : vE 165 101 [l0, l1, l2, l3, .int a, l5, l6, l7, l8, l9] st v x ↔ vE 165 103 [l0, l1, l2, l3, .int a, l5, l6, l7, l8, l9] (.int a :: st) v x := vE_s rfl rfl
theorem q165_103 : vE 165 103 [l0, l1, l2, l3, l4, l5, l6, l7, l8, l9] st v x ↔ vE 165 105 [l0, l1, l2, l3, l4, l5, l6, l7, l8, l9] (.int 8 :: st) v x := vE_s rfl (by rfl)
theorem q165_105 : vE 165 105 [l0, l1, l2, l3, l4, l5, l6, l7, l8, l9] (.int b :: .int a :: st) v x ↔ if b ≤ a then vE 165 149 [l0, l1, l2, l3, l4, l5, l6, l7, l8, l9] st v x else vE 165 108 [l0, l1, l2, l3, l4, l5, l6, l7, l8, l9] st v x := vE_if rfl rfl
theorem q165_108 : vE 165 108 [.ref p, l1, l2, l3, l4, l5, l6, l7, l8, l9] st v x ↔ vE 165 109 [.ref p, l1, l2, l3, l4, l5, l6, l7, l8, l9] (.ref p :: st) v x := vE_s rfl rfl
theorem q165_109 : vE 165 109 [l0, l1, l2, l3, l4, l5, l6, l7, l8, l9] (.ref p :: st) v x ↔ vE 165 112 [l0, l1, l2, l3, l4, l5, l6, l7, l8, l9] (.ref (p + 22) :: st) v x := vE_s rfl rfl
theorem q165_112 : vE 165 112 [l0, l1, l2, l3, l4, .int a, l6, l7, l8, l9] st v x ↔ vE 165 114 [l0, l1, l2, l3, l4, .int a, l6, l7, l8, l9] (.int a :: st) v x := vE_s rfl rfl
theorem q165_114 : vE 165 114 [l0, l1, l2, l3, l4, l5, l6, l7, l8, l9] (.int a :: .ref p :: st) v x ↔ vE 165 115 [l0, l1, l2, l3, l4, l5, l6, l7, l8, l9] (.int (v.1 p a.toNatClampNeg) :: st) v x := vE_s rfl rfl
theorem q165_115 : vE 165 115 [l0, l1, l2, l3, l4, l5, l6, l7, l8, l9] (.int a :: st) v x ↔ if a = 0 then vE 165 149 [l0, l1, l2, l3, l4, l5, l6, l7, l8, l9] st v x else vE 165 118 [l0, l1, l2, l3, l4, l5, l6, l7, l8, l9] st v x := vE_if rfl rfl
theorem q165_118 : vE 165 118 [.ref p, l1, l2, l3, l4, l5, l6, l7, l8, l9] st v x ↔ vE 165 119 [.ref p, l1, l2, l3, l4, l5, l6, l7, l8, l9] (.ref p :: st) v x := vE_s rfl rfl
theorem q165_119 : vE 165 119 [l0, l1, l2, l3, l4, l5, l6, l7, l8, l9] (.ref p :: st) v x ↔ vE 165 122 [l0, l1, l2, l3, l4, l5, l6, l7, l8, l9] (.ref (p + 22) :: st) v x := vE_s rfl rfl
theorem q165_122 : vE 165 122 [l0, l1, l2, l3, l4, l5, .int a, l7, l8, l9] st v x ↔ vE 165 124 [l0, l1, l2, l3, l4, l5, .int a, l7, l8, l9] (.int a :: st) v x := vE_s rfl rfl
theorem q165_124 : vE 165 124 [l0, l1, l2, l3, l4, l5, l6, l7, l8, l9] (.int a :: .ref p :: st) v x ↔ vE 165 125 [l0, l1, l2, l3, l4, l5, l6, l7, l8, l9] (.int (v.1 p a.toNatClampNeg) :: st) v x := vE_s rfl rfl
theorem q165_125 : vE 165 125 [l0, l1, l2, l3, l4, l5, l6, l7, l8, l9] (.int a :: st) v x ↔ if a = 0 then vE 165 149 [l0, l1, l2, l3, l4, l5, l6, l7, l8, l9] st v x else vE 165 128 [l0, l1, l2, l3, l4, l5, l6, l7, l8, l9] st v x := vE_if rfl rfl
theorem q165_128 : vE 165 128 [l0, l1, l2, l3, .int a, l5, l6, l7, l8, l9] st v x ↔ vE 165 130 [l0, l1, l2, l3, .int a, l5, l6, l7, l8, l9] (.int a :: st) v x := vE_s rfl rfl
theorem q165_130 : vE 165 130 [l0, l1, l2, l3, l4, l5, l6, l7, l8, l9] st v x ↔ vE 165 132 [l0, l1, l2, l3, l4, l5, l6, l7, l8, l9] (.int 7 :: st) v x := vE_s rfl (by rfl)
theorem q165_132 : vE 165 132 [l0, l1, l2, l3, l4, l5, l6, l7, l8, l9] (.int b :: .int a :: st) v x ↔ if a = b then vE 165 135 [l0, l1, l2, l3, l4, l5, l6, l7, l8, l9] st v x else vE 165 145 [l0, l1, l2, l3, l4, l5, l6, l7, l8, l9] st v x := vE_if rfl rfl
theorem q165_135 : vE 165 135 [.ref p, l1, l2, l3, l4, l5, l6, l7, l8, l9] st v x ↔ vE 165 136 [.ref p, l1, l2, l3, l4, l5, l6, l7, l8, l9] (.ref p :: st) v x := vE_s rfl rfl
theorem q165_136 : vE 165 136 [l0, l1, l2, l3, l4, l5, l6, l7, l8, l9] (.ref p :: st) v x ↔ vE 165 139 [l0, l1, l2, l3, l4, l5, l6, l7, l8, l9] (.ref (p + 23) :: st) v x := vE_s rfl rfl
theorem q165_139 : vE 165 139 [l0, l1, l2, l3, l4, l5, .int a, l7, l8, l9] st v x ↔ vE 165 141 [l0, l1, l2, l3, l4, l5, .int a, l7, l8, l9] (.int a :: st) v x := vE_s rfl rfl
theorem q165_141 : vE 165 141 [l0, l1, l2, l3, l4, l5, l6, l7, l8, l9] (.int a :: .ref p :: st) v x ↔ vE 165 142 [l0, l1, l2, l3, l4, l5, l6, l7, l8, l9] (.int (v.1 p a.toNatClampNeg) :: st) v x := vE_s rfl rfl
theorem q165_142 : vE 165 142 [l0, l1, l2, l3, l4, l5, l6, l7, l8, l9] (.int a :: st) v x ↔ if a = 0 then vE 165 149 [l0, l1, l2, l3, l4, l5, l6, l7, l8, l9] st v x else vE 165 145 [l0, l1, l2, l3, l4, l5, l6, l7, l8, l9] st v x := vE_if rfl rfl
theorem q165_145 : vE 165 145 [l0, l1, l2, l3, l4, l5, l6, l7, l8, l9] st v x ↔ vE 165 146 [l0, l1, l2, l3, l4, l5, l6, l7, l8, l9] (.int 1 :: st) v x := vE_s rfl (by rfl)
theorem q165_146 : vE 165 146 [l0, l1, l2, l3, l4, l5, l6, l7, l8, l9] st v x ↔ vE 165 150 [l0, l1, l2, l3, l4, l5, l6, l7, l8, l9] st v x := vE_s rfl rfl
theorem q165_149 : vE 165 149 [l0, l1, l2, l3, l4, l5, l6, l7, l8, l9] st v x ↔ vE 165 150 [l0, l1, l2, l3, l4, l5, l6, l7, l8, l9] (.int 0 :: st) v x := vE_s rfl (by rfl)
theorem q165_150 : vE 165 150 [l0, l1, l2, l3, l4, l5, l6, l7, l8, l9] (.int a :: st) v x ↔ vE 165 152 [l0, l1, l2, l3, l4, l5, l6, .int a, l8, l9] st v x := vE_s rfl rfl
theorem q165_152 : vE 165 152 [l0, l1, l2, l3, .int a, l5, l6, l7, l8, l9] st v x ↔ vE 165 154 [l0, l1, l2, l3, .int a, l5, l6, l7, l8, l9] (.int a :: st) v x := vE_s rfl rfl
theorem q165_154 : vE 165 154 [l0, l1, l2, l3, l4, l5, l6, l7, l8, l9] st v x ↔ vE 165 156 [l0, l1, l2, l3, l4, l5, l6, l7, l8, l9] (.int 9 :: st) v x := vE_s rfl (by rfl)
theorem q165_156 : vE 165 156 [l0, l1, l2, l3, l4, l5, l6, l7, l8, l9] (.int b :: .int a :: st) v x ↔ if a = b then vE 165 159 [l0, l1, l2, l3, l4, l5, l6, l7, l8, l9] st v x else vE 165 162 [l0, l1, l2, l3, l4, l5, l6, l7, l8, l9] st v x := vE_if rfl rfl
theorem q165_159 : vE 165 159 [l0, l1, l2, l3, l4, l5, l6, l7, l8, l9] st v x ↔ vE 165 256 [l0, l1, l2, l3, l4, l5, l6, l7, l8, l9] st v x := vE_s rfl rfl
theorem q165_162 : vE 165 162 [.ref p, l1, l2, l3, l4, l5, l6, l7, l8, l9] st v x ↔ vE 165 163 [.ref p, l1, l2, l3, l4, l5, l6, l7, l8, l9] (.ref p :: st) v x := vE_s rfl rfl
theorem q165_163 : vE 165 163 [l0, l1, l2, l3, l4, l5, l6, l7, l8, l9] (.ref p :: st) v x ↔ vE 165 166 [l0, l1, l2, l3, l4, l5, l6, l7, l8, l9] (.ref (p + 3) :: st) v x := vE_s rfl rfl
theorem q165_166 : vE 165 166 [l0, l1, l2, .int a, l4, l5, l6, l7, l8, l9] st v x ↔ vE 165 167 [l0, l1, l2, .int a, l4, l5, l6, l7, l8, l9] (.int a :: st) v x := vE_s rfl rfl
theorem q165_167 : vE 165 167 [l0, l1, l2, l3, l4, l5, l6, l7, l8, l9] st v x ↔ vE 165 168 [l0, l1, l2, l3, l4, l5, l6, l7, l8, l9] (.int 1 :: st) v x := vE_s rfl (by rfl)
theorem q165_168 : vE 165 168 [l0, l1, l2, l3, l4, l5, l6, l7, l8, l9] (.int b :: .int a :: st) v x ↔ vE 165 169 [l0, l1, l2, l3, l4, l5, l6, l7, l8, l9] (.int (a + b) :: st) v x := vE_s rfl rfl
theorem q165_169 : vE 165 169 [l0, l1, l2, l3, l4, l5, l6, l7, l8, l9] (.int a :: .ref p :: st) v x ↔ vE 165 170 [l0, l1, l2, l3, l4, l5, l6, l7, l8, l9] (.int (v.1 p a.toNatClampNeg) :: st) v x := vE_s rfl rfl
theorem q165_170 : vE 165 170 [l0, l1, l2, l3, l4, l5, l6, l7, l8, l9] (.int a :: st) v x ↔ vE 165 172 [l0, l1, l2, l3, l4, l5, l6, l7, .int a, l9] st v x := vE_s rfl rfl
theorem q165_172 : vE 165 172 [l0, l1, l2, l3, l4, l5, l6, .int a, l8, l9] st v x ↔ vE 165 174 [l0, l1, l2, l3, l4, l5, l6, .int a, l8, l9] (.int a :: st) v x := vE_s rfl rfl
theorem q165_174 : vE 165 174 [l0, l1, l2, l3, l4, l5, l6, l7, l8, l9] (.int a :: st) v x ↔ if a = 0 then vE 165 177 [l0, l1, l2, l3, l4, l5, l6, l7, l8, l9] st v x else vE 165 181 [l0, l1, l2, l3, l4, l5, l6, l7, l8, l9] st v x := vE_if rfl rfl
theorem q165_177 : vE 165 177 [l0, l1, l2, l3, l4, l5, l6, l7, l8, l9] st v x ↔ vE 165 178 [l0, l1, l2, l3, l4, l5, l6, l7, l8, l9] (.int 0 :: st) v x := vE_s rfl (by rfl)
theorem q165_178 : vE 165 178 [l0, l1, l2, l3, l4, l5, l6, l7, l8, l9] st v x ↔ vE 165 220 [l0, l1, l2, l3, l4, l5, l6, l7, l8, l9] st v x := vE_s rfl rfl
theorem q165_181 : vE 165 181 [l0, l1, l2, l3, .int a, l5, l6, l7, l8, l9] st v x ↔ vE 165 183 [l0, l1, l2, l3, .int a, l5, l6, l7, l8, l9] (.int a :: st) v x := vE_s rfl rfl
theorem q165_183 : vE 165 183 [l0, l1, l2, l3, l4, l5, l6, l7, l8, l9] (.int a :: st) v x ↔ if a = 0 then vE 165 186 [l0, l1, l2, l3, l4, l5, l6, l7, l8, l9] st v x else vE 165 191 [l0, l1, l2, l3, l4, l5, l6, l7, l8, l9] st v x := vE_if rfl rfl
theorem q165_186 : vE 165 186 [l0, l1, l2, l3, l4, l5, .int a, l7, l8, l9] st v x ↔ vE 165 188 [l0, l1, l2, l3, l4, l5, .int a, l7, l8, l9] (.int a :: st) v x := vE_s rfl rfl
theorem q165_188 : vE 165 188 [l0, l1, l2, l3, l4, l5, l6, l7, l8, l9] st v x ↔ vE 165 220 [l0, l1, l2, l3, l4, l5, l6, l7, l8, l9] st v x := vE_s rfl rfl
theorem q165_191 : vE 165 191 [l0, l1, l2, l3, .int a, l5, l6, l7, l8, l9] st v x ↔ vE 165 193 [l0, l1, l2, l3, .int a, l5, l6, l7, l8, l9] (.int a :: st) v x := vE_s rfl rfl
theorem q165_193 : vE 165 193 [.ref p, l1, l2, l3, l4, l5, l6, l7, l8, l9] st v x ↔ vE 165 194 [.ref p, l1, l2, l3, l4, l5, l6, l7, l8, l9] (.ref p :: st) v x := vE_s rfl rfl
theorem q165_194 : vE 165 194 [l0, l1, l2, l3, l4, l5, l6, l7, l8, l9] (.ref p :: st) v x ↔ vE 165 197 [l0, l1, l2, l3, l4, l5, l6, l7, l8, l9] (.ref (p + 23) :: st) v x := vE_s rfl rfl
theorem q165_197 : vE 165 197 [l0, l1, l2, l3, l4, .int a, l6, l7, l8, l9] st v x ↔ vE 165 199 [l0, l1, l2, l3, l4, .int a, l6, l7, l8, l9] (.int a :: st) v x := vE_s rfl rfl
theorem q165_199 : vE 165 199 [l0, l1, l2, l3, l4, l5, l6, l7, l8, l9] (.int a :: .ref p :: st) v x ↔ vE 165 200 [l0, l1, l2, l3, l4, l5, l6, l7, l8, l9] (.int (v.1 p a.toNatClampNeg) :: st) v x := vE_s rfl rfl
theorem q165_200 : vE 165 200 [l0, l1, l2, l3, .int a, l5, l6, l7, l8, l9] st v x ↔ vE 165 202 [l0, l1, l2, l3, .int a, l5, l6, l7, l8, l9] (.int a :: st) v x := vE_s rfl rfl
theorem q165_202 : vE 165 202 [l0, l1, l2, l3, l4, l5, l6, l7, l8, l9] st v x ↔ vE 165 203 [l0, l1, l2, l3, l4, l5, l6, l7, l8, l9] (.int 1 :: st) v x := vE_s rfl (by rfl)
theorem q165_203 : vE 165 203 [l0, l1, l2, l3, l4, l5, l6, l7, l8, l9] (.int b :: .int a :: st) v x ↔ if a = b then vE 165 206 [l0, l1, l2, l3, l4, l5, l6, l7, l8, l9] st v x else vE 165 210 [l0, l1, l2, l3, l4, l5, l6, l7, l8, l9] st v x := vE_if rfl rfl
theorem q165_206 : vE 165 206 [l0, l1, l2, l3, l4, l5, l6, l7, l8, l9] st v x ↔ vE 165 207 [l0, l1, l2, l3, l4, l5, l6, l7, l8, l9] (.int 0 :: st) v x := vE_s rfl (by rfl)
theorem q165_207 : vE 165 207 [l0, l1, l2, l3, l4, l5, l6, l7, l8, l9] st v x ↔ vE 165 217 [l0, l1, l2, l3, l4, l5, l6, l7, l8, l9] st v x := vE_s rfl rfl
theorem q165_210 : vE 165 210 [.ref p, l1, l2, l3, l4, l5, l6, l7, l8, l9] st v x ↔ vE 165 211 [.ref p, l1, l2, l3, l4, l5, l6, l7, l8, l9] (.ref p :: st) v x := vE_s rfl rfl
theorem q165_211 : vE 165 211 [l0, l1, l2, l3, l4, l5, l6, l7, l8, l9] (.ref p :: st) v x ↔ vE 165 214 [l0, l1, l2, l3, l4, l5, l6, l7, l8, l9] (.ref (p + 23) :: st) v x := vE_s rfl rfl
theorem q165_214 : vE 165 214 [l0, l1, l2, l3, l4, l5, .int a, l7, l8, l9] st v x ↔ vE 165 216 [l0, l1, l2, l3, l4, l5, .int a, l7, l8, l9] (.int a :: st) v x := vE_s rfl rfl
theorem q165_216 : vE 165 216 [l0, l1, l2, l3, l4, l5, l6, l7, l8, l9] (.int a :: .ref p :: st) v x ↔ vE 165 217 [l0, l1, l2, l3, l4, l5, l6, l7, l8, l9] (.int (v.1 p a.toNatClampNeg) :: st) v x := vE_s rfl rfl
theorem q165_217 : vE 165 217 [l0, l1, l2, l3, l4, l5, l6, l7, l8, l9] (w2 :: w1 :: w0 :: st) v x ↔ ∃ y : vm_Y, vE 166 0 [w0, w1, w2] [] v y ∧ vB 165 217 [l0, l1, l2, l3, l4, l5, l6, l7, l8, l9] st y x := vE_cs rfl rfl rfl rfl
theorem q165_220 : vE 165 220 [l0, l1, l2, l3, l4, l5, l6, l7, l8, l9] (.int a :: st) v x ↔ vE 165 222 [l0, l1, l2, l3, l4, l5, l6, l7, l8, .int a] st v x := vE_s rfl rfl
theorem q165_222 : vE 165 222 [l0, l1, l2, l3, l4, l5, l6, .int a, l8, l9] st v x ↔ vE 165 224 [l0, l1, l2, l3, l4, l5, l6, .int a, l8, l9] (.int a :: st) v x := vE_s rfl rfl
theorem q165_224 : vE 165 224 [l0, l1, l2, l3, l4, l5, l6, l7, l8, l9] (.int a :: st) v x ↔ if a = 0 then vE 165 238 [l0, l1, l2, l3, l4, l5, l6, l7, l8, l9] st v x else vE 165 227 [l0, l1, l2, l3, l4, l5, l6, l7, l8, l9] st v x := vE_if rfl rfl
theorem q165_227 : vE 165 227 [.ref p, l1, l2, l3, l4, l5, l6, l7, l8, l9] st v x ↔ vE 165 228 [.ref p, l1, l2, l3, l4, l5, l6, l7, l8, l9] (.ref p :: st) v x := vE_s rfl rfl
theorem q165_228 : vE 165 228 [l0, l1, l2, .int a, l4, l5, l6, l7, l8, l9] st v x ↔ vE 165 229 [l0, l1, l2, .int a, l4, l5, l6, l7, l8, l9] (.int a :: st) v x := vE_s rfl rfl
theorem q165_229 : vE 165 229 [l0, l1, l2, l3, l4, l5, l6, l7, l8, l9] st v x ↔ vE 165 230 [l0, l1, l2, l3, l4, l5, l6, l7, l8, l9] (.int 0 :: st) v x := vE_s rfl (by rfl)
theorem q165_230 : vE 165 230 [l0, l1, l2, l3, l4, l5, l6, l7, .int a, l9] st v x ↔ vE 165 232 [l0, l1, l2, l3, l4, l5, l6, l7, .int a, l9] (.int a :: st) v x := vE_s rfl rfl
theorem q165_232 : vE 165 232 [l0, l1, l2, l3, l4, l5, l6, l7, l8, l9] st v x ↔ vE 165 233 [l0, l1, l2, l3, l4, l5, l6, l7, l8, l9] (.int 0 :: st) v x := vE_s rfl (by rfl)
theorem q165_233 : vE 165 233 [l0, l1, l2, l3, l4, l5, l6, l7, l8, .int a] st v x ↔ vE 165 235 [l0, l1, l2, l3, l4, l5, l6, l7, l8, .int a] (.int a :: st) v x := vE_s rfl rfl
theorem q165_235 : vE 165 235 [l0, l1, l2, l3, l4, l5, l6, l7, l8, l9] (w5 :: w4 :: w3 :: w2 :: w1 :: w0 :: st) v x ↔ ∃ y : vm_Y, vE 157 0 [w0, w1, w2, w3, w4, w5] [] v y ∧ vB 165 235 [l0, l1, l2, l3, l4, l5, l6, l7, l8, l9] st y x := vE_cv rfl rfl rfl rfl
theorem q165_238 : vE 165 238 [.ref p, l1, l2, l3, l4, l5, l6, l7, l8, l9] st v x ↔ vE 165 239 [.ref p, l1, l2, l3, l4, l5, l6, l7, l8, l9] (.ref p :: st) v x := vE_s rfl rfl
theorem q165_239 : vE 165 239 [l0, l1, l2, l3, l4, l5, l6, l7, l8, l9] (.ref p :: st) v x ↔ vE 165 242 [l0, l1, l2, l3, l4, l5, l6, l7, l8, l9] (.ref (p + 22) :: st) v x := vE_s rfl rfl
theorem q165_242 : vE 165 242 [l0, l1, l2, l3, l4, l5, l6, l7, .int a, l9] st v x ↔ vE 165 244 [l0, l1, l2, l3, l4, l5, l6, l7, .int a, l9] (.int a :: st) v x := vE_s rfl rfl
theorem q165_244 : vE 165 244 [l0, l1, l2, l3, l4, l5, l6, .int a, l8, l9] st v x ↔ vE 165 246 [l0, l1, l2, l3, l4, l5, l6, .int a, l8, l9] (.int a :: st) v x := vE_s rfl rfl
theorem q165_246 : vE 165 246 [l0, l1, l2, l3, l4, l5, l6, l7, l8, l9] (.int b :: .int a :: .ref p :: st) v x ↔ vE 165 247 [l0, l1, l2, l3, l4, l5, l6, l7, l8, l9] st (vm_si v p a.toNatClampNeg (b &&& 1)) x := vE_s rfl rfl
theorem q165_247 : vE 165 247 [.ref p, l1, l2, l3, l4, l5, l6, l7, l8, l9] st v x ↔ vE 165 248 [.ref p, l1, l2, l3, l4, l5, l6, l7, l8, l9] (.ref p :: st) v x := vE_s rfl rfl
theorem q165_248 : vE 165 248 [l0, l1, l2, l3, l4, l5, l6, l7, l8, l9] (.ref p :: st) v x ↔ vE 165 251 [l0, l1, l2, l3, l4, l5, l6, l7, l8, l9] (.ref (p + 23) :: st) v x := vE_s rfl rfl
theorem q165_251 : vE 165 251 [l0, l1, l2, l3, l4, l5, l6, l7, .int a, l9] st v x ↔ vE 165 253 [l0, l1, l2, l3, l4, l5, l6, l7, .int a, l9] (.int a :: st) v x := vE_s rfl rfl
theorem q165_253 : vE 165 253 [l0, l1, l2, l3, l4, l5, l6, l7, l8, .int a] st v x ↔ vE 165 255 [l0, l1, l2, l3, l4, l5, l6, l7, l8, .int a] (.int a :: st) v x := vE_s rfl rfl
theorem q165_255 : vE 165 255 [l0, l1, l2, l3, l4, l5, l6, l7, l8, l9] (.int b :: .int a :: .ref p :: st) v x ↔ vE 165 256 [l0, l1, l2, l3, l4, l5, l6, l7, l8, l9] st (vm_si v p a.toNatClampNeg b) x := vE_s rfl rfl
theorem q165_256 : vE 165 256 [l0, l1, .int a, l3, l4, l5, l6, l7, l8, l9] st v x ↔ vE 165 259 [l0, l1, .int (a + 1), l3, l4, l5, l6, l7, l8, l9] st v x := vE_s rfl rfl
theorem q165_259 : vE 165 259 [l0, l1, l2, l3, l4, l5, l6, l7, l8, l9] st v x ↔ vE 165 23 [l0, l1, l2, l3, l4, l5, l6, l7, l8, l9] st v x := vE_s rfl rfl
theorem q165_262 : vE 165 262 [l0, l1, l2, l3, l4, l5, l6, l7, l8, l9] st v x ↔ vE 165 264 [l0, l1, l2, l3, l4, l5, l6, l7, l8, l9] (.int 24 :: st) v x := vE_s rfl (by rfl)
theorem q165_264 : vE 165 264 [l0, l1, l2, l3, l4, l5, l6, l7, l8, l9] st v x ↔ vE 165 265 [l0, l1, l2, l3, l4, l5, l6, l7, l8, l9] (.int 4 :: st) v x := vE_s rfl (by rfl)
theorem q165_265 : vE 165 265 [l0, .int a, l2, l3, l4, l5, l6, l7, l8, l9] st v x ↔ vE 165 266 [l0, .int a, l2, l3, l4, l5, l6, l7, l8, l9] (.int a :: st) v x := vE_s rfl rfl
theorem q165_266 : vE 165 266 [l0, l1, l2, l3, l4, l5, l6, l7, l8, l9] (.int b :: .int a :: st) v x ↔ vE 165 267 [l0, l1, l2, l3, l4, l5, l6, l7, l8, l9] (.int (a * b) :: st) v x := vE_s rfl rfl
theorem q165_267 : vE 165 267 [l0, l1, l2, l3, l4, l5, l6, l7, l8, l9] (.int b :: .int a :: st) v x ↔ vE 165 268 [l0, l1, l2, l3, l4, l5, l6, l7, l8, l9] (.int (a + b) :: st) v x := vE_s rfl rfl
theorem q165_268 : vE 165 268 [l0, l1, l2, l3, l4, l5, l6, l7, l8, l9] (.int a :: st) v x ↔ vE 165 269 [l0, l1, .int a, l3, l4, l5, l6, l7, l8, l9] st v x := vE_s rfl rfl
theorem q165_269 : vE 165 269 [.ref p, l1, l2, l3, l4, l5, l6, l7, l8, l9] st v x ↔ vE 165 270 [.ref p, l1, l2, l3, l4, l5, l6, l7, l8, l9] (.ref p :: st) v x := vE_s rfl rfl
theorem q165_270 : vE 165 270 [l0, l1, l2, l3, l4, l5, l6, l7, l8, l9] (.ref p :: st) v x ↔ vE 165 273 [l0, l1, l2, l3, l4, l5, l6, l7, l8, l9] (.ref (p + 4) :: st) v x := vE_s rfl rfl
theorem q165_273 : vE 165 273 [l0, l1, .int a, l3, l4, l5, l6, l7, l8, l9] st v x ↔ vE 165 274 [l0, l1, .int a, l3, l4, l5, l6, l7, l8, l9] (.int a :: st) v x := vE_s rfl rfl
theorem q165_274 : vE 165 274 [l0, l1, l2, l3, l4, l5, l6, l7, l8, l9] (.int a :: .ref p :: st) v x ↔ vE 165 275 [l0, l1, l2, l3, l4, l5, l6, l7, l8, l9] (.int (v.1 p a.toNatClampNeg) :: st) v x := vE_s rfl rfl
theorem q165_275 : vE 165 275 [l0, l1, l2, l3, l4, l5, l6, l7, l8, l9] st v x ↔ vE 165 276 [l0, l1, l2, l3, l4, l5, l6, l7, l8, l9] (.int 1 :: st) v x := vE_s rfl (by rfl)
theorem q165_276 : vE 165 276 [l0, l1, l2, l3, l4, l5, l6, l7, l8, l9] (.int b :: .int a :: st) v x ↔ if a = b then vE 165 279 [l0, l1, l2, l3, l4, l5, l6, l7, l8, l9] st v x else vE 165 341 [l0, l1, l2, l3, l4, l5, l6, l7, l8, l9] st v x := vE_if rfl rfl
theorem q165_279 : vE 165 279 [.ref p, l1, l2, l3, l4, l5, l6, l7, l8, l9] st v x ↔ vE 165 280 [.ref p, l1, l2, l3, l4, l5, l6, l7, l8, l9] (.ref p :: st) v x := vE_s rfl rfl
theorem q165_280 : vE 165 280 [l0, l1, l2, l3, l4, l5, l6, l7, l8, l9] (.ref p :: st) v x ↔ vE 165 283 [l0, l1, l2, l3, l4, l5, l6, l7, l8, l9] (.ref (p + 22) :: st) v x := vE_s rfl rfl
theorem q165_283 : vE 165 283 [.ref p, l1, l2, l3, l4, l5, l6, l7, l8, l9] st v x ↔ vE 165 284 [.ref p, l1, l2, l3, l4, l5, l6, l7, l8, l9] (.ref p :: st) v x := vE_s rfl rfl
theorem q165_284 : vE 165 284 [l0, l1, l2, l3, l4, l5, l6, l7, l8, l9] (.ref p :: st) v x ↔ vE 165 287 [l0, l1, l2, l3, l4, l5, l6, l7, l8, l9] (.ref (p + 4) :: st) v x := vE_s rfl rfl
theorem q165_287 : vE 165 287 [l0, l1, .int a, l3, l4, l5, l6, l7, l8, l9] st v x ↔ vE 165 288 [l0, l1, .int a, l3, l4, l5, l6, l7, l8, l9] (.int a :: st) v x := vE_s rfl rfl
theorem q165_288 : vE 165 288 [l0, l1, l2, l3, l4, l5, l6, l7, l8, l9] st v x ↔ vE 165 289 [l0, l1, l2, l3, l4, l5, l6, l7, l8, l9] (.int 1 :: st) v x := vE_s rfl (by rfl)
theorem q165_289 : vE 165 289 [l0, l1, l2, l3, l4, l5, l6, l7, l8, l9] (.int b :: .int a :: st) v x ↔ vE 165 290 [l0, l1, l2, l3, l4, l5, l6, l7, l8, l9] (.int (a + b) :: st) v x := vE_s rfl rfl
theorem q165_290 : vE 165 290 [l0, l1, l2, l3, l4, l5, l6, l7, l8, l9] (.int a :: .ref p :: st) v x ↔ vE 165 291 [l0, l1, l2, l3, l4, l5, l6, l7, l8, l9] (.int (v.1 p a.toNatClampNeg) :: st) v x := vE_s rfl rfl
theorem q165_291 : vE 165 291 [l0, l1, l2, l3, l4, l5, l6, l7, l8, l9] (.int a :: .ref p :: st) v x ↔ vE 165 292 [l0, l1, l2, l3, l4, l5, l6, l7, l8, l9] (.int (v.1 p a.toNatClampNeg) :: st) v x := vE_s rfl rfl
theorem q165_292 : vE 165 292 [l0, l1, l2, l3, l4, l5, l6, l7, l8, l9] (.int a :: st) v x ↔ if a = 0 then vE 165 341 [l0, l1, l2, l3, l4, l5, l6, l7, l8, l9] st v x else vE 165 295 [l0, l1, l2, l3, l4, l5, l6, l7, l8, l9] st v x := vE_if rfl rfl
theorem q165_295 : vE 165 295 [.ref p, l1, l2, l3, l4, l5, l6, l7, l8, l9] st v x ↔ vE 165 296 [.ref p, l1, l2, l3, l4, l5, l6, l7, l8, l9] (.ref p :: st) v x := vE_s rfl rfl
theorem q165_296 : vE 165 296 [l0, l1, l2, l3, l4, l5, l6, l7, l8, l9] st v x ↔ vE 165 298 [l0, l1, l2, l3, l4, l5, l6, l7, l8, l9] (.int 6 :: st) v x := vE_s rfl (by rfl)
theorem q165_298 : vE 165 298 [l0, .int a, l2, l3, l4, l5, l6, l7, l8, l9] st v x ↔ vE 165 299 [l0, .int a, l2, l3, l4, l5, l6, l7, l8, l9] (.int a :: st) v x := vE_s rfl rfl
theorem q165_299 : vE 165 299 [l0, l1, l2, l3, l4, l5, l6, l7, l8, l9] (.int b :: .int a :: st) v x ↔ vE 165 300 [l0, l1, l2, l3, l4, l5, l6, l7, l8, l9] (.int (a + b) :: st) v x := vE_s rfl rfl
theorem q165_300 : vE 165 300 [l0, l1, l2, l3, l4, l5, l6, l7, l8, l9] st v x ↔ vE 165 301 [l0, l1, l2, l3, l4, l5, l6, l7, l8, l9] (.int 0 :: st) v x := vE_s rfl (by rfl)
theorem q165_301 : vE 165 301 [l0, l1, l2, l3, l4, l5, l6, l7, l8, l9] st v x ↔ vE 165 302 [l0, l1, l2, l3, l4, l5, l6, l7, l8, l9] (.int 0 :: st) v x := vE_s rfl (by rfl)
theorem q165_302 : vE 165 302 [.ref p, l1, l2, l3, l4, l5, l6, l7, l8, l9] st v x ↔ vE 165 303 [.ref p, l1, l2, l3, l4, l5, l6, l7, l8, l9] (.ref p :: st) v x := vE_s rfl rfl
theorem q165_303 : vE 165 303 [l0, l1, l2, l3, l4, l5, l6, l7, l8, l9] (.ref p :: st) v x ↔ vE 165 306 [l0, l1, l2, l3, l4, l5, l6, l7, l8, l9] (.ref (p + 23) :: st) v x := vE_s rfl rfl
theorem q165_306 : vE 165 306 [.ref p, l1, l2, l3, l4, l5, l6, l7, l8, l9] st v x ↔ vE 165 307 [.ref p, l1, l2, l3, l4, l5, l6, l7, l8, l9] (.ref p :: st) v x := vE_s rfl rfl
theorem q165_307 : vE 165 307 [l0, l1, l2, l3, l4, l5, l6, l7, l8, l9] (.ref p :: st) v x ↔ vE 165 310 [l0, l1, l2, l3, l4, l5, l6, l7, l8, l9] (.ref (p + 4) :: st) v x := vE_s rfl rfl
theorem q165_310 : vE 165 310 [l0, l1, .int a, l3, l4, l5, l6, l7, l8, l9] st v x ↔ vE 165 311 [l0, l1, .int a, l3, l4, l5, l6, l7, l8, l9] (.int a :: st) v x := vE_s rfl rfl
theorem q165_311 : vE 165 311 [l0, l1, l2, l3, l4, l5, l6, l7, l8, l9] st v x ↔ vE 165 312 [l0, l1, l2, l3, l4, l5, l6, l7, l8, l9] (.int 1 :: st) v x := vE_s rfl (by rfl)
theorem q165_312 : vE 165 312 [l0, l1, l2, l3, l4, l5, l6, l7, l8, l9] (.int b :: .int a :: st) v x ↔ vE 165 313 [l0, l1, l2, l3, l4, l5, l6, l7, l8, l9] (.int (a + b) :: st) v x := vE_s rfl rfl
theorem q165_313 : vE 165 313 [l0, l1, l2, l3, l4, l5, l6, l7, l8, l9] (.int a :: .ref p :: st) v x ↔ vE 165 314 [l0, l1, l2, l3, l4, l5, l6, l7, l8, l9] (.int (v.1 p a.toNatClampNeg) :: st) v x := vE_s rfl rfl
theorem q165_314 : vE 165 314 [l0, l1, l2, l3, l4, l5, l6, l7, l8, l9] (.int a :: .ref p :: st) v x ↔ vE 165 315 [l0, l1, l2, l3, l4, l5, l6, l7, l8, l9] (.int (v.1 p a.toNatClampNeg) :: st) v x := vE_s rfl rfl
theorem q165_315 : vE 165 315 [l0, l1, l2, l3, l4, l5, l6, l7, l8, l9] (.int a :: st) v x ↔ if a = 0 then vE 165 329 [l0, l1, l2, l3, l4, l5, l6, l7, l8, l9] st v x else vE 165 318 [l0, l1, l2, l3, l4, l5, l6, l7, l8, l9] st v x := vE_if rfl rfl
theorem q165_318 : vE 165 318 [.ref p, l1, l2, l3, l4, l5, l6, l7, l8, l9] st v x ↔ vE 165 319 [.ref p, l1, l2, l3, l4, l5, l6, l7, l8, l9] (.ref p :: st) v x := vE_s rfl rfl
theorem q165_319 : vE 165 319 [l0, l1, l2, l3, l4, l5, l6, l7, l8, l9] (.ref p :: st) v x ↔ vE 165 322 [l0, l1, l2, l3, l4, l5, l6, l7, l8, l9] (.ref (p + 4) :: st) v x := vE_s rfl rfl
theorem q165_322 : vE 165 322 [l0, l1, .int a, l3, l4, l5, l6, l7, l8, l9] st v x ↔ vE 165 323 [l0, l1, .int a, l3, l4, l5, l6, l7, l8, l9] (.int a :: st) v x := vE_s rfl rfl
theorem q165_323 : vE 165 323 [l0, l1, l2, l3, l4, l5, l6, l7, l8, l9] st v x ↔ vE 165 324 [l0, l1, l2, l3, l4, l5, l6, l7, l8, l9] (.int 2 :: st) v x := vE_s rfl (by rfl)
theorem q165_324 : vE 165 324 [l0, l1, l2, l3, l4, l5, l6, l7, l8, l9] (.int b :: .int a :: st) v x ↔ vE 165 325 [l0, l1, l2, l3, l4, l5, l6, l7, l8, l9] (.int (a + b) :: st) v x := vE_s rfl rfl
theorem q165_325 : vE 165 325 [l0, l1, l2, l3, l4, l5, l6, l7, l8, l9] (.int a :: .ref p :: st) v x ↔ vE 165 326 [l0, l1, l2, l3, l4, l5, l6, l7, l8, l9] (.int (v.1 p a.toNatClampNeg) :: st) v x := vE_s rfl rfl
theorem q165_326 : vE 165 326 [l0, l1, l2, l3, l4, l5, l6, l7, l8, l9] st v x ↔ vE 165 337 [l0, l1, l2, l3, l4, l5, l6, l7, l8, l9] st v x := vE_s rfl rfl
theorem q165_329 : vE 165 329 [.ref p, l1, l2, l3, l4, l5, l6, l7, l8, l9] st v x ↔ vE 165 330 [.ref p, l1, l2, l3, l4, l5, l6, l7, l8, l9] (.ref p :: st) v x := vE_s rfl rfl
theorem q165_330 : vE 165 330 [l0, l1, l2, l3, l4, l5, l6, l7, l8, l9] (.ref p :: st) v x ↔ vE 165 333 [l0, l1, l2, l3, l4, l5, l6, l7, l8, l9] (.ref (p + 4) :: st) v x := vE_s rfl rfl
theorem q165_333 : vE 165 333 [l0, l1, .int a, l3, l4, l5, l6, l7, l8, l9] st v x ↔ vE 165 334 [l0, l1, .int a, l3, l4, l5, l6, l7, l8, l9] (.int a :: st) v x := vE_s rfl rfl
theorem q165_334 : vE 165 334 [l0, l1, l2, l3, l4, l5, l6, l7, l8, l9] st v x ↔ vE 165 335 [l0, l1, l2, l3, l4, l5, l6, l7, l8, l9] (.int 3 :: st) v x := vE_s rfl (by rfl)
theorem q165_335 : vE 165 335 [l0, l1, l2, l3, l4, l5, l6, l7, l8, l9] (.int b :: .int a :: st) v x ↔ vE 165 336 [l0, l1, l2, l3, l4, l5, l6, l7, l8, l9] (.int (a + b) :: st) v x := vE_s rfl rfl
theorem q165_336 : vE 165 336 [l0, l1, l2, l3, l4, l5, l6, l7, l8, l9] (.int a :: .ref p :: st) v x ↔ vE 165 337 [l0, l1, l2, l3, l4, l5, l6, l7, l8, l9] (.int (v.1 p a.toNatClampNeg) :: st) v x := vE_s rfl rfl
theorem q165_337 : vE 165 337 [l0, l1, l2, l3, l4, l5, l6, l7, l8, l9] st v x ↔ vE 165 338 [l0, l1, l2, l3, l4, l5, l6, l7, l8, l9] (.int 0 :: st) v x := vE_s rfl (by rfl)
theorem q165_338 : vE 165 338 [l0, l1, l2, l3, l4, l5, l6, l7, l8, l9] (w5 :: w4 :: w3 :: w2 :: w1 :: w0 :: st) v x ↔ ∃ y : vm_Y, vE 149 0 [w0, w1, w2, w3, w4, w5] [] v y ∧ vB 165 338 [l0, l1, l2, l3, l4, l5, l6, l7, l8, l9] st y x := vE_cv rfl rfl rfl rfl
theorem q165_341 : vE 165 341 [l0, l1, l2, l3, l4, l5, l6, l7, l8, l9] [] v x ↔ x = vd v := vE_vr rfl
theorem qt165 {X pc : Nat} {L r : List Value} : vB 165 pc L r (vt X v) x ↔ x = vt X v := vB_t rfl
/-! 166 PassCheckerModel.reckon(III)I -/
theorem q166_0 : vE 166 0 [.int a, l1, l2] st v x ↔ vE 166 1 [.int a, l1, l2] (.int a :: st) v x := vE_s rfl rfl
theorem q166_1 : vE 166 1 [l0, l1, l2] (.int a :: st) v x ↔ if a = 2 then vE 166 40 [l0, l1, l2] st v x else if a = 3 then vE 166 44 [l0, l1, l2] st v x else if a = 4 then vE 166 48 [l0, l1, l2] st v x else if a = 5 then vE 166 52 [l0, l1, l2] st v x else if a = 6 then vE 166 56 [l0, l1, l2] st v x else if a = 7 then vE 166 67 [l0, l1, l2] st v x else vE 166 71 [l0, l1, l2] st v x := vE_ts (d := 70) (lo := 2) (hi := 7) (os := #[39, 43, 47, 51, 55, 66]) rfl (by decide) (by decide) (by decide)
theorem q166_40 : vE 166 40 [l0, .int a, l2] st v x ↔ vE 166 41 [l0, .int a, l2] (.int a :: st) v x := vE_s rfl rfl
theorem q166_41 : vE 166 41 [l0, l1, .int a] st v x ↔ vE 166 42 [l0, l1, .int a] (.int a :: st) v x := vE_s rfl rfl
theorem q166_42 : vE 166 42 [l0, l1, l2] (.int b :: .int a :: st) v x ↔ vE 166 43 [l0, l1, l2] (.int (a + b) :: st) v x := vE_s rfl rfl
theorem q166_43 : vE 166 43 [l0, l1, l2] ([.int a]) v x ↔ x = vr a v := vE_ir rfl
theorem q166_44 : vE 166 44 [l0, .int a, l2] st v x ↔ vE 166 45 [l0, .int a, l2] (.int a :: st) v x := vE_s rfl rfl
theorem q166_45 : vE 166 45 [l0, l1, .int a] st v x ↔ vE 166 46 [l0, l1, .int a] (.int a :: st) v x := vE_s rfl rfl
theorem q166_46 : vE 166 46 [l0, l1, l2] (.int b :: .int a :: st) v x ↔ vE 166 47 [l0, l1, l2] (.int (a - b) :: st) v x := vE_s rfl rfl
theorem q166_47 : vE 166 47 [l0, l1, l2] ([.int a]) v x ↔ x = vr a v := vE_ir rfl
theorem q166_48 : vE 166 48 [l0, .int a, l2] st v x ↔ vE 166 49 [l0, .int a, l2] (.int a :: st) v x := vE_s rfl rfl
theorem q166_49 : vE 166 49 [l0, l1, .int a] st v x ↔ vE 166 50 [l0, l1, .int a] (.int a :: st) v x := vE_s rfl rfl
theorem q166_50 : vE 166 50 [l0, l1, l2] (.int b :: .int a :: st) v x ↔ vE 166 51 [l0, l1, l2] (.int (a * b) :: st) v x := vE_s rfl rfl
theorem q166_51 : vE 166 51 [l0, l1, l2] ([.int a]) v x ↔ x = vr a v := vE_ir rfl
theorem q166_52 : vE 166 52 [l0, .int a, l2] st v x ↔ vE 166 53 [l0, .int a, l2] (.int a :: st) v x := vE_s rfl rfl
theorem q166_53 : vE 166 53 [l0, l1, .int a] st v x ↔ vE 166 54 [l0, l1, .int a] (.int a :: st) v x := vE_s rfl rfl
theorem q166_54 : vE 166 54 [l0, l1, l2] (.int b :: .int a :: st) v x ↔ vE 166 55 [l0, l1, l2] (.int (a &&& b) :: st) v x := vE_s rfl rfl
theorem q166_55 : vE 166 55 [l0, l1, l2] ([.int a]) v x ↔ x = vr a v := vE_ir rfl
theorem q166_56 : vE 166 56 [l0, .int a, l2] st v x ↔ vE 166 57 [l0, .int a, l2] (.int a :: st) v x := vE_s rfl rfl
theorem q166_57 : vE 166 57 [l0, l1, .int a] st v x ↔ vE 166 58 [l0, l1, .int a] (.int a :: st) v x := vE_s rfl rfl
theorem q166_58 : vE 166 58 [l0, l1, l2] (.int b :: .int a :: st) v x ↔ if b ≤ a then vE 166 65 [l0, l1, l2] st v x else vE 166 61 [l0, l1, l2] st v x := vE_if rfl rfl
theorem q166_61 : vE 166 61 [l0, l1, l2] st v x ↔ vE 166 62 [l0, l1, l2] (.int 1 :: st) v x := vE_s rfl (by rfl)
theorem q166_62 : vE 166 62 [l0, l1, l2] st v x ↔ vE 166 66 [l0, l1, l2] st v x := vE_s rfl rfl
theorem q166_65 : vE 166 65 [l0, l1, l2] st v x ↔ vE 166 66 [l0, l1, l2] (.int 0 :: st) v x := vE_s rfl (by rfl)
theorem q166_66 : vE 166 66 [l0, l1, l2] ([.int a]) v x ↔ x = vr a v := vE_ir rfl
theorem q166_67 : vE 166 67 [l0, .int a, l2] st v x ↔ vE 166 68 [l0, .int a, l2] (.int a :: st) v x := vE_s rfl rfl
theorem q166_68 : vE 166 68 [l0, l1, .int a] st v x ↔ vE 166 69 [l0, l1, .int a] (.int a :: st) v x := vE_s rfl rfl
theorem q166_69 (hb : b ≠ 0) : vE 166 69 [l0, l1, l2] (.int b :: .int a :: st) v x ↔ vE 166 70 [l0, l1, l2] (.int (a / b) :: st) v x := vE_s rfl (by simp only [vm_step, vm_heap, am_step, if_neg hb]; rfl)
theorem q166_70 : vE 166 70 [l0, l1, l2] ([.int a]) v x ↔ x = vr a v := vE_ir rfl
theorem q166_71 : vE 166 71 [l0, .int a, l2] st v x ↔ vE 166 72 [l0, .int a, l2] (.int a :: st) v x := vE_s rfl rfl
theorem q166_72 : vE 166 72 [l0, l1, l2] ([.int a]) v x ↔ x = vr a v := vE_ir rfl
/-! 167 PassCheckerModel.reuse(I)V -/
theorem q167_0 : vE 167 0 [l0, l1, l2, l3, l4, l5] st v x ↔ vE 167 1 [l0, l1, l2, l3, l4, l5] (.int 0 :: st) v x := vE_s rfl (by rfl)
theorem q167_1 : vE 167 1 [l0, l1, l2, l3, l4, l5] (.int a :: st) v x ↔ vE 167 2 [l0, l1, .int a, l3, l4, l5] st v x := vE_s rfl rfl
theorem q167_2 : vE 167 2 [l0, l1, .int a, l3, l4, l5] st v x ↔ vE 167 3 [l0, l1, .int a, l3, l4, l5] (.int a :: st) v x := vE_s rfl rfl
theorem q167_3 : vE 167 3 [.ref p, l1, l2, l3, l4, l5] st v x ↔ vE 167 4 [.ref p, l1, l2, l3, l4, l5] (.ref p :: st) v x := vE_s rfl rfl
theorem q167_4 : vE 167 4 [l0, l1, l2, l3, l4, l5] (.ref p :: st) v x ↔ vE 167 7 [l0, l1, l2, l3, l4, l5] (.ref (p + 2) :: st) v x := vE_s rfl rfl
theorem q167_7 : vE 167 7 [l0, .int a, l2, l3, l4, l5] st v x ↔ vE 167 8 [l0, .int a, l2, l3, l4, l5] (.int a :: st) v x := vE_s rfl rfl
theorem q167_8 : vE 167 8 [l0, l1, l2, l3, l4, l5] (.int a :: .ref p :: st) v x ↔ vE 167 9 [l0, l1, l2, l3, l4, l5] (.int (v.1 p a.toNatClampNeg) :: st) v x := vE_s rfl rfl
theorem q167_9 : vE 167 9 [l0, l1, l2, l3, l4, l5] (.int b :: .int a :: st) v x ↔ if b ≤ a then vE 167 137 [l0, l1, l2, l3, l4, l5] st v x else vE 167 12 [l0, l1, l2, l3, l4, l5] st v x := vE_if rfl rfl
theorem q167_12 : vE 167 12 [.ref p, l1, l2, l3, l4, l5] st v x ↔ vE 167 13 [.ref p, l1, l2, l3, l4, l5] (.ref p :: st) v x := vE_s rfl rfl
theorem q167_13 : vE 167 13 [l0, l1, l2, l3, l4, l5] (.ref p :: st) v x ↔ vE 167 16 [l0, l1, l2, l3, l4, l5] (.ref (p + 3) :: st) v x := vE_s rfl rfl
theorem q167_16 : vE 167 16 [l0, l1, l2, l3, l4, l5] st v x ↔ vE 167 18 [l0, l1, l2, l3, l4, l5] (.int 32 :: st) v x := vE_s rfl (by rfl)
theorem q167_18 : vE 167 18 [l0, .int a, l2, l3, l4, l5] st v x ↔ vE 167 19 [l0, .int a, l2, l3, l4, l5] (.int a :: st) v x := vE_s rfl rfl
theorem q167_19 : vE 167 19 [l0, l1, l2, l3, l4, l5] (.int b :: .int a :: st) v x ↔ vE 167 20 [l0, l1, l2, l3, l4, l5] (.int (a * b) :: st) v x := vE_s rfl rfl
theorem q167_20 : vE 167 20 [l0, l1, l2, l3, l4, l5] st v x ↔ vE 167 21 [l0, l1, l2, l3, l4, l5] (.int 4 :: st) v x := vE_s rfl (by rfl)
theorem q167_21 : vE 167 21 [l0, l1, .int a, l3, l4, l5] st v x ↔ vE 167 22 [l0, l1, .int a, l3, l4, l5] (.int a :: st) v x := vE_s rfl rfl
theorem q167_22 : vE 167 22 [l0, l1, l2, l3, l4, l5] (.int b :: .int a :: st) v x ↔ vE 167 23 [l0, l1, l2, l3, l4, l5] (.int (a * b) :: st) v x := vE_s rfl rfl
theorem q167_23 : vE 167 23 [l0, l1, l2, l3, l4, l5] (.int b :: .int a :: st) v x ↔ vE 167 24 [l0, l1, l2, l3, l4, l5] (.int (a + b) :: st) v x := vE_s rfl rfl
theorem q167_24 : vE 167 24 [l0, l1, l2, l3, l4, l5] (.int a :: .ref p :: st) v x ↔ vE 167 25 [l0, l1, l2, l3, l4, l5] (.int (v.1 p a.toNatClampNeg) :: st) v x := vE_s rfl rfl
theorem q167_25 : vE 167 25 [l0, l1, l2, l3, l4, l5] (.int a :: st) v x ↔ vE 167 26 [l0, l1, l2, .int a, l4, l5] st v x := vE_s rfl rfl
theorem q167_26 : vE 167 26 [l0, l1, l2, l3, l4, l5] st v x ↔ vE 167 27 [l0, l1, l2, l3, l4, l5] (.int (-1) :: st) v x := vE_s rfl (by rfl)
theorem q167_27 : vE 167 27 [l0, l1, l2, l3, l4, l5] (.int a :: st) v x ↔ vE 167 29 [l0, l1, l2, l3, .int a, l5] st v x := vE_s rfl rfl
theorem q167_29 : vE 167 29 [l0, l1, .int a, l3, l4, l5] st v x ↔ vE 167 30 [l0, l1, .int a, l3, l4, l5] (.int a :: st) v x := vE_s rfl rfl
theorem q167_30 : vE 167 30 [l0, l1, l2, l3, l4, l5] st v x ↔ vE 167 31 [l0, l1, l2, l3, l4, l5] (.int 1 :: st) v x := vE_s rfl (by rfl)
theorem q167_31 : vE 167 31 [l0, l1, l2, l3, l4, l5] (.int b :: .int a :: st) v x ↔ vE 167 32 [l0, l1, l2, l3, l4, l5] (.int (a - b) :: st) v x := vE_s rfl rfl
theorem q167_32 : vE 167 32 [l0, l1, l2, l3, l4, l5] (.int a :: st) v x ↔ vE 167 34 [l0, l1, l2, l3, l4, .int a] st v x := vE_s rfl rfl
theorem q167_34 : vE 167 34 [l0, l1, l2, l3, l4, .int a] st v x ↔ vE 167 36 [l0, l1, l2, l3, l4, .int a] (.int a :: st) v x := vE_s rfl rfl
theorem q167_36 : vE 167 36 [l0, l1, l2, l3, l4, l5] (.int a :: st) v x ↔ if a < 0 then vE 167 76 [l0, l1, l2, l3, l4, l5] st v x else vE 167 39 [l0, l1, l2, l3, l4, l5] st v x := vE_if rfl rfl
theorem q167_39 : vE 167 39 [l0, l1, l2, .int a, l4, l5] st v x ↔ vE 167 40 [l0, l1, l2, .int a, l4, l5] (.int a :: st) v x := vE_s rfl rfl
theorem q167_40 : vE 167 40 [l0, l1, l2, l3, l4, l5] st v x ↔ vE 167 41 [l0, l1, l2, l3, l4, l5] (.int 1 :: st) v x := vE_s rfl (by rfl)
theorem q167_41 : vE 167 41 [l0, l1, l2, l3, l4, l5] (.int b :: .int a :: st) v x ↔ if a ≤ b then vE 167 76 [l0, l1, l2, l3, l4, l5] st v x else vE 167 44 [l0, l1, l2, l3, l4, l5] st v x := vE_if rfl rfl
theorem q167_44 : vE 167 44 [l0, l1, l2, .int a, l4, l5] st v x ↔ vE 167 45 [l0, l1, l2, .int a, l4, l5] (.int a :: st) v x := vE_s rfl rfl
theorem q167_45 : vE 167 45 [l0, l1, l2, l3, l4, l5] st v x ↔ vE 167 47 [l0, l1, l2, l3, l4, l5] (.int 9 :: st) v x := vE_s rfl (by rfl)
theorem q167_47 : vE 167 47 [l0, l1, l2, l3, l4, l5] (.int b :: .int a :: st) v x ↔ if b ≤ a then vE 167 76 [l0, l1, l2, l3, l4, l5] st v x else vE 167 50 [l0, l1, l2, l3, l4, l5] st v x := vE_if rfl rfl
theorem q167_50 : vE 167 50 [.ref p, l1, l2, l3, l4, l5] st v x ↔ vE 167 51 [.ref p, l1, l2, l3, l4, l5] (.ref p :: st) v x := vE_s rfl rfl
theorem q167_51 : vE 167 51 [l0, .int a, l2, l3, l4, l5] st v x ↔ vE 167 52 [l0, .int a, l2, l3, l4, l5] (.int a :: st) v x := vE_s rfl rfl
theorem q167_52 : vE 167 52 [l0, l1, l2, l3, l4, .int a] st v x ↔ vE 167 54 [l0, l1, l2, l3, l4, .int a] (.int a :: st) v x := vE_s rfl rfl
theorem q167_54 : vE 167 54 [l0, l1, .int a, l3, l4, l5] st v x ↔ vE 167 55 [l0, l1, .int a, l3, l4, l5] (.int a :: st) v x := vE_s rfl rfl
theorem q167_55 : vE 167 55 [l0, l1, l2, l3, l4, l5] (w3 :: w2 :: w1 :: w0 :: st) v x ↔ ∃ y : vm_Y, vE 168 0 [w0, w1, w2, w3, .retAddr 0, .retAddr 0, .retAddr 0, .retAddr 0, .retAddr 0] [] v y ∧ vB 167 55 [l0, l1, l2, l3, l4, l5] st y x := vE_cv rfl rfl rfl rfl
theorem q167_58 : vE 167 58 [l0, l1, l2, l3, l4, l5] (.int a :: st) v x ↔ if a = 0 then vE 167 66 [l0, l1, l2, l3, l4, l5] st v x else vE 167 61 [l0, l1, l2, l3, l4, l5] st v x := vE_if rfl rfl
theorem q167_61 : vE 167 61 [l0, l1, l2, l3, l4, .int a] st v x ↔ vE 167 63 [l0, l1, l2, l3, l4, .int a] (.int a :: st) v x := vE_s rfl rfl
theorem q167_63 : vE 167 63 [l0, l1, l2, l3, l4, l5] st v x ↔ vE 167 68 [l0, l1, l2, l3, l4, l5] st v x := vE_s rfl rfl
theorem q167_66 : vE 167 66 [l0, l1, l2, l3, .int a, l5] st v x ↔ vE 167 68 [l0, l1, l2, l3, .int a, l5] (.int a :: st) v x := vE_s rfl rfl
theorem q167_68 : vE 167 68 [l0, l1, l2, l3, l4, l5] (.int a :: st) v x ↔ vE 167 70 [l0, l1, l2, l3, .int a, l5] st v x := vE_s rfl rfl
theorem q167_70 : vE 167 70 [l0, l1, l2, l3, l4, .int a] st v x ↔ vE 167 73 [l0, l1, l2, l3, l4, .int (a + (-1))] st v x := vE_s rfl rfl
theorem q167_73 : vE 167 73 [l0, l1, l2, l3, l4, l5] st v x ↔ vE 167 34 [l0, l1, l2, l3, l4, l5] st v x := vE_s rfl rfl
theorem q167_76 : vE 167 76 [l0, l1, l2, l3, .int a, l5] st v x ↔ vE 167 78 [l0, l1, l2, l3, .int a, l5] (.int a :: st) v x := vE_s rfl rfl
theorem q167_78 : vE 167 78 [l0, l1, l2, l3, l4, l5] st v x ↔ vE 167 79 [l0, l1, l2, l3, l4, l5] (.int (-1) :: st) v x := vE_s rfl (by rfl)
theorem q167_79 : vE 167 79 [l0, l1, l2, l3, l4, l5] (.int b :: .int a :: st) v x ↔ if a = b then vE 167 131 [l0, l1, l2, l3, l4, l5] st v x else vE 167 82 [l0, l1, l2, l3, l4, l5] st v x := vE_if rfl rfl
theorem q167_82 : vE 167 82 [.ref p, l1, l2, l3, l4, l5] st v x ↔ vE 167 83 [.ref p, l1, l2, l3, l4, l5] (.ref p :: st) v x := vE_s rfl rfl
theorem q167_83 : vE 167 83 [l0, l1, l2, l3, l4, l5] st v x ↔ vE 167 86 [l0, l1, l2, l3, l4, l5] (.int 192 :: st) v x := vE_s rfl (by rfl)
theorem q167_86 : vE 167 86 [l0, l1, l2, l3, l4, l5] st v x ↔ vE 167 88 [l0, l1, l2, l3, l4, l5] (.int 32 :: st) v x := vE_s rfl (by rfl)
theorem q167_88 : vE 167 88 [l0, .int a, l2, l3, l4, l5] st v x ↔ vE 167 89 [l0, .int a, l2, l3, l4, l5] (.int a :: st) v x := vE_s rfl rfl
theorem q167_89 : vE 167 89 [l0, l1, l2, l3, l4, l5] (.int b :: .int a :: st) v x ↔ vE 167 90 [l0, l1, l2, l3, l4, l5] (.int (a * b) :: st) v x := vE_s rfl rfl
theorem q167_90 : vE 167 90 [l0, l1, l2, l3, l4, l5] (.int b :: .int a :: st) v x ↔ vE 167 91 [l0, l1, l2, l3, l4, l5] (.int (a + b) :: st) v x := vE_s rfl rfl
theorem q167_91 : vE 167 91 [l0, l1, l2, l3, l4, l5] st v x ↔ vE 167 92 [l0, l1, l2, l3, l4, l5] (.int 4 :: st) v x := vE_s rfl (by rfl)
theorem q167_92 : vE 167 92 [l0, l1, .int a, l3, l4, l5] st v x ↔ vE 167 93 [l0, l1, .int a, l3, l4, l5] (.int a :: st) v x := vE_s rfl rfl
theorem q167_93 : vE 167 93 [l0, l1, l2, l3, l4, l5] (.int b :: .int a :: st) v x ↔ vE 167 94 [l0, l1, l2, l3, l4, l5] (.int (a * b) :: st) v x := vE_s rfl rfl
theorem q167_94 : vE 167 94 [l0, l1, l2, l3, l4, l5] (.int b :: .int a :: st) v x ↔ vE 167 95 [l0, l1, l2, l3, l4, l5] (.int (a + b) :: st) v x := vE_s rfl rfl
theorem q167_95 : vE 167 95 [l0, l1, l2, l3, l4, l5] st v x ↔ vE 167 96 [l0, l1, l2, l3, l4, l5] (.int 1 :: st) v x := vE_s rfl (by rfl)
theorem q167_96 : vE 167 96 [.ref p, l1, l2, l3, l4, l5] st v x ↔ vE 167 97 [.ref p, l1, l2, l3, l4, l5] (.ref p :: st) v x := vE_s rfl rfl
theorem q167_97 : vE 167 97 [l0, l1, l2, l3, l4, l5] (.ref p :: st) v x ↔ vE 167 100 [l0, l1, l2, l3, l4, l5] (.ref (p + 3) :: st) v x := vE_s rfl rfl
theorem q167_100 : vE 167 100 [l0, l1, l2, l3, l4, l5] st v x ↔ vE 167 102 [l0, l1, l2, l3, l4, l5] (.int 32 :: st) v x := vE_s rfl (by rfl)
theorem q167_102 : vE 167 102 [l0, .int a, l2, l3, l4, l5] st v x ↔ vE 167 103 [l0, .int a, l2, l3, l4, l5] (.int a :: st) v x := vE_s rfl rfl
theorem q167_103 : vE 167 103 [l0, l1, l2, l3, l4, l5] (.int b :: .int a :: st) v x ↔ vE 167 104 [l0, l1, l2, l3, l4, l5] (.int (a * b) :: st) v x := vE_s rfl rfl
theorem q167_104 : vE 167 104 [l0, l1, l2, l3, l4, l5] st v x ↔ vE 167 105 [l0, l1, l2, l3, l4, l5] (.int 4 :: st) v x := vE_s rfl (by rfl)
theorem q167_105 : vE 167 105 [l0, l1, .int a, l3, l4, l5] st v x ↔ vE 167 106 [l0, l1, .int a, l3, l4, l5] (.int a :: st) v x := vE_s rfl rfl
theorem q167_106 : vE 167 106 [l0, l1, l2, l3, l4, l5] (.int b :: .int a :: st) v x ↔ vE 167 107 [l0, l1, l2, l3, l4, l5] (.int (a * b) :: st) v x := vE_s rfl rfl
theorem q167_107 : vE 167 107 [l0, l1, l2, l3, l4, l5] (.int b :: .int a :: st) v x ↔ vE 167 108 [l0, l1, l2, l3, l4, l5] (.int (a + b) :: st) v x := vE_s rfl rfl
theorem q167_108 : vE 167 108 [l0, l1, l2, l3, l4, l5] st v x ↔ vE 167 109 [l0, l1, l2, l3, l4, l5] (.int 1 :: st) v x := vE_s rfl (by rfl)
theorem q167_109 : vE 167 109 [l0, l1, l2, l3, l4, l5] (.int b :: .int a :: st) v x ↔ vE 167 110 [l0, l1, l2, l3, l4, l5] (.int (a + b) :: st) v x := vE_s rfl rfl
theorem q167_110 : vE 167 110 [l0, l1, l2, l3, l4, l5] (.int a :: .ref p :: st) v x ↔ vE 167 111 [l0, l1, l2, l3, l4, l5] (.int (v.1 p a.toNatClampNeg) :: st) v x := vE_s rfl rfl
theorem q167_111 : vE 167 111 [.ref p, l1, l2, l3, l4, l5] st v x ↔ vE 167 112 [.ref p, l1, l2, l3, l4, l5] (.ref p :: st) v x := vE_s rfl rfl
theorem q167_112 : vE 167 112 [l0, l1, l2, l3, l4, l5] (.ref p :: st) v x ↔ vE 167 115 [l0, l1, l2, l3, l4, l5] (.ref (p + 3) :: st) v x := vE_s rfl rfl
theorem q167_115 : vE 167 115 [l0, l1, l2, l3, l4, l5] st v x ↔ vE 167 117 [l0, l1, l2, l3, l4, l5] (.int 32 :: st) v x := vE_s rfl (by rfl)
theorem q167_117 : vE 167 117 [l0, .int a, l2, l3, l4, l5] st v x ↔ vE 167 118 [l0, .int a, l2, l3, l4, l5] (.int a :: st) v x := vE_s rfl rfl
theorem q167_118 : vE 167 118 [l0, l1, l2, l3, l4, l5] (.int b :: .int a :: st) v x ↔ vE 167 119 [l0, l1, l2, l3, l4, l5] (.int (a * b) :: st) v x := vE_s rfl rfl
theorem q167_119 : vE 167 119 [l0, l1, l2, l3, l4, l5] st v x ↔ vE 167 120 [l0, l1, l2, l3, l4, l5] (.int 4 :: st) v x := vE_s rfl (by rfl)
theorem q167_120 : vE 167 120 [l0, l1, l2, l3, .int a, l5] st v x ↔ vE 167 122 [l0, l1, l2, l3, .int a, l5] (.int a :: st) v x := vE_s rfl rfl
theorem q167_122 : vE 167 122 [l0, l1, l2, l3, l4, l5] (.int b :: .int a :: st) v x ↔ vE 167 123 [l0, l1, l2, l3, l4, l5] (.int (a * b) :: st) v x := vE_s rfl rfl
theorem q167_123 : vE 167 123 [l0, l1, l2, l3, l4, l5] (.int b :: .int a :: st) v x ↔ vE 167 124 [l0, l1, l2, l3, l4, l5] (.int (a + b) :: st) v x := vE_s rfl rfl
theorem q167_124 : vE 167 124 [l0, l1, l2, l3, l4, l5] st v x ↔ vE 167 125 [l0, l1, l2, l3, l4, l5] (.int 1 :: st) v x := vE_s rfl (by rfl)
theorem q167_125 : vE 167 125 [l0, l1, l2, l3, l4, l5] (.int b :: .int a :: st) v x ↔ vE 167 126 [l0, l1, l2, l3, l4, l5] (.int (a + b) :: st) v x := vE_s rfl rfl
theorem q167_126 : vE 167 126 [l0, l1, l2, l3, l4, l5] (.int a :: .ref p :: st) v x ↔ vE 167 127 [l0, l1, l2, l3, l4, l5] (.int (v.1 p a.toNatClampNeg) :: st) v x := vE_s rfl rfl
theorem q167_127 : vE 167 127 [l0, l1, l2, l3, l4, l5] st v x ↔ vE 167 128 [l0, l1, l2, l3, l4, l5] (.int 0 :: st) v x := vE_s rfl (by rfl)
theorem q167_128 : vE 167 128 [l0, l1, l2, l3, l4, l5] (w5 :: w4 :: w3 :: w2 :: w1 :: w0 :: st) v x ↔ ∃ y : vm_Y, vE 157 0 [w0, w1, w2, w3, w4, w5] [] v y ∧ vB 167 128 [l0, l1, l2, l3, l4, l5] st y x := vE_cv rfl rfl rfl rfl
theorem q167_131 : vE 167 131 [l0, l1, .int a, l3, l4, l5] st v x ↔ vE 167 134 [l0, l1, .int (a + 1), l3, l4, l5] st v x := vE_s rfl rfl
theorem q167_134 : vE 167 134 [l0, l1, l2, l3, l4, l5] st v x ↔ vE 167 2 [l0, l1, l2, l3, l4, l5] st v x := vE_s rfl rfl
theorem q167_137 : vE 167 137 [l0, l1, l2, l3, l4, l5] [] v x ↔ x = vd v := vE_vr rfl
theorem qt167 {X pc : Nat} {L r : List Value} : vB 167 pc L r (vt X v) x ↔ x = vt X v := vB_t rfl
/-! 168 PassCheckerModel.serves(III)Z -/
theorem q168_0 : vE 168 0 [l0, l1, l2, l3, l4, l5, l6, l7, l8] st v x ↔ vE 168 2 [l0, l1, l2, l3, l4, l5, l6, l7, l8] (.int 32 :: st) v x := vE_s rfl (by rfl)
theorem q168_2 : vE 168 2 [l0, .int a, l2, l3, l4, l5, l6, l7, l8] st v x ↔ vE 168 3 [l0, .int a, l2, l3, l4, l5, l6, l7, l8] (.int a :: st) v x := vE_s rfl rfl
theorem q168_3 : vE 168 3 [l0, l1, l2, l3, l4, l5, l6, l7, l8] (.int b :: .int a :: st) v x ↔ vE 168 4 [l0, l1, l2, l3, l4, l5, l6, l7, l8] (.int (a * b) :: st) v x := vE_s rfl rfl
theorem q168_4 : vE 168 4 [l0, l1, l2, l3, l4, l5, l6, l7, l8] st v x ↔ vE 168 5 [l0, l1, l2, l3, l4, l5, l6, l7, l8] (.int 4 :: st) v x := vE_s rfl (by rfl)
theorem q168_5 : vE 168 5 [l0, l1, .int a, l3, l4, l5, l6, l7, l8] st v x ↔ vE 168 6 [l0, l1, .int a, l3, l4, l5, l6, l7, l8] (.int a :: st) v x := vE_s rfl rfl
theorem q168_6 : vE 168 6 [l0, l1, l2, l3, l4, l5, l6, l7, l8] (.int b :: .int a :: st) v x ↔ vE 168 7 [l0, l1, l2, l3, l4, l5, l6, l7, l8] (.int (a * b) :: st) v x := vE_s rfl rfl
theorem q168_7 : vE 168 7 [l0, l1, l2, l3, l4, l5, l6, l7, l8] (.int b :: .int a :: st) v x ↔ vE 168 8 [l0, l1, l2, l3, l4, l5, l6, l7, l8] (.int (a + b) :: st) v x := vE_s rfl rfl
theorem q168_8 : vE 168 8 [l0, l1, l2, l3, l4, l5, l6, l7, l8] (.int a :: st) v x ↔ vE 168 10 [l0, l1, l2, l3, .int a, l5, l6, l7, l8] st v x := vE_s rfl rfl
theorem q168_10 : vE 168 10 [l0, l1, l2, l3, l4, l5, l6, l7, l8] st v x ↔ vE 168 12 [l0, l1, l2, l3, l4, l5, l6, l7, l8] (.int 32 :: st) v x := vE_s rfl (by rfl)
theorem q168_12 : vE 168 12 [l0, .int a, l2, l3, l4, l5, l6, l7, l8] st v x ↔ vE 168 13 [l0, .int a, l2, l3, l4, l5, l6, l7, l8] (.int a :: st) v x := vE_s rfl rfl
theorem q168_13 : vE 168 13 [l0, l1, l2, l3, l4, l5, l6, l7, l8] (.int b :: .int a :: st) v x ↔ vE 168 14 [l0, l1, l2, l3, l4, l5, l6, l7, l8] (.int (a * b) :: st) v x := vE_s rfl rfl
theorem q168_14 : vE 168 14 [l0, l1, l2, l3, l4, l5, l6, l7, l8] st v x ↔ vE 168 15 [l0, l1, l2, l3, l4, l5, l6, l7, l8] (.int 4 :: st) v x := vE_s rfl (by rfl)
theorem q168_15 : vE 168 15 [l0, l1, l2, .int a, l4, l5, l6, l7, l8] st v x ↔ vE 168 16 [l0, l1, l2, .int a, l4, l5, l6, l7, l8] (.int a :: st) v x := vE_s rfl rfl
theorem q168_16 : vE 168 16 [l0, l1, l2, l3, l4, l5, l6, l7, l8] (.int b :: .int a :: st) v x ↔ vE 168 17 [l0, l1, l2, l3, l4, l5, l6, l7, l8] (.int (a * b) :: st) v x := vE_s rfl rfl
theorem q168_17 : vE 168 17 [l0, l1, l2, l3, l4, l5, l6, l7, l8] (.int b :: .int a :: st) v x ↔ vE 168 18 [l0, l1, l2, l3, l4, l5, l6, l7, l8] (.int (a + b) :: st) v x := vE_s rfl rfl
theorem q168_18 : vE 168 18 [l0, l1, l2, l3, l4, l5, l6, l7, l8] (.int a :: st) v x ↔ vE 168 20 [l0, l1, l2, l3, l4, .int a, l6, l7, l8] st v x := vE_s rfl rfl
theorem q168_20 : vE 168 20 [.ref p, l1, l2, l3, l4, l5, l6, l7, l8] st v x ↔ vE 168 21 [.ref p, l1, l2, l3, l4, l5, l6, l7, l8] (.ref p :: st) v x := vE_s rfl rfl
theorem q168_21 : vE 168 21 [l0, l1, l2, l3, l4, l5, l6, l7, l8] (.ref p :: st) v x ↔ vE 168 24 [l0, l1, l2, l3, l4, l5, l6, l7, l8] (.ref (p + 3) :: st) v x := vE_s rfl rfl
theorem q168_24 : vE 168 24 [l0, l1, l2, l3, l4, .int a, l6, l7, l8] st v x ↔ vE 168 26 [l0, l1, l2, l3, l4, .int a, l6, l7, l8] (.int a :: st) v x := vE_s rfl rfl
theorem q168_26 : vE 168 26 [l0, l1, l2, l3, l4, l5, l6, l7, l8] (.int a :: .ref p :: st) v x ↔ vE 168 27 [l0, l1, l2, l3, l4, l5, l6, l7, l8] (.int (v.1 p a.toNatClampNeg) :: st) v x := vE_s rfl rfl
theorem q168_27 : vE 168 27 [l0, l1, l2, l3, l4, l5, l6, l7, l8] (.int a :: st) v x ↔ vE 168 29 [l0, l1, l2, l3, l4, l5, .int a, l7, l8] st v x := vE_s rfl rfl
theorem q168_29 : vE 168 29 [.ref p, l1, l2, l3, l4, l5, l6, l7, l8] st v x ↔ vE 168 30 [.ref p, l1, l2, l3, l4, l5, l6, l7, l8] (.ref p :: st) v x := vE_s rfl rfl
theorem q168_30 : vE 168 30 [l0, l1, l2, l3, l4, l5, l6, l7, l8] (.ref p :: st) v x ↔ vE 168 33 [l0, l1, l2, l3, l4, l5, l6, l7, l8] (.ref (p + 3) :: st) v x := vE_s rfl rfl
theorem q168_33 : vE 168 33 [l0, l1, l2, l3, .int a, l5, l6, l7, l8] st v x ↔ vE 168 35 [l0, l1, l2, l3, .int a, l5, l6, l7, l8] (.int a :: st) v x := vE_s rfl rfl
theorem q168_35 : vE 168 35 [l0, l1, l2, l3, l4, l5, l6, l7, l8] (.int a :: .ref p :: st) v x ↔ vE 168 36 [l0, l1, l2, l3, l4, l5, l6, l7, l8] (.int (v.1 p a.toNatClampNeg) :: st) v x := vE_s rfl rfl
theorem q168_36 : vE 168 36 [l0, l1, l2, l3, l4, l5, .int a, l7, l8] st v x ↔ vE 168 38 [l0, l1, l2, l3, l4, l5, .int a, l7, l8] (.int a :: st) v x := vE_s rfl rfl
theorem q168_38 : vE 168 38 [l0, l1, l2, l3, l4, l5, l6, l7, l8] (.int b :: .int a :: st) v x ↔ if a = b then vE 168 41 [l0, l1, l2, l3, l4, l5, l6, l7, l8] st v x else vE 168 83 [l0, l1, l2, l3, l4, l5, l6, l7, l8] st v x := vE_if rfl rfl
theorem q168_41 : vE 168 41 [.ref p, l1, l2, l3, l4, l5, l6, l7, l8] st v x ↔ vE 168 42 [.ref p, l1, l2, l3, l4, l5, l6, l7, l8] (.ref p :: st) v x := vE_s rfl rfl
theorem q168_42 : vE 168 42 [l0, l1, l2, l3, l4, l5, l6, l7, l8] (.ref p :: st) v x ↔ vE 168 45 [l0, l1, l2, l3, l4, l5, l6, l7, l8] (.ref (p + 3) :: st) v x := vE_s rfl rfl
theorem q168_45 : vE 168 45 [l0, l1, l2, l3, .int a, l5, l6, l7, l8] st v x ↔ vE 168 47 [l0, l1, l2, l3, .int a, l5, l6, l7, l8] (.int a :: st) v x := vE_s rfl rfl
theorem q168_47 : vE 168 47 [l0, l1, l2, l3, l4, l5, l6, l7, l8] st v x ↔ vE 168 48 [l0, l1, l2, l3, l4, l5, l6, l7, l8] (.int 2 :: st) v x := vE_s rfl (by rfl)
theorem q168_48 : vE 168 48 [l0, l1, l2, l3, l4, l5, l6, l7, l8] (.int b :: .int a :: st) v x ↔ vE 168 49 [l0, l1, l2, l3, l4, l5, l6, l7, l8] (.int (a + b) :: st) v x := vE_s rfl rfl
theorem q168_49 : vE 168 49 [l0, l1, l2, l3, l4, l5, l6, l7, l8] (.int a :: .ref p :: st) v x ↔ vE 168 50 [l0, l1, l2, l3, l4, l5, l6, l7, l8] (.int (v.1 p a.toNatClampNeg) :: st) v x := vE_s rfl rfl
theorem q168_50 : vE 168 50 [.ref p, l1, l2, l3, l4, l5, l6, l7, l8] st v x ↔ vE 168 51 [.ref p, l1, l2, l3, l4, l5, l6, l7, l8] (.ref p :: st) v x := vE_s rfl rfl
theorem q168_51 : vE 168 51 [l0, l1, l2, l3, l4, l5, l6, l7, l8] (.ref p :: st) v x ↔ vE 168 54 [l0, l1, l2, l3, l4, l5, l6, l7, l8] (.ref (p + 3) :: st) v x := vE_s rfl rfl
theorem q168_54 : vE 168 54 [l0, l1, l2, l3, l4, .int a, l6, l7, l8] st v x ↔ vE 168 56 [l0, l1, l2, l3, l4, .int a, l6, l7, l8] (.int a :: st) v x := vE_s rfl rfl
theorem q168_56 : vE 168 56 [l0, l1, l2, l3, l4, l5, l6, l7, l8] st v x ↔ vE 168 57 [l0, l1, l2, l3, l4, l5, l6, l7, l8] (.int 2 :: st) v x := vE_s rfl (by rfl)
theorem q168_57 : vE 168 57 [l0, l1, l2, l3, l4, l5, l6, l7, l8] (.int b :: .int a :: st) v x ↔ vE 168 58 [l0, l1, l2, l3, l4, l5, l6, l7, l8] (.int (a + b) :: st) v x := vE_s rfl rfl
theorem q168_58 : vE 168 58 [l0, l1, l2, l3, l4, l5, l6, l7, l8] (.int a :: .ref p :: st) v x ↔ vE 168 59 [l0, l1, l2, l3, l4, l5, l6, l7, l8] (.int (v.1 p a.toNatClampNeg) :: st) v x := vE_s rfl rfl
theorem q168_59 : vE 168 59 [l0, l1, l2, l3, l4, l5, l6, l7, l8] (.int b :: .int a :: st) v x ↔ if a = b then vE 168 62 [l0, l1, l2, l3, l4, l5, l6, l7, l8] st v x else vE 168 83 [l0, l1, l2, l3, l4, l5, l6, l7, l8] st v x := vE_if rfl rfl
theorem q168_62 : vE 168 62 [.ref p, l1, l2, l3, l4, l5, l6, l7, l8] st v x ↔ vE 168 63 [.ref p, l1, l2, l3, l4, l5, l6, l7, l8] (.ref p :: st) v x := vE_s rfl rfl
theorem q168_63 : vE 168 63 [l0, l1, l2, l3, l4, l5, l6, l7, l8] (.ref p :: st) v x ↔ vE 168 66 [l0, l1, l2, l3, l4, l5, l6, l7, l8] (.ref (p + 3) :: st) v x := vE_s rfl rfl
theorem q168_66 : vE 168 66 [l0, l1, l2, l3, .int a, l5, l6, l7, l8] st v x ↔ vE 168 68 [l0, l1, l2, l3, .int a, l5, l6, l7, l8] (.int a :: st) v x := vE_s rfl rfl
theorem q168_68 : vE 168 68 [l0, l1, l2, l3, l4, l5, l6, l7, l8] st v x ↔ vE 168 69 [l0, l1, l2, l3, l4, l5, l6, l7, l8] (.int 3 :: st) v x := vE_s rfl (by rfl)
theorem q168_69 : vE 168 69 [l0, l1, l2, l3, l4, l5, l6, l7, l8] (.int b :: .int a :: st) v x ↔ vE 168 70 [l0, l1, l2, l3, l4, l5, l6, l7, l8] (.int (a + b) :: st) v x := vE_s rfl rfl
theorem q168_70 : vE 168 70 [l0, l1, l2, l3, l4, l5, l6, l7, l8] (.int a :: .ref p :: st) v x ↔ vE 168 71 [l0, l1, l2, l3, l4, l5, l6, l7, l8] (.int (v.1 p a.toNatClampNeg) :: st) v x := vE_s rfl rfl
theorem q168_71 : vE 168 71 [.ref p, l1, l2, l3, l4, l5, l6, l7, l8] st v x ↔ vE 168 72 [.ref p, l1, l2, l3, l4, l5, l6, l7, l8] (.ref p :: st) v x := vE_s rfl rfl
theorem q168_72 : vE 168 72 [l0, l1, l2, l3, l4, l5, l6, l7, l8] (.ref p :: st) v x ↔ vE 168 75 [l0, l1, l2, l3, l4, l5, l6, l7, l8] (.ref (p + 3) :: st) v x := vE_s rfl rfl
theorem q168_75 : vE 168 75 [l0, l1, l2, l3, l4, .int a, l6, l7, l8] st v x ↔ vE 168 77 [l0, l1, l2, l3, l4, .int a, l6, l7, l8] (.int a :: st) v x := vE_s rfl rfl
theorem q168_77 : vE 168 77 [l0, l1, l2, l3, l4, l5, l6, l7, l8] st v x ↔ vE 168 78 [l0, l1, l2, l3, l4, l5, l6, l7, l8] (.int 3 :: st) v x := vE_s rfl (by rfl)
theorem q168_78 : vE 168 78 [l0, l1, l2, l3, l4, l5, l6, l7, l8] (.int b :: .int a :: st) v x ↔ vE 168 79 [l0, l1, l2, l3, l4, l5, l6, l7, l8] (.int (a + b) :: st) v x := vE_s rfl rfl
theorem q168_79 : vE 168 79 [l0, l1, l2, l3, l4, l5, l6, l7, l8] (.int a :: .ref p :: st) v x ↔ vE 168 80 [l0, l1, l2, l3, l4, l5, l6, l7, l8] (.int (v.1 p a.toNatClampNeg) :: st) v x := vE_s rfl rfl
theorem q168_80 : vE 168 80 [l0, l1, l2, l3, l4, l5, l6, l7, l8] (.int b :: .int a :: st) v x ↔ if a = b then vE 168 85 [l0, l1, l2, l3, l4, l5, l6, l7, l8] st v x else vE 168 83 [l0, l1, l2, l3, l4, l5, l6, l7, l8] st v x := vE_if rfl rfl
theorem q168_83 : vE 168 83 [l0, l1, l2, l3, l4, l5, l6, l7, l8] st v x ↔ vE 168 84 [l0, l1, l2, l3, l4, l5, l6, l7, l8] (.int 0 :: st) v x := vE_s rfl (by rfl)
theorem q168_84 : vE 168 84 [l0, l1, l2, l3, l4, l5, l6, l7, l8] ([.int a]) v x ↔ x = vr a v := vE_ir rfl
theorem q168_85 : vE 168 85 [l0, l1, l2, l3, l4, l5, l6, l7, l8] st v x ↔ vE 168 86 [l0, l1, l2, l3, l4, l5, l6, l7, l8] (.int 1 :: st) v x := vE_s rfl (by rfl)
theorem q168_86 : vE 168 86 [l0, l1, l2, l3, l4, l5, l6, l7, l8] (.int a :: st) v x ↔ vE 168 88 [l0, l1, l2, l3, l4, l5, l6, .int a, l8] st v x := vE_s rfl rfl
theorem q168_88 : vE 168 88 [l0, l1, .int a, l3, l4, l5, l6, l7, l8] st v x ↔ vE 168 89 [l0, l1, .int a, l3, l4, l5, l6, l7, l8] (.int a :: st) v x := vE_s rfl rfl
theorem q168_89 : vE 168 89 [l0, l1, l2, l3, l4, l5, l6, l7, l8] (.int a :: st) v x ↔ vE 168 91 [l0, l1, l2, l3, l4, l5, l6, l7, .int a] st v x := vE_s rfl rfl
theorem q168_91 : vE 168 91 [l0, l1, l2, l3, l4, l5, l6, l7, .int a] st v x ↔ vE 168 93 [l0, l1, l2, l3, l4, l5, l6, l7, .int a] (.int a :: st) v x := vE_s rfl rfl
theorem q168_93 : vE 168 93 [l0, l1, l2, .int a, l4, l5, l6, l7, l8] st v x ↔ vE 168 94 [l0, l1, l2, .int a, l4, l5, l6, l7, l8] (.int a :: st) v x := vE_s rfl rfl
theorem q168_94 : vE 168 94 [l0, l1, l2, l3, l4, l5, l6, l7, l8] (.int b :: .int a :: st) v x ↔ if b ≤ a then vE 168 223 [l0, l1, l2, l3, l4, l5, l6, l7, l8] st v x else vE 168 97 [l0, l1, l2, l3, l4, l5, l6, l7, l8] st v x := vE_if rfl rfl
theorem q168_97 : vE 168 97 [l0, l1, l2, l3, l4, l5, l6, .int a, l8] st v x ↔ vE 168 99 [l0, l1, l2, l3, l4, l5, l6, .int a, l8] (.int a :: st) v x := vE_s rfl rfl
theorem q168_99 : vE 168 99 [l0, l1, l2, l3, l4, l5, l6, l7, l8] (.int a :: st) v x ↔ if a = 0 then vE 168 151 [l0, l1, l2, l3, l4, l5, l6, l7, l8] st v x else vE 168 102 [l0, l1, l2, l3, l4, l5, l6, l7, l8] st v x := vE_if rfl rfl
theorem q168_102 : vE 168 102 [.ref p, l1, l2, l3, l4, l5, l6, l7, l8] st v x ↔ vE 168 103 [.ref p, l1, l2, l3, l4, l5, l6, l7, l8] (.ref p :: st) v x := vE_s rfl rfl
theorem q168_103 : vE 168 103 [l0, .int a, l2, l3, l4, l5, l6, l7, l8] st v x ↔ vE 168 104 [l0, .int a, l2, l3, l4, l5, l6, l7, l8] (.int a :: st) v x := vE_s rfl rfl
theorem q168_104 : vE 168 104 [l0, l1, l2, l3, l4, l5, l6, l7, .int a] st v x ↔ vE 168 106 [l0, l1, l2, l3, l4, l5, l6, l7, .int a] (.int a :: st) v x := vE_s rfl rfl
theorem q168_106 : vE 168 106 [.ref p, l1, l2, l3, l4, l5, l6, l7, l8] st v x ↔ vE 168 107 [.ref p, l1, l2, l3, l4, l5, l6, l7, l8] (.ref p :: st) v x := vE_s rfl rfl
theorem q168_107 : vE 168 107 [l0, l1, l2, l3, l4, l5, l6, l7, l8] (.ref p :: st) v x ↔ vE 168 110 [l0, l1, l2, l3, l4, l5, l6, l7, l8] (.ref (p + 3) :: st) v x := vE_s rfl rfl
theorem q168_110 : vE 168 110 [l0, l1, l2, l3, l4, .int a, l6, l7, l8] st v x ↔ vE 168 112 [l0, l1, l2, l3, l4, .int a, l6, l7, l8] (.int a :: st) v x := vE_s rfl rfl
theorem q168_112 : vE 168 112 [l0, l1, l2, l3, l4, l5, l6, l7, l8] st v x ↔ vE 168 113 [l0, l1, l2, l3, l4, l5, l6, l7, l8] (.int 2 :: st) v x := vE_s rfl (by rfl)
theorem q168_113 : vE 168 113 [l0, l1, l2, l3, l4, l5, l6, l7, l8] (.int b :: .int a :: st) v x ↔ vE 168 114 [l0, l1, l2, l3, l4, l5, l6, l7, l8] (.int (a + b) :: st) v x := vE_s rfl rfl
theorem q168_114 : vE 168 114 [l0, l1, l2, l3, l4, l5, l6, l7, l8] (.int a :: .ref p :: st) v x ↔ vE 168 115 [l0, l1, l2, l3, l4, l5, l6, l7, l8] (.int (v.1 p a.toNatClampNeg) :: st) v x := vE_s rfl rfl
theorem q168_115 : vE 168 115 [l0, l1, l2, l3, l4, l5, l6, l7, l8] (w3 :: w2 :: w1 :: w0 :: st) v x ↔ ∃ y : vm_Y, vE 169 0 [w0, w1, w2, w3, .retAddr 0] [] v y ∧ vB 168 115 [l0, l1, l2, l3, l4, l5, l6, l7, l8] st y x := vE_cv rfl rfl rfl rfl
theorem q168_118 : vE 168 118 [l0, l1, l2, l3, l4, l5, l6, l7, l8] (.int a :: st) v x ↔ if a = 0 then vE 168 121 [l0, l1, l2, l3, l4, l5, l6, l7, l8] st v x else vE 168 151 [l0, l1, l2, l3, l4, l5, l6, l7, l8] st v x := vE_if rfl rfl
theorem q168_121 : vE 168 121 [l0, l1, l2, l3, l4, l5, .int a, l7, l8] st v x ↔ vE 168 123 [l0, l1, l2, l3, l4, l5, .int a, l7, l8] (.int a :: st) v x := vE_s rfl rfl
theorem q168_123 : vE 168 123 [l0, l1, l2, l3, l4, l5, l6, l7, l8] st v x ↔ vE 168 125 [l0, l1, l2, l3, l4, l5, l6, l7, l8] (.int 8 :: st) v x := vE_s rfl (by rfl)
theorem q168_125 : vE 168 125 [l0, l1, l2, l3, l4, l5, l6, l7, l8] (.int b :: .int a :: st) v x ↔ if a = b then vE 168 147 [l0, l1, l2, l3, l4, l5, l6, l7, l8] st v x else vE 168 128 [l0, l1, l2, l3, l4, l5, l6, l7, l8] st v x := vE_if rfl rfl
theorem q168_128 : vE 168 128 [.ref p, l1, l2, l3, l4, l5, l6, l7, l8] st v x ↔ vE 168 129 [.ref p, l1, l2, l3, l4, l5, l6, l7, l8] (.ref p :: st) v x := vE_s rfl rfl
theorem q168_129 : vE 168 129 [l0, .int a, l2, l3, l4, l5, l6, l7, l8] st v x ↔ vE 168 130 [l0, .int a, l2, l3, l4, l5, l6, l7, l8] (.int a :: st) v x := vE_s rfl rfl
theorem q168_130 : vE 168 130 [l0, l1, l2, l3, l4, l5, l6, l7, .int a] st v x ↔ vE 168 132 [l0, l1, l2, l3, l4, l5, l6, l7, .int a] (.int a :: st) v x := vE_s rfl rfl
theorem q168_132 : vE 168 132 [.ref p, l1, l2, l3, l4, l5, l6, l7, l8] st v x ↔ vE 168 133 [.ref p, l1, l2, l3, l4, l5, l6, l7, l8] (.ref p :: st) v x := vE_s rfl rfl
theorem q168_133 : vE 168 133 [l0, l1, l2, l3, l4, l5, l6, l7, l8] (.ref p :: st) v x ↔ vE 168 136 [l0, l1, l2, l3, l4, l5, l6, l7, l8] (.ref (p + 3) :: st) v x := vE_s rfl rfl
theorem q168_136 : vE 168 136 [l0, l1, l2, l3, l4, .int a, l6, l7, l8] st v x ↔ vE 168 138 [l0, l1, l2, l3, l4, .int a, l6, l7, l8] (.int a :: st) v x := vE_s rfl rfl
theorem q168_138 : vE 168 138 [l0, l1, l2, l3, l4, l5, l6, l7, l8] st v x ↔ vE 168 139 [l0, l1, l2, l3, l4, l5, l6, l7, l8] (.int 3 :: st) v x := vE_s rfl (by rfl)
theorem q168_139 : vE 168 139 [l0, l1, l2, l3, l4, l5, l6, l7, l8] (.int b :: .int a :: st) v x ↔ vE 168 140 [l0, l1, l2, l3, l4, l5, l6, l7, l8] (.int (a + b) :: st) v x := vE_s rfl rfl
theorem q168_140 : vE 168 140 [l0, l1, l2, l3, l4, l5, l6, l7, l8] (.int a :: .ref p :: st) v x ↔ vE 168 141 [l0, l1, l2, l3, l4, l5, l6, l7, l8] (.int (v.1 p a.toNatClampNeg) :: st) v x := vE_s rfl rfl
theorem q168_141 : vE 168 141 [l0, l1, l2, l3, l4, l5, l6, l7, l8] (w3 :: w2 :: w1 :: w0 :: st) v x ↔ ∃ y : vm_Y, vE 169 0 [w0, w1, w2, w3, .retAddr 0] [] v y ∧ vB 168 141 [l0, l1, l2, l3, l4, l5, l6, l7, l8] st y x := vE_cv rfl rfl rfl rfl
theorem q168_144 : vE 168 144 [l0, l1, l2, l3, l4, l5, l6, l7, l8] (.int a :: st) v x ↔ if a = 0 then vE 168 147 [l0, l1, l2, l3, l4, l5, l6, l7, l8] st v x else vE 168 151 [l0, l1, l2, l3, l4, l5, l6, l7, l8] st v x := vE_if rfl rfl
theorem q168_147 : vE 168 147 [l0, l1, l2, l3, l4, l5, l6, l7, l8] st v x ↔ vE 168 148 [l0, l1, l2, l3, l4, l5, l6, l7, l8] (.int 1 :: st) v x := vE_s rfl (by rfl)
theorem q168_148 : vE 168 148 [l0, l1, l2, l3, l4, l5, l6, l7, l8] st v x ↔ vE 168 152 [l0, l1, l2, l3, l4, l5, l6, l7, l8] st v x := vE_s rfl rfl
theorem q168_151 : vE 168 151 [l0, l1, l2, l3, l4, l5, l6, l7, l8] st v x ↔ vE 168 152 [l0, l1, l2, l3, l4, l5, l6, l7, l8] (.int 0 :: st) v x := vE_s rfl (by rfl)
theorem q168_152 : vE 168 152 [l0, l1, l2, l3, l4, l5, l6, l7, l8] (.int a :: st) v x ↔ vE 168 154 [l0, l1, l2, l3, l4, l5, l6, .int a, l8] st v x := vE_s rfl rfl
theorem q168_154 : vE 168 154 [l0, l1, l2, l3, l4, l5, l6, .int a, l8] st v x ↔ vE 168 156 [l0, l1, l2, l3, l4, l5, l6, .int a, l8] (.int a :: st) v x := vE_s rfl rfl
theorem q168_156 : vE 168 156 [l0, l1, l2, l3, l4, l5, l6, l7, l8] (.int a :: st) v x ↔ if a = 0 then vE 168 214 [l0, l1, l2, l3, l4, l5, l6, l7, l8] st v x else vE 168 159 [l0, l1, l2, l3, l4, l5, l6, l7, l8] st v x := vE_if rfl rfl
theorem q168_159 : vE 168 159 [l0, l1, l2, l3, l4, l5, l6, l7, .int a] st v x ↔ vE 168 161 [l0, l1, l2, l3, l4, l5, l6, l7, .int a] (.int a :: st) v x := vE_s rfl rfl
theorem q168_161 : vE 168 161 [l0, l1, .int a, l3, l4, l5, l6, l7, l8] st v x ↔ vE 168 162 [l0, l1, .int a, l3, l4, l5, l6, l7, l8] (.int a :: st) v x := vE_s rfl rfl
theorem q168_162 : vE 168 162 [l0, l1, l2, l3, l4, l5, l6, l7, l8] (.int b :: .int a :: st) v x ↔ if a = b then vE 168 184 [l0, l1, l2, l3, l4, l5, l6, l7, l8] st v x else vE 168 165 [l0, l1, l2, l3, l4, l5, l6, l7, l8] st v x := vE_if rfl rfl
theorem q168_165 : vE 168 165 [.ref p, l1, l2, l3, l4, l5, l6, l7, l8] st v x ↔ vE 168 166 [.ref p, l1, l2, l3, l4, l5, l6, l7, l8] (.ref p :: st) v x := vE_s rfl rfl
theorem q168_166 : vE 168 166 [l0, .int a, l2, l3, l4, l5, l6, l7, l8] st v x ↔ vE 168 167 [l0, .int a, l2, l3, l4, l5, l6, l7, l8] (.int a :: st) v x := vE_s rfl rfl
theorem q168_167 : vE 168 167 [l0, l1, l2, l3, l4, l5, l6, l7, .int a] st v x ↔ vE 168 169 [l0, l1, l2, l3, l4, l5, l6, l7, .int a] (.int a :: st) v x := vE_s rfl rfl
theorem q168_169 : vE 168 169 [.ref p, l1, l2, l3, l4, l5, l6, l7, l8] st v x ↔ vE 168 170 [.ref p, l1, l2, l3, l4, l5, l6, l7, l8] (.ref p :: st) v x := vE_s rfl rfl
theorem q168_170 : vE 168 170 [l0, l1, l2, l3, l4, l5, l6, l7, l8] (.ref p :: st) v x ↔ vE 168 173 [l0, l1, l2, l3, l4, l5, l6, l7, l8] (.ref (p + 3) :: st) v x := vE_s rfl rfl
theorem q168_173 : vE 168 173 [l0, l1, l2, l3, .int a, l5, l6, l7, l8] st v x ↔ vE 168 175 [l0, l1, l2, l3, .int a, l5, l6, l7, l8] (.int a :: st) v x := vE_s rfl rfl
theorem q168_175 : vE 168 175 [l0, l1, l2, l3, l4, l5, l6, l7, l8] st v x ↔ vE 168 176 [l0, l1, l2, l3, l4, l5, l6, l7, l8] (.int 1 :: st) v x := vE_s rfl (by rfl)
theorem q168_176 : vE 168 176 [l0, l1, l2, l3, l4, l5, l6, l7, l8] (.int b :: .int a :: st) v x ↔ vE 168 177 [l0, l1, l2, l3, l4, l5, l6, l7, l8] (.int (a + b) :: st) v x := vE_s rfl rfl
theorem q168_177 : vE 168 177 [l0, l1, l2, l3, l4, l5, l6, l7, l8] (.int a :: .ref p :: st) v x ↔ vE 168 178 [l0, l1, l2, l3, l4, l5, l6, l7, l8] (.int (v.1 p a.toNatClampNeg) :: st) v x := vE_s rfl rfl
theorem q168_178 : vE 168 178 [l0, l1, l2, l3, l4, l5, l6, l7, l8] (w3 :: w2 :: w1 :: w0 :: st) v x ↔ ∃ y : vm_Y, vE 169 0 [w0, w1, w2, w3, .retAddr 0] [] v y ∧ vB 168 178 [l0, l1, l2, l3, l4, l5, l6, l7, l8] st y x := vE_cv rfl rfl rfl rfl
theorem q168_181 : vE 168 181 [l0, l1, l2, l3, l4, l5, l6, l7, l8] (.int a :: st) v x ↔ if a = 0 then vE 168 184 [l0, l1, l2, l3, l4, l5, l6, l7, l8] st v x else vE 168 214 [l0, l1, l2, l3, l4, l5, l6, l7, l8] st v x := vE_if rfl rfl
theorem q168_184 : vE 168 184 [l0, l1, l2, l3, l4, l5, .int a, l7, l8] st v x ↔ vE 168 186 [l0, l1, l2, l3, l4, l5, .int a, l7, l8] (.int a :: st) v x := vE_s rfl rfl
theorem q168_186 : vE 168 186 [l0, l1, l2, l3, l4, l5, l6, l7, l8] st v x ↔ vE 168 188 [l0, l1, l2, l3, l4, l5, l6, l7, l8] (.int 8 :: st) v x := vE_s rfl (by rfl)
theorem q168_188 : vE 168 188 [l0, l1, l2, l3, l4, l5, l6, l7, l8] (.int b :: .int a :: st) v x ↔ if a = b then vE 168 191 [l0, l1, l2, l3, l4, l5, l6, l7, l8] st v x else vE 168 210 [l0, l1, l2, l3, l4, l5, l6, l7, l8] st v x := vE_if rfl rfl
theorem q168_191 : vE 168 191 [.ref p, l1, l2, l3, l4, l5, l6, l7, l8] st v x ↔ vE 168 192 [.ref p, l1, l2, l3, l4, l5, l6, l7, l8] (.ref p :: st) v x := vE_s rfl rfl
theorem q168_192 : vE 168 192 [l0, l1, l2, l3, l4, l5, l6, l7, l8] (.ref p :: st) v x ↔ vE 168 195 [l0, l1, l2, l3, l4, l5, l6, l7, l8] (.ref (p + 3) :: st) v x := vE_s rfl rfl
theorem q168_195 : vE 168 195 [l0, l1, l2, l3, l4, l5, l6, l7, l8] st v x ↔ vE 168 197 [l0, l1, l2, l3, l4, l5, l6, l7, l8] (.int 32 :: st) v x := vE_s rfl (by rfl)
theorem q168_197 : vE 168 197 [l0, .int a, l2, l3, l4, l5, l6, l7, l8] st v x ↔ vE 168 198 [l0, .int a, l2, l3, l4, l5, l6, l7, l8] (.int a :: st) v x := vE_s rfl rfl
theorem q168_198 : vE 168 198 [l0, l1, l2, l3, l4, l5, l6, l7, l8] (.int b :: .int a :: st) v x ↔ vE 168 199 [l0, l1, l2, l3, l4, l5, l6, l7, l8] (.int (a * b) :: st) v x := vE_s rfl rfl
theorem q168_199 : vE 168 199 [l0, l1, l2, l3, l4, l5, l6, l7, l8] st v x ↔ vE 168 200 [l0, l1, l2, l3, l4, l5, l6, l7, l8] (.int 4 :: st) v x := vE_s rfl (by rfl)
theorem q168_200 : vE 168 200 [l0, l1, l2, l3, l4, l5, l6, l7, .int a] st v x ↔ vE 168 202 [l0, l1, l2, l3, l4, l5, l6, l7, .int a] (.int a :: st) v x := vE_s rfl rfl
theorem q168_202 : vE 168 202 [l0, l1, l2, l3, l4, l5, l6, l7, l8] (.int b :: .int a :: st) v x ↔ vE 168 203 [l0, l1, l2, l3, l4, l5, l6, l7, l8] (.int (a * b) :: st) v x := vE_s rfl rfl
theorem q168_203 : vE 168 203 [l0, l1, l2, l3, l4, l5, l6, l7, l8] (.int b :: .int a :: st) v x ↔ vE 168 204 [l0, l1, l2, l3, l4, l5, l6, l7, l8] (.int (a + b) :: st) v x := vE_s rfl rfl
theorem q168_204 : vE 168 204 [l0, l1, l2, l3, l4, l5, l6, l7, l8] (.int a :: .ref p :: st) v x ↔ vE 168 205 [l0, l1, l2, l3, l4, l5, l6, l7, l8] (.int (v.1 p a.toNatClampNeg) :: st) v x := vE_s rfl rfl
theorem q168_205 : vE 168 205 [l0, l1, l2, l3, l4, l5, l6, l7, l8] st v x ↔ vE 168 207 [l0, l1, l2, l3, l4, l5, l6, l7, l8] (.int 9 :: st) v x := vE_s rfl (by rfl)
theorem q168_207 : vE 168 207 [l0, l1, l2, l3, l4, l5, l6, l7, l8] (.int b :: .int a :: st) v x ↔ if a = b then vE 168 214 [l0, l1, l2, l3, l4, l5, l6, l7, l8] st v x else vE 168 210 [l0, l1, l2, l3, l4, l5, l6, l7, l8] st v x := vE_if rfl rfl
theorem q168_210 : vE 168 210 [l0, l1, l2, l3, l4, l5, l6, l7, l8] st v x ↔ vE 168 211 [l0, l1, l2, l3, l4, l5, l6, l7, l8] (.int 1 :: st) v x := vE_s rfl (by rfl)
theorem q168_211 : vE 168 211 [l0, l1, l2, l3, l4, l5, l6, l7, l8] st v x ↔ vE 168 215 [l0, l1, l2, l3, l4, l5, l6, l7, l8] st v x := vE_s rfl rfl
theorem q168_214 : vE 168 214 [l0, l1, l2, l3, l4, l5, l6, l7, l8] st v x ↔ vE 168 215 [l0, l1, l2, l3, l4, l5, l6, l7, l8] (.int 0 :: st) v x := vE_s rfl (by rfl)
theorem q168_215 : vE 168 215 [l0, l1, l2, l3, l4, l5, l6, l7, l8] (.int a :: st) v x ↔ vE 168 217 [l0, l1, l2, l3, l4, l5, l6, .int a, l8] st v x := vE_s rfl rfl
theorem q168_217 : vE 168 217 [l0, l1, l2, l3, l4, l5, l6, l7, .int a] st v x ↔ vE 168 220 [l0, l1, l2, l3, l4, l5, l6, l7, .int (a + 1)] st v x := vE_s rfl rfl
theorem q168_220 : vE 168 220 [l0, l1, l2, l3, l4, l5, l6, l7, l8] st v x ↔ vE 168 91 [l0, l1, l2, l3, l4, l5, l6, l7, l8] st v x := vE_s rfl rfl
theorem q168_223 : vE 168 223 [l0, l1, l2, l3, l4, l5, l6, .int a, l8] st v x ↔ vE 168 225 [l0, l1, l2, l3, l4, l5, l6, .int a, l8] (.int a :: st) v x := vE_s rfl rfl
theorem q168_225 : vE 168 225 [l0, l1, l2, l3, l4, l5, l6, l7, l8] ([.int a]) v x ↔ x = vr a v := vE_ir rfl
theorem qt168 {X pc : Nat} {L r : List Value} : vB 168 pc L r (vt X v) x ↔ x = vt X v := vB_t rfl
/-! 169 PassCheckerModel.writesTo(III)Z -/
theorem q169_0 : vE 169 0 [l0, l1, l2, l3, l4] st v x ↔ vE 169 2 [l0, l1, l2, l3, l4] (.int 32 :: st) v x := vE_s rfl (by rfl)
theorem q169_2 : vE 169 2 [l0, .int a, l2, l3, l4] st v x ↔ vE 169 3 [l0, .int a, l2, l3, l4] (.int a :: st) v x := vE_s rfl rfl
theorem q169_3 : vE 169 3 [l0, l1, l2, l3, l4] (.int b :: .int a :: st) v x ↔ vE 169 4 [l0, l1, l2, l3, l4] (.int (a * b) :: st) v x := vE_s rfl rfl
theorem q169_4 : vE 169 4 [l0, l1, l2, l3, l4] st v x ↔ vE 169 5 [l0, l1, l2, l3, l4] (.int 4 :: st) v x := vE_s rfl (by rfl)
theorem q169_5 : vE 169 5 [l0, l1, .int a, l3, l4] st v x ↔ vE 169 6 [l0, l1, .int a, l3, l4] (.int a :: st) v x := vE_s rfl rfl
theorem q169_6 : vE 169 6 [l0, l1, l2, l3, l4] (.int b :: .int a :: st) v x ↔ vE 169 7 [l0, l1, l2, l3, l4] (.int (a * b) :: st) v x := vE_s rfl rfl
theorem q169_7 : vE 169 7 [l0, l1, l2, l3, l4] (.int b :: .int a :: st) v x ↔ vE 169 8 [l0, l1, l2, l3, l4] (.int (a + b) :: st) v x := vE_s rfl rfl
theorem q169_8 : vE 169 8 [l0, l1, l2, l3, l4] (.int a :: st) v x ↔ vE 169 10 [l0, l1, l2, l3, .int a] st v x := vE_s rfl rfl
theorem q169_10 : vE 169 10 [.ref p, l1, l2, l3, l4] st v x ↔ vE 169 11 [.ref p, l1, l2, l3, l4] (.ref p :: st) v x := vE_s rfl rfl
theorem q169_11 : vE 169 11 [l0, l1, l2, l3, l4] (.ref p :: st) v x ↔ vE 169 14 [l0, l1, l2, l3, l4] (.ref (p + 3) :: st) v x := vE_s rfl rfl
theorem q169_14 : vE 169 14 [l0, l1, l2, l3, .int a] st v x ↔ vE 169 16 [l0, l1, l2, l3, .int a] (.int a :: st) v x := vE_s rfl rfl
theorem q169_16 : vE 169 16 [l0, l1, l2, l3, l4] (.int a :: .ref p :: st) v x ↔ vE 169 17 [l0, l1, l2, l3, l4] (.int (v.1 p a.toNatClampNeg) :: st) v x := vE_s rfl rfl
theorem q169_17 : vE 169 17 [l0, l1, l2, l3, l4] (w0 :: st) v x ↔ ∃ y : vm_Y, vE 154 0 [w0] [] v y ∧ vB 169 17 [l0, l1, l2, l3, l4] st y x := vE_cs rfl rfl rfl rfl
theorem q169_20 : vE 169 20 [l0, l1, l2, l3, l4] (.int a :: st) v x ↔ if a = 0 then vE 169 40 [l0, l1, l2, l3, l4] st v x else vE 169 23 [l0, l1, l2, l3, l4] st v x := vE_if rfl rfl
theorem q169_23 : vE 169 23 [.ref p, l1, l2, l3, l4] st v x ↔ vE 169 24 [.ref p, l1, l2, l3, l4] (.ref p :: st) v x := vE_s rfl rfl
theorem q169_24 : vE 169 24 [l0, l1, l2, l3, l4] (.ref p :: st) v x ↔ vE 169 27 [l0, l1, l2, l3, l4] (.ref (p + 3) :: st) v x := vE_s rfl rfl
theorem q169_27 : vE 169 27 [l0, l1, l2, l3, .int a] st v x ↔ vE 169 29 [l0, l1, l2, l3, .int a] (.int a :: st) v x := vE_s rfl rfl
theorem q169_29 : vE 169 29 [l0, l1, l2, l3, l4] st v x ↔ vE 169 30 [l0, l1, l2, l3, l4] (.int 1 :: st) v x := vE_s rfl (by rfl)
theorem q169_30 : vE 169 30 [l0, l1, l2, l3, l4] (.int b :: .int a :: st) v x ↔ vE 169 31 [l0, l1, l2, l3, l4] (.int (a + b) :: st) v x := vE_s rfl rfl
theorem q169_31 : vE 169 31 [l0, l1, l2, l3, l4] (.int a :: .ref p :: st) v x ↔ vE 169 32 [l0, l1, l2, l3, l4] (.int (v.1 p a.toNatClampNeg) :: st) v x := vE_s rfl rfl
theorem q169_32 : vE 169 32 [l0, l1, l2, .int a, l4] st v x ↔ vE 169 33 [l0, l1, l2, .int a, l4] (.int a :: st) v x := vE_s rfl rfl
theorem q169_33 : vE 169 33 [l0, l1, l2, l3, l4] (.int b :: .int a :: st) v x ↔ if a = b then vE 169 36 [l0, l1, l2, l3, l4] st v x else vE 169 40 [l0, l1, l2, l3, l4] st v x := vE_if rfl rfl
theorem q169_36 : vE 169 36 [l0, l1, l2, l3, l4] st v x ↔ vE 169 37 [l0, l1, l2, l3, l4] (.int 1 :: st) v x := vE_s rfl (by rfl)
theorem q169_37 : vE 169 37 [l0, l1, l2, l3, l4] st v x ↔ vE 169 41 [l0, l1, l2, l3, l4] st v x := vE_s rfl rfl
theorem q169_40 : vE 169 40 [l0, l1, l2, l3, l4] st v x ↔ vE 169 41 [l0, l1, l2, l3, l4] (.int 0 :: st) v x := vE_s rfl (by rfl)
theorem q169_41 : vE 169 41 [l0, l1, l2, l3, l4] ([.int a]) v x ↔ x = vr a v := vE_ir rfl
theorem qt169 {X pc : Nat} {L r : List Value} : vB 169 pc L r (vt X v) x ↔ x = vt X v := vB_t rfl
/-! 170 PassCheckerModel.order(I)V -/
theorem q170_0 : vE 170 0 [.ref p, l1, l2, l3, l4, l5, l6] st v x ↔ vE 170 1 [.ref p, l1, l2, l3, l4, l5, l6] (.ref p :: st) v x := vE_s rfl rfl
theorem q170_1 : vE 170 1 [l0, l1, l2, l3, l4, l5, l6] (.ref p :: st) v x ↔ vE 170 4 [l0, l1, l2, l3, l4, l5, l6] (.ref (p + 2) :: st) v x := vE_s rfl rfl
theorem q170_4 : vE 170 4 [l0, .int a, l2, l3, l4, l5, l6] st v x ↔ vE 170 5 [l0, .int a, l2, l3, l4, l5, l6] (.int a :: st) v x := vE_s rfl rfl
theorem q170_5 : vE 170 5 [l0, l1, l2, l3, l4, l5, l6] (.int a :: .ref p :: st) v x ↔ vE 170 6 [l0, l1, l2, l3, l4, l5, l6] (.int (v.1 p a.toNatClampNeg) :: st) v x := vE_s rfl rfl
theorem q170_6 : vE 170 6 [l0, l1, l2, l3, l4, l5, l6] st v x ↔ vE 170 7 [l0, l1, l2, l3, l4, l5, l6] (.int 1 :: st) v x := vE_s rfl (by rfl)
theorem q170_7 : vE 170 7 [l0, l1, l2, l3, l4, l5, l6] (.int b :: .int a :: st) v x ↔ vE 170 8 [l0, l1, l2, l3, l4, l5, l6] (.int (a - b) :: st) v x := vE_s rfl rfl
theorem q170_8 : vE 170 8 [l0, l1, l2, l3, l4, l5, l6] (.int a :: st) v x ↔ vE 170 9 [l0, l1, .int a, l3, l4, l5, l6] st v x := vE_s rfl rfl
theorem q170_9 : vE 170 9 [l0, l1, .int a, l3, l4, l5, l6] st v x ↔ vE 170 10 [l0, l1, .int a, l3, l4, l5, l6] (.int a :: st) v x := vE_s rfl rfl
theorem q170_10 : vE 170 10 [l0, l1, l2, l3, l4, l5, l6] (.int a :: st) v x ↔ if a < 0 then vE 170 108 [l0, l1, l2, l3, l4, l5, l6] st v x else vE 170 13 [l0, l1, l2, l3, l4, l5, l6] st v x := vE_if rfl rfl
theorem q170_13 : vE 170 13 [l0, l1, l2, l3, l4, l5, l6] st v x ↔ vE 170 14 [l0, l1, l2, l3, l4, l5, l6] (.int 0 :: st) v x := vE_s rfl (by rfl)
theorem q170_14 : vE 170 14 [l0, l1, l2, l3, l4, l5, l6] (.int a :: st) v x ↔ vE 170 15 [l0, l1, l2, .int a, l4, l5, l6] st v x := vE_s rfl rfl
theorem q170_15 : vE 170 15 [l0, l1, .int a, l3, l4, l5, l6] st v x ↔ vE 170 16 [l0, l1, .int a, l3, l4, l5, l6] (.int a :: st) v x := vE_s rfl rfl
theorem q170_16 : vE 170 16 [l0, l1, l2, l3, l4, l5, l6] st v x ↔ vE 170 17 [l0, l1, l2, l3, l4, l5, l6] (.int 1 :: st) v x := vE_s rfl (by rfl)
theorem q170_17 : vE 170 17 [l0, l1, l2, l3, l4, l5, l6] (.int b :: .int a :: st) v x ↔ vE 170 18 [l0, l1, l2, l3, l4, l5, l6] (.int (a + b) :: st) v x := vE_s rfl rfl
theorem q170_18 : vE 170 18 [l0, l1, l2, l3, l4, l5, l6] (.int a :: st) v x ↔ vE 170 20 [l0, l1, l2, l3, .int a, l5, l6] st v x := vE_s rfl rfl
theorem q170_20 : vE 170 20 [l0, l1, l2, l3, .int a, l5, l6] st v x ↔ vE 170 22 [l0, l1, l2, l3, .int a, l5, l6] (.int a :: st) v x := vE_s rfl rfl
theorem q170_22 : vE 170 22 [.ref p, l1, l2, l3, l4, l5, l6] st v x ↔ vE 170 23 [.ref p, l1, l2, l3, l4, l5, l6] (.ref p :: st) v x := vE_s rfl rfl
theorem q170_23 : vE 170 23 [l0, l1, l2, l3, l4, l5, l6] (.ref p :: st) v x ↔ vE 170 26 [l0, l1, l2, l3, l4, l5, l6] (.ref (p + 2) :: st) v x := vE_s rfl rfl
theorem q170_26 : vE 170 26 [l0, .int a, l2, l3, l4, l5, l6] st v x ↔ vE 170 27 [l0, .int a, l2, l3, l4, l5, l6] (.int a :: st) v x := vE_s rfl rfl
theorem q170_27 : vE 170 27 [l0, l1, l2, l3, l4, l5, l6] (.int a :: .ref p :: st) v x ↔ vE 170 28 [l0, l1, l2, l3, l4, l5, l6] (.int (v.1 p a.toNatClampNeg) :: st) v x := vE_s rfl rfl
theorem q170_28 : vE 170 28 [l0, l1, l2, l3, l4, l5, l6] (.int b :: .int a :: st) v x ↔ if b ≤ a then vE 170 71 [l0, l1, l2, l3, l4, l5, l6] st v x else vE 170 31 [l0, l1, l2, l3, l4, l5, l6] st v x := vE_if rfl rfl
theorem q170_31 : vE 170 31 [.ref p, l1, l2, l3, l4, l5, l6] st v x ↔ vE 170 32 [.ref p, l1, l2, l3, l4, l5, l6] (.ref p :: st) v x := vE_s rfl rfl
theorem q170_32 : vE 170 32 [l0, .int a, l2, l3, l4, l5, l6] st v x ↔ vE 170 33 [l0, .int a, l2, l3, l4, l5, l6] (.int a :: st) v x := vE_s rfl rfl
theorem q170_33 : vE 170 33 [l0, l1, l2, l3, .int a, l5, l6] st v x ↔ vE 170 35 [l0, l1, l2, l3, .int a, l5, l6] (.int a :: st) v x := vE_s rfl rfl
theorem q170_35 : vE 170 35 [l0, l1, .int a, l3, l4, l5, l6] st v x ↔ vE 170 36 [l0, l1, .int a, l3, l4, l5, l6] (.int a :: st) v x := vE_s rfl rfl
theorem q170_36 : vE 170 36 [l0, l1, l2, l3, l4, l5, l6] (w3 :: w2 :: w1 :: w0 :: st) v x ↔ ∃ y : vm_Y, vE 171 0 [w0, w1, w2, w3, .retAddr 0, .retAddr 0] [] v y ∧ vB 170 36 [l0, l1, l2, l3, l4, l5, l6] st y x := vE_cv rfl rfl rfl rfl
theorem q170_39 : vE 170 39 [l0, l1, l2, l3, l4, l5, l6] (.int a :: st) v x ↔ if a = 0 then vE 170 63 [l0, l1, l2, l3, l4, l5, l6] st v x else vE 170 42 [l0, l1, l2, l3, l4, l5, l6] st v x := vE_if rfl rfl
theorem q170_42 : vE 170 42 [.ref p, l1, l2, l3, l4, l5, l6] st v x ↔ vE 170 43 [.ref p, l1, l2, l3, l4, l5, l6] (.ref p :: st) v x := vE_s rfl rfl
theorem q170_43 : vE 170 43 [l0, l1, l2, l3, l4, l5, l6] (.ref p :: st) v x ↔ vE 170 46 [l0, l1, l2, l3, l4, l5, l6] (.ref (p + 24) :: st) v x := vE_s rfl rfl
theorem q170_46 : vE 170 46 [l0, l1, l2, l3, .int a, l5, l6] st v x ↔ vE 170 48 [l0, l1, l2, l3, .int a, l5, l6] (.int a :: st) v x := vE_s rfl rfl
theorem q170_48 : vE 170 48 [l0, l1, l2, l3, l4, l5, l6] (.int a :: .ref p :: st) v x ↔ vE 170 49 [l0, l1, l2, l3, l4, l5, l6] (.int (v.1 p a.toNatClampNeg) :: st) v x := vE_s rfl rfl
theorem q170_49 : vE 170 49 [l0, l1, l2, .int a, l4, l5, l6] st v x ↔ vE 170 50 [l0, l1, l2, .int a, l4, l5, l6] (.int a :: st) v x := vE_s rfl rfl
theorem q170_50 : vE 170 50 [l0, l1, l2, l3, l4, l5, l6] (.int b :: .int a :: st) v x ↔ if a ≤ b then vE 170 63 [l0, l1, l2, l3, l4, l5, l6] st v x else vE 170 53 [l0, l1, l2, l3, l4, l5, l6] st v x := vE_if rfl rfl
theorem q170_53 : vE 170 53 [.ref p, l1, l2, l3, l4, l5, l6] st v x ↔ vE 170 54 [.ref p, l1, l2, l3, l4, l5, l6] (.ref p :: st) v x := vE_s rfl rfl
theorem q170_54 : vE 170 54 [l0, l1, l2, l3, l4, l5, l6] (.ref p :: st) v x ↔ vE 170 57 [l0, l1, l2, l3, l4, l5, l6] (.ref (p + 24) :: st) v x := vE_s rfl rfl
theorem q170_57 : vE 170 57 [l0, l1, l2, l3, .int a, l5, l6] st v x ↔ vE 170 59 [l0, l1, l2, l3, .int a, l5, l6] (.int a :: st) v x := vE_s rfl rfl
theorem q170_59 : vE 170 59 [l0, l1, l2, l3, l4, l5, l6] (.int a :: .ref p :: st) v x ↔ vE 170 60 [l0, l1, l2, l3, l4, l5, l6] (.int (v.1 p a.toNatClampNeg) :: st) v x := vE_s rfl rfl
theorem q170_60 : vE 170 60 [l0, l1, l2, l3, l4, l5, l6] st v x ↔ vE 170 64 [l0, l1, l2, l3, l4, l5, l6] st v x := vE_s rfl rfl
theorem q170_63 : vE 170 63 [l0, l1, l2, .int a, l4, l5, l6] st v x ↔ vE 170 64 [l0, l1, l2, .int a, l4, l5, l6] (.int a :: st) v x := vE_s rfl rfl
theorem q170_64 : vE 170 64 [l0, l1, l2, l3, l4, l5, l6] (.int a :: st) v x ↔ vE 170 65 [l0, l1, l2, .int a, l4, l5, l6] st v x := vE_s rfl rfl
theorem q170_65 : vE 170 65 [l0, l1, l2, l3, .int a, l5, l6] st v x ↔ vE 170 68 [l0, l1, l2, l3, .int (a + 1), l5, l6] st v x := vE_s rfl rfl
theorem q170_68 : vE 170 68 [l0, l1, l2, l3, l4, l5, l6] st v x ↔ vE 170 20 [l0, l1, l2, l3, l4, l5, l6] st v x := vE_s rfl rfl
theorem q170_71 : vE 170 71 [.ref p, l1, l2, l3, l4, l5, l6] st v x ↔ vE 170 72 [.ref p, l1, l2, l3, l4, l5, l6] (.ref p :: st) v x := vE_s rfl rfl
theorem q170_72 : vE 170 72 [l0, l1, l2, l3, l4, l5, l6] (.ref p :: st) v x ↔ vE 170 75 [l0, l1, l2, l3, l4, l5, l6] (.ref (p + 24) :: st) v x := vE_s rfl rfl
theorem q170_75 : vE 170 75 [l0, l1, .int a, l3, l4, l5, l6] st v x ↔ vE 170 76 [l0, l1, .int a, l3, l4, l5, l6] (.int a :: st) v x := vE_s rfl rfl
theorem q170_76 : vE 170 76 [.ref p, l1, l2, l3, l4, l5, l6] st v x ↔ vE 170 77 [.ref p, l1, l2, l3, l4, l5, l6] (.ref p :: st) v x := vE_s rfl rfl
theorem q170_77 : vE 170 77 [l0, l1, l2, l3, l4, l5, l6] (.ref p :: st) v x ↔ vE 170 80 [l0, l1, l2, l3, l4, l5, l6] (.ref (p + 3) :: st) v x := vE_s rfl rfl
theorem q170_80 : vE 170 80 [l0, l1, l2, l3, l4, l5, l6] st v x ↔ vE 170 82 [l0, l1, l2, l3, l4, l5, l6] (.int 32 :: st) v x := vE_s rfl (by rfl)
theorem q170_82 : vE 170 82 [l0, .int a, l2, l3, l4, l5, l6] st v x ↔ vE 170 83 [l0, .int a, l2, l3, l4, l5, l6] (.int a :: st) v x := vE_s rfl rfl
theorem q170_83 : vE 170 83 [l0, l1, l2, l3, l4, l5, l6] (.int b :: .int a :: st) v x ↔ vE 170 84 [l0, l1, l2, l3, l4, l5, l6] (.int (a * b) :: st) v x := vE_s rfl rfl
theorem q170_84 : vE 170 84 [l0, l1, l2, l3, l4, l5, l6] st v x ↔ vE 170 85 [l0, l1, l2, l3, l4, l5, l6] (.int 4 :: st) v x := vE_s rfl (by rfl)
theorem q170_85 : vE 170 85 [l0, l1, .int a, l3, l4, l5, l6] st v x ↔ vE 170 86 [l0, l1, .int a, l3, l4, l5, l6] (.int a :: st) v x := vE_s rfl rfl
theorem q170_86 : vE 170 86 [l0, l1, l2, l3, l4, l5, l6] (.int b :: .int a :: st) v x ↔ vE 170 87 [l0, l1, l2, l3, l4, l5, l6] (.int (a * b) :: st) v x := vE_s rfl rfl
theorem q170_87 : vE 170 87 [l0, l1, l2, l3, l4, l5, l6] (.int b :: .int a :: st) v x ↔ vE 170 88 [l0, l1, l2, l3, l4, l5, l6] (.int (a + b) :: st) v x := vE_s rfl rfl
theorem q170_88 : vE 170 88 [l0, l1, l2, l3, l4, l5, l6] (.int a :: .ref p :: st) v x ↔ vE 170 89 [l0, l1, l2, l3, l4, l5, l6] (.int (v.1 p a.toNatClampNeg) :: st) v x := vE_s rfl rfl
theorem q170_89 : vE 170 89 [l0, l1, l2, l3, l4, l5, l6] (w0 :: st) v x ↔ ∃ y : vm_Y, vE 173 0 [w0] [] v y ∧ vB 170 89 [l0, l1, l2, l3, l4, l5, l6] st y x := vE_cs rfl rfl rfl rfl
theorem q170_92 : vE 170 92 [l0, l1, l2, .int a, l4, l5, l6] st v x ↔ vE 170 93 [l0, l1, l2, .int a, l4, l5, l6] (.int a :: st) v x := vE_s rfl rfl
theorem q170_93 : vE 170 93 [l0, l1, l2, l3, l4, l5, l6] (.int b :: .int a :: st) v x ↔ vE 170 94 [l0, l1, l2, l3, l4, l5, l6] (.int (a + b) :: st) v x := vE_s rfl rfl
theorem q170_94 : vE 170 94 [l0, l1, l2, l3, l4, l5, l6] (.int b :: .int a :: .ref p :: st) v x ↔ vE 170 95 [l0, l1, l2, l3, l4, l5, l6] st (vm_si v p a.toNatClampNeg b) x := vE_s rfl rfl
theorem q170_95 : vE 170 95 [.ref p, l1, l2, l3, l4, l5, l6] st v x ↔ vE 170 96 [.ref p, l1, l2, l3, l4, l5, l6] (.ref p :: st) v x := vE_s rfl rfl
theorem q170_96 : vE 170 96 [l0, l1, l2, l3, l4, l5, l6] (.ref p :: st) v x ↔ vE 170 99 [l0, l1, l2, l3, l4, l5, l6] (.ref (p + 25) :: st) v x := vE_s rfl rfl
theorem q170_99 : vE 170 99 [l0, l1, .int a, l3, l4, l5, l6] st v x ↔ vE 170 100 [l0, l1, .int a, l3, l4, l5, l6] (.int a :: st) v x := vE_s rfl rfl
theorem q170_100 : vE 170 100 [l0, l1, l2, l3, l4, l5, l6] st v x ↔ vE 170 101 [l0, l1, l2, l3, l4, l5, l6] (.int 0 :: st) v x := vE_s rfl (by rfl)
theorem q170_101 : vE 170 101 [l0, l1, l2, l3, l4, l5, l6] (.int b :: .int a :: .ref p :: st) v x ↔ vE 170 102 [l0, l1, l2, l3, l4, l5, l6] st (vm_si v p a.toNatClampNeg (b &&& 1)) x := vE_s rfl rfl
theorem q170_102 : vE 170 102 [l0, l1, .int a, l3, l4, l5, l6] st v x ↔ vE 170 105 [l0, l1, .int (a + (-1)), l3, l4, l5, l6] st v x := vE_s rfl rfl
theorem q170_105 : vE 170 105 [l0, l1, l2, l3, l4, l5, l6] st v x ↔ vE 170 9 [l0, l1, l2, l3, l4, l5, l6] st v x := vE_s rfl rfl
theorem q170_108 : vE 170 108 [l0, l1, l2, l3, l4, l5, l6] st v x ↔ vE 170 109 [l0, l1, l2, l3, l4, l5, l6] (.int 0 :: st) v x := vE_s rfl (by rfl)
theorem q170_109 : vE 170 109 [l0, l1, l2, l3, l4, l5, l6] (.int a :: st) v x ↔ vE 170 110 [l0, l1, .int a, l3, l4, l5, l6] st v x := vE_s rfl rfl
theorem q170_110 : vE 170 110 [l0, l1, .int a, l3, l4, l5, l6] st v x ↔ vE 170 111 [l0, l1, .int a, l3, l4, l5, l6] (.int a :: st) v x := vE_s rfl rfl
theorem q170_111 : vE 170 111 [.ref p, l1, l2, l3, l4, l5, l6] st v x ↔ vE 170 112 [.ref p, l1, l2, l3, l4, l5, l6] (.ref p :: st) v x := vE_s rfl rfl
theorem q170_112 : vE 170 112 [l0, l1, l2, l3, l4, l5, l6] (.ref p :: st) v x ↔ vE 170 115 [l0, l1, l2, l3, l4, l5, l6] (.ref (p + 2) :: st) v x := vE_s rfl rfl
theorem q170_115 : vE 170 115 [l0, .int a, l2, l3, l4, l5, l6] st v x ↔ vE 170 116 [l0, .int a, l2, l3, l4, l5, l6] (.int a :: st) v x := vE_s rfl rfl
theorem q170_116 : vE 170 116 [l0, l1, l2, l3, l4, l5, l6] (.int a :: .ref p :: st) v x ↔ vE 170 117 [l0, l1, l2, l3, l4, l5, l6] (.int (v.1 p a.toNatClampNeg) :: st) v x := vE_s rfl rfl
theorem q170_117 : vE 170 117 [l0, l1, l2, l3, l4, l5, l6] (.int b :: .int a :: st) v x ↔ if b ≤ a then vE 170 302 [l0, l1, l2, l3, l4, l5, l6] st v x else vE 170 120 [l0, l1, l2, l3, l4, l5, l6] st v x := vE_if rfl rfl
theorem q170_120 : vE 170 120 [l0, l1, l2, l3, l4, l5, l6] st v x ↔ vE 170 121 [l0, l1, l2, l3, l4, l5, l6] (.int (-1) :: st) v x := vE_s rfl (by rfl)
theorem q170_121 : vE 170 121 [l0, l1, l2, l3, l4, l5, l6] (.int a :: st) v x ↔ vE 170 122 [l0, l1, l2, .int a, l4, l5, l6] st v x := vE_s rfl rfl
theorem q170_122 : vE 170 122 [l0, l1, l2, l3, l4, l5, l6] st v x ↔ vE 170 123 [l0, l1, l2, l3, l4, l5, l6] (.int 0 :: st) v x := vE_s rfl (by rfl)
theorem q170_123 : vE 170 123 [l0, l1, l2, l3, l4, l5, l6] (.int a :: st) v x ↔ vE 170 125 [l0, l1, l2, l3, .int a, l5, l6] st v x := vE_s rfl rfl
theorem q170_125 : vE 170 125 [l0, l1, l2, l3, .int a, l5, l6] st v x ↔ vE 170 127 [l0, l1, l2, l3, .int a, l5, l6] (.int a :: st) v x := vE_s rfl rfl
theorem q170_127 : vE 170 127 [.ref p, l1, l2, l3, l4, l5, l6] st v x ↔ vE 170 128 [.ref p, l1, l2, l3, l4, l5, l6] (.ref p :: st) v x := vE_s rfl rfl
theorem q170_128 : vE 170 128 [l0, l1, l2, l3, l4, l5, l6] (.ref p :: st) v x ↔ vE 170 131 [l0, l1, l2, l3, l4, l5, l6] (.ref (p + 2) :: st) v x := vE_s rfl rfl
theorem q170_131 : vE 170 131 [l0, .int a, l2, l3, l4, l5, l6] st v x ↔ vE 170 132 [l0, .int a, l2, l3, l4, l5, l6] (.int a :: st) v x := vE_s rfl rfl
theorem q170_132 : vE 170 132 [l0, l1, l2, l3, l4, l5, l6] (.int a :: .ref p :: st) v x ↔ vE 170 133 [l0, l1, l2, l3, l4, l5, l6] (.int (v.1 p a.toNatClampNeg) :: st) v x := vE_s rfl rfl
theorem q170_133 : vE 170 133 [l0, l1, l2, l3, l4, l5, l6] (.int b :: .int a :: st) v x ↔ if b ≤ a then vE 170 238 [l0, l1, l2, l3, l4, l5, l6] st v x else vE 170 136 [l0, l1, l2, l3, l4, l5, l6] st v x := vE_if rfl rfl
theorem q170_136 : vE 170 136 [.ref p, l1, l2, l3, l4, l5, l6] st v x ↔ vE 170 137 [.ref p, l1, l2, l3, l4, l5, l6] (.ref p :: st) v x := vE_s rfl rfl
theorem q170_137 : vE 170 137 [l0, l1, l2, l3, l4, l5, l6] (.ref p :: st) v x ↔ vE 170 140 [l0, l1, l2, l3, l4, l5, l6] (.ref (p + 25) :: st) v x := vE_s rfl rfl
theorem q170_140 : vE 170 140 [l0, l1, l2, l3, .int a, l5, l6] st v x ↔ vE 170 142 [l0, l1, l2, l3, .int a, l5, l6] (.int a :: st) v x := vE_s rfl rfl
theorem q170_142 : vE 170 142 [l0, l1, l2, l3, l4, l5, l6] (.int a :: .ref p :: st) v x ↔ vE 170 143 [l0, l1, l2, l3, l4, l5, l6] (.int (v.1 p a.toNatClampNeg) :: st) v x := vE_s rfl rfl
theorem q170_143 : vE 170 143 [l0, l1, l2, l3, l4, l5, l6] (.int a :: st) v x ↔ if a = 0 then vE 170 146 [l0, l1, l2, l3, l4, l5, l6] st v x else vE 170 150 [l0, l1, l2, l3, l4, l5, l6] st v x := vE_if rfl rfl
theorem q170_146 : vE 170 146 [l0, l1, l2, l3, l4, l5, l6] st v x ↔ vE 170 147 [l0, l1, l2, l3, l4, l5, l6] (.int 1 :: st) v x := vE_s rfl (by rfl)
theorem q170_147 : vE 170 147 [l0, l1, l2, l3, l4, l5, l6] st v x ↔ vE 170 151 [l0, l1, l2, l3, l4, l5, l6] st v x := vE_s rfl rfl
theorem q170_150 : vE 170 150 [l0, l1, l2, l3, l4, l5, l6] st v x ↔ vE 170 151 [l0, l1, l2, l3, l4, l5, l6] (.int 0 :: st) v x := vE_s rfl (by rfl)
theorem q170_151 : vE 170 151 [l0, l1, l2, l3, l4, l5, l6] (.int a :: st) v x ↔ vE 170 153 [l0, l1, l2, l3, l4, .int a, l6] st v x := vE_s rfl rfl
theorem q170_153 : vE 170 153 [l0, l1, l2, l3, l4, l5, l6] st v x ↔ vE 170 154 [l0, l1, l2, l3, l4, l5, l6] (.int 0 :: st) v x := vE_s rfl (by rfl)
theorem q170_154 : vE 170 154 [l0, l1, l2, l3, l4, l5, l6] (.int a :: st) v x ↔ vE 170 156 [l0, l1, l2, l3, l4, l5, .int a] st v x := vE_s rfl rfl
theorem q170_156 : vE 170 156 [l0, l1, l2, l3, l4, l5, .int a] st v x ↔ vE 170 158 [l0, l1, l2, l3, l4, l5, .int a] (.int a :: st) v x := vE_s rfl rfl
theorem q170_158 : vE 170 158 [l0, l1, l2, l3, .int a, l5, l6] st v x ↔ vE 170 160 [l0, l1, l2, l3, .int a, l5, l6] (.int a :: st) v x := vE_s rfl rfl
theorem q170_160 : vE 170 160 [l0, l1, l2, l3, l4, l5, l6] (.int b :: .int a :: st) v x ↔ if b ≤ a then vE 170 203 [l0, l1, l2, l3, l4, l5, l6] st v x else vE 170 163 [l0, l1, l2, l3, l4, l5, l6] st v x := vE_if rfl rfl
theorem q170_163 : vE 170 163 [l0, l1, l2, l3, l4, .int a, l6] st v x ↔ vE 170 165 [l0, l1, l2, l3, l4, .int a, l6] (.int a :: st) v x := vE_s rfl rfl
theorem q170_165 : vE 170 165 [l0, l1, l2, l3, l4, l5, l6] (.int a :: st) v x ↔ if a = 0 then vE 170 194 [l0, l1, l2, l3, l4, l5, l6] st v x else vE 170 168 [l0, l1, l2, l3, l4, l5, l6] st v x := vE_if rfl rfl
theorem q170_168 : vE 170 168 [.ref p, l1, l2, l3, l4, l5, l6] st v x ↔ vE 170 169 [.ref p, l1, l2, l3, l4, l5, l6] (.ref p :: st) v x := vE_s rfl rfl
theorem q170_169 : vE 170 169 [l0, l1, l2, l3, l4, l5, l6] (.ref p :: st) v x ↔ vE 170 172 [l0, l1, l2, l3, l4, l5, l6] (.ref (p + 25) :: st) v x := vE_s rfl rfl
theorem q170_172 : vE 170 172 [l0, l1, l2, l3, l4, l5, .int a] st v x ↔ vE 170 174 [l0, l1, l2, l3, l4, l5, .int a] (.int a :: st) v x := vE_s rfl rfl
theorem q170_174 : vE 170 174 [l0, l1, l2, l3, l4, l5, l6] (.int a :: .ref p :: st) v x ↔ vE 170 175 [l0, l1, l2, l3, l4, l5, l6] (.int (v.1 p a.toNatClampNeg) :: st) v x := vE_s rfl rfl
theorem q170_175 : vE 170 175 [l0, l1, l2, l3, l4, l5, l6] (.int a :: st) v x ↔ if a = 0 then vE 170 178 [l0, l1, l2, l3, l4, l5, l6] st v x else vE 170 190 [l0, l1, l2, l3, l4, l5, l6] st v x := vE_if rfl rfl
theorem q170_178 : vE 170 178 [.ref p, l1, l2, l3, l4, l5, l6] st v x ↔ vE 170 179 [.ref p, l1, l2, l3, l4, l5, l6] (.ref p :: st) v x := vE_s rfl rfl
theorem q170_179 : vE 170 179 [l0, .int a, l2, l3, l4, l5, l6] st v x ↔ vE 170 180 [l0, .int a, l2, l3, l4, l5, l6] (.int a :: st) v x := vE_s rfl rfl
theorem q170_180 : vE 170 180 [l0, l1, l2, l3, .int a, l5, l6] st v x ↔ vE 170 182 [l0, l1, l2, l3, .int a, l5, l6] (.int a :: st) v x := vE_s rfl rfl
theorem q170_182 : vE 170 182 [l0, l1, l2, l3, l4, l5, .int a] st v x ↔ vE 170 184 [l0, l1, l2, l3, l4, l5, .int a] (.int a :: st) v x := vE_s rfl rfl
theorem q170_184 : vE 170 184 [l0, l1, l2, l3, l4, l5, l6] (w3 :: w2 :: w1 :: w0 :: st) v x ↔ ∃ y : vm_Y, vE 171 0 [w0, w1, w2, w3, .retAddr 0, .retAddr 0] [] v y ∧ vB 170 184 [l0, l1, l2, l3, l4, l5, l6] st y x := vE_cv rfl rfl rfl rfl
theorem q170_187 : vE 170 187 [l0, l1, l2, l3, l4, l5, l6] (.int a :: st) v x ↔ if a = 0 then vE 170 190 [l0, l1, l2, l3, l4, l5, l6] st v x else vE 170 194 [l0, l1, l2, l3, l4, l5, l6] st v x := vE_if rfl rfl
theorem q170_190 : vE 170 190 [l0, l1, l2, l3, l4, l5, l6] st v x ↔ vE 170 191 [l0, l1, l2, l3, l4, l5, l6] (.int 1 :: st) v x := vE_s rfl (by rfl)
theorem q170_191 : vE 170 191 [l0, l1, l2, l3, l4, l5, l6] st v x ↔ vE 170 195 [l0, l1, l2, l3, l4, l5, l6] st v x := vE_s rfl rfl
theorem q170_194 : vE 170 194 [l0, l1, l2, l3, l4, l5, l6] st v x ↔ vE 170 195 [l0, l1, l2, l3, l4, l5, l6] (.int 0 :: st) v x := vE_s rfl (by rfl)
theorem q170_195 : vE 170 195 [l0, l1, l2, l3, l4, l5, l6] (.int a :: st) v x ↔ vE 170 197 [l0, l1, l2, l3, l4, .int a, l6] st v x := vE_s rfl rfl
theorem q170_197 : vE 170 197 [l0, l1, l2, l3, l4, l5, .int a] st v x ↔ vE 170 200 [l0, l1, l2, l3, l4, l5, .int (a + 1)] st v x := vE_s rfl rfl
theorem q170_200 : vE 170 200 [l0, l1, l2, l3, l4, l5, l6] st v x ↔ vE 170 156 [l0, l1, l2, l3, l4, l5, l6] st v x := vE_s rfl rfl
theorem q170_203 : vE 170 203 [l0, l1, l2, l3, l4, .int a, l6] st v x ↔ vE 170 205 [l0, l1, l2, l3, l4, .int a, l6] (.int a :: st) v x := vE_s rfl rfl
theorem q170_205 : vE 170 205 [l0, l1, l2, l3, l4, l5, l6] (.int a :: st) v x ↔ if a = 0 then vE 170 232 [l0, l1, l2, l3, l4, l5, l6] st v x else vE 170 208 [l0, l1, l2, l3, l4, l5, l6] st v x := vE_if rfl rfl
theorem q170_208 : vE 170 208 [l0, l1, l2, .int a, l4, l5, l6] st v x ↔ vE 170 209 [l0, l1, l2, .int a, l4, l5, l6] (.int a :: st) v x := vE_s rfl rfl
theorem q170_209 : vE 170 209 [l0, l1, l2, l3, l4, l5, l6] st v x ↔ vE 170 210 [l0, l1, l2, l3, l4, l5, l6] (.int (-1) :: st) v x := vE_s rfl (by rfl)
theorem q170_210 : vE 170 210 [l0, l1, l2, l3, l4, l5, l6] (.int b :: .int a :: st) v x ↔ if a = b then vE 170 229 [l0, l1, l2, l3, l4, l5, l6] st v x else vE 170 213 [l0, l1, l2, l3, l4, l5, l6] st v x := vE_if rfl rfl
theorem q170_213 : vE 170 213 [.ref p, l1, l2, l3, l4, l5, l6] st v x ↔ vE 170 214 [.ref p, l1, l2, l3, l4, l5, l6] (.ref p :: st) v x := vE_s rfl rfl
theorem q170_214 : vE 170 214 [l0, l1, l2, l3, l4, l5, l6] (.ref p :: st) v x ↔ vE 170 217 [l0, l1, l2, l3, l4, l5, l6] (.ref (p + 24) :: st) v x := vE_s rfl rfl
theorem q170_217 : vE 170 217 [l0, l1, l2, l3, .int a, l5, l6] st v x ↔ vE 170 219 [l0, l1, l2, l3, .int a, l5, l6] (.int a :: st) v x := vE_s rfl rfl
theorem q170_219 : vE 170 219 [l0, l1, l2, l3, l4, l5, l6] (.int a :: .ref p :: st) v x ↔ vE 170 220 [l0, l1, l2, l3, l4, l5, l6] (.int (v.1 p a.toNatClampNeg) :: st) v x := vE_s rfl rfl
theorem q170_220 : vE 170 220 [.ref p, l1, l2, l3, l4, l5, l6] st v x ↔ vE 170 221 [.ref p, l1, l2, l3, l4, l5, l6] (.ref p :: st) v x := vE_s rfl rfl
theorem q170_221 : vE 170 221 [l0, l1, l2, l3, l4, l5, l6] (.ref p :: st) v x ↔ vE 170 224 [l0, l1, l2, l3, l4, l5, l6] (.ref (p + 24) :: st) v x := vE_s rfl rfl
theorem q170_224 : vE 170 224 [l0, l1, l2, .int a, l4, l5, l6] st v x ↔ vE 170 225 [l0, l1, l2, .int a, l4, l5, l6] (.int a :: st) v x := vE_s rfl rfl
theorem q170_225 : vE 170 225 [l0, l1, l2, l3, l4, l5, l6] (.int a :: .ref p :: st) v x ↔ vE 170 226 [l0, l1, l2, l3, l4, l5, l6] (.int (v.1 p a.toNatClampNeg) :: st) v x := vE_s rfl rfl
theorem q170_226 : vE 170 226 [l0, l1, l2, l3, l4, l5, l6] (.int b :: .int a :: st) v x ↔ if a ≤ b then vE 170 232 [l0, l1, l2, l3, l4, l5, l6] st v x else vE 170 229 [l0, l1, l2, l3, l4, l5, l6] st v x := vE_if rfl rfl
theorem q170_229 : vE 170 229 [l0, l1, l2, l3, .int a, l5, l6] st v x ↔ vE 170 231 [l0, l1, l2, l3, .int a, l5, l6] (.int a :: st) v x := vE_s rfl rfl
theorem q170_231 : vE 170 231 [l0, l1, l2, l3, l4, l5, l6] (.int a :: st) v x ↔ vE 170 232 [l0, l1, l2, .int a, l4, l5, l6] st v x := vE_s rfl rfl
theorem q170_232 : vE 170 232 [l0, l1, l2, l3, .int a, l5, l6] st v x ↔ vE 170 235 [l0, l1, l2, l3, .int (a + 1), l5, l6] st v x := vE_s rfl rfl
theorem q170_235 : vE 170 235 [l0, l1, l2, l3, l4, l5, l6] st v x ↔ vE 170 125 [l0, l1, l2, l3, l4, l5, l6] st v x := vE_s rfl rfl
theorem q170_238 : vE 170 238 [.ref p, l1, l2, l3, l4, l5, l6] st v x ↔ vE 170 239 [.ref p, l1, l2, l3, l4, l5, l6] (.ref p :: st) v x := vE_s rfl rfl
theorem q170_239 : vE 170 239 [l0, l1, l2, l3, l4, l5, l6] (.ref p :: st) v x ↔ vE 170 242 [l0, l1, l2, l3, l4, l5, l6] (.ref (p + 25) :: st) v x := vE_s rfl rfl
theorem q170_242 : vE 170 242 [l0, l1, l2, .int a, l4, l5, l6] st v x ↔ vE 170 243 [l0, l1, l2, .int a, l4, l5, l6] (.int a :: st) v x := vE_s rfl rfl
theorem q170_243 : vE 170 243 [l0, l1, l2, l3, l4, l5, l6] st v x ↔ vE 170 244 [l0, l1, l2, l3, l4, l5, l6] (.int 1 :: st) v x := vE_s rfl (by rfl)
theorem q170_244 : vE 170 244 [l0, l1, l2, l3, l4, l5, l6] (.int b :: .int a :: .ref p :: st) v x ↔ vE 170 245 [l0, l1, l2, l3, l4, l5, l6] st (vm_si v p a.toNatClampNeg (b &&& 1)) x := vE_s rfl rfl
theorem q170_245 : vE 170 245 [l0, l1, l2, l3, l4, l5, l6] st v x ↔ vE 170 246 [l0, l1, l2, l3, l4, l5, l6] (.int 0 :: st) v x := vE_s rfl (by rfl)
theorem q170_246 : vE 170 246 [l0, l1, l2, l3, l4, l5, l6] (.int a :: st) v x ↔ vE 170 248 [l0, l1, l2, l3, .int a, l5, l6] st v x := vE_s rfl rfl
theorem q170_248 : vE 170 248 [l0, l1, l2, l3, .int a, l5, l6] st v x ↔ vE 170 250 [l0, l1, l2, l3, .int a, l5, l6] (.int a :: st) v x := vE_s rfl rfl
theorem q170_250 : vE 170 250 [l0, l1, l2, l3, l4, l5, l6] st v x ↔ vE 170 251 [l0, l1, l2, l3, l4, l5, l6] (.int 4 :: st) v x := vE_s rfl (by rfl)
theorem q170_251 : vE 170 251 [l0, l1, l2, l3, l4, l5, l6] (.int b :: .int a :: st) v x ↔ if b ≤ a then vE 170 296 [l0, l1, l2, l3, l4, l5, l6] st v x else vE 170 254 [l0, l1, l2, l3, l4, l5, l6] st v x := vE_if rfl rfl
theorem q170_254 : vE 170 254 [.ref p, l1, l2, l3, l4, l5, l6] st v x ↔ vE 170 255 [.ref p, l1, l2, l3, l4, l5, l6] (.ref p :: st) v x := vE_s rfl rfl
theorem q170_255 : vE 170 255 [l0, l1, l2, l3, l4, l5, l6] (.ref p :: st) v x ↔ vE 170 258 [l0, l1, l2, l3, l4, l5, l6] (.ref (p + 3) :: st) v x := vE_s rfl rfl
theorem q170_258 : vE 170 258 [l0, l1, l2, l3, l4, l5, l6] st v x ↔ vE 170 261 [l0, l1, l2, l3, l4, l5, l6] (.int 192 :: st) v x := vE_s rfl (by rfl)
theorem q170_261 : vE 170 261 [l0, l1, l2, l3, l4, l5, l6] st v x ↔ vE 170 263 [l0, l1, l2, l3, l4, l5, l6] (.int 32 :: st) v x := vE_s rfl (by rfl)
theorem q170_263 : vE 170 263 [l0, .int a, l2, l3, l4, l5, l6] st v x ↔ vE 170 264 [l0, .int a, l2, l3, l4, l5, l6] (.int a :: st) v x := vE_s rfl rfl
theorem q170_264 : vE 170 264 [l0, l1, l2, l3, l4, l5, l6] (.int b :: .int a :: st) v x ↔ vE 170 265 [l0, l1, l2, l3, l4, l5, l6] (.int (a * b) :: st) v x := vE_s rfl rfl
theorem q170_265 : vE 170 265 [l0, l1, l2, l3, l4, l5, l6] (.int b :: .int a :: st) v x ↔ vE 170 266 [l0, l1, l2, l3, l4, l5, l6] (.int (a + b) :: st) v x := vE_s rfl rfl
theorem q170_266 : vE 170 266 [l0, l1, l2, l3, l4, l5, l6] st v x ↔ vE 170 267 [l0, l1, l2, l3, l4, l5, l6] (.int 4 :: st) v x := vE_s rfl (by rfl)
theorem q170_267 : vE 170 267 [l0, l1, .int a, l3, l4, l5, l6] st v x ↔ vE 170 268 [l0, l1, .int a, l3, l4, l5, l6] (.int a :: st) v x := vE_s rfl rfl
theorem q170_268 : vE 170 268 [l0, l1, l2, l3, l4, l5, l6] (.int b :: .int a :: st) v x ↔ vE 170 269 [l0, l1, l2, l3, l4, l5, l6] (.int (a * b) :: st) v x := vE_s rfl rfl
theorem q170_269 : vE 170 269 [l0, l1, l2, l3, l4, l5, l6] (.int b :: .int a :: st) v x ↔ vE 170 270 [l0, l1, l2, l3, l4, l5, l6] (.int (a + b) :: st) v x := vE_s rfl rfl
theorem q170_270 : vE 170 270 [l0, l1, l2, l3, .int a, l5, l6] st v x ↔ vE 170 272 [l0, l1, l2, l3, .int a, l5, l6] (.int a :: st) v x := vE_s rfl rfl
theorem q170_272 : vE 170 272 [l0, l1, l2, l3, l4, l5, l6] (.int b :: .int a :: st) v x ↔ vE 170 273 [l0, l1, l2, l3, l4, l5, l6] (.int (a + b) :: st) v x := vE_s rfl rfl
theorem q170_273 : vE 170 273 [.ref p, l1, l2, l3, l4, l5, l6] st v x ↔ vE 170 274 [.ref p, l1, l2, l3, l4, l5, l6] (.ref p :: st) v x := vE_s rfl rfl
theorem q170_274 : vE 170 274 [l0, l1, l2, l3, l4, l5, l6] (.ref p :: st) v x ↔ vE 170 277 [l0, l1, l2, l3, l4, l5, l6] (.ref (p + 3) :: st) v x := vE_s rfl rfl
theorem q170_277 : vE 170 277 [l0, l1, l2, l3, l4, l5, l6] st v x ↔ vE 170 279 [l0, l1, l2, l3, l4, l5, l6] (.int 32 :: st) v x := vE_s rfl (by rfl)
theorem q170_279 : vE 170 279 [l0, .int a, l2, l3, l4, l5, l6] st v x ↔ vE 170 280 [l0, .int a, l2, l3, l4, l5, l6] (.int a :: st) v x := vE_s rfl rfl
theorem q170_280 : vE 170 280 [l0, l1, l2, l3, l4, l5, l6] (.int b :: .int a :: st) v x ↔ vE 170 281 [l0, l1, l2, l3, l4, l5, l6] (.int (a * b) :: st) v x := vE_s rfl rfl
theorem q170_281 : vE 170 281 [l0, l1, l2, l3, l4, l5, l6] st v x ↔ vE 170 282 [l0, l1, l2, l3, l4, l5, l6] (.int 4 :: st) v x := vE_s rfl (by rfl)
theorem q170_282 : vE 170 282 [l0, l1, l2, .int a, l4, l5, l6] st v x ↔ vE 170 283 [l0, l1, l2, .int a, l4, l5, l6] (.int a :: st) v x := vE_s rfl rfl
theorem q170_283 : vE 170 283 [l0, l1, l2, l3, l4, l5, l6] (.int b :: .int a :: st) v x ↔ vE 170 284 [l0, l1, l2, l3, l4, l5, l6] (.int (a * b) :: st) v x := vE_s rfl rfl
theorem q170_284 : vE 170 284 [l0, l1, l2, l3, l4, l5, l6] (.int b :: .int a :: st) v x ↔ vE 170 285 [l0, l1, l2, l3, l4, l5, l6] (.int (a + b) :: st) v x := vE_s rfl rfl
theorem q170_285 : vE 170 285 [l0, l1, l2, l3, .int a, l5, l6] st v x ↔ vE 170 287 [l0, l1, l2, l3, .int a, l5, l6] (.int a :: st) v x := vE_s rfl rfl
theorem q170_287 : vE 170 287 [l0, l1, l2, l3, l4, l5, l6] (.int b :: .int a :: st) v x ↔ vE 170 288 [l0, l1, l2, l3, l4, l5, l6] (.int (a + b) :: st) v x := vE_s rfl rfl
theorem q170_288 : vE 170 288 [l0, l1, l2, l3, l4, l5, l6] (.int a :: .ref p :: st) v x ↔ vE 170 289 [l0, l1, l2, l3, l4, l5, l6] (.int (v.1 p a.toNatClampNeg) :: st) v x := vE_s rfl rfl
theorem q170_289 : vE 170 289 [l0, l1, l2, l3, l4, l5, l6] (.int b :: .int a :: .ref p :: st) v x ↔ vE 170 290 [l0, l1, l2, l3, l4, l5, l6] st (vm_si v p a.toNatClampNeg b) x := vE_s rfl rfl
theorem q170_290 : vE 170 290 [l0, l1, l2, l3, .int a, l5, l6] st v x ↔ vE 170 293 [l0, l1, l2, l3, .int (a + 1), l5, l6] st v x := vE_s rfl rfl
theorem q170_293 : vE 170 293 [l0, l1, l2, l3, l4, l5, l6] st v x ↔ vE 170 248 [l0, l1, l2, l3, l4, l5, l6] st v x := vE_s rfl rfl
theorem q170_296 : vE 170 296 [l0, l1, .int a, l3, l4, l5, l6] st v x ↔ vE 170 299 [l0, l1, .int (a + 1), l3, l4, l5, l6] st v x := vE_s rfl rfl
theorem q170_299 : vE 170 299 [l0, l1, l2, l3, l4, l5, l6] st v x ↔ vE 170 110 [l0, l1, l2, l3, l4, l5, l6] st v x := vE_s rfl rfl
theorem q170_302 : vE 170 302 [l0, l1, l2, l3, l4, l5, l6] [] v x ↔ x = vd v := vE_vr rfl
theorem qt170 {X pc : Nat} {L r : List Value} : vB 170 pc L r (vt X v) x ↔ x = vt X v := vB_t rfl
/-! 171 PassCheckerModel.depends(III)Z -/
theorem q171_0 : vE 171 0 [.ref p, l1, l2, l3, l4, l5] st v x ↔ vE 171 1 [.ref p, l1, l2, l3, l4, l5] (.ref p :: st) v x := vE_s rfl rfl
theorem q171_1 : vE 171 1 [l0, l1, l2, l3, l4, l5] (.ref p :: st) v x ↔ vE 171 4 [l0, l1, l2, l3, l4, l5] (.ref (p + 3) :: st) v x := vE_s rfl rfl
theorem q171_4 : vE 171 4 [l0, l1, l2, l3, l4, l5] st v x ↔ vE 171 6 [l0, l1, l2, l3, l4, l5] (.int 32 :: st) v x := vE_s rfl (by rfl)
theorem q171_6 : vE 171 6 [l0, .int a, l2, l3, l4, l5] st v x ↔ vE 171 7 [l0, .int a, l2, l3, l4, l5] (.int a :: st) v x := vE_s rfl rfl
theorem q171_7 : vE 171 7 [l0, l1, l2, l3, l4, l5] (.int b :: .int a :: st) v x ↔ vE 171 8 [l0, l1, l2, l3, l4, l5] (.int (a * b) :: st) v x := vE_s rfl rfl
theorem q171_8 : vE 171 8 [l0, l1, l2, l3, l4, l5] st v x ↔ vE 171 9 [l0, l1, l2, l3, l4, l5] (.int 4 :: st) v x := vE_s rfl (by rfl)
theorem q171_9 : vE 171 9 [l0, l1, .int a, l3, l4, l5] st v x ↔ vE 171 10 [l0, l1, .int a, l3, l4, l5] (.int a :: st) v x := vE_s rfl rfl
theorem q171_10 : vE 171 10 [l0, l1, l2, l3, l4, l5] (.int b :: .int a :: st) v x ↔ vE 171 11 [l0, l1, l2, l3, l4, l5] (.int (a * b) :: st) v x := vE_s rfl rfl
theorem q171_11 : vE 171 11 [l0, l1, l2, l3, l4, l5] (.int b :: .int a :: st) v x ↔ vE 171 12 [l0, l1, l2, l3, l4, l5] (.int (a + b) :: st) v x := vE_s rfl rfl
theorem q171_12 : vE 171 12 [l0, l1, l2, l3, l4, l5] (.int a :: .ref p :: st) v x ↔ vE 171 13 [l0, l1, l2, l3, l4, l5] (.int (v.1 p a.toNatClampNeg) :: st) v x := vE_s rfl rfl
theorem q171_13 : vE 171 13 [l0, l1, l2, l3, l4, l5] st v x ↔ vE 171 15 [l0, l1, l2, l3, l4, l5] (.int 7 :: st) v x := vE_s rfl (by rfl)
theorem q171_15 : vE 171 15 [l0, l1, l2, l3, l4, l5] (.int b :: .int a :: st) v x ↔ if a < b then vE 171 40 [l0, l1, l2, l3, l4, l5] st v x else vE 171 18 [l0, l1, l2, l3, l4, l5] st v x := vE_if rfl rfl
theorem q171_18 : vE 171 18 [.ref p, l1, l2, l3, l4, l5] st v x ↔ vE 171 19 [.ref p, l1, l2, l3, l4, l5] (.ref p :: st) v x := vE_s rfl rfl
theorem q171_19 : vE 171 19 [l0, l1, l2, l3, l4, l5] (.ref p :: st) v x ↔ vE 171 22 [l0, l1, l2, l3, l4, l5] (.ref (p + 3) :: st) v x := vE_s rfl rfl
theorem q171_22 : vE 171 22 [l0, l1, l2, l3, l4, l5] st v x ↔ vE 171 24 [l0, l1, l2, l3, l4, l5] (.int 32 :: st) v x := vE_s rfl (by rfl)
theorem q171_24 : vE 171 24 [l0, .int a, l2, l3, l4, l5] st v x ↔ vE 171 25 [l0, .int a, l2, l3, l4, l5] (.int a :: st) v x := vE_s rfl rfl
theorem q171_25 : vE 171 25 [l0, l1, l2, l3, l4, l5] (.int b :: .int a :: st) v x ↔ vE 171 26 [l0, l1, l2, l3, l4, l5] (.int (a * b) :: st) v x := vE_s rfl rfl
theorem q171_26 : vE 171 26 [l0, l1, l2, l3, l4, l5] st v x ↔ vE 171 27 [l0, l1, l2, l3, l4, l5] (.int 4 :: st) v x := vE_s rfl (by rfl)
theorem q171_27 : vE 171 27 [l0, l1, l2, .int a, l4, l5] st v x ↔ vE 171 28 [l0, l1, l2, .int a, l4, l5] (.int a :: st) v x := vE_s rfl rfl
theorem q171_28 : vE 171 28 [l0, l1, l2, l3, l4, l5] (.int b :: .int a :: st) v x ↔ vE 171 29 [l0, l1, l2, l3, l4, l5] (.int (a * b) :: st) v x := vE_s rfl rfl
theorem q171_29 : vE 171 29 [l0, l1, l2, l3, l4, l5] (.int b :: .int a :: st) v x ↔ vE 171 30 [l0, l1, l2, l3, l4, l5] (.int (a + b) :: st) v x := vE_s rfl rfl
theorem q171_30 : vE 171 30 [l0, l1, l2, l3, l4, l5] (.int a :: .ref p :: st) v x ↔ vE 171 31 [l0, l1, l2, l3, l4, l5] (.int (v.1 p a.toNatClampNeg) :: st) v x := vE_s rfl rfl
theorem q171_31 : vE 171 31 [l0, l1, l2, l3, l4, l5] st v x ↔ vE 171 33 [l0, l1, l2, l3, l4, l5] (.int 7 :: st) v x := vE_s rfl (by rfl)
theorem q171_33 : vE 171 33 [l0, l1, l2, l3, l4, l5] (.int b :: .int a :: st) v x ↔ if a < b then vE 171 40 [l0, l1, l2, l3, l4, l5] st v x else vE 171 36 [l0, l1, l2, l3, l4, l5] st v x := vE_if rfl rfl
theorem q171_36 : vE 171 36 [l0, l1, l2, l3, l4, l5] st v x ↔ vE 171 37 [l0, l1, l2, l3, l4, l5] (.int 1 :: st) v x := vE_s rfl (by rfl)
theorem q171_37 : vE 171 37 [l0, l1, l2, l3, l4, l5] st v x ↔ vE 171 41 [l0, l1, l2, l3, l4, l5] st v x := vE_s rfl rfl
theorem q171_40 : vE 171 40 [l0, l1, l2, l3, l4, l5] st v x ↔ vE 171 41 [l0, l1, l2, l3, l4, l5] (.int 0 :: st) v x := vE_s rfl (by rfl)
theorem q171_41 : vE 171 41 [l0, l1, l2, l3, l4, l5] (.int a :: st) v x ↔ vE 171 43 [l0, l1, l2, l3, .int a, l5] st v x := vE_s rfl rfl
theorem q171_43 : vE 171 43 [l0, l1, l2, l3, l4, l5] st v x ↔ vE 171 44 [l0, l1, l2, l3, l4, l5] (.int 0 :: st) v x := vE_s rfl (by rfl)
theorem q171_44 : vE 171 44 [l0, l1, l2, l3, l4, l5] (.int a :: st) v x ↔ vE 171 46 [l0, l1, l2, l3, l4, .int a] st v x := vE_s rfl rfl
theorem q171_46 : vE 171 46 [l0, l1, l2, l3, l4, .int a] st v x ↔ vE 171 48 [l0, l1, l2, l3, l4, .int a] (.int a :: st) v x := vE_s rfl rfl
theorem q171_48 : vE 171 48 [l0, l1, l2, l3, l4, l5] st v x ↔ vE 171 50 [l0, l1, l2, l3, l4, l5] (.int 6 :: st) v x := vE_s rfl (by rfl)
theorem q171_50 : vE 171 50 [l0, l1, l2, l3, l4, l5] (.int b :: .int a :: st) v x ↔ if b ≤ a then vE 171 115 [l0, l1, l2, l3, l4, l5] st v x else vE 171 53 [l0, l1, l2, l3, l4, l5] st v x := vE_if rfl rfl
theorem q171_53 : vE 171 53 [l0, l1, l2, l3, .int a, l5] st v x ↔ vE 171 55 [l0, l1, l2, l3, .int a, l5] (.int a :: st) v x := vE_s rfl rfl
theorem q171_55 : vE 171 55 [l0, l1, l2, l3, l4, l5] (.int a :: st) v x ↔ if a = 0 then vE 171 58 [l0, l1, l2, l3, l4, l5] st v x else vE 171 102 [l0, l1, l2, l3, l4, l5] st v x := vE_if rfl rfl
theorem q171_58 : vE 171 58 [.ref p, l1, l2, l3, l4, l5] st v x ↔ vE 171 59 [.ref p, l1, l2, l3, l4, l5] (.ref p :: st) v x := vE_s rfl rfl
theorem q171_59 : vE 171 59 [l0, .int a, l2, l3, l4, l5] st v x ↔ vE 171 60 [l0, .int a, l2, l3, l4, l5] (.int a :: st) v x := vE_s rfl rfl
theorem q171_60 : vE 171 60 [l0, l1, l2, .int a, l4, l5] st v x ↔ vE 171 61 [l0, l1, l2, .int a, l4, l5] (.int a :: st) v x := vE_s rfl rfl
theorem q171_61 : vE 171 61 [l0, l1, l2, l3, l4, .int a] st v x ↔ vE 171 63 [l0, l1, l2, l3, l4, .int a] (.int a :: st) v x := vE_s rfl rfl
theorem q171_63 : vE 171 63 [l0, l1, l2, l3, l4, l5] (w3 :: w2 :: w1 :: w0 :: st) v x ↔ ∃ y : vm_Y, vE 169 0 [w0, w1, w2, w3, .retAddr 0] [] v y ∧ vB 171 63 [l0, l1, l2, l3, l4, l5] st y x := vE_cv rfl rfl rfl rfl
theorem q171_66 : vE 171 66 [l0, l1, l2, l3, l4, l5] (.int a :: st) v x ↔ if a = 0 then vE 171 80 [l0, l1, l2, l3, l4, l5] st v x else vE 171 69 [l0, l1, l2, l3, l4, l5] st v x := vE_if rfl rfl
theorem q171_69 : vE 171 69 [.ref p, l1, l2, l3, l4, l5] st v x ↔ vE 171 70 [.ref p, l1, l2, l3, l4, l5] (.ref p :: st) v x := vE_s rfl rfl
theorem q171_70 : vE 171 70 [l0, .int a, l2, l3, l4, l5] st v x ↔ vE 171 71 [l0, .int a, l2, l3, l4, l5] (.int a :: st) v x := vE_s rfl rfl
theorem q171_71 : vE 171 71 [l0, l1, .int a, l3, l4, l5] st v x ↔ vE 171 72 [l0, l1, .int a, l3, l4, l5] (.int a :: st) v x := vE_s rfl rfl
theorem q171_72 : vE 171 72 [l0, l1, l2, l3, l4, .int a] st v x ↔ vE 171 74 [l0, l1, l2, l3, l4, .int a] (.int a :: st) v x := vE_s rfl rfl
theorem q171_74 : vE 171 74 [l0, l1, l2, l3, l4, l5] (w3 :: w2 :: w1 :: w0 :: st) v x ↔ ∃ y : vm_Y, vE 172 0 [w0, w1, w2, w3, .retAddr 0] [] v y ∧ vB 171 74 [l0, l1, l2, l3, l4, l5] st y x := vE_cv rfl rfl rfl rfl
theorem q171_77 : vE 171 77 [l0, l1, l2, l3, l4, l5] (.int a :: st) v x ↔ if a = 0 then vE 171 80 [l0, l1, l2, l3, l4, l5] st v x else vE 171 102 [l0, l1, l2, l3, l4, l5] st v x := vE_if rfl rfl
theorem q171_80 : vE 171 80 [.ref p, l1, l2, l3, l4, l5] st v x ↔ vE 171 81 [.ref p, l1, l2, l3, l4, l5] (.ref p :: st) v x := vE_s rfl rfl
theorem q171_81 : vE 171 81 [l0, .int a, l2, l3, l4, l5] st v x ↔ vE 171 82 [l0, .int a, l2, l3, l4, l5] (.int a :: st) v x := vE_s rfl rfl
theorem q171_82 : vE 171 82 [l0, l1, .int a, l3, l4, l5] st v x ↔ vE 171 83 [l0, l1, .int a, l3, l4, l5] (.int a :: st) v x := vE_s rfl rfl
theorem q171_83 : vE 171 83 [l0, l1, l2, l3, l4, .int a] st v x ↔ vE 171 85 [l0, l1, l2, l3, l4, .int a] (.int a :: st) v x := vE_s rfl rfl
theorem q171_85 : vE 171 85 [l0, l1, l2, l3, l4, l5] (w3 :: w2 :: w1 :: w0 :: st) v x ↔ ∃ y : vm_Y, vE 169 0 [w0, w1, w2, w3, .retAddr 0] [] v y ∧ vB 171 85 [l0, l1, l2, l3, l4, l5] st y x := vE_cv rfl rfl rfl rfl
theorem q171_88 : vE 171 88 [l0, l1, l2, l3, l4, l5] (.int a :: st) v x ↔ if a = 0 then vE 171 106 [l0, l1, l2, l3, l4, l5] st v x else vE 171 91 [l0, l1, l2, l3, l4, l5] st v x := vE_if rfl rfl
theorem q171_91 : vE 171 91 [.ref p, l1, l2, l3, l4, l5] st v x ↔ vE 171 92 [.ref p, l1, l2, l3, l4, l5] (.ref p :: st) v x := vE_s rfl rfl
theorem q171_92 : vE 171 92 [l0, .int a, l2, l3, l4, l5] st v x ↔ vE 171 93 [l0, .int a, l2, l3, l4, l5] (.int a :: st) v x := vE_s rfl rfl
theorem q171_93 : vE 171 93 [l0, l1, l2, .int a, l4, l5] st v x ↔ vE 171 94 [l0, l1, l2, .int a, l4, l5] (.int a :: st) v x := vE_s rfl rfl
theorem q171_94 : vE 171 94 [l0, l1, l2, l3, l4, .int a] st v x ↔ vE 171 96 [l0, l1, l2, l3, l4, .int a] (.int a :: st) v x := vE_s rfl rfl
theorem q171_96 : vE 171 96 [l0, l1, l2, l3, l4, l5] (w3 :: w2 :: w1 :: w0 :: st) v x ↔ ∃ y : vm_Y, vE 172 0 [w0, w1, w2, w3, .retAddr 0] [] v y ∧ vB 171 96 [l0, l1, l2, l3, l4, l5] st y x := vE_cv rfl rfl rfl rfl
theorem q171_99 : vE 171 99 [l0, l1, l2, l3, l4, l5] (.int a :: st) v x ↔ if a = 0 then vE 171 106 [l0, l1, l2, l3, l4, l5] st v x else vE 171 102 [l0, l1, l2, l3, l4, l5] st v x := vE_if rfl rfl
theorem q171_102 : vE 171 102 [l0, l1, l2, l3, l4, l5] st v x ↔ vE 171 103 [l0, l1, l2, l3, l4, l5] (.int 1 :: st) v x := vE_s rfl (by rfl)
theorem q171_103 : vE 171 103 [l0, l1, l2, l3, l4, l5] st v x ↔ vE 171 107 [l0, l1, l2, l3, l4, l5] st v x := vE_s rfl rfl
theorem q171_106 : vE 171 106 [l0, l1, l2, l3, l4, l5] st v x ↔ vE 171 107 [l0, l1, l2, l3, l4, l5] (.int 0 :: st) v x := vE_s rfl (by rfl)
theorem q171_107 : vE 171 107 [l0, l1, l2, l3, l4, l5] (.int a :: st) v x ↔ vE 171 109 [l0, l1, l2, l3, .int a, l5] st v x := vE_s rfl rfl
theorem q171_109 : vE 171 109 [l0, l1, l2, l3, l4, .int a] st v x ↔ vE 171 112 [l0, l1, l2, l3, l4, .int (a + 1)] st v x := vE_s rfl rfl
theorem q171_112 : vE 171 112 [l0, l1, l2, l3, l4, l5] st v x ↔ vE 171 46 [l0, l1, l2, l3, l4, l5] st v x := vE_s rfl rfl
theorem q171_115 : vE 171 115 [l0, l1, l2, l3, .int a, l5] st v x ↔ vE 171 117 [l0, l1, l2, l3, .int a, l5] (.int a :: st) v x := vE_s rfl rfl
theorem q171_117 : vE 171 117 [l0, l1, l2, l3, l4, l5] ([.int a]) v x ↔ x = vr a v := vE_ir rfl
theorem qt171 {X pc : Nat} {L r : List Value} : vB 171 pc L r (vt X v) x ↔ x = vt X v := vB_t rfl
/-! 172 PassCheckerModel.touches(III)Z -/
theorem q172_0 : vE 172 0 [l0, l1, l2, l3, l4] st v x ↔ vE 172 2 [l0, l1, l2, l3, l4] (.int 32 :: st) v x := vE_s rfl (by rfl)
theorem q172_2 : vE 172 2 [l0, .int a, l2, l3, l4] st v x ↔ vE 172 3 [l0, .int a, l2, l3, l4] (.int a :: st) v x := vE_s rfl rfl
theorem q172_3 : vE 172 3 [l0, l1, l2, l3, l4] (.int b :: .int a :: st) v x ↔ vE 172 4 [l0, l1, l2, l3, l4] (.int (a * b) :: st) v x := vE_s rfl rfl
theorem q172_4 : vE 172 4 [l0, l1, l2, l3, l4] st v x ↔ vE 172 5 [l0, l1, l2, l3, l4] (.int 4 :: st) v x := vE_s rfl (by rfl)
theorem q172_5 : vE 172 5 [l0, l1, .int a, l3, l4] st v x ↔ vE 172 6 [l0, l1, .int a, l3, l4] (.int a :: st) v x := vE_s rfl rfl
theorem q172_6 : vE 172 6 [l0, l1, l2, l3, l4] (.int b :: .int a :: st) v x ↔ vE 172 7 [l0, l1, l2, l3, l4] (.int (a * b) :: st) v x := vE_s rfl rfl
theorem q172_7 : vE 172 7 [l0, l1, l2, l3, l4] (.int b :: .int a :: st) v x ↔ vE 172 8 [l0, l1, l2, l3, l4] (.int (a + b) :: st) v x := vE_s rfl rfl
theorem q172_8 : vE 172 8 [l0, l1, l2, l3, l4] (.int a :: st) v x ↔ vE 172 10 [l0, l1, l2, l3, .int a] st v x := vE_s rfl rfl
theorem q172_10 : vE 172 10 [.ref p, l1, l2, l3, l4] st v x ↔ vE 172 11 [.ref p, l1, l2, l3, l4] (.ref p :: st) v x := vE_s rfl rfl
theorem q172_11 : vE 172 11 [l0, .int a, l2, l3, l4] st v x ↔ vE 172 12 [l0, .int a, l2, l3, l4] (.int a :: st) v x := vE_s rfl rfl
theorem q172_12 : vE 172 12 [l0, l1, .int a, l3, l4] st v x ↔ vE 172 13 [l0, l1, .int a, l3, l4] (.int a :: st) v x := vE_s rfl rfl
theorem q172_13 : vE 172 13 [l0, l1, l2, .int a, l4] st v x ↔ vE 172 14 [l0, l1, l2, .int a, l4] (.int a :: st) v x := vE_s rfl rfl
theorem q172_14 : vE 172 14 [l0, l1, l2, l3, l4] (w3 :: w2 :: w1 :: w0 :: st) v x ↔ ∃ y : vm_Y, vE 169 0 [w0, w1, w2, w3, .retAddr 0] [] v y ∧ vB 172 14 [l0, l1, l2, l3, l4] st y x := vE_cv rfl rfl rfl rfl
theorem q172_17 : vE 172 17 [l0, l1, l2, l3, l4] (.int a :: st) v x ↔ if a = 0 then vE 172 20 [l0, l1, l2, l3, l4] st v x else vE 172 72 [l0, l1, l2, l3, l4] st v x := vE_if rfl rfl
theorem q172_20 : vE 172 20 [.ref p, l1, l2, l3, l4] st v x ↔ vE 172 21 [.ref p, l1, l2, l3, l4] (.ref p :: st) v x := vE_s rfl rfl
theorem q172_21 : vE 172 21 [l0, l1, l2, l3, l4] (.ref p :: st) v x ↔ vE 172 24 [l0, l1, l2, l3, l4] (.ref (p + 3) :: st) v x := vE_s rfl rfl
theorem q172_24 : vE 172 24 [l0, l1, l2, l3, .int a] st v x ↔ vE 172 26 [l0, l1, l2, l3, .int a] (.int a :: st) v x := vE_s rfl rfl
theorem q172_26 : vE 172 26 [l0, l1, l2, l3, l4] (.int a :: .ref p :: st) v x ↔ vE 172 27 [l0, l1, l2, l3, l4] (.int (v.1 p a.toNatClampNeg) :: st) v x := vE_s rfl rfl
theorem q172_27 : vE 172 27 [l0, l1, l2, l3, l4] (w0 :: st) v x ↔ ∃ y : vm_Y, vE 155 0 [w0] [] v y ∧ vB 172 27 [l0, l1, l2, l3, l4] st y x := vE_cs rfl rfl rfl rfl
theorem q172_30 : vE 172 30 [l0, l1, l2, l3, l4] (.int a :: st) v x ↔ if a = 0 then vE 172 46 [l0, l1, l2, l3, l4] st v x else vE 172 33 [l0, l1, l2, l3, l4] st v x := vE_if rfl rfl
theorem q172_33 : vE 172 33 [.ref p, l1, l2, l3, l4] st v x ↔ vE 172 34 [.ref p, l1, l2, l3, l4] (.ref p :: st) v x := vE_s rfl rfl
theorem q172_34 : vE 172 34 [l0, l1, l2, l3, l4] (.ref p :: st) v x ↔ vE 172 37 [l0, l1, l2, l3, l4] (.ref (p + 3) :: st) v x := vE_s rfl rfl
theorem q172_37 : vE 172 37 [l0, l1, l2, l3, .int a] st v x ↔ vE 172 39 [l0, l1, l2, l3, .int a] (.int a :: st) v x := vE_s rfl rfl
theorem q172_39 : vE 172 39 [l0, l1, l2, l3, l4] st v x ↔ vE 172 40 [l0, l1, l2, l3, l4] (.int 2 :: st) v x := vE_s rfl (by rfl)
theorem q172_40 : vE 172 40 [l0, l1, l2, l3, l4] (.int b :: .int a :: st) v x ↔ vE 172 41 [l0, l1, l2, l3, l4] (.int (a + b) :: st) v x := vE_s rfl rfl
theorem q172_41 : vE 172 41 [l0, l1, l2, l3, l4] (.int a :: .ref p :: st) v x ↔ vE 172 42 [l0, l1, l2, l3, l4] (.int (v.1 p a.toNatClampNeg) :: st) v x := vE_s rfl rfl
theorem q172_42 : vE 172 42 [l0, l1, l2, .int a, l4] st v x ↔ vE 172 43 [l0, l1, l2, .int a, l4] (.int a :: st) v x := vE_s rfl rfl
theorem q172_43 : vE 172 43 [l0, l1, l2, l3, l4] (.int b :: .int a :: st) v x ↔ if a = b then vE 172 72 [l0, l1, l2, l3, l4] st v x else vE 172 46 [l0, l1, l2, l3, l4] st v x := vE_if rfl rfl
theorem q172_46 : vE 172 46 [.ref p, l1, l2, l3, l4] st v x ↔ vE 172 47 [.ref p, l1, l2, l3, l4] (.ref p :: st) v x := vE_s rfl rfl
theorem q172_47 : vE 172 47 [l0, l1, l2, l3, l4] (.ref p :: st) v x ↔ vE 172 50 [l0, l1, l2, l3, l4] (.ref (p + 3) :: st) v x := vE_s rfl rfl
theorem q172_50 : vE 172 50 [l0, l1, l2, l3, .int a] st v x ↔ vE 172 52 [l0, l1, l2, l3, .int a] (.int a :: st) v x := vE_s rfl rfl
theorem q172_52 : vE 172 52 [l0, l1, l2, l3, l4] (.int a :: .ref p :: st) v x ↔ vE 172 53 [l0, l1, l2, l3, l4] (.int (v.1 p a.toNatClampNeg) :: st) v x := vE_s rfl rfl
theorem q172_53 : vE 172 53 [l0, l1, l2, l3, l4] (w0 :: st) v x ↔ ∃ y : vm_Y, vE 156 0 [w0] [] v y ∧ vB 172 53 [l0, l1, l2, l3, l4] st y x := vE_cs rfl rfl rfl rfl
theorem q172_56 : vE 172 56 [l0, l1, l2, l3, l4] (.int a :: st) v x ↔ if a = 0 then vE 172 76 [l0, l1, l2, l3, l4] st v x else vE 172 59 [l0, l1, l2, l3, l4] st v x := vE_if rfl rfl
theorem q172_59 : vE 172 59 [.ref p, l1, l2, l3, l4] st v x ↔ vE 172 60 [.ref p, l1, l2, l3, l4] (.ref p :: st) v x := vE_s rfl rfl
theorem q172_60 : vE 172 60 [l0, l1, l2, l3, l4] (.ref p :: st) v x ↔ vE 172 63 [l0, l1, l2, l3, l4] (.ref (p + 3) :: st) v x := vE_s rfl rfl
theorem q172_63 : vE 172 63 [l0, l1, l2, l3, .int a] st v x ↔ vE 172 65 [l0, l1, l2, l3, .int a] (.int a :: st) v x := vE_s rfl rfl
theorem q172_65 : vE 172 65 [l0, l1, l2, l3, l4] st v x ↔ vE 172 66 [l0, l1, l2, l3, l4] (.int 3 :: st) v x := vE_s rfl (by rfl)
theorem q172_66 : vE 172 66 [l0, l1, l2, l3, l4] (.int b :: .int a :: st) v x ↔ vE 172 67 [l0, l1, l2, l3, l4] (.int (a + b) :: st) v x := vE_s rfl rfl
theorem q172_67 : vE 172 67 [l0, l1, l2, l3, l4] (.int a :: .ref p :: st) v x ↔ vE 172 68 [l0, l1, l2, l3, l4] (.int (v.1 p a.toNatClampNeg) :: st) v x := vE_s rfl rfl
theorem q172_68 : vE 172 68 [l0, l1, l2, .int a, l4] st v x ↔ vE 172 69 [l0, l1, l2, .int a, l4] (.int a :: st) v x := vE_s rfl rfl
theorem q172_69 : vE 172 69 [l0, l1, l2, l3, l4] (.int b :: .int a :: st) v x ↔ if a = b then vE 172 72 [l0, l1, l2, l3, l4] st v x else vE 172 76 [l0, l1, l2, l3, l4] st v x := vE_if rfl rfl
theorem q172_72 : vE 172 72 [l0, l1, l2, l3, l4] st v x ↔ vE 172 73 [l0, l1, l2, l3, l4] (.int 1 :: st) v x := vE_s rfl (by rfl)
theorem q172_73 : vE 172 73 [l0, l1, l2, l3, l4] st v x ↔ vE 172 77 [l0, l1, l2, l3, l4] st v x := vE_s rfl rfl
theorem q172_76 : vE 172 76 [l0, l1, l2, l3, l4] st v x ↔ vE 172 77 [l0, l1, l2, l3, l4] (.int 0 :: st) v x := vE_s rfl (by rfl)
theorem q172_77 : vE 172 77 [l0, l1, l2, l3, l4] ([.int a]) v x ↔ x = vr a v := vE_ir rfl
theorem qt172 {X pc : Nat} {L r : List Value} : vB 172 pc L r (vt X v) x ↔ x = vt X v := vB_t rfl
/-! 173 PassCheckerModel.takes(I)I -/
theorem q173_0 : vE 173 0 [.int a] st v x ↔ vE 173 1 [.int a] (.int a :: st) v x := vE_s rfl rfl
theorem q173_1 : vE 173 1 [l0] st v x ↔ vE 173 2 [l0] (.int 4 :: st) v x := vE_s rfl (by rfl)
theorem q173_2 : vE 173 2 [l0] (.int b :: .int a :: st) v x ↔ if a = b then vE 173 5 [l0] st v x else vE 173 9 [l0] st v x := vE_if rfl rfl
theorem q173_5 : vE 173 5 [l0] st v x ↔ vE 173 6 [l0] (.int 3 :: st) v x := vE_s rfl (by rfl)
theorem q173_6 : vE 173 6 [l0] st v x ↔ vE 173 30 [l0] st v x := vE_s rfl rfl
theorem q173_9 : vE 173 9 [.int a] st v x ↔ vE 173 10 [.int a] (.int a :: st) v x := vE_s rfl rfl
theorem q173_10 : vE 173 10 [l0] st v x ↔ vE 173 12 [l0] (.int 7 :: st) v x := vE_s rfl (by rfl)
theorem q173_12 : vE 173 12 [l0] (.int b :: .int a :: st) v x ↔ if a = b then vE 173 15 [l0] st v x else vE 173 19 [l0] st v x := vE_if rfl rfl
theorem q173_15 : vE 173 15 [l0] st v x ↔ vE 173 16 [l0] (.int 4 :: st) v x := vE_s rfl (by rfl)
theorem q173_16 : vE 173 16 [l0] st v x ↔ vE 173 30 [l0] st v x := vE_s rfl rfl
theorem q173_19 : vE 173 19 [.int a] st v x ↔ vE 173 20 [.int a] (.int a :: st) v x := vE_s rfl rfl
theorem q173_20 : vE 173 20 [l0] st v x ↔ vE 173 22 [l0] (.int 8 :: st) v x := vE_s rfl (by rfl)
theorem q173_22 : vE 173 22 [l0] (.int b :: .int a :: st) v x ↔ if a = b then vE 173 25 [l0] st v x else vE 173 29 [l0] st v x := vE_if rfl rfl
theorem q173_25 : vE 173 25 [l0] st v x ↔ vE 173 26 [l0] (.int 2 :: st) v x := vE_s rfl (by rfl)
theorem q173_26 : vE 173 26 [l0] st v x ↔ vE 173 30 [l0] st v x := vE_s rfl rfl
theorem q173_29 : vE 173 29 [l0] st v x ↔ vE 173 30 [l0] (.int 1 :: st) v x := vE_s rfl (by rfl)
theorem q173_30 : vE 173 30 [l0] ([.int a]) v x ↔ x = vr a v := vE_ir rfl
/-! 174 PassCheckerModel.differences(I)I -/
theorem q174_0 : vE 174 0 [l0, l1, l2, l3, l4, l5, l6, l7, l8] st v x ↔ vE 174 1 [l0, l1, l2, l3, l4, l5, l6, l7, l8] (.int 0 :: st) v x := vE_s rfl (by rfl)
theorem q174_1 : vE 174 1 [l0, l1, l2, l3, l4, l5, l6, l7, l8] (.int a :: st) v x ↔ vE 174 2 [l0, l1, .int a, l3, l4, l5, l6, l7, l8] st v x := vE_s rfl rfl
theorem q174_2 : vE 174 2 [l0, l1, l2, l3, l4, l5, l6, l7, l8] st v x ↔ vE 174 3 [l0, l1, l2, l3, l4, l5, l6, l7, l8] (.int 0 :: st) v x := vE_s rfl (by rfl)
theorem q174_3 : vE 174 3 [l0, l1, l2, l3, l4, l5, l6, l7, l8] (.int a :: st) v x ↔ vE 174 4 [l0, l1, l2, .int a, l4, l5, l6, l7, l8] st v x := vE_s rfl rfl
theorem q174_4 : vE 174 4 [l0, l1, l2, .int a, l4, l5, l6, l7, l8] st v x ↔ vE 174 5 [l0, l1, l2, .int a, l4, l5, l6, l7, l8] (.int a :: st) v x := vE_s rfl rfl
theorem q174_5 : vE 174 5 [.ref p, l1, l2, l3, l4, l5, l6, l7, l8] st v x ↔ vE 174 6 [.ref p, l1, l2, l3, l4, l5, l6, l7, l8] (.ref p :: st) v x := vE_s rfl rfl
theorem q174_6 : vE 174 6 [l0, l1, l2, l3, l4, l5, l6, l7, l8] (.ref p :: st) v x ↔ vE 174 9 [l0, l1, l2, l3, l4, l5, l6, l7, l8] (.ref (p + 2) :: st) v x := vE_s rfl rfl
theorem q174_9 : vE 174 9 [l0, .int a, l2, l3, l4, l5, l6, l7, l8] st v x ↔ vE 174 10 [l0, .int a, l2, l3, l4, l5, l6, l7, l8] (.int a :: st) v x := vE_s rfl rfl
theorem q174_10 : vE 174 10 [l0, l1, l2, l3, l4, l5, l6, l7, l8] (.int a :: .ref p :: st) v x ↔ vE 174 11 [l0, l1, l2, l3, l4, l5, l6, l7, l8] (.int (v.1 p a.toNatClampNeg) :: st) v x := vE_s rfl rfl
theorem q174_11 : vE 174 11 [l0, l1, l2, l3, l4, l5, l6, l7, l8] (.int b :: .int a :: st) v x ↔ if b < a then vE 174 173 [l0, l1, l2, l3, l4, l5, l6, l7, l8] st v x else vE 174 14 [l0, l1, l2, l3, l4, l5, l6, l7, l8] st v x := vE_if rfl rfl
theorem q174_14 : vE 174 14 [l0, l1, l2, .int a, l4, l5, l6, l7, l8] st v x ↔ vE 174 15 [l0, l1, l2, .int a, l4, l5, l6, l7, l8] (.int a :: st) v x := vE_s rfl rfl
theorem q174_15 : vE 174 15 [.ref p, l1, l2, l3, l4, l5, l6, l7, l8] st v x ↔ vE 174 16 [.ref p, l1, l2, l3, l4, l5, l6, l7, l8] (.ref p :: st) v x := vE_s rfl rfl
theorem q174_16 : vE 174 16 [l0, l1, l2, l3, l4, l5, l6, l7, l8] (.ref p :: st) v x ↔ vE 174 19 [l0, l1, l2, l3, l4, l5, l6, l7, l8] (.ref (p + 2) :: st) v x := vE_s rfl rfl
theorem q174_19 : vE 174 19 [l0, .int a, l2, l3, l4, l5, l6, l7, l8] st v x ↔ vE 174 20 [l0, .int a, l2, l3, l4, l5, l6, l7, l8] (.int a :: st) v x := vE_s rfl rfl
theorem q174_20 : vE 174 20 [l0, l1, l2, l3, l4, l5, l6, l7, l8] (.int a :: .ref p :: st) v x ↔ vE 174 21 [l0, l1, l2, l3, l4, l5, l6, l7, l8] (.int (v.1 p a.toNatClampNeg) :: st) v x := vE_s rfl rfl
theorem q174_21 : vE 174 21 [l0, l1, l2, l3, l4, l5, l6, l7, l8] (.int b :: .int a :: st) v x ↔ if a = b then vE 174 24 [l0, l1, l2, l3, l4, l5, l6, l7, l8] st v x else vE 174 30 [l0, l1, l2, l3, l4, l5, l6, l7, l8] st v x := vE_if rfl rfl
theorem q174_24 : vE 174 24 [l0, l1, l2, l3, l4, l5, l6, l7, l8] st v x ↔ vE 174 25 [l0, l1, l2, l3, l4, l5, l6, l7, l8] (.int 4 :: st) v x := vE_s rfl (by rfl)
theorem q174_25 : vE 174 25 [l0, .int a, l2, l3, l4, l5, l6, l7, l8] st v x ↔ vE 174 26 [l0, .int a, l2, l3, l4, l5, l6, l7, l8] (.int a :: st) v x := vE_s rfl rfl
theorem q174_26 : vE 174 26 [l0, l1, l2, l3, l4, l5, l6, l7, l8] (.int b :: .int a :: st) v x ↔ vE 174 27 [l0, l1, l2, l3, l4, l5, l6, l7, l8] (.int (a * b) :: st) v x := vE_s rfl rfl
theorem q174_27 : vE 174 27 [l0, l1, l2, l3, l4, l5, l6, l7, l8] st v x ↔ vE 174 38 [l0, l1, l2, l3, l4, l5, l6, l7, l8] st v x := vE_s rfl rfl
theorem q174_30 : vE 174 30 [l0, l1, l2, l3, l4, l5, l6, l7, l8] st v x ↔ vE 174 32 [l0, l1, l2, l3, l4, l5, l6, l7, l8] (.int 32 :: st) v x := vE_s rfl (by rfl)
theorem q174_32 : vE 174 32 [l0, .int a, l2, l3, l4, l5, l6, l7, l8] st v x ↔ vE 174 33 [l0, .int a, l2, l3, l4, l5, l6, l7, l8] (.int a :: st) v x := vE_s rfl rfl
theorem q174_33 : vE 174 33 [l0, l1, l2, l3, l4, l5, l6, l7, l8] (.int b :: .int a :: st) v x ↔ vE 174 34 [l0, l1, l2, l3, l4, l5, l6, l7, l8] (.int (a * b) :: st) v x := vE_s rfl rfl
theorem q174_34 : vE 174 34 [l0, l1, l2, l3, l4, l5, l6, l7, l8] st v x ↔ vE 174 35 [l0, l1, l2, l3, l4, l5, l6, l7, l8] (.int 4 :: st) v x := vE_s rfl (by rfl)
theorem q174_35 : vE 174 35 [l0, l1, l2, .int a, l4, l5, l6, l7, l8] st v x ↔ vE 174 36 [l0, l1, l2, .int a, l4, l5, l6, l7, l8] (.int a :: st) v x := vE_s rfl rfl
theorem q174_36 : vE 174 36 [l0, l1, l2, l3, l4, l5, l6, l7, l8] (.int b :: .int a :: st) v x ↔ vE 174 37 [l0, l1, l2, l3, l4, l5, l6, l7, l8] (.int (a * b) :: st) v x := vE_s rfl rfl
theorem q174_37 : vE 174 37 [l0, l1, l2, l3, l4, l5, l6, l7, l8] (.int b :: .int a :: st) v x ↔ vE 174 38 [l0, l1, l2, l3, l4, l5, l6, l7, l8] (.int (a + b) :: st) v x := vE_s rfl rfl
theorem q174_38 : vE 174 38 [l0, l1, l2, l3, l4, l5, l6, l7, l8] (.int a :: st) v x ↔ vE 174 40 [l0, l1, l2, l3, .int a, l5, l6, l7, l8] st v x := vE_s rfl rfl
theorem q174_40 : vE 174 40 [l0, l1, l2, l3, l4, l5, l6, l7, l8] st v x ↔ vE 174 41 [l0, l1, l2, l3, l4, l5, l6, l7, l8] (.int 0 :: st) v x := vE_s rfl (by rfl)
theorem q174_41 : vE 174 41 [l0, l1, l2, l3, l4, l5, l6, l7, l8] (.int a :: st) v x ↔ vE 174 43 [l0, l1, l2, l3, l4, .int a, l6, l7, l8] st v x := vE_s rfl rfl
theorem q174_43 : vE 174 43 [l0, l1, l2, l3, l4, l5, l6, l7, l8] st v x ↔ vE 174 44 [l0, l1, l2, l3, l4, l5, l6, l7, l8] (.int 0 :: st) v x := vE_s rfl (by rfl)
theorem q174_44 : vE 174 44 [l0, l1, l2, l3, l4, l5, l6, l7, l8] (.int a :: st) v x ↔ vE 174 46 [l0, l1, l2, l3, l4, l5, .int a, l7, l8] st v x := vE_s rfl rfl
theorem q174_46 : vE 174 46 [l0, l1, l2, l3, l4, l5, .int a, l7, l8] st v x ↔ vE 174 48 [l0, l1, l2, l3, l4, l5, .int a, l7, l8] (.int a :: st) v x := vE_s rfl rfl
theorem q174_48 : vE 174 48 [l0, l1, l2, l3, l4, l5, l6, l7, l8] st v x ↔ vE 174 49 [l0, l1, l2, l3, l4, l5, l6, l7, l8] (.int 4 :: st) v x := vE_s rfl (by rfl)
theorem q174_49 : vE 174 49 [l0, l1, l2, l3, l4, l5, l6, l7, l8] (.int b :: .int a :: st) v x ↔ if b ≤ a then vE 174 154 [l0, l1, l2, l3, l4, l5, l6, l7, l8] st v x else vE 174 52 [l0, l1, l2, l3, l4, l5, l6, l7, l8] st v x := vE_if rfl rfl
theorem q174_52 : vE 174 52 [l0, l1, l2, .int a, l4, l5, l6, l7, l8] st v x ↔ vE 174 53 [l0, l1, l2, .int a, l4, l5, l6, l7, l8] (.int a :: st) v x := vE_s rfl rfl
theorem q174_53 : vE 174 53 [.ref p, l1, l2, l3, l4, l5, l6, l7, l8] st v x ↔ vE 174 54 [.ref p, l1, l2, l3, l4, l5, l6, l7, l8] (.ref p :: st) v x := vE_s rfl rfl
theorem q174_54 : vE 174 54 [l0, l1, l2, l3, l4, l5, l6, l7, l8] (.ref p :: st) v x ↔ vE 174 57 [l0, l1, l2, l3, l4, l5, l6, l7, l8] (.ref (p + 2) :: st) v x := vE_s rfl rfl
theorem q174_57 : vE 174 57 [l0, .int a, l2, l3, l4, l5, l6, l7, l8] st v x ↔ vE 174 58 [l0, .int a, l2, l3, l4, l5, l6, l7, l8] (.int a :: st) v x := vE_s rfl rfl
theorem q174_58 : vE 174 58 [l0, l1, l2, l3, l4, l5, l6, l7, l8] (.int a :: .ref p :: st) v x ↔ vE 174 59 [l0, l1, l2, l3, l4, l5, l6, l7, l8] (.int (v.1 p a.toNatClampNeg) :: st) v x := vE_s rfl rfl
theorem q174_59 : vE 174 59 [l0, l1, l2, l3, l4, l5, l6, l7, l8] (.int b :: .int a :: st) v x ↔ if a = b then vE 174 62 [l0, l1, l2, l3, l4, l5, l6, l7, l8] st v x else vE 174 75 [l0, l1, l2, l3, l4, l5, l6, l7, l8] st v x := vE_if rfl rfl
theorem q174_62 : vE 174 62 [.ref p, l1, l2, l3, l4, l5, l6, l7, l8] st v x ↔ vE 174 63 [.ref p, l1, l2, l3, l4, l5, l6, l7, l8] (.ref p :: st) v x := vE_s rfl rfl
theorem q174_63 : vE 174 63 [l0, l1, l2, l3, l4, l5, l6, l7, l8] (.ref p :: st) v x ↔ vE 174 66 [l0, l1, l2, l3, l4, l5, l6, l7, l8] (.ref (p + 4) :: st) v x := vE_s rfl rfl
theorem q174_66 : vE 174 66 [l0, l1, l2, l3, .int a, l5, l6, l7, l8] st v x ↔ vE 174 68 [l0, l1, l2, l3, .int a, l5, l6, l7, l8] (.int a :: st) v x := vE_s rfl rfl
theorem q174_68 : vE 174 68 [l0, l1, l2, l3, l4, l5, .int a, l7, l8] st v x ↔ vE 174 70 [l0, l1, l2, l3, l4, l5, .int a, l7, l8] (.int a :: st) v x := vE_s rfl rfl
theorem q174_70 : vE 174 70 [l0, l1, l2, l3, l4, l5, l6, l7, l8] (.int b :: .int a :: st) v x ↔ vE 174 71 [l0, l1, l2, l3, l4, l5, l6, l7, l8] (.int (a + b) :: st) v x := vE_s rfl rfl
theorem q174_71 : vE 174 71 [l0, l1, l2, l3, l4, l5, l6, l7, l8] (.int a :: .ref p :: st) v x ↔ vE 174 72 [l0, l1, l2, l3, l4, l5, l6, l7, l8] (.int (v.1 p a.toNatClampNeg) :: st) v x := vE_s rfl rfl
theorem q174_72 : vE 174 72 [l0, l1, l2, l3, l4, l5, l6, l7, l8] st v x ↔ vE 174 85 [l0, l1, l2, l3, l4, l5, l6, l7, l8] st v x := vE_s rfl rfl
theorem q174_75 : vE 174 75 [.ref p, l1, l2, l3, l4, l5, l6, l7, l8] st v x ↔ vE 174 76 [.ref p, l1, l2, l3, l4, l5, l6, l7, l8] (.ref p :: st) v x := vE_s rfl rfl
theorem q174_76 : vE 174 76 [l0, l1, l2, l3, l4, l5, l6, l7, l8] (.ref p :: st) v x ↔ vE 174 79 [l0, l1, l2, l3, l4, l5, l6, l7, l8] (.ref (p + 3) :: st) v x := vE_s rfl rfl
theorem q174_79 : vE 174 79 [l0, l1, l2, l3, .int a, l5, l6, l7, l8] st v x ↔ vE 174 81 [l0, l1, l2, l3, .int a, l5, l6, l7, l8] (.int a :: st) v x := vE_s rfl rfl
theorem q174_81 : vE 174 81 [l0, l1, l2, l3, l4, l5, .int a, l7, l8] st v x ↔ vE 174 83 [l0, l1, l2, l3, l4, l5, .int a, l7, l8] (.int a :: st) v x := vE_s rfl rfl
theorem q174_83 : vE 174 83 [l0, l1, l2, l3, l4, l5, l6, l7, l8] (.int b :: .int a :: st) v x ↔ vE 174 84 [l0, l1, l2, l3, l4, l5, l6, l7, l8] (.int (a + b) :: st) v x := vE_s rfl rfl
theorem q174_84 : vE 174 84 [l0, l1, l2, l3, l4, l5, l6, l7, l8] (.int a :: .ref p :: st) v x ↔ vE 174 85 [l0, l1, l2, l3, l4, l5, l6, l7, l8] (.int (v.1 p a.toNatClampNeg) :: st) v x := vE_s rfl rfl
theorem q174_85 : vE 174 85 [l0, l1, l2, l3, l4, l5, l6, l7, l8] (.int a :: st) v x ↔ vE 174 87 [l0, l1, l2, l3, l4, l5, l6, .int a, l8] st v x := vE_s rfl rfl
theorem q174_87 : vE 174 87 [l0, l1, l2, .int a, l4, l5, l6, l7, l8] st v x ↔ vE 174 88 [l0, l1, l2, .int a, l4, l5, l6, l7, l8] (.int a :: st) v x := vE_s rfl rfl
theorem q174_88 : vE 174 88 [.ref p, l1, l2, l3, l4, l5, l6, l7, l8] st v x ↔ vE 174 89 [.ref p, l1, l2, l3, l4, l5, l6, l7, l8] (.ref p :: st) v x := vE_s rfl rfl
theorem q174_89 : vE 174 89 [l0, l1, l2, l3, l4, l5, l6, l7, l8] (.ref p :: st) v x ↔ vE 174 92 [l0, l1, l2, l3, l4, l5, l6, l7, l8] (.ref (p + 2) :: st) v x := vE_s rfl rfl
theorem q174_92 : vE 174 92 [l0, .int a, l2, l3, l4, l5, l6, l7, l8] st v x ↔ vE 174 93 [l0, .int a, l2, l3, l4, l5, l6, l7, l8] (.int a :: st) v x := vE_s rfl rfl
theorem q174_93 : vE 174 93 [l0, l1, l2, l3, l4, l5, l6, l7, l8] (.int a :: .ref p :: st) v x ↔ vE 174 94 [l0, l1, l2, l3, l4, l5, l6, l7, l8] (.int (v.1 p a.toNatClampNeg) :: st) v x := vE_s rfl rfl
theorem q174_94 : vE 174 94 [l0, l1, l2, l3, l4, l5, l6, l7, l8] (.int b :: .int a :: st) v x ↔ if a = b then vE 174 97 [l0, l1, l2, l3, l4, l5, l6, l7, l8] st v x else vE 174 113 [l0, l1, l2, l3, l4, l5, l6, l7, l8] st v x := vE_if rfl rfl
theorem q174_97 : vE 174 97 [.ref p, l1, l2, l3, l4, l5, l6, l7, l8] st v x ↔ vE 174 98 [.ref p, l1, l2, l3, l4, l5, l6, l7, l8] (.ref p :: st) v x := vE_s rfl rfl
theorem q174_98 : vE 174 98 [l0, l1, l2, l3, l4, l5, l6, l7, l8] (.ref p :: st) v x ↔ vE 174 101 [l0, l1, l2, l3, l4, l5, l6, l7, l8] (.ref (p + 4) :: st) v x := vE_s rfl rfl
theorem q174_101 : vE 174 101 [l0, l1, l2, l3, l4, l5, l6, l7, l8] st v x ↔ vE 174 103 [l0, l1, l2, l3, l4, l5, l6, l7, l8] (.int 24 :: st) v x := vE_s rfl (by rfl)
theorem q174_103 : vE 174 103 [l0, l1, l2, l3, .int a, l5, l6, l7, l8] st v x ↔ vE 174 105 [l0, l1, l2, l3, .int a, l5, l6, l7, l8] (.int a :: st) v x := vE_s rfl rfl
theorem q174_105 : vE 174 105 [l0, l1, l2, l3, l4, l5, l6, l7, l8] (.int b :: .int a :: st) v x ↔ vE 174 106 [l0, l1, l2, l3, l4, l5, l6, l7, l8] (.int (a + b) :: st) v x := vE_s rfl rfl
theorem q174_106 : vE 174 106 [l0, l1, l2, l3, l4, l5, .int a, l7, l8] st v x ↔ vE 174 108 [l0, l1, l2, l3, l4, l5, .int a, l7, l8] (.int a :: st) v x := vE_s rfl rfl
theorem q174_108 : vE 174 108 [l0, l1, l2, l3, l4, l5, l6, l7, l8] (.int b :: .int a :: st) v x ↔ vE 174 109 [l0, l1, l2, l3, l4, l5, l6, l7, l8] (.int (a + b) :: st) v x := vE_s rfl rfl
theorem q174_109 : vE 174 109 [l0, l1, l2, l3, l4, l5, l6, l7, l8] (.int a :: .ref p :: st) v x ↔ vE 174 110 [l0, l1, l2, l3, l4, l5, l6, l7, l8] (.int (v.1 p a.toNatClampNeg) :: st) v x := vE_s rfl rfl
theorem q174_110 : vE 174 110 [l0, l1, l2, l3, l4, l5, l6, l7, l8] st v x ↔ vE 174 127 [l0, l1, l2, l3, l4, l5, l6, l7, l8] st v x := vE_s rfl rfl
theorem q174_113 : vE 174 113 [.ref p, l1, l2, l3, l4, l5, l6, l7, l8] st v x ↔ vE 174 114 [.ref p, l1, l2, l3, l4, l5, l6, l7, l8] (.ref p :: st) v x := vE_s rfl rfl
theorem q174_114 : vE 174 114 [l0, l1, l2, l3, l4, l5, l6, l7, l8] (.ref p :: st) v x ↔ vE 174 117 [l0, l1, l2, l3, l4, l5, l6, l7, l8] (.ref (p + 3) :: st) v x := vE_s rfl rfl
theorem q174_117 : vE 174 117 [l0, l1, l2, l3, l4, l5, l6, l7, l8] st v x ↔ vE 174 120 [l0, l1, l2, l3, l4, l5, l6, l7, l8] (.int 192 :: st) v x := vE_s rfl (by rfl)
theorem q174_120 : vE 174 120 [l0, l1, l2, l3, .int a, l5, l6, l7, l8] st v x ↔ vE 174 122 [l0, l1, l2, l3, .int a, l5, l6, l7, l8] (.int a :: st) v x := vE_s rfl rfl
theorem q174_122 : vE 174 122 [l0, l1, l2, l3, l4, l5, l6, l7, l8] (.int b :: .int a :: st) v x ↔ vE 174 123 [l0, l1, l2, l3, l4, l5, l6, l7, l8] (.int (a + b) :: st) v x := vE_s rfl rfl
theorem q174_123 : vE 174 123 [l0, l1, l2, l3, l4, l5, .int a, l7, l8] st v x ↔ vE 174 125 [l0, l1, l2, l3, l4, l5, .int a, l7, l8] (.int a :: st) v x := vE_s rfl rfl
theorem q174_125 : vE 174 125 [l0, l1, l2, l3, l4, l5, l6, l7, l8] (.int b :: .int a :: st) v x ↔ vE 174 126 [l0, l1, l2, l3, l4, l5, l6, l7, l8] (.int (a + b) :: st) v x := vE_s rfl rfl
theorem q174_126 : vE 174 126 [l0, l1, l2, l3, l4, l5, l6, l7, l8] (.int a :: .ref p :: st) v x ↔ vE 174 127 [l0, l1, l2, l3, l4, l5, l6, l7, l8] (.int (v.1 p a.toNatClampNeg) :: st) v x := vE_s rfl rfl
theorem q174_127 : vE 174 127 [l0, l1, l2, l3, l4, l5, l6, l7, l8] (.int a :: st) v x ↔ vE 174 129 [l0, l1, l2, l3, l4, l5, l6, l7, .int a] st v x := vE_s rfl rfl
theorem q174_129 : vE 174 129 [l0, l1, l2, l3, l4, .int a, l6, l7, l8] st v x ↔ vE 174 131 [l0, l1, l2, l3, l4, .int a, l6, l7, l8] (.int a :: st) v x := vE_s rfl rfl
theorem q174_131 : vE 174 131 [l0, l1, l2, l3, l4, l5, l6, l7, l8] (.int a :: st) v x ↔ if a = 0 then vE 174 134 [l0, l1, l2, l3, l4, l5, l6, l7, l8] st v x else vE 174 141 [l0, l1, l2, l3, l4, l5, l6, l7, l8] st v x := vE_if rfl rfl
theorem q174_134 : vE 174 134 [l0, l1, l2, l3, l4, l5, l6, .int a, l8] st v x ↔ vE 174 136 [l0, l1, l2, l3, l4, l5, l6, .int a, l8] (.int a :: st) v x := vE_s rfl rfl
theorem q174_136 : vE 174 136 [l0, l1, l2, l3, l4, l5, l6, l7, .int a] st v x ↔ vE 174 138 [l0, l1, l2, l3, l4, l5, l6, l7, .int a] (.int a :: st) v x := vE_s rfl rfl
theorem q174_138 : vE 174 138 [l0, l1, l2, l3, l4, l5, l6, l7, l8] (.int b :: .int a :: st) v x ↔ if a = b then vE 174 145 [l0, l1, l2, l3, l4, l5, l6, l7, l8] st v x else vE 174 141 [l0, l1, l2, l3, l4, l5, l6, l7, l8] st v x := vE_if rfl rfl
theorem q174_141 : vE 174 141 [l0, l1, l2, l3, l4, l5, l6, l7, l8] st v x ↔ vE 174 142 [l0, l1, l2, l3, l4, l5, l6, l7, l8] (.int 1 :: st) v x := vE_s rfl (by rfl)
theorem q174_142 : vE 174 142 [l0, l1, l2, l3, l4, l5, l6, l7, l8] st v x ↔ vE 174 146 [l0, l1, l2, l3, l4, l5, l6, l7, l8] st v x := vE_s rfl rfl
theorem q174_145 : vE 174 145 [l0, l1, l2, l3, l4, l5, l6, l7, l8] st v x ↔ vE 174 146 [l0, l1, l2, l3, l4, l5, l6, l7, l8] (.int 0 :: st) v x := vE_s rfl (by rfl)
theorem q174_146 : vE 174 146 [l0, l1, l2, l3, l4, l5, l6, l7, l8] (.int a :: st) v x ↔ vE 174 148 [l0, l1, l2, l3, l4, .int a, l6, l7, l8] st v x := vE_s rfl rfl
theorem q174_148 : vE 174 148 [l0, l1, l2, l3, l4, l5, .int a, l7, l8] st v x ↔ vE 174 151 [l0, l1, l2, l3, l4, l5, .int (a + 1), l7, l8] st v x := vE_s rfl rfl
theorem q174_151 : vE 174 151 [l0, l1, l2, l3, l4, l5, l6, l7, l8] st v x ↔ vE 174 46 [l0, l1, l2, l3, l4, l5, l6, l7, l8] st v x := vE_s rfl rfl
theorem q174_154 : vE 174 154 [l0, l1, .int a, l3, l4, l5, l6, l7, l8] st v x ↔ vE 174 155 [l0, l1, .int a, l3, l4, l5, l6, l7, l8] (.int a :: st) v x := vE_s rfl rfl
theorem q174_155 : vE 174 155 [l0, l1, l2, l3, l4, .int a, l6, l7, l8] st v x ↔ vE 174 157 [l0, l1, l2, l3, l4, .int a, l6, l7, l8] (.int a :: st) v x := vE_s rfl rfl
theorem q174_157 : vE 174 157 [l0, l1, l2, l3, l4, l5, l6, l7, l8] (.int a :: st) v x ↔ if a = 0 then vE 174 164 [l0, l1, l2, l3, l4, l5, l6, l7, l8] st v x else vE 174 160 [l0, l1, l2, l3, l4, l5, l6, l7, l8] st v x := vE_if rfl rfl
theorem q174_160 : vE 174 160 [l0, l1, l2, l3, l4, l5, l6, l7, l8] st v x ↔ vE 174 161 [l0, l1, l2, l3, l4, l5, l6, l7, l8] (.int 1 :: st) v x := vE_s rfl (by rfl)
theorem q174_161 : vE 174 161 [l0, l1, l2, l3, l4, l5, l6, l7, l8] st v x ↔ vE 174 165 [l0, l1, l2, l3, l4, l5, l6, l7, l8] st v x := vE_s rfl rfl
theorem q174_164 : vE 174 164 [l0, l1, l2, l3, l4, l5, l6, l7, l8] st v x ↔ vE 174 165 [l0, l1, l2, l3, l4, l5, l6, l7, l8] (.int 0 :: st) v x := vE_s rfl (by rfl)
theorem q174_165 : vE 174 165 [l0, l1, l2, l3, l4, l5, l6, l7, l8] (.int b :: .int a :: st) v x ↔ vE 174 166 [l0, l1, l2, l3, l4, l5, l6, l7, l8] (.int (a + b) :: st) v x := vE_s rfl rfl
theorem q174_166 : vE 174 166 [l0, l1, l2, l3, l4, l5, l6, l7, l8] (.int a :: st) v x ↔ vE 174 167 [l0, l1, .int a, l3, l4, l5, l6, l7, l8] st v x := vE_s rfl rfl
theorem q174_167 : vE 174 167 [l0, l1, l2, .int a, l4, l5, l6, l7, l8] st v x ↔ vE 174 170 [l0, l1, l2, .int (a + 1), l4, l5, l6, l7, l8] st v x := vE_s rfl rfl
theorem q174_170 : vE 174 170 [l0, l1, l2, l3, l4, l5, l6, l7, l8] st v x ↔ vE 174 4 [l0, l1, l2, l3, l4, l5, l6, l7, l8] st v x := vE_s rfl rfl
theorem q174_173 : vE 174 173 [l0, l1, .int a, l3, l4, l5, l6, l7, l8] st v x ↔ vE 174 174 [l0, l1, .int a, l3, l4, l5, l6, l7, l8] (.int a :: st) v x := vE_s rfl rfl
theorem q174_174 : vE 174 174 [l0, l1, l2, l3, l4, l5, l6, l7, l8] ([.int a]) v x ↔ x = vr a v := vE_ir rfl
end QF
