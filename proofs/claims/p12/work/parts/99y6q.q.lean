section QI
variable {l0 l1 l2 l3 l4 l5 l6 l7 l8 l9 l10 w0 w1 w2 w3 w4 w5 w6 w7 : Value} {st : List Value} {v : vm_V} {x : vm_Y} {a b c : Int32} {p q : Nat} {u w : Int64}
/-! 175 PassCheckerModel.check()I -/
theorem q175_0 : vE 175 0 [.ref p, l1] st v x ↔ vE 175 1 [.ref p, l1] (.ref p :: st) v x := vE_s rfl rfl
theorem q175_1 : vE 175 1 [l0, l1] st v x ↔ vE 175 2 [l0, l1] (.int 0 :: st) v x := vE_s rfl (by rfl)
theorem q175_2 : vE 175 2 [l0, l1] (.int a :: .ref p :: st) v x ↔ vE 175 5 [l0, l1] st (vm_si v p 0 a) x := vE_s rfl rfl
theorem q175_5 : vE 175 5 [.ref p, l1] st v x ↔ vE 175 6 [.ref p, l1] (.ref p :: st) v x := vE_s rfl rfl
theorem q175_6 : vE 175 6 [l0, l1] st v x ↔ vE 175 7 [l0, l1] (.int 0 :: st) v x := vE_s rfl (by rfl)
theorem q175_7 : vE 175 7 [l0, l1] (.int a :: .ref p :: st) v x ↔ vE 175 10 [l0, l1] st (vm_si v p 25 a) x := vE_s rfl rfl
theorem q175_10 : vE 175 10 [l0, l1] st v x ↔ vE 175 11 [l0, l1] (.int 0 :: st) v x := vE_s rfl (by rfl)
theorem q175_11 : vE 175 11 [l0, l1] (.int a :: st) v x ↔ vE 175 12 [l0, .int a] st v x := vE_s rfl rfl
theorem q175_12 : vE 175 12 [l0, .int a] st v x ↔ vE 175 13 [l0, .int a] (.int a :: st) v x := vE_s rfl rfl
theorem q175_13 : vE 175 13 [l0, l1] st v x ↔ vE 175 15 [l0, l1] (.int 6 :: st) v x := vE_s rfl (by rfl)
theorem q175_15 : vE 175 15 [l0, l1] (.int b :: .int a :: st) v x ↔ if b ≤ a then vE 175 31 [l0, l1] st v x else vE 175 18 [l0, l1] st v x := vE_if rfl rfl
theorem q175_18 : vE 175 18 [.ref p, l1] st v x ↔ vE 175 19 [.ref p, l1] (.ref p :: st) v x := vE_s rfl rfl
theorem q175_19 : vE 175 19 [l0, l1] (.ref p :: st) v x ↔ vE 175 22 [l0, l1] (.ref (p + 21) :: st) v x := vE_s rfl rfl
theorem q175_22 : vE 175 22 [l0, .int a] st v x ↔ vE 175 23 [l0, .int a] (.int a :: st) v x := vE_s rfl rfl
theorem q175_23 : vE 175 23 [l0, l1] st v x ↔ vE 175 24 [l0, l1] (.int (-1) :: st) v x := vE_s rfl (by rfl)
theorem q175_24 : vE 175 24 [l0, l1] (.int b :: .int a :: .ref p :: st) v x ↔ vE 175 25 [l0, l1] st (vm_si v p a.toNatClampNeg b) x := vE_s rfl rfl
theorem q175_25 : vE 175 25 [l0, .int a] st v x ↔ vE 175 28 [l0, .int (a + 1)] st v x := vE_s rfl rfl
theorem q175_28 : vE 175 28 [l0, l1] st v x ↔ vE 175 12 [l0, l1] st v x := vE_s rfl rfl
theorem q175_31 : vE 175 31 [.ref p, l1] st v x ↔ vE 175 32 [.ref p, l1] (.ref p :: st) v x := vE_s rfl rfl
theorem q175_32 : vE 175 32 [l0, l1] st v x ↔ vE 175 33 [l0, l1] (.int 0 :: st) v x := vE_s rfl (by rfl)
theorem q175_33 : vE 175 33 [l0, l1] st v x ↔ vE 175 34 [l0, l1] (.int 0 :: st) v x := vE_s rfl (by rfl)
theorem q175_34 : vE 175 34 [l0, l1] (w2 :: w1 :: w0 :: st) v x ↔ ∃ y : vm_Y, vE 176 0 [w0, w1, w2, .retAddr 0] [] v y ∧ vB 175 34 [l0, l1] st y x := vE_cv rfl rfl rfl rfl
theorem q175_37 : vE 175 37 [.ref p, l1] st v x ↔ vE 175 38 [.ref p, l1] (.ref p :: st) v x := vE_s rfl rfl
theorem q175_38 : vE 175 38 [l0, l1] (w0 :: st) v x ↔ ∃ y : vm_Y, vE 150 0 [w0] [] v y ∧ vB 175 38 [l0, l1] st y x := vE_cv rfl rfl rfl rfl
theorem q175_41 : vE 175 41 [.ref p, l1] st v x ↔ vE 175 42 [.ref p, l1] (.ref p :: st) v x := vE_s rfl rfl
theorem q175_42 : vE 175 42 [l0, l1] st v x ↔ vE 175 43 [l0, l1] (.int 0 :: st) v x := vE_s rfl (by rfl)
theorem q175_43 : vE 175 43 [l0, l1] (.int a :: .ref p :: st) v x ↔ vE 175 46 [l0, l1] st (vm_si v p 20 a) x := vE_s rfl rfl
theorem q175_46 : vE 175 46 [l0, l1] st v x ↔ vE 175 47 [l0, l1] (.int 0 :: st) v x := vE_s rfl (by rfl)
theorem q175_47 : vE 175 47 [l0, l1] (.int a :: st) v x ↔ vE 175 48 [l0, .int a] st v x := vE_s rfl rfl
theorem q175_48 : vE 175 48 [l0, .int a] st v x ↔ vE 175 49 [l0, .int a] (.int a :: st) v x := vE_s rfl rfl
theorem q175_49 : vE 175 49 [.ref p, l1] st v x ↔ vE 175 50 [.ref p, l1] (.ref p :: st) v x := vE_s rfl rfl
theorem q175_50 : vE 175 50 [l0, l1] (.ref p :: st) v x ↔ vE 175 53 [l0, l1] (.int (v.1 p 25) :: st) v x := vE_s rfl rfl
theorem q175_53 : vE 175 53 [l0, l1] (.int b :: .int a :: st) v x ↔ if b ≤ a then vE 175 119 [l0, l1] st v x else vE 175 56 [l0, l1] st v x := vE_if rfl rfl
theorem q175_56 : vE 175 56 [.ref p, l1] st v x ↔ vE 175 57 [.ref p, l1] (.ref p :: st) v x := vE_s rfl rfl
theorem q175_57 : vE 175 57 [l0, l1] (.ref p :: st) v x ↔ vE 175 60 [l0, l1] (.int (v.1 p 20) :: st) v x := vE_s rfl rfl
theorem q175_60 : vE 175 60 [l0, l1] (.int a :: st) v x ↔ if a = 0 then vE 175 63 [l0, l1] st v x else vE 175 119 [l0, l1] st v x := vE_if rfl rfl
theorem q175_63 : vE 175 63 [.ref p, l1] st v x ↔ vE 175 64 [.ref p, l1] (.ref p :: st) v x := vE_s rfl rfl
theorem q175_64 : vE 175 64 [.ref p, l1] st v x ↔ vE 175 65 [.ref p, l1] (.ref p :: st) v x := vE_s rfl rfl
theorem q175_65 : vE 175 65 [.ref p, l1] st v x ↔ vE 175 66 [.ref p, l1] (.ref p :: st) v x := vE_s rfl rfl
theorem q175_66 : vE 175 66 [l0, l1] (.ref p :: st) v x ↔ vE 175 69 [l0, l1] (.ref (p + 19) :: st) v x := vE_s rfl rfl
theorem q175_69 : vE 175 69 [l0, .int a] st v x ↔ vE 175 70 [l0, .int a] (.int a :: st) v x := vE_s rfl rfl
theorem q175_70 : vE 175 70 [l0, l1] (.int a :: .ref p :: st) v x ↔ vE 175 71 [l0, l1] (.int (v.1 p a.toNatClampNeg) :: st) v x := vE_s rfl rfl
theorem q175_71 : vE 175 71 [.ref p, l1] st v x ↔ vE 175 72 [.ref p, l1] (.ref p :: st) v x := vE_s rfl rfl
theorem q175_72 : vE 175 72 [l0, l1] (.ref p :: st) v x ↔ vE 175 75 [l0, l1] (.ref (p + 20) :: st) v x := vE_s rfl rfl
theorem q175_75 : vE 175 75 [l0, .int a] st v x ↔ vE 175 76 [l0, .int a] (.int a :: st) v x := vE_s rfl rfl
theorem q175_76 : vE 175 76 [l0, l1] (.int a :: .ref p :: st) v x ↔ vE 175 77 [l0, l1] (.int (v.1 p a.toNatClampNeg) :: st) v x := vE_s rfl rfl
theorem q175_77 : vE 175 77 [l0, l1] (w2 :: w1 :: w0 :: st) v x ↔ ∃ y : vm_Y, vE 177 0 [w0, w1, w2] [] v y ∧ vB 175 77 [l0, l1] st y x := vE_cv rfl rfl rfl rfl
theorem q175_80 : vE 175 80 [l0, l1] (.int a :: .ref p :: st) v x ↔ vE 175 83 [l0, l1] st (vm_si v p 20 a) x := vE_s rfl rfl
theorem q175_83 : vE 175 83 [.ref p, l1] st v x ↔ vE 175 84 [.ref p, l1] (.ref p :: st) v x := vE_s rfl rfl
theorem q175_84 : vE 175 84 [l0, l1] (.ref p :: st) v x ↔ vE 175 87 [l0, l1] (.int (v.1 p 20) :: st) v x := vE_s rfl rfl
theorem q175_87 : vE 175 87 [l0, l1] (.int a :: st) v x ↔ if a = 0 then vE 175 90 [l0, l1] st v x else vE 175 93 [l0, l1] st v x := vE_if rfl rfl
theorem q175_90 : vE 175 90 [l0, l1] st v x ↔ vE 175 113 [l0, l1] st v x := vE_s rfl rfl
theorem q175_93 : vE 175 93 [.ref p, l1] st v x ↔ vE 175 94 [.ref p, l1] (.ref p :: st) v x := vE_s rfl rfl
theorem q175_94 : vE 175 94 [.ref p, l1] st v x ↔ vE 175 95 [.ref p, l1] (.ref p :: st) v x := vE_s rfl rfl
theorem q175_95 : vE 175 95 [l0, l1] (.ref p :: st) v x ↔ vE 175 98 [l0, l1] (.ref (p + 19) :: st) v x := vE_s rfl rfl
theorem q175_98 : vE 175 98 [l0, .int a] st v x ↔ vE 175 99 [l0, .int a] (.int a :: st) v x := vE_s rfl rfl
theorem q175_99 : vE 175 99 [l0, l1] (.int a :: .ref p :: st) v x ↔ vE 175 100 [l0, l1] (.int (v.1 p a.toNatClampNeg) :: st) v x := vE_s rfl rfl
theorem q175_100 : vE 175 100 [l0, l1] (.int a :: .ref p :: st) v x ↔ vE 175 103 [l0, l1] st (vm_si v p 21 a) x := vE_s rfl rfl
theorem q175_103 : vE 175 103 [.ref p, l1] st v x ↔ vE 175 104 [.ref p, l1] (.ref p :: st) v x := vE_s rfl rfl
theorem q175_104 : vE 175 104 [.ref p, l1] st v x ↔ vE 175 105 [.ref p, l1] (.ref p :: st) v x := vE_s rfl rfl
theorem q175_105 : vE 175 105 [l0, l1] (.ref p :: st) v x ↔ vE 175 108 [l0, l1] (.ref (p + 20) :: st) v x := vE_s rfl rfl
theorem q175_108 : vE 175 108 [l0, .int a] st v x ↔ vE 175 109 [l0, .int a] (.int a :: st) v x := vE_s rfl rfl
theorem q175_109 : vE 175 109 [l0, l1] (.int a :: .ref p :: st) v x ↔ vE 175 110 [l0, l1] (.int (v.1 p a.toNatClampNeg) :: st) v x := vE_s rfl rfl
theorem q175_110 : vE 175 110 [l0, l1] (.int a :: .ref p :: st) v x ↔ vE 175 113 [l0, l1] st (vm_si v p 22 a) x := vE_s rfl rfl
theorem q175_113 : vE 175 113 [l0, .int a] st v x ↔ vE 175 116 [l0, .int (a + 1)] st v x := vE_s rfl rfl
theorem q175_116 : vE 175 116 [l0, l1] st v x ↔ vE 175 48 [l0, l1] st v x := vE_s rfl rfl
theorem q175_119 : vE 175 119 [.ref p, l1] st v x ↔ vE 175 120 [.ref p, l1] (.ref p :: st) v x := vE_s rfl rfl
theorem q175_120 : vE 175 120 [l0, l1] (.ref p :: st) v x ↔ vE 175 123 [l0, l1] (.int (v.1 p 20) :: st) v x := vE_s rfl rfl
theorem q175_123 : vE 175 123 [l0, l1] (.int a :: st) v x ↔ if a ≤ 0 then vE 175 134 [l0, l1] st v x else vE 175 126 [l0, l1] st v x := vE_if rfl rfl
theorem q175_126 : vE 175 126 [.ref p, l1] st v x ↔ vE 175 127 [.ref p, l1] (.ref p :: st) v x := vE_s rfl rfl
theorem q175_127 : vE 175 127 [l0, l1] st v x ↔ vE 175 128 [l0, l1] (.int 1 :: st) v x := vE_s rfl (by rfl)
theorem q175_128 : vE 175 128 [l0, l1] (w1 :: w0 :: st) v x ↔ ∃ y : vm_Y, vE 153 0 [w0, w1] [] v y ∧ vB 175 128 [l0, l1] st y x := vE_cv rfl rfl rfl rfl
theorem q175_131 : vE 175 131 [l0, l1] st v x ↔ vE 175 138 [l0, l1] st v x := vE_s rfl rfl
theorem q175_134 : vE 175 134 [.ref p, l1] st v x ↔ vE 175 135 [.ref p, l1] (.ref p :: st) v x := vE_s rfl rfl
theorem q175_135 : vE 175 135 [l0, l1] (.ref p :: st) v x ↔ vE 175 138 [l0, l1] (.int (v.1 p 25) :: st) v x := vE_s rfl rfl
theorem q175_138 : vE 175 138 [l0, l1] ([.int a]) v x ↔ x = vr a v := vE_ir rfl
theorem qt175 {X pc : Nat} {L r : List Value} : vB 175 pc L r (vt X v) x ↔ x = vt X v := vB_t rfl
/-! 176 PassCheckerModel.meet(II)V -/
theorem q176_0 : vE 176 0 [l0, l1, l2, l3] st v x ↔ vE 176 1 [l0, l1, l2, l3] (.int 0 :: st) v x := vE_s rfl (by rfl)
theorem q176_1 : vE 176 1 [l0, l1, l2, l3] (.int a :: st) v x ↔ vE 176 2 [l0, l1, l2, .int a] st v x := vE_s rfl rfl
theorem q176_2 : vE 176 2 [l0, l1, l2, .int a] st v x ↔ vE 176 3 [l0, l1, l2, .int a] (.int a :: st) v x := vE_s rfl rfl
theorem q176_3 : vE 176 3 [.ref p, l1, l2, l3] st v x ↔ vE 176 4 [.ref p, l1, l2, l3] (.ref p :: st) v x := vE_s rfl rfl
theorem q176_4 : vE 176 4 [l0, l1, l2, l3] (.ref p :: st) v x ↔ vE 176 7 [l0, l1, l2, l3] (.int (v.1 p 25) :: st) v x := vE_s rfl rfl
theorem q176_7 : vE 176 7 [l0, l1, l2, l3] (.int b :: .int a :: st) v x ↔ if b ≤ a then vE 176 37 [l0, l1, l2, l3] st v x else vE 176 10 [l0, l1, l2, l3] st v x := vE_if rfl rfl
theorem q176_10 : vE 176 10 [.ref p, l1, l2, l3] st v x ↔ vE 176 11 [.ref p, l1, l2, l3] (.ref p :: st) v x := vE_s rfl rfl
theorem q176_11 : vE 176 11 [l0, l1, l2, l3] (.ref p :: st) v x ↔ vE 176 14 [l0, l1, l2, l3] (.ref (p + 19) :: st) v x := vE_s rfl rfl
theorem q176_14 : vE 176 14 [l0, l1, l2, .int a] st v x ↔ vE 176 15 [l0, l1, l2, .int a] (.int a :: st) v x := vE_s rfl rfl
theorem q176_15 : vE 176 15 [l0, l1, l2, l3] (.int a :: .ref p :: st) v x ↔ vE 176 16 [l0, l1, l2, l3] (.int (v.1 p a.toNatClampNeg) :: st) v x := vE_s rfl rfl
theorem q176_16 : vE 176 16 [l0, .int a, l2, l3] st v x ↔ vE 176 17 [l0, .int a, l2, l3] (.int a :: st) v x := vE_s rfl rfl
theorem q176_17 : vE 176 17 [l0, l1, l2, l3] (.int b :: .int a :: st) v x ↔ if a = b then vE 176 20 [l0, l1, l2, l3] st v x else vE 176 31 [l0, l1, l2, l3] st v x := vE_if rfl rfl
theorem q176_20 : vE 176 20 [.ref p, l1, l2, l3] st v x ↔ vE 176 21 [.ref p, l1, l2, l3] (.ref p :: st) v x := vE_s rfl rfl
theorem q176_21 : vE 176 21 [l0, l1, l2, l3] (.ref p :: st) v x ↔ vE 176 24 [l0, l1, l2, l3] (.ref (p + 20) :: st) v x := vE_s rfl rfl
theorem q176_24 : vE 176 24 [l0, l1, l2, .int a] st v x ↔ vE 176 25 [l0, l1, l2, .int a] (.int a :: st) v x := vE_s rfl rfl
theorem q176_25 : vE 176 25 [l0, l1, l2, l3] (.int a :: .ref p :: st) v x ↔ vE 176 26 [l0, l1, l2, l3] (.int (v.1 p a.toNatClampNeg) :: st) v x := vE_s rfl rfl
theorem q176_26 : vE 176 26 [l0, l1, .int a, l3] st v x ↔ vE 176 27 [l0, l1, .int a, l3] (.int a :: st) v x := vE_s rfl rfl
theorem q176_27 : vE 176 27 [l0, l1, l2, l3] (.int b :: .int a :: st) v x ↔ if a = b then vE 176 30 [l0, l1, l2, l3] st v x else vE 176 31 [l0, l1, l2, l3] st v x := vE_if rfl rfl
theorem q176_30 : vE 176 30 [l0, l1, l2, l3] [] v x ↔ x = vd v := vE_vr rfl
theorem q176_31 : vE 176 31 [l0, l1, l2, .int a] st v x ↔ vE 176 34 [l0, l1, l2, .int (a + 1)] st v x := vE_s rfl rfl
theorem q176_34 : vE 176 34 [l0, l1, l2, l3] st v x ↔ vE 176 2 [l0, l1, l2, l3] st v x := vE_s rfl rfl
theorem q176_37 : vE 176 37 [.ref p, l1, l2, l3] st v x ↔ vE 176 38 [.ref p, l1, l2, l3] (.ref p :: st) v x := vE_s rfl rfl
theorem q176_38 : vE 176 38 [l0, l1, l2, l3] (.ref p :: st) v x ↔ vE 176 41 [l0, l1, l2, l3] (.ref (p + 19) :: st) v x := vE_s rfl rfl
theorem q176_41 : vE 176 41 [.ref p, l1, l2, l3] st v x ↔ vE 176 42 [.ref p, l1, l2, l3] (.ref p :: st) v x := vE_s rfl rfl
theorem q176_42 : vE 176 42 [l0, l1, l2, l3] (.ref p :: st) v x ↔ vE 176 45 [l0, l1, l2, l3] (.int (v.1 p 25) :: st) v x := vE_s rfl rfl
theorem q176_45 : vE 176 45 [l0, .int a, l2, l3] st v x ↔ vE 176 46 [l0, .int a, l2, l3] (.int a :: st) v x := vE_s rfl rfl
theorem q176_46 : vE 176 46 [l0, l1, l2, l3] (.int b :: .int a :: .ref p :: st) v x ↔ vE 176 47 [l0, l1, l2, l3] st (vm_si v p a.toNatClampNeg b) x := vE_s rfl rfl
theorem q176_47 : vE 176 47 [.ref p, l1, l2, l3] st v x ↔ vE 176 48 [.ref p, l1, l2, l3] (.ref p :: st) v x := vE_s rfl rfl
theorem q176_48 : vE 176 48 [l0, l1, l2, l3] (.ref p :: st) v x ↔ vE 176 51 [l0, l1, l2, l3] (.ref (p + 20) :: st) v x := vE_s rfl rfl
theorem q176_51 : vE 176 51 [.ref p, l1, l2, l3] st v x ↔ vE 176 52 [.ref p, l1, l2, l3] (.ref p :: st) v x := vE_s rfl rfl
theorem q176_52 : vE 176 52 [l0, l1, l2, l3] (.ref p :: st) v x ↔ vE 176 55 [l0, l1, l2, l3] (.int (v.1 p 25) :: st) v x := vE_s rfl rfl
theorem q176_55 : vE 176 55 [l0, l1, .int a, l3] st v x ↔ vE 176 56 [l0, l1, .int a, l3] (.int a :: st) v x := vE_s rfl rfl
theorem q176_56 : vE 176 56 [l0, l1, l2, l3] (.int b :: .int a :: .ref p :: st) v x ↔ vE 176 57 [l0, l1, l2, l3] st (vm_si v p a.toNatClampNeg b) x := vE_s rfl rfl
theorem q176_57 : vE 176 57 [.ref p, l1, l2, l3] st v x ↔ vE 176 58 [.ref p, l1, l2, l3] (.ref p :: st) v x := vE_s rfl rfl
theorem q176_58 : vE 176 58 [l0, l1, l2, l3] (.ref p :: st) v x ↔ vE 176 59 [l0, l1, l2, l3] (.ref p :: .ref p :: st) v x := vE_s rfl rfl
theorem q176_59 : vE 176 59 [l0, l1, l2, l3] (.ref p :: st) v x ↔ vE 176 62 [l0, l1, l2, l3] (.int (v.1 p 25) :: st) v x := vE_s rfl rfl
theorem q176_62 : vE 176 62 [l0, l1, l2, l3] st v x ↔ vE 176 63 [l0, l1, l2, l3] (.int 1 :: st) v x := vE_s rfl (by rfl)
theorem q176_63 : vE 176 63 [l0, l1, l2, l3] (.int b :: .int a :: st) v x ↔ vE 176 64 [l0, l1, l2, l3] (.int (a + b) :: st) v x := vE_s rfl rfl
theorem q176_64 : vE 176 64 [l0, l1, l2, l3] (.int a :: .ref p :: st) v x ↔ vE 176 67 [l0, l1, l2, l3] st (vm_si v p 25 a) x := vE_s rfl rfl
theorem q176_67 : vE 176 67 [.ref p, l1, l2, l3] st v x ↔ vE 176 68 [.ref p, l1, l2, l3] (.ref p :: st) v x := vE_s rfl rfl
theorem q176_68 : vE 176 68 [l0, l1, l2, l3] (.ref p :: st) v x ↔ vE 176 71 [l0, l1, l2, l3] (.ref (p + 21) :: st) v x := vE_s rfl rfl
theorem q176_71 : vE 176 71 [l0, .int a, l2, l3] st v x ↔ vE 176 72 [l0, .int a, l2, l3] (.int a :: st) v x := vE_s rfl rfl
theorem q176_72 : vE 176 72 [l0, l1, l2, l3] (.int a :: .ref p :: st) v x ↔ vE 176 73 [l0, l1, l2, l3] (.int (v.1 p a.toNatClampNeg) :: st) v x := vE_s rfl rfl
theorem q176_73 : vE 176 73 [l0, l1, l2, l3] st v x ↔ vE 176 74 [l0, l1, l2, l3] (.int (-1) :: st) v x := vE_s rfl (by rfl)
theorem q176_74 : vE 176 74 [l0, l1, l2, l3] (.int b :: .int a :: st) v x ↔ if a = b then vE 176 77 [l0, l1, l2, l3] st v x else vE 176 84 [l0, l1, l2, l3] st v x := vE_if rfl rfl
theorem q176_77 : vE 176 77 [.ref p, l1, l2, l3] st v x ↔ vE 176 78 [.ref p, l1, l2, l3] (.ref p :: st) v x := vE_s rfl rfl
theorem q176_78 : vE 176 78 [l0, l1, l2, l3] (.ref p :: st) v x ↔ vE 176 81 [l0, l1, l2, l3] (.ref (p + 21) :: st) v x := vE_s rfl rfl
theorem q176_81 : vE 176 81 [l0, .int a, l2, l3] st v x ↔ vE 176 82 [l0, .int a, l2, l3] (.int a :: st) v x := vE_s rfl rfl
theorem q176_82 : vE 176 82 [l0, l1, .int a, l3] st v x ↔ vE 176 83 [l0, l1, .int a, l3] (.int a :: st) v x := vE_s rfl rfl
theorem q176_83 : vE 176 83 [l0, l1, l2, l3] (.int b :: .int a :: .ref p :: st) v x ↔ vE 176 84 [l0, l1, l2, l3] st (vm_si v p a.toNatClampNeg b) x := vE_s rfl rfl
theorem q176_84 : vE 176 84 [l0, l1, l2, l3] [] v x ↔ x = vd v := vE_vr rfl
/-! 177 PassCheckerModel.look(II)I -/
theorem q177_0 : vE 177 0 [.ref p, l1, l2] st v x ↔ vE 177 1 [.ref p, l1, l2] (.ref p :: st) v x := vE_s rfl rfl
theorem q177_1 : vE 177 1 [l0, l1, l2] (.ref p :: st) v x ↔ vE 177 4 [l0, l1, l2] (.ref (p + 21) :: st) v x := vE_s rfl rfl
theorem q177_4 : vE 177 4 [l0, .int a, l2] st v x ↔ vE 177 5 [l0, .int a, l2] (.int a :: st) v x := vE_s rfl rfl
theorem q177_5 : vE 177 5 [l0, l1, l2] (.int a :: .ref p :: st) v x ↔ vE 177 6 [l0, l1, l2] (.int (v.1 p a.toNatClampNeg) :: st) v x := vE_s rfl rfl
theorem q177_6 : vE 177 6 [l0, l1, .int a] st v x ↔ vE 177 7 [l0, l1, .int a] (.int a :: st) v x := vE_s rfl rfl
theorem q177_7 : vE 177 7 [l0, l1, l2] (.int b :: .int a :: st) v x ↔ if a = b then vE 177 12 [l0, l1, l2] st v x else vE 177 10 [l0, l1, l2] st v x := vE_if rfl rfl
theorem q177_10 : vE 177 10 [l0, l1, l2] st v x ↔ vE 177 11 [l0, l1, l2] (.int 1 :: st) v x := vE_s rfl (by rfl)
theorem q177_11 : vE 177 11 [l0, l1, l2] ([.int a]) v x ↔ x = vr a v := vE_ir rfl
theorem q177_12 : vE 177 12 [.ref p, l1, l2] st v x ↔ vE 177 13 [.ref p, l1, l2] (.ref p :: st) v x := vE_s rfl rfl
theorem q177_13 : vE 177 13 [l0, l1, l2] (w0 :: st) v x ↔ ∃ y : vm_Y, vE 178 0 [w0, .retAddr 0, .retAddr 0, .retAddr 0] [] v y ∧ vB 177 13 [l0, l1, l2] st y x := vE_cv rfl rfl rfl rfl
theorem q177_16 : vE 177 16 [.ref p, l1, l2] st v x ↔ vE 177 17 [.ref p, l1, l2] (.ref p :: st) v x := vE_s rfl rfl
theorem q177_17 : vE 177 17 [l0, l1, l2] st v x ↔ vE 177 18 [l0, l1, l2] (.int 0 :: st) v x := vE_s rfl (by rfl)
theorem q177_18 : vE 177 18 [l0, l1, l2] st v x ↔ vE 177 19 [l0, l1, l2] (.int 0 :: st) v x := vE_s rfl (by rfl)
theorem q177_19 : vE 177 19 [l0, .int a, l2] st v x ↔ vE 177 20 [l0, .int a, l2] (.int a :: st) v x := vE_s rfl rfl
theorem q177_20 : vE 177 20 [l0, l1, l2] (w3 :: w2 :: w1 :: w0 :: st) v x ↔ ∃ y : vm_Y, vE 180 0 [w0, w1, w2, w3, .retAddr 0, .retAddr 0, .retAddr 0] [] v y ∧ vB 177 20 [l0, l1, l2] st y x := vE_cv rfl rfl rfl rfl
theorem q177_23 : vE 177 23 [.ref p, l1, l2] st v x ↔ vE 177 24 [.ref p, l1, l2] (.ref p :: st) v x := vE_s rfl rfl
theorem q177_24 : vE 177 24 [l0, l1, l2] st v x ↔ vE 177 25 [l0, l1, l2] (.int 1 :: st) v x := vE_s rfl (by rfl)
theorem q177_25 : vE 177 25 [l0, l1, l2] st v x ↔ vE 177 26 [l0, l1, l2] (.int 1 :: st) v x := vE_s rfl (by rfl)
theorem q177_26 : vE 177 26 [l0, l1, .int a] st v x ↔ vE 177 27 [l0, l1, .int a] (.int a :: st) v x := vE_s rfl rfl
theorem q177_27 : vE 177 27 [l0, l1, l2] (w3 :: w2 :: w1 :: w0 :: st) v x ↔ ∃ y : vm_Y, vE 180 0 [w0, w1, w2, w3, .retAddr 0, .retAddr 0, .retAddr 0] [] v y ∧ vB 177 27 [l0, l1, l2] st y x := vE_cv rfl rfl rfl rfl
theorem q177_30 : vE 177 30 [.ref p, l1, l2] st v x ↔ vE 177 31 [.ref p, l1, l2] (.ref p :: st) v x := vE_s rfl rfl
theorem q177_31 : vE 177 31 [l0, l1, l2] (w0 :: st) v x ↔ ∃ y : vm_Y, vE 193 0 [w0, .retAddr 0, .retAddr 0] [] v y ∧ vB 177 31 [l0, l1, l2] st y x := vE_cv rfl rfl rfl rfl
theorem q177_34 : vE 177 34 [l0, l1, l2] (.int a :: st) v x ↔ if a = 0 then vE 177 37 [l0, l1, l2] st v x else vE 177 39 [l0, l1, l2] st v x := vE_if rfl rfl
theorem q177_37 : vE 177 37 [l0, l1, l2] st v x ↔ vE 177 38 [l0, l1, l2] (.int 2 :: st) v x := vE_s rfl (by rfl)
theorem q177_38 : vE 177 38 [l0, l1, l2] ([.int a]) v x ↔ x = vr a v := vE_ir rfl
theorem q177_39 : vE 177 39 [.ref p, l1, l2] st v x ↔ vE 177 40 [.ref p, l1, l2] (.ref p :: st) v x := vE_s rfl rfl
theorem q177_40 : vE 177 40 [l0, l1, l2] (w0 :: st) v x ↔ ∃ y : vm_Y, vE 194 0 [w0] [] v y ∧ vB 177 40 [l0, l1, l2] st y x := vE_cv rfl rfl rfl rfl
theorem q177_43 : vE 177 43 [l0, l1, l2] (.int a :: st) v x ↔ if a = 0 then vE 177 46 [l0, l1, l2] st v x else vE 177 48 [l0, l1, l2] st v x := vE_if rfl rfl
theorem q177_46 : vE 177 46 [l0, l1, l2] st v x ↔ vE 177 47 [l0, l1, l2] (.int 3 :: st) v x := vE_s rfl (by rfl)
theorem q177_47 : vE 177 47 [l0, l1, l2] ([.int a]) v x ↔ x = vr a v := vE_ir rfl
theorem q177_48 : vE 177 48 [.ref p, l1, l2] st v x ↔ vE 177 49 [.ref p, l1, l2] (.ref p :: st) v x := vE_s rfl rfl
theorem q177_49 : vE 177 49 [l0, l1, l2] (.ref p :: st) v x ↔ vE 177 52 [l0, l1, l2] (.ref (p + 15) :: st) v x := vE_s rfl rfl
theorem q177_52 : vE 177 52 [l0, l1, l2] st v x ↔ vE 177 53 [l0, l1, l2] (.int 0 :: st) v x := vE_s rfl (by rfl)
theorem q177_53 : vE 177 53 [l0, l1, l2] (.int a :: .ref p :: st) v x ↔ vE 177 54 [l0, l1, l2] (.int (v.1 p a.toNatClampNeg) :: st) v x := vE_s rfl rfl
theorem q177_54 : vE 177 54 [l0, l1, l2] st v x ↔ vE 177 55 [l0, l1, l2] (.int 2 :: st) v x := vE_s rfl (by rfl)
theorem q177_55 : vE 177 55 [l0, l1, l2] (.int b :: .int a :: st) v x ↔ if a = b then vE 177 67 [l0, l1, l2] st v x else vE 177 58 [l0, l1, l2] st v x := vE_if rfl rfl
theorem q177_58 : vE 177 58 [.ref p, l1, l2] st v x ↔ vE 177 59 [.ref p, l1, l2] (.ref p :: st) v x := vE_s rfl rfl
theorem q177_59 : vE 177 59 [l0, l1, l2] (w0 :: st) v x ↔ ∃ y : vm_Y, vE 195 0 [w0, .retAddr 0, .retAddr 0] [] v y ∧ vB 177 59 [l0, l1, l2] st y x := vE_cv rfl rfl rfl rfl
theorem q177_62 : vE 177 62 [l0, l1, l2] (.int a :: st) v x ↔ if a = 0 then vE 177 65 [l0, l1, l2] st v x else vE 177 67 [l0, l1, l2] st v x := vE_if rfl rfl
theorem q177_65 : vE 177 65 [l0, l1, l2] st v x ↔ vE 177 66 [l0, l1, l2] (.int 4 :: st) v x := vE_s rfl (by rfl)
theorem q177_66 : vE 177 66 [l0, l1, l2] ([.int a]) v x ↔ x = vr a v := vE_ir rfl
theorem q177_67 : vE 177 67 [.ref p, l1, l2] st v x ↔ vE 177 68 [.ref p, l1, l2] (.ref p :: st) v x := vE_s rfl rfl
theorem q177_68 : vE 177 68 [l0, l1, l2] (.ref p :: st) v x ↔ vE 177 71 [l0, l1, l2] (.ref (p + 15) :: st) v x := vE_s rfl rfl
theorem q177_71 : vE 177 71 [l0, l1, l2] st v x ↔ vE 177 72 [l0, l1, l2] (.int 0 :: st) v x := vE_s rfl (by rfl)
theorem q177_72 : vE 177 72 [l0, l1, l2] (.int a :: .ref p :: st) v x ↔ vE 177 73 [l0, l1, l2] (.int (v.1 p a.toNatClampNeg) :: st) v x := vE_s rfl rfl
theorem q177_73 : vE 177 73 [l0, l1, l2] st v x ↔ vE 177 74 [l0, l1, l2] (.int 2 :: st) v x := vE_s rfl (by rfl)
theorem q177_74 : vE 177 74 [l0, l1, l2] (.int b :: .int a :: st) v x ↔ if a = b then vE 177 93 [l0, l1, l2] st v x else vE 177 77 [l0, l1, l2] st v x := vE_if rfl rfl
theorem q177_77 : vE 177 77 [.ref p, l1, l2] st v x ↔ vE 177 78 [.ref p, l1, l2] (.ref p :: st) v x := vE_s rfl rfl
theorem q177_78 : vE 177 78 [.ref p, l1, l2] st v x ↔ vE 177 79 [.ref p, l1, l2] (.ref p :: st) v x := vE_s rfl rfl
theorem q177_79 : vE 177 79 [l0, l1, l2] (.ref p :: st) v x ↔ vE 177 82 [l0, l1, l2] (.ref (p + 17) :: st) v x := vE_s rfl rfl
theorem q177_82 : vE 177 82 [l0, l1, l2] st v x ↔ vE 177 83 [l0, l1, l2] (.int 0 :: st) v x := vE_s rfl (by rfl)
theorem q177_83 : vE 177 83 [l0, l1, l2] (.int a :: .ref p :: st) v x ↔ vE 177 84 [l0, l1, l2] (.int (v.1 p a.toNatClampNeg) :: st) v x := vE_s rfl rfl
theorem q177_84 : vE 177 84 [.ref p, l1, l2] st v x ↔ vE 177 85 [.ref p, l1, l2] (.ref p :: st) v x := vE_s rfl rfl
theorem q177_85 : vE 177 85 [l0, l1, l2] (.ref p :: st) v x ↔ vE 177 88 [l0, l1, l2] (.ref (p + 17) :: st) v x := vE_s rfl rfl
theorem q177_88 : vE 177 88 [l0, l1, l2] st v x ↔ vE 177 89 [l0, l1, l2] (.int 1 :: st) v x := vE_s rfl (by rfl)
theorem q177_89 : vE 177 89 [l0, l1, l2] (.int a :: .ref p :: st) v x ↔ vE 177 90 [l0, l1, l2] (.int (v.1 p a.toNatClampNeg) :: st) v x := vE_s rfl rfl
theorem q177_90 : vE 177 90 [l0, l1, l2] (w2 :: w1 :: w0 :: st) v x ↔ ∃ y : vm_Y, vE 176 0 [w0, w1, w2, .retAddr 0] [] v y ∧ vB 177 90 [l0, l1, l2] st y x := vE_cv rfl rfl rfl rfl
theorem q177_93 : vE 177 93 [.ref p, l1, l2] st v x ↔ vE 177 94 [.ref p, l1, l2] (.ref p :: st) v x := vE_s rfl rfl
theorem q177_94 : vE 177 94 [l0, l1, l2] (.ref p :: st) v x ↔ vE 177 97 [l0, l1, l2] (.ref (p + 15) :: st) v x := vE_s rfl rfl
theorem q177_97 : vE 177 97 [l0, l1, l2] st v x ↔ vE 177 98 [l0, l1, l2] (.int 0 :: st) v x := vE_s rfl (by rfl)
theorem q177_98 : vE 177 98 [l0, l1, l2] (.int a :: .ref p :: st) v x ↔ vE 177 99 [l0, l1, l2] (.int (v.1 p a.toNatClampNeg) :: st) v x := vE_s rfl rfl
theorem q177_99 : vE 177 99 [l0, l1, l2] st v x ↔ vE 177 100 [l0, l1, l2] (.int 1 :: st) v x := vE_s rfl (by rfl)
theorem q177_100 : vE 177 100 [l0, l1, l2] (.int b :: .int a :: st) v x ↔ if a = b then vE 177 103 [l0, l1, l2] st v x else vE 177 119 [l0, l1, l2] st v x := vE_if rfl rfl
theorem q177_103 : vE 177 103 [.ref p, l1, l2] st v x ↔ vE 177 104 [.ref p, l1, l2] (.ref p :: st) v x := vE_s rfl rfl
theorem q177_104 : vE 177 104 [.ref p, l1, l2] st v x ↔ vE 177 105 [.ref p, l1, l2] (.ref p :: st) v x := vE_s rfl rfl
theorem q177_105 : vE 177 105 [l0, l1, l2] (.ref p :: st) v x ↔ vE 177 108 [l0, l1, l2] (.ref (p + 18) :: st) v x := vE_s rfl rfl
theorem q177_108 : vE 177 108 [l0, l1, l2] st v x ↔ vE 177 109 [l0, l1, l2] (.int 0 :: st) v x := vE_s rfl (by rfl)
theorem q177_109 : vE 177 109 [l0, l1, l2] (.int a :: .ref p :: st) v x ↔ vE 177 110 [l0, l1, l2] (.int (v.1 p a.toNatClampNeg) :: st) v x := vE_s rfl rfl
theorem q177_110 : vE 177 110 [.ref p, l1, l2] st v x ↔ vE 177 111 [.ref p, l1, l2] (.ref p :: st) v x := vE_s rfl rfl
theorem q177_111 : vE 177 111 [l0, l1, l2] (.ref p :: st) v x ↔ vE 177 114 [l0, l1, l2] (.ref (p + 18) :: st) v x := vE_s rfl rfl
theorem q177_114 : vE 177 114 [l0, l1, l2] st v x ↔ vE 177 115 [l0, l1, l2] (.int 1 :: st) v x := vE_s rfl (by rfl)
theorem q177_115 : vE 177 115 [l0, l1, l2] (.int a :: .ref p :: st) v x ↔ vE 177 116 [l0, l1, l2] (.int (v.1 p a.toNatClampNeg) :: st) v x := vE_s rfl rfl
theorem q177_116 : vE 177 116 [l0, l1, l2] (w2 :: w1 :: w0 :: st) v x ↔ ∃ y : vm_Y, vE 176 0 [w0, w1, w2, .retAddr 0] [] v y ∧ vB 177 116 [l0, l1, l2] st y x := vE_cv rfl rfl rfl rfl
theorem q177_119 : vE 177 119 [l0, l1, l2] st v x ↔ vE 177 120 [l0, l1, l2] (.int 0 :: st) v x := vE_s rfl (by rfl)
theorem q177_120 : vE 177 120 [l0, l1, l2] ([.int a]) v x ↔ x = vr a v := vE_ir rfl
theorem qt177 {X pc : Nat} {L r : List Value} : vB 177 pc L r (vt X v) x ↔ x = vt X v := vB_t rfl
/-! 178 PassCheckerModel.begin()V -/
theorem q178_0 : vE 178 0 [.ref p, l1, l2, l3] st v x ↔ vE 178 1 [.ref p, l1, l2, l3] (.ref p :: st) v x := vE_s rfl rfl
theorem q178_1 : vE 178 1 [l0, l1, l2, l3] st v x ↔ vE 178 3 [l0, l1, l2, l3] (.int 6 :: st) v x := vE_s rfl (by rfl)
theorem q178_3 : vE 178 3 [l0, l1, l2, l3] (.int a :: .ref p :: st) v x ↔ vE 178 6 [l0, l1, l2, l3] st (vm_si v p 5 a) x := vE_s rfl rfl
theorem q178_6 : vE 178 6 [l0, l1, l2, l3] st v x ↔ vE 178 7 [l0, l1, l2, l3] (.int 0 :: st) v x := vE_s rfl (by rfl)
theorem q178_7 : vE 178 7 [l0, l1, l2, l3] (.int a :: st) v x ↔ vE 178 8 [l0, .int a, l2, l3] st v x := vE_s rfl rfl
theorem q178_8 : vE 178 8 [l0, .int a, l2, l3] st v x ↔ vE 178 9 [l0, .int a, l2, l3] (.int a :: st) v x := vE_s rfl rfl
theorem q178_9 : vE 178 9 [l0, l1, l2, l3] st v x ↔ vE 178 11 [l0, l1, l2, l3] (.int 6 :: st) v x := vE_s rfl (by rfl)
theorem q178_11 : vE 178 11 [l0, l1, l2, l3] (.int b :: .int a :: st) v x ↔ if b ≤ a then vE 178 71 [l0, l1, l2, l3] st v x else vE 178 14 [l0, l1, l2, l3] st v x := vE_if rfl rfl
theorem q178_14 : vE 178 14 [.ref p, l1, l2, l3] st v x ↔ vE 178 15 [.ref p, l1, l2, l3] (.ref p :: st) v x := vE_s rfl rfl
theorem q178_15 : vE 178 15 [l0, l1, l2, l3] (.ref p :: st) v x ↔ vE 178 18 [l0, l1, l2, l3] (.ref (p + 5) :: st) v x := vE_s rfl rfl
theorem q178_18 : vE 178 18 [l0, .int a, l2, l3] st v x ↔ vE 178 19 [l0, .int a, l2, l3] (.int a :: st) v x := vE_s rfl rfl
theorem q178_19 : vE 178 19 [l0, l1, l2, l3] st v x ↔ vE 178 20 [l0, l1, l2, l3] (.int (-1) :: st) v x := vE_s rfl (by rfl)
theorem q178_20 : vE 178 20 [l0, l1, l2, l3] (.int b :: .int a :: .ref p :: st) v x ↔ vE 178 21 [l0, l1, l2, l3] st (vm_si v p a.toNatClampNeg b) x := vE_s rfl rfl
theorem q178_21 : vE 178 21 [l0, l1, l2, l3] st v x ↔ vE 178 22 [l0, l1, l2, l3] (.int 0 :: st) v x := vE_s rfl (by rfl)
theorem q178_22 : vE 178 22 [l0, l1, l2, l3] (.int a :: st) v x ↔ vE 178 23 [l0, l1, .int a, l3] st v x := vE_s rfl rfl
theorem q178_23 : vE 178 23 [l0, l1, .int a, l3] st v x ↔ vE 178 24 [l0, l1, .int a, l3] (.int a :: st) v x := vE_s rfl rfl
theorem q178_24 : vE 178 24 [l0, l1, l2, l3] st v x ↔ vE 178 25 [l0, l1, l2, l3] (.int 2 :: st) v x := vE_s rfl (by rfl)
theorem q178_25 : vE 178 25 [l0, l1, l2, l3] (.int b :: .int a :: st) v x ↔ if b ≤ a then vE 178 65 [l0, l1, l2, l3] st v x else vE 178 28 [l0, l1, l2, l3] st v x := vE_if rfl rfl
theorem q178_28 : vE 178 28 [l0, l1, l2, l3] st v x ↔ vE 178 31 [l0, l1, l2, l3] (.int 144 :: st) v x := vE_s rfl (by rfl)
theorem q178_31 : vE 178 31 [l0, l1, .int a, l3] st v x ↔ vE 178 32 [l0, l1, .int a, l3] (.int a :: st) v x := vE_s rfl rfl
theorem q178_32 : vE 178 32 [l0, l1, l2, l3] (.int b :: .int a :: st) v x ↔ vE 178 33 [l0, l1, l2, l3] (.int (a * b) :: st) v x := vE_s rfl rfl
theorem q178_33 : vE 178 33 [l0, l1, l2, l3] st v x ↔ vE 178 35 [l0, l1, l2, l3] (.int 24 :: st) v x := vE_s rfl (by rfl)
theorem q178_35 : vE 178 35 [l0, .int a, l2, l3] st v x ↔ vE 178 36 [l0, .int a, l2, l3] (.int a :: st) v x := vE_s rfl rfl
theorem q178_36 : vE 178 36 [l0, l1, l2, l3] (.int b :: .int a :: st) v x ↔ vE 178 37 [l0, l1, l2, l3] (.int (a * b) :: st) v x := vE_s rfl rfl
theorem q178_37 : vE 178 37 [l0, l1, l2, l3] (.int b :: .int a :: st) v x ↔ vE 178 38 [l0, l1, l2, l3] (.int (a + b) :: st) v x := vE_s rfl rfl
theorem q178_38 : vE 178 38 [l0, l1, l2, l3] (.int a :: st) v x ↔ vE 178 39 [l0, l1, l2, .int a] st v x := vE_s rfl rfl
theorem q178_39 : vE 178 39 [.ref p, l1, l2, l3] st v x ↔ vE 178 40 [.ref p, l1, l2, l3] (.ref p :: st) v x := vE_s rfl rfl
theorem q178_40 : vE 178 40 [l0, l1, l2, l3] (.ref p :: st) v x ↔ vE 178 43 [l0, l1, l2, l3] (.ref (p + 8) :: st) v x := vE_s rfl rfl
theorem q178_43 : vE 178 43 [l0, l1, l2, .int a] st v x ↔ vE 178 44 [l0, l1, l2, .int a] (.int a :: st) v x := vE_s rfl rfl
theorem q178_44 : vE 178 44 [l0, l1, l2, l3] st v x ↔ vE 178 45 [l0, l1, l2, l3] (.int 0 :: st) v x := vE_s rfl (by rfl)
theorem q178_45 : vE 178 45 [l0, l1, l2, l3] (w2 :: w1 :: w0 :: st) v x ↔ ∃ y : vm_Y, vE 179 0 [w0, w1, w2, .retAddr 0] [] v y ∧ vB 178 45 [l0, l1, l2, l3] st y x := vE_cs rfl rfl rfl rfl
theorem q178_48 : vE 178 48 [.ref p, l1, l2, l3] st v x ↔ vE 178 49 [.ref p, l1, l2, l3] (.ref p :: st) v x := vE_s rfl rfl
theorem q178_49 : vE 178 49 [l0, l1, l2, l3] (.ref p :: st) v x ↔ vE 178 52 [l0, l1, l2, l3] (.ref (p + 8) :: st) v x := vE_s rfl rfl
theorem q178_52 : vE 178 52 [l0, l1, l2, .int a] st v x ↔ vE 178 53 [l0, l1, l2, .int a] (.int a :: st) v x := vE_s rfl rfl
theorem q178_53 : vE 178 53 [l0, l1, l2, l3] st v x ↔ vE 178 54 [l0, l1, l2, l3] (.int 1 :: st) v x := vE_s rfl (by rfl)
theorem q178_54 : vE 178 54 [l0, l1, l2, l3] (.int b :: .int a :: st) v x ↔ vE 178 55 [l0, l1, l2, l3] (.int (a + b) :: st) v x := vE_s rfl rfl
theorem q178_55 : vE 178 55 [l0, .int a, l2, l3] st v x ↔ vE 178 56 [l0, .int a, l2, l3] (.int a :: st) v x := vE_s rfl rfl
theorem q178_56 : vE 178 56 [l0, l1, l2, l3] (.int b :: .int a :: st) v x ↔ vE 178 57 [l0, l1, l2, l3] (.int (a + b) :: st) v x := vE_s rfl rfl
theorem q178_57 : vE 178 57 [l0, l1, l2, l3] st v x ↔ vE 178 58 [l0, l1, l2, l3] (.int 1 :: st) v x := vE_s rfl (by rfl)
theorem q178_58 : vE 178 58 [l0, l1, l2, l3] (.int b :: .int a :: .ref p :: st) v x ↔ vE 178 59 [l0, l1, l2, l3] st (vm_si v p a.toNatClampNeg b) x := vE_s rfl rfl
theorem q178_59 : vE 178 59 [l0, l1, .int a, l3] st v x ↔ vE 178 62 [l0, l1, .int (a + 1), l3] st v x := vE_s rfl rfl
theorem q178_62 : vE 178 62 [l0, l1, l2, l3] st v x ↔ vE 178 23 [l0, l1, l2, l3] st v x := vE_s rfl rfl
theorem q178_65 : vE 178 65 [l0, .int a, l2, l3] st v x ↔ vE 178 68 [l0, .int (a + 1), l2, l3] st v x := vE_s rfl rfl
theorem q178_68 : vE 178 68 [l0, l1, l2, l3] st v x ↔ vE 178 8 [l0, l1, l2, l3] st v x := vE_s rfl rfl
theorem q178_71 : vE 178 71 [l0, l1, l2, l3] [] v x ↔ x = vd v := vE_vr rfl
theorem qt178 {X pc : Nat} {L r : List Value} : vB 178 pc L r (vt X v) x ↔ x = vt X v := vB_t rfl
/-! 179 PassCheckerModel.setNumber([III)V -/
theorem q179_0 : vE 179 0 [l0, l1, l2, l3] st v x ↔ vE 179 1 [l0, l1, l2, l3] (.int 0 :: st) v x := vE_s rfl (by rfl)
theorem q179_1 : vE 179 1 [l0, l1, l2, l3] (.int a :: st) v x ↔ vE 179 2 [l0, l1, l2, .int a] st v x := vE_s rfl rfl
theorem q179_2 : vE 179 2 [l0, l1, l2, .int a] st v x ↔ vE 179 3 [l0, l1, l2, .int a] (.int a :: st) v x := vE_s rfl rfl
theorem q179_3 : vE 179 3 [l0, l1, l2, l3] st v x ↔ vE 179 5 [l0, l1, l2, l3] (.int 24 :: st) v x := vE_s rfl (by rfl)
theorem q179_5 : vE 179 5 [l0, l1, l2, l3] (.int b :: .int a :: st) v x ↔ if b ≤ a then vE 179 28 [l0, l1, l2, l3] st v x else vE 179 8 [l0, l1, l2, l3] st v x := vE_if rfl rfl
theorem q179_8 : vE 179 8 [.ref p, l1, l2, l3] st v x ↔ vE 179 9 [.ref p, l1, l2, l3] (.ref p :: st) v x := vE_s rfl rfl
theorem q179_9 : vE 179 9 [l0, .int a, l2, l3] st v x ↔ vE 179 10 [l0, .int a, l2, l3] (.int a :: st) v x := vE_s rfl rfl
theorem q179_10 : vE 179 10 [l0, l1, l2, .int a] st v x ↔ vE 179 11 [l0, l1, l2, .int a] (.int a :: st) v x := vE_s rfl rfl
theorem q179_11 : vE 179 11 [l0, l1, l2, l3] (.int b :: .int a :: st) v x ↔ vE 179 12 [l0, l1, l2, l3] (.int (a + b) :: st) v x := vE_s rfl rfl
theorem q179_12 : vE 179 12 [l0, l1, l2, .int a] st v x ↔ vE 179 13 [l0, l1, l2, .int a] (.int a :: st) v x := vE_s rfl rfl
theorem q179_13 : vE 179 13 [l0, l1, l2, l3] (.int a :: st) v x ↔ if a = 0 then vE 179 16 [l0, l1, l2, l3] st v x else vE 179 20 [l0, l1, l2, l3] st v x := vE_if rfl rfl
theorem q179_16 : vE 179 16 [l0, l1, .int a, l3] st v x ↔ vE 179 17 [l0, l1, .int a, l3] (.int a :: st) v x := vE_s rfl rfl
theorem q179_17 : vE 179 17 [l0, l1, l2, l3] st v x ↔ vE 179 21 [l0, l1, l2, l3] st v x := vE_s rfl rfl
theorem q179_20 : vE 179 20 [l0, l1, l2, l3] st v x ↔ vE 179 21 [l0, l1, l2, l3] (.int 0 :: st) v x := vE_s rfl (by rfl)
theorem q179_21 : vE 179 21 [l0, l1, l2, l3] (.int b :: .int a :: .ref p :: st) v x ↔ vE 179 22 [l0, l1, l2, l3] st (vm_si v p a.toNatClampNeg b) x := vE_s rfl rfl
theorem q179_22 : vE 179 22 [l0, l1, l2, .int a] st v x ↔ vE 179 25 [l0, l1, l2, .int (a + 1)] st v x := vE_s rfl rfl
theorem q179_25 : vE 179 25 [l0, l1, l2, l3] st v x ↔ vE 179 2 [l0, l1, l2, l3] st v x := vE_s rfl rfl
theorem q179_28 : vE 179 28 [l0, l1, l2, l3] [] v x ↔ x = vd v := vE_vr rfl
/-! 180 PassCheckerModel.workOut(III)V -/
theorem q180_0 : vE 180 0 [l0, l1, l2, l3, l4, l5, l6] st v x ↔ vE 180 2 [l0, l1, l2, l3, l4, l5, l6] (.int 6 :: st) v x := vE_s rfl (by rfl)
theorem q180_2 : vE 180 2 [l0, l1, .int a, l3, l4, l5, l6] st v x ↔ vE 180 3 [l0, l1, .int a, l3, l4, l5, l6] (.int a :: st) v x := vE_s rfl rfl
theorem q180_3 : vE 180 3 [l0, l1, l2, l3, l4, l5, l6] (.int b :: .int a :: st) v x ↔ vE 180 4 [l0, l1, l2, l3, l4, l5, l6] (.int (a * b) :: st) v x := vE_s rfl rfl
theorem q180_4 : vE 180 4 [l0, l1, l2, .int a, l4, l5, l6] st v x ↔ vE 180 5 [l0, l1, l2, .int a, l4, l5, l6] (.int a :: st) v x := vE_s rfl rfl
theorem q180_5 : vE 180 5 [l0, l1, l2, l3, l4, l5, l6] (.int b :: .int a :: st) v x ↔ vE 180 6 [l0, l1, l2, l3, l4, l5, l6] (.int (a + b) :: st) v x := vE_s rfl rfl
theorem q180_6 : vE 180 6 [l0, l1, l2, l3, l4, l5, l6] (.int a :: st) v x ↔ vE 180 8 [l0, l1, l2, l3, .int a, l5, l6] st v x := vE_s rfl rfl
theorem q180_8 : vE 180 8 [l0, l1, l2, .int a, l4, l5, l6] st v x ↔ vE 180 9 [l0, l1, l2, .int a, l4, l5, l6] (.int a :: st) v x := vE_s rfl rfl
theorem q180_9 : vE 180 9 [.ref p, l1, l2, l3, l4, l5, l6] st v x ↔ vE 180 10 [.ref p, l1, l2, l3, l4, l5, l6] (.ref p :: st) v x := vE_s rfl rfl
theorem q180_10 : vE 180 10 [l0, l1, l2, l3, l4, l5, l6] (.ref p :: st) v x ↔ vE 180 13 [l0, l1, l2, l3, l4, l5, l6] (.ref (p + 1) :: st) v x := vE_s rfl rfl
theorem q180_13 : vE 180 13 [l0, l1, .int a, l3, l4, l5, l6] st v x ↔ vE 180 14 [l0, l1, .int a, l3, l4, l5, l6] (.int a :: st) v x := vE_s rfl rfl
theorem q180_14 : vE 180 14 [l0, l1, l2, l3, l4, l5, l6] (.int a :: .ref p :: st) v x ↔ vE 180 15 [l0, l1, l2, l3, l4, l5, l6] (.int (v.1 p a.toNatClampNeg) :: st) v x := vE_s rfl rfl
theorem q180_15 : vE 180 15 [l0, l1, l2, l3, l4, l5, l6] (.int b :: .int a :: st) v x ↔ if b ≤ a then vE 180 28 [l0, l1, l2, l3, l4, l5, l6] st v x else vE 180 18 [l0, l1, l2, l3, l4, l5, l6] st v x := vE_if rfl rfl
theorem q180_18 : vE 180 18 [.ref p, l1, l2, l3, l4, l5, l6] st v x ↔ vE 180 19 [.ref p, l1, l2, l3, l4, l5, l6] (.ref p :: st) v x := vE_s rfl rfl
theorem q180_19 : vE 180 19 [l0, l1, l2, l3, l4, l5, l6] (.ref p :: st) v x ↔ vE 180 22 [l0, l1, l2, l3, l4, l5, l6] (.ref (p + 2) :: st) v x := vE_s rfl rfl
theorem q180_22 : vE 180 22 [l0, l1, l2, l3, .int a, l5, l6] st v x ↔ vE 180 24 [l0, l1, l2, l3, .int a, l5, l6] (.int a :: st) v x := vE_s rfl rfl
theorem q180_24 : vE 180 24 [l0, l1, l2, l3, l4, l5, l6] (.int a :: .ref p :: st) v x ↔ vE 180 25 [l0, l1, l2, l3, l4, l5, l6] (.int (v.1 p a.toNatClampNeg) :: st) v x := vE_s rfl rfl
theorem q180_25 : vE 180 25 [l0, l1, l2, l3, l4, l5, l6] st v x ↔ vE 180 29 [l0, l1, l2, l3, l4, l5, l6] st v x := vE_s rfl rfl
theorem q180_28 : vE 180 28 [l0, l1, l2, l3, l4, l5, l6] st v x ↔ vE 180 29 [l0, l1, l2, l3, l4, l5, l6] (.int 0 :: st) v x := vE_s rfl (by rfl)
theorem q180_29 : vE 180 29 [l0, l1, l2, l3, l4, l5, l6] (.int a :: st) v x ↔ vE 180 31 [l0, l1, l2, l3, l4, .int a, l6] st v x := vE_s rfl rfl
theorem q180_31 : vE 180 31 [.ref p, l1, l2, l3, l4, l5, l6] st v x ↔ vE 180 32 [.ref p, l1, l2, l3, l4, l5, l6] (.ref p :: st) v x := vE_s rfl rfl
theorem q180_32 : vE 180 32 [l0, l1, l2, l3, l4, l5, l6] (.ref p :: st) v x ↔ vE 180 35 [l0, l1, l2, l3, l4, l5, l6] (.ref (p + 9) :: st) v x := vE_s rfl rfl
theorem q180_35 : vE 180 35 [l0, .int a, l2, l3, l4, l5, l6] st v x ↔ vE 180 36 [l0, .int a, l2, l3, l4, l5, l6] (.int a :: st) v x := vE_s rfl rfl
theorem q180_36 : vE 180 36 [l0, l1, l2, l3, l4, l5, l6] st v x ↔ vE 180 37 [l0, l1, l2, l3, l4, l5, l6] (.int 0 :: st) v x := vE_s rfl (by rfl)
theorem q180_37 : vE 180 37 [l0, l1, l2, l3, l4, l5, l6] (.int b :: .int a :: .ref p :: st) v x ↔ vE 180 38 [l0, l1, l2, l3, l4, l5, l6] st (vm_si v p a.toNatClampNeg b) x := vE_s rfl rfl
theorem q180_38 : vE 180 38 [.ref p, l1, l2, l3, l4, l5, l6] st v x ↔ vE 180 39 [.ref p, l1, l2, l3, l4, l5, l6] (.ref p :: st) v x := vE_s rfl rfl
theorem q180_39 : vE 180 39 [l0, l1, l2, l3, l4, l5, l6] (.ref p :: st) v x ↔ vE 180 42 [l0, l1, l2, l3, l4, l5, l6] (.ref (p + 14) :: st) v x := vE_s rfl rfl
theorem q180_42 : vE 180 42 [l0, l1, l2, l3, l4, l5, l6] st v x ↔ vE 180 43 [l0, l1, l2, l3, l4, l5, l6] (.int 0 :: st) v x := vE_s rfl (by rfl)
theorem q180_43 : vE 180 43 [l0, l1, l2, l3, l4, l5, l6] st v x ↔ vE 180 44 [l0, l1, l2, l3, l4, l5, l6] (.int 0 :: st) v x := vE_s rfl (by rfl)
theorem q180_44 : vE 180 44 [l0, l1, l2, l3, l4, l5, l6] (w2 :: w1 :: w0 :: st) v x ↔ ∃ y : vm_Y, vE 179 0 [w0, w1, w2, .retAddr 0] [] v y ∧ vB 180 44 [l0, l1, l2, l3, l4, l5, l6] st y x := vE_cs rfl rfl rfl rfl
theorem q180_47 : vE 180 47 [l0, l1, l2, l3, l4, l5, l6] st v x ↔ vE 180 48 [l0, l1, l2, l3, l4, l5, l6] (.int 0 :: st) v x := vE_s rfl (by rfl)
theorem q180_48 : vE 180 48 [l0, l1, l2, l3, l4, l5, l6] (.int a :: st) v x ↔ vE 180 50 [l0, l1, l2, l3, l4, l5, .int a] st v x := vE_s rfl rfl
theorem q180_50 : vE 180 50 [l0, l1, l2, l3, l4, l5, .int a] st v x ↔ vE 180 52 [l0, l1, l2, l3, l4, l5, .int a] (.int a :: st) v x := vE_s rfl rfl
theorem q180_52 : vE 180 52 [l0, l1, l2, l3, l4, l5, l6] st v x ↔ vE 180 54 [l0, l1, l2, l3, l4, l5, l6] (.int 22 :: st) v x := vE_s rfl (by rfl)
theorem q180_54 : vE 180 54 [l0, l1, l2, l3, l4, l5, l6] (.int b :: .int a :: st) v x ↔ if b ≤ a then vE 180 71 [l0, l1, l2, l3, l4, l5, l6] st v x else vE 180 57 [l0, l1, l2, l3, l4, l5, l6] st v x := vE_if rfl rfl
theorem q180_57 : vE 180 57 [.ref p, l1, l2, l3, l4, l5, l6] st v x ↔ vE 180 58 [.ref p, l1, l2, l3, l4, l5, l6] (.ref p :: st) v x := vE_s rfl rfl
theorem q180_58 : vE 180 58 [l0, l1, l2, l3, l4, l5, l6] (.ref p :: st) v x ↔ vE 180 61 [l0, l1, l2, l3, l4, l5, l6] (.ref (p + 28) :: st) v x := vE_s rfl rfl
theorem q180_61 : vE 180 61 [l0, l1, l2, l3, l4, l5, .int a] st v x ↔ vE 180 63 [l0, l1, l2, l3, l4, l5, .int a] (.int a :: st) v x := vE_s rfl rfl
theorem q180_63 : vE 180 63 [l0, l1, l2, l3, l4, l5, l6] st v x ↔ vE 180 64 [l0, l1, l2, l3, l4, l5, l6] (.int 0 :: st) v x := vE_s rfl (by rfl)
theorem q180_64 : vE 180 64 [l0, l1, l2, l3, l4, l5, l6] (.int b :: .int a :: .ref p :: st) v x ↔ vE 180 65 [l0, l1, l2, l3, l4, l5, l6] st (vm_si v p a.toNatClampNeg (b &&& 1)) x := vE_s rfl rfl
theorem q180_65 : vE 180 65 [l0, l1, l2, l3, l4, l5, .int a] st v x ↔ vE 180 68 [l0, l1, l2, l3, l4, l5, .int (a + 1)] st v x := vE_s rfl rfl
theorem q180_68 : vE 180 68 [l0, l1, l2, l3, l4, l5, l6] st v x ↔ vE 180 50 [l0, l1, l2, l3, l4, l5, l6] st v x := vE_s rfl rfl
theorem q180_71 : vE 180 71 [l0, l1, l2, l3, l4, l5, l6] st v x ↔ vE 180 72 [l0, l1, l2, l3, l4, l5, l6] (.int 0 :: st) v x := vE_s rfl (by rfl)
theorem q180_72 : vE 180 72 [l0, l1, l2, l3, l4, l5, l6] (.int a :: st) v x ↔ vE 180 74 [l0, l1, l2, l3, l4, l5, .int a] st v x := vE_s rfl rfl
theorem q180_74 : vE 180 74 [l0, l1, l2, l3, l4, l5, .int a] st v x ↔ vE 180 76 [l0, l1, l2, l3, l4, l5, .int a] (.int a :: st) v x := vE_s rfl rfl
theorem q180_76 : vE 180 76 [l0, l1, l2, l3, l4, .int a, l6] st v x ↔ vE 180 78 [l0, l1, l2, l3, l4, .int a, l6] (.int a :: st) v x := vE_s rfl rfl
theorem q180_78 : vE 180 78 [l0, l1, l2, l3, l4, l5, l6] (.int b :: .int a :: st) v x ↔ if b ≤ a then vE 180 102 [l0, l1, l2, l3, l4, l5, l6] st v x else vE 180 81 [l0, l1, l2, l3, l4, l5, l6] st v x := vE_if rfl rfl
theorem q180_81 : vE 180 81 [.ref p, l1, l2, l3, l4, l5, l6] st v x ↔ vE 180 82 [.ref p, l1, l2, l3, l4, l5, l6] (.ref p :: st) v x := vE_s rfl rfl
theorem q180_82 : vE 180 82 [l0, .int a, l2, l3, l4, l5, l6] st v x ↔ vE 180 83 [l0, .int a, l2, l3, l4, l5, l6] (.int a :: st) v x := vE_s rfl rfl
theorem q180_83 : vE 180 83 [l0, l1, l2, l3, l4, l5, l6] st v x ↔ vE 180 85 [l0, l1, l2, l3, l4, l5, l6] (.int 32 :: st) v x := vE_s rfl (by rfl)
theorem q180_85 : vE 180 85 [l0, l1, l2, l3, .int a, l5, l6] st v x ↔ vE 180 87 [l0, l1, l2, l3, .int a, l5, l6] (.int a :: st) v x := vE_s rfl rfl
theorem q180_87 : vE 180 87 [l0, l1, l2, l3, l4, l5, l6] (.int b :: .int a :: st) v x ↔ vE 180 88 [l0, l1, l2, l3, l4, l5, l6] (.int (a * b) :: st) v x := vE_s rfl rfl
theorem q180_88 : vE 180 88 [l0, l1, l2, l3, l4, l5, l6] st v x ↔ vE 180 89 [l0, l1, l2, l3, l4, l5, l6] (.int 4 :: st) v x := vE_s rfl (by rfl)
theorem q180_89 : vE 180 89 [l0, l1, l2, l3, l4, l5, .int a] st v x ↔ vE 180 91 [l0, l1, l2, l3, l4, l5, .int a] (.int a :: st) v x := vE_s rfl rfl
theorem q180_91 : vE 180 91 [l0, l1, l2, l3, l4, l5, l6] (.int b :: .int a :: st) v x ↔ vE 180 92 [l0, l1, l2, l3, l4, l5, l6] (.int (a * b) :: st) v x := vE_s rfl rfl
theorem q180_92 : vE 180 92 [l0, l1, l2, l3, l4, l5, l6] (.int b :: .int a :: st) v x ↔ vE 180 93 [l0, l1, l2, l3, l4, l5, l6] (.int (a + b) :: st) v x := vE_s rfl rfl
theorem q180_93 : vE 180 93 [l0, l1, l2, l3, l4, l5, l6] (w2 :: w1 :: w0 :: st) v x ↔ ∃ y : vm_Y, vE 181 0 [w0, w1, w2, .retAddr 0, .retAddr 0, .retAddr 0, .retAddr 0] [] v y ∧ vB 180 93 [l0, l1, l2, l3, l4, l5, l6] st y x := vE_cv rfl rfl rfl rfl
theorem q180_96 : vE 180 96 [l0, l1, l2, l3, l4, l5, .int a] st v x ↔ vE 180 99 [l0, l1, l2, l3, l4, l5, .int (a + 1)] st v x := vE_s rfl rfl
theorem q180_99 : vE 180 99 [l0, l1, l2, l3, l4, l5, l6] st v x ↔ vE 180 74 [l0, l1, l2, l3, l4, l5, l6] st v x := vE_s rfl rfl
theorem q180_102 : vE 180 102 [.ref p, l1, l2, l3, l4, l5, l6] st v x ↔ vE 180 103 [.ref p, l1, l2, l3, l4, l5, l6] (.ref p :: st) v x := vE_s rfl rfl
theorem q180_103 : vE 180 103 [l0, .int a, l2, l3, l4, l5, l6] st v x ↔ vE 180 104 [l0, .int a, l2, l3, l4, l5, l6] (.int a :: st) v x := vE_s rfl rfl
theorem q180_104 : vE 180 104 [l0, l1, l2, .int a, l4, l5, l6] st v x ↔ vE 180 105 [l0, l1, l2, .int a, l4, l5, l6] (.int a :: st) v x := vE_s rfl rfl
theorem q180_105 : vE 180 105 [.ref p, l1, l2, l3, l4, l5, l6] st v x ↔ vE 180 106 [.ref p, l1, l2, l3, l4, l5, l6] (.ref p :: st) v x := vE_s rfl rfl
theorem q180_106 : vE 180 106 [l0, l1, l2, l3, l4, l5, l6] (.ref p :: st) v x ↔ vE 180 109 [l0, l1, l2, l3, l4, l5, l6] (.ref (p + 1) :: st) v x := vE_s rfl rfl
theorem q180_109 : vE 180 109 [l0, l1, .int a, l3, l4, l5, l6] st v x ↔ vE 180 110 [l0, l1, .int a, l3, l4, l5, l6] (.int a :: st) v x := vE_s rfl rfl
theorem q180_110 : vE 180 110 [l0, l1, l2, l3, l4, l5, l6] (.int a :: .ref p :: st) v x ↔ vE 180 111 [l0, l1, l2, l3, l4, l5, l6] (.int (v.1 p a.toNatClampNeg) :: st) v x := vE_s rfl rfl
theorem q180_111 : vE 180 111 [l0, l1, l2, l3, l4, l5, l6] (.int b :: .int a :: st) v x ↔ if b ≤ a then vE 180 121 [l0, l1, l2, l3, l4, l5, l6] st v x else vE 180 114 [l0, l1, l2, l3, l4, l5, l6] st v x := vE_if rfl rfl
theorem q180_114 : vE 180 114 [l0, l1, l2, l3, l4, l5, l6] st v x ↔ vE 180 115 [l0, l1, l2, l3, l4, l5, l6] (.int 4 :: st) v x := vE_s rfl (by rfl)
theorem q180_115 : vE 180 115 [l0, l1, l2, l3, .int a, l5, l6] st v x ↔ vE 180 117 [l0, l1, l2, l3, .int a, l5, l6] (.int a :: st) v x := vE_s rfl rfl
theorem q180_117 : vE 180 117 [l0, l1, l2, l3, l4, l5, l6] (.int b :: .int a :: st) v x ↔ vE 180 118 [l0, l1, l2, l3, l4, l5, l6] (.int (a * b) :: st) v x := vE_s rfl rfl
theorem q180_118 : vE 180 118 [l0, l1, l2, l3, l4, l5, l6] st v x ↔ vE 180 122 [l0, l1, l2, l3, l4, l5, l6] st v x := vE_s rfl rfl
theorem q180_121 : vE 180 121 [l0, l1, l2, l3, l4, l5, l6] st v x ↔ vE 180 122 [l0, l1, l2, l3, l4, l5, l6] (.int (-1) :: st) v x := vE_s rfl (by rfl)
theorem q180_122 : vE 180 122 [l0, l1, l2, l3, l4, l5, l6] (w2 :: w1 :: w0 :: st) v x ↔ ∃ y : vm_Y, vE 192 0 [w0, w1, w2, .retAddr 0, .retAddr 0, .retAddr 0, .retAddr 0] [] v y ∧ vB 180 122 [l0, l1, l2, l3, l4, l5, l6] st y x := vE_cv rfl rfl rfl rfl
theorem q180_125 : vE 180 125 [l0, l1, l2, l3, l4, l5, l6] [] v x ↔ x = vd v := vE_vr rfl
theorem qt180 {X pc : Nat} {L r : List Value} : vB 180 pc L r (vt X v) x ↔ x = vt X v := vB_t rfl
/-! 181 PassCheckerModel.perform(II)V -/
theorem q181_0 : vE 181 0 [.ref p, l1, l2, l3, l4, l5, l6] st v x ↔ vE 181 1 [.ref p, l1, l2, l3, l4, l5, l6] (.ref p :: st) v x := vE_s rfl rfl
theorem q181_1 : vE 181 1 [l0, l1, l2, l3, l4, l5, l6] (.ref p :: st) v x ↔ vE 181 4 [l0, l1, l2, l3, l4, l5, l6] (.ref (p + 3) :: st) v x := vE_s rfl rfl
theorem q181_4 : vE 181 4 [l0, l1, .int a, l3, l4, l5, l6] st v x ↔ vE 181 5 [l0, l1, .int a, l3, l4, l5, l6] (.int a :: st) v x := vE_s rfl rfl
theorem q181_5 : vE 181 5 [l0, l1, l2, l3, l4, l5, l6] (.int a :: .ref p :: st) v x ↔ vE 181 6 [l0, l1, l2, l3, l4, l5, l6] (.int (v.1 p a.toNatClampNeg) :: st) v x := vE_s rfl rfl
theorem q181_6 : vE 181 6 [l0, l1, l2, l3, l4, l5, l6] (.int a :: st) v x ↔ vE 181 7 [l0, l1, l2, .int a, l4, l5, l6] st v x := vE_s rfl rfl
theorem q181_7 : vE 181 7 [l0, l1, l2, l3, l4, l5, l6] st v x ↔ vE 181 10 [l0, l1, l2, l3, l4, l5, l6] (.int 144 :: st) v x := vE_s rfl (by rfl)
theorem q181_10 : vE 181 10 [l0, .int a, l2, l3, l4, l5, l6] st v x ↔ vE 181 11 [l0, .int a, l2, l3, l4, l5, l6] (.int a :: st) v x := vE_s rfl rfl
theorem q181_11 : vE 181 11 [l0, l1, l2, l3, l4, l5, l6] (.int b :: .int a :: st) v x ↔ vE 181 12 [l0, l1, l2, l3, l4, l5, l6] (.int (a * b) :: st) v x := vE_s rfl rfl
theorem q181_12 : vE 181 12 [l0, l1, l2, l3, l4, l5, l6] (.int a :: st) v x ↔ vE 181 14 [l0, l1, l2, l3, .int a, l5, l6] st v x := vE_s rfl rfl
theorem q181_14 : vE 181 14 [l0, l1, l2, l3, .int a, l5, l6] st v x ↔ vE 181 16 [l0, l1, l2, l3, .int a, l5, l6] (.int a :: st) v x := vE_s rfl rfl
theorem q181_16 : vE 181 16 [l0, l1, l2, l3, l4, l5, l6] st v x ↔ vE 181 18 [l0, l1, l2, l3, l4, l5, l6] (.int 24 :: st) v x := vE_s rfl (by rfl)
theorem q181_18 : vE 181 18 [.ref p, l1, l2, l3, l4, l5, l6] st v x ↔ vE 181 19 [.ref p, l1, l2, l3, l4, l5, l6] (.ref p :: st) v x := vE_s rfl rfl
theorem q181_19 : vE 181 19 [l0, l1, l2, l3, l4, l5, l6] (.ref p :: st) v x ↔ vE 181 22 [l0, l1, l2, l3, l4, l5, l6] (.ref (p + 3) :: st) v x := vE_s rfl rfl
theorem q181_22 : vE 181 22 [l0, l1, .int a, l3, l4, l5, l6] st v x ↔ vE 181 23 [l0, l1, .int a, l3, l4, l5, l6] (.int a :: st) v x := vE_s rfl rfl
theorem q181_23 : vE 181 23 [l0, l1, l2, l3, l4, l5, l6] st v x ↔ vE 181 24 [l0, l1, l2, l3, l4, l5, l6] (.int 2 :: st) v x := vE_s rfl (by rfl)
theorem q181_24 : vE 181 24 [l0, l1, l2, l3, l4, l5, l6] (.int b :: .int a :: st) v x ↔ vE 181 25 [l0, l1, l2, l3, l4, l5, l6] (.int (a + b) :: st) v x := vE_s rfl rfl
theorem q181_25 : vE 181 25 [l0, l1, l2, l3, l4, l5, l6] (.int a :: .ref p :: st) v x ↔ vE 181 26 [l0, l1, l2, l3, l4, l5, l6] (.int (v.1 p a.toNatClampNeg) :: st) v x := vE_s rfl rfl
theorem q181_26 : vE 181 26 [l0, l1, l2, l3, l4, l5, l6] (.int b :: .int a :: st) v x ↔ vE 181 27 [l0, l1, l2, l3, l4, l5, l6] (.int (a * b) :: st) v x := vE_s rfl rfl
theorem q181_27 : vE 181 27 [l0, l1, l2, l3, l4, l5, l6] (.int b :: .int a :: st) v x ↔ vE 181 28 [l0, l1, l2, l3, l4, l5, l6] (.int (a + b) :: st) v x := vE_s rfl rfl
theorem q181_28 : vE 181 28 [l0, l1, l2, l3, l4, l5, l6] (.int a :: st) v x ↔ vE 181 30 [l0, l1, l2, l3, l4, .int a, l6] st v x := vE_s rfl rfl
theorem q181_30 : vE 181 30 [l0, l1, l2, l3, .int a, l5, l6] st v x ↔ vE 181 32 [l0, l1, l2, l3, .int a, l5, l6] (.int a :: st) v x := vE_s rfl rfl
theorem q181_32 : vE 181 32 [l0, l1, l2, l3, l4, l5, l6] st v x ↔ vE 181 34 [l0, l1, l2, l3, l4, l5, l6] (.int 24 :: st) v x := vE_s rfl (by rfl)
theorem q181_34 : vE 181 34 [l0, l1, l2, .int a, l4, l5, l6] st v x ↔ vE 181 35 [l0, l1, l2, .int a, l4, l5, l6] (.int a :: st) v x := vE_s rfl rfl
theorem q181_35 : vE 181 35 [l0, l1, l2, l3, l4, l5, l6] (w0 :: st) v x ↔ ∃ y : vm_Y, vE 156 0 [w0] [] v y ∧ vB 181 35 [l0, l1, l2, l3, l4, l5, l6] st y x := vE_cs rfl rfl rfl rfl
theorem q181_38 : vE 181 38 [l0, l1, l2, l3, l4, l5, l6] (.int a :: st) v x ↔ if a = 0 then vE 181 52 [l0, l1, l2, l3, l4, l5, l6] st v x else vE 181 41 [l0, l1, l2, l3, l4, l5, l6] st v x := vE_if rfl rfl
theorem q181_41 : vE 181 41 [.ref p, l1, l2, l3, l4, l5, l6] st v x ↔ vE 181 42 [.ref p, l1, l2, l3, l4, l5, l6] (.ref p :: st) v x := vE_s rfl rfl
theorem q181_42 : vE 181 42 [l0, l1, l2, l3, l4, l5, l6] (.ref p :: st) v x ↔ vE 181 45 [l0, l1, l2, l3, l4, l5, l6] (.ref (p + 3) :: st) v x := vE_s rfl rfl
theorem q181_45 : vE 181 45 [l0, l1, .int a, l3, l4, l5, l6] st v x ↔ vE 181 46 [l0, l1, .int a, l3, l4, l5, l6] (.int a :: st) v x := vE_s rfl rfl
theorem q181_46 : vE 181 46 [l0, l1, l2, l3, l4, l5, l6] st v x ↔ vE 181 47 [l0, l1, l2, l3, l4, l5, l6] (.int 3 :: st) v x := vE_s rfl (by rfl)
theorem q181_47 : vE 181 47 [l0, l1, l2, l3, l4, l5, l6] (.int b :: .int a :: st) v x ↔ vE 181 48 [l0, l1, l2, l3, l4, l5, l6] (.int (a + b) :: st) v x := vE_s rfl rfl
theorem q181_48 : vE 181 48 [l0, l1, l2, l3, l4, l5, l6] (.int a :: .ref p :: st) v x ↔ vE 181 49 [l0, l1, l2, l3, l4, l5, l6] (.int (v.1 p a.toNatClampNeg) :: st) v x := vE_s rfl rfl
theorem q181_49 : vE 181 49 [l0, l1, l2, l3, l4, l5, l6] st v x ↔ vE 181 53 [l0, l1, l2, l3, l4, l5, l6] st v x := vE_s rfl rfl
theorem q181_52 : vE 181 52 [l0, l1, l2, l3, l4, l5, l6] st v x ↔ vE 181 53 [l0, l1, l2, l3, l4, l5, l6] (.int 0 :: st) v x := vE_s rfl (by rfl)
theorem q181_53 : vE 181 53 [l0, l1, l2, l3, l4, l5, l6] (.int b :: .int a :: st) v x ↔ vE 181 54 [l0, l1, l2, l3, l4, l5, l6] (.int (a * b) :: st) v x := vE_s rfl rfl
theorem q181_54 : vE 181 54 [l0, l1, l2, l3, l4, l5, l6] (.int b :: .int a :: st) v x ↔ vE 181 55 [l0, l1, l2, l3, l4, l5, l6] (.int (a + b) :: st) v x := vE_s rfl rfl
theorem q181_55 : vE 181 55 [l0, l1, l2, l3, l4, l5, l6] (.int a :: st) v x ↔ vE 181 57 [l0, l1, l2, l3, l4, l5, .int a] st v x := vE_s rfl rfl
theorem q181_57 : vE 181 57 [l0, l1, l2, .int a, l4, l5, l6] st v x ↔ vE 181 58 [l0, l1, l2, .int a, l4, l5, l6] (.int a :: st) v x := vE_s rfl rfl
theorem q181_58 : vE 181 58 [l0, l1, l2, l3, l4, l5, l6] st v x ↔ vE 181 60 [l0, l1, l2, l3, l4, l5, l6] (.int 9 :: st) v x := vE_s rfl (by rfl)
theorem q181_60 : vE 181 60 [l0, l1, l2, l3, l4, l5, l6] (.int b :: .int a :: st) v x ↔ if a = b then vE 181 63 [l0, l1, l2, l3, l4, l5, l6] st v x else vE 181 93 [l0, l1, l2, l3, l4, l5, l6] st v x := vE_if rfl rfl
theorem q181_63 : vE 181 63 [.ref p, l1, l2, l3, l4, l5, l6] st v x ↔ vE 181 64 [.ref p, l1, l2, l3, l4, l5, l6] (.ref p :: st) v x := vE_s rfl rfl
theorem q181_64 : vE 181 64 [l0, .int a, l2, l3, l4, l5, l6] st v x ↔ vE 181 65 [l0, .int a, l2, l3, l4, l5, l6] (.int a :: st) v x := vE_s rfl rfl
theorem q181_65 : vE 181 65 [l0, l1, l2, l3, l4, l5, l6] st v x ↔ vE 181 67 [l0, l1, l2, l3, l4, l5, l6] (.int 9 :: st) v x := vE_s rfl (by rfl)
theorem q181_67 : vE 181 67 [.ref p, l1, l2, l3, l4, l5, l6] st v x ↔ vE 181 68 [.ref p, l1, l2, l3, l4, l5, l6] (.ref p :: st) v x := vE_s rfl rfl
theorem q181_68 : vE 181 68 [l0, l1, l2, l3, l4, l5, l6] (.ref p :: st) v x ↔ vE 181 71 [l0, l1, l2, l3, l4, l5, l6] (.ref (p + 8) :: st) v x := vE_s rfl rfl
theorem q181_71 : vE 181 71 [l0, l1, l2, l3, l4, .int a, l6] st v x ↔ vE 181 73 [l0, l1, l2, l3, l4, .int a, l6] (.int a :: st) v x := vE_s rfl rfl
theorem q181_73 : vE 181 73 [.ref p, l1, l2, l3, l4, l5, l6] st v x ↔ vE 181 74 [.ref p, l1, l2, l3, l4, l5, l6] (.ref p :: st) v x := vE_s rfl rfl
theorem q181_74 : vE 181 74 [l0, l1, l2, l3, l4, l5, l6] (.ref p :: st) v x ↔ vE 181 77 [l0, l1, l2, l3, l4, l5, l6] (.ref (p + 8) :: st) v x := vE_s rfl rfl
theorem q181_77 : vE 181 77 [l0, l1, l2, l3, l4, l5, .int a] st v x ↔ vE 181 79 [l0, l1, l2, l3, l4, l5, .int a] (.int a :: st) v x := vE_s rfl rfl
theorem q181_79 : vE 181 79 [l0, l1, l2, l3, l4, l5, l6] (w6 :: w5 :: w4 :: w3 :: w2 :: w1 :: w0 :: st) v x ↔ ∃ y : vm_Y, vE 182 0 [w0, w1, w2, w3, w4, w5, w6, .retAddr 0] [] v y ∧ vB 181 79 [l0, l1, l2, l3, l4, l5, l6] st y x := vE_cv rfl rfl rfl rfl
theorem q181_82 : vE 181 82 [.ref p, l1, l2, l3, l4, l5, l6] st v x ↔ vE 181 83 [.ref p, l1, l2, l3, l4, l5, l6] (.ref p :: st) v x := vE_s rfl rfl
theorem q181_83 : vE 181 83 [l0, l1, l2, l3, l4, l5, l6] (.ref p :: st) v x ↔ vE 181 86 [l0, l1, l2, l3, l4, l5, l6] (.ref (p + 14) :: st) v x := vE_s rfl rfl
theorem q181_86 : vE 181 86 [l0, l1, l2, l3, l4, l5, l6] st v x ↔ vE 181 87 [l0, l1, l2, l3, l4, l5, l6] (.int 0 :: st) v x := vE_s rfl (by rfl)
theorem q181_87 : vE 181 87 [l0, l1, l2, l3, l4, l5, l6] (.int a :: .ref p :: st) v x ↔ vE 181 88 [l0, l1, l2, l3, l4, l5, l6] (.int a :: .ref p :: .int a :: .ref p :: st) v x := vE_s rfl rfl
theorem q181_88 : vE 181 88 [l0, l1, l2, l3, l4, l5, l6] (.int a :: .ref p :: st) v x ↔ vE 181 89 [l0, l1, l2, l3, l4, l5, l6] (.int (v.1 p a.toNatClampNeg) :: st) v x := vE_s rfl rfl
theorem q181_89 : vE 181 89 [l0, l1, l2, l3, l4, l5, l6] st v x ↔ vE 181 90 [l0, l1, l2, l3, l4, l5, l6] (.int 1 :: st) v x := vE_s rfl (by rfl)
theorem q181_90 : vE 181 90 [l0, l1, l2, l3, l4, l5, l6] (.int b :: .int a :: st) v x ↔ vE 181 91 [l0, l1, l2, l3, l4, l5, l6] (.int (a + b) :: st) v x := vE_s rfl rfl
theorem q181_91 : vE 181 91 [l0, l1, l2, l3, l4, l5, l6] (.int b :: .int a :: .ref p :: st) v x ↔ vE 181 92 [l0, l1, l2, l3, l4, l5, l6] st (vm_si v p a.toNatClampNeg b) x := vE_s rfl rfl
theorem q181_92 : vE 181 92 [l0, l1, l2, l3, l4, l5, l6] [] v x ↔ x = vd v := vE_vr rfl
theorem q181_93 : vE 181 93 [l0, l1, l2, .int a, l4, l5, l6] st v x ↔ vE 181 94 [l0, l1, l2, .int a, l4, l5, l6] (.int a :: st) v x := vE_s rfl rfl
theorem q181_94 : vE 181 94 [l0, l1, l2, l3, l4, l5, l6] (.int a :: st) v x ↔ if a = 0 then vE 181 97 [l0, l1, l2, l3, l4, l5, l6] st v x else vE 181 116 [l0, l1, l2, l3, l4, l5, l6] st v x := vE_if rfl rfl
theorem q181_97 : vE 181 97 [.ref p, l1, l2, l3, l4, l5, l6] st v x ↔ vE 181 98 [.ref p, l1, l2, l3, l4, l5, l6] (.ref p :: st) v x := vE_s rfl rfl
theorem q181_98 : vE 181 98 [l0, l1, l2, l3, l4, l5, l6] (.ref p :: st) v x ↔ vE 181 101 [l0, l1, l2, l3, l4, l5, l6] (.ref (p + 13) :: st) v x := vE_s rfl rfl
theorem q181_101 : vE 181 101 [l0, l1, l2, l3, l4, l5, l6] st v x ↔ vE 181 102 [l0, l1, l2, l3, l4, l5, l6] (.int 0 :: st) v x := vE_s rfl (by rfl)
theorem q181_102 : vE 181 102 [.ref p, l1, l2, l3, l4, l5, l6] st v x ↔ vE 181 103 [.ref p, l1, l2, l3, l4, l5, l6] (.ref p :: st) v x := vE_s rfl rfl
theorem q181_103 : vE 181 103 [l0, l1, l2, l3, l4, l5, l6] (.ref p :: st) v x ↔ vE 181 106 [l0, l1, l2, l3, l4, l5, l6] (.ref (p + 3) :: st) v x := vE_s rfl rfl
theorem q181_106 : vE 181 106 [l0, l1, .int a, l3, l4, l5, l6] st v x ↔ vE 181 107 [l0, l1, .int a, l3, l4, l5, l6] (.int a :: st) v x := vE_s rfl rfl
theorem q181_107 : vE 181 107 [l0, l1, l2, l3, l4, l5, l6] st v x ↔ vE 181 108 [l0, l1, l2, l3, l4, l5, l6] (.int 3 :: st) v x := vE_s rfl (by rfl)
theorem q181_108 : vE 181 108 [l0, l1, l2, l3, l4, l5, l6] (.int b :: .int a :: st) v x ↔ vE 181 109 [l0, l1, l2, l3, l4, l5, l6] (.int (a + b) :: st) v x := vE_s rfl rfl
theorem q181_109 : vE 181 109 [l0, l1, l2, l3, l4, l5, l6] (.int a :: .ref p :: st) v x ↔ vE 181 110 [l0, l1, l2, l3, l4, l5, l6] (.int (v.1 p a.toNatClampNeg) :: st) v x := vE_s rfl rfl
theorem q181_110 : vE 181 110 [l0, l1, l2, l3, l4, l5, l6] (w2 :: w1 :: w0 :: st) v x ↔ ∃ y : vm_Y, vE 179 0 [w0, w1, w2, .retAddr 0] [] v y ∧ vB 181 110 [l0, l1, l2, l3, l4, l5, l6] st y x := vE_cs rfl rfl rfl rfl
theorem q181_113 : vE 181 113 [l0, l1, l2, l3, l4, l5, l6] st v x ↔ vE 181 181 [l0, l1, l2, l3, l4, l5, l6] st v x := vE_s rfl rfl
theorem q181_116 : vE 181 116 [l0, l1, l2, .int a, l4, l5, l6] st v x ↔ vE 181 117 [l0, l1, l2, .int a, l4, l5, l6] (.int a :: st) v x := vE_s rfl rfl
theorem q181_117 : vE 181 117 [l0, l1, l2, l3, l4, l5, l6] st v x ↔ vE 181 118 [l0, l1, l2, l3, l4, l5, l6] (.int 1 :: st) v x := vE_s rfl (by rfl)
theorem q181_118 : vE 181 118 [l0, l1, l2, l3, l4, l5, l6] (.int b :: .int a :: st) v x ↔ if a = b then vE 181 121 [l0, l1, l2, l3, l4, l5, l6] st v x else vE 181 138 [l0, l1, l2, l3, l4, l5, l6] st v x := vE_if rfl rfl
theorem q181_121 : vE 181 121 [.ref p, l1, l2, l3, l4, l5, l6] st v x ↔ vE 181 122 [.ref p, l1, l2, l3, l4, l5, l6] (.ref p :: st) v x := vE_s rfl rfl
theorem q181_122 : vE 181 122 [l0, l1, l2, l3, l4, l5, l6] (.ref p :: st) v x ↔ vE 181 125 [l0, l1, l2, l3, l4, l5, l6] (.ref (p + 8) :: st) v x := vE_s rfl rfl
theorem q181_125 : vE 181 125 [l0, l1, l2, l3, l4, .int a, l6] st v x ↔ vE 181 127 [l0, l1, l2, l3, l4, .int a, l6] (.int a :: st) v x := vE_s rfl rfl
theorem q181_127 : vE 181 127 [.ref p, l1, l2, l3, l4, l5, l6] st v x ↔ vE 181 128 [.ref p, l1, l2, l3, l4, l5, l6] (.ref p :: st) v x := vE_s rfl rfl
theorem q181_128 : vE 181 128 [l0, l1, l2, l3, l4, l5, l6] (.ref p :: st) v x ↔ vE 181 131 [l0, l1, l2, l3, l4, l5, l6] (.ref (p + 13) :: st) v x := vE_s rfl rfl
theorem q181_131 : vE 181 131 [l0, l1, l2, l3, l4, l5, l6] st v x ↔ vE 181 132 [l0, l1, l2, l3, l4, l5, l6] (.int 0 :: st) v x := vE_s rfl (by rfl)
theorem q181_132 : vE 181 132 [l0, l1, l2, l3, l4, l5, l6] (w3 :: w2 :: w1 :: w0 :: st) v x ↔ ∃ y : vm_Y, vE 183 0 [w0, w1, w2, w3, .retAddr 0] [] v y ∧ vB 181 132 [l0, l1, l2, l3, l4, l5, l6] st y x := vE_cs rfl rfl rfl rfl
theorem q181_135 : vE 181 135 [l0, l1, l2, l3, l4, l5, l6] st v x ↔ vE 181 181 [l0, l1, l2, l3, l4, l5, l6] st v x := vE_s rfl rfl
theorem q181_138 : vE 181 138 [l0, l1, l2, .int a, l4, l5, l6] st v x ↔ vE 181 139 [l0, l1, l2, .int a, l4, l5, l6] (.int a :: st) v x := vE_s rfl rfl
theorem q181_139 : vE 181 139 [l0, l1, l2, l3, l4, l5, l6] st v x ↔ vE 181 141 [l0, l1, l2, l3, l4, l5, l6] (.int 7 :: st) v x := vE_s rfl (by rfl)
theorem q181_141 : vE 181 141 [l0, l1, l2, l3, l4, l5, l6] (.int b :: .int a :: st) v x ↔ if a = b then vE 181 144 [l0, l1, l2, l3, l4, l5, l6] st v x else vE 181 156 [l0, l1, l2, l3, l4, l5, l6] st v x := vE_if rfl rfl
theorem q181_144 : vE 181 144 [.ref p, l1, l2, l3, l4, l5, l6] st v x ↔ vE 181 145 [.ref p, l1, l2, l3, l4, l5, l6] (.ref p :: st) v x := vE_s rfl rfl
theorem q181_145 : vE 181 145 [l0, .int a, l2, l3, l4, l5, l6] st v x ↔ vE 181 146 [l0, .int a, l2, l3, l4, l5, l6] (.int a :: st) v x := vE_s rfl rfl
theorem q181_146 : vE 181 146 [l0, l1, l2, l3, l4, .int a, l6] st v x ↔ vE 181 148 [l0, l1, l2, l3, l4, .int a, l6] (.int a :: st) v x := vE_s rfl rfl
theorem q181_148 : vE 181 148 [l0, l1, l2, l3, l4, l5, .int a] st v x ↔ vE 181 150 [l0, l1, l2, l3, l4, l5, .int a] (.int a :: st) v x := vE_s rfl rfl
theorem q181_150 : vE 181 150 [l0, l1, l2, l3, l4, l5, l6] (w3 :: w2 :: w1 :: w0 :: st) v x ↔ ∃ y : vm_Y, vE 184 0 [w0, w1, w2, w3, .retAddr 0] [] v y ∧ vB 181 150 [l0, l1, l2, l3, l4, l5, l6] st y x := vE_cv rfl rfl rfl rfl
theorem q181_153 : vE 181 153 [l0, l1, l2, l3, l4, l5, l6] st v x ↔ vE 181 181 [l0, l1, l2, l3, l4, l5, l6] st v x := vE_s rfl rfl
theorem q181_156 : vE 181 156 [l0, l1, l2, .int a, l4, l5, l6] st v x ↔ vE 181 157 [l0, l1, l2, .int a, l4, l5, l6] (.int a :: st) v x := vE_s rfl rfl
theorem q181_157 : vE 181 157 [l0, l1, l2, l3, l4, l5, l6] st v x ↔ vE 181 159 [l0, l1, l2, l3, l4, l5, l6] (.int 8 :: st) v x := vE_s rfl (by rfl)
theorem q181_159 : vE 181 159 [l0, l1, l2, l3, l4, l5, l6] (.int b :: .int a :: st) v x ↔ if a = b then vE 181 162 [l0, l1, l2, l3, l4, l5, l6] st v x else vE 181 172 [l0, l1, l2, l3, l4, l5, l6] st v x := vE_if rfl rfl
theorem q181_162 : vE 181 162 [.ref p, l1, l2, l3, l4, l5, l6] st v x ↔ vE 181 163 [.ref p, l1, l2, l3, l4, l5, l6] (.ref p :: st) v x := vE_s rfl rfl
theorem q181_163 : vE 181 163 [l0, .int a, l2, l3, l4, l5, l6] st v x ↔ vE 181 164 [l0, .int a, l2, l3, l4, l5, l6] (.int a :: st) v x := vE_s rfl rfl
theorem q181_164 : vE 181 164 [l0, l1, l2, l3, l4, .int a, l6] st v x ↔ vE 181 166 [l0, l1, l2, l3, l4, .int a, l6] (.int a :: st) v x := vE_s rfl rfl
theorem q181_166 : vE 181 166 [l0, l1, l2, l3, l4, l5, l6] (w2 :: w1 :: w0 :: st) v x ↔ ∃ y : vm_Y, vE 190 0 [w0, w1, w2, .retAddr 0, .retAddr 0] [] v y ∧ vB 181 166 [l0, l1, l2, l3, l4, l5, l6] st y x := vE_cv rfl rfl rfl rfl
theorem q181_169 : vE 181 169 [l0, l1, l2, l3, l4, l5, l6] st v x ↔ vE 181 181 [l0, l1, l2, l3, l4, l5, l6] st v x := vE_s rfl rfl
theorem q181_172 : vE 181 172 [.ref p, l1, l2, l3, l4, l5, l6] st v x ↔ vE 181 173 [.ref p, l1, l2, l3, l4, l5, l6] (.ref p :: st) v x := vE_s rfl rfl
theorem q181_173 : vE 181 173 [l0, l1, l2, .int a, l4, l5, l6] st v x ↔ vE 181 174 [l0, l1, l2, .int a, l4, l5, l6] (.int a :: st) v x := vE_s rfl rfl
theorem q181_174 : vE 181 174 [l0, l1, l2, l3, l4, .int a, l6] st v x ↔ vE 181 176 [l0, l1, l2, l3, l4, .int a, l6] (.int a :: st) v x := vE_s rfl rfl
theorem q181_176 : vE 181 176 [l0, l1, l2, l3, l4, l5, .int a] st v x ↔ vE 181 178 [l0, l1, l2, l3, l4, l5, .int a] (.int a :: st) v x := vE_s rfl rfl
theorem q181_178 : vE 181 178 [l0, l1, l2, l3, l4, l5, l6] (w3 :: w2 :: w1 :: w0 :: st) v x ↔ ∃ y : vm_Y, vE 191 0 [w0, w1, w2, w3, .retAddr 0, .retAddr 0, .retAddr 0, .retAddr 0, .retAddr 0, .retAddr 0] [] v y ∧ vB 181 178 [l0, l1, l2, l3, l4, l5, l6] st y x := vE_cv rfl rfl rfl rfl
theorem q181_181 : vE 181 181 [.ref p, l1, l2, l3, l4, l5, l6] st v x ↔ vE 181 182 [.ref p, l1, l2, l3, l4, l5, l6] (.ref p :: st) v x := vE_s rfl rfl
theorem q181_182 : vE 181 182 [l0, l1, l2, l3, l4, l5, l6] (.ref p :: st) v x ↔ vE 181 185 [l0, l1, l2, l3, l4, l5, l6] (.ref (p + 13) :: st) v x := vE_s rfl rfl
theorem q181_185 : vE 181 185 [l0, l1, l2, l3, l4, l5, l6] st v x ↔ vE 181 186 [l0, l1, l2, l3, l4, l5, l6] (.int 0 :: st) v x := vE_s rfl (by rfl)
theorem q181_186 : vE 181 186 [.ref p, l1, l2, l3, l4, l5, l6] st v x ↔ vE 181 187 [.ref p, l1, l2, l3, l4, l5, l6] (.ref p :: st) v x := vE_s rfl rfl
theorem q181_187 : vE 181 187 [l0, l1, l2, l3, l4, l5, l6] (.ref p :: st) v x ↔ vE 181 190 [l0, l1, l2, l3, l4, l5, l6] (.ref (p + 8) :: st) v x := vE_s rfl rfl
theorem q181_190 : vE 181 190 [l0, l1, l2, l3, .int a, l5, l6] st v x ↔ vE 181 192 [l0, l1, l2, l3, .int a, l5, l6] (.int a :: st) v x := vE_s rfl rfl
theorem q181_192 : vE 181 192 [l0, l1, l2, l3, l4, l5, l6] st v x ↔ vE 181 194 [l0, l1, l2, l3, l4, l5, l6] (.int 24 :: st) v x := vE_s rfl (by rfl)
theorem q181_194 : vE 181 194 [.ref p, l1, l2, l3, l4, l5, l6] st v x ↔ vE 181 195 [.ref p, l1, l2, l3, l4, l5, l6] (.ref p :: st) v x := vE_s rfl rfl
theorem q181_195 : vE 181 195 [l0, l1, l2, l3, l4, l5, l6] (.ref p :: st) v x ↔ vE 181 198 [l0, l1, l2, l3, l4, l5, l6] (.ref (p + 3) :: st) v x := vE_s rfl rfl
theorem q181_198 : vE 181 198 [l0, l1, .int a, l3, l4, l5, l6] st v x ↔ vE 181 199 [l0, l1, .int a, l3, l4, l5, l6] (.int a :: st) v x := vE_s rfl rfl
theorem q181_199 : vE 181 199 [l0, l1, l2, l3, l4, l5, l6] st v x ↔ vE 181 200 [l0, l1, l2, l3, l4, l5, l6] (.int 1 :: st) v x := vE_s rfl (by rfl)
theorem q181_200 : vE 181 200 [l0, l1, l2, l3, l4, l5, l6] (.int b :: .int a :: st) v x ↔ vE 181 201 [l0, l1, l2, l3, l4, l5, l6] (.int (a + b) :: st) v x := vE_s rfl rfl
theorem q181_201 : vE 181 201 [l0, l1, l2, l3, l4, l5, l6] (.int a :: .ref p :: st) v x ↔ vE 181 202 [l0, l1, l2, l3, l4, l5, l6] (.int (v.1 p a.toNatClampNeg) :: st) v x := vE_s rfl rfl
theorem q181_202 : vE 181 202 [l0, l1, l2, l3, l4, l5, l6] (.int b :: .int a :: st) v x ↔ vE 181 203 [l0, l1, l2, l3, l4, l5, l6] (.int (a * b) :: st) v x := vE_s rfl rfl
theorem q181_203 : vE 181 203 [l0, l1, l2, l3, l4, l5, l6] (.int b :: .int a :: st) v x ↔ vE 181 204 [l0, l1, l2, l3, l4, l5, l6] (.int (a + b) :: st) v x := vE_s rfl rfl
theorem q181_204 : vE 181 204 [l0, l1, l2, l3, l4, l5, l6] (w3 :: w2 :: w1 :: w0 :: st) v x ↔ ∃ y : vm_Y, vE 183 0 [w0, w1, w2, w3, .retAddr 0] [] v y ∧ vB 181 204 [l0, l1, l2, l3, l4, l5, l6] st y x := vE_cs rfl rfl rfl rfl
theorem q181_207 : vE 181 207 [l0, l1, l2, l3, l4, l5, l6] [] v x ↔ x = vd v := vE_vr rfl
theorem qt181 {X pc : Nat} {L r : List Value} : vB 181 pc L r (vt X v) x ↔ x = vt X v := vB_t rfl
/-! 182 PassCheckerModel.effect(II[II[II)V -/
theorem q182_0 : vE 182 0 [l0, l1, l2, l3, l4, l5, l6, l7] st v x ↔ vE 182 2 [l0, l1, l2, l3, l4, l5, l6, l7] (.int 8 :: st) v x := vE_s rfl (by rfl)
theorem q182_2 : vE 182 2 [l0, .int a, l2, l3, l4, l5, l6, l7] st v x ↔ vE 182 3 [l0, .int a, l2, l3, l4, l5, l6, l7] (.int a :: st) v x := vE_s rfl rfl
theorem q182_3 : vE 182 3 [l0, l1, l2, l3, l4, l5, l6, l7] (.int b :: .int a :: st) v x ↔ vE 182 4 [l0, l1, l2, l3, l4, l5, l6, l7] (.int (a * b) :: st) v x := vE_s rfl rfl
theorem q182_4 : vE 182 4 [.ref p, l1, l2, l3, l4, l5, l6, l7] st v x ↔ vE 182 5 [.ref p, l1, l2, l3, l4, l5, l6, l7] (.ref p :: st) v x := vE_s rfl rfl
theorem q182_5 : vE 182 5 [l0, l1, l2, l3, l4, l5, l6, l7] (.ref p :: st) v x ↔ vE 182 8 [l0, l1, l2, l3, l4, l5, l6, l7] (.ref (p + 9) :: st) v x := vE_s rfl rfl
theorem q182_8 : vE 182 8 [l0, .int a, l2, l3, l4, l5, l6, l7] st v x ↔ vE 182 9 [l0, .int a, l2, l3, l4, l5, l6, l7] (.int a :: st) v x := vE_s rfl rfl
theorem q182_9 : vE 182 9 [l0, l1, l2, l3, l4, l5, l6, l7] (.int a :: .ref p :: st) v x ↔ vE 182 10 [l0, l1, l2, l3, l4, l5, l6, l7] (.int (v.1 p a.toNatClampNeg) :: st) v x := vE_s rfl rfl
theorem q182_10 : vE 182 10 [l0, l1, l2, l3, l4, l5, l6, l7] (.int b :: .int a :: st) v x ↔ vE 182 11 [l0, l1, l2, l3, l4, l5, l6, l7] (.int (a + b) :: st) v x := vE_s rfl rfl
theorem q182_11 : vE 182 11 [l0, l1, l2, l3, l4, l5, l6, l7] (.int a :: st) v x ↔ vE 182 13 [l0, l1, l2, l3, l4, l5, l6, .int a] st v x := vE_s rfl rfl
theorem q182_13 : vE 182 13 [.ref p, l1, l2, l3, l4, l5, l6, l7] st v x ↔ vE 182 14 [.ref p, l1, l2, l3, l4, l5, l6, l7] (.ref p :: st) v x := vE_s rfl rfl
theorem q182_14 : vE 182 14 [l0, l1, l2, l3, l4, l5, l6, l7] (.ref p :: st) v x ↔ vE 182 17 [l0, l1, l2, l3, l4, l5, l6, l7] (.ref (p + 10) :: st) v x := vE_s rfl rfl
theorem q182_17 : vE 182 17 [l0, l1, l2, l3, l4, l5, l6, .int a] st v x ↔ vE 182 19 [l0, l1, l2, l3, l4, l5, l6, .int a] (.int a :: st) v x := vE_s rfl rfl
theorem q182_19 : vE 182 19 [l0, l1, .int a, l3, l4, l5, l6, l7] st v x ↔ vE 182 20 [l0, l1, .int a, l3, l4, l5, l6, l7] (.int a :: st) v x := vE_s rfl rfl
theorem q182_20 : vE 182 20 [l0, l1, l2, l3, l4, l5, l6, l7] (.int b :: .int a :: .ref p :: st) v x ↔ vE 182 21 [l0, l1, l2, l3, l4, l5, l6, l7] st (vm_si v p a.toNatClampNeg b) x := vE_s rfl rfl
theorem q182_21 : vE 182 21 [l0, l1, l2, .ref p, l4, l5, l6, l7] st v x ↔ vE 182 22 [l0, l1, l2, .ref p, l4, l5, l6, l7] (.ref p :: st) v x := vE_s rfl rfl
theorem q182_22 : vE 182 22 [l0, l1, l2, l3, .int a, l5, l6, l7] st v x ↔ vE 182 24 [l0, l1, l2, l3, .int a, l5, l6, l7] (.int a :: st) v x := vE_s rfl rfl
theorem q182_24 : vE 182 24 [.ref p, l1, l2, l3, l4, l5, l6, l7] st v x ↔ vE 182 25 [.ref p, l1, l2, l3, l4, l5, l6, l7] (.ref p :: st) v x := vE_s rfl rfl
theorem q182_25 : vE 182 25 [l0, l1, l2, l3, l4, l5, l6, l7] (.ref p :: st) v x ↔ vE 182 28 [l0, l1, l2, l3, l4, l5, l6, l7] (.ref (p + 11) :: st) v x := vE_s rfl rfl
theorem q182_28 : vE 182 28 [l0, l1, l2, l3, l4, l5, l6, l7] st v x ↔ vE 182 30 [l0, l1, l2, l3, l4, l5, l6, l7] (.int 24 :: st) v x := vE_s rfl (by rfl)
theorem q182_30 : vE 182 30 [l0, l1, l2, l3, l4, l5, l6, .int a] st v x ↔ vE 182 32 [l0, l1, l2, l3, l4, l5, l6, .int a] (.int a :: st) v x := vE_s rfl rfl
theorem q182_32 : vE 182 32 [l0, l1, l2, l3, l4, l5, l6, l7] (.int b :: .int a :: st) v x ↔ vE 182 33 [l0, l1, l2, l3, l4, l5, l6, l7] (.int (a * b) :: st) v x := vE_s rfl rfl
theorem q182_33 : vE 182 33 [l0, l1, l2, l3, l4, l5, l6, l7] (w3 :: w2 :: w1 :: w0 :: st) v x ↔ ∃ y : vm_Y, vE 183 0 [w0, w1, w2, w3, .retAddr 0] [] v y ∧ vB 182 33 [l0, l1, l2, l3, l4, l5, l6, l7] st y x := vE_cs rfl rfl rfl rfl
theorem q182_36 : vE 182 36 [l0, l1, l2, l3, l4, .ref p, l6, l7] st v x ↔ vE 182 38 [l0, l1, l2, l3, l4, .ref p, l6, l7] (.ref p :: st) v x := vE_s rfl rfl
theorem q182_38 : vE 182 38 [l0, l1, l2, l3, l4, l5, .int a, l7] st v x ↔ vE 182 40 [l0, l1, l2, l3, l4, l5, .int a, l7] (.int a :: st) v x := vE_s rfl rfl
theorem q182_40 : vE 182 40 [.ref p, l1, l2, l3, l4, l5, l6, l7] st v x ↔ vE 182 41 [.ref p, l1, l2, l3, l4, l5, l6, l7] (.ref p :: st) v x := vE_s rfl rfl
theorem q182_41 : vE 182 41 [l0, l1, l2, l3, l4, l5, l6, l7] (.ref p :: st) v x ↔ vE 182 44 [l0, l1, l2, l3, l4, l5, l6, l7] (.ref (p + 12) :: st) v x := vE_s rfl rfl
theorem q182_44 : vE 182 44 [l0, l1, l2, l3, l4, l5, l6, l7] st v x ↔ vE 182 46 [l0, l1, l2, l3, l4, l5, l6, l7] (.int 24 :: st) v x := vE_s rfl (by rfl)
theorem q182_46 : vE 182 46 [l0, l1, l2, l3, l4, l5, l6, .int a] st v x ↔ vE 182 48 [l0, l1, l2, l3, l4, l5, l6, .int a] (.int a :: st) v x := vE_s rfl rfl
theorem q182_48 : vE 182 48 [l0, l1, l2, l3, l4, l5, l6, l7] (.int b :: .int a :: st) v x ↔ vE 182 49 [l0, l1, l2, l3, l4, l5, l6, l7] (.int (a * b) :: st) v x := vE_s rfl rfl
theorem q182_49 : vE 182 49 [l0, l1, l2, l3, l4, l5, l6, l7] (w3 :: w2 :: w1 :: w0 :: st) v x ↔ ∃ y : vm_Y, vE 183 0 [w0, w1, w2, w3, .retAddr 0] [] v y ∧ vB 182 49 [l0, l1, l2, l3, l4, l5, l6, l7] st y x := vE_cs rfl rfl rfl rfl
theorem q182_52 : vE 182 52 [.ref p, l1, l2, l3, l4, l5, l6, l7] st v x ↔ vE 182 53 [.ref p, l1, l2, l3, l4, l5, l6, l7] (.ref p :: st) v x := vE_s rfl rfl
theorem q182_53 : vE 182 53 [l0, l1, l2, l3, l4, l5, l6, l7] (.ref p :: st) v x ↔ vE 182 56 [l0, l1, l2, l3, l4, l5, l6, l7] (.ref (p + 9) :: st) v x := vE_s rfl rfl
theorem q182_56 : vE 182 56 [l0, .int a, l2, l3, l4, l5, l6, l7] st v x ↔ vE 182 57 [l0, .int a, l2, l3, l4, l5, l6, l7] (.int a :: st) v x := vE_s rfl rfl
theorem q182_57 : vE 182 57 [l0, l1, l2, l3, l4, l5, l6, l7] (.int a :: .ref p :: st) v x ↔ vE 182 58 [l0, l1, l2, l3, l4, l5, l6, l7] (.int a :: .ref p :: .int a :: .ref p :: st) v x := vE_s rfl rfl
theorem q182_58 : vE 182 58 [l0, l1, l2, l3, l4, l5, l6, l7] (.int a :: .ref p :: st) v x ↔ vE 182 59 [l0, l1, l2, l3, l4, l5, l6, l7] (.int (v.1 p a.toNatClampNeg) :: st) v x := vE_s rfl rfl
theorem q182_59 : vE 182 59 [l0, l1, l2, l3, l4, l5, l6, l7] st v x ↔ vE 182 60 [l0, l1, l2, l3, l4, l5, l6, l7] (.int 1 :: st) v x := vE_s rfl (by rfl)
theorem q182_60 : vE 182 60 [l0, l1, l2, l3, l4, l5, l6, l7] (.int b :: .int a :: st) v x ↔ vE 182 61 [l0, l1, l2, l3, l4, l5, l6, l7] (.int (a + b) :: st) v x := vE_s rfl rfl
theorem q182_61 : vE 182 61 [l0, l1, l2, l3, l4, l5, l6, l7] (.int b :: .int a :: .ref p :: st) v x ↔ vE 182 62 [l0, l1, l2, l3, l4, l5, l6, l7] st (vm_si v p a.toNatClampNeg b) x := vE_s rfl rfl
theorem q182_62 : vE 182 62 [l0, l1, l2, l3, l4, l5, l6, l7] [] v x ↔ x = vd v := vE_vr rfl
theorem qt182 {X pc : Nat} {L r : List Value} : vB 182 pc L r (vt X v) x ↔ x = vt X v := vB_t rfl
/-! 183 PassCheckerModel.move([II[II)V -/
theorem q183_0 : vE 183 0 [l0, l1, l2, l3, l4] st v x ↔ vE 183 1 [l0, l1, l2, l3, l4] (.int 0 :: st) v x := vE_s rfl (by rfl)
theorem q183_1 : vE 183 1 [l0, l1, l2, l3, l4] (.int a :: st) v x ↔ vE 183 3 [l0, l1, l2, l3, .int a] st v x := vE_s rfl rfl
theorem q183_3 : vE 183 3 [l0, l1, l2, l3, .int a] st v x ↔ vE 183 5 [l0, l1, l2, l3, .int a] (.int a :: st) v x := vE_s rfl rfl
theorem q183_5 : vE 183 5 [l0, l1, l2, l3, l4] st v x ↔ vE 183 7 [l0, l1, l2, l3, l4] (.int 24 :: st) v x := vE_s rfl (by rfl)
theorem q183_7 : vE 183 7 [l0, l1, l2, l3, l4] (.int b :: .int a :: st) v x ↔ if b ≤ a then vE 183 28 [l0, l1, l2, l3, l4] st v x else vE 183 10 [l0, l1, l2, l3, l4] st v x := vE_if rfl rfl
theorem q183_10 : vE 183 10 [l0, l1, .ref p, l3, l4] st v x ↔ vE 183 11 [l0, l1, .ref p, l3, l4] (.ref p :: st) v x := vE_s rfl rfl
theorem q183_11 : vE 183 11 [l0, l1, l2, .int a, l4] st v x ↔ vE 183 12 [l0, l1, l2, .int a, l4] (.int a :: st) v x := vE_s rfl rfl
theorem q183_12 : vE 183 12 [l0, l1, l2, l3, .int a] st v x ↔ vE 183 14 [l0, l1, l2, l3, .int a] (.int a :: st) v x := vE_s rfl rfl
theorem q183_14 : vE 183 14 [l0, l1, l2, l3, l4] (.int b :: .int a :: st) v x ↔ vE 183 15 [l0, l1, l2, l3, l4] (.int (a + b) :: st) v x := vE_s rfl rfl
theorem q183_15 : vE 183 15 [.ref p, l1, l2, l3, l4] st v x ↔ vE 183 16 [.ref p, l1, l2, l3, l4] (.ref p :: st) v x := vE_s rfl rfl
theorem q183_16 : vE 183 16 [l0, .int a, l2, l3, l4] st v x ↔ vE 183 17 [l0, .int a, l2, l3, l4] (.int a :: st) v x := vE_s rfl rfl
theorem q183_17 : vE 183 17 [l0, l1, l2, l3, .int a] st v x ↔ vE 183 19 [l0, l1, l2, l3, .int a] (.int a :: st) v x := vE_s rfl rfl
theorem q183_19 : vE 183 19 [l0, l1, l2, l3, l4] (.int b :: .int a :: st) v x ↔ vE 183 20 [l0, l1, l2, l3, l4] (.int (a + b) :: st) v x := vE_s rfl rfl
theorem q183_20 : vE 183 20 [l0, l1, l2, l3, l4] (.int a :: .ref p :: st) v x ↔ vE 183 21 [l0, l1, l2, l3, l4] (.int (v.1 p a.toNatClampNeg) :: st) v x := vE_s rfl rfl
theorem q183_21 : vE 183 21 [l0, l1, l2, l3, l4] (.int b :: .int a :: .ref p :: st) v x ↔ vE 183 22 [l0, l1, l2, l3, l4] st (vm_si v p a.toNatClampNeg b) x := vE_s rfl rfl
theorem q183_22 : vE 183 22 [l0, l1, l2, l3, .int a] st v x ↔ vE 183 25 [l0, l1, l2, l3, .int (a + 1)] st v x := vE_s rfl rfl
theorem q183_25 : vE 183 25 [l0, l1, l2, l3, l4] st v x ↔ vE 183 3 [l0, l1, l2, l3, l4] st v x := vE_s rfl rfl
theorem q183_28 : vE 183 28 [l0, l1, l2, l3, l4] [] v x ↔ x = vd v := vE_vr rfl
/-! 184 PassCheckerModel.divide(III)V -/
theorem q184_0 : vE 184 0 [.ref p, l1, l2, l3, l4] st v x ↔ vE 184 1 [.ref p, l1, l2, l3, l4] (.ref p :: st) v x := vE_s rfl rfl
theorem q184_1 : vE 184 1 [l0, l1, l2, l3, l4] (.ref p :: st) v x ↔ vE 184 4 [l0, l1, l2, l3, l4] (.ref (p + 8) :: st) v x := vE_s rfl rfl
theorem q184_4 : vE 184 4 [l0, l1, l2, .int a, l4] st v x ↔ vE 184 5 [l0, l1, l2, .int a, l4] (.int a :: st) v x := vE_s rfl rfl
theorem q184_5 : vE 184 5 [l0, l1, l2, l3, l4] (w1 :: w0 :: st) v x ↔ ∃ y : vm_Y, vE 185 0 [w0, w1, .retAddr 0, .retAddr 0] [] v y ∧ vB 184 5 [l0, l1, l2, l3, l4] st y x := vE_cs rfl rfl rfl rfl
theorem q184_8 : vE 184 8 [l0, l1, l2, l3, l4] (.int a :: st) v x ↔ vE 184 10 [l0, l1, l2, l3, .int a] st v x := vE_s rfl rfl
theorem q184_10 : vE 184 10 [l0, l1, l2, l3, .int a] st v x ↔ vE 184 12 [l0, l1, l2, l3, .int a] (.int a :: st) v x := vE_s rfl rfl
theorem q184_12 : vE 184 12 [l0, l1, l2, l3, l4] (.int a :: st) v x ↔ if a = 0 then vE 184 57 [l0, l1, l2, l3, l4] st v x else vE 184 15 [l0, l1, l2, l3, l4] st v x := vE_if rfl rfl
theorem q184_15 : vE 184 15 [.ref p, l1, l2, l3, l4] st v x ↔ vE 184 16 [.ref p, l1, l2, l3, l4] (.ref p :: st) v x := vE_s rfl rfl
theorem q184_16 : vE 184 16 [l0, l1, l2, l3, l4] (.ref p :: st) v x ↔ vE 184 19 [l0, l1, l2, l3, l4] (.ref (p + 8) :: st) v x := vE_s rfl rfl
theorem q184_19 : vE 184 19 [l0, l1, l2, .int a, l4] st v x ↔ vE 184 20 [l0, l1, l2, .int a, l4] (.int a :: st) v x := vE_s rfl rfl
theorem q184_20 : vE 184 20 [l0, l1, l2, l3, l4] (.int a :: .ref p :: st) v x ↔ vE 184 21 [l0, l1, l2, l3, l4] (.int (v.1 p a.toNatClampNeg) :: st) v x := vE_s rfl rfl
theorem q184_21 : vE 184 21 [l0, l1, l2, l3, l4] (.int a :: st) v x ↔ if a = 0 then vE 184 57 [l0, l1, l2, l3, l4] st v x else vE 184 24 [l0, l1, l2, l3, l4] st v x := vE_if rfl rfl
theorem q184_24 : vE 184 24 [.ref p, l1, l2, l3, l4] st v x ↔ vE 184 25 [.ref p, l1, l2, l3, l4] (.ref p :: st) v x := vE_s rfl rfl
theorem q184_25 : vE 184 25 [l0, l1, l2, l3, l4] (.ref p :: st) v x ↔ vE 184 28 [l0, l1, l2, l3, l4] (.ref (p + 8) :: st) v x := vE_s rfl rfl
theorem q184_28 : vE 184 28 [l0, l1, .int a, l3, l4] st v x ↔ vE 184 29 [l0, l1, .int a, l3, l4] (.int a :: st) v x := vE_s rfl rfl
theorem q184_29 : vE 184 29 [l0, l1, l2, l3, l4] (w1 :: w0 :: st) v x ↔ ∃ y : vm_Y, vE 185 0 [w0, w1, .retAddr 0, .retAddr 0] [] v y ∧ vB 184 29 [l0, l1, l2, l3, l4] st y x := vE_cs rfl rfl rfl rfl
theorem q184_32 : vE 184 32 [l0, l1, l2, l3, l4] (.int a :: st) v x ↔ if a = 0 then vE 184 57 [l0, l1, l2, l3, l4] st v x else vE 184 35 [l0, l1, l2, l3, l4] st v x := vE_if rfl rfl
theorem q184_35 : vE 184 35 [.ref p, l1, l2, l3, l4] st v x ↔ vE 184 36 [.ref p, l1, l2, l3, l4] (.ref p :: st) v x := vE_s rfl rfl
theorem q184_36 : vE 184 36 [l0, l1, l2, l3, l4] (.ref p :: st) v x ↔ vE 184 39 [l0, l1, l2, l3, l4] (.ref (p + 13) :: st) v x := vE_s rfl rfl
theorem q184_39 : vE 184 39 [l0, l1, l2, l3, l4] st v x ↔ vE 184 40 [l0, l1, l2, l3, l4] (.int 0 :: st) v x := vE_s rfl (by rfl)
theorem q184_40 : vE 184 40 [.ref p, l1, l2, l3, l4] st v x ↔ vE 184 41 [.ref p, l1, l2, l3, l4] (.ref p :: st) v x := vE_s rfl rfl
theorem q184_41 : vE 184 41 [l0, l1, l2, l3, l4] (.ref p :: st) v x ↔ vE 184 44 [l0, l1, l2, l3, l4] (.ref (p + 8) :: st) v x := vE_s rfl rfl
theorem q184_44 : vE 184 44 [l0, l1, .int a, l3, l4] st v x ↔ vE 184 45 [l0, l1, .int a, l3, l4] (.int a :: st) v x := vE_s rfl rfl
theorem q184_45 : vE 184 45 [l0, l1, l2, l3, l4] (.int a :: .ref p :: st) v x ↔ vE 184 46 [l0, l1, l2, l3, l4] (.int (v.1 p a.toNatClampNeg) :: st) v x := vE_s rfl rfl
theorem q184_46 : vE 184 46 [.ref p, l1, l2, l3, l4] st v x ↔ vE 184 47 [.ref p, l1, l2, l3, l4] (.ref p :: st) v x := vE_s rfl rfl
theorem q184_47 : vE 184 47 [l0, l1, l2, l3, l4] (.ref p :: st) v x ↔ vE 184 50 [l0, l1, l2, l3, l4] (.ref (p + 8) :: st) v x := vE_s rfl rfl
theorem q184_50 : vE 184 50 [l0, l1, l2, .int a, l4] st v x ↔ vE 184 51 [l0, l1, l2, .int a, l4] (.int a :: st) v x := vE_s rfl rfl
theorem q184_51 : vE 184 51 [l0, l1, l2, l3, l4] (.int a :: .ref p :: st) v x ↔ vE 184 52 [l0, l1, l2, l3, l4] (.int (v.1 p a.toNatClampNeg) :: st) v x := vE_s rfl rfl
theorem q184_52 (hb : b ≠ 0) : vE 184 52 [l0, l1, l2, l3, l4] (.int b :: .int a :: st) v x ↔ vE 184 53 [l0, l1, l2, l3, l4] (.int (a / b) :: st) v x := vE_s rfl (by simp only [vm_step, vm_heap, am_step, if_neg hb]; rfl)
theorem q184_53 : vE 184 53 [l0, l1, l2, l3, l4] (w2 :: w1 :: w0 :: st) v x ↔ ∃ y : vm_Y, vE 179 0 [w0, w1, w2, .retAddr 0] [] v y ∧ vB 184 53 [l0, l1, l2, l3, l4] st y x := vE_cs rfl rfl rfl rfl
theorem q184_56 : vE 184 56 [l0, l1, l2, l3, l4] [] v x ↔ x = vd v := vE_vr rfl
theorem q184_57 : vE 184 57 [l0, l1, l2, l3, .int a] st v x ↔ vE 184 59 [l0, l1, l2, l3, .int a] (.int a :: st) v x := vE_s rfl rfl
theorem q184_59 : vE 184 59 [l0, l1, l2, l3, l4] (.int a :: st) v x ↔ if a = 0 then vE 184 86 [l0, l1, l2, l3, l4] st v x else vE 184 62 [l0, l1, l2, l3, l4] st v x := vE_if rfl rfl
theorem q184_62 : vE 184 62 [.ref p, l1, l2, l3, l4] st v x ↔ vE 184 63 [.ref p, l1, l2, l3, l4] (.ref p :: st) v x := vE_s rfl rfl
theorem q184_63 : vE 184 63 [l0, l1, l2, l3, l4] (.ref p :: st) v x ↔ vE 184 66 [l0, l1, l2, l3, l4] (.ref (p + 8) :: st) v x := vE_s rfl rfl
theorem q184_66 : vE 184 66 [l0, l1, l2, .int a, l4] st v x ↔ vE 184 67 [l0, l1, l2, .int a, l4] (.int a :: st) v x := vE_s rfl rfl
theorem q184_67 : vE 184 67 [l0, l1, l2, l3, l4] (.int a :: .ref p :: st) v x ↔ vE 184 68 [l0, l1, l2, l3, l4] (.int (v.1 p a.toNatClampNeg) :: st) v x := vE_s rfl rfl
theorem q184_68 : vE 184 68 [l0, l1, l2, l3, l4] st v x ↔ vE 184 69 [l0, l1, l2, l3, l4] (.int 1 :: st) v x := vE_s rfl (by rfl)
theorem q184_69 : vE 184 69 [l0, l1, l2, l3, l4] (.int b :: .int a :: st) v x ↔ if a = b then vE 184 72 [l0, l1, l2, l3, l4] st v x else vE 184 86 [l0, l1, l2, l3, l4] st v x := vE_if rfl rfl
theorem q184_72 : vE 184 72 [.ref p, l1, l2, l3, l4] st v x ↔ vE 184 73 [.ref p, l1, l2, l3, l4] (.ref p :: st) v x := vE_s rfl rfl
theorem q184_73 : vE 184 73 [l0, l1, l2, l3, l4] (.ref p :: st) v x ↔ vE 184 76 [l0, l1, l2, l3, l4] (.ref (p + 8) :: st) v x := vE_s rfl rfl
theorem q184_76 : vE 184 76 [l0, l1, .int a, l3, l4] st v x ↔ vE 184 77 [l0, l1, .int a, l3, l4] (.int a :: st) v x := vE_s rfl rfl
theorem q184_77 : vE 184 77 [.ref p, l1, l2, l3, l4] st v x ↔ vE 184 78 [.ref p, l1, l2, l3, l4] (.ref p :: st) v x := vE_s rfl rfl
theorem q184_78 : vE 184 78 [l0, l1, l2, l3, l4] (.ref p :: st) v x ↔ vE 184 81 [l0, l1, l2, l3, l4] (.ref (p + 13) :: st) v x := vE_s rfl rfl
theorem q184_81 : vE 184 81 [l0, l1, l2, l3, l4] st v x ↔ vE 184 82 [l0, l1, l2, l3, l4] (.int 0 :: st) v x := vE_s rfl (by rfl)
theorem q184_82 : vE 184 82 [l0, l1, l2, l3, l4] (w3 :: w2 :: w1 :: w0 :: st) v x ↔ ∃ y : vm_Y, vE 183 0 [w0, w1, w2, w3, .retAddr 0] [] v y ∧ vB 184 82 [l0, l1, l2, l3, l4] st y x := vE_cs rfl rfl rfl rfl
theorem q184_85 : vE 184 85 [l0, l1, l2, l3, l4] [] v x ↔ x = vd v := vE_vr rfl
theorem q184_86 : vE 184 86 [l0, l1, l2, l3, .int a] st v x ↔ vE 184 88 [l0, l1, l2, l3, .int a] (.int a :: st) v x := vE_s rfl rfl
theorem q184_88 : vE 184 88 [l0, l1, l2, l3, l4] (.int a :: st) v x ↔ if a = 0 then vE 184 100 [l0, l1, l2, l3, l4] st v x else vE 184 91 [l0, l1, l2, l3, l4] st v x := vE_if rfl rfl
theorem q184_91 : vE 184 91 [.ref p, l1, l2, l3, l4] st v x ↔ vE 184 92 [.ref p, l1, l2, l3, l4] (.ref p :: st) v x := vE_s rfl rfl
theorem q184_92 : vE 184 92 [l0, l1, l2, l3, l4] (.ref p :: st) v x ↔ vE 184 95 [l0, l1, l2, l3, l4] (.ref (p + 8) :: st) v x := vE_s rfl rfl
theorem q184_95 : vE 184 95 [l0, l1, l2, .int a, l4] st v x ↔ vE 184 96 [l0, l1, l2, .int a, l4] (.int a :: st) v x := vE_s rfl rfl
theorem q184_96 : vE 184 96 [l0, l1, l2, l3, l4] (.int a :: .ref p :: st) v x ↔ vE 184 97 [l0, l1, l2, l3, l4] (.int (v.1 p a.toNatClampNeg) :: st) v x := vE_s rfl rfl
theorem q184_97 : vE 184 97 [l0, l1, l2, l3, l4] (.int a :: st) v x ↔ if a = 0 then vE 184 100 [l0, l1, l2, l3, l4] st v x else vE 184 137 [l0, l1, l2, l3, l4] st v x := vE_if rfl rfl
theorem q184_100 : vE 184 100 [.ref p, l1, l2, l3, l4] st v x ↔ vE 184 101 [.ref p, l1, l2, l3, l4] (.ref p :: st) v x := vE_s rfl rfl
theorem q184_101 : vE 184 101 [l0, .int a, l2, l3, l4] st v x ↔ vE 184 102 [l0, .int a, l2, l3, l4] (.int a :: st) v x := vE_s rfl rfl
theorem q184_102 : vE 184 102 [l0, l1, l2, l3, l4] st v x ↔ vE 184 104 [l0, l1, l2, l3, l4] (.int 7 :: st) v x := vE_s rfl (by rfl)
theorem q184_104 : vE 184 104 [.ref p, l1, l2, l3, l4] st v x ↔ vE 184 105 [.ref p, l1, l2, l3, l4] (.ref p :: st) v x := vE_s rfl rfl
theorem q184_105 : vE 184 105 [l0, l1, l2, l3, l4] (.ref p :: st) v x ↔ vE 184 108 [l0, l1, l2, l3, l4] (.ref (p + 8) :: st) v x := vE_s rfl rfl
theorem q184_108 : vE 184 108 [l0, l1, .int a, l3, l4] st v x ↔ vE 184 109 [l0, l1, .int a, l3, l4] (.int a :: st) v x := vE_s rfl rfl
theorem q184_109 : vE 184 109 [.ref p, l1, l2, l3, l4] st v x ↔ vE 184 110 [.ref p, l1, l2, l3, l4] (.ref p :: st) v x := vE_s rfl rfl
theorem q184_110 : vE 184 110 [l0, l1, l2, l3, l4] (.ref p :: st) v x ↔ vE 184 113 [l0, l1, l2, l3, l4] (.ref (p + 8) :: st) v x := vE_s rfl rfl
theorem q184_113 : vE 184 113 [l0, l1, l2, .int a, l4] st v x ↔ vE 184 114 [l0, l1, l2, .int a, l4] (.int a :: st) v x := vE_s rfl rfl
theorem q184_114 : vE 184 114 [l0, l1, l2, l3, l4] (w6 :: w5 :: w4 :: w3 :: w2 :: w1 :: w0 :: st) v x ↔ ∃ y : vm_Y, vE 186 0 [w0, w1, w2, w3, w4, w5, w6, .retAddr 0, .retAddr 0, .retAddr 0] [] v y ∧ vB 184 114 [l0, l1, l2, l3, l4] st y x := vE_cv rfl rfl rfl rfl
theorem q184_117 : vE 184 117 [l0, l1, l2, l3, l4] (.int a :: st) v x ↔ if a = 0 then vE 184 120 [l0, l1, l2, l3, l4] st v x else vE 184 137 [l0, l1, l2, l3, l4] st v x := vE_if rfl rfl
theorem q184_120 : vE 184 120 [.ref p, l1, l2, l3, l4] st v x ↔ vE 184 121 [.ref p, l1, l2, l3, l4] (.ref p :: st) v x := vE_s rfl rfl
theorem q184_121 : vE 184 121 [l0, .int a, l2, l3, l4] st v x ↔ vE 184 122 [l0, .int a, l2, l3, l4] (.int a :: st) v x := vE_s rfl rfl
theorem q184_122 : vE 184 122 [l0, l1, l2, l3, l4] st v x ↔ vE 184 124 [l0, l1, l2, l3, l4] (.int 7 :: st) v x := vE_s rfl (by rfl)
theorem q184_124 : vE 184 124 [.ref p, l1, l2, l3, l4] st v x ↔ vE 184 125 [.ref p, l1, l2, l3, l4] (.ref p :: st) v x := vE_s rfl rfl
theorem q184_125 : vE 184 125 [l0, l1, l2, l3, l4] (.ref p :: st) v x ↔ vE 184 128 [l0, l1, l2, l3, l4] (.ref (p + 8) :: st) v x := vE_s rfl rfl
theorem q184_128 : vE 184 128 [l0, l1, .int a, l3, l4] st v x ↔ vE 184 129 [l0, l1, .int a, l3, l4] (.int a :: st) v x := vE_s rfl rfl
theorem q184_129 : vE 184 129 [.ref p, l1, l2, l3, l4] st v x ↔ vE 184 130 [.ref p, l1, l2, l3, l4] (.ref p :: st) v x := vE_s rfl rfl
theorem q184_130 : vE 184 130 [l0, l1, l2, l3, l4] (.ref p :: st) v x ↔ vE 184 133 [l0, l1, l2, l3, l4] (.ref (p + 8) :: st) v x := vE_s rfl rfl
theorem q184_133 : vE 184 133 [l0, l1, l2, .int a, l4] st v x ↔ vE 184 134 [l0, l1, l2, .int a, l4] (.int a :: st) v x := vE_s rfl rfl
theorem q184_134 : vE 184 134 [l0, l1, l2, l3, l4] (w6 :: w5 :: w4 :: w3 :: w2 :: w1 :: w0 :: st) v x ↔ ∃ y : vm_Y, vE 182 0 [w0, w1, w2, w3, w4, w5, w6, .retAddr 0] [] v y ∧ vB 184 134 [l0, l1, l2, l3, l4] st y x := vE_cv rfl rfl rfl rfl
theorem q184_137 : vE 184 137 [.ref p, l1, l2, l3, l4] st v x ↔ vE 184 138 [.ref p, l1, l2, l3, l4] (.ref p :: st) v x := vE_s rfl rfl
theorem q184_138 : vE 184 138 [.ref p, l1, l2, l3, l4] st v x ↔ vE 184 139 [.ref p, l1, l2, l3, l4] (.ref p :: st) v x := vE_s rfl rfl
theorem q184_139 : vE 184 139 [l0, l1, l2, l3, l4] st v x ↔ vE 184 141 [l0, l1, l2, l3, l4] (.int 7 :: st) v x := vE_s rfl (by rfl)
theorem q184_141 : vE 184 141 [.ref p, l1, l2, l3, l4] st v x ↔ vE 184 142 [.ref p, l1, l2, l3, l4] (.ref p :: st) v x := vE_s rfl rfl
theorem q184_142 : vE 184 142 [l0, l1, l2, l3, l4] (.ref p :: st) v x ↔ vE 184 145 [l0, l1, l2, l3, l4] (.ref (p + 8) :: st) v x := vE_s rfl rfl
theorem q184_145 : vE 184 145 [l0, l1, .int a, l3, l4] st v x ↔ vE 184 146 [l0, l1, .int a, l3, l4] (.int a :: st) v x := vE_s rfl rfl
theorem q184_146 : vE 184 146 [.ref p, l1, l2, l3, l4] st v x ↔ vE 184 147 [.ref p, l1, l2, l3, l4] (.ref p :: st) v x := vE_s rfl rfl
theorem q184_147 : vE 184 147 [l0, l1, l2, l3, l4] (.ref p :: st) v x ↔ vE 184 150 [l0, l1, l2, l3, l4] (.ref (p + 8) :: st) v x := vE_s rfl rfl
theorem q184_150 : vE 184 150 [l0, l1, l2, .int a, l4] st v x ↔ vE 184 151 [l0, l1, l2, .int a, l4] (.int a :: st) v x := vE_s rfl rfl
theorem q184_151 : vE 184 151 [l0, l1, l2, l3, l4] (w5 :: w4 :: w3 :: w2 :: w1 :: w0 :: st) v x ↔ ∃ y : vm_Y, vE 188 0 [w0, w1, w2, w3, w4, w5, .retAddr 0, .retAddr 0] [] v y ∧ vB 184 151 [l0, l1, l2, l3, l4] st y x := vE_cv rfl rfl rfl rfl
theorem q184_154 : vE 184 154 [l0, l1, l2, l3, l4] (w1 :: w0 :: st) v x ↔ ∃ y : vm_Y, vE 189 0 [w0, w1] [] v y ∧ vB 184 154 [l0, l1, l2, l3, l4] st y x := vE_cv rfl rfl rfl rfl
theorem q184_157 : vE 184 157 [l0, l1, l2, l3, l4] [] v x ↔ x = vd v := vE_vr rfl
theorem qt184 {X pc : Nat} {L r : List Value} : vB 184 pc L r (vt X v) x ↔ x = vt X v := vB_t rfl
/-! 185 PassCheckerModel.isNumber([II)Z -/
theorem q185_0 : vE 185 0 [l0, l1, l2, l3] st v x ↔ vE 185 1 [l0, l1, l2, l3] (.int 1 :: st) v x := vE_s rfl (by rfl)
theorem q185_1 : vE 185 1 [l0, l1, l2, l3] (.int a :: st) v x ↔ vE 185 2 [l0, l1, .int a, l3] st v x := vE_s rfl rfl
theorem q185_2 : vE 185 2 [l0, l1, l2, l3] st v x ↔ vE 185 3 [l0, l1, l2, l3] (.int 1 :: st) v x := vE_s rfl (by rfl)
theorem q185_3 : vE 185 3 [l0, l1, l2, l3] (.int a :: st) v x ↔ vE 185 4 [l0, l1, l2, .int a] st v x := vE_s rfl rfl
theorem q185_4 : vE 185 4 [l0, l1, l2, .int a] st v x ↔ vE 185 5 [l0, l1, l2, .int a] (.int a :: st) v x := vE_s rfl rfl
theorem q185_5 : vE 185 5 [l0, l1, l2, l3] st v x ↔ vE 185 7 [l0, l1, l2, l3] (.int 24 :: st) v x := vE_s rfl (by rfl)
theorem q185_7 : vE 185 7 [l0, l1, l2, l3] (.int b :: .int a :: st) v x ↔ if b ≤ a then vE 185 34 [l0, l1, l2, l3] st v x else vE 185 10 [l0, l1, l2, l3] st v x := vE_if rfl rfl
theorem q185_10 : vE 185 10 [l0, l1, .int a, l3] st v x ↔ vE 185 11 [l0, l1, .int a, l3] (.int a :: st) v x := vE_s rfl rfl
theorem q185_11 : vE 185 11 [l0, l1, l2, l3] (.int a :: st) v x ↔ if a = 0 then vE 185 26 [l0, l1, l2, l3] st v x else vE 185 14 [l0, l1, l2, l3] st v x := vE_if rfl rfl
theorem q185_14 : vE 185 14 [.ref p, l1, l2, l3] st v x ↔ vE 185 15 [.ref p, l1, l2, l3] (.ref p :: st) v x := vE_s rfl rfl
theorem q185_15 : vE 185 15 [l0, .int a, l2, l3] st v x ↔ vE 185 16 [l0, .int a, l2, l3] (.int a :: st) v x := vE_s rfl rfl
theorem q185_16 : vE 185 16 [l0, l1, l2, .int a] st v x ↔ vE 185 17 [l0, l1, l2, .int a] (.int a :: st) v x := vE_s rfl rfl
theorem q185_17 : vE 185 17 [l0, l1, l2, l3] (.int b :: .int a :: st) v x ↔ vE 185 18 [l0, l1, l2, l3] (.int (a + b) :: st) v x := vE_s rfl rfl
theorem q185_18 : vE 185 18 [l0, l1, l2, l3] (.int a :: .ref p :: st) v x ↔ vE 185 19 [l0, l1, l2, l3] (.int (v.1 p a.toNatClampNeg) :: st) v x := vE_s rfl rfl
theorem q185_19 : vE 185 19 [l0, l1, l2, l3] (.int a :: st) v x ↔ if a = 0 then vE 185 22 [l0, l1, l2, l3] st v x else vE 185 26 [l0, l1, l2, l3] st v x := vE_if rfl rfl
theorem q185_22 : vE 185 22 [l0, l1, l2, l3] st v x ↔ vE 185 23 [l0, l1, l2, l3] (.int 1 :: st) v x := vE_s rfl (by rfl)
theorem q185_23 : vE 185 23 [l0, l1, l2, l3] st v x ↔ vE 185 27 [l0, l1, l2, l3] st v x := vE_s rfl rfl
theorem q185_26 : vE 185 26 [l0, l1, l2, l3] st v x ↔ vE 185 27 [l0, l1, l2, l3] (.int 0 :: st) v x := vE_s rfl (by rfl)
theorem q185_27 : vE 185 27 [l0, l1, l2, l3] (.int a :: st) v x ↔ vE 185 28 [l0, l1, .int a, l3] st v x := vE_s rfl rfl
theorem q185_28 : vE 185 28 [l0, l1, l2, .int a] st v x ↔ vE 185 31 [l0, l1, l2, .int (a + 1)] st v x := vE_s rfl rfl
theorem q185_31 : vE 185 31 [l0, l1, l2, l3] st v x ↔ vE 185 4 [l0, l1, l2, l3] st v x := vE_s rfl rfl
theorem q185_34 : vE 185 34 [l0, l1, .int a, l3] st v x ↔ vE 185 35 [l0, l1, .int a, l3] (.int a :: st) v x := vE_s rfl rfl
theorem q185_35 : vE 185 35 [l0, l1, l2, l3] ([.int a]) v x ↔ x = vr a v := vE_ir rfl
/-! 186 PassCheckerModel.wasEffect(II[II[II)Z -/
theorem q186_0 : vE 186 0 [l0, l1, l2, l3, l4, l5, l6, l7, l8, l9] st v x ↔ vE 186 1 [l0, l1, l2, l3, l4, l5, l6, l7, l8, l9] (.int 0 :: st) v x := vE_s rfl (by rfl)
theorem q186_1 : vE 186 1 [l0, l1, l2, l3, l4, l5, l6, l7, l8, l9] (.int a :: st) v x ↔ vE 186 3 [l0, l1, l2, l3, l4, l5, l6, .int a, l8, l9] st v x := vE_s rfl rfl
theorem q186_3 : vE 186 3 [l0, l1, l2, l3, l4, l5, l6, l7, l8, l9] st v x ↔ vE 186 4 [l0, l1, l2, l3, l4, l5, l6, l7, l8, l9] (.int 0 :: st) v x := vE_s rfl (by rfl)
theorem q186_4 : vE 186 4 [l0, l1, l2, l3, l4, l5, l6, l7, l8, l9] (.int a :: st) v x ↔ vE 186 6 [l0, l1, l2, l3, l4, l5, l6, l7, .int a, l9] st v x := vE_s rfl rfl
theorem q186_6 : vE 186 6 [l0, l1, l2, l3, l4, l5, l6, l7, .int a, l9] st v x ↔ vE 186 8 [l0, l1, l2, l3, l4, l5, l6, l7, .int a, l9] (.int a :: st) v x := vE_s rfl rfl
theorem q186_8 : vE 186 8 [.ref p, l1, l2, l3, l4, l5, l6, l7, l8, l9] st v x ↔ vE 186 9 [.ref p, l1, l2, l3, l4, l5, l6, l7, l8, l9] (.ref p :: st) v x := vE_s rfl rfl
theorem q186_9 : vE 186 9 [l0, l1, l2, l3, l4, l5, l6, l7, l8, l9] (.ref p :: st) v x ↔ vE 186 12 [l0, l1, l2, l3, l4, l5, l6, l7, l8, l9] (.ref (p + 9) :: st) v x := vE_s rfl rfl
theorem q186_12 : vE 186 12 [l0, .int a, l2, l3, l4, l5, l6, l7, l8, l9] st v x ↔ vE 186 13 [l0, .int a, l2, l3, l4, l5, l6, l7, l8, l9] (.int a :: st) v x := vE_s rfl rfl
theorem q186_13 : vE 186 13 [l0, l1, l2, l3, l4, l5, l6, l7, l8, l9] (.int a :: .ref p :: st) v x ↔ vE 186 14 [l0, l1, l2, l3, l4, l5, l6, l7, l8, l9] (.int (v.1 p a.toNatClampNeg) :: st) v x := vE_s rfl rfl
theorem q186_14 : vE 186 14 [l0, l1, l2, l3, l4, l5, l6, l7, l8, l9] (.int b :: .int a :: st) v x ↔ if b ≤ a then vE 186 92 [l0, l1, l2, l3, l4, l5, l6, l7, l8, l9] st v x else vE 186 17 [l0, l1, l2, l3, l4, l5, l6, l7, l8, l9] st v x := vE_if rfl rfl
theorem q186_17 : vE 186 17 [l0, l1, l2, l3, l4, l5, l6, l7, l8, l9] st v x ↔ vE 186 19 [l0, l1, l2, l3, l4, l5, l6, l7, l8, l9] (.int 8 :: st) v x := vE_s rfl (by rfl)
theorem q186_19 : vE 186 19 [l0, .int a, l2, l3, l4, l5, l6, l7, l8, l9] st v x ↔ vE 186 20 [l0, .int a, l2, l3, l4, l5, l6, l7, l8, l9] (.int a :: st) v x := vE_s rfl rfl
theorem q186_20 : vE 186 20 [l0, l1, l2, l3, l4, l5, l6, l7, l8, l9] (.int b :: .int a :: st) v x ↔ vE 186 21 [l0, l1, l2, l3, l4, l5, l6, l7, l8, l9] (.int (a * b) :: st) v x := vE_s rfl rfl
theorem q186_21 : vE 186 21 [l0, l1, l2, l3, l4, l5, l6, l7, .int a, l9] st v x ↔ vE 186 23 [l0, l1, l2, l3, l4, l5, l6, l7, .int a, l9] (.int a :: st) v x := vE_s rfl rfl
theorem q186_23 : vE 186 23 [l0, l1, l2, l3, l4, l5, l6, l7, l8, l9] (.int b :: .int a :: st) v x ↔ vE 186 24 [l0, l1, l2, l3, l4, l5, l6, l7, l8, l9] (.int (a + b) :: st) v x := vE_s rfl rfl
theorem q186_24 : vE 186 24 [l0, l1, l2, l3, l4, l5, l6, l7, l8, l9] (.int a :: st) v x ↔ vE 186 26 [l0, l1, l2, l3, l4, l5, l6, l7, l8, .int a] st v x := vE_s rfl rfl
theorem q186_26 : vE 186 26 [l0, l1, l2, l3, l4, l5, l6, .int a, l8, l9] st v x ↔ vE 186 28 [l0, l1, l2, l3, l4, l5, l6, .int a, l8, l9] (.int a :: st) v x := vE_s rfl rfl
theorem q186_28 : vE 186 28 [l0, l1, l2, l3, l4, l5, l6, l7, l8, l9] (.int a :: st) v x ↔ if a = 0 then vE 186 31 [l0, l1, l2, l3, l4, l5, l6, l7, l8, l9] st v x else vE 186 79 [l0, l1, l2, l3, l4, l5, l6, l7, l8, l9] st v x := vE_if rfl rfl
theorem q186_31 : vE 186 31 [.ref p, l1, l2, l3, l4, l5, l6, l7, l8, l9] st v x ↔ vE 186 32 [.ref p, l1, l2, l3, l4, l5, l6, l7, l8, l9] (.ref p :: st) v x := vE_s rfl rfl
theorem q186_32 : vE 186 32 [l0, l1, l2, l3, l4, l5, l6, l7, l8, l9] (.ref p :: st) v x ↔ vE 186 35 [l0, l1, l2, l3, l4, l5, l6, l7, l8, l9] (.ref (p + 10) :: st) v x := vE_s rfl rfl
theorem q186_35 : vE 186 35 [l0, l1, l2, l3, l4, l5, l6, l7, l8, .int a] st v x ↔ vE 186 37 [l0, l1, l2, l3, l4, l5, l6, l7, l8, .int a] (.int a :: st) v x := vE_s rfl rfl
theorem q186_37 : vE 186 37 [l0, l1, l2, l3, l4, l5, l6, l7, l8, l9] (.int a :: .ref p :: st) v x ↔ vE 186 38 [l0, l1, l2, l3, l4, l5, l6, l7, l8, l9] (.int (v.1 p a.toNatClampNeg) :: st) v x := vE_s rfl rfl
theorem q186_38 : vE 186 38 [l0, l1, .int a, l3, l4, l5, l6, l7, l8, l9] st v x ↔ vE 186 39 [l0, l1, .int a, l3, l4, l5, l6, l7, l8, l9] (.int a :: st) v x := vE_s rfl rfl
theorem q186_39 : vE 186 39 [l0, l1, l2, l3, l4, l5, l6, l7, l8, l9] (.int b :: .int a :: st) v x ↔ if a = b then vE 186 42 [l0, l1, l2, l3, l4, l5, l6, l7, l8, l9] st v x else vE 186 83 [l0, l1, l2, l3, l4, l5, l6, l7, l8, l9] st v x := vE_if rfl rfl
theorem q186_42 : vE 186 42 [.ref p, l1, l2, l3, l4, l5, l6, l7, l8, l9] st v x ↔ vE 186 43 [.ref p, l1, l2, l3, l4, l5, l6, l7, l8, l9] (.ref p :: st) v x := vE_s rfl rfl
theorem q186_43 : vE 186 43 [l0, l1, l2, l3, l4, l5, l6, l7, l8, l9] (.ref p :: st) v x ↔ vE 186 46 [l0, l1, l2, l3, l4, l5, l6, l7, l8, l9] (.ref (p + 11) :: st) v x := vE_s rfl rfl
theorem q186_46 : vE 186 46 [l0, l1, l2, l3, l4, l5, l6, l7, l8, l9] st v x ↔ vE 186 48 [l0, l1, l2, l3, l4, l5, l6, l7, l8, l9] (.int 24 :: st) v x := vE_s rfl (by rfl)
theorem q186_48 : vE 186 48 [l0, l1, l2, l3, l4, l5, l6, l7, l8, .int a] st v x ↔ vE 186 50 [l0, l1, l2, l3, l4, l5, l6, l7, l8, .int a] (.int a :: st) v x := vE_s rfl rfl
theorem q186_50 : vE 186 50 [l0, l1, l2, l3, l4, l5, l6, l7, l8, l9] (.int b :: .int a :: st) v x ↔ vE 186 51 [l0, l1, l2, l3, l4, l5, l6, l7, l8, l9] (.int (a * b) :: st) v x := vE_s rfl rfl
theorem q186_51 : vE 186 51 [l0, l1, l2, .ref p, l4, l5, l6, l7, l8, l9] st v x ↔ vE 186 52 [l0, l1, l2, .ref p, l4, l5, l6, l7, l8, l9] (.ref p :: st) v x := vE_s rfl rfl
theorem q186_52 : vE 186 52 [l0, l1, l2, l3, .int a, l5, l6, l7, l8, l9] st v x ↔ vE 186 54 [l0, l1, l2, l3, .int a, l5, l6, l7, l8, l9] (.int a :: st) v x := vE_s rfl rfl
theorem q186_54 : vE 186 54 [l0, l1, l2, l3, l4, l5, l6, l7, l8, l9] (w3 :: w2 :: w1 :: w0 :: st) v x ↔ ∃ y : vm_Y, vE 187 0 [w0, w1, w2, w3, .retAddr 0, .retAddr 0] [] v y ∧ vB 186 54 [l0, l1, l2, l3, l4, l5, l6, l7, l8, l9] st y x := vE_cs rfl rfl rfl rfl
theorem q186_57 : vE 186 57 [l0, l1, l2, l3, l4, l5, l6, l7, l8, l9] (.int a :: st) v x ↔ if a = 0 then vE 186 83 [l0, l1, l2, l3, l4, l5, l6, l7, l8, l9] st v x else vE 186 60 [l0, l1, l2, l3, l4, l5, l6, l7, l8, l9] st v x := vE_if rfl rfl
theorem q186_60 : vE 186 60 [.ref p, l1, l2, l3, l4, l5, l6, l7, l8, l9] st v x ↔ vE 186 61 [.ref p, l1, l2, l3, l4, l5, l6, l7, l8, l9] (.ref p :: st) v x := vE_s rfl rfl
theorem q186_61 : vE 186 61 [l0, l1, l2, l3, l4, l5, l6, l7, l8, l9] (.ref p :: st) v x ↔ vE 186 64 [l0, l1, l2, l3, l4, l5, l6, l7, l8, l9] (.ref (p + 12) :: st) v x := vE_s rfl rfl
theorem q186_64 : vE 186 64 [l0, l1, l2, l3, l4, l5, l6, l7, l8, l9] st v x ↔ vE 186 66 [l0, l1, l2, l3, l4, l5, l6, l7, l8, l9] (.int 24 :: st) v x := vE_s rfl (by rfl)
theorem q186_66 : vE 186 66 [l0, l1, l2, l3, l4, l5, l6, l7, l8, .int a] st v x ↔ vE 186 68 [l0, l1, l2, l3, l4, l5, l6, l7, l8, .int a] (.int a :: st) v x := vE_s rfl rfl
theorem q186_68 : vE 186 68 [l0, l1, l2, l3, l4, l5, l6, l7, l8, l9] (.int b :: .int a :: st) v x ↔ vE 186 69 [l0, l1, l2, l3, l4, l5, l6, l7, l8, l9] (.int (a * b) :: st) v x := vE_s rfl rfl
theorem q186_69 : vE 186 69 [l0, l1, l2, l3, l4, .ref p, l6, l7, l8, l9] st v x ↔ vE 186 71 [l0, l1, l2, l3, l4, .ref p, l6, l7, l8, l9] (.ref p :: st) v x := vE_s rfl rfl
theorem q186_71 : vE 186 71 [l0, l1, l2, l3, l4, l5, .int a, l7, l8, l9] st v x ↔ vE 186 73 [l0, l1, l2, l3, l4, l5, .int a, l7, l8, l9] (.int a :: st) v x := vE_s rfl rfl
theorem q186_73 : vE 186 73 [l0, l1, l2, l3, l4, l5, l6, l7, l8, l9] (w3 :: w2 :: w1 :: w0 :: st) v x ↔ ∃ y : vm_Y, vE 187 0 [w0, w1, w2, w3, .retAddr 0, .retAddr 0] [] v y ∧ vB 186 73 [l0, l1, l2, l3, l4, l5, l6, l7, l8, l9] st y x := vE_cs rfl rfl rfl rfl
theorem q186_76 : vE 186 76 [l0, l1, l2, l3, l4, l5, l6, l7, l8, l9] (.int a :: st) v x ↔ if a = 0 then vE 186 83 [l0, l1, l2, l3, l4, l5, l6, l7, l8, l9] st v x else vE 186 79 [l0, l1, l2, l3, l4, l5, l6, l7, l8, l9] st v x := vE_if rfl rfl
theorem q186_79 : vE 186 79 [l0, l1, l2, l3, l4, l5, l6, l7, l8, l9] st v x ↔ vE 186 80 [l0, l1, l2, l3, l4, l5, l6, l7, l8, l9] (.int 1 :: st) v x := vE_s rfl (by rfl)
theorem q186_80 : vE 186 80 [l0, l1, l2, l3, l4, l5, l6, l7, l8, l9] st v x ↔ vE 186 84 [l0, l1, l2, l3, l4, l5, l6, l7, l8, l9] st v x := vE_s rfl rfl
theorem q186_83 : vE 186 83 [l0, l1, l2, l3, l4, l5, l6, l7, l8, l9] st v x ↔ vE 186 84 [l0, l1, l2, l3, l4, l5, l6, l7, l8, l9] (.int 0 :: st) v x := vE_s rfl (by rfl)
theorem q186_84 : vE 186 84 [l0, l1, l2, l3, l4, l5, l6, l7, l8, l9] (.int a :: st) v x ↔ vE 186 86 [l0, l1, l2, l3, l4, l5, l6, .int a, l8, l9] st v x := vE_s rfl rfl
theorem q186_86 : vE 186 86 [l0, l1, l2, l3, l4, l5, l6, l7, .int a, l9] st v x ↔ vE 186 89 [l0, l1, l2, l3, l4, l5, l6, l7, .int (a + 1), l9] st v x := vE_s rfl rfl
theorem q186_89 : vE 186 89 [l0, l1, l2, l3, l4, l5, l6, l7, l8, l9] st v x ↔ vE 186 6 [l0, l1, l2, l3, l4, l5, l6, l7, l8, l9] st v x := vE_s rfl rfl
theorem q186_92 : vE 186 92 [l0, l1, l2, l3, l4, l5, l6, .int a, l8, l9] st v x ↔ vE 186 94 [l0, l1, l2, l3, l4, l5, l6, .int a, l8, l9] (.int a :: st) v x := vE_s rfl rfl
theorem q186_94 : vE 186 94 [l0, l1, l2, l3, l4, l5, l6, l7, l8, l9] ([.int a]) v x ↔ x = vr a v := vE_ir rfl
theorem qt186 {X pc : Nat} {L r : List Value} : vB 186 pc L r (vt X v) x ↔ x = vt X v := vB_t rfl
/-! 187 PassCheckerModel.areSame([II[II)Z -/
theorem q187_0 : vE 187 0 [l0, l1, l2, l3, l4, l5] st v x ↔ vE 187 1 [l0, l1, l2, l3, l4, l5] (.int 1 :: st) v x := vE_s rfl (by rfl)
theorem q187_1 : vE 187 1 [l0, l1, l2, l3, l4, l5] (.int a :: st) v x ↔ vE 187 3 [l0, l1, l2, l3, .int a, l5] st v x := vE_s rfl rfl
theorem q187_3 : vE 187 3 [l0, l1, l2, l3, l4, l5] st v x ↔ vE 187 4 [l0, l1, l2, l3, l4, l5] (.int 0 :: st) v x := vE_s rfl (by rfl)
theorem q187_4 : vE 187 4 [l0, l1, l2, l3, l4, l5] (.int a :: st) v x ↔ vE 187 6 [l0, l1, l2, l3, l4, .int a] st v x := vE_s rfl rfl
theorem q187_6 : vE 187 6 [l0, l1, l2, l3, l4, .int a] st v x ↔ vE 187 8 [l0, l1, l2, l3, l4, .int a] (.int a :: st) v x := vE_s rfl rfl
theorem q187_8 : vE 187 8 [l0, l1, l2, l3, l4, l5] st v x ↔ vE 187 10 [l0, l1, l2, l3, l4, l5] (.int 24 :: st) v x := vE_s rfl (by rfl)
theorem q187_10 : vE 187 10 [l0, l1, l2, l3, l4, l5] (.int b :: .int a :: st) v x ↔ if b ≤ a then vE 187 46 [l0, l1, l2, l3, l4, l5] st v x else vE 187 13 [l0, l1, l2, l3, l4, l5] st v x := vE_if rfl rfl
theorem q187_13 : vE 187 13 [l0, l1, l2, l3, .int a, l5] st v x ↔ vE 187 15 [l0, l1, l2, l3, .int a, l5] (.int a :: st) v x := vE_s rfl rfl
theorem q187_15 : vE 187 15 [l0, l1, l2, l3, l4, l5] (.int a :: st) v x ↔ if a = 0 then vE 187 37 [l0, l1, l2, l3, l4, l5] st v x else vE 187 18 [l0, l1, l2, l3, l4, l5] st v x := vE_if rfl rfl
theorem q187_18 : vE 187 18 [.ref p, l1, l2, l3, l4, l5] st v x ↔ vE 187 19 [.ref p, l1, l2, l3, l4, l5] (.ref p :: st) v x := vE_s rfl rfl
theorem q187_19 : vE 187 19 [l0, .int a, l2, l3, l4, l5] st v x ↔ vE 187 20 [l0, .int a, l2, l3, l4, l5] (.int a :: st) v x := vE_s rfl rfl
theorem q187_20 : vE 187 20 [l0, l1, l2, l3, l4, .int a] st v x ↔ vE 187 22 [l0, l1, l2, l3, l4, .int a] (.int a :: st) v x := vE_s rfl rfl
theorem q187_22 : vE 187 22 [l0, l1, l2, l3, l4, l5] (.int b :: .int a :: st) v x ↔ vE 187 23 [l0, l1, l2, l3, l4, l5] (.int (a + b) :: st) v x := vE_s rfl rfl
theorem q187_23 : vE 187 23 [l0, l1, l2, l3, l4, l5] (.int a :: .ref p :: st) v x ↔ vE 187 24 [l0, l1, l2, l3, l4, l5] (.int (v.1 p a.toNatClampNeg) :: st) v x := vE_s rfl rfl
theorem q187_24 : vE 187 24 [l0, l1, .ref p, l3, l4, l5] st v x ↔ vE 187 25 [l0, l1, .ref p, l3, l4, l5] (.ref p :: st) v x := vE_s rfl rfl
theorem q187_25 : vE 187 25 [l0, l1, l2, .int a, l4, l5] st v x ↔ vE 187 26 [l0, l1, l2, .int a, l4, l5] (.int a :: st) v x := vE_s rfl rfl
theorem q187_26 : vE 187 26 [l0, l1, l2, l3, l4, .int a] st v x ↔ vE 187 28 [l0, l1, l2, l3, l4, .int a] (.int a :: st) v x := vE_s rfl rfl
theorem q187_28 : vE 187 28 [l0, l1, l2, l3, l4, l5] (.int b :: .int a :: st) v x ↔ vE 187 29 [l0, l1, l2, l3, l4, l5] (.int (a + b) :: st) v x := vE_s rfl rfl
theorem q187_29 : vE 187 29 [l0, l1, l2, l3, l4, l5] (.int a :: .ref p :: st) v x ↔ vE 187 30 [l0, l1, l2, l3, l4, l5] (.int (v.1 p a.toNatClampNeg) :: st) v x := vE_s rfl rfl
theorem q187_30 : vE 187 30 [l0, l1, l2, l3, l4, l5] (.int b :: .int a :: st) v x ↔ if a = b then vE 187 33 [l0, l1, l2, l3, l4, l5] st v x else vE 187 37 [l0, l1, l2, l3, l4, l5] st v x := vE_if rfl rfl
theorem q187_33 : vE 187 33 [l0, l1, l2, l3, l4, l5] st v x ↔ vE 187 34 [l0, l1, l2, l3, l4, l5] (.int 1 :: st) v x := vE_s rfl (by rfl)
theorem q187_34 : vE 187 34 [l0, l1, l2, l3, l4, l5] st v x ↔ vE 187 38 [l0, l1, l2, l3, l4, l5] st v x := vE_s rfl rfl
theorem q187_37 : vE 187 37 [l0, l1, l2, l3, l4, l5] st v x ↔ vE 187 38 [l0, l1, l2, l3, l4, l5] (.int 0 :: st) v x := vE_s rfl (by rfl)
theorem q187_38 : vE 187 38 [l0, l1, l2, l3, l4, l5] (.int a :: st) v x ↔ vE 187 40 [l0, l1, l2, l3, .int a, l5] st v x := vE_s rfl rfl
theorem q187_40 : vE 187 40 [l0, l1, l2, l3, l4, .int a] st v x ↔ vE 187 43 [l0, l1, l2, l3, l4, .int (a + 1)] st v x := vE_s rfl rfl
theorem q187_43 : vE 187 43 [l0, l1, l2, l3, l4, l5] st v x ↔ vE 187 6 [l0, l1, l2, l3, l4, l5] st v x := vE_s rfl rfl
theorem q187_46 : vE 187 46 [l0, l1, l2, l3, .int a, l5] st v x ↔ vE 187 48 [l0, l1, l2, l3, .int a, l5] (.int a :: st) v x := vE_s rfl rfl
theorem q187_48 : vE 187 48 [l0, l1, l2, l3, l4, l5] ([.int a]) v x ↔ x = vr a v := vE_ir rfl
/-! 188 PassCheckerModel.atom(I[II[II)I -/
theorem q188_0 : vE 188 0 [l0, .int a, l2, l3, l4, l5, l6, l7] st v x ↔ vE 188 1 [l0, .int a, l2, l3, l4, l5, l6, l7] (.int a :: st) v x := vE_s rfl rfl
theorem q188_1 : vE 188 1 [l0, l1, l2, l3, l4, l5, l6, l7] st v x ↔ vE 188 2 [l0, l1, l2, l3, l4, l5, l6, l7] (.int 4 :: st) v x := vE_s rfl (by rfl)
theorem q188_2 : vE 188 2 [l0, l1, l2, l3, l4, l5, l6, l7] (.int b :: .int a :: st) v x ↔ if a = b then vE 188 10 [l0, l1, l2, l3, l4, l5, l6, l7] st v x else vE 188 5 [l0, l1, l2, l3, l4, l5, l6, l7] st v x := vE_if rfl rfl
theorem q188_5 : vE 188 5 [l0, .int a, l2, l3, l4, l5, l6, l7] st v x ↔ vE 188 6 [l0, .int a, l2, l3, l4, l5, l6, l7] (.int a :: st) v x := vE_s rfl rfl
theorem q188_6 : vE 188 6 [l0, l1, l2, l3, l4, l5, l6, l7] st v x ↔ vE 188 7 [l0, l1, l2, l3, l4, l5, l6, l7] (.int 5 :: st) v x := vE_s rfl (by rfl)
theorem q188_7 : vE 188 7 [l0, l1, l2, l3, l4, l5, l6, l7] (.int b :: .int a :: st) v x ↔ if a = b then vE 188 10 [l0, l1, l2, l3, l4, l5, l6, l7] st v x else vE 188 14 [l0, l1, l2, l3, l4, l5, l6, l7] st v x := vE_if rfl rfl
theorem q188_10 : vE 188 10 [l0, l1, l2, l3, l4, l5, l6, l7] st v x ↔ vE 188 11 [l0, l1, l2, l3, l4, l5, l6, l7] (.int 1 :: st) v x := vE_s rfl (by rfl)
theorem q188_11 : vE 188 11 [l0, l1, l2, l3, l4, l5, l6, l7] st v x ↔ vE 188 15 [l0, l1, l2, l3, l4, l5, l6, l7] st v x := vE_s rfl rfl
theorem q188_14 : vE 188 14 [l0, l1, l2, l3, l4, l5, l6, l7] st v x ↔ vE 188 15 [l0, l1, l2, l3, l4, l5, l6, l7] (.int 0 :: st) v x := vE_s rfl (by rfl)
theorem q188_15 : vE 188 15 [l0, l1, l2, l3, l4, l5, l6, l7] (.int a :: st) v x ↔ vE 188 17 [l0, l1, l2, l3, l4, l5, .int a, l7] st v x := vE_s rfl rfl
theorem q188_17 : vE 188 17 [l0, l1, l2, l3, l4, l5, l6, l7] st v x ↔ vE 188 18 [l0, l1, l2, l3, l4, l5, l6, l7] (.int 0 :: st) v x := vE_s rfl (by rfl)
theorem q188_18 : vE 188 18 [l0, l1, l2, l3, l4, l5, l6, l7] (.int a :: st) v x ↔ vE 188 20 [l0, l1, l2, l3, l4, l5, l6, .int a] st v x := vE_s rfl rfl
theorem q188_20 : vE 188 20 [l0, l1, l2, l3, l4, l5, l6, .int a] st v x ↔ vE 188 22 [l0, l1, l2, l3, l4, l5, l6, .int a] (.int a :: st) v x := vE_s rfl rfl
theorem q188_22 : vE 188 22 [.ref p, l1, l2, l3, l4, l5, l6, l7] st v x ↔ vE 188 23 [.ref p, l1, l2, l3, l4, l5, l6, l7] (.ref p :: st) v x := vE_s rfl rfl
theorem q188_23 : vE 188 23 [l0, l1, l2, l3, l4, l5, l6, l7] (.ref p :: st) v x ↔ vE 188 26 [l0, l1, l2, l3, l4, l5, l6, l7] (.int (v.1 p 5) :: st) v x := vE_s rfl rfl
theorem q188_26 : vE 188 26 [l0, l1, l2, l3, l4, l5, l6, l7] (.int b :: .int a :: st) v x ↔ if b ≤ a then vE 188 132 [l0, l1, l2, l3, l4, l5, l6, l7] st v x else vE 188 29 [l0, l1, l2, l3, l4, l5, l6, l7] st v x := vE_if rfl rfl
theorem q188_29 : vE 188 29 [.ref p, l1, l2, l3, l4, l5, l6, l7] st v x ↔ vE 188 30 [.ref p, l1, l2, l3, l4, l5, l6, l7] (.ref p :: st) v x := vE_s rfl rfl
theorem q188_30 : vE 188 30 [l0, l1, l2, l3, l4, l5, l6, l7] (.ref p :: st) v x ↔ vE 188 33 [l0, l1, l2, l3, l4, l5, l6, l7] (.ref (p + 5) :: st) v x := vE_s rfl rfl
theorem q188_33 : vE 188 33 [l0, l1, l2, l3, l4, l5, l6, .int a] st v x ↔ vE 188 35 [l0, l1, l2, l3, l4, l5, l6, .int a] (.int a :: st) v x := vE_s rfl rfl
theorem q188_35 : vE 188 35 [l0, l1, l2, l3, l4, l5, l6, l7] (.int a :: .ref p :: st) v x ↔ vE 188 36 [l0, l1, l2, l3, l4, l5, l6, l7] (.int (v.1 p a.toNatClampNeg) :: st) v x := vE_s rfl rfl
theorem q188_36 : vE 188 36 [l0, .int a, l2, l3, l4, l5, l6, l7] st v x ↔ vE 188 37 [l0, .int a, l2, l3, l4, l5, l6, l7] (.int a :: st) v x := vE_s rfl rfl
theorem q188_37 : vE 188 37 [l0, l1, l2, l3, l4, l5, l6, l7] (.int b :: .int a :: st) v x ↔ if a = b then vE 188 43 [l0, l1, l2, l3, l4, l5, l6, l7] st v x else vE 188 40 [l0, l1, l2, l3, l4, l5, l6, l7] st v x := vE_if rfl rfl
theorem q188_40 : vE 188 40 [l0, l1, l2, l3, l4, l5, l6, l7] st v x ↔ vE 188 126 [l0, l1, l2, l3, l4, l5, l6, l7] st v x := vE_s rfl rfl
theorem q188_43 : vE 188 43 [.ref p, l1, l2, l3, l4, l5, l6, l7] st v x ↔ vE 188 44 [.ref p, l1, l2, l3, l4, l5, l6, l7] (.ref p :: st) v x := vE_s rfl rfl
theorem q188_44 : vE 188 44 [l0, l1, l2, l3, l4, l5, l6, l7] (.ref p :: st) v x ↔ vE 188 47 [l0, l1, l2, l3, l4, l5, l6, l7] (.ref (p + 6) :: st) v x := vE_s rfl rfl
theorem q188_47 : vE 188 47 [l0, l1, l2, l3, l4, l5, l6, l7] st v x ↔ vE 188 49 [l0, l1, l2, l3, l4, l5, l6, l7] (.int 24 :: st) v x := vE_s rfl (by rfl)
theorem q188_49 : vE 188 49 [l0, l1, l2, l3, l4, l5, l6, .int a] st v x ↔ vE 188 51 [l0, l1, l2, l3, l4, l5, l6, .int a] (.int a :: st) v x := vE_s rfl rfl
theorem q188_51 : vE 188 51 [l0, l1, l2, l3, l4, l5, l6, l7] (.int b :: .int a :: st) v x ↔ vE 188 52 [l0, l1, l2, l3, l4, l5, l6, l7] (.int (a * b) :: st) v x := vE_s rfl rfl
theorem q188_52 : vE 188 52 [l0, l1, .ref p, l3, l4, l5, l6, l7] st v x ↔ vE 188 53 [l0, l1, .ref p, l3, l4, l5, l6, l7] (.ref p :: st) v x := vE_s rfl rfl
theorem q188_53 : vE 188 53 [l0, l1, l2, .int a, l4, l5, l6, l7] st v x ↔ vE 188 54 [l0, l1, l2, .int a, l4, l5, l6, l7] (.int a :: st) v x := vE_s rfl rfl
theorem q188_54 : vE 188 54 [l0, l1, l2, l3, l4, l5, l6, l7] (w3 :: w2 :: w1 :: w0 :: st) v x ↔ ∃ y : vm_Y, vE 187 0 [w0, w1, w2, w3, .retAddr 0, .retAddr 0] [] v y ∧ vB 188 54 [l0, l1, l2, l3, l4, l5, l6, l7] st y x := vE_cs rfl rfl rfl rfl
theorem q188_57 : vE 188 57 [l0, l1, l2, l3, l4, l5, l6, l7] (.int a :: st) v x ↔ if a = 0 then vE 188 82 [l0, l1, l2, l3, l4, l5, l6, l7] st v x else vE 188 60 [l0, l1, l2, l3, l4, l5, l6, l7] st v x := vE_if rfl rfl
theorem q188_60 : vE 188 60 [.ref p, l1, l2, l3, l4, l5, l6, l7] st v x ↔ vE 188 61 [.ref p, l1, l2, l3, l4, l5, l6, l7] (.ref p :: st) v x := vE_s rfl rfl
theorem q188_61 : vE 188 61 [l0, l1, l2, l3, l4, l5, l6, l7] (.ref p :: st) v x ↔ vE 188 64 [l0, l1, l2, l3, l4, l5, l6, l7] (.ref (p + 7) :: st) v x := vE_s rfl rfl
theorem q188_64 : vE 188 64 [l0, l1, l2, l3, l4, l5, l6, l7] st v x ↔ vE 188 66 [l0, l1, l2, l3, l4, l5, l6, l7] (.int 24 :: st) v x := vE_s rfl (by rfl)
theorem q188_66 : vE 188 66 [l0, l1, l2, l3, l4, l5, l6, .int a] st v x ↔ vE 188 68 [l0, l1, l2, l3, l4, l5, l6, .int a] (.int a :: st) v x := vE_s rfl rfl
theorem q188_68 : vE 188 68 [l0, l1, l2, l3, l4, l5, l6, l7] (.int b :: .int a :: st) v x ↔ vE 188 69 [l0, l1, l2, l3, l4, l5, l6, l7] (.int (a * b) :: st) v x := vE_s rfl rfl
theorem q188_69 : vE 188 69 [l0, l1, l2, l3, .ref p, l5, l6, l7] st v x ↔ vE 188 71 [l0, l1, l2, l3, .ref p, l5, l6, l7] (.ref p :: st) v x := vE_s rfl rfl
theorem q188_71 : vE 188 71 [l0, l1, l2, l3, l4, .int a, l6, l7] st v x ↔ vE 188 73 [l0, l1, l2, l3, l4, .int a, l6, l7] (.int a :: st) v x := vE_s rfl rfl
theorem q188_73 : vE 188 73 [l0, l1, l2, l3, l4, l5, l6, l7] (w3 :: w2 :: w1 :: w0 :: st) v x ↔ ∃ y : vm_Y, vE 187 0 [w0, w1, w2, w3, .retAddr 0, .retAddr 0] [] v y ∧ vB 188 73 [l0, l1, l2, l3, l4, l5, l6, l7] st y x := vE_cs rfl rfl rfl rfl
theorem q188_76 : vE 188 76 [l0, l1, l2, l3, l4, l5, l6, l7] (.int a :: st) v x ↔ if a = 0 then vE 188 82 [l0, l1, l2, l3, l4, l5, l6, l7] st v x else vE 188 79 [l0, l1, l2, l3, l4, l5, l6, l7] st v x := vE_if rfl rfl
theorem q188_79 : vE 188 79 [l0, l1, l2, l3, l4, l5, l6, .int a] st v x ↔ vE 188 81 [l0, l1, l2, l3, l4, l5, l6, .int a] (.int a :: st) v x := vE_s rfl rfl
theorem q188_81 : vE 188 81 [l0, l1, l2, l3, l4, l5, l6, l7] ([.int a]) v x ↔ x = vr a v := vE_ir rfl
theorem q188_82 : vE 188 82 [l0, l1, l2, l3, l4, l5, .int a, l7] st v x ↔ vE 188 84 [l0, l1, l2, l3, l4, l5, .int a, l7] (.int a :: st) v x := vE_s rfl rfl
theorem q188_84 : vE 188 84 [l0, l1, l2, l3, l4, l5, l6, l7] (.int a :: st) v x ↔ if a = 0 then vE 188 126 [l0, l1, l2, l3, l4, l5, l6, l7] st v x else vE 188 87 [l0, l1, l2, l3, l4, l5, l6, l7] st v x := vE_if rfl rfl
theorem q188_87 : vE 188 87 [.ref p, l1, l2, l3, l4, l5, l6, l7] st v x ↔ vE 188 88 [.ref p, l1, l2, l3, l4, l5, l6, l7] (.ref p :: st) v x := vE_s rfl rfl
theorem q188_88 : vE 188 88 [l0, l1, l2, l3, l4, l5, l6, l7] (.ref p :: st) v x ↔ vE 188 91 [l0, l1, l2, l3, l4, l5, l6, l7] (.ref (p + 6) :: st) v x := vE_s rfl rfl
theorem q188_91 : vE 188 91 [l0, l1, l2, l3, l4, l5, l6, l7] st v x ↔ vE 188 93 [l0, l1, l2, l3, l4, l5, l6, l7] (.int 24 :: st) v x := vE_s rfl (by rfl)
theorem q188_93 : vE 188 93 [l0, l1, l2, l3, l4, l5, l6, .int a] st v x ↔ vE 188 95 [l0, l1, l2, l3, l4, l5, l6, .int a] (.int a :: st) v x := vE_s rfl rfl
theorem q188_95 : vE 188 95 [l0, l1, l2, l3, l4, l5, l6, l7] (.int b :: .int a :: st) v x ↔ vE 188 96 [l0, l1, l2, l3, l4, l5, l6, l7] (.int (a * b) :: st) v x := vE_s rfl rfl
theorem q188_96 : vE 188 96 [l0, l1, l2, l3, .ref p, l5, l6, l7] st v x ↔ vE 188 98 [l0, l1, l2, l3, .ref p, l5, l6, l7] (.ref p :: st) v x := vE_s rfl rfl
theorem q188_98 : vE 188 98 [l0, l1, l2, l3, l4, .int a, l6, l7] st v x ↔ vE 188 100 [l0, l1, l2, l3, l4, .int a, l6, l7] (.int a :: st) v x := vE_s rfl rfl
theorem q188_100 : vE 188 100 [l0, l1, l2, l3, l4, l5, l6, l7] (w3 :: w2 :: w1 :: w0 :: st) v x ↔ ∃ y : vm_Y, vE 187 0 [w0, w1, w2, w3, .retAddr 0, .retAddr 0] [] v y ∧ vB 188 100 [l0, l1, l2, l3, l4, l5, l6, l7] st y x := vE_cs rfl rfl rfl rfl
theorem q188_103 : vE 188 103 [l0, l1, l2, l3, l4, l5, l6, l7] (.int a :: st) v x ↔ if a = 0 then vE 188 126 [l0, l1, l2, l3, l4, l5, l6, l7] st v x else vE 188 106 [l0, l1, l2, l3, l4, l5, l6, l7] st v x := vE_if rfl rfl
theorem q188_106 : vE 188 106 [.ref p, l1, l2, l3, l4, l5, l6, l7] st v x ↔ vE 188 107 [.ref p, l1, l2, l3, l4, l5, l6, l7] (.ref p :: st) v x := vE_s rfl rfl
theorem q188_107 : vE 188 107 [l0, l1, l2, l3, l4, l5, l6, l7] (.ref p :: st) v x ↔ vE 188 110 [l0, l1, l2, l3, l4, l5, l6, l7] (.ref (p + 7) :: st) v x := vE_s rfl rfl
theorem q188_110 : vE 188 110 [l0, l1, l2, l3, l4, l5, l6, l7] st v x ↔ vE 188 112 [l0, l1, l2, l3, l4, l5, l6, l7] (.int 24 :: st) v x := vE_s rfl (by rfl)
theorem q188_112 : vE 188 112 [l0, l1, l2, l3, l4, l5, l6, .int a] st v x ↔ vE 188 114 [l0, l1, l2, l3, l4, l5, l6, .int a] (.int a :: st) v x := vE_s rfl rfl
theorem q188_114 : vE 188 114 [l0, l1, l2, l3, l4, l5, l6, l7] (.int b :: .int a :: st) v x ↔ vE 188 115 [l0, l1, l2, l3, l4, l5, l6, l7] (.int (a * b) :: st) v x := vE_s rfl rfl
theorem q188_115 : vE 188 115 [l0, l1, .ref p, l3, l4, l5, l6, l7] st v x ↔ vE 188 116 [l0, l1, .ref p, l3, l4, l5, l6, l7] (.ref p :: st) v x := vE_s rfl rfl
theorem q188_116 : vE 188 116 [l0, l1, l2, .int a, l4, l5, l6, l7] st v x ↔ vE 188 117 [l0, l1, l2, .int a, l4, l5, l6, l7] (.int a :: st) v x := vE_s rfl rfl
theorem q188_117 : vE 188 117 [l0, l1, l2, l3, l4, l5, l6, l7] (w3 :: w2 :: w1 :: w0 :: st) v x ↔ ∃ y : vm_Y, vE 187 0 [w0, w1, w2, w3, .retAddr 0, .retAddr 0] [] v y ∧ vB 188 117 [l0, l1, l2, l3, l4, l5, l6, l7] st y x := vE_cs rfl rfl rfl rfl
theorem q188_120 : vE 188 120 [l0, l1, l2, l3, l4, l5, l6, l7] (.int a :: st) v x ↔ if a = 0 then vE 188 126 [l0, l1, l2, l3, l4, l5, l6, l7] st v x else vE 188 123 [l0, l1, l2, l3, l4, l5, l6, l7] st v x := vE_if rfl rfl
theorem q188_123 : vE 188 123 [l0, l1, l2, l3, l4, l5, l6, .int a] st v x ↔ vE 188 125 [l0, l1, l2, l3, l4, l5, l6, .int a] (.int a :: st) v x := vE_s rfl rfl
theorem q188_125 : vE 188 125 [l0, l1, l2, l3, l4, l5, l6, l7] ([.int a]) v x ↔ x = vr a v := vE_ir rfl
theorem q188_126 : vE 188 126 [l0, l1, l2, l3, l4, l5, l6, .int a] st v x ↔ vE 188 129 [l0, l1, l2, l3, l4, l5, l6, .int (a + 1)] st v x := vE_s rfl rfl
theorem q188_129 : vE 188 129 [l0, l1, l2, l3, l4, l5, l6, l7] st v x ↔ vE 188 20 [l0, l1, l2, l3, l4, l5, l6, l7] st v x := vE_s rfl rfl
theorem q188_132 : vE 188 132 [.ref p, l1, l2, l3, l4, l5, l6, l7] st v x ↔ vE 188 133 [.ref p, l1, l2, l3, l4, l5, l6, l7] (.ref p :: st) v x := vE_s rfl rfl
theorem q188_133 : vE 188 133 [l0, l1, l2, l3, l4, l5, l6, l7] (.ref p :: st) v x ↔ vE 188 136 [l0, l1, l2, l3, l4, l5, l6, l7] (.ref (p + 5) :: st) v x := vE_s rfl rfl
theorem q188_136 : vE 188 136 [.ref p, l1, l2, l3, l4, l5, l6, l7] st v x ↔ vE 188 137 [.ref p, l1, l2, l3, l4, l5, l6, l7] (.ref p :: st) v x := vE_s rfl rfl
theorem q188_137 : vE 188 137 [l0, l1, l2, l3, l4, l5, l6, l7] (.ref p :: st) v x ↔ vE 188 140 [l0, l1, l2, l3, l4, l5, l6, l7] (.int (v.1 p 5) :: st) v x := vE_s rfl rfl
theorem q188_140 : vE 188 140 [l0, .int a, l2, l3, l4, l5, l6, l7] st v x ↔ vE 188 141 [l0, .int a, l2, l3, l4, l5, l6, l7] (.int a :: st) v x := vE_s rfl rfl
theorem q188_141 : vE 188 141 [l0, l1, l2, l3, l4, l5, l6, l7] (.int b :: .int a :: .ref p :: st) v x ↔ vE 188 142 [l0, l1, l2, l3, l4, l5, l6, l7] st (vm_si v p a.toNatClampNeg b) x := vE_s rfl rfl
theorem q188_142 : vE 188 142 [l0, l1, .ref p, l3, l4, l5, l6, l7] st v x ↔ vE 188 143 [l0, l1, .ref p, l3, l4, l5, l6, l7] (.ref p :: st) v x := vE_s rfl rfl
theorem q188_143 : vE 188 143 [l0, l1, l2, .int a, l4, l5, l6, l7] st v x ↔ vE 188 144 [l0, l1, l2, .int a, l4, l5, l6, l7] (.int a :: st) v x := vE_s rfl rfl
theorem q188_144 : vE 188 144 [.ref p, l1, l2, l3, l4, l5, l6, l7] st v x ↔ vE 188 145 [.ref p, l1, l2, l3, l4, l5, l6, l7] (.ref p :: st) v x := vE_s rfl rfl
theorem q188_145 : vE 188 145 [l0, l1, l2, l3, l4, l5, l6, l7] (.ref p :: st) v x ↔ vE 188 148 [l0, l1, l2, l3, l4, l5, l6, l7] (.ref (p + 6) :: st) v x := vE_s rfl rfl
theorem q188_148 : vE 188 148 [l0, l1, l2, l3, l4, l5, l6, l7] st v x ↔ vE 188 150 [l0, l1, l2, l3, l4, l5, l6, l7] (.int 24 :: st) v x := vE_s rfl (by rfl)
theorem q188_150 : vE 188 150 [.ref p, l1, l2, l3, l4, l5, l6, l7] st v x ↔ vE 188 151 [.ref p, l1, l2, l3, l4, l5, l6, l7] (.ref p :: st) v x := vE_s rfl rfl
theorem q188_151 : vE 188 151 [l0, l1, l2, l3, l4, l5, l6, l7] (.ref p :: st) v x ↔ vE 188 154 [l0, l1, l2, l3, l4, l5, l6, l7] (.int (v.1 p 5) :: st) v x := vE_s rfl rfl
theorem q188_154 : vE 188 154 [l0, l1, l2, l3, l4, l5, l6, l7] (.int b :: .int a :: st) v x ↔ vE 188 155 [l0, l1, l2, l3, l4, l5, l6, l7] (.int (a * b) :: st) v x := vE_s rfl rfl
theorem q188_155 : vE 188 155 [l0, l1, l2, l3, l4, l5, l6, l7] (w3 :: w2 :: w1 :: w0 :: st) v x ↔ ∃ y : vm_Y, vE 183 0 [w0, w1, w2, w3, .retAddr 0] [] v y ∧ vB 188 155 [l0, l1, l2, l3, l4, l5, l6, l7] st y x := vE_cs rfl rfl rfl rfl
theorem q188_158 : vE 188 158 [l0, l1, l2, l3, .ref p, l5, l6, l7] st v x ↔ vE 188 160 [l0, l1, l2, l3, .ref p, l5, l6, l7] (.ref p :: st) v x := vE_s rfl rfl
theorem q188_160 : vE 188 160 [l0, l1, l2, l3, l4, .int a, l6, l7] st v x ↔ vE 188 162 [l0, l1, l2, l3, l4, .int a, l6, l7] (.int a :: st) v x := vE_s rfl rfl
theorem q188_162 : vE 188 162 [.ref p, l1, l2, l3, l4, l5, l6, l7] st v x ↔ vE 188 163 [.ref p, l1, l2, l3, l4, l5, l6, l7] (.ref p :: st) v x := vE_s rfl rfl
theorem q188_163 : vE 188 163 [l0, l1, l2, l3, l4, l5, l6, l7] (.ref p :: st) v x ↔ vE 188 166 [l0, l1, l2, l3, l4, l5, l6, l7] (.ref (p + 7) :: st) v x := vE_s rfl rfl
theorem q188_166 : vE 188 166 [l0, l1, l2, l3, l4, l5, l6, l7] st v x ↔ vE 188 168 [l0, l1, l2, l3, l4, l5, l6, l7] (.int 24 :: st) v x := vE_s rfl (by rfl)
theorem q188_168 : vE 188 168 [.ref p, l1, l2, l3, l4, l5, l6, l7] st v x ↔ vE 188 169 [.ref p, l1, l2, l3, l4, l5, l6, l7] (.ref p :: st) v x := vE_s rfl rfl
theorem q188_169 : vE 188 169 [l0, l1, l2, l3, l4, l5, l6, l7] (.ref p :: st) v x ↔ vE 188 172 [l0, l1, l2, l3, l4, l5, l6, l7] (.int (v.1 p 5) :: st) v x := vE_s rfl rfl
theorem q188_172 : vE 188 172 [l0, l1, l2, l3, l4, l5, l6, l7] (.int b :: .int a :: st) v x ↔ vE 188 173 [l0, l1, l2, l3, l4, l5, l6, l7] (.int (a * b) :: st) v x := vE_s rfl rfl
theorem q188_173 : vE 188 173 [l0, l1, l2, l3, l4, l5, l6, l7] (w3 :: w2 :: w1 :: w0 :: st) v x ↔ ∃ y : vm_Y, vE 183 0 [w0, w1, w2, w3, .retAddr 0] [] v y ∧ vB 188 173 [l0, l1, l2, l3, l4, l5, l6, l7] st y x := vE_cs rfl rfl rfl rfl
theorem q188_176 : vE 188 176 [.ref p, l1, l2, l3, l4, l5, l6, l7] st v x ↔ vE 188 177 [.ref p, l1, l2, l3, l4, l5, l6, l7] (.ref p :: st) v x := vE_s rfl rfl
theorem q188_177 : vE 188 177 [l0, l1, l2, l3, l4, l5, l6, l7] (.ref p :: st) v x ↔ vE 188 178 [l0, l1, l2, l3, l4, l5, l6, l7] (.ref p :: .ref p :: st) v x := vE_s rfl rfl
theorem q188_178 : vE 188 178 [l0, l1, l2, l3, l4, l5, l6, l7] (.ref p :: st) v x ↔ vE 188 181 [l0, l1, l2, l3, l4, l5, l6, l7] (.int (v.1 p 5) :: st) v x := vE_s rfl rfl
theorem q188_181 : vE 188 181 [l0, l1, l2, l3, l4, l5, l6, l7] st v x ↔ vE 188 182 [l0, l1, l2, l3, l4, l5, l6, l7] (.int 1 :: st) v x := vE_s rfl (by rfl)
theorem q188_182 : vE 188 182 [l0, l1, l2, l3, l4, l5, l6, l7] (.int b :: .int a :: st) v x ↔ vE 188 183 [l0, l1, l2, l3, l4, l5, l6, l7] (.int (a + b) :: st) v x := vE_s rfl rfl
theorem q188_183 : vE 188 183 [l0, l1, l2, l3, l4, l5, l6, l7] (.int a :: .ref p :: st) v x ↔ vE 188 186 [l0, l1, l2, l3, l4, l5, l6, l7] st (vm_si v p 5 a) x := vE_s rfl rfl
theorem q188_186 : vE 188 186 [.ref p, l1, l2, l3, l4, l5, l6, l7] st v x ↔ vE 188 187 [.ref p, l1, l2, l3, l4, l5, l6, l7] (.ref p :: st) v x := vE_s rfl rfl
theorem q188_187 : vE 188 187 [l0, l1, l2, l3, l4, l5, l6, l7] (.ref p :: st) v x ↔ vE 188 190 [l0, l1, l2, l3, l4, l5, l6, l7] (.int (v.1 p 5) :: st) v x := vE_s rfl rfl
theorem q188_190 : vE 188 190 [l0, l1, l2, l3, l4, l5, l6, l7] st v x ↔ vE 188 191 [l0, l1, l2, l3, l4, l5, l6, l7] (.int 1 :: st) v x := vE_s rfl (by rfl)
theorem q188_191 : vE 188 191 [l0, l1, l2, l3, l4, l5, l6, l7] (.int b :: .int a :: st) v x ↔ vE 188 192 [l0, l1, l2, l3, l4, l5, l6, l7] (.int (a - b) :: st) v x := vE_s rfl rfl
theorem q188_192 : vE 188 192 [l0, l1, l2, l3, l4, l5, l6, l7] ([.int a]) v x ↔ x = vr a v := vE_ir rfl
theorem qt188 {X pc : Nat} {L r : List Value} : vB 188 pc L r (vt X v) x ↔ x = vt X v := vB_t rfl
/-! 189 PassCheckerModel.be(I)V -/
theorem q189_0 : vE 189 0 [.ref p, l1] st v x ↔ vE 189 1 [.ref p, l1] (.ref p :: st) v x := vE_s rfl rfl
theorem q189_1 : vE 189 1 [l0, l1] (.ref p :: st) v x ↔ vE 189 4 [l0, l1] (.ref (p + 13) :: st) v x := vE_s rfl rfl
theorem q189_4 : vE 189 4 [l0, l1] st v x ↔ vE 189 5 [l0, l1] (.int 0 :: st) v x := vE_s rfl (by rfl)
theorem q189_5 : vE 189 5 [l0, l1] st v x ↔ vE 189 6 [l0, l1] (.int 0 :: st) v x := vE_s rfl (by rfl)
theorem q189_6 : vE 189 6 [l0, l1] (w2 :: w1 :: w0 :: st) v x ↔ ∃ y : vm_Y, vE 179 0 [w0, w1, w2, .retAddr 0] [] v y ∧ vB 189 6 [l0, l1] st y x := vE_cs rfl rfl rfl rfl
theorem q189_9 : vE 189 9 [.ref p, l1] st v x ↔ vE 189 10 [.ref p, l1] (.ref p :: st) v x := vE_s rfl rfl
theorem q189_10 : vE 189 10 [l0, l1] (.ref p :: st) v x ↔ vE 189 13 [l0, l1] (.ref (p + 13) :: st) v x := vE_s rfl rfl
theorem q189_13 : vE 189 13 [l0, l1] st v x ↔ vE 189 14 [l0, l1] (.int 1 :: st) v x := vE_s rfl (by rfl)
theorem q189_14 : vE 189 14 [l0, .int a] st v x ↔ vE 189 15 [l0, .int a] (.int a :: st) v x := vE_s rfl rfl
theorem q189_15 : vE 189 15 [l0, l1] (.int b :: .int a :: st) v x ↔ vE 189 16 [l0, l1] (.int (a + b) :: st) v x := vE_s rfl rfl
theorem q189_16 : vE 189 16 [l0, l1] st v x ↔ vE 189 17 [l0, l1] (.int 1 :: st) v x := vE_s rfl (by rfl)
theorem q189_17 : vE 189 17 [l0, l1] (.int b :: .int a :: .ref p :: st) v x ↔ vE 189 18 [l0, l1] st (vm_si v p a.toNatClampNeg b) x := vE_s rfl rfl
theorem q189_18 : vE 189 18 [l0, l1] [] v x ↔ x = vd v := vE_vr rfl
theorem qt189 {X pc : Nat} {L r : List Value} : vB 189 pc L r (vt X v) x ↔ x = vt X v := vB_t rfl
/-! 190 PassCheckerModel.load(II)V -/
theorem q190_0 : vE 190 0 [.ref p, l1, l2, l3, l4] st v x ↔ vE 190 1 [.ref p, l1, l2, l3, l4] (.ref p :: st) v x := vE_s rfl rfl
theorem q190_1 : vE 190 1 [l0, l1, l2, l3, l4] st v x ↔ vE 190 3 [l0, l1, l2, l3, l4] (.int 8 :: st) v x := vE_s rfl (by rfl)
theorem q190_3 : vE 190 3 [.ref p, l1, l2, l3, l4] st v x ↔ vE 190 4 [.ref p, l1, l2, l3, l4] (.ref p :: st) v x := vE_s rfl rfl
theorem q190_4 : vE 190 4 [l0, l1, l2, l3, l4] (.ref p :: st) v x ↔ vE 190 7 [l0, l1, l2, l3, l4] (.ref (p + 8) :: st) v x := vE_s rfl rfl
theorem q190_7 : vE 190 7 [l0, l1, .int a, l3, l4] st v x ↔ vE 190 8 [l0, l1, .int a, l3, l4] (.int a :: st) v x := vE_s rfl rfl
theorem q190_8 : vE 190 8 [.ref p, l1, l2, l3, l4] st v x ↔ vE 190 9 [.ref p, l1, l2, l3, l4] (.ref p :: st) v x := vE_s rfl rfl
theorem q190_9 : vE 190 9 [l0, l1, l2, l3, l4] (.ref p :: st) v x ↔ vE 190 12 [l0, l1, l2, l3, l4] (.ref (p + 14) :: st) v x := vE_s rfl rfl
theorem q190_12 : vE 190 12 [l0, l1, l2, l3, l4] st v x ↔ vE 190 13 [l0, l1, l2, l3, l4] (.int 0 :: st) v x := vE_s rfl (by rfl)
theorem q190_13 : vE 190 13 [l0, l1, l2, l3, l4] (w5 :: w4 :: w3 :: w2 :: w1 :: w0 :: st) v x ↔ ∃ y : vm_Y, vE 188 0 [w0, w1, w2, w3, w4, w5, .retAddr 0, .retAddr 0] [] v y ∧ vB 190 13 [l0, l1, l2, l3, l4] st y x := vE_cv rfl rfl rfl rfl
theorem q190_16 : vE 190 16 [l0, l1, l2, l3, l4] (.int a :: st) v x ↔ vE 190 17 [l0, l1, l2, .int a, l4] st v x := vE_s rfl rfl
theorem q190_17 : vE 190 17 [.ref p, l1, l2, l3, l4] st v x ↔ vE 190 18 [.ref p, l1, l2, l3, l4] (.ref p :: st) v x := vE_s rfl rfl
theorem q190_18 : vE 190 18 [l0, l1, l2, l3, l4] (.ref p :: st) v x ↔ vE 190 21 [l0, l1, l2, l3, l4] (.ref (p + 8) :: st) v x := vE_s rfl rfl
theorem q190_21 : vE 190 21 [l0, l1, .int a, l3, l4] st v x ↔ vE 190 22 [l0, l1, .int a, l3, l4] (.int a :: st) v x := vE_s rfl rfl
theorem q190_22 : vE 190 22 [l0, l1, l2, l3, l4] (w1 :: w0 :: st) v x ↔ ∃ y : vm_Y, vE 185 0 [w0, w1, .retAddr 0, .retAddr 0] [] v y ∧ vB 190 22 [l0, l1, l2, l3, l4] st y x := vE_cs rfl rfl rfl rfl
theorem q190_25 : vE 190 25 [l0, l1, l2, l3, l4] (.int a :: st) v x ↔ if a = 0 then vE 190 52 [l0, l1, l2, l3, l4] st v x else vE 190 28 [l0, l1, l2, l3, l4] st v x := vE_if rfl rfl
theorem q190_28 : vE 190 28 [.ref p, l1, l2, l3, l4] st v x ↔ vE 190 29 [.ref p, l1, l2, l3, l4] (.ref p :: st) v x := vE_s rfl rfl
theorem q190_29 : vE 190 29 [l0, l1, l2, l3, l4] (.ref p :: st) v x ↔ vE 190 32 [l0, l1, l2, l3, l4] (.ref (p + 8) :: st) v x := vE_s rfl rfl
theorem q190_32 : vE 190 32 [l0, l1, .int a, l3, l4] st v x ↔ vE 190 33 [l0, l1, .int a, l3, l4] (.int a :: st) v x := vE_s rfl rfl
theorem q190_33 : vE 190 33 [l0, l1, l2, l3, l4] (.int a :: .ref p :: st) v x ↔ vE 190 34 [l0, l1, l2, l3, l4] (.int (v.1 p a.toNatClampNeg) :: st) v x := vE_s rfl rfl
theorem q190_34 : vE 190 34 [l0, l1, l2, l3, l4] (.int a :: st) v x ↔ if a < 0 then vE 190 52 [l0, l1, l2, l3, l4] st v x else vE 190 37 [l0, l1, l2, l3, l4] st v x := vE_if rfl rfl
theorem q190_37 : vE 190 37 [.ref p, l1, l2, l3, l4] st v x ↔ vE 190 38 [.ref p, l1, l2, l3, l4] (.ref p :: st) v x := vE_s rfl rfl
theorem q190_38 : vE 190 38 [l0, l1, l2, l3, l4] (.ref p :: st) v x ↔ vE 190 41 [l0, l1, l2, l3, l4] (.ref (p + 8) :: st) v x := vE_s rfl rfl
theorem q190_41 : vE 190 41 [l0, l1, .int a, l3, l4] st v x ↔ vE 190 42 [l0, l1, .int a, l3, l4] (.int a :: st) v x := vE_s rfl rfl
theorem q190_42 : vE 190 42 [l0, l1, l2, l3, l4] (.int a :: .ref p :: st) v x ↔ vE 190 43 [l0, l1, l2, l3, l4] (.int (v.1 p a.toNatClampNeg) :: st) v x := vE_s rfl rfl
theorem q190_43 : vE 190 43 [l0, l1, l2, l3, l4] st v x ↔ vE 190 45 [l0, l1, l2, l3, l4] (.int 8 :: st) v x := vE_s rfl (by rfl)
theorem q190_45 : vE 190 45 [l0, l1, l2, l3, l4] (.int b :: .int a :: st) v x ↔ if b ≤ a then vE 190 52 [l0, l1, l2, l3, l4] st v x else vE 190 48 [l0, l1, l2, l3, l4] st v x := vE_if rfl rfl
theorem q190_48 : vE 190 48 [l0, l1, l2, l3, l4] st v x ↔ vE 190 49 [l0, l1, l2, l3, l4] (.int 1 :: st) v x := vE_s rfl (by rfl)
theorem q190_49 : vE 190 49 [l0, l1, l2, l3, l4] st v x ↔ vE 190 53 [l0, l1, l2, l3, l4] st v x := vE_s rfl rfl
theorem q190_52 : vE 190 52 [l0, l1, l2, l3, l4] st v x ↔ vE 190 53 [l0, l1, l2, l3, l4] (.int 0 :: st) v x := vE_s rfl (by rfl)
theorem q190_53 : vE 190 53 [l0, l1, l2, l3, l4] (.int a :: st) v x ↔ vE 190 55 [l0, l1, l2, l3, .int a] st v x := vE_s rfl rfl
theorem q190_55 : vE 190 55 [l0, l1, l2, l3, .int a] st v x ↔ vE 190 57 [l0, l1, l2, l3, .int a] (.int a :: st) v x := vE_s rfl rfl
theorem q190_57 : vE 190 57 [l0, l1, l2, l3, l4] (.int a :: st) v x ↔ if a = 0 then vE 190 60 [l0, l1, l2, l3, l4] st v x else vE 190 86 [l0, l1, l2, l3, l4] st v x := vE_if rfl rfl
theorem q190_60 : vE 190 60 [.ref p, l1, l2, l3, l4] st v x ↔ vE 190 61 [.ref p, l1, l2, l3, l4] (.ref p :: st) v x := vE_s rfl rfl
theorem q190_61 : vE 190 61 [l0, l1, l2, l3, l4] (.ref p :: st) v x ↔ vE 190 64 [l0, l1, l2, l3, l4] (.ref (p + 28) :: st) v x := vE_s rfl rfl
theorem q190_64 : vE 190 64 [l0, l1, l2, .int a, l4] st v x ↔ vE 190 65 [l0, l1, l2, .int a, l4] (.int a :: st) v x := vE_s rfl rfl
theorem q190_65 : vE 190 65 [l0, l1, l2, l3, l4] (.int a :: .ref p :: st) v x ↔ vE 190 66 [l0, l1, l2, l3, l4] (.int (v.1 p a.toNatClampNeg) :: st) v x := vE_s rfl rfl
theorem q190_66 : vE 190 66 [l0, l1, l2, l3, l4] (.int a :: st) v x ↔ if a = 0 then vE 190 69 [l0, l1, l2, l3, l4] st v x else vE 190 86 [l0, l1, l2, l3, l4] st v x := vE_if rfl rfl
theorem q190_69 : vE 190 69 [.ref p, l1, l2, l3, l4] st v x ↔ vE 190 70 [.ref p, l1, l2, l3, l4] (.ref p :: st) v x := vE_s rfl rfl
theorem q190_70 : vE 190 70 [l0, .int a, l2, l3, l4] st v x ↔ vE 190 71 [l0, .int a, l2, l3, l4] (.int a :: st) v x := vE_s rfl rfl
theorem q190_71 : vE 190 71 [l0, l1, l2, l3, l4] st v x ↔ vE 190 73 [l0, l1, l2, l3, l4] (.int 8 :: st) v x := vE_s rfl (by rfl)
theorem q190_73 : vE 190 73 [.ref p, l1, l2, l3, l4] st v x ↔ vE 190 74 [.ref p, l1, l2, l3, l4] (.ref p :: st) v x := vE_s rfl rfl
theorem q190_74 : vE 190 74 [l0, l1, l2, l3, l4] (.ref p :: st) v x ↔ vE 190 77 [l0, l1, l2, l3, l4] (.ref (p + 8) :: st) v x := vE_s rfl rfl
theorem q190_77 : vE 190 77 [l0, l1, .int a, l3, l4] st v x ↔ vE 190 78 [l0, l1, .int a, l3, l4] (.int a :: st) v x := vE_s rfl rfl
theorem q190_78 : vE 190 78 [.ref p, l1, l2, l3, l4] st v x ↔ vE 190 79 [.ref p, l1, l2, l3, l4] (.ref p :: st) v x := vE_s rfl rfl
theorem q190_79 : vE 190 79 [l0, l1, l2, l3, l4] (.ref p :: st) v x ↔ vE 190 82 [l0, l1, l2, l3, l4] (.ref (p + 14) :: st) v x := vE_s rfl rfl
theorem q190_82 : vE 190 82 [l0, l1, l2, l3, l4] st v x ↔ vE 190 83 [l0, l1, l2, l3, l4] (.int 0 :: st) v x := vE_s rfl (by rfl)
theorem q190_83 : vE 190 83 [l0, l1, l2, l3, l4] (w6 :: w5 :: w4 :: w3 :: w2 :: w1 :: w0 :: st) v x ↔ ∃ y : vm_Y, vE 182 0 [w0, w1, w2, w3, w4, w5, w6, .retAddr 0] [] v y ∧ vB 190 83 [l0, l1, l2, l3, l4] st y x := vE_cv rfl rfl rfl rfl
theorem q190_86 : vE 190 86 [.ref p, l1, l2, l3, l4] st v x ↔ vE 190 87 [.ref p, l1, l2, l3, l4] (.ref p :: st) v x := vE_s rfl rfl
theorem q190_87 : vE 190 87 [l0, l1, l2, l3, l4] (.ref p :: st) v x ↔ vE 190 90 [l0, l1, l2, l3, l4] (.ref (p + 28) :: st) v x := vE_s rfl rfl
theorem q190_90 : vE 190 90 [l0, l1, l2, .int a, l4] st v x ↔ vE 190 91 [l0, l1, l2, .int a, l4] (.int a :: st) v x := vE_s rfl rfl
theorem q190_91 : vE 190 91 [l0, l1, l2, l3, l4] st v x ↔ vE 190 92 [l0, l1, l2, l3, l4] (.int 1 :: st) v x := vE_s rfl (by rfl)
theorem q190_92 : vE 190 92 [l0, l1, l2, l3, l4] (.int b :: .int a :: .ref p :: st) v x ↔ vE 190 93 [l0, l1, l2, l3, l4] st (vm_si v p a.toNatClampNeg (b &&& 1)) x := vE_s rfl rfl
theorem q190_93 : vE 190 93 [.ref p, l1, l2, l3, l4] st v x ↔ vE 190 94 [.ref p, l1, l2, l3, l4] (.ref p :: st) v x := vE_s rfl rfl
theorem q190_94 : vE 190 94 [l0, l1, l2, .int a, l4] st v x ↔ vE 190 95 [l0, l1, l2, .int a, l4] (.int a :: st) v x := vE_s rfl rfl
theorem q190_95 : vE 190 95 [l0, l1, l2, l3, l4] (w1 :: w0 :: st) v x ↔ ∃ y : vm_Y, vE 189 0 [w0, w1] [] v y ∧ vB 190 95 [l0, l1, l2, l3, l4] st y x := vE_cv rfl rfl rfl rfl
theorem q190_98 : vE 190 98 [l0, l1, l2, l3, l4] [] v x ↔ x = vd v := vE_vr rfl
theorem qt190 {X pc : Nat} {L r : List Value} : vB 190 pc L r (vt X v) x ↔ x = vt X v := vB_t rfl
/-! 191 PassCheckerModel.combine(III)V -/
theorem q191_0 : vE 191 0 [.ref p, l1, l2, l3, l4, l5, l6, l7, l8, l9] st v x ↔ vE 191 1 [.ref p, l1, l2, l3, l4, l5, l6, l7, l8, l9] (.ref p :: st) v x := vE_s rfl rfl
theorem q191_1 : vE 191 1 [l0, l1, l2, l3, l4, l5, l6, l7, l8, l9] (.ref p :: st) v x ↔ vE 191 4 [l0, l1, l2, l3, l4, l5, l6, l7, l8, l9] (.ref (p + 8) :: st) v x := vE_s rfl rfl
theorem q191_4 : vE 191 4 [l0, l1, .int a, l3, l4, l5, l6, l7, l8, l9] st v x ↔ vE 191 5 [l0, l1, .int a, l3, l4, l5, l6, l7, l8, l9] (.int a :: st) v x := vE_s rfl rfl
theorem q191_5 : vE 191 5 [l0, l1, l2, l3, l4, l5, l6, l7, l8, l9] (w1 :: w0 :: st) v x ↔ ∃ y : vm_Y, vE 185 0 [w0, w1, .retAddr 0, .retAddr 0] [] v y ∧ vB 191 5 [l0, l1, l2, l3, l4, l5, l6, l7, l8, l9] st y x := vE_cs rfl rfl rfl rfl
theorem q191_8 : vE 191 8 [l0, l1, l2, l3, l4, l5, l6, l7, l8, l9] (.int a :: st) v x ↔ vE 191 10 [l0, l1, l2, l3, .int a, l5, l6, l7, l8, l9] st v x := vE_s rfl rfl
theorem q191_10 : vE 191 10 [.ref p, l1, l2, l3, l4, l5, l6, l7, l8, l9] st v x ↔ vE 191 11 [.ref p, l1, l2, l3, l4, l5, l6, l7, l8, l9] (.ref p :: st) v x := vE_s rfl rfl
theorem q191_11 : vE 191 11 [l0, l1, l2, l3, l4, l5, l6, l7, l8, l9] (.ref p :: st) v x ↔ vE 191 14 [l0, l1, l2, l3, l4, l5, l6, l7, l8, l9] (.ref (p + 8) :: st) v x := vE_s rfl rfl
theorem q191_14 : vE 191 14 [l0, l1, l2, .int a, l4, l5, l6, l7, l8, l9] st v x ↔ vE 191 15 [l0, l1, l2, .int a, l4, l5, l6, l7, l8, l9] (.int a :: st) v x := vE_s rfl rfl
theorem q191_15 : vE 191 15 [l0, l1, l2, l3, l4, l5, l6, l7, l8, l9] (w1 :: w0 :: st) v x ↔ ∃ y : vm_Y, vE 185 0 [w0, w1, .retAddr 0, .retAddr 0] [] v y ∧ vB 191 15 [l0, l1, l2, l3, l4, l5, l6, l7, l8, l9] st y x := vE_cs rfl rfl rfl rfl
theorem q191_18 : vE 191 18 [l0, l1, l2, l3, l4, l5, l6, l7, l8, l9] (.int a :: st) v x ↔ vE 191 20 [l0, l1, l2, l3, l4, .int a, l6, l7, l8, l9] st v x := vE_s rfl rfl
theorem q191_20 : vE 191 20 [.ref p, l1, l2, l3, l4, l5, l6, l7, l8, l9] st v x ↔ vE 191 21 [.ref p, l1, l2, l3, l4, l5, l6, l7, l8, l9] (.ref p :: st) v x := vE_s rfl rfl
theorem q191_21 : vE 191 21 [l0, l1, l2, l3, l4, l5, l6, l7, l8, l9] (.ref p :: st) v x ↔ vE 191 24 [l0, l1, l2, l3, l4, l5, l6, l7, l8, l9] (.ref (p + 8) :: st) v x := vE_s rfl rfl
theorem q191_24 : vE 191 24 [l0, l1, .int a, l3, l4, l5, l6, l7, l8, l9] st v x ↔ vE 191 25 [l0, l1, .int a, l3, l4, l5, l6, l7, l8, l9] (.int a :: st) v x := vE_s rfl rfl
theorem q191_25 : vE 191 25 [.ref p, l1, l2, l3, l4, l5, l6, l7, l8, l9] st v x ↔ vE 191 26 [.ref p, l1, l2, l3, l4, l5, l6, l7, l8, l9] (.ref p :: st) v x := vE_s rfl rfl
theorem q191_26 : vE 191 26 [l0, l1, l2, l3, l4, l5, l6, l7, l8, l9] (.ref p :: st) v x ↔ vE 191 29 [l0, l1, l2, l3, l4, l5, l6, l7, l8, l9] (.ref (p + 8) :: st) v x := vE_s rfl rfl
theorem q191_29 : vE 191 29 [l0, l1, l2, .int a, l4, l5, l6, l7, l8, l9] st v x ↔ vE 191 30 [l0, l1, l2, .int a, l4, l5, l6, l7, l8, l9] (.int a :: st) v x := vE_s rfl rfl
theorem q191_30 : vE 191 30 [l0, l1, l2, l3, l4, l5, l6, l7, l8, l9] (w3 :: w2 :: w1 :: w0 :: st) v x ↔ ∃ y : vm_Y, vE 187 0 [w0, w1, w2, w3, .retAddr 0, .retAddr 0] [] v y ∧ vB 191 30 [l0, l1, l2, l3, l4, l5, l6, l7, l8, l9] st y x := vE_cs rfl rfl rfl rfl
theorem q191_33 : vE 191 33 [l0, l1, l2, l3, l4, l5, l6, l7, l8, l9] (.int a :: st) v x ↔ vE 191 35 [l0, l1, l2, l3, l4, l5, .int a, l7, l8, l9] st v x := vE_s rfl rfl
theorem q191_35 : vE 191 35 [l0, .int a, l2, l3, l4, l5, l6, l7, l8, l9] st v x ↔ vE 191 36 [l0, .int a, l2, l3, l4, l5, l6, l7, l8, l9] (.int a :: st) v x := vE_s rfl rfl
theorem q191_36 : vE 191 36 [l0, l1, l2, l3, l4, l5, l6, l7, l8, l9] st v x ↔ vE 191 37 [l0, l1, l2, l3, l4, l5, l6, l7, l8, l9] (.int 2 :: st) v x := vE_s rfl (by rfl)
theorem q191_37 : vE 191 37 [l0, l1, l2, l3, l4, l5, l6, l7, l8, l9] (.int b :: .int a :: st) v x ↔ if a = b then vE 191 45 [l0, l1, l2, l3, l4, l5, l6, l7, l8, l9] st v x else vE 191 40 [l0, l1, l2, l3, l4, l5, l6, l7, l8, l9] st v x := vE_if rfl rfl
theorem q191_40 : vE 191 40 [l0, .int a, l2, l3, l4, l5, l6, l7, l8, l9] st v x ↔ vE 191 41 [l0, .int a, l2, l3, l4, l5, l6, l7, l8, l9] (.int a :: st) v x := vE_s rfl rfl
theorem q191_41 : vE 191 41 [l0, l1, l2, l3, l4, l5, l6, l7, l8, l9] st v x ↔ vE 191 42 [l0, l1, l2, l3, l4, l5, l6, l7, l8, l9] (.int 3 :: st) v x := vE_s rfl (by rfl)
theorem q191_42 : vE 191 42 [l0, l1, l2, l3, l4, l5, l6, l7, l8, l9] (.int b :: .int a :: st) v x ↔ if a = b then vE 191 45 [l0, l1, l2, l3, l4, l5, l6, l7, l8, l9] st v x else vE 191 117 [l0, l1, l2, l3, l4, l5, l6, l7, l8, l9] st v x := vE_if rfl rfl
theorem q191_45 : vE 191 45 [l0, l1, l2, l3, l4, l5, l6, l7, l8, l9] st v x ↔ vE 191 46 [l0, l1, l2, l3, l4, l5, l6, l7, l8, l9] (.int 0 :: st) v x := vE_s rfl (by rfl)
theorem q191_46 : vE 191 46 [l0, l1, l2, l3, l4, l5, l6, l7, l8, l9] (.int a :: st) v x ↔ vE 191 48 [l0, l1, l2, l3, l4, l5, l6, .int a, l8, l9] st v x := vE_s rfl rfl
theorem q191_48 : vE 191 48 [l0, l1, l2, l3, l4, l5, l6, .int a, l8, l9] st v x ↔ vE 191 50 [l0, l1, l2, l3, l4, l5, l6, .int a, l8, l9] (.int a :: st) v x := vE_s rfl rfl
theorem q191_50 : vE 191 50 [l0, l1, l2, l3, l4, l5, l6, l7, l8, l9] st v x ↔ vE 191 52 [l0, l1, l2, l3, l4, l5, l6, l7, l8, l9] (.int 24 :: st) v x := vE_s rfl (by rfl)
theorem q191_52 : vE 191 52 [l0, l1, l2, l3, l4, l5, l6, l7, l8, l9] (.int b :: .int a :: st) v x ↔ if b ≤ a then vE 191 114 [l0, l1, l2, l3, l4, l5, l6, l7, l8, l9] st v x else vE 191 55 [l0, l1, l2, l3, l4, l5, l6, l7, l8, l9] st v x := vE_if rfl rfl
theorem q191_55 : vE 191 55 [.ref p, l1, l2, l3, l4, l5, l6, l7, l8, l9] st v x ↔ vE 191 56 [.ref p, l1, l2, l3, l4, l5, l6, l7, l8, l9] (.ref p :: st) v x := vE_s rfl rfl
theorem q191_56 : vE 191 56 [l0, l1, l2, l3, l4, l5, l6, l7, l8, l9] (.ref p :: st) v x ↔ vE 191 59 [l0, l1, l2, l3, l4, l5, l6, l7, l8, l9] (.ref (p + 13) :: st) v x := vE_s rfl rfl
theorem q191_59 : vE 191 59 [l0, l1, l2, l3, l4, l5, l6, .int a, l8, l9] st v x ↔ vE 191 61 [l0, l1, l2, l3, l4, l5, l6, .int a, l8, l9] (.int a :: st) v x := vE_s rfl rfl
theorem q191_61 : vE 191 61 [l0, .int a, l2, l3, l4, l5, l6, l7, l8, l9] st v x ↔ vE 191 62 [l0, .int a, l2, l3, l4, l5, l6, l7, l8, l9] (.int a :: st) v x := vE_s rfl rfl
theorem q191_62 : vE 191 62 [l0, l1, l2, l3, l4, l5, l6, l7, l8, l9] st v x ↔ vE 191 63 [l0, l1, l2, l3, l4, l5, l6, l7, l8, l9] (.int 2 :: st) v x := vE_s rfl (by rfl)
theorem q191_63 : vE 191 63 [l0, l1, l2, l3, l4, l5, l6, l7, l8, l9] (.int b :: .int a :: st) v x ↔ if a = b then vE 191 66 [l0, l1, l2, l3, l4, l5, l6, l7, l8, l9] st v x else vE 191 88 [l0, l1, l2, l3, l4, l5, l6, l7, l8, l9] st v x := vE_if rfl rfl
theorem q191_66 : vE 191 66 [.ref p, l1, l2, l3, l4, l5, l6, l7, l8, l9] st v x ↔ vE 191 67 [.ref p, l1, l2, l3, l4, l5, l6, l7, l8, l9] (.ref p :: st) v x := vE_s rfl rfl
theorem q191_67 : vE 191 67 [l0, l1, l2, l3, l4, l5, l6, l7, l8, l9] (.ref p :: st) v x ↔ vE 191 70 [l0, l1, l2, l3, l4, l5, l6, l7, l8, l9] (.ref (p + 8) :: st) v x := vE_s rfl rfl
theorem q191_70 : vE 191 70 [l0, l1, .int a, l3, l4, l5, l6, l7, l8, l9] st v x ↔ vE 191 71 [l0, l1, .int a, l3, l4, l5, l6, l7, l8, l9] (.int a :: st) v x := vE_s rfl rfl
theorem q191_71 : vE 191 71 [l0, l1, l2, l3, l4, l5, l6, .int a, l8, l9] st v x ↔ vE 191 73 [l0, l1, l2, l3, l4, l5, l6, .int a, l8, l9] (.int a :: st) v x := vE_s rfl rfl
theorem q191_73 : vE 191 73 [l0, l1, l2, l3, l4, l5, l6, l7, l8, l9] (.int b :: .int a :: st) v x ↔ vE 191 74 [l0, l1, l2, l3, l4, l5, l6, l7, l8, l9] (.int (a + b) :: st) v x := vE_s rfl rfl
theorem q191_74 : vE 191 74 [l0, l1, l2, l3, l4, l5, l6, l7, l8, l9] (.int a :: .ref p :: st) v x ↔ vE 191 75 [l0, l1, l2, l3, l4, l5, l6, l7, l8, l9] (.int (v.1 p a.toNatClampNeg) :: st) v x := vE_s rfl rfl
theorem q191_75 : vE 191 75 [.ref p, l1, l2, l3, l4, l5, l6, l7, l8, l9] st v x ↔ vE 191 76 [.ref p, l1, l2, l3, l4, l5, l6, l7, l8, l9] (.ref p :: st) v x := vE_s rfl rfl
theorem q191_76 : vE 191 76 [l0, l1, l2, l3, l4, l5, l6, l7, l8, l9] (.ref p :: st) v x ↔ vE 191 79 [l0, l1, l2, l3, l4, l5, l6, l7, l8, l9] (.ref (p + 8) :: st) v x := vE_s rfl rfl
theorem q191_79 : vE 191 79 [l0, l1, l2, .int a, l4, l5, l6, l7, l8, l9] st v x ↔ vE 191 80 [l0, l1, l2, .int a, l4, l5, l6, l7, l8, l9] (.int a :: st) v x := vE_s rfl rfl
theorem q191_80 : vE 191 80 [l0, l1, l2, l3, l4, l5, l6, .int a, l8, l9] st v x ↔ vE 191 82 [l0, l1, l2, l3, l4, l5, l6, .int a, l8, l9] (.int a :: st) v x := vE_s rfl rfl
theorem q191_82 : vE 191 82 [l0, l1, l2, l3, l4, l5, l6, l7, l8, l9] (.int b :: .int a :: st) v x ↔ vE 191 83 [l0, l1, l2, l3, l4, l5, l6, l7, l8, l9] (.int (a + b) :: st) v x := vE_s rfl rfl
theorem q191_83 : vE 191 83 [l0, l1, l2, l3, l4, l5, l6, l7, l8, l9] (.int a :: .ref p :: st) v x ↔ vE 191 84 [l0, l1, l2, l3, l4, l5, l6, l7, l8, l9] (.int (v.1 p a.toNatClampNeg) :: st) v x := vE_s rfl rfl
theorem q191_84 : vE 191 84 [l0, l1, l2, l3, l4, l5, l6, l7, l8, l9] (.int b :: .int a :: st) v x ↔ vE 191 85 [l0, l1, l2, l3, l4, l5, l6, l7, l8, l9] (.int (a + b) :: st) v x := vE_s rfl rfl
theorem q191_85 : vE 191 85 [l0, l1, l2, l3, l4, l5, l6, l7, l8, l9] st v x ↔ vE 191 107 [l0, l1, l2, l3, l4, l5, l6, l7, l8, l9] st v x := vE_s rfl rfl
theorem q191_88 : vE 191 88 [.ref p, l1, l2, l3, l4, l5, l6, l7, l8, l9] st v x ↔ vE 191 89 [.ref p, l1, l2, l3, l4, l5, l6, l7, l8, l9] (.ref p :: st) v x := vE_s rfl rfl
theorem q191_89 : vE 191 89 [l0, l1, l2, l3, l4, l5, l6, l7, l8, l9] (.ref p :: st) v x ↔ vE 191 92 [l0, l1, l2, l3, l4, l5, l6, l7, l8, l9] (.ref (p + 8) :: st) v x := vE_s rfl rfl
theorem q191_92 : vE 191 92 [l0, l1, .int a, l3, l4, l5, l6, l7, l8, l9] st v x ↔ vE 191 93 [l0, l1, .int a, l3, l4, l5, l6, l7, l8, l9] (.int a :: st) v x := vE_s rfl rfl
theorem q191_93 : vE 191 93 [l0, l1, l2, l3, l4, l5, l6, .int a, l8, l9] st v x ↔ vE 191 95 [l0, l1, l2, l3, l4, l5, l6, .int a, l8, l9] (.int a :: st) v x := vE_s rfl rfl
theorem q191_95 : vE 191 95 [l0, l1, l2, l3, l4, l5, l6, l7, l8, l9] (.int b :: .int a :: st) v x ↔ vE 191 96 [l0, l1, l2, l3, l4, l5, l6, l7, l8, l9] (.int (a + b) :: st) v x := vE_s rfl rfl
theorem q191_96 : vE 191 96 [l0, l1, l2, l3, l4, l5, l6, l7, l8, l9] (.int a :: .ref p :: st) v x ↔ vE 191 97 [l0, l1, l2, l3, l4, l5, l6, l7, l8, l9] (.int (v.1 p a.toNatClampNeg) :: st) v x := vE_s rfl rfl
theorem q191_97 : vE 191 97 [.ref p, l1, l2, l3, l4, l5, l6, l7, l8, l9] st v x ↔ vE 191 98 [.ref p, l1, l2, l3, l4, l5, l6, l7, l8, l9] (.ref p :: st) v x := vE_s rfl rfl
theorem q191_98 : vE 191 98 [l0, l1, l2, l3, l4, l5, l6, l7, l8, l9] (.ref p :: st) v x ↔ vE 191 101 [l0, l1, l2, l3, l4, l5, l6, l7, l8, l9] (.ref (p + 8) :: st) v x := vE_s rfl rfl
theorem q191_101 : vE 191 101 [l0, l1, l2, .int a, l4, l5, l6, l7, l8, l9] st v x ↔ vE 191 102 [l0, l1, l2, .int a, l4, l5, l6, l7, l8, l9] (.int a :: st) v x := vE_s rfl rfl
theorem q191_102 : vE 191 102 [l0, l1, l2, l3, l4, l5, l6, .int a, l8, l9] st v x ↔ vE 191 104 [l0, l1, l2, l3, l4, l5, l6, .int a, l8, l9] (.int a :: st) v x := vE_s rfl rfl
theorem q191_104 : vE 191 104 [l0, l1, l2, l3, l4, l5, l6, l7, l8, l9] (.int b :: .int a :: st) v x ↔ vE 191 105 [l0, l1, l2, l3, l4, l5, l6, l7, l8, l9] (.int (a + b) :: st) v x := vE_s rfl rfl
theorem q191_105 : vE 191 105 [l0, l1, l2, l3, l4, l5, l6, l7, l8, l9] (.int a :: .ref p :: st) v x ↔ vE 191 106 [l0, l1, l2, l3, l4, l5, l6, l7, l8, l9] (.int (v.1 p a.toNatClampNeg) :: st) v x := vE_s rfl rfl
theorem q191_106 : vE 191 106 [l0, l1, l2, l3, l4, l5, l6, l7, l8, l9] (.int b :: .int a :: st) v x ↔ vE 191 107 [l0, l1, l2, l3, l4, l5, l6, l7, l8, l9] (.int (a - b) :: st) v x := vE_s rfl rfl
theorem q191_107 : vE 191 107 [l0, l1, l2, l3, l4, l5, l6, l7, l8, l9] (.int b :: .int a :: .ref p :: st) v x ↔ vE 191 108 [l0, l1, l2, l3, l4, l5, l6, l7, l8, l9] st (vm_si v p a.toNatClampNeg b) x := vE_s rfl rfl
theorem q191_108 : vE 191 108 [l0, l1, l2, l3, l4, l5, l6, .int a, l8, l9] st v x ↔ vE 191 111 [l0, l1, l2, l3, l4, l5, l6, .int (a + 1), l8, l9] st v x := vE_s rfl rfl
theorem q191_111 : vE 191 111 [l0, l1, l2, l3, l4, l5, l6, l7, l8, l9] st v x ↔ vE 191 48 [l0, l1, l2, l3, l4, l5, l6, l7, l8, l9] st v x := vE_s rfl rfl
theorem q191_114 : vE 191 114 [l0, l1, l2, l3, l4, l5, l6, l7, l8, l9] st v x ↔ vE 191 431 [l0, l1, l2, l3, l4, l5, l6, l7, l8, l9] st v x := vE_s rfl rfl
theorem q191_117 : vE 191 117 [l0, .int a, l2, l3, l4, l5, l6, l7, l8, l9] st v x ↔ vE 191 118 [l0, .int a, l2, l3, l4, l5, l6, l7, l8, l9] (.int a :: st) v x := vE_s rfl rfl
theorem q191_118 : vE 191 118 [l0, l1, l2, l3, l4, l5, l6, l7, l8, l9] st v x ↔ vE 191 119 [l0, l1, l2, l3, l4, l5, l6, l7, l8, l9] (.int 4 :: st) v x := vE_s rfl (by rfl)
theorem q191_119 : vE 191 119 [l0, l1, l2, l3, l4, l5, l6, l7, l8, l9] (.int b :: .int a :: st) v x ↔ if a = b then vE 191 122 [l0, l1, l2, l3, l4, l5, l6, l7, l8, l9] st v x else vE 191 205 [l0, l1, l2, l3, l4, l5, l6, l7, l8, l9] st v x := vE_if rfl rfl
theorem q191_122 : vE 191 122 [l0, l1, l2, l3, .int a, l5, l6, l7, l8, l9] st v x ↔ vE 191 124 [l0, l1, l2, l3, .int a, l5, l6, l7, l8, l9] (.int a :: st) v x := vE_s rfl rfl
theorem q191_124 : vE 191 124 [l0, l1, l2, l3, l4, l5, l6, l7, l8, l9] (.int a :: st) v x ↔ if a = 0 then vE 191 127 [l0, l1, l2, l3, l4, l5, l6, l7, l8, l9] st v x else vE 191 132 [l0, l1, l2, l3, l4, l5, l6, l7, l8, l9] st v x := vE_if rfl rfl
theorem q191_127 : vE 191 127 [l0, l1, l2, l3, l4, .int a, l6, l7, l8, l9] st v x ↔ vE 191 129 [l0, l1, l2, l3, l4, .int a, l6, l7, l8, l9] (.int a :: st) v x := vE_s rfl rfl
theorem q191_129 : vE 191 129 [l0, l1, l2, l3, l4, l5, l6, l7, l8, l9] (.int a :: st) v x ↔ if a = 0 then vE 191 205 [l0, l1, l2, l3, l4, l5, l6, l7, l8, l9] st v x else vE 191 132 [l0, l1, l2, l3, l4, l5, l6, l7, l8, l9] st v x := vE_if rfl rfl
theorem q191_132 : vE 191 132 [l0, l1, l2, l3, .int a, l5, l6, l7, l8, l9] st v x ↔ vE 191 134 [l0, l1, l2, l3, .int a, l5, l6, l7, l8, l9] (.int a :: st) v x := vE_s rfl rfl
theorem q191_134 : vE 191 134 [l0, l1, l2, l3, l4, l5, l6, l7, l8, l9] (.int a :: st) v x ↔ if a = 0 then vE 191 146 [l0, l1, l2, l3, l4, l5, l6, l7, l8, l9] st v x else vE 191 137 [l0, l1, l2, l3, l4, l5, l6, l7, l8, l9] st v x := vE_if rfl rfl
theorem q191_137 : vE 191 137 [.ref p, l1, l2, l3, l4, l5, l6, l7, l8, l9] st v x ↔ vE 191 138 [.ref p, l1, l2, l3, l4, l5, l6, l7, l8, l9] (.ref p :: st) v x := vE_s rfl rfl
theorem q191_138 : vE 191 138 [l0, l1, l2, l3, l4, l5, l6, l7, l8, l9] (.ref p :: st) v x ↔ vE 191 141 [l0, l1, l2, l3, l4, l5, l6, l7, l8, l9] (.ref (p + 8) :: st) v x := vE_s rfl rfl
theorem q191_141 : vE 191 141 [l0, l1, .int a, l3, l4, l5, l6, l7, l8, l9] st v x ↔ vE 191 142 [l0, l1, .int a, l3, l4, l5, l6, l7, l8, l9] (.int a :: st) v x := vE_s rfl rfl
theorem q191_142 : vE 191 142 [l0, l1, l2, l3, l4, l5, l6, l7, l8, l9] (.int a :: .ref p :: st) v x ↔ vE 191 143 [l0, l1, l2, l3, l4, l5, l6, l7, l8, l9] (.int (v.1 p a.toNatClampNeg) :: st) v x := vE_s rfl rfl
theorem q191_143 : vE 191 143 [l0, l1, l2, l3, l4, l5, l6, l7, l8, l9] st v x ↔ vE 191 152 [l0, l1, l2, l3, l4, l5, l6, l7, l8, l9] st v x := vE_s rfl rfl
theorem q191_146 : vE 191 146 [.ref p, l1, l2, l3, l4, l5, l6, l7, l8, l9] st v x ↔ vE 191 147 [.ref p, l1, l2, l3, l4, l5, l6, l7, l8, l9] (.ref p :: st) v x := vE_s rfl rfl
theorem q191_147 : vE 191 147 [l0, l1, l2, l3, l4, l5, l6, l7, l8, l9] (.ref p :: st) v x ↔ vE 191 150 [l0, l1, l2, l3, l4, l5, l6, l7, l8, l9] (.ref (p + 8) :: st) v x := vE_s rfl rfl
theorem q191_150 : vE 191 150 [l0, l1, l2, .int a, l4, l5, l6, l7, l8, l9] st v x ↔ vE 191 151 [l0, l1, l2, .int a, l4, l5, l6, l7, l8, l9] (.int a :: st) v x := vE_s rfl rfl
theorem q191_151 : vE 191 151 [l0, l1, l2, l3, l4, l5, l6, l7, l8, l9] (.int a :: .ref p :: st) v x ↔ vE 191 152 [l0, l1, l2, l3, l4, l5, l6, l7, l8, l9] (.int (v.1 p a.toNatClampNeg) :: st) v x := vE_s rfl rfl
theorem q191_152 : vE 191 152 [l0, l1, l2, l3, l4, l5, l6, l7, l8, l9] (.int a :: st) v x ↔ vE 191 154 [l0, l1, l2, l3, l4, l5, l6, .int a, l8, l9] st v x := vE_s rfl rfl
theorem q191_154 : vE 191 154 [l0, l1, l2, l3, .int a, l5, l6, l7, l8, l9] st v x ↔ vE 191 156 [l0, l1, l2, l3, .int a, l5, l6, l7, l8, l9] (.int a :: st) v x := vE_s rfl rfl
theorem q191_156 : vE 191 156 [l0, l1, l2, l3, l4, l5, l6, l7, l8, l9] (.int a :: st) v x ↔ if a = 0 then vE 191 163 [l0, l1, l2, l3, l4, l5, l6, l7, l8, l9] st v x else vE 191 159 [l0, l1, l2, l3, l4, l5, l6, l7, l8, l9] st v x := vE_if rfl rfl
theorem q191_159 : vE 191 159 [l0, l1, l2, .int a, l4, l5, l6, l7, l8, l9] st v x ↔ vE 191 160 [l0, l1, l2, .int a, l4, l5, l6, l7, l8, l9] (.int a :: st) v x := vE_s rfl rfl
theorem q191_160 : vE 191 160 [l0, l1, l2, l3, l4, l5, l6, l7, l8, l9] st v x ↔ vE 191 164 [l0, l1, l2, l3, l4, l5, l6, l7, l8, l9] st v x := vE_s rfl rfl
theorem q191_163 : vE 191 163 [l0, l1, .int a, l3, l4, l5, l6, l7, l8, l9] st v x ↔ vE 191 164 [l0, l1, .int a, l3, l4, l5, l6, l7, l8, l9] (.int a :: st) v x := vE_s rfl rfl
theorem q191_164 : vE 191 164 [l0, l1, l2, l3, l4, l5, l6, l7, l8, l9] (.int a :: st) v x ↔ vE 191 166 [l0, l1, l2, l3, l4, l5, l6, l7, .int a, l9] st v x := vE_s rfl rfl
theorem q191_166 : vE 191 166 [l0, l1, l2, l3, l4, l5, l6, l7, l8, l9] st v x ↔ vE 191 167 [l0, l1, l2, l3, l4, l5, l6, l7, l8, l9] (.int 0 :: st) v x := vE_s rfl (by rfl)
theorem q191_167 : vE 191 167 [l0, l1, l2, l3, l4, l5, l6, l7, l8, l9] (.int a :: st) v x ↔ vE 191 169 [l0, l1, l2, l3, l4, l5, l6, l7, l8, .int a] st v x := vE_s rfl rfl
theorem q191_169 : vE 191 169 [l0, l1, l2, l3, l4, l5, l6, l7, l8, .int a] st v x ↔ vE 191 171 [l0, l1, l2, l3, l4, l5, l6, l7, l8, .int a] (.int a :: st) v x := vE_s rfl rfl
theorem q191_171 : vE 191 171 [l0, l1, l2, l3, l4, l5, l6, l7, l8, l9] st v x ↔ vE 191 173 [l0, l1, l2, l3, l4, l5, l6, l7, l8, l9] (.int 24 :: st) v x := vE_s rfl (by rfl)
theorem q191_173 : vE 191 173 [l0, l1, l2, l3, l4, l5, l6, l7, l8, l9] (.int b :: .int a :: st) v x ↔ if b ≤ a then vE 191 202 [l0, l1, l2, l3, l4, l5, l6, l7, l8, l9] st v x else vE 191 176 [l0, l1, l2, l3, l4, l5, l6, l7, l8, l9] st v x := vE_if rfl rfl
theorem q191_176 : vE 191 176 [.ref p, l1, l2, l3, l4, l5, l6, l7, l8, l9] st v x ↔ vE 191 177 [.ref p, l1, l2, l3, l4, l5, l6, l7, l8, l9] (.ref p :: st) v x := vE_s rfl rfl
theorem q191_177 : vE 191 177 [l0, l1, l2, l3, l4, l5, l6, l7, l8, l9] (.ref p :: st) v x ↔ vE 191 180 [l0, l1, l2, l3, l4, l5, l6, l7, l8, l9] (.ref (p + 13) :: st) v x := vE_s rfl rfl
theorem q191_180 : vE 191 180 [l0, l1, l2, l3, l4, l5, l6, l7, l8, .int a] st v x ↔ vE 191 182 [l0, l1, l2, l3, l4, l5, l6, l7, l8, .int a] (.int a :: st) v x := vE_s rfl rfl
theorem q191_182 : vE 191 182 [l0, l1, l2, l3, l4, l5, l6, .int a, l8, l9] st v x ↔ vE 191 184 [l0, l1, l2, l3, l4, l5, l6, .int a, l8, l9] (.int a :: st) v x := vE_s rfl rfl
theorem q191_184 : vE 191 184 [.ref p, l1, l2, l3, l4, l5, l6, l7, l8, l9] st v x ↔ vE 191 185 [.ref p, l1, l2, l3, l4, l5, l6, l7, l8, l9] (.ref p :: st) v x := vE_s rfl rfl
theorem q191_185 : vE 191 185 [l0, l1, l2, l3, l4, l5, l6, l7, l8, l9] (.ref p :: st) v x ↔ vE 191 188 [l0, l1, l2, l3, l4, l5, l6, l7, l8, l9] (.ref (p + 8) :: st) v x := vE_s rfl rfl
theorem q191_188 : vE 191 188 [l0, l1, l2, l3, l4, l5, l6, l7, .int a, l9] st v x ↔ vE 191 190 [l0, l1, l2, l3, l4, l5, l6, l7, .int a, l9] (.int a :: st) v x := vE_s rfl rfl
theorem q191_190 : vE 191 190 [l0, l1, l2, l3, l4, l5, l6, l7, l8, .int a] st v x ↔ vE 191 192 [l0, l1, l2, l3, l4, l5, l6, l7, l8, .int a] (.int a :: st) v x := vE_s rfl rfl
theorem q191_192 : vE 191 192 [l0, l1, l2, l3, l4, l5, l6, l7, l8, l9] (.int b :: .int a :: st) v x ↔ vE 191 193 [l0, l1, l2, l3, l4, l5, l6, l7, l8, l9] (.int (a + b) :: st) v x := vE_s rfl rfl
theorem q191_193 : vE 191 193 [l0, l1, l2, l3, l4, l5, l6, l7, l8, l9] (.int a :: .ref p :: st) v x ↔ vE 191 194 [l0, l1, l2, l3, l4, l5, l6, l7, l8, l9] (.int (v.1 p a.toNatClampNeg) :: st) v x := vE_s rfl rfl
theorem q191_194 : vE 191 194 [l0, l1, l2, l3, l4, l5, l6, l7, l8, l9] (.int b :: .int a :: st) v x ↔ vE 191 195 [l0, l1, l2, l3, l4, l5, l6, l7, l8, l9] (.int (a * b) :: st) v x := vE_s rfl rfl
theorem q191_195 : vE 191 195 [l0, l1, l2, l3, l4, l5, l6, l7, l8, l9] (.int b :: .int a :: .ref p :: st) v x ↔ vE 191 196 [l0, l1, l2, l3, l4, l5, l6, l7, l8, l9] st (vm_si v p a.toNatClampNeg b) x := vE_s rfl rfl
theorem q191_196 : vE 191 196 [l0, l1, l2, l3, l4, l5, l6, l7, l8, .int a] st v x ↔ vE 191 199 [l0, l1, l2, l3, l4, l5, l6, l7, l8, .int (a + 1)] st v x := vE_s rfl rfl
theorem q191_199 : vE 191 199 [l0, l1, l2, l3, l4, l5, l6, l7, l8, l9] st v x ↔ vE 191 169 [l0, l1, l2, l3, l4, l5, l6, l7, l8, l9] st v x := vE_s rfl rfl
theorem q191_202 : vE 191 202 [l0, l1, l2, l3, l4, l5, l6, l7, l8, l9] st v x ↔ vE 191 431 [l0, l1, l2, l3, l4, l5, l6, l7, l8, l9] st v x := vE_s rfl rfl
theorem q191_205 : vE 191 205 [l0, l1, l2, l3, .int a, l5, l6, l7, l8, l9] st v x ↔ vE 191 207 [l0, l1, l2, l3, .int a, l5, l6, l7, l8, l9] (.int a :: st) v x := vE_s rfl rfl
theorem q191_207 : vE 191 207 [l0, l1, l2, l3, l4, l5, l6, l7, l8, l9] (.int a :: st) v x ↔ if a = 0 then vE 191 248 [l0, l1, l2, l3, l4, l5, l6, l7, l8, l9] st v x else vE 191 210 [l0, l1, l2, l3, l4, l5, l6, l7, l8, l9] st v x := vE_if rfl rfl
theorem q191_210 : vE 191 210 [l0, l1, l2, l3, l4, .int a, l6, l7, l8, l9] st v x ↔ vE 191 212 [l0, l1, l2, l3, l4, .int a, l6, l7, l8, l9] (.int a :: st) v x := vE_s rfl rfl
theorem q191_212 : vE 191 212 [l0, l1, l2, l3, l4, l5, l6, l7, l8, l9] (.int a :: st) v x ↔ if a = 0 then vE 191 248 [l0, l1, l2, l3, l4, l5, l6, l7, l8, l9] st v x else vE 191 215 [l0, l1, l2, l3, l4, l5, l6, l7, l8, l9] st v x := vE_if rfl rfl
theorem q191_215 : vE 191 215 [l0, .int a, l2, l3, l4, l5, l6, l7, l8, l9] st v x ↔ vE 191 216 [l0, .int a, l2, l3, l4, l5, l6, l7, l8, l9] (.int a :: st) v x := vE_s rfl rfl
theorem q191_216 : vE 191 216 [l0, l1, l2, l3, l4, l5, l6, l7, l8, l9] st v x ↔ vE 191 218 [l0, l1, l2, l3, l4, l5, l6, l7, l8, l9] (.int 7 :: st) v x := vE_s rfl (by rfl)
theorem q191_218 : vE 191 218 [l0, l1, l2, l3, l4, l5, l6, l7, l8, l9] (.int b :: .int a :: st) v x ↔ if b ≤ a then vE 191 248 [l0, l1, l2, l3, l4, l5, l6, l7, l8, l9] st v x else vE 191 221 [l0, l1, l2, l3, l4, l5, l6, l7, l8, l9] st v x := vE_if rfl rfl
theorem q191_221 : vE 191 221 [.ref p, l1, l2, l3, l4, l5, l6, l7, l8, l9] st v x ↔ vE 191 222 [.ref p, l1, l2, l3, l4, l5, l6, l7, l8, l9] (.ref p :: st) v x := vE_s rfl rfl
theorem q191_222 : vE 191 222 [l0, l1, l2, l3, l4, l5, l6, l7, l8, l9] (.ref p :: st) v x ↔ vE 191 225 [l0, l1, l2, l3, l4, l5, l6, l7, l8, l9] (.ref (p + 13) :: st) v x := vE_s rfl rfl
theorem q191_225 : vE 191 225 [l0, l1, l2, l3, l4, l5, l6, l7, l8, l9] st v x ↔ vE 191 226 [l0, l1, l2, l3, l4, l5, l6, l7, l8, l9] (.int 0 :: st) v x := vE_s rfl (by rfl)
theorem q191_226 : vE 191 226 [l0, .int a, l2, l3, l4, l5, l6, l7, l8, l9] st v x ↔ vE 191 227 [l0, .int a, l2, l3, l4, l5, l6, l7, l8, l9] (.int a :: st) v x := vE_s rfl rfl
theorem q191_227 : vE 191 227 [.ref p, l1, l2, l3, l4, l5, l6, l7, l8, l9] st v x ↔ vE 191 228 [.ref p, l1, l2, l3, l4, l5, l6, l7, l8, l9] (.ref p :: st) v x := vE_s rfl rfl
theorem q191_228 : vE 191 228 [l0, l1, l2, l3, l4, l5, l6, l7, l8, l9] (.ref p :: st) v x ↔ vE 191 231 [l0, l1, l2, l3, l4, l5, l6, l7, l8, l9] (.ref (p + 8) :: st) v x := vE_s rfl rfl
theorem q191_231 : vE 191 231 [l0, l1, .int a, l3, l4, l5, l6, l7, l8, l9] st v x ↔ vE 191 232 [l0, l1, .int a, l3, l4, l5, l6, l7, l8, l9] (.int a :: st) v x := vE_s rfl rfl
theorem q191_232 : vE 191 232 [l0, l1, l2, l3, l4, l5, l6, l7, l8, l9] (.int a :: .ref p :: st) v x ↔ vE 191 233 [l0, l1, l2, l3, l4, l5, l6, l7, l8, l9] (.int (v.1 p a.toNatClampNeg) :: st) v x := vE_s rfl rfl
theorem q191_233 : vE 191 233 [.ref p, l1, l2, l3, l4, l5, l6, l7, l8, l9] st v x ↔ vE 191 234 [.ref p, l1, l2, l3, l4, l5, l6, l7, l8, l9] (.ref p :: st) v x := vE_s rfl rfl
theorem q191_234 : vE 191 234 [l0, l1, l2, l3, l4, l5, l6, l7, l8, l9] (.ref p :: st) v x ↔ vE 191 237 [l0, l1, l2, l3, l4, l5, l6, l7, l8, l9] (.ref (p + 8) :: st) v x := vE_s rfl rfl
theorem q191_237 : vE 191 237 [l0, l1, l2, .int a, l4, l5, l6, l7, l8, l9] st v x ↔ vE 191 238 [l0, l1, l2, .int a, l4, l5, l6, l7, l8, l9] (.int a :: st) v x := vE_s rfl rfl
theorem q191_238 : vE 191 238 [l0, l1, l2, l3, l4, l5, l6, l7, l8, l9] (.int a :: .ref p :: st) v x ↔ vE 191 239 [l0, l1, l2, l3, l4, l5, l6, l7, l8, l9] (.int (v.1 p a.toNatClampNeg) :: st) v x := vE_s rfl rfl
theorem q191_239 : vE 191 239 [l0, l1, l2, l3, l4, l5, l6, l7, l8, l9] (w2 :: w1 :: w0 :: st) v x ↔ ∃ y : vm_Y, vE 166 0 [w0, w1, w2] [] v y ∧ vB 191 239 [l0, l1, l2, l3, l4, l5, l6, l7, l8, l9] st y x := vE_cs rfl rfl rfl rfl
theorem q191_242 : vE 191 242 [l0, l1, l2, l3, l4, l5, l6, l7, l8, l9] (w2 :: w1 :: w0 :: st) v x ↔ ∃ y : vm_Y, vE 179 0 [w0, w1, w2, .retAddr 0] [] v y ∧ vB 191 242 [l0, l1, l2, l3, l4, l5, l6, l7, l8, l9] st y x := vE_cs rfl rfl rfl rfl
theorem q191_245 : vE 191 245 [l0, l1, l2, l3, l4, l5, l6, l7, l8, l9] st v x ↔ vE 191 431 [l0, l1, l2, l3, l4, l5, l6, l7, l8, l9] st v x := vE_s rfl rfl
theorem q191_248 : vE 191 248 [l0, .int a, l2, l3, l4, l5, l6, l7, l8, l9] st v x ↔ vE 191 249 [l0, .int a, l2, l3, l4, l5, l6, l7, l8, l9] (.int a :: st) v x := vE_s rfl rfl
theorem q191_249 : vE 191 249 [l0, l1, l2, l3, l4, l5, l6, l7, l8, l9] st v x ↔ vE 191 250 [l0, l1, l2, l3, l4, l5, l6, l7, l8, l9] (.int 5 :: st) v x := vE_s rfl (by rfl)
theorem q191_250 : vE 191 250 [l0, l1, l2, l3, l4, l5, l6, l7, l8, l9] (.int b :: .int a :: st) v x ↔ if a = b then vE 191 253 [l0, l1, l2, l3, l4, l5, l6, l7, l8, l9] st v x else vE 191 274 [l0, l1, l2, l3, l4, l5, l6, l7, l8, l9] st v x := vE_if rfl rfl
theorem q191_253 : vE 191 253 [l0, l1, l2, l3, l4, l5, .int a, l7, l8, l9] st v x ↔ vE 191 255 [l0, l1, l2, l3, l4, l5, .int a, l7, l8, l9] (.int a :: st) v x := vE_s rfl rfl
theorem q191_255 : vE 191 255 [l0, l1, l2, l3, l4, l5, l6, l7, l8, l9] (.int a :: st) v x ↔ if a = 0 then vE 191 274 [l0, l1, l2, l3, l4, l5, l6, l7, l8, l9] st v x else vE 191 258 [l0, l1, l2, l3, l4, l5, l6, l7, l8, l9] st v x := vE_if rfl rfl
theorem q191_258 : vE 191 258 [.ref p, l1, l2, l3, l4, l5, l6, l7, l8, l9] st v x ↔ vE 191 259 [.ref p, l1, l2, l3, l4, l5, l6, l7, l8, l9] (.ref p :: st) v x := vE_s rfl rfl
theorem q191_259 : vE 191 259 [l0, l1, l2, l3, l4, l5, l6, l7, l8, l9] (.ref p :: st) v x ↔ vE 191 262 [l0, l1, l2, l3, l4, l5, l6, l7, l8, l9] (.ref (p + 8) :: st) v x := vE_s rfl rfl
theorem q191_262 : vE 191 262 [l0, l1, .int a, l3, l4, l5, l6, l7, l8, l9] st v x ↔ vE 191 263 [l0, l1, .int a, l3, l4, l5, l6, l7, l8, l9] (.int a :: st) v x := vE_s rfl rfl
theorem q191_263 : vE 191 263 [.ref p, l1, l2, l3, l4, l5, l6, l7, l8, l9] st v x ↔ vE 191 264 [.ref p, l1, l2, l3, l4, l5, l6, l7, l8, l9] (.ref p :: st) v x := vE_s rfl rfl
theorem q191_264 : vE 191 264 [l0, l1, l2, l3, l4, l5, l6, l7, l8, l9] (.ref p :: st) v x ↔ vE 191 267 [l0, l1, l2, l3, l4, l5, l6, l7, l8, l9] (.ref (p + 13) :: st) v x := vE_s rfl rfl
theorem q191_267 : vE 191 267 [l0, l1, l2, l3, l4, l5, l6, l7, l8, l9] st v x ↔ vE 191 268 [l0, l1, l2, l3, l4, l5, l6, l7, l8, l9] (.int 0 :: st) v x := vE_s rfl (by rfl)
theorem q191_268 : vE 191 268 [l0, l1, l2, l3, l4, l5, l6, l7, l8, l9] (w3 :: w2 :: w1 :: w0 :: st) v x ↔ ∃ y : vm_Y, vE 183 0 [w0, w1, w2, w3, .retAddr 0] [] v y ∧ vB 191 268 [l0, l1, l2, l3, l4, l5, l6, l7, l8, l9] st y x := vE_cs rfl rfl rfl rfl
theorem q191_271 : vE 191 271 [l0, l1, l2, l3, l4, l5, l6, l7, l8, l9] st v x ↔ vE 191 431 [l0, l1, l2, l3, l4, l5, l6, l7, l8, l9] st v x := vE_s rfl rfl
theorem q191_274 : vE 191 274 [l0, .int a, l2, l3, l4, l5, l6, l7, l8, l9] st v x ↔ vE 191 275 [l0, .int a, l2, l3, l4, l5, l6, l7, l8, l9] (.int a :: st) v x := vE_s rfl rfl
theorem q191_275 : vE 191 275 [l0, l1, l2, l3, l4, l5, l6, l7, l8, l9] st v x ↔ vE 191 276 [l0, l1, l2, l3, l4, l5, l6, l7, l8, l9] (.int 5 :: st) v x := vE_s rfl (by rfl)
theorem q191_276 : vE 191 276 [l0, l1, l2, l3, l4, l5, l6, l7, l8, l9] (.int b :: .int a :: st) v x ↔ if a = b then vE 191 279 [l0, l1, l2, l3, l4, l5, l6, l7, l8, l9] st v x else vE 191 319 [l0, l1, l2, l3, l4, l5, l6, l7, l8, l9] st v x := vE_if rfl rfl
theorem q191_279 : vE 191 279 [l0, l1, l2, l3, .int a, l5, l6, l7, l8, l9] st v x ↔ vE 191 281 [l0, l1, l2, l3, .int a, l5, l6, l7, l8, l9] (.int a :: st) v x := vE_s rfl rfl
theorem q191_281 : vE 191 281 [l0, l1, l2, l3, l4, l5, l6, l7, l8, l9] (.int a :: st) v x ↔ if a = 0 then vE 191 293 [l0, l1, l2, l3, l4, l5, l6, l7, l8, l9] st v x else vE 191 284 [l0, l1, l2, l3, l4, l5, l6, l7, l8, l9] st v x := vE_if rfl rfl
theorem q191_284 : vE 191 284 [.ref p, l1, l2, l3, l4, l5, l6, l7, l8, l9] st v x ↔ vE 191 285 [.ref p, l1, l2, l3, l4, l5, l6, l7, l8, l9] (.ref p :: st) v x := vE_s rfl rfl
theorem q191_285 : vE 191 285 [l0, l1, l2, l3, l4, l5, l6, l7, l8, l9] (.ref p :: st) v x ↔ vE 191 288 [l0, l1, l2, l3, l4, l5, l6, l7, l8, l9] (.ref (p + 8) :: st) v x := vE_s rfl rfl
theorem q191_288 : vE 191 288 [l0, l1, .int a, l3, l4, l5, l6, l7, l8, l9] st v x ↔ vE 191 289 [l0, l1, .int a, l3, l4, l5, l6, l7, l8, l9] (.int a :: st) v x := vE_s rfl rfl
theorem q191_289 : vE 191 289 [l0, l1, l2, l3, l4, l5, l6, l7, l8, l9] (.int a :: .ref p :: st) v x ↔ vE 191 290 [l0, l1, l2, l3, l4, l5, l6, l7, l8, l9] (.int (v.1 p a.toNatClampNeg) :: st) v x := vE_s rfl rfl
theorem q191_290 : vE 191 290 [l0, l1, l2, l3, l4, l5, l6, l7, l8, l9] (.int a :: st) v x ↔ if a = 0 then vE 191 307 [l0, l1, l2, l3, l4, l5, l6, l7, l8, l9] st v x else vE 191 293 [l0, l1, l2, l3, l4, l5, l6, l7, l8, l9] st v x := vE_if rfl rfl
theorem q191_293 : vE 191 293 [l0, l1, l2, l3, l4, .int a, l6, l7, l8, l9] st v x ↔ vE 191 295 [l0, l1, l2, l3, l4, .int a, l6, l7, l8, l9] (.int a :: st) v x := vE_s rfl rfl
theorem q191_295 : vE 191 295 [l0, l1, l2, l3, l4, l5, l6, l7, l8, l9] (.int a :: st) v x ↔ if a = 0 then vE 191 319 [l0, l1, l2, l3, l4, l5, l6, l7, l8, l9] st v x else vE 191 298 [l0, l1, l2, l3, l4, l5, l6, l7, l8, l9] st v x := vE_if rfl rfl
theorem q191_298 : vE 191 298 [.ref p, l1, l2, l3, l4, l5, l6, l7, l8, l9] st v x ↔ vE 191 299 [.ref p, l1, l2, l3, l4, l5, l6, l7, l8, l9] (.ref p :: st) v x := vE_s rfl rfl
theorem q191_299 : vE 191 299 [l0, l1, l2, l3, l4, l5, l6, l7, l8, l9] (.ref p :: st) v x ↔ vE 191 302 [l0, l1, l2, l3, l4, l5, l6, l7, l8, l9] (.ref (p + 8) :: st) v x := vE_s rfl rfl
theorem q191_302 : vE 191 302 [l0, l1, l2, .int a, l4, l5, l6, l7, l8, l9] st v x ↔ vE 191 303 [l0, l1, l2, .int a, l4, l5, l6, l7, l8, l9] (.int a :: st) v x := vE_s rfl rfl
theorem q191_303 : vE 191 303 [l0, l1, l2, l3, l4, l5, l6, l7, l8, l9] (.int a :: .ref p :: st) v x ↔ vE 191 304 [l0, l1, l2, l3, l4, l5, l6, l7, l8, l9] (.int (v.1 p a.toNatClampNeg) :: st) v x := vE_s rfl rfl
theorem q191_304 : vE 191 304 [l0, l1, l2, l3, l4, l5, l6, l7, l8, l9] (.int a :: st) v x ↔ if a = 0 then vE 191 307 [l0, l1, l2, l3, l4, l5, l6, l7, l8, l9] st v x else vE 191 319 [l0, l1, l2, l3, l4, l5, l6, l7, l8, l9] st v x := vE_if rfl rfl
theorem q191_307 : vE 191 307 [.ref p, l1, l2, l3, l4, l5, l6, l7, l8, l9] st v x ↔ vE 191 308 [.ref p, l1, l2, l3, l4, l5, l6, l7, l8, l9] (.ref p :: st) v x := vE_s rfl rfl
theorem q191_308 : vE 191 308 [l0, l1, l2, l3, l4, l5, l6, l7, l8, l9] (.ref p :: st) v x ↔ vE 191 311 [l0, l1, l2, l3, l4, l5, l6, l7, l8, l9] (.ref (p + 13) :: st) v x := vE_s rfl rfl
theorem q191_311 : vE 191 311 [l0, l1, l2, l3, l4, l5, l6, l7, l8, l9] st v x ↔ vE 191 312 [l0, l1, l2, l3, l4, l5, l6, l7, l8, l9] (.int 0 :: st) v x := vE_s rfl (by rfl)
theorem q191_312 : vE 191 312 [l0, l1, l2, l3, l4, l5, l6, l7, l8, l9] st v x ↔ vE 191 313 [l0, l1, l2, l3, l4, l5, l6, l7, l8, l9] (.int 0 :: st) v x := vE_s rfl (by rfl)
theorem q191_313 : vE 191 313 [l0, l1, l2, l3, l4, l5, l6, l7, l8, l9] (w2 :: w1 :: w0 :: st) v x ↔ ∃ y : vm_Y, vE 179 0 [w0, w1, w2, .retAddr 0] [] v y ∧ vB 191 313 [l0, l1, l2, l3, l4, l5, l6, l7, l8, l9] st y x := vE_cs rfl rfl rfl rfl
theorem q191_316 : vE 191 316 [l0, l1, l2, l3, l4, l5, l6, l7, l8, l9] st v x ↔ vE 191 431 [l0, l1, l2, l3, l4, l5, l6, l7, l8, l9] st v x := vE_s rfl rfl
theorem q191_319 : vE 191 319 [l0, .int a, l2, l3, l4, l5, l6, l7, l8, l9] st v x ↔ vE 191 320 [l0, .int a, l2, l3, l4, l5, l6, l7, l8, l9] (.int a :: st) v x := vE_s rfl rfl
theorem q191_320 : vE 191 320 [l0, l1, l2, l3, l4, l5, l6, l7, l8, l9] st v x ↔ vE 191 321 [l0, l1, l2, l3, l4, l5, l6, l7, l8, l9] (.int 5 :: st) v x := vE_s rfl (by rfl)
theorem q191_321 : vE 191 321 [l0, l1, l2, l3, l4, l5, l6, l7, l8, l9] (.int b :: .int a :: st) v x ↔ if a = b then vE 191 324 [l0, l1, l2, l3, l4, l5, l6, l7, l8, l9] st v x else vE 191 389 [l0, l1, l2, l3, l4, l5, l6, l7, l8, l9] st v x := vE_if rfl rfl
theorem q191_324 : vE 191 324 [l0, l1, l2, l3, .int a, l5, l6, l7, l8, l9] st v x ↔ vE 191 326 [l0, l1, l2, l3, .int a, l5, l6, l7, l8, l9] (.int a :: st) v x := vE_s rfl rfl
theorem q191_326 : vE 191 326 [l0, l1, l2, l3, l4, l5, l6, l7, l8, l9] (.int a :: st) v x ↔ if a = 0 then vE 191 339 [l0, l1, l2, l3, l4, l5, l6, l7, l8, l9] st v x else vE 191 329 [l0, l1, l2, l3, l4, l5, l6, l7, l8, l9] st v x := vE_if rfl rfl
theorem q191_329 : vE 191 329 [.ref p, l1, l2, l3, l4, l5, l6, l7, l8, l9] st v x ↔ vE 191 330 [.ref p, l1, l2, l3, l4, l5, l6, l7, l8, l9] (.ref p :: st) v x := vE_s rfl rfl
theorem q191_330 : vE 191 330 [l0, l1, l2, l3, l4, l5, l6, l7, l8, l9] (.ref p :: st) v x ↔ vE 191 333 [l0, l1, l2, l3, l4, l5, l6, l7, l8, l9] (.ref (p + 8) :: st) v x := vE_s rfl rfl
theorem q191_333 : vE 191 333 [l0, l1, .int a, l3, l4, l5, l6, l7, l8, l9] st v x ↔ vE 191 334 [l0, l1, .int a, l3, l4, l5, l6, l7, l8, l9] (.int a :: st) v x := vE_s rfl rfl
theorem q191_334 : vE 191 334 [l0, l1, l2, l3, l4, l5, l6, l7, l8, l9] (.int a :: .ref p :: st) v x ↔ vE 191 335 [l0, l1, l2, l3, l4, l5, l6, l7, l8, l9] (.int (v.1 p a.toNatClampNeg) :: st) v x := vE_s rfl rfl
theorem q191_335 : vE 191 335 [l0, l1, l2, l3, l4, l5, l6, l7, l8, l9] st v x ↔ vE 191 336 [l0, l1, l2, l3, l4, l5, l6, l7, l8, l9] (.int (-1) :: st) v x := vE_s rfl (by rfl)
theorem q191_336 : vE 191 336 [l0, l1, l2, l3, l4, l5, l6, l7, l8, l9] (.int b :: .int a :: st) v x ↔ if a = b then vE 191 354 [l0, l1, l2, l3, l4, l5, l6, l7, l8, l9] st v x else vE 191 339 [l0, l1, l2, l3, l4, l5, l6, l7, l8, l9] st v x := vE_if rfl rfl
theorem q191_339 : vE 191 339 [l0, l1, l2, l3, l4, .int a, l6, l7, l8, l9] st v x ↔ vE 191 341 [l0, l1, l2, l3, l4, .int a, l6, l7, l8, l9] (.int a :: st) v x := vE_s rfl rfl
theorem q191_341 : vE 191 341 [l0, l1, l2, l3, l4, l5, l6, l7, l8, l9] (.int a :: st) v x ↔ if a = 0 then vE 191 389 [l0, l1, l2, l3, l4, l5, l6, l7, l8, l9] st v x else vE 191 344 [l0, l1, l2, l3, l4, l5, l6, l7, l8, l9] st v x := vE_if rfl rfl
theorem q191_344 : vE 191 344 [.ref p, l1, l2, l3, l4, l5, l6, l7, l8, l9] st v x ↔ vE 191 345 [.ref p, l1, l2, l3, l4, l5, l6, l7, l8, l9] (.ref p :: st) v x := vE_s rfl rfl
theorem q191_345 : vE 191 345 [l0, l1, l2, l3, l4, l5, l6, l7, l8, l9] (.ref p :: st) v x ↔ vE 191 348 [l0, l1, l2, l3, l4, l5, l6, l7, l8, l9] (.ref (p + 8) :: st) v x := vE_s rfl rfl
theorem q191_348 : vE 191 348 [l0, l1, l2, .int a, l4, l5, l6, l7, l8, l9] st v x ↔ vE 191 349 [l0, l1, l2, .int a, l4, l5, l6, l7, l8, l9] (.int a :: st) v x := vE_s rfl rfl
theorem q191_349 : vE 191 349 [l0, l1, l2, l3, l4, l5, l6, l7, l8, l9] (.int a :: .ref p :: st) v x ↔ vE 191 350 [l0, l1, l2, l3, l4, l5, l6, l7, l8, l9] (.int (v.1 p a.toNatClampNeg) :: st) v x := vE_s rfl rfl
theorem q191_350 : vE 191 350 [l0, l1, l2, l3, l4, l5, l6, l7, l8, l9] st v x ↔ vE 191 351 [l0, l1, l2, l3, l4, l5, l6, l7, l8, l9] (.int (-1) :: st) v x := vE_s rfl (by rfl)
theorem q191_351 : vE 191 351 [l0, l1, l2, l3, l4, l5, l6, l7, l8, l9] (.int b :: .int a :: st) v x ↔ if a = b then vE 191 354 [l0, l1, l2, l3, l4, l5, l6, l7, l8, l9] st v x else vE 191 389 [l0, l1, l2, l3, l4, l5, l6, l7, l8, l9] st v x := vE_if rfl rfl
theorem q191_354 : vE 191 354 [.ref p, l1, l2, l3, l4, l5, l6, l7, l8, l9] st v x ↔ vE 191 355 [.ref p, l1, l2, l3, l4, l5, l6, l7, l8, l9] (.ref p :: st) v x := vE_s rfl rfl
theorem q191_355 : vE 191 355 [l0, l1, l2, l3, l4, l5, l6, l7, l8, l9] (.ref p :: st) v x ↔ vE 191 358 [l0, l1, l2, l3, l4, l5, l6, l7, l8, l9] (.ref (p + 8) :: st) v x := vE_s rfl rfl
theorem q191_358 : vE 191 358 [l0, l1, l2, l3, .int a, l5, l6, l7, l8, l9] st v x ↔ vE 191 360 [l0, l1, l2, l3, .int a, l5, l6, l7, l8, l9] (.int a :: st) v x := vE_s rfl rfl
theorem q191_360 : vE 191 360 [l0, l1, l2, l3, l4, l5, l6, l7, l8, l9] (.int a :: st) v x ↔ if a = 0 then vE 191 377 [l0, l1, l2, l3, l4, l5, l6, l7, l8, l9] st v x else vE 191 363 [l0, l1, l2, l3, l4, l5, l6, l7, l8, l9] st v x := vE_if rfl rfl
theorem q191_363 : vE 191 363 [.ref p, l1, l2, l3, l4, l5, l6, l7, l8, l9] st v x ↔ vE 191 364 [.ref p, l1, l2, l3, l4, l5, l6, l7, l8, l9] (.ref p :: st) v x := vE_s rfl rfl
theorem q191_364 : vE 191 364 [l0, l1, l2, l3, l4, l5, l6, l7, l8, l9] (.ref p :: st) v x ↔ vE 191 367 [l0, l1, l2, l3, l4, l5, l6, l7, l8, l9] (.ref (p + 8) :: st) v x := vE_s rfl rfl
theorem q191_367 : vE 191 367 [l0, l1, .int a, l3, l4, l5, l6, l7, l8, l9] st v x ↔ vE 191 368 [l0, l1, .int a, l3, l4, l5, l6, l7, l8, l9] (.int a :: st) v x := vE_s rfl rfl
theorem q191_368 : vE 191 368 [l0, l1, l2, l3, l4, l5, l6, l7, l8, l9] (.int a :: .ref p :: st) v x ↔ vE 191 369 [l0, l1, l2, l3, l4, l5, l6, l7, l8, l9] (.int (v.1 p a.toNatClampNeg) :: st) v x := vE_s rfl rfl
theorem q191_369 : vE 191 369 [l0, l1, l2, l3, l4, l5, l6, l7, l8, l9] st v x ↔ vE 191 370 [l0, l1, l2, l3, l4, l5, l6, l7, l8, l9] (.int (-1) :: st) v x := vE_s rfl (by rfl)
theorem q191_370 : vE 191 370 [l0, l1, l2, l3, l4, l5, l6, l7, l8, l9] (.int b :: .int a :: st) v x ↔ if a = b then vE 191 373 [l0, l1, l2, l3, l4, l5, l6, l7, l8, l9] st v x else vE 191 377 [l0, l1, l2, l3, l4, l5, l6, l7, l8, l9] st v x := vE_if rfl rfl
theorem q191_373 : vE 191 373 [l0, l1, l2, .int a, l4, l5, l6, l7, l8, l9] st v x ↔ vE 191 374 [l0, l1, l2, .int a, l4, l5, l6, l7, l8, l9] (.int a :: st) v x := vE_s rfl rfl
theorem q191_374 : vE 191 374 [l0, l1, l2, l3, l4, l5, l6, l7, l8, l9] st v x ↔ vE 191 378 [l0, l1, l2, l3, l4, l5, l6, l7, l8, l9] st v x := vE_s rfl rfl
theorem q191_377 : vE 191 377 [l0, l1, .int a, l3, l4, l5, l6, l7, l8, l9] st v x ↔ vE 191 378 [l0, l1, .int a, l3, l4, l5, l6, l7, l8, l9] (.int a :: st) v x := vE_s rfl rfl
theorem q191_378 : vE 191 378 [.ref p, l1, l2, l3, l4, l5, l6, l7, l8, l9] st v x ↔ vE 191 379 [.ref p, l1, l2, l3, l4, l5, l6, l7, l8, l9] (.ref p :: st) v x := vE_s rfl rfl
theorem q191_379 : vE 191 379 [l0, l1, l2, l3, l4, l5, l6, l7, l8, l9] (.ref p :: st) v x ↔ vE 191 382 [l0, l1, l2, l3, l4, l5, l6, l7, l8, l9] (.ref (p + 13) :: st) v x := vE_s rfl rfl
theorem q191_382 : vE 191 382 [l0, l1, l2, l3, l4, l5, l6, l7, l8, l9] st v x ↔ vE 191 383 [l0, l1, l2, l3, l4, l5, l6, l7, l8, l9] (.int 0 :: st) v x := vE_s rfl (by rfl)
theorem q191_383 : vE 191 383 [l0, l1, l2, l3, l4, l5, l6, l7, l8, l9] (w3 :: w2 :: w1 :: w0 :: st) v x ↔ ∃ y : vm_Y, vE 183 0 [w0, w1, w2, w3, .retAddr 0] [] v y ∧ vB 191 383 [l0, l1, l2, l3, l4, l5, l6, l7, l8, l9] st y x := vE_cs rfl rfl rfl rfl
theorem q191_386 : vE 191 386 [l0, l1, l2, l3, l4, l5, l6, l7, l8, l9] st v x ↔ vE 191 431 [l0, l1, l2, l3, l4, l5, l6, l7, l8, l9] st v x := vE_s rfl rfl
theorem q191_389 : vE 191 389 [l0, .int a, l2, l3, l4, l5, l6, l7, l8, l9] st v x ↔ vE 191 390 [l0, .int a, l2, l3, l4, l5, l6, l7, l8, l9] (.int a :: st) v x := vE_s rfl rfl
theorem q191_390 : vE 191 390 [l0, l1, l2, l3, l4, l5, l6, l7, l8, l9] st v x ↔ vE 191 392 [l0, l1, l2, l3, l4, l5, l6, l7, l8, l9] (.int 6 :: st) v x := vE_s rfl (by rfl)
theorem q191_392 : vE 191 392 [l0, l1, l2, l3, l4, l5, l6, l7, l8, l9] (.int b :: .int a :: st) v x ↔ if a = b then vE 191 395 [l0, l1, l2, l3, l4, l5, l6, l7, l8, l9] st v x else vE 191 412 [l0, l1, l2, l3, l4, l5, l6, l7, l8, l9] st v x := vE_if rfl rfl
theorem q191_395 : vE 191 395 [l0, l1, l2, l3, l4, l5, .int a, l7, l8, l9] st v x ↔ vE 191 397 [l0, l1, l2, l3, l4, l5, .int a, l7, l8, l9] (.int a :: st) v x := vE_s rfl rfl
theorem q191_397 : vE 191 397 [l0, l1, l2, l3, l4, l5, l6, l7, l8, l9] (.int a :: st) v x ↔ if a = 0 then vE 191 412 [l0, l1, l2, l3, l4, l5, l6, l7, l8, l9] st v x else vE 191 400 [l0, l1, l2, l3, l4, l5, l6, l7, l8, l9] st v x := vE_if rfl rfl
theorem q191_400 : vE 191 400 [.ref p, l1, l2, l3, l4, l5, l6, l7, l8, l9] st v x ↔ vE 191 401 [.ref p, l1, l2, l3, l4, l5, l6, l7, l8, l9] (.ref p :: st) v x := vE_s rfl rfl
theorem q191_401 : vE 191 401 [l0, l1, l2, l3, l4, l5, l6, l7, l8, l9] (.ref p :: st) v x ↔ vE 191 404 [l0, l1, l2, l3, l4, l5, l6, l7, l8, l9] (.ref (p + 13) :: st) v x := vE_s rfl rfl
theorem q191_404 : vE 191 404 [l0, l1, l2, l3, l4, l5, l6, l7, l8, l9] st v x ↔ vE 191 405 [l0, l1, l2, l3, l4, l5, l6, l7, l8, l9] (.int 0 :: st) v x := vE_s rfl (by rfl)
theorem q191_405 : vE 191 405 [l0, l1, l2, l3, l4, l5, l6, l7, l8, l9] st v x ↔ vE 191 406 [l0, l1, l2, l3, l4, l5, l6, l7, l8, l9] (.int 0 :: st) v x := vE_s rfl (by rfl)
theorem q191_406 : vE 191 406 [l0, l1, l2, l3, l4, l5, l6, l7, l8, l9] (w2 :: w1 :: w0 :: st) v x ↔ ∃ y : vm_Y, vE 179 0 [w0, w1, w2, .retAddr 0] [] v y ∧ vB 191 406 [l0, l1, l2, l3, l4, l5, l6, l7, l8, l9] st y x := vE_cs rfl rfl rfl rfl
theorem q191_409 : vE 191 409 [l0, l1, l2, l3, l4, l5, l6, l7, l8, l9] st v x ↔ vE 191 431 [l0, l1, l2, l3, l4, l5, l6, l7, l8, l9] st v x := vE_s rfl rfl
theorem q191_412 : vE 191 412 [.ref p, l1, l2, l3, l4, l5, l6, l7, l8, l9] st v x ↔ vE 191 413 [.ref p, l1, l2, l3, l4, l5, l6, l7, l8, l9] (.ref p :: st) v x := vE_s rfl rfl
theorem q191_413 : vE 191 413 [.ref p, l1, l2, l3, l4, l5, l6, l7, l8, l9] st v x ↔ vE 191 414 [.ref p, l1, l2, l3, l4, l5, l6, l7, l8, l9] (.ref p :: st) v x := vE_s rfl rfl
theorem q191_414 : vE 191 414 [l0, .int a, l2, l3, l4, l5, l6, l7, l8, l9] st v x ↔ vE 191 415 [l0, .int a, l2, l3, l4, l5, l6, l7, l8, l9] (.int a :: st) v x := vE_s rfl rfl
theorem q191_415 : vE 191 415 [.ref p, l1, l2, l3, l4, l5, l6, l7, l8, l9] st v x ↔ vE 191 416 [.ref p, l1, l2, l3, l4, l5, l6, l7, l8, l9] (.ref p :: st) v x := vE_s rfl rfl
theorem q191_416 : vE 191 416 [l0, l1, l2, l3, l4, l5, l6, l7, l8, l9] (.ref p :: st) v x ↔ vE 191 419 [l0, l1, l2, l3, l4, l5, l6, l7, l8, l9] (.ref (p + 8) :: st) v x := vE_s rfl rfl
theorem q191_419 : vE 191 419 [l0, l1, .int a, l3, l4, l5, l6, l7, l8, l9] st v x ↔ vE 191 420 [l0, l1, .int a, l3, l4, l5, l6, l7, l8, l9] (.int a :: st) v x := vE_s rfl rfl
theorem q191_420 : vE 191 420 [.ref p, l1, l2, l3, l4, l5, l6, l7, l8, l9] st v x ↔ vE 191 421 [.ref p, l1, l2, l3, l4, l5, l6, l7, l8, l9] (.ref p :: st) v x := vE_s rfl rfl
theorem q191_421 : vE 191 421 [l0, l1, l2, l3, l4, l5, l6, l7, l8, l9] (.ref p :: st) v x ↔ vE 191 424 [l0, l1, l2, l3, l4, l5, l6, l7, l8, l9] (.ref (p + 8) :: st) v x := vE_s rfl rfl
theorem q191_424 : vE 191 424 [l0, l1, l2, .int a, l4, l5, l6, l7, l8, l9] st v x ↔ vE 191 425 [l0, l1, l2, .int a, l4, l5, l6, l7, l8, l9] (.int a :: st) v x := vE_s rfl rfl
theorem q191_425 : vE 191 425 [l0, l1, l2, l3, l4, l5, l6, l7, l8, l9] (w5 :: w4 :: w3 :: w2 :: w1 :: w0 :: st) v x ↔ ∃ y : vm_Y, vE 188 0 [w0, w1, w2, w3, w4, w5, .retAddr 0, .retAddr 0] [] v y ∧ vB 191 425 [l0, l1, l2, l3, l4, l5, l6, l7, l8, l9] st y x := vE_cv rfl rfl rfl rfl
theorem q191_428 : vE 191 428 [l0, l1, l2, l3, l4, l5, l6, l7, l8, l9] (w1 :: w0 :: st) v x ↔ ∃ y : vm_Y, vE 189 0 [w0, w1] [] v y ∧ vB 191 428 [l0, l1, l2, l3, l4, l5, l6, l7, l8, l9] st y x := vE_cv rfl rfl rfl rfl
theorem q191_431 : vE 191 431 [l0, l1, l2, l3, l4, l5, l6, l7, l8, l9] [] v x ↔ x = vd v := vE_vr rfl
theorem qt191 {X pc : Nat} {L r : List Value} : vB 191 pc L r (vt X v) x ↔ x = vt X v := vB_t rfl
/-! 192 PassCheckerModel.conclude(II)V -/
theorem q192_0 : vE 192 0 [l0, l1, .int a, l3, l4, l5, l6] st v x ↔ vE 192 1 [l0, l1, .int a, l3, l4, l5, l6] (.int a :: st) v x := vE_s rfl rfl
theorem q192_1 : vE 192 1 [l0, l1, l2, l3, l4, l5, l6] st v x ↔ vE 192 2 [l0, l1, l2, l3, l4, l5, l6] (.int (-1) :: st) v x := vE_s rfl (by rfl)
theorem q192_2 : vE 192 2 [l0, l1, l2, l3, l4, l5, l6] (.int b :: .int a :: st) v x ↔ if a = b then vE 192 5 [l0, l1, l2, l3, l4, l5, l6] st v x else vE 192 9 [l0, l1, l2, l3, l4, l5, l6] st v x := vE_if rfl rfl
theorem q192_5 : vE 192 5 [l0, l1, l2, l3, l4, l5, l6] st v x ↔ vE 192 6 [l0, l1, l2, l3, l4, l5, l6] (.int 2 :: st) v x := vE_s rfl (by rfl)
theorem q192_6 : vE 192 6 [l0, l1, l2, l3, l4, l5, l6] st v x ↔ vE 192 15 [l0, l1, l2, l3, l4, l5, l6] st v x := vE_s rfl rfl
theorem q192_9 : vE 192 9 [.ref p, l1, l2, l3, l4, l5, l6] st v x ↔ vE 192 10 [.ref p, l1, l2, l3, l4, l5, l6] (.ref p :: st) v x := vE_s rfl rfl
theorem q192_10 : vE 192 10 [l0, l1, l2, l3, l4, l5, l6] (.ref p :: st) v x ↔ vE 192 13 [l0, l1, l2, l3, l4, l5, l6] (.ref (p + 4) :: st) v x := vE_s rfl rfl
theorem q192_13 : vE 192 13 [l0, l1, .int a, l3, l4, l5, l6] st v x ↔ vE 192 14 [l0, l1, .int a, l3, l4, l5, l6] (.int a :: st) v x := vE_s rfl rfl
theorem q192_14 : vE 192 14 [l0, l1, l2, l3, l4, l5, l6] (.int a :: .ref p :: st) v x ↔ vE 192 15 [l0, l1, l2, l3, l4, l5, l6] (.int (v.1 p a.toNatClampNeg) :: st) v x := vE_s rfl rfl
theorem q192_15 : vE 192 15 [l0, l1, l2, l3, l4, l5, l6] (.int a :: st) v x ↔ vE 192 16 [l0, l1, l2, .int a, l4, l5, l6] st v x := vE_s rfl rfl
theorem q192_16 : vE 192 16 [l0, l1, l2, l3, l4, l5, l6] st v x ↔ vE 192 19 [l0, l1, l2, l3, l4, l5, l6] (.int 144 :: st) v x := vE_s rfl (by rfl)
theorem q192_19 : vE 192 19 [l0, .int a, l2, l3, l4, l5, l6] st v x ↔ vE 192 20 [l0, .int a, l2, l3, l4, l5, l6] (.int a :: st) v x := vE_s rfl rfl
theorem q192_20 : vE 192 20 [l0, l1, l2, l3, l4, l5, l6] (.int b :: .int a :: st) v x ↔ vE 192 21 [l0, l1, l2, l3, l4, l5, l6] (.int (a * b) :: st) v x := vE_s rfl rfl
theorem q192_21 : vE 192 21 [l0, l1, l2, l3, l4, l5, l6] st v x ↔ vE 192 23 [l0, l1, l2, l3, l4, l5, l6] (.int 24 :: st) v x := vE_s rfl (by rfl)
theorem q192_23 : vE 192 23 [l0, l1, .int a, l3, l4, l5, l6] st v x ↔ vE 192 24 [l0, l1, .int a, l3, l4, l5, l6] (.int a :: st) v x := vE_s rfl rfl
theorem q192_24 : vE 192 24 [l0, l1, l2, l3, l4, l5, l6] st v x ↔ vE 192 25 [l0, l1, l2, l3, l4, l5, l6] (.int (-1) :: st) v x := vE_s rfl (by rfl)
theorem q192_25 : vE 192 25 [l0, l1, l2, l3, l4, l5, l6] (.int b :: .int a :: st) v x ↔ if a = b then vE 192 28 [l0, l1, l2, l3, l4, l5, l6] st v x else vE 192 32 [l0, l1, l2, l3, l4, l5, l6] st v x := vE_if rfl rfl
theorem q192_28 : vE 192 28 [l0, l1, l2, l3, l4, l5, l6] st v x ↔ vE 192 29 [l0, l1, l2, l3, l4, l5, l6] (.int 0 :: st) v x := vE_s rfl (by rfl)
theorem q192_29 : vE 192 29 [l0, l1, l2, l3, l4, l5, l6] st v x ↔ vE 192 40 [l0, l1, l2, l3, l4, l5, l6] st v x := vE_s rfl rfl
theorem q192_32 : vE 192 32 [.ref p, l1, l2, l3, l4, l5, l6] st v x ↔ vE 192 33 [.ref p, l1, l2, l3, l4, l5, l6] (.ref p :: st) v x := vE_s rfl rfl
theorem q192_33 : vE 192 33 [l0, l1, l2, l3, l4, l5, l6] (.ref p :: st) v x ↔ vE 192 36 [l0, l1, l2, l3, l4, l5, l6] (.ref (p + 4) :: st) v x := vE_s rfl rfl
theorem q192_36 : vE 192 36 [l0, l1, .int a, l3, l4, l5, l6] st v x ↔ vE 192 37 [l0, l1, .int a, l3, l4, l5, l6] (.int a :: st) v x := vE_s rfl rfl
theorem q192_37 : vE 192 37 [l0, l1, l2, l3, l4, l5, l6] st v x ↔ vE 192 38 [l0, l1, l2, l3, l4, l5, l6] (.int 1 :: st) v x := vE_s rfl (by rfl)
theorem q192_38 : vE 192 38 [l0, l1, l2, l3, l4, l5, l6] (.int b :: .int a :: st) v x ↔ vE 192 39 [l0, l1, l2, l3, l4, l5, l6] (.int (a + b) :: st) v x := vE_s rfl rfl
theorem q192_39 : vE 192 39 [l0, l1, l2, l3, l4, l5, l6] (.int a :: .ref p :: st) v x ↔ vE 192 40 [l0, l1, l2, l3, l4, l5, l6] (.int (v.1 p a.toNatClampNeg) :: st) v x := vE_s rfl rfl
theorem q192_40 : vE 192 40 [l0, l1, l2, l3, l4, l5, l6] (.int b :: .int a :: st) v x ↔ vE 192 41 [l0, l1, l2, l3, l4, l5, l6] (.int (a * b) :: st) v x := vE_s rfl rfl
theorem q192_41 : vE 192 41 [l0, l1, l2, l3, l4, l5, l6] (.int b :: .int a :: st) v x ↔ vE 192 42 [l0, l1, l2, l3, l4, l5, l6] (.int (a + b) :: st) v x := vE_s rfl rfl
theorem q192_42 : vE 192 42 [l0, l1, l2, l3, l4, l5, l6] (.int a :: st) v x ↔ vE 192 44 [l0, l1, l2, l3, .int a, l5, l6] st v x := vE_s rfl rfl
theorem q192_44 : vE 192 44 [l0, l1, .int a, l3, l4, l5, l6] st v x ↔ vE 192 45 [l0, l1, .int a, l3, l4, l5, l6] (.int a :: st) v x := vE_s rfl rfl
theorem q192_45 : vE 192 45 [l0, l1, l2, l3, l4, l5, l6] st v x ↔ vE 192 46 [l0, l1, l2, l3, l4, l5, l6] (.int (-1) :: st) v x := vE_s rfl (by rfl)
theorem q192_46 : vE 192 46 [l0, l1, l2, l3, l4, l5, l6] (.int b :: .int a :: st) v x ↔ if a = b then vE 192 49 [l0, l1, l2, l3, l4, l5, l6] st v x else vE 192 53 [l0, l1, l2, l3, l4, l5, l6] st v x := vE_if rfl rfl
theorem q192_49 : vE 192 49 [l0, l1, l2, l3, l4, l5, l6] st v x ↔ vE 192 50 [l0, l1, l2, l3, l4, l5, l6] (.int 0 :: st) v x := vE_s rfl (by rfl)
theorem q192_50 : vE 192 50 [l0, l1, l2, l3, l4, l5, l6] st v x ↔ vE 192 61 [l0, l1, l2, l3, l4, l5, l6] st v x := vE_s rfl rfl
theorem q192_53 : vE 192 53 [.ref p, l1, l2, l3, l4, l5, l6] st v x ↔ vE 192 54 [.ref p, l1, l2, l3, l4, l5, l6] (.ref p :: st) v x := vE_s rfl rfl
theorem q192_54 : vE 192 54 [l0, l1, l2, l3, l4, l5, l6] (.ref p :: st) v x ↔ vE 192 57 [l0, l1, l2, l3, l4, l5, l6] (.ref (p + 4) :: st) v x := vE_s rfl rfl
theorem q192_57 : vE 192 57 [l0, l1, .int a, l3, l4, l5, l6] st v x ↔ vE 192 58 [l0, l1, .int a, l3, l4, l5, l6] (.int a :: st) v x := vE_s rfl rfl
theorem q192_58 : vE 192 58 [l0, l1, l2, l3, l4, l5, l6] st v x ↔ vE 192 59 [l0, l1, l2, l3, l4, l5, l6] (.int 2 :: st) v x := vE_s rfl (by rfl)
theorem q192_59 : vE 192 59 [l0, l1, l2, l3, l4, l5, l6] (.int b :: .int a :: st) v x ↔ vE 192 60 [l0, l1, l2, l3, l4, l5, l6] (.int (a + b) :: st) v x := vE_s rfl rfl
theorem q192_60 : vE 192 60 [l0, l1, l2, l3, l4, l5, l6] (.int a :: .ref p :: st) v x ↔ vE 192 61 [l0, l1, l2, l3, l4, l5, l6] (.int (v.1 p a.toNatClampNeg) :: st) v x := vE_s rfl rfl
theorem q192_61 : vE 192 61 [l0, l1, l2, l3, l4, l5, l6] (.int a :: st) v x ↔ vE 192 63 [l0, l1, l2, l3, l4, .int a, l6] st v x := vE_s rfl rfl
theorem q192_63 : vE 192 63 [l0, l1, .int a, l3, l4, l5, l6] st v x ↔ vE 192 64 [l0, l1, .int a, l3, l4, l5, l6] (.int a :: st) v x := vE_s rfl rfl
theorem q192_64 : vE 192 64 [l0, l1, l2, l3, l4, l5, l6] st v x ↔ vE 192 65 [l0, l1, l2, l3, l4, l5, l6] (.int (-1) :: st) v x := vE_s rfl (by rfl)
theorem q192_65 : vE 192 65 [l0, l1, l2, l3, l4, l5, l6] (.int b :: .int a :: st) v x ↔ if a = b then vE 192 68 [l0, l1, l2, l3, l4, l5, l6] st v x else vE 192 72 [l0, l1, l2, l3, l4, l5, l6] st v x := vE_if rfl rfl
theorem q192_68 : vE 192 68 [l0, l1, l2, l3, l4, l5, l6] st v x ↔ vE 192 69 [l0, l1, l2, l3, l4, l5, l6] (.int 0 :: st) v x := vE_s rfl (by rfl)
theorem q192_69 : vE 192 69 [l0, l1, l2, l3, l4, l5, l6] st v x ↔ vE 192 80 [l0, l1, l2, l3, l4, l5, l6] st v x := vE_s rfl rfl
theorem q192_72 : vE 192 72 [.ref p, l1, l2, l3, l4, l5, l6] st v x ↔ vE 192 73 [.ref p, l1, l2, l3, l4, l5, l6] (.ref p :: st) v x := vE_s rfl rfl
theorem q192_73 : vE 192 73 [l0, l1, l2, l3, l4, l5, l6] (.ref p :: st) v x ↔ vE 192 76 [l0, l1, l2, l3, l4, l5, l6] (.ref (p + 4) :: st) v x := vE_s rfl rfl
theorem q192_76 : vE 192 76 [l0, l1, .int a, l3, l4, l5, l6] st v x ↔ vE 192 77 [l0, l1, .int a, l3, l4, l5, l6] (.int a :: st) v x := vE_s rfl rfl
theorem q192_77 : vE 192 77 [l0, l1, l2, l3, l4, l5, l6] st v x ↔ vE 192 78 [l0, l1, l2, l3, l4, l5, l6] (.int 3 :: st) v x := vE_s rfl (by rfl)
theorem q192_78 : vE 192 78 [l0, l1, l2, l3, l4, l5, l6] (.int b :: .int a :: st) v x ↔ vE 192 79 [l0, l1, l2, l3, l4, l5, l6] (.int (a + b) :: st) v x := vE_s rfl rfl
theorem q192_79 : vE 192 79 [l0, l1, l2, l3, l4, l5, l6] (.int a :: .ref p :: st) v x ↔ vE 192 80 [l0, l1, l2, l3, l4, l5, l6] (.int (v.1 p a.toNatClampNeg) :: st) v x := vE_s rfl rfl
theorem q192_80 : vE 192 80 [l0, l1, l2, l3, l4, l5, l6] (.int a :: st) v x ↔ vE 192 82 [l0, l1, l2, l3, l4, l5, .int a] st v x := vE_s rfl rfl
theorem q192_82 : vE 192 82 [l0, l1, l2, .int a, l4, l5, l6] st v x ↔ vE 192 83 [l0, l1, l2, .int a, l4, l5, l6] (.int a :: st) v x := vE_s rfl rfl
theorem q192_83 : vE 192 83 [l0, l1, l2, l3, l4, l5, l6] st v x ↔ vE 192 84 [l0, l1, l2, l3, l4, l5, l6] (.int 1 :: st) v x := vE_s rfl (by rfl)
theorem q192_84 : vE 192 84 [l0, l1, l2, l3, l4, l5, l6] (.int b :: .int a :: st) v x ↔ if a = b then vE 192 87 [l0, l1, l2, l3, l4, l5, l6] st v x else vE 192 134 [l0, l1, l2, l3, l4, l5, l6] st v x := vE_if rfl rfl
theorem q192_87 : vE 192 87 [l0, l1, l2, l3, l4, .int a, l6] st v x ↔ vE 192 89 [l0, l1, l2, l3, l4, .int a, l6] (.int a :: st) v x := vE_s rfl rfl
theorem q192_89 : vE 192 89 [l0, l1, l2, l3, l4, l5, .int a] st v x ↔ vE 192 91 [l0, l1, l2, l3, l4, l5, .int a] (.int a :: st) v x := vE_s rfl rfl
theorem q192_91 : vE 192 91 [l0, l1, l2, l3, l4, l5, l6] (.int b :: .int a :: st) v x ↔ if a = b then vE 192 106 [l0, l1, l2, l3, l4, l5, l6] st v x else vE 192 94 [l0, l1, l2, l3, l4, l5, l6] st v x := vE_if rfl rfl
theorem q192_94 : vE 192 94 [.ref p, l1, l2, l3, l4, l5, l6] st v x ↔ vE 192 95 [.ref p, l1, l2, l3, l4, l5, l6] (.ref p :: st) v x := vE_s rfl rfl
theorem q192_95 : vE 192 95 [l0, l1, l2, l3, l4, l5, l6] (.ref p :: st) v x ↔ vE 192 98 [l0, l1, l2, l3, l4, l5, l6] (.ref (p + 8) :: st) v x := vE_s rfl rfl
theorem q192_98 : vE 192 98 [l0, l1, l2, l3, .int a, l5, l6] st v x ↔ vE 192 100 [l0, l1, l2, l3, .int a, l5, l6] (.int a :: st) v x := vE_s rfl rfl
theorem q192_100 : vE 192 100 [l0, l1, l2, l3, l4, l5, l6] (w1 :: w0 :: st) v x ↔ ∃ y : vm_Y, vE 185 0 [w0, w1, .retAddr 0, .retAddr 0] [] v y ∧ vB 192 100 [l0, l1, l2, l3, l4, l5, l6] st y x := vE_cs rfl rfl rfl rfl
theorem q192_103 : vE 192 103 [l0, l1, l2, l3, l4, l5, l6] (.int a :: st) v x ↔ if a = 0 then vE 192 134 [l0, l1, l2, l3, l4, l5, l6] st v x else vE 192 106 [l0, l1, l2, l3, l4, l5, l6] st v x := vE_if rfl rfl
theorem q192_106 : vE 192 106 [l0, l1, l2, l3, l4, l5, l6] st v x ↔ vE 192 107 [l0, l1, l2, l3, l4, l5, l6] (.int 0 :: st) v x := vE_s rfl (by rfl)
theorem q192_107 : vE 192 107 [l0, l1, l2, l3, l4, l5, l6] (.int a :: st) v x ↔ vE 192 108 [l0, l1, l2, .int a, l4, l5, l6] st v x := vE_s rfl rfl
theorem q192_108 : vE 192 108 [l0, l1, l2, l3, l4, .int a, l6] st v x ↔ vE 192 110 [l0, l1, l2, l3, l4, .int a, l6] (.int a :: st) v x := vE_s rfl rfl
theorem q192_110 : vE 192 110 [l0, l1, l2, l3, l4, l5, .int a] st v x ↔ vE 192 112 [l0, l1, l2, l3, l4, l5, .int a] (.int a :: st) v x := vE_s rfl rfl
theorem q192_112 : vE 192 112 [l0, l1, l2, l3, l4, l5, l6] (.int b :: .int a :: st) v x ↔ if a = b then vE 192 125 [l0, l1, l2, l3, l4, l5, l6] st v x else vE 192 115 [l0, l1, l2, l3, l4, l5, l6] st v x := vE_if rfl rfl
theorem q192_115 : vE 192 115 [.ref p, l1, l2, l3, l4, l5, l6] st v x ↔ vE 192 116 [.ref p, l1, l2, l3, l4, l5, l6] (.ref p :: st) v x := vE_s rfl rfl
theorem q192_116 : vE 192 116 [l0, l1, l2, l3, l4, l5, l6] (.ref p :: st) v x ↔ vE 192 119 [l0, l1, l2, l3, l4, l5, l6] (.ref (p + 8) :: st) v x := vE_s rfl rfl
theorem q192_119 : vE 192 119 [l0, l1, l2, l3, .int a, l5, l6] st v x ↔ vE 192 121 [l0, l1, l2, l3, .int a, l5, l6] (.int a :: st) v x := vE_s rfl rfl
theorem q192_121 : vE 192 121 [l0, l1, l2, l3, l4, l5, l6] (.int a :: .ref p :: st) v x ↔ vE 192 122 [l0, l1, l2, l3, l4, l5, l6] (.int (v.1 p a.toNatClampNeg) :: st) v x := vE_s rfl rfl
theorem q192_122 : vE 192 122 [l0, l1, l2, l3, l4, l5, l6] (.int a :: st) v x ↔ if a = 0 then vE 192 130 [l0, l1, l2, l3, l4, l5, l6] st v x else vE 192 125 [l0, l1, l2, l3, l4, l5, l6] st v x := vE_if rfl rfl
theorem q192_125 : vE 192 125 [l0, l1, l2, l3, l4, .int a, l6] st v x ↔ vE 192 127 [l0, l1, l2, l3, l4, .int a, l6] (.int a :: st) v x := vE_s rfl rfl
theorem q192_127 : vE 192 127 [l0, l1, l2, l3, l4, l5, l6] st v x ↔ vE 192 132 [l0, l1, l2, l3, l4, l5, l6] st v x := vE_s rfl rfl
theorem q192_130 : vE 192 130 [l0, l1, l2, l3, l4, l5, .int a] st v x ↔ vE 192 132 [l0, l1, l2, l3, l4, l5, .int a] (.int a :: st) v x := vE_s rfl rfl
theorem q192_132 : vE 192 132 [l0, l1, l2, l3, l4, l5, l6] (.int a :: st) v x ↔ vE 192 134 [l0, l1, l2, l3, l4, .int a, l6] st v x := vE_s rfl rfl
theorem q192_134 : vE 192 134 [.ref p, l1, l2, l3, l4, l5, l6] st v x ↔ vE 192 135 [.ref p, l1, l2, l3, l4, l5, l6] (.ref p :: st) v x := vE_s rfl rfl
theorem q192_135 : vE 192 135 [l0, l1, l2, l3, l4, l5, l6] (.ref p :: st) v x ↔ vE 192 138 [l0, l1, l2, l3, l4, l5, l6] (.ref (p + 15) :: st) v x := vE_s rfl rfl
theorem q192_138 : vE 192 138 [l0, .int a, l2, l3, l4, l5, l6] st v x ↔ vE 192 139 [l0, .int a, l2, l3, l4, l5, l6] (.int a :: st) v x := vE_s rfl rfl
theorem q192_139 : vE 192 139 [l0, l1, l2, .int a, l4, l5, l6] st v x ↔ vE 192 140 [l0, l1, l2, .int a, l4, l5, l6] (.int a :: st) v x := vE_s rfl rfl
theorem q192_140 : vE 192 140 [l0, l1, l2, l3, l4, l5, l6] (.int b :: .int a :: .ref p :: st) v x ↔ vE 192 141 [l0, l1, l2, l3, l4, l5, l6] st (vm_si v p a.toNatClampNeg b) x := vE_s rfl rfl
theorem q192_141 : vE 192 141 [.ref p, l1, l2, l3, l4, l5, l6] st v x ↔ vE 192 142 [.ref p, l1, l2, l3, l4, l5, l6] (.ref p :: st) v x := vE_s rfl rfl
theorem q192_142 : vE 192 142 [l0, l1, l2, l3, l4, l5, l6] (.ref p :: st) v x ↔ vE 192 145 [l0, l1, l2, l3, l4, l5, l6] (.ref (p + 16) :: st) v x := vE_s rfl rfl
theorem q192_145 : vE 192 145 [l0, .int a, l2, l3, l4, l5, l6] st v x ↔ vE 192 146 [l0, .int a, l2, l3, l4, l5, l6] (.int a :: st) v x := vE_s rfl rfl
theorem q192_146 : vE 192 146 [l0, l1, l2, l3, .int a, l5, l6] st v x ↔ vE 192 148 [l0, l1, l2, l3, .int a, l5, l6] (.int a :: st) v x := vE_s rfl rfl
theorem q192_148 : vE 192 148 [l0, l1, l2, l3, l4, l5, l6] (.int b :: .int a :: .ref p :: st) v x ↔ vE 192 149 [l0, l1, l2, l3, l4, l5, l6] st (vm_si v p a.toNatClampNeg b) x := vE_s rfl rfl
theorem q192_149 : vE 192 149 [.ref p, l1, l2, l3, l4, l5, l6] st v x ↔ vE 192 150 [.ref p, l1, l2, l3, l4, l5, l6] (.ref p :: st) v x := vE_s rfl rfl
theorem q192_150 : vE 192 150 [l0, l1, l2, l3, l4, l5, l6] (.ref p :: st) v x ↔ vE 192 153 [l0, l1, l2, l3, l4, l5, l6] (.ref (p + 17) :: st) v x := vE_s rfl rfl
theorem q192_153 : vE 192 153 [l0, .int a, l2, l3, l4, l5, l6] st v x ↔ vE 192 154 [l0, .int a, l2, l3, l4, l5, l6] (.int a :: st) v x := vE_s rfl rfl
theorem q192_154 : vE 192 154 [l0, l1, l2, l3, l4, .int a, l6] st v x ↔ vE 192 156 [l0, l1, l2, l3, l4, .int a, l6] (.int a :: st) v x := vE_s rfl rfl
theorem q192_156 : vE 192 156 [l0, l1, l2, l3, l4, l5, l6] (.int b :: .int a :: .ref p :: st) v x ↔ vE 192 157 [l0, l1, l2, l3, l4, l5, l6] st (vm_si v p a.toNatClampNeg b) x := vE_s rfl rfl
theorem q192_157 : vE 192 157 [.ref p, l1, l2, l3, l4, l5, l6] st v x ↔ vE 192 158 [.ref p, l1, l2, l3, l4, l5, l6] (.ref p :: st) v x := vE_s rfl rfl
theorem q192_158 : vE 192 158 [l0, l1, l2, l3, l4, l5, l6] (.ref p :: st) v x ↔ vE 192 161 [l0, l1, l2, l3, l4, l5, l6] (.ref (p + 18) :: st) v x := vE_s rfl rfl
theorem q192_161 : vE 192 161 [l0, .int a, l2, l3, l4, l5, l6] st v x ↔ vE 192 162 [l0, .int a, l2, l3, l4, l5, l6] (.int a :: st) v x := vE_s rfl rfl
theorem q192_162 : vE 192 162 [l0, l1, l2, l3, l4, l5, .int a] st v x ↔ vE 192 164 [l0, l1, l2, l3, l4, l5, .int a] (.int a :: st) v x := vE_s rfl rfl
theorem q192_164 : vE 192 164 [l0, l1, l2, l3, l4, l5, l6] (.int b :: .int a :: .ref p :: st) v x ↔ vE 192 165 [l0, l1, l2, l3, l4, l5, l6] st (vm_si v p a.toNatClampNeg b) x := vE_s rfl rfl
theorem q192_165 : vE 192 165 [l0, l1, l2, l3, l4, l5, l6] [] v x ↔ x = vd v := vE_vr rfl
theorem qt192 {X pc : Nat} {L r : List Value} : vB 192 pc L r (vt X v) x ↔ x = vt X v := vB_t rfl
/-! 193 PassCheckerModel.effectsAgree()Z -/
theorem q193_0 : vE 193 0 [.ref p, l1, l2] st v x ↔ vE 193 1 [.ref p, l1, l2] (.ref p :: st) v x := vE_s rfl rfl
theorem q193_1 : vE 193 1 [l0, l1, l2] (.ref p :: st) v x ↔ vE 193 4 [l0, l1, l2] (.ref (p + 9) :: st) v x := vE_s rfl rfl
theorem q193_4 : vE 193 4 [l0, l1, l2] st v x ↔ vE 193 5 [l0, l1, l2] (.int 0 :: st) v x := vE_s rfl (by rfl)
theorem q193_5 : vE 193 5 [l0, l1, l2] (.int a :: .ref p :: st) v x ↔ vE 193 6 [l0, l1, l2] (.int (v.1 p a.toNatClampNeg) :: st) v x := vE_s rfl rfl
theorem q193_6 : vE 193 6 [.ref p, l1, l2] st v x ↔ vE 193 7 [.ref p, l1, l2] (.ref p :: st) v x := vE_s rfl rfl
theorem q193_7 : vE 193 7 [l0, l1, l2] (.ref p :: st) v x ↔ vE 193 10 [l0, l1, l2] (.ref (p + 9) :: st) v x := vE_s rfl rfl
theorem q193_10 : vE 193 10 [l0, l1, l2] st v x ↔ vE 193 11 [l0, l1, l2] (.int 1 :: st) v x := vE_s rfl (by rfl)
theorem q193_11 : vE 193 11 [l0, l1, l2] (.int a :: .ref p :: st) v x ↔ vE 193 12 [l0, l1, l2] (.int (v.1 p a.toNatClampNeg) :: st) v x := vE_s rfl rfl
theorem q193_12 : vE 193 12 [l0, l1, l2] (.int b :: .int a :: st) v x ↔ if a = b then vE 193 15 [l0, l1, l2] st v x else vE 193 19 [l0, l1, l2] st v x := vE_if rfl rfl
theorem q193_15 : vE 193 15 [l0, l1, l2] st v x ↔ vE 193 16 [l0, l1, l2] (.int 1 :: st) v x := vE_s rfl (by rfl)
theorem q193_16 : vE 193 16 [l0, l1, l2] st v x ↔ vE 193 20 [l0, l1, l2] st v x := vE_s rfl rfl
theorem q193_19 : vE 193 19 [l0, l1, l2] st v x ↔ vE 193 20 [l0, l1, l2] (.int 0 :: st) v x := vE_s rfl (by rfl)
theorem q193_20 : vE 193 20 [l0, l1, l2] (.int a :: st) v x ↔ vE 193 21 [l0, .int a, l2] st v x := vE_s rfl rfl
theorem q193_21 : vE 193 21 [l0, l1, l2] st v x ↔ vE 193 22 [l0, l1, l2] (.int 0 :: st) v x := vE_s rfl (by rfl)
theorem q193_22 : vE 193 22 [l0, l1, l2] (.int a :: st) v x ↔ vE 193 23 [l0, l1, .int a] st v x := vE_s rfl rfl
theorem q193_23 : vE 193 23 [l0, l1, .int a] st v x ↔ vE 193 24 [l0, l1, .int a] (.int a :: st) v x := vE_s rfl rfl
theorem q193_24 : vE 193 24 [.ref p, l1, l2] st v x ↔ vE 193 25 [.ref p, l1, l2] (.ref p :: st) v x := vE_s rfl rfl
theorem q193_25 : vE 193 25 [l0, l1, l2] (.ref p :: st) v x ↔ vE 193 28 [l0, l1, l2] (.ref (p + 9) :: st) v x := vE_s rfl rfl
theorem q193_28 : vE 193 28 [l0, l1, l2] st v x ↔ vE 193 29 [l0, l1, l2] (.int 0 :: st) v x := vE_s rfl (by rfl)
theorem q193_29 : vE 193 29 [l0, l1, l2] (.int a :: .ref p :: st) v x ↔ vE 193 30 [l0, l1, l2] (.int (v.1 p a.toNatClampNeg) :: st) v x := vE_s rfl rfl
theorem q193_30 : vE 193 30 [l0, l1, l2] (.int b :: .int a :: st) v x ↔ if b ≤ a then vE 193 117 [l0, l1, l2] st v x else vE 193 33 [l0, l1, l2] st v x := vE_if rfl rfl
theorem q193_33 : vE 193 33 [l0, .int a, l2] st v x ↔ vE 193 34 [l0, .int a, l2] (.int a :: st) v x := vE_s rfl rfl
theorem q193_34 : vE 193 34 [l0, l1, l2] (.int a :: st) v x ↔ if a = 0 then vE 193 117 [l0, l1, l2] st v x else vE 193 37 [l0, l1, l2] st v x := vE_if rfl rfl
theorem q193_37 : vE 193 37 [.ref p, l1, l2] st v x ↔ vE 193 38 [.ref p, l1, l2] (.ref p :: st) v x := vE_s rfl rfl
theorem q193_38 : vE 193 38 [l0, l1, l2] (.ref p :: st) v x ↔ vE 193 41 [l0, l1, l2] (.ref (p + 10) :: st) v x := vE_s rfl rfl
theorem q193_41 : vE 193 41 [l0, l1, .int a] st v x ↔ vE 193 42 [l0, l1, .int a] (.int a :: st) v x := vE_s rfl rfl
theorem q193_42 : vE 193 42 [l0, l1, l2] (.int a :: .ref p :: st) v x ↔ vE 193 43 [l0, l1, l2] (.int (v.1 p a.toNatClampNeg) :: st) v x := vE_s rfl rfl
theorem q193_43 : vE 193 43 [.ref p, l1, l2] st v x ↔ vE 193 44 [.ref p, l1, l2] (.ref p :: st) v x := vE_s rfl rfl
theorem q193_44 : vE 193 44 [l0, l1, l2] (.ref p :: st) v x ↔ vE 193 47 [l0, l1, l2] (.ref (p + 10) :: st) v x := vE_s rfl rfl
theorem q193_47 : vE 193 47 [l0, l1, l2] st v x ↔ vE 193 49 [l0, l1, l2] (.int 8 :: st) v x := vE_s rfl (by rfl)
theorem q193_49 : vE 193 49 [l0, l1, .int a] st v x ↔ vE 193 50 [l0, l1, .int a] (.int a :: st) v x := vE_s rfl rfl
theorem q193_50 : vE 193 50 [l0, l1, l2] (.int b :: .int a :: st) v x ↔ vE 193 51 [l0, l1, l2] (.int (a + b) :: st) v x := vE_s rfl rfl
theorem q193_51 : vE 193 51 [l0, l1, l2] (.int a :: .ref p :: st) v x ↔ vE 193 52 [l0, l1, l2] (.int (v.1 p a.toNatClampNeg) :: st) v x := vE_s rfl rfl
theorem q193_52 : vE 193 52 [l0, l1, l2] (.int b :: .int a :: st) v x ↔ if a = b then vE 193 55 [l0, l1, l2] st v x else vE 193 109 [l0, l1, l2] st v x := vE_if rfl rfl
theorem q193_55 : vE 193 55 [.ref p, l1, l2] st v x ↔ vE 193 56 [.ref p, l1, l2] (.ref p :: st) v x := vE_s rfl rfl
theorem q193_56 : vE 193 56 [l0, l1, l2] (.ref p :: st) v x ↔ vE 193 59 [l0, l1, l2] (.ref (p + 11) :: st) v x := vE_s rfl rfl
theorem q193_59 : vE 193 59 [l0, l1, l2] st v x ↔ vE 193 61 [l0, l1, l2] (.int 24 :: st) v x := vE_s rfl (by rfl)
theorem q193_61 : vE 193 61 [l0, l1, .int a] st v x ↔ vE 193 62 [l0, l1, .int a] (.int a :: st) v x := vE_s rfl rfl
theorem q193_62 : vE 193 62 [l0, l1, l2] (.int b :: .int a :: st) v x ↔ vE 193 63 [l0, l1, l2] (.int (a * b) :: st) v x := vE_s rfl rfl
theorem q193_63 : vE 193 63 [.ref p, l1, l2] st v x ↔ vE 193 64 [.ref p, l1, l2] (.ref p :: st) v x := vE_s rfl rfl
theorem q193_64 : vE 193 64 [l0, l1, l2] (.ref p :: st) v x ↔ vE 193 67 [l0, l1, l2] (.ref (p + 11) :: st) v x := vE_s rfl rfl
theorem q193_67 : vE 193 67 [l0, l1, l2] st v x ↔ vE 193 69 [l0, l1, l2] (.int 24 :: st) v x := vE_s rfl (by rfl)
theorem q193_69 : vE 193 69 [l0, l1, l2] st v x ↔ vE 193 71 [l0, l1, l2] (.int 8 :: st) v x := vE_s rfl (by rfl)
theorem q193_71 : vE 193 71 [l0, l1, .int a] st v x ↔ vE 193 72 [l0, l1, .int a] (.int a :: st) v x := vE_s rfl rfl
theorem q193_72 : vE 193 72 [l0, l1, l2] (.int b :: .int a :: st) v x ↔ vE 193 73 [l0, l1, l2] (.int (a + b) :: st) v x := vE_s rfl rfl
theorem q193_73 : vE 193 73 [l0, l1, l2] (.int b :: .int a :: st) v x ↔ vE 193 74 [l0, l1, l2] (.int (a * b) :: st) v x := vE_s rfl rfl
theorem q193_74 : vE 193 74 [l0, l1, l2] (w3 :: w2 :: w1 :: w0 :: st) v x ↔ ∃ y : vm_Y, vE 187 0 [w0, w1, w2, w3, .retAddr 0, .retAddr 0] [] v y ∧ vB 193 74 [l0, l1, l2] st y x := vE_cs rfl rfl rfl rfl
theorem q193_77 : vE 193 77 [l0, l1, l2] (.int a :: st) v x ↔ if a = 0 then vE 193 109 [l0, l1, l2] st v x else vE 193 80 [l0, l1, l2] st v x := vE_if rfl rfl
theorem q193_80 : vE 193 80 [.ref p, l1, l2] st v x ↔ vE 193 81 [.ref p, l1, l2] (.ref p :: st) v x := vE_s rfl rfl
theorem q193_81 : vE 193 81 [l0, l1, l2] (.ref p :: st) v x ↔ vE 193 84 [l0, l1, l2] (.ref (p + 12) :: st) v x := vE_s rfl rfl
theorem q193_84 : vE 193 84 [l0, l1, l2] st v x ↔ vE 193 86 [l0, l1, l2] (.int 24 :: st) v x := vE_s rfl (by rfl)
theorem q193_86 : vE 193 86 [l0, l1, .int a] st v x ↔ vE 193 87 [l0, l1, .int a] (.int a :: st) v x := vE_s rfl rfl
theorem q193_87 : vE 193 87 [l0, l1, l2] (.int b :: .int a :: st) v x ↔ vE 193 88 [l0, l1, l2] (.int (a * b) :: st) v x := vE_s rfl rfl
theorem q193_88 : vE 193 88 [.ref p, l1, l2] st v x ↔ vE 193 89 [.ref p, l1, l2] (.ref p :: st) v x := vE_s rfl rfl
theorem q193_89 : vE 193 89 [l0, l1, l2] (.ref p :: st) v x ↔ vE 193 92 [l0, l1, l2] (.ref (p + 12) :: st) v x := vE_s rfl rfl
theorem q193_92 : vE 193 92 [l0, l1, l2] st v x ↔ vE 193 94 [l0, l1, l2] (.int 24 :: st) v x := vE_s rfl (by rfl)
theorem q193_94 : vE 193 94 [l0, l1, l2] st v x ↔ vE 193 96 [l0, l1, l2] (.int 8 :: st) v x := vE_s rfl (by rfl)
theorem q193_96 : vE 193 96 [l0, l1, .int a] st v x ↔ vE 193 97 [l0, l1, .int a] (.int a :: st) v x := vE_s rfl rfl
theorem q193_97 : vE 193 97 [l0, l1, l2] (.int b :: .int a :: st) v x ↔ vE 193 98 [l0, l1, l2] (.int (a + b) :: st) v x := vE_s rfl rfl
theorem q193_98 : vE 193 98 [l0, l1, l2] (.int b :: .int a :: st) v x ↔ vE 193 99 [l0, l1, l2] (.int (a * b) :: st) v x := vE_s rfl rfl
theorem q193_99 : vE 193 99 [l0, l1, l2] (w3 :: w2 :: w1 :: w0 :: st) v x ↔ ∃ y : vm_Y, vE 187 0 [w0, w1, w2, w3, .retAddr 0, .retAddr 0] [] v y ∧ vB 193 99 [l0, l1, l2] st y x := vE_cs rfl rfl rfl rfl
theorem q193_102 : vE 193 102 [l0, l1, l2] (.int a :: st) v x ↔ if a = 0 then vE 193 109 [l0, l1, l2] st v x else vE 193 105 [l0, l1, l2] st v x := vE_if rfl rfl
theorem q193_105 : vE 193 105 [l0, l1, l2] st v x ↔ vE 193 106 [l0, l1, l2] (.int 1 :: st) v x := vE_s rfl (by rfl)
theorem q193_106 : vE 193 106 [l0, l1, l2] st v x ↔ vE 193 110 [l0, l1, l2] st v x := vE_s rfl rfl
theorem q193_109 : vE 193 109 [l0, l1, l2] st v x ↔ vE 193 110 [l0, l1, l2] (.int 0 :: st) v x := vE_s rfl (by rfl)
theorem q193_110 : vE 193 110 [l0, l1, l2] (.int a :: st) v x ↔ vE 193 111 [l0, .int a, l2] st v x := vE_s rfl rfl
theorem q193_111 : vE 193 111 [l0, l1, .int a] st v x ↔ vE 193 114 [l0, l1, .int (a + 1)] st v x := vE_s rfl rfl
theorem q193_114 : vE 193 114 [l0, l1, l2] st v x ↔ vE 193 23 [l0, l1, l2] st v x := vE_s rfl rfl
theorem q193_117 : vE 193 117 [l0, .int a, l2] st v x ↔ vE 193 118 [l0, .int a, l2] (.int a :: st) v x := vE_s rfl rfl
theorem q193_118 : vE 193 118 [l0, l1, l2] ([.int a]) v x ↔ x = vr a v := vE_ir rfl
theorem qt193 {X pc : Nat} {L r : List Value} : vB 193 pc L r (vt X v) x ↔ x = vt X v := vB_t rfl
/-! 194 PassCheckerModel.endsAgree()Z -/
theorem q194_0 : vE 194 0 [.ref p] st v x ↔ vE 194 1 [.ref p] (.ref p :: st) v x := vE_s rfl rfl
theorem q194_1 : vE 194 1 [l0] (.ref p :: st) v x ↔ vE 194 4 [l0] (.ref (p + 15) :: st) v x := vE_s rfl rfl
theorem q194_4 : vE 194 4 [l0] st v x ↔ vE 194 5 [l0] (.int 0 :: st) v x := vE_s rfl (by rfl)
theorem q194_5 : vE 194 5 [l0] (.int a :: .ref p :: st) v x ↔ vE 194 6 [l0] (.int (v.1 p a.toNatClampNeg) :: st) v x := vE_s rfl rfl
theorem q194_6 : vE 194 6 [.ref p] st v x ↔ vE 194 7 [.ref p] (.ref p :: st) v x := vE_s rfl rfl
theorem q194_7 : vE 194 7 [l0] (.ref p :: st) v x ↔ vE 194 10 [l0] (.ref (p + 15) :: st) v x := vE_s rfl rfl
theorem q194_10 : vE 194 10 [l0] st v x ↔ vE 194 11 [l0] (.int 1 :: st) v x := vE_s rfl (by rfl)
theorem q194_11 : vE 194 11 [l0] (.int a :: .ref p :: st) v x ↔ vE 194 12 [l0] (.int (v.1 p a.toNatClampNeg) :: st) v x := vE_s rfl rfl
theorem q194_12 : vE 194 12 [l0] (.int b :: .int a :: st) v x ↔ if a = b then vE 194 17 [l0] st v x else vE 194 15 [l0] st v x := vE_if rfl rfl
theorem q194_15 : vE 194 15 [l0] st v x ↔ vE 194 16 [l0] (.int 0 :: st) v x := vE_s rfl (by rfl)
theorem q194_16 : vE 194 16 [l0] ([.int a]) v x ↔ x = vr a v := vE_ir rfl
theorem q194_17 : vE 194 17 [.ref p] st v x ↔ vE 194 18 [.ref p] (.ref p :: st) v x := vE_s rfl rfl
theorem q194_18 : vE 194 18 [l0] (.ref p :: st) v x ↔ vE 194 21 [l0] (.ref (p + 15) :: st) v x := vE_s rfl rfl
theorem q194_21 : vE 194 21 [l0] st v x ↔ vE 194 22 [l0] (.int 0 :: st) v x := vE_s rfl (by rfl)
theorem q194_22 : vE 194 22 [l0] (.int a :: .ref p :: st) v x ↔ vE 194 23 [l0] (.int (v.1 p a.toNatClampNeg) :: st) v x := vE_s rfl rfl
theorem q194_23 : vE 194 23 [l0] (.int a :: st) v x ↔ if a = 0 then vE 194 52 [l0] st v x else vE 194 26 [l0] st v x := vE_if rfl rfl
theorem q194_26 : vE 194 26 [.ref p] st v x ↔ vE 194 27 [.ref p] (.ref p :: st) v x := vE_s rfl rfl
theorem q194_27 : vE 194 27 [l0] (.ref p :: st) v x ↔ vE 194 30 [l0] (.ref (p + 8) :: st) v x := vE_s rfl rfl
theorem q194_30 : vE 194 30 [.ref p] st v x ↔ vE 194 31 [.ref p] (.ref p :: st) v x := vE_s rfl rfl
theorem q194_31 : vE 194 31 [l0] (.ref p :: st) v x ↔ vE 194 34 [l0] (.ref (p + 16) :: st) v x := vE_s rfl rfl
theorem q194_34 : vE 194 34 [l0] st v x ↔ vE 194 35 [l0] (.int 0 :: st) v x := vE_s rfl (by rfl)
theorem q194_35 : vE 194 35 [l0] (.int a :: .ref p :: st) v x ↔ vE 194 36 [l0] (.int (v.1 p a.toNatClampNeg) :: st) v x := vE_s rfl rfl
theorem q194_36 : vE 194 36 [.ref p] st v x ↔ vE 194 37 [.ref p] (.ref p :: st) v x := vE_s rfl rfl
theorem q194_37 : vE 194 37 [l0] (.ref p :: st) v x ↔ vE 194 40 [l0] (.ref (p + 8) :: st) v x := vE_s rfl rfl
theorem q194_40 : vE 194 40 [.ref p] st v x ↔ vE 194 41 [.ref p] (.ref p :: st) v x := vE_s rfl rfl
theorem q194_41 : vE 194 41 [l0] (.ref p :: st) v x ↔ vE 194 44 [l0] (.ref (p + 16) :: st) v x := vE_s rfl rfl
theorem q194_44 : vE 194 44 [l0] st v x ↔ vE 194 45 [l0] (.int 1 :: st) v x := vE_s rfl (by rfl)
theorem q194_45 : vE 194 45 [l0] (.int a :: .ref p :: st) v x ↔ vE 194 46 [l0] (.int (v.1 p a.toNatClampNeg) :: st) v x := vE_s rfl rfl
theorem q194_46 : vE 194 46 [l0] (w3 :: w2 :: w1 :: w0 :: st) v x ↔ ∃ y : vm_Y, vE 187 0 [w0, w1, w2, w3, .retAddr 0, .retAddr 0] [] v y ∧ vB 194 46 [l0] st y x := vE_cs rfl rfl rfl rfl
theorem q194_49 : vE 194 49 [l0] (.int a :: st) v x ↔ if a = 0 then vE 194 56 [l0] st v x else vE 194 52 [l0] st v x := vE_if rfl rfl
theorem q194_52 : vE 194 52 [l0] st v x ↔ vE 194 53 [l0] (.int 1 :: st) v x := vE_s rfl (by rfl)
theorem q194_53 : vE 194 53 [l0] st v x ↔ vE 194 57 [l0] st v x := vE_s rfl rfl
theorem q194_56 : vE 194 56 [l0] st v x ↔ vE 194 57 [l0] (.int 0 :: st) v x := vE_s rfl (by rfl)
theorem q194_57 : vE 194 57 [l0] ([.int a]) v x ↔ x = vr a v := vE_ir rfl
theorem qt194 {X pc : Nat} {L r : List Value} : vB 194 pc L r (vt X v) x ↔ x = vt X v := vB_t rfl
/-! 195 PassCheckerModel.registersAgree()Z -/
theorem q195_0 : vE 195 0 [l0, l1, l2] st v x ↔ vE 195 1 [l0, l1, l2] (.int 1 :: st) v x := vE_s rfl (by rfl)
theorem q195_1 : vE 195 1 [l0, l1, l2] (.int a :: st) v x ↔ vE 195 2 [l0, .int a, l2] st v x := vE_s rfl rfl
theorem q195_2 : vE 195 2 [l0, l1, l2] st v x ↔ vE 195 3 [l0, l1, l2] (.int 0 :: st) v x := vE_s rfl (by rfl)
theorem q195_3 : vE 195 3 [l0, l1, l2] (.int a :: st) v x ↔ vE 195 4 [l0, l1, .int a] st v x := vE_s rfl rfl
theorem q195_4 : vE 195 4 [l0, l1, .int a] st v x ↔ vE 195 5 [l0, l1, .int a] (.int a :: st) v x := vE_s rfl rfl
theorem q195_5 : vE 195 5 [l0, l1, l2] st v x ↔ vE 195 7 [l0, l1, l2] (.int 6 :: st) v x := vE_s rfl (by rfl)
theorem q195_7 : vE 195 7 [l0, l1, l2] (.int b :: .int a :: st) v x ↔ if b ≤ a then vE 195 52 [l0, l1, l2] st v x else vE 195 10 [l0, l1, l2] st v x := vE_if rfl rfl
theorem q195_10 : vE 195 10 [l0, .int a, l2] st v x ↔ vE 195 11 [l0, .int a, l2] (.int a :: st) v x := vE_s rfl rfl
theorem q195_11 : vE 195 11 [l0, l1, l2] (.int a :: st) v x ↔ if a = 0 then vE 195 44 [l0, l1, l2] st v x else vE 195 14 [l0, l1, l2] st v x := vE_if rfl rfl
theorem q195_14 : vE 195 14 [.ref p, l1, l2] st v x ↔ vE 195 15 [.ref p, l1, l2] (.ref p :: st) v x := vE_s rfl rfl
theorem q195_15 : vE 195 15 [l0, l1, l2] (.ref p :: st) v x ↔ vE 195 18 [l0, l1, l2] (.ref (p + 8) :: st) v x := vE_s rfl rfl
theorem q195_18 : vE 195 18 [l0, l1, l2] st v x ↔ vE 195 20 [l0, l1, l2] (.int 24 :: st) v x := vE_s rfl (by rfl)
theorem q195_20 : vE 195 20 [l0, l1, .int a] st v x ↔ vE 195 21 [l0, l1, .int a] (.int a :: st) v x := vE_s rfl rfl
theorem q195_21 : vE 195 21 [l0, l1, l2] (.int b :: .int a :: st) v x ↔ vE 195 22 [l0, l1, l2] (.int (a * b) :: st) v x := vE_s rfl rfl
theorem q195_22 : vE 195 22 [.ref p, l1, l2] st v x ↔ vE 195 23 [.ref p, l1, l2] (.ref p :: st) v x := vE_s rfl rfl
theorem q195_23 : vE 195 23 [l0, l1, l2] (.ref p :: st) v x ↔ vE 195 26 [l0, l1, l2] (.ref (p + 8) :: st) v x := vE_s rfl rfl
theorem q195_26 : vE 195 26 [l0, l1, l2] st v x ↔ vE 195 29 [l0, l1, l2] (.int 144 :: st) v x := vE_s rfl (by rfl)
theorem q195_29 : vE 195 29 [l0, l1, l2] st v x ↔ vE 195 31 [l0, l1, l2] (.int 24 :: st) v x := vE_s rfl (by rfl)
theorem q195_31 : vE 195 31 [l0, l1, .int a] st v x ↔ vE 195 32 [l0, l1, .int a] (.int a :: st) v x := vE_s rfl rfl
theorem q195_32 : vE 195 32 [l0, l1, l2] (.int b :: .int a :: st) v x ↔ vE 195 33 [l0, l1, l2] (.int (a * b) :: st) v x := vE_s rfl rfl
theorem q195_33 : vE 195 33 [l0, l1, l2] (.int b :: .int a :: st) v x ↔ vE 195 34 [l0, l1, l2] (.int (a + b) :: st) v x := vE_s rfl rfl
theorem q195_34 : vE 195 34 [l0, l1, l2] (w3 :: w2 :: w1 :: w0 :: st) v x ↔ ∃ y : vm_Y, vE 187 0 [w0, w1, w2, w3, .retAddr 0, .retAddr 0] [] v y ∧ vB 195 34 [l0, l1, l2] st y x := vE_cs rfl rfl rfl rfl
theorem q195_37 : vE 195 37 [l0, l1, l2] (.int a :: st) v x ↔ if a = 0 then vE 195 44 [l0, l1, l2] st v x else vE 195 40 [l0, l1, l2] st v x := vE_if rfl rfl
theorem q195_40 : vE 195 40 [l0, l1, l2] st v x ↔ vE 195 41 [l0, l1, l2] (.int 1 :: st) v x := vE_s rfl (by rfl)
theorem q195_41 : vE 195 41 [l0, l1, l2] st v x ↔ vE 195 45 [l0, l1, l2] st v x := vE_s rfl rfl
theorem q195_44 : vE 195 44 [l0, l1, l2] st v x ↔ vE 195 45 [l0, l1, l2] (.int 0 :: st) v x := vE_s rfl (by rfl)
theorem q195_45 : vE 195 45 [l0, l1, l2] (.int a :: st) v x ↔ vE 195 46 [l0, .int a, l2] st v x := vE_s rfl rfl
theorem q195_46 : vE 195 46 [l0, l1, .int a] st v x ↔ vE 195 49 [l0, l1, .int (a + 1)] st v x := vE_s rfl rfl
theorem q195_49 : vE 195 49 [l0, l1, l2] st v x ↔ vE 195 4 [l0, l1, l2] st v x := vE_s rfl rfl
theorem q195_52 : vE 195 52 [l0, .int a, l2] st v x ↔ vE 195 53 [l0, .int a, l2] (.int a :: st) v x := vE_s rfl rfl
theorem q195_53 : vE 195 53 [l0, l1, l2] ([.int a]) v x ↔ x = vr a v := vE_ir rfl
theorem qt195 {X pc : Nat} {L r : List Value} : vB 195 pc L r (vt X v) x ↔ x = vt X v := vB_t rfl
/-! 197 PassCheckerModel.same(IIII)Z -/
theorem q197_0 : vE 197 0 [.ref p, l1, l2, l3, l4] st v x ↔ vE 197 1 [.ref p, l1, l2, l3, l4] (.ref p :: st) v x := vE_s rfl rfl
theorem q197_1 : vE 197 1 [.ref p, l1, l2, l3, l4] st v x ↔ vE 197 2 [.ref p, l1, l2, l3, l4] (.ref p :: st) v x := vE_s rfl rfl
theorem q197_2 : vE 197 2 [l0, l1, l2, l3, l4] st v x ↔ vE 197 3 [l0, l1, l2, l3, l4] (.int 0 :: st) v x := vE_s rfl (by rfl)
theorem q197_3 : vE 197 3 [l0, .int a, l2, l3, l4] st v x ↔ vE 197 4 [l0, .int a, l2, l3, l4] (.int a :: st) v x := vE_s rfl rfl
theorem q197_4 : vE 197 4 [l0, l1, l2, l3, l4] (w2 :: w1 :: w0 :: st) v x ↔ ∃ y : vm_Y, vE 152 0 [w0, w1, w2] [] v y ∧ vB 197 4 [l0, l1, l2, l3, l4] st y x := vE_cv rfl rfl rfl rfl
theorem q197_7 : vE 197 7 [l0, l1, l2, l3, l4] (.int a :: st) v x ↔ if a = 0 then vE 197 38 [l0, l1, l2, l3, l4] st v x else vE 197 10 [l0, l1, l2, l3, l4] st v x := vE_if rfl rfl
theorem q197_10 : vE 197 10 [l0, l1, .int a, l3, l4] st v x ↔ vE 197 11 [l0, l1, .int a, l3, l4] (.int a :: st) v x := vE_s rfl rfl
theorem q197_11 : vE 197 11 [l0, l1, l2, l3, l4] st v x ↔ vE 197 13 [l0, l1, l2, l3, l4] (.int 6 :: st) v x := vE_s rfl (by rfl)
theorem q197_13 : vE 197 13 [l0, l1, l2, l3, l4] (w1 :: w0 :: st) v x ↔ ∃ y : vm_Y, vE 148 0 [w0, w1] [] v y ∧ vB 197 13 [l0, l1, l2, l3, l4] st y x := vE_cs rfl rfl rfl rfl
theorem q197_16 : vE 197 16 [l0, l1, l2, l3, l4] (.int a :: st) v x ↔ if a = 0 then vE 197 19 [l0, l1, l2, l3, l4] st v x else vE 197 38 [l0, l1, l2, l3, l4] st v x := vE_if rfl rfl
theorem q197_19 : vE 197 19 [.ref p, l1, l2, l3, l4] st v x ↔ vE 197 20 [.ref p, l1, l2, l3, l4] (.ref p :: st) v x := vE_s rfl rfl
theorem q197_20 : vE 197 20 [l0, l1, l2, l3, l4] st v x ↔ vE 197 21 [l0, l1, l2, l3, l4] (.int 1 :: st) v x := vE_s rfl (by rfl)
theorem q197_21 : vE 197 21 [l0, l1, l2, .int a, l4] st v x ↔ vE 197 22 [l0, l1, l2, .int a, l4] (.int a :: st) v x := vE_s rfl rfl
theorem q197_22 : vE 197 22 [l0, l1, l2, l3, l4] (w2 :: w1 :: w0 :: st) v x ↔ ∃ y : vm_Y, vE 152 0 [w0, w1, w2] [] v y ∧ vB 197 22 [l0, l1, l2, l3, l4] st y x := vE_cv rfl rfl rfl rfl
theorem q197_25 : vE 197 25 [l0, l1, l2, l3, l4] (.int a :: st) v x ↔ if a = 0 then vE 197 38 [l0, l1, l2, l3, l4] st v x else vE 197 28 [l0, l1, l2, l3, l4] st v x := vE_if rfl rfl
theorem q197_28 : vE 197 28 [l0, l1, l2, l3, .int a] st v x ↔ vE 197 30 [l0, l1, l2, l3, .int a] (.int a :: st) v x := vE_s rfl rfl
theorem q197_30 : vE 197 30 [l0, l1, l2, l3, l4] st v x ↔ vE 197 32 [l0, l1, l2, l3, l4] (.int 6 :: st) v x := vE_s rfl (by rfl)
theorem q197_32 : vE 197 32 [l0, l1, l2, l3, l4] (w1 :: w0 :: st) v x ↔ ∃ y : vm_Y, vE 148 0 [w0, w1] [] v y ∧ vB 197 32 [l0, l1, l2, l3, l4] st y x := vE_cs rfl rfl rfl rfl
theorem q197_35 : vE 197 35 [l0, l1, l2, l3, l4] (.int a :: st) v x ↔ if a = 0 then vE 197 42 [l0, l1, l2, l3, l4] st v x else vE 197 38 [l0, l1, l2, l3, l4] st v x := vE_if rfl rfl
theorem q197_38 : vE 197 38 [l0, l1, l2, l3, l4] st v x ↔ vE 197 39 [l0, l1, l2, l3, l4] (.int 1 :: st) v x := vE_s rfl (by rfl)
theorem q197_39 : vE 197 39 [l0, l1, l2, l3, l4] st v x ↔ vE 197 43 [l0, l1, l2, l3, l4] st v x := vE_s rfl rfl
theorem q197_42 : vE 197 42 [l0, l1, l2, l3, l4] st v x ↔ vE 197 43 [l0, l1, l2, l3, l4] (.int 0 :: st) v x := vE_s rfl (by rfl)
theorem q197_43 : vE 197 43 [l0, l1, l2, l3, l4] (.int a :: .ref p :: st) v x ↔ vE 197 46 [l0, l1, l2, l3, l4] st (vm_si v p 0 a) x := vE_s rfl rfl
theorem q197_46 : vE 197 46 [.ref p, l1, l2, l3, l4] st v x ↔ vE 197 47 [.ref p, l1, l2, l3, l4] (.ref p :: st) v x := vE_s rfl rfl
theorem q197_47 : vE 197 47 [l0, l1, l2, l3, l4] (.ref p :: st) v x ↔ vE 197 50 [l0, l1, l2, l3, l4] (.int (v.1 p 0) :: st) v x := vE_s rfl rfl
theorem q197_50 : vE 197 50 [l0, l1, l2, l3, l4] (.int a :: st) v x ↔ if a ≤ 0 then vE 197 55 [l0, l1, l2, l3, l4] st v x else vE 197 53 [l0, l1, l2, l3, l4] st v x := vE_if rfl rfl
theorem q197_53 : vE 197 53 [l0, l1, l2, l3, l4] st v x ↔ vE 197 54 [l0, l1, l2, l3, l4] (.int 0 :: st) v x := vE_s rfl (by rfl)
theorem q197_54 : vE 197 54 [l0, l1, l2, l3, l4] ([.int a]) v x ↔ x = vr a v := vE_ir rfl
theorem q197_55 : vE 197 55 [.ref p, l1, l2, l3, l4] st v x ↔ vE 197 56 [.ref p, l1, l2, l3, l4] (.ref p :: st) v x := vE_s rfl rfl
theorem q197_56 : vE 197 56 [l0, l1, l2, l3, l4] (w0 :: st) v x ↔ ∃ y : vm_Y, vE 178 0 [w0, .retAddr 0, .retAddr 0, .retAddr 0] [] v y ∧ vB 197 56 [l0, l1, l2, l3, l4] st y x := vE_cv rfl rfl rfl rfl
theorem q197_59 : vE 197 59 [.ref p, l1, l2, l3, l4] st v x ↔ vE 197 60 [.ref p, l1, l2, l3, l4] (.ref p :: st) v x := vE_s rfl rfl
theorem q197_60 : vE 197 60 [l0, l1, l2, l3, l4] st v x ↔ vE 197 61 [l0, l1, l2, l3, l4] (.int 0 :: st) v x := vE_s rfl (by rfl)
theorem q197_61 : vE 197 61 [l0, l1, l2, l3, l4] st v x ↔ vE 197 62 [l0, l1, l2, l3, l4] (.int 0 :: st) v x := vE_s rfl (by rfl)
theorem q197_62 : vE 197 62 [l0, .int a, l2, l3, l4] st v x ↔ vE 197 63 [l0, .int a, l2, l3, l4] (.int a :: st) v x := vE_s rfl rfl
theorem q197_63 : vE 197 63 [l0, l1, l2, l3, l4] (w3 :: w2 :: w1 :: w0 :: st) v x ↔ ∃ y : vm_Y, vE 180 0 [w0, w1, w2, w3, .retAddr 0, .retAddr 0, .retAddr 0] [] v y ∧ vB 197 63 [l0, l1, l2, l3, l4] st y x := vE_cv rfl rfl rfl rfl
theorem q197_66 : vE 197 66 [.ref p, l1, l2, l3, l4] st v x ↔ vE 197 67 [.ref p, l1, l2, l3, l4] (.ref p :: st) v x := vE_s rfl rfl
theorem q197_67 : vE 197 67 [l0, l1, l2, l3, l4] st v x ↔ vE 197 68 [l0, l1, l2, l3, l4] (.int 1 :: st) v x := vE_s rfl (by rfl)
theorem q197_68 : vE 197 68 [l0, l1, l2, l3, l4] st v x ↔ vE 197 69 [l0, l1, l2, l3, l4] (.int 1 :: st) v x := vE_s rfl (by rfl)
theorem q197_69 : vE 197 69 [l0, l1, l2, .int a, l4] st v x ↔ vE 197 70 [l0, l1, l2, .int a, l4] (.int a :: st) v x := vE_s rfl rfl
theorem q197_70 : vE 197 70 [l0, l1, l2, l3, l4] (w3 :: w2 :: w1 :: w0 :: st) v x ↔ ∃ y : vm_Y, vE 180 0 [w0, w1, w2, w3, .retAddr 0, .retAddr 0, .retAddr 0] [] v y ∧ vB 197 70 [l0, l1, l2, l3, l4] st y x := vE_cv rfl rfl rfl rfl
theorem q197_73 : vE 197 73 [.ref p, l1, l2, l3, l4] st v x ↔ vE 197 74 [.ref p, l1, l2, l3, l4] (.ref p :: st) v x := vE_s rfl rfl
theorem q197_74 : vE 197 74 [l0, l1, l2, l3, l4] (.ref p :: st) v x ↔ vE 197 77 [l0, l1, l2, l3, l4] (.ref (p + 8) :: st) v x := vE_s rfl rfl
theorem q197_77 : vE 197 77 [l0, l1, l2, l3, l4] st v x ↔ vE 197 79 [l0, l1, l2, l3, l4] (.int 24 :: st) v x := vE_s rfl (by rfl)
theorem q197_79 : vE 197 79 [l0, l1, .int a, l3, l4] st v x ↔ vE 197 80 [l0, l1, .int a, l3, l4] (.int a :: st) v x := vE_s rfl rfl
theorem q197_80 : vE 197 80 [l0, l1, l2, l3, l4] (.int b :: .int a :: st) v x ↔ vE 197 81 [l0, l1, l2, l3, l4] (.int (a * b) :: st) v x := vE_s rfl rfl
theorem q197_81 : vE 197 81 [.ref p, l1, l2, l3, l4] st v x ↔ vE 197 82 [.ref p, l1, l2, l3, l4] (.ref p :: st) v x := vE_s rfl rfl
theorem q197_82 : vE 197 82 [l0, l1, l2, l3, l4] (.ref p :: st) v x ↔ vE 197 85 [l0, l1, l2, l3, l4] (.ref (p + 8) :: st) v x := vE_s rfl rfl
theorem q197_85 : vE 197 85 [l0, l1, l2, l3, l4] st v x ↔ vE 197 88 [l0, l1, l2, l3, l4] (.int 144 :: st) v x := vE_s rfl (by rfl)
theorem q197_88 : vE 197 88 [l0, l1, l2, l3, l4] st v x ↔ vE 197 90 [l0, l1, l2, l3, l4] (.int 24 :: st) v x := vE_s rfl (by rfl)
theorem q197_90 : vE 197 90 [l0, l1, l2, l3, .int a] st v x ↔ vE 197 92 [l0, l1, l2, l3, .int a] (.int a :: st) v x := vE_s rfl rfl
theorem q197_92 : vE 197 92 [l0, l1, l2, l3, l4] (.int b :: .int a :: st) v x ↔ vE 197 93 [l0, l1, l2, l3, l4] (.int (a * b) :: st) v x := vE_s rfl rfl
theorem q197_93 : vE 197 93 [l0, l1, l2, l3, l4] (.int b :: .int a :: st) v x ↔ vE 197 94 [l0, l1, l2, l3, l4] (.int (a + b) :: st) v x := vE_s rfl rfl
theorem q197_94 : vE 197 94 [l0, l1, l2, l3, l4] (w3 :: w2 :: w1 :: w0 :: st) v x ↔ ∃ y : vm_Y, vE 187 0 [w0, w1, w2, w3, .retAddr 0, .retAddr 0] [] v y ∧ vB 197 94 [l0, l1, l2, l3, l4] st y x := vE_cs rfl rfl rfl rfl
theorem q197_97 : vE 197 97 [l0, l1, l2, l3, l4] ([.int a]) v x ↔ x = vr a v := vE_ir rfl
theorem qt197 {X pc : Nat} {L r : List Value} : vB 197 pc L r (vt X v) x ↔ x = vt X v := vB_t rfl
/-! 198 PassCheckerModel.effects(II)I -/
theorem q198_0 : vE 198 0 [.ref p, l1, l2] st v x ↔ vE 198 1 [.ref p, l1, l2] (.ref p :: st) v x := vE_s rfl rfl
theorem q198_1 : vE 198 1 [.ref p, l1, l2] st v x ↔ vE 198 2 [.ref p, l1, l2] (.ref p :: st) v x := vE_s rfl rfl
theorem q198_2 : vE 198 2 [l0, .int a, l2] st v x ↔ vE 198 3 [l0, .int a, l2] (.int a :: st) v x := vE_s rfl rfl
theorem q198_3 : vE 198 3 [l0, l1, .int a] st v x ↔ vE 198 4 [l0, l1, .int a] (.int a :: st) v x := vE_s rfl rfl
theorem q198_4 : vE 198 4 [l0, l1, l2] (w2 :: w1 :: w0 :: st) v x ↔ ∃ y : vm_Y, vE 152 0 [w0, w1, w2] [] v y ∧ vB 198 4 [l0, l1, l2] st y x := vE_cv rfl rfl rfl rfl
theorem q198_7 : vE 198 7 [l0, l1, l2] (.int a :: st) v x ↔ if a = 0 then vE 198 14 [l0, l1, l2] st v x else vE 198 10 [l0, l1, l2] st v x := vE_if rfl rfl
theorem q198_10 : vE 198 10 [l0, l1, l2] st v x ↔ vE 198 11 [l0, l1, l2] (.int 0 :: st) v x := vE_s rfl (by rfl)
theorem q198_11 : vE 198 11 [l0, l1, l2] st v x ↔ vE 198 15 [l0, l1, l2] st v x := vE_s rfl rfl
theorem q198_14 : vE 198 14 [l0, l1, l2] st v x ↔ vE 198 15 [l0, l1, l2] (.int 1 :: st) v x := vE_s rfl (by rfl)
theorem q198_15 : vE 198 15 [l0, l1, l2] (.int a :: .ref p :: st) v x ↔ vE 198 18 [l0, l1, l2] st (vm_si v p 0 a) x := vE_s rfl rfl
theorem q198_18 : vE 198 18 [.ref p, l1, l2] st v x ↔ vE 198 19 [.ref p, l1, l2] (.ref p :: st) v x := vE_s rfl rfl
theorem q198_19 : vE 198 19 [l0, l1, l2] (.ref p :: st) v x ↔ vE 198 22 [l0, l1, l2] (.int (v.1 p 0) :: st) v x := vE_s rfl rfl
theorem q198_22 : vE 198 22 [l0, l1, l2] (.int a :: st) v x ↔ if a ≤ 0 then vE 198 27 [l0, l1, l2] st v x else vE 198 25 [l0, l1, l2] st v x := vE_if rfl rfl
theorem q198_25 : vE 198 25 [l0, l1, l2] st v x ↔ vE 198 26 [l0, l1, l2] (.int 0 :: st) v x := vE_s rfl (by rfl)
theorem q198_26 : vE 198 26 [l0, l1, l2] ([.int a]) v x ↔ x = vr a v := vE_ir rfl
theorem q198_27 : vE 198 27 [.ref p, l1, l2] st v x ↔ vE 198 28 [.ref p, l1, l2] (.ref p :: st) v x := vE_s rfl rfl
theorem q198_28 : vE 198 28 [l0, l1, l2] (w0 :: st) v x ↔ ∃ y : vm_Y, vE 178 0 [w0, .retAddr 0, .retAddr 0, .retAddr 0] [] v y ∧ vB 198 28 [l0, l1, l2] st y x := vE_cv rfl rfl rfl rfl
theorem q198_31 : vE 198 31 [.ref p, l1, l2] st v x ↔ vE 198 32 [.ref p, l1, l2] (.ref p :: st) v x := vE_s rfl rfl
theorem q198_32 : vE 198 32 [l0, l1, l2] st v x ↔ vE 198 33 [l0, l1, l2] (.int 0 :: st) v x := vE_s rfl (by rfl)
theorem q198_33 : vE 198 33 [l0, .int a, l2] st v x ↔ vE 198 34 [l0, .int a, l2] (.int a :: st) v x := vE_s rfl rfl
theorem q198_34 : vE 198 34 [l0, l1, .int a] st v x ↔ vE 198 35 [l0, l1, .int a] (.int a :: st) v x := vE_s rfl rfl
theorem q198_35 : vE 198 35 [l0, l1, l2] (w3 :: w2 :: w1 :: w0 :: st) v x ↔ ∃ y : vm_Y, vE 180 0 [w0, w1, w2, w3, .retAddr 0, .retAddr 0, .retAddr 0] [] v y ∧ vB 198 35 [l0, l1, l2] st y x := vE_cv rfl rfl rfl rfl
theorem q198_38 : vE 198 38 [.ref p, l1, l2] st v x ↔ vE 198 39 [.ref p, l1, l2] (.ref p :: st) v x := vE_s rfl rfl
theorem q198_39 : vE 198 39 [l0, l1, l2] (.ref p :: st) v x ↔ vE 198 42 [l0, l1, l2] (.ref (p + 9) :: st) v x := vE_s rfl rfl
theorem q198_42 : vE 198 42 [l0, l1, l2] st v x ↔ vE 198 43 [l0, l1, l2] (.int 0 :: st) v x := vE_s rfl (by rfl)
theorem q198_43 : vE 198 43 [l0, l1, l2] (.int a :: .ref p :: st) v x ↔ vE 198 44 [l0, l1, l2] (.int (v.1 p a.toNatClampNeg) :: st) v x := vE_s rfl rfl
theorem q198_44 : vE 198 44 [l0, l1, l2] ([.int a]) v x ↔ x = vr a v := vE_ir rfl
theorem qt198 {X pc : Nat} {L r : List Value} : vB 198 pc L r (vt X v) x ↔ x = vt X v := vB_t rfl
end QI
