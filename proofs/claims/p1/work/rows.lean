section
-- ===== PART A: goes FIRST, ahead of the names: the tables' words, and 'selects' of the private methods out of them =====
/-- a private method of a class that the tables say can be made, by its rows of tables_1 -/
def lw_okq (q : MethodName × Nat) : Prop := (q.1.cls ≠ "java/lang/invoke/MethodHandle" ∧ q.1.cls ≠ "java/lang/invoke/VarHandle") ∧ Cond.instantiable q.1.cls q.2 ∈ tables_1 ∧ Cond.privateMethod q.1 ∈ tables_1 ∧ Cond.instanceMethod q.1 ∈ tables_1
theorem lw_p0 : lw_okq (⟨"PassChecker", "programOf", "(I)LPassChecker$Program;"⟩, 8) := ⟨⟨by decide +kernel, by decide +kernel⟩, List.mem_of_getElem? (i := 22) (by decide +kernel), List.mem_of_getElem? (i := 277) (by decide +kernel), List.mem_of_getElem? (i := 278) (by decide +kernel)⟩
theorem lw_p1 : lw_okq (⟨"java/lang/Throwable", "fillInStackTrace", "(I)Ljava/lang/Throwable;"⟩, 6) := ⟨⟨by decide +kernel, by decide +kernel⟩, List.mem_of_getElem? (i := 320) (by decide +kernel), List.mem_of_getElem? (i := 318) (by decide +kernel), List.mem_of_getElem? (i := 319) (by decide +kernel)⟩
theorem lw_p2 : lw_okq (⟨"PassChecker$Folder", "forget", "(I)V"⟩, 2) := ⟨⟨by decide +kernel, by decide +kernel⟩, List.mem_of_getElem? (i := 50) (by decide +kernel), List.mem_of_getElem? (i := 485) (by decide +kernel), List.mem_of_getElem? (i := 486) (by decide +kernel)⟩
theorem lw_p3 : lw_okq (⟨"PassChecker$Folder", "foldCode", "(LPassChecker$Program;LPassChecker$Program;II)V"⟩, 2) := ⟨⟨by decide +kernel, by decide +kernel⟩, List.mem_of_getElem? (i := 50) (by decide +kernel), List.mem_of_getElem? (i := 491) (by decide +kernel), List.mem_of_getElem? (i := 492) (by decide +kernel)⟩
theorem lw_p4 : lw_okq (⟨"PassChecker$Folder", "note", "(II)V"⟩, 2) := ⟨⟨by decide +kernel, by decide +kernel⟩, List.mem_of_getElem? (i := 50) (by decide +kernel), List.mem_of_getElem? (i := 499) (by decide +kernel), List.mem_of_getElem? (i := 500) (by decide +kernel)⟩
theorem lw_p5 : lw_okq (⟨"PassChecker$Folder", "isKnown", "(I)Z"⟩, 2) := ⟨⟨by decide +kernel, by decide +kernel⟩, List.mem_of_getElem? (i := 50) (by decide +kernel), List.mem_of_getElem? (i := 503) (by decide +kernel), List.mem_of_getElem? (i := 504) (by decide +kernel)⟩
theorem lw_p6 : lw_okq (⟨"PassChecker$Folder", "numberIn", "(I)I"⟩, 2) := ⟨⟨by decide +kernel, by decide +kernel⟩, List.mem_of_getElem? (i := 50) (by decide +kernel), List.mem_of_getElem? (i := 507) (by decide +kernel), List.mem_of_getElem? (i := 508) (by decide +kernel)⟩
theorem lw_p7 : lw_okq (⟨"PassChecker$Folder", "canCalculate", "(III)Z"⟩, 2) := ⟨⟨by decide +kernel, by decide +kernel⟩, List.mem_of_getElem? (i := 50) (by decide +kernel), List.mem_of_getElem? (i := 515) (by decide +kernel), List.mem_of_getElem? (i := 516) (by decide +kernel)⟩
theorem lw_p8 : lw_okq (⟨"PassChecker$Folder", "foldEnd", "(LPassChecker$Program;LPassChecker$Program;I)V"⟩, 2) := ⟨⟨by decide +kernel, by decide +kernel⟩, List.mem_of_getElem? (i := 50) (by decide +kernel), List.mem_of_getElem? (i := 526) (by decide +kernel), List.mem_of_getElem? (i := 527) (by decide +kernel)⟩
theorem lw_p9 : lw_okq (⟨"PassChecker$Reuser", "findEarlier", "(LPassChecker$Program;II)I"⟩, 0) := ⟨⟨by decide +kernel, by decide +kernel⟩, List.mem_of_getElem? (i := 64) (by decide +kernel), List.mem_of_getElem? (i := 542) (by decide +kernel), List.mem_of_getElem? (i := 543) (by decide +kernel)⟩
theorem lw_p10 : lw_okq (⟨"PassChecker$Reuser", "isSameWork", "(LPassChecker$Program;III)Z"⟩, 0) := ⟨⟨by decide +kernel, by decide +kernel⟩, List.mem_of_getElem? (i := 64) (by decide +kernel), List.mem_of_getElem? (i := 546) (by decide +kernel), List.mem_of_getElem? (i := 547) (by decide +kernel)⟩
theorem lw_p11 : lw_okq (⟨"PassChecker$Reuser", "stillHolds", "(LPassChecker$Program;III)Z"⟩, 0) := ⟨⟨by decide +kernel, by decide +kernel⟩, List.mem_of_getElem? (i := 64) (by decide +kernel), List.mem_of_getElem? (i := 550) (by decide +kernel), List.mem_of_getElem? (i := 551) (by decide +kernel)⟩
theorem lw_p12 : lw_okq (⟨"PassChecker$Orderer", "heightOf", "(LPassChecker$Program;III)I"⟩, 2) := ⟨⟨by decide +kernel, by decide +kernel⟩, List.mem_of_getElem? (i := 71) (by decide +kernel), List.mem_of_getElem? (i := 575) (by decide +kernel), List.mem_of_getElem? (i := 576) (by decide +kernel)⟩
theorem lw_p13 : lw_okq (⟨"PassChecker$Orderer", "depends", "(LPassChecker$Program;III)Z"⟩, 2) := ⟨⟨by decide +kernel, by decide +kernel⟩, List.mem_of_getElem? (i := 71) (by decide +kernel), List.mem_of_getElem? (i := 579) (by decide +kernel), List.mem_of_getElem? (i := 580) (by decide +kernel)⟩
theorem lw_p14 : lw_okq (⟨"PassChecker$Orderer", "findNext", "(LPassChecker$Program;II)I"⟩, 2) := ⟨⟨by decide +kernel, by decide +kernel⟩, List.mem_of_getElem? (i := 71) (by decide +kernel), List.mem_of_getElem? (i := 591) (by decide +kernel), List.mem_of_getElem? (i := 592) (by decide +kernel)⟩
theorem lw_p15 : lw_okq (⟨"PassChecker$Orderer", "isFree", "(LPassChecker$Program;II)Z"⟩, 2) := ⟨⟨by decide +kernel, by decide +kernel⟩, List.mem_of_getElem? (i := 71) (by decide +kernel), List.mem_of_getElem? (i := 595) (by decide +kernel), List.mem_of_getElem? (i := 596) (by decide +kernel)⟩
def lw_privs_1 : List (MethodName × Nat) := [(⟨"PassChecker", "programOf", "(I)LPassChecker$Program;"⟩, 8), (⟨"java/lang/Throwable", "fillInStackTrace", "(I)Ljava/lang/Throwable;"⟩, 6), (⟨"PassChecker$Folder", "forget", "(I)V"⟩, 2), (⟨"PassChecker$Folder", "foldCode", "(LPassChecker$Program;LPassChecker$Program;II)V"⟩, 2), (⟨"PassChecker$Folder", "note", "(II)V"⟩, 2), (⟨"PassChecker$Folder", "isKnown", "(I)Z"⟩, 2), (⟨"PassChecker$Folder", "numberIn", "(I)I"⟩, 2), (⟨"PassChecker$Folder", "canCalculate", "(III)Z"⟩, 2), (⟨"PassChecker$Folder", "foldEnd", "(LPassChecker$Program;LPassChecker$Program;I)V"⟩, 2), (⟨"PassChecker$Reuser", "findEarlier", "(LPassChecker$Program;II)I"⟩, 0), (⟨"PassChecker$Reuser", "isSameWork", "(LPassChecker$Program;III)Z"⟩, 0), (⟨"PassChecker$Reuser", "stillHolds", "(LPassChecker$Program;III)Z"⟩, 0), (⟨"PassChecker$Orderer", "heightOf", "(LPassChecker$Program;III)I"⟩, 2), (⟨"PassChecker$Orderer", "depends", "(LPassChecker$Program;III)Z"⟩, 2), (⟨"PassChecker$Orderer", "findNext", "(LPassChecker$Program;II)I"⟩, 2), (⟨"PassChecker$Orderer", "isFree", "(LPassChecker$Program;II)Z"⟩, 2)]
theorem lw_r1 : ∀ q ∈ lw_privs_1, lw_okq q := List.forall_mem_cons.mpr ⟨lw_p0, List.forall_mem_cons.mpr ⟨lw_p1, List.forall_mem_cons.mpr ⟨lw_p2, List.forall_mem_cons.mpr ⟨lw_p3, List.forall_mem_cons.mpr ⟨lw_p4, List.forall_mem_cons.mpr ⟨lw_p5, List.forall_mem_cons.mpr ⟨lw_p6, List.forall_mem_cons.mpr ⟨lw_p7, List.forall_mem_cons.mpr ⟨lw_p8, List.forall_mem_cons.mpr ⟨lw_p9, List.forall_mem_cons.mpr ⟨lw_p10, List.forall_mem_cons.mpr ⟨lw_p11, List.forall_mem_cons.mpr ⟨lw_p12, List.forall_mem_cons.mpr ⟨lw_p13, List.forall_mem_cons.mpr ⟨lw_p14, List.forall_mem_cons.mpr ⟨lw_p15, fun _ h => absurd h List.not_mem_nil⟩⟩⟩⟩⟩⟩⟩⟩⟩⟩⟩⟩⟩⟩⟩⟩
theorem lw_p16 : lw_okq (⟨"PassChecker$Program", "hasOtherCode", "(LPassChecker$Program;II)Z"⟩, 4) := ⟨⟨by decide +kernel, by decide +kernel⟩, List.mem_of_getElem? (i := 30) (by decide +kernel), List.mem_of_getElem? (i := 604) (by decide +kernel), List.mem_of_getElem? (i := 605) (by decide +kernel)⟩
theorem lw_p17 : lw_okq (⟨"PassChecker$Program", "hasOtherEnd", "(LPassChecker$Program;I)Z"⟩, 4) := ⟨⟨by decide +kernel, by decide +kernel⟩, List.mem_of_getElem? (i := 30) (by decide +kernel), List.mem_of_getElem? (i := 608) (by decide +kernel), List.mem_of_getElem? (i := 609) (by decide +kernel)⟩
theorem lw_p18 : lw_okq (⟨"PassChecker$Checker", "meet", "(II)V"⟩, 9) := ⟨⟨by decide +kernel, by decide +kernel⟩, List.mem_of_getElem? (i := 84) (by decide +kernel), List.mem_of_getElem? (i := 648) (by decide +kernel), List.mem_of_getElem? (i := 649) (by decide +kernel)⟩
theorem lw_p19 : lw_okq (⟨"PassChecker$Checker", "refuse", "(III)V"⟩, 9) := ⟨⟨by decide +kernel, by decide +kernel⟩, List.mem_of_getElem? (i := 84) (by decide +kernel), List.mem_of_getElem? (i := 652) (by decide +kernel), List.mem_of_getElem? (i := 653) (by decide +kernel)⟩
theorem lw_p20 : lw_okq (⟨"PassChecker$Values", "addDraft", "()I"⟩, 9) := ⟨⟨by decide +kernel, by decide +kernel⟩, List.mem_of_getElem? (i := 90) (by decide +kernel), List.mem_of_getElem? (i := 681) (by decide +kernel), List.mem_of_getElem? (i := 682) (by decide +kernel)⟩
theorem lw_p21 : lw_okq (⟨"PassChecker$Outcome", "noteEffect", "(LPassChecker$Values;III)V"⟩, 10) := ⟨⟨by decide +kernel, by decide +kernel⟩, List.mem_of_getElem? (i := 126) (by decide +kernel), List.mem_of_getElem? (i := 697) (by decide +kernel), List.mem_of_getElem? (i := 698) (by decide +kernel)⟩
theorem lw_p22 : lw_okq (⟨"PassChecker$Outcome", "addEffect", "(III)V"⟩, 10) := ⟨⟨by decide +kernel, by decide +kernel⟩, List.mem_of_getElem? (i := 126) (by decide +kernel), List.mem_of_getElem? (i := 701) (by decide +kernel), List.mem_of_getElem? (i := 702) (by decide +kernel)⟩
theorem lw_p23 : lw_okq (⟨"PassChecker$Values", "cell", "(II)I"⟩, 9) := ⟨⟨by decide +kernel, by decide +kernel⟩, List.mem_of_getElem? (i := 90) (by decide +kernel), List.mem_of_getElem? (i := 713) (by decide +kernel), List.mem_of_getElem? (i := 714) (by decide +kernel)⟩
theorem lw_p24 : lw_okq (⟨"PassChecker$Outcome", "addEffectOnce", "(III)V"⟩, 10) := ⟨⟨by decide +kernel, by decide +kernel⟩, List.mem_of_getElem? (i := 126) (by decide +kernel), List.mem_of_getElem? (i := 717) (by decide +kernel), List.mem_of_getElem? (i := 718) (by decide +kernel)⟩
theorem lw_p25 : lw_okq (⟨"PassChecker$Outcome", "isEffect", "(IIII)Z"⟩, 10) := ⟨⟨by decide +kernel, by decide +kernel⟩, List.mem_of_getElem? (i := 126) (by decide +kernel), List.mem_of_getElem? (i := 721) (by decide +kernel), List.mem_of_getElem? (i := 722) (by decide +kernel)⟩
theorem lw_p26 : lw_okq (⟨"PassChecker$Values", "keepDraft", "()I"⟩, 9) := ⟨⟨by decide +kernel, by decide +kernel⟩, List.mem_of_getElem? (i := 90) (by decide +kernel), List.mem_of_getElem? (i := 732) (by decide +kernel), List.mem_of_getElem? (i := 733) (by decide +kernel)⟩
theorem lw_p27 : lw_okq (⟨"PassChecker$Values", "isDraft", "([I)Z"⟩, 9) := ⟨⟨by decide +kernel, by decide +kernel⟩, List.mem_of_getElem? (i := 90) (by decide +kernel), List.mem_of_getElem? (i := 736) (by decide +kernel), List.mem_of_getElem? (i := 737) (by decide +kernel)⟩
theorem lw_p28 : lw_okq (⟨"PassChecker$Outcome", "combine", "(LPassChecker$Values;III)I"⟩, 10) := ⟨⟨by decide +kernel, by decide +kernel⟩, List.mem_of_getElem? (i := 126) (by decide +kernel), List.mem_of_getElem? (i := 740) (by decide +kernel), List.mem_of_getElem? (i := 741) (by decide +kernel)⟩
theorem lw_p29 : lw_okq (⟨"PassChecker$Values", "isThis", "(II)Z"⟩, 9) := ⟨⟨by decide +kernel, by decide +kernel⟩, List.mem_of_getElem? (i := 90) (by decide +kernel), List.mem_of_getElem? (i := 763) (by decide +kernel), List.mem_of_getElem? (i := 764) (by decide +kernel)⟩
theorem lw_p30 : lw_okq (⟨"PassChecker$Outcome", "write", "(II)V"⟩, 10) := ⟨⟨by decide +kernel, by decide +kernel⟩, List.mem_of_getElem? (i := 126) (by decide +kernel), List.mem_of_getElem? (i := 773) (by decide +kernel), List.mem_of_getElem? (i := 774) (by decide +kernel)⟩
theorem lw_p31 : lw_okq (⟨"PassChecker$Outcome", "workOutEnd", "(LPassChecker$Values;LPassChecker$Program;I)V"⟩, 10) := ⟨⟨by decide +kernel, by decide +kernel⟩, List.mem_of_getElem? (i := 126) (by decide +kernel), List.mem_of_getElem? (i := 777) (by decide +kernel), List.mem_of_getElem? (i := 778) (by decide +kernel)⟩
def lw_privs_2 : List (MethodName × Nat) := [(⟨"PassChecker$Program", "hasOtherCode", "(LPassChecker$Program;II)Z"⟩, 4), (⟨"PassChecker$Program", "hasOtherEnd", "(LPassChecker$Program;I)Z"⟩, 4), (⟨"PassChecker$Checker", "meet", "(II)V"⟩, 9), (⟨"PassChecker$Checker", "refuse", "(III)V"⟩, 9), (⟨"PassChecker$Values", "addDraft", "()I"⟩, 9), (⟨"PassChecker$Outcome", "noteEffect", "(LPassChecker$Values;III)V"⟩, 10), (⟨"PassChecker$Outcome", "addEffect", "(III)V"⟩, 10), (⟨"PassChecker$Values", "cell", "(II)I"⟩, 9), (⟨"PassChecker$Outcome", "addEffectOnce", "(III)V"⟩, 10), (⟨"PassChecker$Outcome", "isEffect", "(IIII)Z"⟩, 10), (⟨"PassChecker$Values", "keepDraft", "()I"⟩, 9), (⟨"PassChecker$Values", "isDraft", "([I)Z"⟩, 9), (⟨"PassChecker$Outcome", "combine", "(LPassChecker$Values;III)I"⟩, 10), (⟨"PassChecker$Values", "isThis", "(II)Z"⟩, 9), (⟨"PassChecker$Outcome", "write", "(II)V"⟩, 10), (⟨"PassChecker$Outcome", "workOutEnd", "(LPassChecker$Values;LPassChecker$Program;I)V"⟩, 10)]
theorem lw_r2 : ∀ q ∈ lw_privs_2, lw_okq q := List.forall_mem_cons.mpr ⟨lw_p16, List.forall_mem_cons.mpr ⟨lw_p17, List.forall_mem_cons.mpr ⟨lw_p18, List.forall_mem_cons.mpr ⟨lw_p19, List.forall_mem_cons.mpr ⟨lw_p20, List.forall_mem_cons.mpr ⟨lw_p21, List.forall_mem_cons.mpr ⟨lw_p22, List.forall_mem_cons.mpr ⟨lw_p23, List.forall_mem_cons.mpr ⟨lw_p24, List.forall_mem_cons.mpr ⟨lw_p25, List.forall_mem_cons.mpr ⟨lw_p26, List.forall_mem_cons.mpr ⟨lw_p27, List.forall_mem_cons.mpr ⟨lw_p28, List.forall_mem_cons.mpr ⟨lw_p29, List.forall_mem_cons.mpr ⟨lw_p30, List.forall_mem_cons.mpr ⟨lw_p31, fun _ h => absurd h List.not_mem_nil⟩⟩⟩⟩⟩⟩⟩⟩⟩⟩⟩⟩⟩⟩⟩⟩
theorem lw_p32 : lw_okq (⟨"PassChecker$Checker", "meetGoals", "()V"⟩, 9) := ⟨⟨by decide +kernel, by decide +kernel⟩, List.mem_of_getElem? (i := 84) (by decide +kernel), List.mem_of_getElem? (i := 802) (by decide +kernel), List.mem_of_getElem? (i := 803) (by decide +kernel)⟩
theorem lw_p33 : lw_okq (⟨"PassChecker$Machine", "begin", "(II)V"⟩, 6) := ⟨⟨by decide +kernel, by decide +kernel⟩, List.mem_of_getElem? (i := 191) (by decide +kernel), List.mem_of_getElem? (i := 893) (by decide +kernel), List.mem_of_getElem? (i := 894) (by decide +kernel)⟩
theorem lw_p34 : lw_okq (⟨"PassChecker$Machine", "write", "(II)V"⟩, 6) := ⟨⟨by decide +kernel, by decide +kernel⟩, List.mem_of_getElem? (i := 191) (by decide +kernel), List.mem_of_getElem? (i := 898) (by decide +kernel), List.mem_of_getElem? (i := 899) (by decide +kernel)⟩
theorem lw_p35 : lw_okq (⟨"PassChecker$Machine", "doCode", "(LPassChecker$Program;)I"⟩, 6) := ⟨⟨by decide +kernel, by decide +kernel⟩, List.mem_of_getElem? (i := 191) (by decide +kernel), List.mem_of_getElem? (i := 904) (by decide +kernel), List.mem_of_getElem? (i := 905) (by decide +kernel)⟩
theorem lw_p36 : lw_okq (⟨"PassChecker$Machine", "valueIn", "(I)I"⟩, 6) := ⟨⟨by decide +kernel, by decide +kernel⟩, List.mem_of_getElem? (i := 191) (by decide +kernel), List.mem_of_getElem? (i := 909) (by decide +kernel), List.mem_of_getElem? (i := 910) (by decide +kernel)⟩
theorem lw_p37 : lw_okq (⟨"PassChecker$Machine", "trapOf", "(III)I"⟩, 6) := ⟨⟨by decide +kernel, by decide +kernel⟩, List.mem_of_getElem? (i := 191) (by decide +kernel), List.mem_of_getElem? (i := 913) (by decide +kernel), List.mem_of_getElem? (i := 914) (by decide +kernel)⟩
theorem lw_p38 : lw_okq (⟨"PassChecker$Machine", "store", "(II)V"⟩, 6) := ⟨⟨by decide +kernel, by decide +kernel⟩, List.mem_of_getElem? (i := 191) (by decide +kernel), List.mem_of_getElem? (i := 923) (by decide +kernel), List.mem_of_getElem? (i := 924) (by decide +kernel)⟩
theorem lw_p39 : lw_okq (⟨"PassChecker$Machine", "doEnd", "(LPassChecker$Program;)I"⟩, 6) := ⟨⟨by decide +kernel, by decide +kernel⟩, List.mem_of_getElem? (i := 191) (by decide +kernel), List.mem_of_getElem? (i := 928) (by decide +kernel), List.mem_of_getElem? (i := 929) (by decide +kernel)⟩
theorem lw_p40 : lw_okq (⟨"PassCheckerModel", "setEnd", "(IIIII)V"⟩, 36) := ⟨⟨by decide +kernel, by decide +kernel⟩, List.mem_of_getElem? (i := 943) (by decide +kernel), List.mem_of_getElem? (i := 1069) (by decide +kernel), List.mem_of_getElem? (i := 1070) (by decide +kernel)⟩
theorem lw_p41 : lw_okq (⟨"PassCheckerModel", "changed", "()V"⟩, 36) := ⟨⟨by decide +kernel, by decide +kernel⟩, List.mem_of_getElem? (i := 943) (by decide +kernel), List.mem_of_getElem? (i := 1073) (by decide +kernel), List.mem_of_getElem? (i := 1074) (by decide +kernel)⟩
theorem lw_p42 : lw_okq (⟨"PassCheckerModel", "isBlock", "(II)Z"⟩, 36) := ⟨⟨by decide +kernel, by decide +kernel⟩, List.mem_of_getElem? (i := 943) (by decide +kernel), List.mem_of_getElem? (i := 1081) (by decide +kernel), List.mem_of_getElem? (i := 1082) (by decide +kernel)⟩
theorem lw_p43 : lw_okq (⟨"PassCheckerModel", "fail", "(I)I"⟩, 36) := ⟨⟨by decide +kernel, by decide +kernel⟩, List.mem_of_getElem? (i := 943) (by decide +kernel), List.mem_of_getElem? (i := 1085) (by decide +kernel), List.mem_of_getElem? (i := 1086) (by decide +kernel)⟩
theorem lw_p44 : lw_okq (⟨"PassCheckerModel", "put", "(IIIII)V"⟩, 36) := ⟨⟨by decide +kernel, by decide +kernel⟩, List.mem_of_getElem? (i := 943) (by decide +kernel), List.mem_of_getElem? (i := 1098) (by decide +kernel), List.mem_of_getElem? (i := 1099) (by decide +kernel)⟩
theorem lw_p45 : lw_okq (⟨"PassCheckerModel", "copy", "(II)V"⟩, 36) := ⟨⟨by decide +kernel, by decide +kernel⟩, List.mem_of_getElem? (i := 943) (by decide +kernel), List.mem_of_getElem? (i := 1114) (by decide +kernel), List.mem_of_getElem? (i := 1115) (by decide +kernel)⟩
theorem lw_p46 : lw_okq (⟨"PassCheckerModel", "fold", "(I)V"⟩, 36) := ⟨⟨by decide +kernel, by decide +kernel⟩, List.mem_of_getElem? (i := 943) (by decide +kernel), List.mem_of_getElem? (i := 1130) (by decide +kernel), List.mem_of_getElem? (i := 1131) (by decide +kernel)⟩
theorem lw_p47 : lw_okq (⟨"PassCheckerModel", "reuse", "(I)V"⟩, 36) := ⟨⟨by decide +kernel, by decide +kernel⟩, List.mem_of_getElem? (i := 943) (by decide +kernel), List.mem_of_getElem? (i := 1137) (by decide +kernel), List.mem_of_getElem? (i := 1138) (by decide +kernel)⟩
def lw_privs_3 : List (MethodName × Nat) := [(⟨"PassChecker$Checker", "meetGoals", "()V"⟩, 9), (⟨"PassChecker$Machine", "begin", "(II)V"⟩, 6), (⟨"PassChecker$Machine", "write", "(II)V"⟩, 6), (⟨"PassChecker$Machine", "doCode", "(LPassChecker$Program;)I"⟩, 6), (⟨"PassChecker$Machine", "valueIn", "(I)I"⟩, 6), (⟨"PassChecker$Machine", "trapOf", "(III)I"⟩, 6), (⟨"PassChecker$Machine", "store", "(II)V"⟩, 6), (⟨"PassChecker$Machine", "doEnd", "(LPassChecker$Program;)I"⟩, 6), (⟨"PassCheckerModel", "setEnd", "(IIIII)V"⟩, 36), (⟨"PassCheckerModel", "changed", "()V"⟩, 36), (⟨"PassCheckerModel", "isBlock", "(II)Z"⟩, 36), (⟨"PassCheckerModel", "fail", "(I)I"⟩, 36), (⟨"PassCheckerModel", "put", "(IIIII)V"⟩, 36), (⟨"PassCheckerModel", "copy", "(II)V"⟩, 36), (⟨"PassCheckerModel", "fold", "(I)V"⟩, 36), (⟨"PassCheckerModel", "reuse", "(I)V"⟩, 36)]
theorem lw_r3 : ∀ q ∈ lw_privs_3, lw_okq q := List.forall_mem_cons.mpr ⟨lw_p32, List.forall_mem_cons.mpr ⟨lw_p33, List.forall_mem_cons.mpr ⟨lw_p34, List.forall_mem_cons.mpr ⟨lw_p35, List.forall_mem_cons.mpr ⟨lw_p36, List.forall_mem_cons.mpr ⟨lw_p37, List.forall_mem_cons.mpr ⟨lw_p38, List.forall_mem_cons.mpr ⟨lw_p39, List.forall_mem_cons.mpr ⟨lw_p40, List.forall_mem_cons.mpr ⟨lw_p41, List.forall_mem_cons.mpr ⟨lw_p42, List.forall_mem_cons.mpr ⟨lw_p43, List.forall_mem_cons.mpr ⟨lw_p44, List.forall_mem_cons.mpr ⟨lw_p45, List.forall_mem_cons.mpr ⟨lw_p46, List.forall_mem_cons.mpr ⟨lw_p47, fun _ h => absurd h List.not_mem_nil⟩⟩⟩⟩⟩⟩⟩⟩⟩⟩⟩⟩⟩⟩⟩⟩
theorem lw_p48 : lw_okq (⟨"PassCheckerModel", "serves", "(III)Z"⟩, 36) := ⟨⟨by decide +kernel, by decide +kernel⟩, List.mem_of_getElem? (i := 943) (by decide +kernel), List.mem_of_getElem? (i := 1141) (by decide +kernel), List.mem_of_getElem? (i := 1142) (by decide +kernel)⟩
theorem lw_p49 : lw_okq (⟨"PassCheckerModel", "writesTo", "(III)Z"⟩, 36) := ⟨⟨by decide +kernel, by decide +kernel⟩, List.mem_of_getElem? (i := 943) (by decide +kernel), List.mem_of_getElem? (i := 1145) (by decide +kernel), List.mem_of_getElem? (i := 1146) (by decide +kernel)⟩
theorem lw_p50 : lw_okq (⟨"PassCheckerModel", "order", "(I)V"⟩, 36) := ⟨⟨by decide +kernel, by decide +kernel⟩, List.mem_of_getElem? (i := 943) (by decide +kernel), List.mem_of_getElem? (i := 1149) (by decide +kernel), List.mem_of_getElem? (i := 1150) (by decide +kernel)⟩
theorem lw_p51 : lw_okq (⟨"PassCheckerModel", "depends", "(III)Z"⟩, 36) := ⟨⟨by decide +kernel, by decide +kernel⟩, List.mem_of_getElem? (i := 943) (by decide +kernel), List.mem_of_getElem? (i := 1153) (by decide +kernel), List.mem_of_getElem? (i := 1154) (by decide +kernel)⟩
theorem lw_p52 : lw_okq (⟨"PassCheckerModel", "touches", "(III)Z"⟩, 36) := ⟨⟨by decide +kernel, by decide +kernel⟩, List.mem_of_getElem? (i := 943) (by decide +kernel), List.mem_of_getElem? (i := 1157) (by decide +kernel), List.mem_of_getElem? (i := 1158) (by decide +kernel)⟩
theorem lw_p53 : lw_okq (⟨"PassCheckerModel", "differences", "(I)I"⟩, 36) := ⟨⟨by decide +kernel, by decide +kernel⟩, List.mem_of_getElem? (i := 943) (by decide +kernel), List.mem_of_getElem? (i := 1164) (by decide +kernel), List.mem_of_getElem? (i := 1165) (by decide +kernel)⟩
theorem lw_p54 : lw_okq (⟨"PassCheckerModel", "meet", "(II)V"⟩, 36) := ⟨⟨by decide +kernel, by decide +kernel⟩, List.mem_of_getElem? (i := 943) (by decide +kernel), List.mem_of_getElem? (i := 1172) (by decide +kernel), List.mem_of_getElem? (i := 1173) (by decide +kernel)⟩
theorem lw_p55 : lw_okq (⟨"PassCheckerModel", "look", "(II)I"⟩, 36) := ⟨⟨by decide +kernel, by decide +kernel⟩, List.mem_of_getElem? (i := 943) (by decide +kernel), List.mem_of_getElem? (i := 1176) (by decide +kernel), List.mem_of_getElem? (i := 1177) (by decide +kernel)⟩
theorem lw_p56 : lw_okq (⟨"PassCheckerModel", "begin", "()V"⟩, 36) := ⟨⟨by decide +kernel, by decide +kernel⟩, List.mem_of_getElem? (i := 943) (by decide +kernel), List.mem_of_getElem? (i := 1180) (by decide +kernel), List.mem_of_getElem? (i := 1181) (by decide +kernel)⟩
theorem lw_p57 : lw_okq (⟨"PassCheckerModel", "workOut", "(III)V"⟩, 36) := ⟨⟨by decide +kernel, by decide +kernel⟩, List.mem_of_getElem? (i := 943) (by decide +kernel), List.mem_of_getElem? (i := 1187) (by decide +kernel), List.mem_of_getElem? (i := 1188) (by decide +kernel)⟩
theorem lw_p58 : lw_okq (⟨"PassCheckerModel", "perform", "(II)V"⟩, 36) := ⟨⟨by decide +kernel, by decide +kernel⟩, List.mem_of_getElem? (i := 943) (by decide +kernel), List.mem_of_getElem? (i := 1191) (by decide +kernel), List.mem_of_getElem? (i := 1192) (by decide +kernel)⟩
theorem lw_p59 : lw_okq (⟨"PassCheckerModel", "effect", "(II[II[II)V"⟩, 36) := ⟨⟨by decide +kernel, by decide +kernel⟩, List.mem_of_getElem? (i := 943) (by decide +kernel), List.mem_of_getElem? (i := 1195) (by decide +kernel), List.mem_of_getElem? (i := 1196) (by decide +kernel)⟩
theorem lw_p60 : lw_okq (⟨"PassCheckerModel", "divide", "(III)V"⟩, 36) := ⟨⟨by decide +kernel, by decide +kernel⟩, List.mem_of_getElem? (i := 943) (by decide +kernel), List.mem_of_getElem? (i := 1202) (by decide +kernel), List.mem_of_getElem? (i := 1203) (by decide +kernel)⟩
theorem lw_p61 : lw_okq (⟨"PassCheckerModel", "wasEffect", "(II[II[II)Z"⟩, 36) := ⟨⟨by decide +kernel, by decide +kernel⟩, List.mem_of_getElem? (i := 943) (by decide +kernel), List.mem_of_getElem? (i := 1209) (by decide +kernel), List.mem_of_getElem? (i := 1210) (by decide +kernel)⟩
theorem lw_p62 : lw_okq (⟨"PassCheckerModel", "atom", "(I[II[II)I"⟩, 36) := ⟨⟨by decide +kernel, by decide +kernel⟩, List.mem_of_getElem? (i := 943) (by decide +kernel), List.mem_of_getElem? (i := 1216) (by decide +kernel), List.mem_of_getElem? (i := 1217) (by decide +kernel)⟩
theorem lw_p63 : lw_okq (⟨"PassCheckerModel", "be", "(I)V"⟩, 36) := ⟨⟨by decide +kernel, by decide +kernel⟩, List.mem_of_getElem? (i := 943) (by decide +kernel), List.mem_of_getElem? (i := 1220) (by decide +kernel), List.mem_of_getElem? (i := 1221) (by decide +kernel)⟩
def lw_privs_4 : List (MethodName × Nat) := [(⟨"PassCheckerModel", "serves", "(III)Z"⟩, 36), (⟨"PassCheckerModel", "writesTo", "(III)Z"⟩, 36), (⟨"PassCheckerModel", "order", "(I)V"⟩, 36), (⟨"PassCheckerModel", "depends", "(III)Z"⟩, 36), (⟨"PassCheckerModel", "touches", "(III)Z"⟩, 36), (⟨"PassCheckerModel", "differences", "(I)I"⟩, 36), (⟨"PassCheckerModel", "meet", "(II)V"⟩, 36), (⟨"PassCheckerModel", "look", "(II)I"⟩, 36), (⟨"PassCheckerModel", "begin", "()V"⟩, 36), (⟨"PassCheckerModel", "workOut", "(III)V"⟩, 36), (⟨"PassCheckerModel", "perform", "(II)V"⟩, 36), (⟨"PassCheckerModel", "effect", "(II[II[II)V"⟩, 36), (⟨"PassCheckerModel", "divide", "(III)V"⟩, 36), (⟨"PassCheckerModel", "wasEffect", "(II[II[II)Z"⟩, 36), (⟨"PassCheckerModel", "atom", "(I[II[II)I"⟩, 36), (⟨"PassCheckerModel", "be", "(I)V"⟩, 36)]
theorem lw_r4 : ∀ q ∈ lw_privs_4, lw_okq q := List.forall_mem_cons.mpr ⟨lw_p48, List.forall_mem_cons.mpr ⟨lw_p49, List.forall_mem_cons.mpr ⟨lw_p50, List.forall_mem_cons.mpr ⟨lw_p51, List.forall_mem_cons.mpr ⟨lw_p52, List.forall_mem_cons.mpr ⟨lw_p53, List.forall_mem_cons.mpr ⟨lw_p54, List.forall_mem_cons.mpr ⟨lw_p55, List.forall_mem_cons.mpr ⟨lw_p56, List.forall_mem_cons.mpr ⟨lw_p57, List.forall_mem_cons.mpr ⟨lw_p58, List.forall_mem_cons.mpr ⟨lw_p59, List.forall_mem_cons.mpr ⟨lw_p60, List.forall_mem_cons.mpr ⟨lw_p61, List.forall_mem_cons.mpr ⟨lw_p62, List.forall_mem_cons.mpr ⟨lw_p63, fun _ h => absurd h List.not_mem_nil⟩⟩⟩⟩⟩⟩⟩⟩⟩⟩⟩⟩⟩⟩⟩⟩
theorem lw_p64 : lw_okq (⟨"PassCheckerModel", "load", "(II)V"⟩, 36) := ⟨⟨by decide +kernel, by decide +kernel⟩, List.mem_of_getElem? (i := 943) (by decide +kernel), List.mem_of_getElem? (i := 1224) (by decide +kernel), List.mem_of_getElem? (i := 1225) (by decide +kernel)⟩
theorem lw_p65 : lw_okq (⟨"PassCheckerModel", "combine", "(III)V"⟩, 36) := ⟨⟨by decide +kernel, by decide +kernel⟩, List.mem_of_getElem? (i := 943) (by decide +kernel), List.mem_of_getElem? (i := 1228) (by decide +kernel), List.mem_of_getElem? (i := 1229) (by decide +kernel)⟩
theorem lw_p66 : lw_okq (⟨"PassCheckerModel", "conclude", "(II)V"⟩, 36) := ⟨⟨by decide +kernel, by decide +kernel⟩, List.mem_of_getElem? (i := 943) (by decide +kernel), List.mem_of_getElem? (i := 1232) (by decide +kernel), List.mem_of_getElem? (i := 1233) (by decide +kernel)⟩
theorem lw_p67 : lw_okq (⟨"PassCheckerModel", "effectsAgree", "()Z"⟩, 36) := ⟨⟨by decide +kernel, by decide +kernel⟩, List.mem_of_getElem? (i := 943) (by decide +kernel), List.mem_of_getElem? (i := 1236) (by decide +kernel), List.mem_of_getElem? (i := 1237) (by decide +kernel)⟩
theorem lw_p68 : lw_okq (⟨"PassCheckerModel", "endsAgree", "()Z"⟩, 36) := ⟨⟨by decide +kernel, by decide +kernel⟩, List.mem_of_getElem? (i := 943) (by decide +kernel), List.mem_of_getElem? (i := 1240) (by decide +kernel), List.mem_of_getElem? (i := 1241) (by decide +kernel)⟩
theorem lw_p69 : lw_okq (⟨"PassCheckerModel", "registersAgree", "()Z"⟩, 36) := ⟨⟨by decide +kernel, by decide +kernel⟩, List.mem_of_getElem? (i := 943) (by decide +kernel), List.mem_of_getElem? (i := 1244) (by decide +kernel), List.mem_of_getElem? (i := 1245) (by decide +kernel)⟩
theorem lw_p70 : lw_okq (⟨"PassCheckerModel", "execute", "(I)I"⟩, 36) := ⟨⟨by decide +kernel, by decide +kernel⟩, List.mem_of_getElem? (i := 943) (by decide +kernel), List.mem_of_getElem? (i := 1264) (by decide +kernel), List.mem_of_getElem? (i := 1265) (by decide +kernel)⟩
def lw_privs_5 : List (MethodName × Nat) := [(⟨"PassCheckerModel", "load", "(II)V"⟩, 36), (⟨"PassCheckerModel", "combine", "(III)V"⟩, 36), (⟨"PassCheckerModel", "conclude", "(II)V"⟩, 36), (⟨"PassCheckerModel", "effectsAgree", "()Z"⟩, 36), (⟨"PassCheckerModel", "endsAgree", "()Z"⟩, 36), (⟨"PassCheckerModel", "registersAgree", "()Z"⟩, 36), (⟨"PassCheckerModel", "execute", "(I)I"⟩, 36)]
theorem lw_r5 : ∀ q ∈ lw_privs_5, lw_okq q := List.forall_mem_cons.mpr ⟨lw_p64, List.forall_mem_cons.mpr ⟨lw_p65, List.forall_mem_cons.mpr ⟨lw_p66, List.forall_mem_cons.mpr ⟨lw_p67, List.forall_mem_cons.mpr ⟨lw_p68, List.forall_mem_cons.mpr ⟨lw_p69, List.forall_mem_cons.mpr ⟨lw_p70, fun _ h => absurd h List.not_mem_nil⟩⟩⟩⟩⟩⟩⟩
def lw_privs : List (MethodName × Nat) := lw_privs_1 ++ (lw_privs_2 ++ (lw_privs_3 ++ (lw_privs_4 ++ (lw_privs_5))))
def lw_tbl : List Cond := k2_sels lw_privs ++ tables_1
theorem lw_privs_ok : ∀ q ∈ lw_privs, lw_okq q := by
  show ∀ q ∈ lw_privs_1 ++ (lw_privs_2 ++ (lw_privs_3 ++ (lw_privs_4 ++ (lw_privs_5)))), lw_okq q
  exact List.forall_mem_append.mpr ⟨lw_r1, List.forall_mem_append.mpr ⟨lw_r2, List.forall_mem_append.mpr ⟨lw_r3, List.forall_mem_append.mpr ⟨lw_r4, lw_r5⟩⟩⟩⟩
end
section
/-! TABLES OF THE ABSTRACT MACHINE, written by wip/tools/gen.py out of the Statement -/
abbrev am_E : Type := Nat × Jvm.ClassFile.Instr × Nat
def am_T (α : Type) : Nat → Type
  | 0 => α
  | n + 1 => Nat × am_T α n × am_T α n
def am_u {α : Type} {n : Nat} (t : am_T α (n + 1)) : Nat × am_T α n × am_T α n := t
def am_nd {α : Type} {n : Nat} (k : Nat) (l r : am_T α n) : am_T α (n + 1) := (k, l, r)
def am_lf {α : Type} (x : α) : am_T α 0 := x
def am_get {α : Type} : (n : Nat) → am_T α n → Nat → α
  | 0, t, _ => t
  | n + 1, t, k => if Nat.blt k (am_u t).1 then am_get n (am_u t).2.1 k else am_get n (am_u t).2.2 k
def am_allT {α : Type} (f : α → Bool) : (n : Nat) → am_T α n → Bool
  | 0, t => f t
  | n + 1, t => am_allT f n (am_u t).2.1 && am_allT f n (am_u t).2.2
theorem am_allT_get {α : Type} {f : α → Bool} : ∀ (n : Nat) (t : am_T α n) (k : Nat), am_allT f n t = true → f (am_get n t k) = true
  | 0, _, _, h => h
  | n + 1, t, k, h => by
    simp only [am_allT, Bool.and_eq_true] at h
    simp only [am_get]
    split
    · exact am_allT_get n _ k h.1
    · exact am_allT_get n _ k h.2
def am_at {n : Nat} (t : am_T am_E n) (pc : Nat) : Option Jvm.ClassFile.Instr := if Nat.beq (am_get n t pc).1 pc then some (am_get n t pc).2.1 else none
abbrev am_MI : Type := MethodName × ByteArray × Nat × Option FieldType × Nat × Nat × Nat × List (Nat × Nat × Nat × Nat) × (Nat → Option Jvm.ClassFile.Instr)
def am_c0_0 : am_T am_E 5 := (am_nd 27 (am_nd 16 (am_nd 8 (am_nd 4 (am_nd 3 (am_lf (0, .new 8, 3)) (am_lf (3, .dup, 1))) (am_nd 7 (am_lf (4, .invokespecial 65, 3)) (am_lf (7, .astore_n 1, 1)))) (am_nd 12 (am_nd 11 (am_lf (8, .new 66, 3)) (am_lf (11, .dup, 1))) (am_nd 15 (am_lf (12, .invokespecial 68, 3)) (am_lf (15, .astore_n 2, 1))))) (am_nd 21 (am_nd 19 (am_nd 17 (am_lf (16, .iconst 1, 1)) (am_lf (17, .newarray .long, 2))) (am_nd 20 (am_lf (19, .astore_n 3, 1)) (am_lf (20, .iconst 0, 1)))) (am_nd 25 (am_nd 23 (am_lf (21, .istore 4, 2)) (am_lf (23, .iload 4, 2))) (am_nd 26 (am_lf (25, .aload_n 0, 1)) (am_lf (26, .arraylength, 1)))))) (am_nd 40 (am_nd 34 (am_nd 30 (am_nd 29 (am_lf (27, .bipush 7, 2)) (am_lf (29, .isub, 1))) (am_nd 33 (am_lf (30, .if_icmp .gt 1084, 3)) (am_lf (33, .aload_n 0, 1)))) (am_nd 37 (am_nd 36 (am_lf (34, .iload 4, 2)) (am_lf (36, .iaload, 1))) (am_nd 39 (am_lf (37, .bipush 15, 2)) (am_lf (39, .iand, 1))))) (am_nd 124 (am_nd 121 (am_nd 120 (am_lf (40, .tableswitch 1068 0 15 #[80, 136, 254, 352, 388, 444, 455, 547, 627, 671, 727, 826, 894, 986, 999, 1055], 80)) (am_lf (120, .aload_n 1, 1))) (am_nd 122 (am_lf (121, .aload_n 0, 1)) (am_lf (122, .iload 4, 2)))) (am_nd 126 (am_nd 125 (am_lf (124, .iconst 1, 1)) (am_lf (125, .iadd, 1))) (am_nd 127 (am_lf (126, .iaload, 1)) (am_lf (127, .aload_n 3, 1)))))))
def am_c0_1 : am_T am_E 5 := (am_nd 156 (am_nd 140 (am_nd 135 (am_nd 133 (am_nd 131 (am_lf (128, .invokestatic 69, 3)) (am_lf (131, .istore 5, 2))) (am_nd 134 (am_lf (133, .aload_n 2, 1)) (am_lf (134, .aload_n 0, 1)))) (am_nd 138 (am_nd 137 (am_lf (135, .iload 4, 2)) (am_lf (137, .iconst 1, 1))) (am_nd 139 (am_lf (138, .iadd, 1)) (am_lf (139, .iaload, 1))))) (am_nd 149 (am_nd 145 (am_nd 143 (am_lf (140, .invokevirtual 74, 3)) (am_lf (143, .istore 6, 2))) (am_nd 146 (am_lf (145, .aload_n 2, 1)) (am_lf (146, .invokevirtual 75, 3)))) (am_nd 154 (am_nd 151 (am_lf (149, .iload 5, 2)) (am_lf (151, .if_icmp .eq 5, 3))) (am_nd 155 (am_lf (154, .iconst 0, 1)) (am_lf (155, .ireturn, 1)))))) (am_nd 168 (am_nd 163 (am_nd 161 (am_nd 158 (am_lf (156, .iload 5, 2)) (am_lf (158, .ifCond .ne 15, 3))) (am_nd 162 (am_lf (161, .aload_n 3, 1)) (am_lf (162, .iconst 0, 1)))) (am_nd 166 (am_nd 164 (am_lf (163, .laload, 1)) (am_lf (164, .iload 6, 2))) (am_nd 167 (am_lf (166, .i2l, 1)) (am_lf (167, .lcmp, 1))))) (am_nd 176 (am_nd 172 (am_nd 171 (am_lf (168, .ifCond .eq 5, 3)) (am_lf (171, .iconst 0, 1))) (am_nd 173 (am_lf (172, .ireturn, 1)) (am_lf (173, .goto 935, 3)))) (am_nd 178 (am_nd 177 (am_lf (176, .aload_n 1, 1)) (am_lf (177, .aload_n 0, 1))) (am_nd 180 (am_lf (178, .iload 4, 2)) (am_lf (180, .iconst 1, 1)))))))
def am_c0_2 : am_T am_E 5 := (am_nd 200 (am_nd 190 (am_nd 186 (am_nd 183 (am_nd 182 (am_lf (181, .iadd, 1)) (am_lf (182, .iaload, 1))) (am_nd 184 (am_lf (183, .aload_n 0, 1)) (am_lf (184, .iload 4, 2)))) (am_nd 188 (am_nd 187 (am_lf (186, .iconst 2, 1)) (am_lf (187, .iadd, 1))) (am_nd 189 (am_lf (188, .iaload, 1)) (am_lf (189, .aload_n 0, 1))))) (am_nd 195 (am_nd 193 (am_nd 192 (am_lf (190, .iload 4, 2)) (am_lf (192, .iconst 3, 1))) (am_nd 194 (am_lf (193, .iadd, 1)) (am_lf (194, .iaload, 1)))) (am_nd 198 (am_nd 196 (am_lf (195, .aload_n 0, 1)) (am_lf (196, .iload 4, 2))) (am_nd 199 (am_lf (198, .iconst 4, 1)) (am_lf (199, .iadd, 1)))))) (am_nd 210 (am_nd 205 (am_nd 202 (am_nd 201 (am_lf (200, .iaload, 1)) (am_lf (201, .aload_n 0, 1))) (am_nd 204 (am_lf (202, .iload 4, 2)) (am_lf (204, .iconst 5, 1)))) (am_nd 207 (am_nd 206 (am_lf (205, .iadd, 1)) (am_lf (206, .iaload, 1))) (am_nd 208 (am_lf (207, .aload_n 0, 1)) (am_lf (208, .iload 4, 2))))) (am_nd 215 (am_nd 213 (am_nd 212 (am_lf (210, .bipush 6, 2)) (am_lf (212, .iadd, 1))) (am_nd 214 (am_lf (213, .iaload, 1)) (am_lf (214, .aload_n 3, 1)))) (am_nd 220 (am_nd 218 (am_lf (215, .invokestatic 78, 3)) (am_lf (218, .istore 5, 2))) (am_nd 221 (am_lf (220, .aload_n 2, 1)) (am_lf (221, .aload_n 0, 1)))))))
def am_c0_3 : am_T am_E 5 := (am_nd 242 (am_nd 232 (am_nd 227 (am_nd 225 (am_nd 224 (am_lf (222, .iload 4, 2)) (am_lf (224, .iconst 1, 1))) (am_nd 226 (am_lf (225, .iadd, 1)) (am_lf (226, .iaload, 1)))) (am_nd 230 (am_nd 228 (am_lf (227, .aload_n 0, 1)) (am_lf (228, .iload 4, 2))) (am_nd 231 (am_lf (230, .iconst 2, 1)) (am_lf (231, .iadd, 1))))) (am_nd 237 (am_nd 234 (am_nd 233 (am_lf (232, .iaload, 1)) (am_lf (233, .aload_n 0, 1))) (am_nd 236 (am_lf (234, .iload 4, 2)) (am_lf (236, .iconst 3, 1)))) (am_nd 239 (am_nd 238 (am_lf (237, .iadd, 1)) (am_lf (238, .iaload, 1))) (am_nd 240 (am_lf (239, .aload_n 0, 1)) (am_lf (240, .iload 4, 2)))))) (am_nd 251 (am_nd 246 (am_nd 244 (am_nd 243 (am_lf (242, .iconst 4, 1)) (am_lf (243, .iadd, 1))) (am_nd 245 (am_lf (244, .iaload, 1)) (am_lf (245, .aload_n 0, 1)))) (am_nd 249 (am_nd 248 (am_lf (246, .iload 4, 2)) (am_lf (248, .iconst 5, 1))) (am_nd 250 (am_lf (249, .iadd, 1)) (am_lf (250, .iaload, 1))))) (am_nd 257 (am_nd 254 (am_nd 252 (am_lf (251, .aload_n 0, 1)) (am_lf (252, .iload 4, 2))) (am_nd 256 (am_lf (254, .bipush 6, 2)) (am_lf (256, .iadd, 1)))) (am_nd 261 (am_nd 258 (am_lf (257, .iaload, 1)) (am_lf (258, .invokevirtual 81, 3))) (am_nd 263 (am_lf (261, .istore 6, 2)) (am_lf (263, .aload_n 2, 1)))))))
def am_c0_4 : am_T am_E 5 := (am_nd 291 (am_nd 280 (am_nd 273 (am_nd 269 (am_nd 267 (am_lf (264, .invokevirtual 75, 3)) (am_lf (267, .iload 5, 2))) (am_nd 272 (am_lf (269, .if_icmp .eq 5, 3)) (am_lf (272, .iconst 0, 1)))) (am_nd 276 (am_nd 274 (am_lf (273, .ireturn, 1)) (am_lf (274, .iload 5, 2))) (am_nd 279 (am_lf (276, .ifCond .ne 15, 3)) (am_lf (279, .aload_n 3, 1))))) (am_nd 285 (am_nd 282 (am_nd 281 (am_lf (280, .iconst 0, 1)) (am_lf (281, .laload, 1))) (am_nd 284 (am_lf (282, .iload 6, 2)) (am_lf (284, .i2l, 1)))) (am_nd 289 (am_nd 286 (am_lf (285, .lcmp, 1)) (am_lf (286, .ifCond .eq 5, 3))) (am_nd 290 (am_lf (289, .iconst 0, 1)) (am_lf (290, .ireturn, 1)))))) (am_nd 302 (am_nd 298 (am_nd 295 (am_nd 294 (am_lf (291, .goto 817, 3)) (am_lf (294, .aload_n 1, 1))) (am_nd 296 (am_lf (295, .aload_n 0, 1)) (am_lf (296, .iload 4, 2)))) (am_nd 300 (am_nd 299 (am_lf (298, .iconst 1, 1)) (am_lf (299, .iadd, 1))) (am_nd 301 (am_lf (300, .iaload, 1)) (am_lf (301, .aload_n 0, 1))))) (am_nd 307 (am_nd 305 (am_nd 304 (am_lf (302, .iload 4, 2)) (am_lf (304, .iconst 2, 1))) (am_nd 306 (am_lf (305, .iadd, 1)) (am_lf (306, .iaload, 1)))) (am_nd 310 (am_nd 308 (am_lf (307, .aload_n 0, 1)) (am_lf (308, .iload 4, 2))) (am_nd 311 (am_lf (310, .iconst 3, 1)) (am_lf (311, .iadd, 1)))))))
def am_c0_5 : am_T am_E 5 := (am_nd 332 (am_nd 322 (am_nd 317 (am_nd 314 (am_nd 313 (am_lf (312, .iaload, 1)) (am_lf (313, .aload_n 0, 1))) (am_nd 316 (am_lf (314, .iload 4, 2)) (am_lf (316, .iconst 4, 1)))) (am_nd 319 (am_nd 318 (am_lf (317, .iadd, 1)) (am_lf (318, .iaload, 1))) (am_nd 320 (am_lf (319, .aload_n 0, 1)) (am_lf (320, .iload 4, 2))))) (am_nd 326 (am_nd 324 (am_nd 323 (am_lf (322, .iconst 5, 1)) (am_lf (323, .iadd, 1))) (am_nd 325 (am_lf (324, .iaload, 1)) (am_lf (325, .aload_n 0, 1)))) (am_nd 330 (am_nd 328 (am_lf (326, .iload 4, 2)) (am_lf (328, .bipush 6, 2))) (am_nd 331 (am_lf (330, .iadd, 1)) (am_lf (331, .iaload, 1)))))) (am_nd 344 (am_nd 339 (am_nd 337 (am_nd 335 (am_lf (332, .invokestatic 82, 3)) (am_lf (335, .istore 5, 2))) (am_nd 338 (am_lf (337, .aload_n 2, 1)) (am_lf (338, .aload_n 0, 1)))) (am_nd 342 (am_nd 341 (am_lf (339, .iload 4, 2)) (am_lf (341, .iconst 1, 1))) (am_nd 343 (am_lf (342, .iadd, 1)) (am_lf (343, .iaload, 1))))) (am_nd 349 (am_nd 347 (am_nd 345 (am_lf (344, .aload_n 0, 1)) (am_lf (345, .iload 4, 2))) (am_nd 348 (am_lf (347, .iconst 2, 1)) (am_lf (348, .iadd, 1)))) (am_nd 351 (am_nd 350 (am_lf (349, .iaload, 1)) (am_lf (350, .aload_n 0, 1))) (am_nd 353 (am_lf (351, .iload 4, 2)) (am_lf (353, .iconst 3, 1)))))))
def am_c0_6 : am_T am_E 5 := (am_nd 374 (am_nd 363 (am_nd 359 (am_nd 356 (am_nd 355 (am_lf (354, .iadd, 1)) (am_lf (355, .iaload, 1))) (am_nd 357 (am_lf (356, .aload_n 0, 1)) (am_lf (357, .iload 4, 2)))) (am_nd 361 (am_nd 360 (am_lf (359, .iconst 4, 1)) (am_lf (360, .iadd, 1))) (am_nd 362 (am_lf (361, .iaload, 1)) (am_lf (362, .aload_n 0, 1))))) (am_nd 368 (am_nd 366 (am_nd 365 (am_lf (363, .iload 4, 2)) (am_lf (365, .iconst 5, 1))) (am_nd 367 (am_lf (366, .iadd, 1)) (am_lf (367, .iaload, 1)))) (am_nd 371 (am_nd 369 (am_lf (368, .aload_n 0, 1)) (am_lf (369, .iload 4, 2))) (am_nd 373 (am_lf (371, .bipush 6, 2)) (am_lf (373, .iadd, 1)))))) (am_nd 389 (am_nd 382 (am_nd 378 (am_nd 375 (am_lf (374, .iaload, 1)) (am_lf (375, .invokevirtual 85, 3))) (am_nd 379 (am_lf (378, .aload_n 2, 1)) (am_lf (379, .invokevirtual 75, 3)))) (am_nd 387 (am_nd 384 (am_lf (382, .iload 5, 2)) (am_lf (384, .if_icmp .eq 5, 3))) (am_nd 388 (am_lf (387, .iconst 0, 1)) (am_lf (388, .ireturn, 1))))) (am_nd 396 (am_nd 393 (am_nd 392 (am_lf (389, .goto 719, 3)) (am_lf (392, .aload_n 1, 1))) (am_nd 394 (am_lf (393, .aload_n 0, 1)) (am_lf (394, .iload 4, 2)))) (am_nd 398 (am_nd 397 (am_lf (396, .iconst 1, 1)) (am_lf (397, .iadd, 1))) (am_nd 399 (am_lf (398, .iaload, 1)) (am_lf (399, .invokestatic 86, 3)))))))
def am_c0_7 : am_T am_E 5 := (am_nd 429 (am_nd 414 (am_nd 408 (am_nd 405 (am_nd 404 (am_lf (402, .istore 5, 2)) (am_lf (404, .aload_n 2, 1))) (am_nd 406 (am_lf (405, .aload_n 0, 1)) (am_lf (406, .iload 4, 2)))) (am_nd 410 (am_nd 409 (am_lf (408, .iconst 1, 1)) (am_lf (409, .iadd, 1))) (am_nd 411 (am_lf (410, .iaload, 1)) (am_lf (411, .invokevirtual 89, 3))))) (am_nd 423 (am_nd 418 (am_nd 415 (am_lf (414, .aload_n 2, 1)) (am_lf (415, .invokevirtual 75, 3))) (am_nd 420 (am_lf (418, .iload 5, 2)) (am_lf (420, .if_icmp .eq 5, 3)))) (am_nd 425 (am_nd 424 (am_lf (423, .iconst 0, 1)) (am_lf (424, .ireturn, 1))) (am_nd 428 (am_lf (425, .goto 683, 3)) (am_lf (428, .aload_n 1, 1)))))) (am_nd 441 (am_nd 434 (am_nd 432 (am_nd 430 (am_lf (429, .aload_n 0, 1)) (am_lf (430, .iload 4, 2))) (am_nd 433 (am_lf (432, .iconst 1, 1)) (am_lf (433, .iadd, 1)))) (am_nd 436 (am_nd 435 (am_lf (434, .iaload, 1)) (am_lf (435, .aload_n 3, 1))) (am_nd 439 (am_lf (436, .invokestatic 90, 3)) (am_lf (439, .istore 5, 2))))) (am_nd 446 (am_nd 443 (am_nd 442 (am_lf (441, .aload_n 2, 1)) (am_lf (442, .aload_n 0, 1))) (am_nd 445 (am_lf (443, .iload 4, 2)) (am_lf (445, .iconst 1, 1)))) (am_nd 448 (am_nd 447 (am_lf (446, .iadd, 1)) (am_lf (447, .iaload, 1))) (am_nd 451 (am_lf (448, .invokevirtual 92, 3)) (am_lf (451, .istore 6, 2)))))))
def am_c0_8 : am_T am_E 5 := (am_nd 480 (am_nd 469 (am_nd 462 (am_nd 457 (am_nd 454 (am_lf (453, .aload_n 2, 1)) (am_lf (454, .invokevirtual 75, 3))) (am_nd 459 (am_lf (457, .iload 5, 2)) (am_lf (459, .if_icmp .eq 5, 3)))) (am_nd 464 (am_nd 463 (am_lf (462, .iconst 0, 1)) (am_lf (463, .ireturn, 1))) (am_nd 466 (am_lf (464, .iload 5, 2)) (am_lf (466, .ifCond .ne 15, 3))))) (am_nd 474 (am_nd 471 (am_nd 470 (am_lf (469, .aload_n 3, 1)) (am_lf (470, .iconst 0, 1))) (am_nd 472 (am_lf (471, .laload, 1)) (am_lf (472, .iload 6, 2)))) (am_nd 476 (am_nd 475 (am_lf (474, .i2l, 1)) (am_lf (475, .lcmp, 1))) (am_nd 479 (am_lf (476, .ifCond .eq 5, 3)) (am_lf (479, .iconst 0, 1)))))) (am_nd 496 (am_nd 488 (am_nd 484 (am_nd 481 (am_lf (480, .ireturn, 1)) (am_lf (481, .goto 627, 3))) (am_nd 485 (am_lf (484, .aload_n 1, 1)) (am_lf (485, .invokevirtual 93, 3)))) (am_nd 492 (am_nd 489 (am_lf (488, .aload_n 2, 1)) (am_lf (489, .invokevirtual 96, 3))) (am_nd 495 (am_lf (492, .goto 616, 3)) (am_lf (495, .aload_n 1, 1))))) (am_nd 501 (am_nd 499 (am_nd 497 (am_lf (496, .aload_n 0, 1)) (am_lf (497, .iload 4, 2))) (am_nd 500 (am_lf (499, .iconst 1, 1)) (am_lf (500, .iadd, 1)))) (am_nd 503 (am_nd 502 (am_lf (501, .iaload, 1)) (am_lf (502, .aload_n 0, 1))) (am_nd 505 (am_lf (503, .iload 4, 2)) (am_lf (505, .iconst 2, 1)))))))
def am_c0_9 : am_T am_E 5 := (am_nd 527 (am_nd 515 (am_nd 511 (am_nd 508 (am_nd 507 (am_lf (506, .iadd, 1)) (am_lf (507, .iaload, 1))) (am_nd 509 (am_lf (508, .aload_n 0, 1)) (am_lf (509, .iload 4, 2)))) (am_nd 513 (am_nd 512 (am_lf (511, .iconst 3, 1)) (am_lf (512, .iadd, 1))) (am_nd 514 (am_lf (513, .iaload, 1)) (am_lf (514, .aload_n 0, 1))))) (am_nd 520 (am_nd 518 (am_nd 517 (am_lf (515, .iload 4, 2)) (am_lf (517, .iconst 4, 1))) (am_nd 519 (am_lf (518, .iadd, 1)) (am_lf (519, .iaload, 1)))) (am_nd 524 (am_nd 521 (am_lf (520, .aload_n 3, 1)) (am_lf (521, .invokestatic 97, 3))) (am_nd 526 (am_lf (524, .istore 5, 2)) (am_lf (526, .aload_n 2, 1)))))) (am_nd 537 (am_nd 532 (am_nd 530 (am_nd 528 (am_lf (527, .aload_n 0, 1)) (am_lf (528, .iload 4, 2))) (am_nd 531 (am_lf (530, .iconst 1, 1)) (am_lf (531, .iadd, 1)))) (am_nd 534 (am_nd 533 (am_lf (532, .iaload, 1)) (am_lf (533, .aload_n 0, 1))) (am_nd 536 (am_lf (534, .iload 4, 2)) (am_lf (536, .iconst 2, 1))))) (am_nd 542 (am_nd 539 (am_nd 538 (am_lf (537, .iadd, 1)) (am_lf (538, .iaload, 1))) (am_nd 540 (am_lf (539, .aload_n 0, 1)) (am_lf (540, .iload 4, 2)))) (am_nd 544 (am_nd 543 (am_lf (542, .iconst 3, 1)) (am_lf (543, .iadd, 1))) (am_nd 545 (am_lf (544, .iaload, 1)) (am_lf (545, .aload_n 0, 1)))))))
def am_c0_10 : am_T am_E 5 := (am_nd 574 (am_nd 560 (am_nd 551 (am_nd 549 (am_nd 548 (am_lf (546, .iload 4, 2)) (am_lf (548, .iconst 4, 1))) (am_nd 550 (am_lf (549, .iadd, 1)) (am_lf (550, .iaload, 1)))) (am_nd 556 (am_nd 554 (am_lf (551, .invokevirtual 100, 3)) (am_lf (554, .istore 6, 2))) (am_nd 557 (am_lf (556, .aload_n 2, 1)) (am_lf (557, .invokevirtual 75, 3))))) (am_nd 567 (am_nd 565 (am_nd 562 (am_lf (560, .iload 5, 2)) (am_lf (562, .if_icmp .eq 5, 3))) (am_nd 566 (am_lf (565, .iconst 0, 1)) (am_lf (566, .ireturn, 1)))) (am_nd 572 (am_nd 569 (am_lf (567, .iload 5, 2)) (am_lf (569, .ifCond .ne 15, 3))) (am_nd 573 (am_lf (572, .aload_n 3, 1)) (am_lf (573, .iconst 0, 1)))))) (am_nd 587 (am_nd 579 (am_nd 577 (am_nd 575 (am_lf (574, .laload, 1)) (am_lf (575, .iload 6, 2))) (am_nd 578 (am_lf (577, .i2l, 1)) (am_lf (578, .lcmp, 1)))) (am_nd 583 (am_nd 582 (am_lf (579, .ifCond .eq 5, 3)) (am_lf (582, .iconst 0, 1))) (am_nd 584 (am_lf (583, .ireturn, 1)) (am_lf (584, .goto 524, 3))))) (am_nd 592 (am_nd 589 (am_nd 588 (am_lf (587, .aload_n 1, 1)) (am_lf (588, .aload_n 0, 1))) (am_nd 591 (am_lf (589, .iload 4, 2)) (am_lf (591, .iconst 1, 1)))) (am_nd 594 (am_nd 593 (am_lf (592, .iadd, 1)) (am_lf (593, .iaload, 1))) (am_nd 595 (am_lf (594, .aload_n 0, 1)) (am_lf (595, .iload 4, 2)))))))
def am_c0_11 : am_T am_E 5 := (am_nd 618 (am_nd 606 (am_nd 601 (am_nd 599 (am_nd 598 (am_lf (597, .iconst 2, 1)) (am_lf (598, .iadd, 1))) (am_nd 600 (am_lf (599, .iaload, 1)) (am_lf (600, .aload_n 0, 1)))) (am_nd 604 (am_nd 603 (am_lf (601, .iload 4, 2)) (am_lf (603, .iconst 3, 1))) (am_nd 605 (am_lf (604, .iadd, 1)) (am_lf (605, .iaload, 1))))) (am_nd 613 (am_nd 610 (am_nd 607 (am_lf (606, .aload_n 3, 1)) (am_lf (607, .invokestatic 101, 3))) (am_nd 612 (am_lf (610, .istore 5, 2)) (am_lf (612, .aload_n 2, 1)))) (am_nd 616 (am_nd 614 (am_lf (613, .aload_n 0, 1)) (am_lf (614, .iload 4, 2))) (am_nd 617 (am_lf (616, .iconst 1, 1)) (am_lf (617, .iadd, 1)))))) (am_nd 628 (am_nd 623 (am_nd 620 (am_nd 619 (am_lf (618, .iaload, 1)) (am_lf (619, .aload_n 0, 1))) (am_nd 622 (am_lf (620, .iload 4, 2)) (am_lf (622, .iconst 2, 1)))) (am_nd 625 (am_nd 624 (am_lf (623, .iadd, 1)) (am_lf (624, .iaload, 1))) (am_nd 626 (am_lf (625, .aload_n 0, 1)) (am_lf (626, .iload 4, 2))))) (am_nd 634 (am_nd 630 (am_nd 629 (am_lf (628, .iconst 3, 1)) (am_lf (629, .iadd, 1))) (am_nd 631 (am_lf (630, .iaload, 1)) (am_lf (631, .invokevirtual 104, 3)))) (am_nd 637 (am_nd 636 (am_lf (634, .istore 6, 2)) (am_lf (636, .aload_n 2, 1))) (am_nd 640 (am_lf (637, .invokevirtual 75, 3)) (am_lf (640, .iload 5, 2)))))))
def am_c0_12 : am_T am_E 5 := (am_nd 668 (am_nd 655 (am_nd 649 (am_nd 646 (am_nd 645 (am_lf (642, .if_icmp .eq 5, 3)) (am_lf (645, .iconst 0, 1))) (am_nd 647 (am_lf (646, .ireturn, 1)) (am_lf (647, .iload 5, 2)))) (am_nd 653 (am_nd 652 (am_lf (649, .ifCond .ne 15, 3)) (am_lf (652, .aload_n 3, 1))) (am_nd 654 (am_lf (653, .iconst 0, 1)) (am_lf (654, .laload, 1))))) (am_nd 662 (am_nd 658 (am_nd 657 (am_lf (655, .iload 6, 2)) (am_lf (657, .i2l, 1))) (am_nd 659 (am_lf (658, .lcmp, 1)) (am_lf (659, .ifCond .eq 5, 3)))) (am_nd 664 (am_nd 663 (am_lf (662, .iconst 0, 1)) (am_lf (663, .ireturn, 1))) (am_nd 667 (am_lf (664, .goto 444, 3)) (am_lf (667, .aload_n 1, 1)))))) (am_nd 684 (am_nd 675 (am_nd 672 (am_nd 669 (am_lf (668, .aload_n 3, 1)) (am_lf (669, .invokestatic 105, 3))) (am_nd 674 (am_lf (672, .istore 5, 2)) (am_lf (674, .aload_n 2, 1)))) (am_nd 680 (am_nd 678 (am_lf (675, .invokevirtual 108, 3)) (am_lf (678, .istore 6, 2))) (am_nd 681 (am_lf (680, .aload_n 2, 1)) (am_lf (681, .invokevirtual 75, 3))))) (am_nd 691 (am_nd 689 (am_nd 686 (am_lf (684, .iload 5, 2)) (am_lf (686, .if_icmp .eq 5, 3))) (am_nd 690 (am_lf (689, .iconst 0, 1)) (am_lf (690, .ireturn, 1)))) (am_nd 696 (am_nd 693 (am_lf (691, .iload 5, 2)) (am_lf (693, .ifCond .ne 15, 3))) (am_nd 697 (am_lf (696, .aload_n 3, 1)) (am_lf (697, .iconst 0, 1)))))))
def am_c0_13 : am_T am_E 5 := (am_nd 722 (am_nd 711 (am_nd 703 (am_nd 701 (am_nd 699 (am_lf (698, .laload, 1)) (am_lf (699, .iload 6, 2))) (am_nd 702 (am_lf (701, .i2l, 1)) (am_lf (702, .lcmp, 1)))) (am_nd 707 (am_nd 706 (am_lf (703, .ifCond .eq 5, 3)) (am_lf (706, .iconst 0, 1))) (am_nd 708 (am_lf (707, .ireturn, 1)) (am_lf (708, .goto 400, 3))))) (am_nd 716 (am_nd 713 (am_nd 712 (am_lf (711, .aload_n 1, 1)) (am_lf (712, .aload_n 0, 1))) (am_nd 715 (am_lf (713, .iload 4, 2)) (am_lf (715, .iconst 1, 1)))) (am_nd 718 (am_nd 717 (am_lf (716, .iadd, 1)) (am_lf (717, .iaload, 1))) (am_nd 719 (am_lf (718, .aload_n 3, 1)) (am_lf (719, .invokestatic 109, 3)))))) (am_nd 734 (am_nd 728 (am_nd 725 (am_nd 724 (am_lf (722, .istore 5, 2)) (am_lf (724, .aload_n 2, 1))) (am_nd 726 (am_lf (725, .aload_n 0, 1)) (am_lf (726, .iload 4, 2)))) (am_nd 730 (am_nd 729 (am_lf (728, .iconst 1, 1)) (am_lf (729, .iadd, 1))) (am_nd 731 (am_lf (730, .iaload, 1)) (am_lf (731, .invokevirtual 111, 3))))) (am_nd 742 (am_nd 737 (am_nd 736 (am_lf (734, .istore 6, 2)) (am_lf (736, .aload_n 2, 1))) (am_nd 740 (am_lf (737, .invokevirtual 75, 3)) (am_lf (740, .iload 5, 2)))) (am_nd 746 (am_nd 745 (am_lf (742, .if_icmp .eq 5, 3)) (am_lf (745, .iconst 0, 1))) (am_nd 747 (am_lf (746, .ireturn, 1)) (am_lf (747, .iload 5, 2)))))))
def am_c0_14 : am_T am_E 5 := (am_nd 773 (am_nd 762 (am_nd 755 (am_nd 753 (am_nd 752 (am_lf (749, .ifCond .ne 15, 3)) (am_lf (752, .aload_n 3, 1))) (am_nd 754 (am_lf (753, .iconst 0, 1)) (am_lf (754, .laload, 1)))) (am_nd 758 (am_nd 757 (am_lf (755, .iload 6, 2)) (am_lf (757, .i2l, 1))) (am_nd 759 (am_lf (758, .lcmp, 1)) (am_lf (759, .ifCond .eq 5, 3))))) (am_nd 768 (am_nd 764 (am_nd 763 (am_lf (762, .iconst 0, 1)) (am_lf (763, .ireturn, 1))) (am_nd 767 (am_lf (764, .goto 344, 3)) (am_lf (767, .aload_n 1, 1)))) (am_nd 771 (am_nd 769 (am_lf (768, .aload_n 0, 1)) (am_lf (769, .iload 4, 2))) (am_nd 772 (am_lf (771, .iconst 1, 1)) (am_lf (772, .iadd, 1)))))) (am_nd 783 (am_nd 778 (am_nd 775 (am_nd 774 (am_lf (773, .iaload, 1)) (am_lf (774, .aload_n 0, 1))) (am_nd 777 (am_lf (775, .iload 4, 2)) (am_lf (777, .iconst 2, 1)))) (am_nd 780 (am_nd 779 (am_lf (778, .iadd, 1)) (am_lf (779, .iaload, 1))) (am_nd 781 (am_lf (780, .aload_n 0, 1)) (am_lf (781, .iload 4, 2))))) (am_nd 787 (am_nd 785 (am_nd 784 (am_lf (783, .iconst 3, 1)) (am_lf (784, .iadd, 1))) (am_nd 786 (am_lf (785, .iaload, 1)) (am_lf (786, .aload_n 0, 1)))) (am_nd 790 (am_nd 789 (am_lf (787, .iload 4, 2)) (am_lf (789, .iconst 4, 1))) (am_nd 791 (am_lf (790, .iadd, 1)) (am_lf (791, .iaload, 1)))))))
def am_c0_15 : am_T am_E 5 := (am_nd 814 (am_nd 804 (am_nd 799 (am_nd 796 (am_nd 793 (am_lf (792, .aload_n 3, 1)) (am_lf (793, .invokestatic 112, 3))) (am_nd 798 (am_lf (796, .istore 5, 2)) (am_lf (798, .aload_n 2, 1)))) (am_nd 802 (am_nd 800 (am_lf (799, .aload_n 0, 1)) (am_lf (800, .iload 4, 2))) (am_nd 803 (am_lf (802, .iconst 1, 1)) (am_lf (803, .iadd, 1))))) (am_nd 809 (am_nd 806 (am_nd 805 (am_lf (804, .iaload, 1)) (am_lf (805, .aload_n 0, 1))) (am_nd 808 (am_lf (806, .iload 4, 2)) (am_lf (808, .iconst 2, 1)))) (am_nd 811 (am_nd 810 (am_lf (809, .iadd, 1)) (am_lf (810, .iaload, 1))) (am_nd 812 (am_lf (811, .aload_n 0, 1)) (am_lf (812, .iload 4, 2)))))) (am_nd 823 (am_nd 818 (am_nd 816 (am_nd 815 (am_lf (814, .iconst 3, 1)) (am_lf (815, .iadd, 1))) (am_nd 817 (am_lf (816, .iaload, 1)) (am_lf (817, .aload_n 0, 1)))) (am_nd 821 (am_nd 820 (am_lf (818, .iload 4, 2)) (am_lf (820, .iconst 4, 1))) (am_nd 822 (am_lf (821, .iadd, 1)) (am_lf (822, .iaload, 1))))) (am_nd 832 (am_nd 828 (am_nd 826 (am_lf (823, .invokevirtual 114, 3)) (am_lf (826, .istore 6, 2))) (am_nd 829 (am_lf (828, .aload_n 2, 1)) (am_lf (829, .invokevirtual 75, 3)))) (am_nd 837 (am_nd 834 (am_lf (832, .iload 5, 2)) (am_lf (834, .if_icmp .eq 5, 3))) (am_nd 838 (am_lf (837, .iconst 0, 1)) (am_lf (838, .ireturn, 1)))))))
def am_c0_16 : am_T am_E 5 := (am_nd 867 (am_nd 853 (am_nd 846 (am_nd 844 (am_nd 841 (am_lf (839, .iload 5, 2)) (am_lf (841, .ifCond .ne 22, 3))) (am_nd 845 (am_lf (844, .aload_n 3, 1)) (am_lf (845, .iconst 0, 1)))) (am_nd 849 (am_nd 847 (am_lf (846, .laload, 1)) (am_lf (847, .iload 6, 2))) (am_nd 852 (am_lf (849, .ifCond .eq 7, 3)) (am_lf (852, .lconst 1, 1))))) (am_nd 861 (am_nd 857 (am_nd 856 (am_lf (853, .goto 4, 3)) (am_lf (856, .lconst 0, 1))) (am_nd 858 (am_lf (857, .lcmp, 1)) (am_lf (858, .ifCond .eq 5, 3)))) (am_nd 863 (am_nd 862 (am_lf (861, .iconst 0, 1)) (am_lf (862, .ireturn, 1))) (am_nd 866 (am_lf (863, .goto 245, 3)) (am_lf (866, .aload_n 1, 1)))))) (am_nd 877 (am_nd 872 (am_nd 870 (am_nd 868 (am_lf (867, .aload_n 0, 1)) (am_lf (868, .iload 4, 2))) (am_nd 871 (am_lf (870, .iconst 1, 1)) (am_lf (871, .iadd, 1)))) (am_nd 874 (am_nd 873 (am_lf (872, .iaload, 1)) (am_lf (873, .aload_n 0, 1))) (am_nd 876 (am_lf (874, .iload 4, 2)) (am_lf (876, .iconst 2, 1))))) (am_nd 883 (am_nd 879 (am_nd 878 (am_lf (877, .iadd, 1)) (am_lf (878, .iaload, 1))) (am_nd 880 (am_lf (879, .aload_n 3, 1)) (am_lf (880, .invokestatic 115, 3)))) (am_nd 886 (am_nd 885 (am_lf (883, .istore 5, 2)) (am_lf (885, .aload_n 2, 1))) (am_nd 887 (am_lf (886, .aload_n 0, 1)) (am_lf (887, .iload 4, 2)))))))
def am_c0_17 : am_T am_E 5 := (am_nd 914 (am_nd 898 (am_nd 893 (am_nd 891 (am_nd 890 (am_lf (889, .iconst 1, 1)) (am_lf (890, .iadd, 1))) (am_nd 892 (am_lf (891, .iaload, 1)) (am_lf (892, .aload_n 0, 1)))) (am_nd 896 (am_nd 895 (am_lf (893, .iload 4, 2)) (am_lf (895, .iconst 2, 1))) (am_nd 897 (am_lf (896, .iadd, 1)) (am_lf (897, .iaload, 1))))) (am_nd 907 (am_nd 903 (am_nd 901 (am_lf (898, .invokevirtual 118, 3)) (am_lf (901, .istore 6, 2))) (am_nd 904 (am_lf (903, .aload_n 2, 1)) (am_lf (904, .invokevirtual 75, 3)))) (am_nd 912 (am_nd 909 (am_lf (907, .iload 5, 2)) (am_lf (909, .if_icmp .eq 5, 3))) (am_nd 913 (am_lf (912, .iconst 0, 1)) (am_lf (913, .ireturn, 1)))))) (am_nd 926 (am_nd 921 (am_nd 919 (am_nd 916 (am_lf (914, .iload 5, 2)) (am_lf (916, .ifCond .ne 15, 3))) (am_nd 920 (am_lf (919, .aload_n 3, 1)) (am_lf (920, .iconst 0, 1)))) (am_nd 924 (am_nd 922 (am_lf (921, .laload, 1)) (am_lf (922, .iload 6, 2))) (am_nd 925 (am_lf (924, .i2l, 1)) (am_lf (925, .lcmp, 1))))) (am_nd 934 (am_nd 930 (am_nd 929 (am_lf (926, .ifCond .eq 5, 3)) (am_lf (929, .iconst 0, 1))) (am_nd 931 (am_lf (930, .ireturn, 1)) (am_lf (931, .goto 177, 3)))) (am_nd 936 (am_nd 935 (am_lf (934, .aload_n 1, 1)) (am_lf (935, .aload_n 0, 1))) (am_nd 938 (am_lf (936, .iload 4, 2)) (am_lf (938, .iconst 1, 1)))))))
def am_c0_18 : am_T am_E 5 := (am_nd 958 (am_nd 948 (am_nd 944 (am_nd 941 (am_nd 940 (am_lf (939, .iadd, 1)) (am_lf (940, .iaload, 1))) (am_nd 942 (am_lf (941, .aload_n 0, 1)) (am_lf (942, .iload 4, 2)))) (am_nd 946 (am_nd 945 (am_lf (944, .iconst 2, 1)) (am_lf (945, .iadd, 1))) (am_nd 947 (am_lf (946, .iaload, 1)) (am_lf (947, .aload_n 0, 1))))) (am_nd 953 (am_nd 951 (am_nd 950 (am_lf (948, .iload 4, 2)) (am_lf (950, .iconst 3, 1))) (am_nd 952 (am_lf (951, .iadd, 1)) (am_lf (952, .iaload, 1)))) (am_nd 956 (am_nd 954 (am_lf (953, .aload_n 0, 1)) (am_lf (954, .iload 4, 2))) (am_nd 957 (am_lf (956, .iconst 4, 1)) (am_lf (957, .iadd, 1)))))) (am_nd 970 (am_nd 965 (am_nd 960 (am_nd 959 (am_lf (958, .iaload, 1)) (am_lf (959, .aload_n 3, 1))) (am_nd 963 (am_lf (960, .invokestatic 119, 3)) (am_lf (963, .istore 5, 2)))) (am_nd 967 (am_nd 966 (am_lf (965, .aload_n 2, 1)) (am_lf (966, .aload_n 0, 1))) (am_nd 969 (am_lf (967, .iload 4, 2)) (am_lf (969, .iconst 1, 1))))) (am_nd 975 (am_nd 972 (am_nd 971 (am_lf (970, .iadd, 1)) (am_lf (971, .iaload, 1))) (am_nd 973 (am_lf (972, .aload_n 0, 1)) (am_lf (973, .iload 4, 2)))) (am_nd 977 (am_nd 976 (am_lf (975, .iconst 2, 1)) (am_lf (976, .iadd, 1))) (am_nd 978 (am_lf (977, .iaload, 1)) (am_lf (978, .aload_n 0, 1)))))))
def am_c0_19 : am_T am_E 5 := (am_nd 1005 (am_nd 989 (am_nd 984 (am_nd 982 (am_nd 981 (am_lf (979, .iload 4, 2)) (am_lf (981, .iconst 3, 1))) (am_nd 983 (am_lf (982, .iadd, 1)) (am_lf (983, .iaload, 1)))) (am_nd 987 (am_nd 985 (am_lf (984, .aload_n 0, 1)) (am_lf (985, .iload 4, 2))) (am_nd 988 (am_lf (987, .iconst 4, 1)) (am_lf (988, .iadd, 1))))) (am_nd 996 (am_nd 993 (am_nd 990 (am_lf (989, .iaload, 1)) (am_lf (990, .invokevirtual 121, 3))) (am_nd 995 (am_lf (993, .istore 6, 2)) (am_lf (995, .aload_n 2, 1)))) (am_nd 1001 (am_nd 999 (am_lf (996, .invokevirtual 75, 3)) (am_lf (999, .iload 5, 2))) (am_nd 1004 (am_lf (1001, .if_icmp .eq 5, 3)) (am_lf (1004, .iconst 0, 1)))))) (am_nd 1017 (am_nd 1012 (am_nd 1008 (am_nd 1006 (am_lf (1005, .ireturn, 1)) (am_lf (1006, .iload 5, 2))) (am_nd 1011 (am_lf (1008, .ifCond .ne 15, 3)) (am_lf (1011, .aload_n 3, 1)))) (am_nd 1014 (am_nd 1013 (am_lf (1012, .iconst 0, 1)) (am_lf (1013, .laload, 1))) (am_nd 1016 (am_lf (1014, .iload 6, 2)) (am_lf (1016, .i2l, 1))))) (am_nd 1023 (am_nd 1021 (am_nd 1018 (am_lf (1017, .lcmp, 1)) (am_lf (1018, .ifCond .eq 5, 3))) (am_nd 1022 (am_lf (1021, .iconst 0, 1)) (am_lf (1022, .ireturn, 1)))) (am_nd 1027 (am_nd 1026 (am_lf (1023, .goto 85, 3)) (am_lf (1026, .aload_n 1, 1))) (am_nd 1030 (am_lf (1027, .invokevirtual 122, 3)) (am_lf (1030, .aload_n 2, 1)))))))
def am_c0_20 : am_T am_E 5 := (am_nd 1056 (am_nd 1044 (am_nd 1039 (am_nd 1037 (am_nd 1034 (am_lf (1031, .invokevirtual 125, 3)) (am_lf (1034, .if_icmp .eq 74, 3))) (am_nd 1038 (am_lf (1037, .iconst 0, 1)) (am_lf (1038, .ireturn, 1)))) (am_nd 1041 (am_nd 1040 (am_lf (1039, .aload_n 1, 1)) (am_lf (1040, .aload_n 0, 1))) (am_nd 1043 (am_lf (1041, .iload 4, 2)) (am_lf (1043, .iconst 1, 1))))) (am_nd 1050 (am_nd 1046 (am_nd 1045 (am_lf (1044, .iadd, 1)) (am_lf (1045, .iaload, 1))) (am_nd 1047 (am_lf (1046, .aload_n 3, 1)) (am_lf (1047, .invokestatic 126, 3)))) (am_nd 1053 (am_nd 1052 (am_lf (1050, .istore 5, 2)) (am_lf (1052, .aload_n 2, 1))) (am_nd 1054 (am_lf (1053, .aload_n 0, 1)) (am_lf (1054, .iload 4, 2)))))) (am_nd 1070 (am_nd 1062 (am_nd 1058 (am_nd 1057 (am_lf (1056, .iconst 1, 1)) (am_lf (1057, .iadd, 1))) (am_nd 1059 (am_lf (1058, .iaload, 1)) (am_lf (1059, .invokevirtual 128, 3)))) (am_nd 1065 (am_nd 1064 (am_lf (1062, .istore 6, 2)) (am_lf (1064, .aload_n 2, 1))) (am_nd 1068 (am_lf (1065, .invokevirtual 75, 3)) (am_lf (1068, .iload 5, 2))))) (am_nd 1077 (am_nd 1074 (am_nd 1073 (am_lf (1070, .if_icmp .eq 5, 3)) (am_lf (1073, .iconst 0, 1))) (am_nd 1075 (am_lf (1074, .ireturn, 1)) (am_lf (1075, .iload 5, 2)))) (am_nd 1081 (am_nd 1080 (am_lf (1077, .ifCond .ne 15, 3)) (am_lf (1080, .aload_n 3, 1))) (am_nd 1082 (am_lf (1081, .iconst 0, 1)) (am_lf (1082, .laload, 1)))))))
def am_c0_21 : am_T am_E 5 := (am_nd 1114 (am_nd 1096 (am_nd 1090 (am_nd 1086 (am_nd 1085 (am_lf (1083, .iload 6, 2)) (am_lf (1085, .i2l, 1))) (am_nd 1087 (am_lf (1086, .lcmp, 1)) (am_lf (1087, .ifCond .eq 5, 3)))) (am_nd 1092 (am_nd 1091 (am_lf (1090, .iconst 0, 1)) (am_lf (1091, .ireturn, 1))) (am_nd 1095 (am_lf (1092, .goto 16, 3)) (am_lf (1095, .aload_n 1, 1))))) (am_nd 1106 (am_nd 1100 (am_nd 1099 (am_lf (1096, .invokevirtual 129, 3)) (am_lf (1099, .aload_n 2, 1))) (am_nd 1103 (am_lf (1100, .invokevirtual 132, 3)) (am_lf (1103, .if_icmp .eq 5, 3)))) (am_nd 1108 (am_nd 1107 (am_lf (1106, .iconst 0, 1)) (am_lf (1107, .ireturn, 1))) (am_nd 1111 (am_lf (1108, .iinc 4 7, 3)) (am_lf (1111, .goto (-1088), 3)))))) (am_nd 1000000 (am_nd 1000000 (am_nd 1000000 (am_nd 1115 (am_lf (1114, .iconst 1, 1)) (am_lf (1115, .ireturn, 1))) (am_nd 1000000 (am_lf (1115, .ireturn, 1)) (am_lf (1115, .ireturn, 1)))) (am_nd 1000000 (am_nd 1000000 (am_lf (1115, .ireturn, 1)) (am_lf (1115, .ireturn, 1))) (am_nd 1000000 (am_lf (1115, .ireturn, 1)) (am_lf (1115, .ireturn, 1))))) (am_nd 1000000 (am_nd 1000000 (am_nd 1000000 (am_lf (1115, .ireturn, 1)) (am_lf (1115, .ireturn, 1))) (am_nd 1000000 (am_lf (1115, .ireturn, 1)) (am_lf (1115, .ireturn, 1)))) (am_nd 1000000 (am_nd 1000000 (am_lf (1115, .ireturn, 1)) (am_lf (1115, .ireturn, 1))) (am_nd 1000000 (am_lf (1115, .ireturn, 1)) (am_lf (1115, .ireturn, 1)))))))
def am_c0_22 : am_T am_E 5 := (am_nd 1000000 (am_nd 1000000 (am_nd 1000000 (am_nd 1000000 (am_nd 1000000 (am_lf (1115, .ireturn, 1)) (am_lf (1115, .ireturn, 1))) (am_nd 1000000 (am_lf (1115, .ireturn, 1)) (am_lf (1115, .ireturn, 1)))) (am_nd 1000000 (am_nd 1000000 (am_lf (1115, .ireturn, 1)) (am_lf (1115, .ireturn, 1))) (am_nd 1000000 (am_lf (1115, .ireturn, 1)) (am_lf (1115, .ireturn, 1))))) (am_nd 1000000 (am_nd 1000000 (am_nd 1000000 (am_lf (1115, .ireturn, 1)) (am_lf (1115, .ireturn, 1))) (am_nd 1000000 (am_lf (1115, .ireturn, 1)) (am_lf (1115, .ireturn, 1)))) (am_nd 1000000 (am_nd 1000000 (am_lf (1115, .ireturn, 1)) (am_lf (1115, .ireturn, 1))) (am_nd 1000000 (am_lf (1115, .ireturn, 1)) (am_lf (1115, .ireturn, 1)))))) (am_nd 1000000 (am_nd 1000000 (am_nd 1000000 (am_nd 1000000 (am_lf (1115, .ireturn, 1)) (am_lf (1115, .ireturn, 1))) (am_nd 1000000 (am_lf (1115, .ireturn, 1)) (am_lf (1115, .ireturn, 1)))) (am_nd 1000000 (am_nd 1000000 (am_lf (1115, .ireturn, 1)) (am_lf (1115, .ireturn, 1))) (am_nd 1000000 (am_lf (1115, .ireturn, 1)) (am_lf (1115, .ireturn, 1))))) (am_nd 1000000 (am_nd 1000000 (am_nd 1000000 (am_lf (1115, .ireturn, 1)) (am_lf (1115, .ireturn, 1))) (am_nd 1000000 (am_lf (1115, .ireturn, 1)) (am_lf (1115, .ireturn, 1)))) (am_nd 1000000 (am_nd 1000000 (am_lf (1115, .ireturn, 1)) (am_lf (1115, .ireturn, 1))) (am_nd 1000000 (am_lf (1115, .ireturn, 1)) (am_lf (1115, .ireturn, 1)))))))
def am_c0_23 : am_T am_E 5 := (am_nd 1000000 (am_nd 1000000 (am_nd 1000000 (am_nd 1000000 (am_nd 1000000 (am_lf (1115, .ireturn, 1)) (am_lf (1115, .ireturn, 1))) (am_nd 1000000 (am_lf (1115, .ireturn, 1)) (am_lf (1115, .ireturn, 1)))) (am_nd 1000000 (am_nd 1000000 (am_lf (1115, .ireturn, 1)) (am_lf (1115, .ireturn, 1))) (am_nd 1000000 (am_lf (1115, .ireturn, 1)) (am_lf (1115, .ireturn, 1))))) (am_nd 1000000 (am_nd 1000000 (am_nd 1000000 (am_lf (1115, .ireturn, 1)) (am_lf (1115, .ireturn, 1))) (am_nd 1000000 (am_lf (1115, .ireturn, 1)) (am_lf (1115, .ireturn, 1)))) (am_nd 1000000 (am_nd 1000000 (am_lf (1115, .ireturn, 1)) (am_lf (1115, .ireturn, 1))) (am_nd 1000000 (am_lf (1115, .ireturn, 1)) (am_lf (1115, .ireturn, 1)))))) (am_nd 1000000 (am_nd 1000000 (am_nd 1000000 (am_nd 1000000 (am_lf (1115, .ireturn, 1)) (am_lf (1115, .ireturn, 1))) (am_nd 1000000 (am_lf (1115, .ireturn, 1)) (am_lf (1115, .ireturn, 1)))) (am_nd 1000000 (am_nd 1000000 (am_lf (1115, .ireturn, 1)) (am_lf (1115, .ireturn, 1))) (am_nd 1000000 (am_lf (1115, .ireturn, 1)) (am_lf (1115, .ireturn, 1))))) (am_nd 1000000 (am_nd 1000000 (am_nd 1000000 (am_lf (1115, .ireturn, 1)) (am_lf (1115, .ireturn, 1))) (am_nd 1000000 (am_lf (1115, .ireturn, 1)) (am_lf (1115, .ireturn, 1)))) (am_nd 1000000 (am_nd 1000000 (am_lf (1115, .ireturn, 1)) (am_lf (1115, .ireturn, 1))) (am_nd 1000000 (am_lf (1115, .ireturn, 1)) (am_lf (1115, .ireturn, 1)))))))
def am_c0_24 : am_T am_E 5 := (am_nd 1000000 (am_nd 1000000 (am_nd 1000000 (am_nd 1000000 (am_nd 1000000 (am_lf (1115, .ireturn, 1)) (am_lf (1115, .ireturn, 1))) (am_nd 1000000 (am_lf (1115, .ireturn, 1)) (am_lf (1115, .ireturn, 1)))) (am_nd 1000000 (am_nd 1000000 (am_lf (1115, .ireturn, 1)) (am_lf (1115, .ireturn, 1))) (am_nd 1000000 (am_lf (1115, .ireturn, 1)) (am_lf (1115, .ireturn, 1))))) (am_nd 1000000 (am_nd 1000000 (am_nd 1000000 (am_lf (1115, .ireturn, 1)) (am_lf (1115, .ireturn, 1))) (am_nd 1000000 (am_lf (1115, .ireturn, 1)) (am_lf (1115, .ireturn, 1)))) (am_nd 1000000 (am_nd 1000000 (am_lf (1115, .ireturn, 1)) (am_lf (1115, .ireturn, 1))) (am_nd 1000000 (am_lf (1115, .ireturn, 1)) (am_lf (1115, .ireturn, 1)))))) (am_nd 1000000 (am_nd 1000000 (am_nd 1000000 (am_nd 1000000 (am_lf (1115, .ireturn, 1)) (am_lf (1115, .ireturn, 1))) (am_nd 1000000 (am_lf (1115, .ireturn, 1)) (am_lf (1115, .ireturn, 1)))) (am_nd 1000000 (am_nd 1000000 (am_lf (1115, .ireturn, 1)) (am_lf (1115, .ireturn, 1))) (am_nd 1000000 (am_lf (1115, .ireturn, 1)) (am_lf (1115, .ireturn, 1))))) (am_nd 1000000 (am_nd 1000000 (am_nd 1000000 (am_lf (1115, .ireturn, 1)) (am_lf (1115, .ireturn, 1))) (am_nd 1000000 (am_lf (1115, .ireturn, 1)) (am_lf (1115, .ireturn, 1)))) (am_nd 1000000 (am_nd 1000000 (am_lf (1115, .ireturn, 1)) (am_lf (1115, .ireturn, 1))) (am_nd 1000000 (am_lf (1115, .ireturn, 1)) (am_lf (1115, .ireturn, 1)))))))
def am_c0_25 : am_T am_E 5 := (am_nd 1000000 (am_nd 1000000 (am_nd 1000000 (am_nd 1000000 (am_nd 1000000 (am_lf (1115, .ireturn, 1)) (am_lf (1115, .ireturn, 1))) (am_nd 1000000 (am_lf (1115, .ireturn, 1)) (am_lf (1115, .ireturn, 1)))) (am_nd 1000000 (am_nd 1000000 (am_lf (1115, .ireturn, 1)) (am_lf (1115, .ireturn, 1))) (am_nd 1000000 (am_lf (1115, .ireturn, 1)) (am_lf (1115, .ireturn, 1))))) (am_nd 1000000 (am_nd 1000000 (am_nd 1000000 (am_lf (1115, .ireturn, 1)) (am_lf (1115, .ireturn, 1))) (am_nd 1000000 (am_lf (1115, .ireturn, 1)) (am_lf (1115, .ireturn, 1)))) (am_nd 1000000 (am_nd 1000000 (am_lf (1115, .ireturn, 1)) (am_lf (1115, .ireturn, 1))) (am_nd 1000000 (am_lf (1115, .ireturn, 1)) (am_lf (1115, .ireturn, 1)))))) (am_nd 1000000 (am_nd 1000000 (am_nd 1000000 (am_nd 1000000 (am_lf (1115, .ireturn, 1)) (am_lf (1115, .ireturn, 1))) (am_nd 1000000 (am_lf (1115, .ireturn, 1)) (am_lf (1115, .ireturn, 1)))) (am_nd 1000000 (am_nd 1000000 (am_lf (1115, .ireturn, 1)) (am_lf (1115, .ireturn, 1))) (am_nd 1000000 (am_lf (1115, .ireturn, 1)) (am_lf (1115, .ireturn, 1))))) (am_nd 1000000 (am_nd 1000000 (am_nd 1000000 (am_lf (1115, .ireturn, 1)) (am_lf (1115, .ireturn, 1))) (am_nd 1000000 (am_lf (1115, .ireturn, 1)) (am_lf (1115, .ireturn, 1)))) (am_nd 1000000 (am_nd 1000000 (am_lf (1115, .ireturn, 1)) (am_lf (1115, .ireturn, 1))) (am_nd 1000000 (am_lf (1115, .ireturn, 1)) (am_lf (1115, .ireturn, 1)))))))
def am_c0_26 : am_T am_E 5 := (am_nd 1000000 (am_nd 1000000 (am_nd 1000000 (am_nd 1000000 (am_nd 1000000 (am_lf (1115, .ireturn, 1)) (am_lf (1115, .ireturn, 1))) (am_nd 1000000 (am_lf (1115, .ireturn, 1)) (am_lf (1115, .ireturn, 1)))) (am_nd 1000000 (am_nd 1000000 (am_lf (1115, .ireturn, 1)) (am_lf (1115, .ireturn, 1))) (am_nd 1000000 (am_lf (1115, .ireturn, 1)) (am_lf (1115, .ireturn, 1))))) (am_nd 1000000 (am_nd 1000000 (am_nd 1000000 (am_lf (1115, .ireturn, 1)) (am_lf (1115, .ireturn, 1))) (am_nd 1000000 (am_lf (1115, .ireturn, 1)) (am_lf (1115, .ireturn, 1)))) (am_nd 1000000 (am_nd 1000000 (am_lf (1115, .ireturn, 1)) (am_lf (1115, .ireturn, 1))) (am_nd 1000000 (am_lf (1115, .ireturn, 1)) (am_lf (1115, .ireturn, 1)))))) (am_nd 1000000 (am_nd 1000000 (am_nd 1000000 (am_nd 1000000 (am_lf (1115, .ireturn, 1)) (am_lf (1115, .ireturn, 1))) (am_nd 1000000 (am_lf (1115, .ireturn, 1)) (am_lf (1115, .ireturn, 1)))) (am_nd 1000000 (am_nd 1000000 (am_lf (1115, .ireturn, 1)) (am_lf (1115, .ireturn, 1))) (am_nd 1000000 (am_lf (1115, .ireturn, 1)) (am_lf (1115, .ireturn, 1))))) (am_nd 1000000 (am_nd 1000000 (am_nd 1000000 (am_lf (1115, .ireturn, 1)) (am_lf (1115, .ireturn, 1))) (am_nd 1000000 (am_lf (1115, .ireturn, 1)) (am_lf (1115, .ireturn, 1)))) (am_nd 1000000 (am_nd 1000000 (am_lf (1115, .ireturn, 1)) (am_lf (1115, .ireturn, 1))) (am_nd 1000000 (am_lf (1115, .ireturn, 1)) (am_lf (1115, .ireturn, 1)))))))
def am_c0_27 : am_T am_E 5 := (am_nd 1000000 (am_nd 1000000 (am_nd 1000000 (am_nd 1000000 (am_nd 1000000 (am_lf (1115, .ireturn, 1)) (am_lf (1115, .ireturn, 1))) (am_nd 1000000 (am_lf (1115, .ireturn, 1)) (am_lf (1115, .ireturn, 1)))) (am_nd 1000000 (am_nd 1000000 (am_lf (1115, .ireturn, 1)) (am_lf (1115, .ireturn, 1))) (am_nd 1000000 (am_lf (1115, .ireturn, 1)) (am_lf (1115, .ireturn, 1))))) (am_nd 1000000 (am_nd 1000000 (am_nd 1000000 (am_lf (1115, .ireturn, 1)) (am_lf (1115, .ireturn, 1))) (am_nd 1000000 (am_lf (1115, .ireturn, 1)) (am_lf (1115, .ireturn, 1)))) (am_nd 1000000 (am_nd 1000000 (am_lf (1115, .ireturn, 1)) (am_lf (1115, .ireturn, 1))) (am_nd 1000000 (am_lf (1115, .ireturn, 1)) (am_lf (1115, .ireturn, 1)))))) (am_nd 1000000 (am_nd 1000000 (am_nd 1000000 (am_nd 1000000 (am_lf (1115, .ireturn, 1)) (am_lf (1115, .ireturn, 1))) (am_nd 1000000 (am_lf (1115, .ireturn, 1)) (am_lf (1115, .ireturn, 1)))) (am_nd 1000000 (am_nd 1000000 (am_lf (1115, .ireturn, 1)) (am_lf (1115, .ireturn, 1))) (am_nd 1000000 (am_lf (1115, .ireturn, 1)) (am_lf (1115, .ireturn, 1))))) (am_nd 1000000 (am_nd 1000000 (am_nd 1000000 (am_lf (1115, .ireturn, 1)) (am_lf (1115, .ireturn, 1))) (am_nd 1000000 (am_lf (1115, .ireturn, 1)) (am_lf (1115, .ireturn, 1)))) (am_nd 1000000 (am_nd 1000000 (am_lf (1115, .ireturn, 1)) (am_lf (1115, .ireturn, 1))) (am_nd 1000000 (am_lf (1115, .ireturn, 1)) (am_lf (1115, .ireturn, 1)))))))
def am_c0_28 : am_T am_E 5 := (am_nd 1000000 (am_nd 1000000 (am_nd 1000000 (am_nd 1000000 (am_nd 1000000 (am_lf (1115, .ireturn, 1)) (am_lf (1115, .ireturn, 1))) (am_nd 1000000 (am_lf (1115, .ireturn, 1)) (am_lf (1115, .ireturn, 1)))) (am_nd 1000000 (am_nd 1000000 (am_lf (1115, .ireturn, 1)) (am_lf (1115, .ireturn, 1))) (am_nd 1000000 (am_lf (1115, .ireturn, 1)) (am_lf (1115, .ireturn, 1))))) (am_nd 1000000 (am_nd 1000000 (am_nd 1000000 (am_lf (1115, .ireturn, 1)) (am_lf (1115, .ireturn, 1))) (am_nd 1000000 (am_lf (1115, .ireturn, 1)) (am_lf (1115, .ireturn, 1)))) (am_nd 1000000 (am_nd 1000000 (am_lf (1115, .ireturn, 1)) (am_lf (1115, .ireturn, 1))) (am_nd 1000000 (am_lf (1115, .ireturn, 1)) (am_lf (1115, .ireturn, 1)))))) (am_nd 1000000 (am_nd 1000000 (am_nd 1000000 (am_nd 1000000 (am_lf (1115, .ireturn, 1)) (am_lf (1115, .ireturn, 1))) (am_nd 1000000 (am_lf (1115, .ireturn, 1)) (am_lf (1115, .ireturn, 1)))) (am_nd 1000000 (am_nd 1000000 (am_lf (1115, .ireturn, 1)) (am_lf (1115, .ireturn, 1))) (am_nd 1000000 (am_lf (1115, .ireturn, 1)) (am_lf (1115, .ireturn, 1))))) (am_nd 1000000 (am_nd 1000000 (am_nd 1000000 (am_lf (1115, .ireturn, 1)) (am_lf (1115, .ireturn, 1))) (am_nd 1000000 (am_lf (1115, .ireturn, 1)) (am_lf (1115, .ireturn, 1)))) (am_nd 1000000 (am_nd 1000000 (am_lf (1115, .ireturn, 1)) (am_lf (1115, .ireturn, 1))) (am_nd 1000000 (am_lf (1115, .ireturn, 1)) (am_lf (1115, .ireturn, 1)))))))
def am_c0_29 : am_T am_E 5 := (am_nd 1000000 (am_nd 1000000 (am_nd 1000000 (am_nd 1000000 (am_nd 1000000 (am_lf (1115, .ireturn, 1)) (am_lf (1115, .ireturn, 1))) (am_nd 1000000 (am_lf (1115, .ireturn, 1)) (am_lf (1115, .ireturn, 1)))) (am_nd 1000000 (am_nd 1000000 (am_lf (1115, .ireturn, 1)) (am_lf (1115, .ireturn, 1))) (am_nd 1000000 (am_lf (1115, .ireturn, 1)) (am_lf (1115, .ireturn, 1))))) (am_nd 1000000 (am_nd 1000000 (am_nd 1000000 (am_lf (1115, .ireturn, 1)) (am_lf (1115, .ireturn, 1))) (am_nd 1000000 (am_lf (1115, .ireturn, 1)) (am_lf (1115, .ireturn, 1)))) (am_nd 1000000 (am_nd 1000000 (am_lf (1115, .ireturn, 1)) (am_lf (1115, .ireturn, 1))) (am_nd 1000000 (am_lf (1115, .ireturn, 1)) (am_lf (1115, .ireturn, 1)))))) (am_nd 1000000 (am_nd 1000000 (am_nd 1000000 (am_nd 1000000 (am_lf (1115, .ireturn, 1)) (am_lf (1115, .ireturn, 1))) (am_nd 1000000 (am_lf (1115, .ireturn, 1)) (am_lf (1115, .ireturn, 1)))) (am_nd 1000000 (am_nd 1000000 (am_lf (1115, .ireturn, 1)) (am_lf (1115, .ireturn, 1))) (am_nd 1000000 (am_lf (1115, .ireturn, 1)) (am_lf (1115, .ireturn, 1))))) (am_nd 1000000 (am_nd 1000000 (am_nd 1000000 (am_lf (1115, .ireturn, 1)) (am_lf (1115, .ireturn, 1))) (am_nd 1000000 (am_lf (1115, .ireturn, 1)) (am_lf (1115, .ireturn, 1)))) (am_nd 1000000 (am_nd 1000000 (am_lf (1115, .ireturn, 1)) (am_lf (1115, .ireturn, 1))) (am_nd 1000000 (am_lf (1115, .ireturn, 1)) (am_lf (1115, .ireturn, 1)))))))
def am_c0_30 : am_T am_E 5 := (am_nd 1000000 (am_nd 1000000 (am_nd 1000000 (am_nd 1000000 (am_nd 1000000 (am_lf (1115, .ireturn, 1)) (am_lf (1115, .ireturn, 1))) (am_nd 1000000 (am_lf (1115, .ireturn, 1)) (am_lf (1115, .ireturn, 1)))) (am_nd 1000000 (am_nd 1000000 (am_lf (1115, .ireturn, 1)) (am_lf (1115, .ireturn, 1))) (am_nd 1000000 (am_lf (1115, .ireturn, 1)) (am_lf (1115, .ireturn, 1))))) (am_nd 1000000 (am_nd 1000000 (am_nd 1000000 (am_lf (1115, .ireturn, 1)) (am_lf (1115, .ireturn, 1))) (am_nd 1000000 (am_lf (1115, .ireturn, 1)) (am_lf (1115, .ireturn, 1)))) (am_nd 1000000 (am_nd 1000000 (am_lf (1115, .ireturn, 1)) (am_lf (1115, .ireturn, 1))) (am_nd 1000000 (am_lf (1115, .ireturn, 1)) (am_lf (1115, .ireturn, 1)))))) (am_nd 1000000 (am_nd 1000000 (am_nd 1000000 (am_nd 1000000 (am_lf (1115, .ireturn, 1)) (am_lf (1115, .ireturn, 1))) (am_nd 1000000 (am_lf (1115, .ireturn, 1)) (am_lf (1115, .ireturn, 1)))) (am_nd 1000000 (am_nd 1000000 (am_lf (1115, .ireturn, 1)) (am_lf (1115, .ireturn, 1))) (am_nd 1000000 (am_lf (1115, .ireturn, 1)) (am_lf (1115, .ireturn, 1))))) (am_nd 1000000 (am_nd 1000000 (am_nd 1000000 (am_lf (1115, .ireturn, 1)) (am_lf (1115, .ireturn, 1))) (am_nd 1000000 (am_lf (1115, .ireturn, 1)) (am_lf (1115, .ireturn, 1)))) (am_nd 1000000 (am_nd 1000000 (am_lf (1115, .ireturn, 1)) (am_lf (1115, .ireturn, 1))) (am_nd 1000000 (am_lf (1115, .ireturn, 1)) (am_lf (1115, .ireturn, 1)))))))
def am_c0_31 : am_T am_E 5 := (am_nd 1000000 (am_nd 1000000 (am_nd 1000000 (am_nd 1000000 (am_nd 1000000 (am_lf (1115, .ireturn, 1)) (am_lf (1115, .ireturn, 1))) (am_nd 1000000 (am_lf (1115, .ireturn, 1)) (am_lf (1115, .ireturn, 1)))) (am_nd 1000000 (am_nd 1000000 (am_lf (1115, .ireturn, 1)) (am_lf (1115, .ireturn, 1))) (am_nd 1000000 (am_lf (1115, .ireturn, 1)) (am_lf (1115, .ireturn, 1))))) (am_nd 1000000 (am_nd 1000000 (am_nd 1000000 (am_lf (1115, .ireturn, 1)) (am_lf (1115, .ireturn, 1))) (am_nd 1000000 (am_lf (1115, .ireturn, 1)) (am_lf (1115, .ireturn, 1)))) (am_nd 1000000 (am_nd 1000000 (am_lf (1115, .ireturn, 1)) (am_lf (1115, .ireturn, 1))) (am_nd 1000000 (am_lf (1115, .ireturn, 1)) (am_lf (1115, .ireturn, 1)))))) (am_nd 1000000 (am_nd 1000000 (am_nd 1000000 (am_nd 1000000 (am_lf (1115, .ireturn, 1)) (am_lf (1115, .ireturn, 1))) (am_nd 1000000 (am_lf (1115, .ireturn, 1)) (am_lf (1115, .ireturn, 1)))) (am_nd 1000000 (am_nd 1000000 (am_lf (1115, .ireturn, 1)) (am_lf (1115, .ireturn, 1))) (am_nd 1000000 (am_lf (1115, .ireturn, 1)) (am_lf (1115, .ireturn, 1))))) (am_nd 1000000 (am_nd 1000000 (am_nd 1000000 (am_lf (1115, .ireturn, 1)) (am_lf (1115, .ireturn, 1))) (am_nd 1000000 (am_lf (1115, .ireturn, 1)) (am_lf (1115, .ireturn, 1)))) (am_nd 1000000 (am_nd 1000000 (am_lf (1115, .ireturn, 1)) (am_lf (1115, .ireturn, 1))) (am_nd 1000000 (am_lf (1115, .ireturn, 1)) (am_lf (1115, .ireturn, 1)))))))
def am_c0 : am_T am_E 10 := (am_nd 839 (am_nd 453 (am_nd 264 (am_nd 181 (am_nd 128 am_c0_0 am_c0_1) (am_nd 222 am_c0_2 am_c0_3)) (am_nd 354 (am_nd 312 am_c0_4 am_c0_5) (am_nd 402 am_c0_6 am_c0_7))) (am_nd 642 (am_nd 546 (am_nd 506 am_c0_8 am_c0_9) (am_nd 597 am_c0_10 am_c0_11)) (am_nd 749 (am_nd 698 am_c0_12 am_c0_13) (am_nd 792 am_c0_14 am_c0_15)))) (am_nd 1000000 (am_nd 1031 (am_nd 939 (am_nd 889 am_c0_16 am_c0_17) (am_nd 979 am_c0_18 am_c0_19)) (am_nd 1000000 (am_nd 1083 am_c0_20 am_c0_21) (am_nd 1000000 am_c0_22 am_c0_23))) (am_nd 1000000 (am_nd 1000000 (am_nd 1000000 am_c0_24 am_c0_25) (am_nd 1000000 am_c0_26 am_c0_27)) (am_nd 1000000 (am_nd 1000000 am_c0_28 am_c0_29) (am_nd 1000000 am_c0_30 am_c0_31)))))
def am_c1_0 : am_T am_E 5 := (am_nd 34 (am_nd 16 (am_nd 8 (am_nd 4 (am_nd 1 (am_lf (0, .aload_n 0, 1)) (am_lf (1, .invokespecial 1, 3))) (am_nd 5 (am_lf (4, .aload_n 0, 1)) (am_lf (5, .new 7, 3)))) (am_nd 12 (am_nd 9 (am_lf (8, .dup, 1)) (am_lf (9, .invokespecial 9, 3))) (am_nd 15 (am_lf (12, .putfield 10, 3)) (am_lf (15, .aload_n 0, 1))))) (am_nd 26 (am_nd 20 (am_nd 19 (am_lf (16, .new 7, 3)) (am_lf (19, .dup, 1))) (am_nd 23 (am_lf (20, .invokespecial 9, 3)) (am_lf (23, .putfield 16, 3)))) (am_nd 30 (am_nd 27 (am_lf (26, .aload_n 0, 1)) (am_lf (27, .new 19, 3))) (am_nd 31 (am_lf (30, .dup, 1)) (am_lf (31, .invokespecial 21, 3)))))) (am_nd 52 (am_nd 42 (am_nd 38 (am_nd 37 (am_lf (34, .putfield 22, 3)) (am_lf (37, .aload_n 0, 1))) (am_nd 41 (am_lf (38, .new 26, 3)) (am_lf (41, .dup, 1)))) (am_nd 48 (am_nd 45 (am_lf (42, .invokespecial 28, 3)) (am_lf (45, .putfield 29, 3))) (am_nd 49 (am_lf (48, .aload_n 0, 1)) (am_lf (49, .new 33, 3))))) (am_nd 60 (am_nd 56 (am_nd 53 (am_lf (52, .dup, 1)) (am_lf (53, .invokespecial 35, 3))) (am_nd 59 (am_lf (56, .putfield 36, 3)) (am_lf (59, .aload_n 0, 1)))) (am_nd 64 (am_nd 63 (am_lf (60, .new 40, 3)) (am_lf (63, .dup, 1))) (am_nd 67 (am_lf (64, .invokespecial 42, 3)) (am_lf (67, .putfield 43, 3)))))))
def am_c1_1 : am_T am_E 5 := (am_nd 1000000 (am_nd 86 (am_nd 78 (am_nd 74 (am_nd 71 (am_lf (70, .aload_n 0, 1)) (am_lf (71, .new 47, 3))) (am_nd 75 (am_lf (74, .dup, 1)) (am_lf (75, .invokespecial 49, 3)))) (am_nd 82 (am_nd 81 (am_lf (78, .putfield 50, 3)) (am_lf (81, .aload_n 0, 1))) (am_nd 83 (am_lf (82, .iconst 0, 1)) (am_lf (83, .putfield 54, 3))))) (am_nd 1000000 (am_nd 1000000 (am_nd 1000000 (am_lf (86, .return_, 1)) (am_lf (86, .return_, 1))) (am_nd 1000000 (am_lf (86, .return_, 1)) (am_lf (86, .return_, 1)))) (am_nd 1000000 (am_nd 1000000 (am_lf (86, .return_, 1)) (am_lf (86, .return_, 1))) (am_nd 1000000 (am_lf (86, .return_, 1)) (am_lf (86, .return_, 1)))))) (am_nd 1000000 (am_nd 1000000 (am_nd 1000000 (am_nd 1000000 (am_lf (86, .return_, 1)) (am_lf (86, .return_, 1))) (am_nd 1000000 (am_lf (86, .return_, 1)) (am_lf (86, .return_, 1)))) (am_nd 1000000 (am_nd 1000000 (am_lf (86, .return_, 1)) (am_lf (86, .return_, 1))) (am_nd 1000000 (am_lf (86, .return_, 1)) (am_lf (86, .return_, 1))))) (am_nd 1000000 (am_nd 1000000 (am_nd 1000000 (am_lf (86, .return_, 1)) (am_lf (86, .return_, 1))) (am_nd 1000000 (am_lf (86, .return_, 1)) (am_lf (86, .return_, 1)))) (am_nd 1000000 (am_nd 1000000 (am_lf (86, .return_, 1)) (am_lf (86, .return_, 1))) (am_nd 1000000 (am_lf (86, .return_, 1)) (am_lf (86, .return_, 1)))))))
def am_c1 : am_T am_E 6 := (am_nd 70 am_c1_0 am_c1_1)
def am_c2 : am_T am_E 5 := (am_nd 31 (am_nd 16 (am_nd 8 (am_nd 4 (am_nd 1 (am_lf (0, .aload_n 0, 1)) (am_lf (1, .invokespecial 3, 3))) (am_nd 5 (am_lf (4, .aload_n 0, 1)) (am_lf (5, .sipush 192, 3)))) (am_nd 13 (am_nd 10 (am_lf (8, .newarray .int, 2)) (am_lf (10, .putfield 9, 3))) (am_nd 14 (am_lf (13, .aload_n 0, 1)) (am_lf (14, .bipush 24, 2))))) (am_nd 24 (am_nd 21 (am_nd 18 (am_lf (16, .newarray .int, 2)) (am_lf (18, .putfield 15, 3))) (am_nd 22 (am_lf (21, .aload_n 0, 1)) (am_lf (22, .bipush 6, 2)))) (am_nd 29 (am_nd 26 (am_lf (24, .newarray .int, 2)) (am_lf (26, .putfield 18, 3))) (am_nd 30 (am_lf (29, .aload_n 0, 1)) (am_lf (30, .iconst 0, 1)))))) (am_nd 1000000 (am_nd 1000000 (am_nd 1000000 (am_nd 34 (am_lf (31, .putfield 21, 3)) (am_lf (34, .return_, 1))) (am_nd 1000000 (am_lf (34, .return_, 1)) (am_lf (34, .return_, 1)))) (am_nd 1000000 (am_nd 1000000 (am_lf (34, .return_, 1)) (am_lf (34, .return_, 1))) (am_nd 1000000 (am_lf (34, .return_, 1)) (am_lf (34, .return_, 1))))) (am_nd 1000000 (am_nd 1000000 (am_nd 1000000 (am_lf (34, .return_, 1)) (am_lf (34, .return_, 1))) (am_nd 1000000 (am_lf (34, .return_, 1)) (am_lf (34, .return_, 1)))) (am_nd 1000000 (am_nd 1000000 (am_lf (34, .return_, 1)) (am_lf (34, .return_, 1))) (am_nd 1000000 (am_lf (34, .return_, 1)) (am_lf (34, .return_, 1)))))))
def am_c3 : am_T am_E 4 := (am_nd 15 (am_nd 7 (am_nd 4 (am_nd 1 (am_lf (0, .aload_n 0, 1)) (am_lf (1, .invokespecial 3, 3))) (am_nd 5 (am_lf (4, .aload_n 0, 1)) (am_lf (5, .bipush 6, 2)))) (am_nd 12 (am_nd 9 (am_lf (7, .newarray .boolean, 2)) (am_lf (9, .putfield 9, 3))) (am_nd 13 (am_lf (12, .aload_n 0, 1)) (am_lf (13, .bipush 6, 2))))) (am_nd 1000000 (am_nd 20 (am_nd 17 (am_lf (15, .newarray .int, 2)) (am_lf (17, .putfield 15, 3))) (am_nd 1000000 (am_lf (20, .return_, 1)) (am_lf (20, .return_, 1)))) (am_nd 1000000 (am_nd 1000000 (am_lf (20, .return_, 1)) (am_lf (20, .return_, 1))) (am_nd 1000000 (am_lf (20, .return_, 1)) (am_lf (20, .return_, 1))))))
def am_c4 : am_T am_E 2 := (am_nd 4 (am_nd 1 (am_lf (0, .aload_n 0, 1)) (am_lf (1, .invokespecial 3, 3))) (am_nd 1000000 (am_lf (4, .return_, 1)) (am_lf (4, .return_, 1))))
def am_c5 : am_T am_E 4 := (am_nd 15 (am_nd 7 (am_nd 4 (am_nd 1 (am_lf (0, .aload_n 0, 1)) (am_lf (1, .invokespecial 3, 3))) (am_nd 5 (am_lf (4, .aload_n 0, 1)) (am_lf (5, .bipush 8, 2)))) (am_nd 12 (am_nd 9 (am_lf (7, .newarray .int, 2)) (am_lf (9, .putfield 9, 3))) (am_nd 13 (am_lf (12, .aload_n 0, 1)) (am_lf (13, .bipush 8, 2))))) (am_nd 1000000 (am_nd 20 (am_nd 17 (am_lf (15, .newarray .boolean, 2)) (am_lf (17, .putfield 15, 3))) (am_nd 1000000 (am_lf (20, .return_, 1)) (am_lf (20, .return_, 1)))) (am_nd 1000000 (am_nd 1000000 (am_lf (20, .return_, 1)) (am_lf (20, .return_, 1))) (am_nd 1000000 (am_lf (20, .return_, 1)) (am_lf (20, .return_, 1))))))
def am_c6_0 : am_T am_E 5 := (am_nd 34 (am_nd 16 (am_nd 8 (am_nd 4 (am_nd 1 (am_lf (0, .aload_n 0, 1)) (am_lf (1, .invokespecial 3, 3))) (am_nd 5 (am_lf (4, .aload_n 0, 1)) (am_lf (5, .new 9, 3)))) (am_nd 12 (am_nd 9 (am_lf (8, .dup, 1)) (am_lf (9, .invokespecial 11, 3))) (am_nd 15 (am_lf (12, .putfield 12, 3)) (am_lf (15, .aload_n 0, 1))))) (am_nd 26 (am_nd 20 (am_nd 19 (am_lf (16, .new 18, 3)) (am_lf (19, .dup, 1))) (am_nd 23 (am_lf (20, .invokespecial 20, 3)) (am_lf (23, .putfield 21, 3)))) (am_nd 30 (am_nd 27 (am_lf (26, .aload_n 0, 1)) (am_lf (27, .new 18, 3))) (am_nd 31 (am_lf (30, .dup, 1)) (am_lf (31, .invokespecial 20, 3)))))) (am_nd 50 (am_nd 42 (am_nd 38 (am_nd 37 (am_lf (34, .putfield 25, 3)) (am_lf (37, .aload_n 0, 1))) (am_nd 40 (am_lf (38, .bipush 6, 2)) (am_lf (40, .newarray .int, 2)))) (am_nd 46 (am_nd 45 (am_lf (42, .putfield 28, 3)) (am_lf (45, .aload_n 0, 1))) (am_nd 48 (am_lf (46, .bipush 6, 2)) (am_lf (48, .newarray .int, 2))))) (am_nd 58 (am_nd 54 (am_nd 53 (am_lf (50, .putfield 32, 3)) (am_lf (53, .aload_n 0, 1))) (am_nd 55 (am_lf (54, .iconst 0, 1)) (am_lf (55, .putfield 35, 3)))) (am_nd 60 (am_nd 59 (am_lf (58, .aload_n 0, 1)) (am_lf (59, .iconst 0, 1))) (am_nd 63 (am_lf (60, .putfield 39, 3)) (am_lf (63, .aload_n 0, 1)))))))
def am_c6_1 : am_T am_E 5 := (am_nd 1000000 (am_nd 1000000 (am_nd 70 (am_nd 68 (am_nd 65 (am_lf (64, .iconst (-1), 1)) (am_lf (65, .putfield 42, 3))) (am_nd 69 (am_lf (68, .aload_n 0, 1)) (am_lf (69, .iconst (-1), 1)))) (am_nd 1000000 (am_nd 73 (am_lf (70, .putfield 45, 3)) (am_lf (73, .return_, 1))) (am_nd 1000000 (am_lf (73, .return_, 1)) (am_lf (73, .return_, 1))))) (am_nd 1000000 (am_nd 1000000 (am_nd 1000000 (am_lf (73, .return_, 1)) (am_lf (73, .return_, 1))) (am_nd 1000000 (am_lf (73, .return_, 1)) (am_lf (73, .return_, 1)))) (am_nd 1000000 (am_nd 1000000 (am_lf (73, .return_, 1)) (am_lf (73, .return_, 1))) (am_nd 1000000 (am_lf (73, .return_, 1)) (am_lf (73, .return_, 1)))))) (am_nd 1000000 (am_nd 1000000 (am_nd 1000000 (am_nd 1000000 (am_lf (73, .return_, 1)) (am_lf (73, .return_, 1))) (am_nd 1000000 (am_lf (73, .return_, 1)) (am_lf (73, .return_, 1)))) (am_nd 1000000 (am_nd 1000000 (am_lf (73, .return_, 1)) (am_lf (73, .return_, 1))) (am_nd 1000000 (am_lf (73, .return_, 1)) (am_lf (73, .return_, 1))))) (am_nd 1000000 (am_nd 1000000 (am_nd 1000000 (am_lf (73, .return_, 1)) (am_lf (73, .return_, 1))) (am_nd 1000000 (am_lf (73, .return_, 1)) (am_lf (73, .return_, 1)))) (am_nd 1000000 (am_nd 1000000 (am_lf (73, .return_, 1)) (am_lf (73, .return_, 1))) (am_nd 1000000 (am_lf (73, .return_, 1)) (am_lf (73, .return_, 1)))))))
def am_c6 : am_T am_E 6 := (am_nd 64 am_c6_0 am_c6_1)
def am_c7_0 : am_T am_E 5 := (am_nd 33 (am_nd 17 (am_nd 7 (am_nd 4 (am_nd 1 (am_lf (0, .aload_n 0, 1)) (am_lf (1, .invokespecial 5, 3))) (am_nd 5 (am_lf (4, .aload_n 0, 1)) (am_lf (5, .bipush 22, 2)))) (am_nd 13 (am_nd 9 (am_lf (7, .bipush 23, 2)) (am_lf (9, .multianewarray 11 2, 4))) (am_nd 16 (am_lf (13, .putfield 13, 3)) (am_lf (16, .aload_n 0, 1))))) (am_nd 25 (am_nd 21 (am_nd 19 (am_lf (17, .bipush 22, 2)) (am_lf (19, .newarray .boolean, 2))) (am_nd 24 (am_lf (21, .putfield 16, 3)) (am_lf (24, .aload_n 0, 1)))) (am_nd 29 (am_nd 27 (am_lf (25, .bipush 22, 2)) (am_lf (27, .newarray .int, 2))) (am_nd 32 (am_lf (29, .putfield 20, 3)) (am_lf (32, .aload_n 0, 1)))))) (am_nd 49 (am_nd 41 (am_nd 37 (am_nd 35 (am_lf (33, .bipush 22, 2)) (am_lf (35, .newarray .int, 2))) (am_nd 40 (am_lf (37, .putfield 24, 3)) (am_lf (40, .aload_n 0, 1)))) (am_nd 45 (am_nd 43 (am_lf (41, .bipush 22, 2)) (am_lf (43, .newarray .int, 2))) (am_nd 48 (am_lf (45, .putfield 27, 3)) (am_lf (48, .aload_n 0, 1))))) (am_nd 57 (am_nd 53 (am_nd 51 (am_lf (49, .bipush 22, 2)) (am_lf (51, .newarray .int, 2))) (am_nd 56 (am_lf (53, .putfield 30, 3)) (am_lf (56, .aload_n 0, 1)))) (am_nd 61 (am_nd 59 (am_lf (57, .bipush 23, 2)) (am_lf (59, .newarray .int, 2))) (am_nd 64 (am_lf (61, .putfield 33, 3)) (am_lf (64, .aload_n 0, 1)))))))
def am_c7_1 : am_T am_E 5 := (am_nd 1000000 (am_nd 1000000 (am_nd 71 (am_nd 69 (am_nd 66 (am_lf (65, .iconst 0, 1)) (am_lf (66, .putfield 36, 3))) (am_nd 70 (am_lf (69, .aload_n 0, 1)) (am_lf (70, .iconst 0, 1)))) (am_nd 1000000 (am_nd 74 (am_lf (71, .putfield 40, 3)) (am_lf (74, .return_, 1))) (am_nd 1000000 (am_lf (74, .return_, 1)) (am_lf (74, .return_, 1))))) (am_nd 1000000 (am_nd 1000000 (am_nd 1000000 (am_lf (74, .return_, 1)) (am_lf (74, .return_, 1))) (am_nd 1000000 (am_lf (74, .return_, 1)) (am_lf (74, .return_, 1)))) (am_nd 1000000 (am_nd 1000000 (am_lf (74, .return_, 1)) (am_lf (74, .return_, 1))) (am_nd 1000000 (am_lf (74, .return_, 1)) (am_lf (74, .return_, 1)))))) (am_nd 1000000 (am_nd 1000000 (am_nd 1000000 (am_nd 1000000 (am_lf (74, .return_, 1)) (am_lf (74, .return_, 1))) (am_nd 1000000 (am_lf (74, .return_, 1)) (am_lf (74, .return_, 1)))) (am_nd 1000000 (am_nd 1000000 (am_lf (74, .return_, 1)) (am_lf (74, .return_, 1))) (am_nd 1000000 (am_lf (74, .return_, 1)) (am_lf (74, .return_, 1))))) (am_nd 1000000 (am_nd 1000000 (am_nd 1000000 (am_lf (74, .return_, 1)) (am_lf (74, .return_, 1))) (am_nd 1000000 (am_lf (74, .return_, 1)) (am_lf (74, .return_, 1)))) (am_nd 1000000 (am_nd 1000000 (am_lf (74, .return_, 1)) (am_lf (74, .return_, 1))) (am_nd 1000000 (am_lf (74, .return_, 1)) (am_lf (74, .return_, 1)))))))
def am_c7 : am_T am_E 6 := (am_nd 65 am_c7_0 am_c7_1)
def am_c8_0 : am_T am_E 5 := (am_nd 31 (am_nd 15 (am_nd 7 (am_nd 4 (am_nd 1 (am_lf (0, .aload_n 0, 1)) (am_lf (1, .invokespecial 3, 3))) (am_nd 5 (am_lf (4, .aload_n 0, 1)) (am_lf (5, .bipush 6, 2)))) (am_nd 12 (am_nd 9 (am_lf (7, .newarray .int, 2)) (am_lf (9, .putfield 9, 3))) (am_nd 13 (am_lf (12, .aload_n 0, 1)) (am_lf (13, .bipush 8, 2))))) (am_nd 23 (am_nd 20 (am_nd 17 (am_lf (15, .newarray .int, 2)) (am_lf (17, .putfield 15, 3))) (am_nd 21 (am_lf (20, .aload_n 0, 1)) (am_lf (21, .bipush 8, 2)))) (am_nd 28 (am_nd 25 (am_lf (23, .newarray .int, 2)) (am_lf (25, .putfield 18, 3))) (am_nd 29 (am_lf (28, .aload_n 0, 1)) (am_lf (29, .bipush 8, 2)))))) (am_nd 46 (am_nd 38 (am_nd 36 (am_nd 33 (am_lf (31, .newarray .int, 2)) (am_lf (33, .putfield 21, 3))) (am_nd 37 (am_lf (36, .aload_n 0, 1)) (am_lf (37, .iconst 0, 1)))) (am_nd 42 (am_nd 41 (am_lf (38, .putfield 24, 3)) (am_lf (41, .aload_n 0, 1))) (am_nd 43 (am_lf (42, .iconst 0, 1)) (am_lf (43, .putfield 28, 3))))) (am_nd 52 (am_nd 48 (am_nd 47 (am_lf (46, .aload_n 0, 1)) (am_lf (47, .iconst 2, 1))) (am_nd 51 (am_lf (48, .putfield 31, 3)) (am_lf (51, .aload_n 0, 1)))) (am_nd 56 (am_nd 53 (am_lf (52, .iconst 0, 1)) (am_lf (53, .putfield 34, 3))) (am_nd 57 (am_lf (56, .aload_n 0, 1)) (am_lf (57, .iconst 0, 1)))))))
def am_c8_1 : am_T am_E 5 := (am_nd 1000000 (am_nd 1000000 (am_nd 66 (am_nd 62 (am_nd 61 (am_lf (58, .putfield 37, 3)) (am_lf (61, .aload_n 0, 1))) (am_nd 63 (am_lf (62, .iconst 0, 1)) (am_lf (63, .putfield 40, 3)))) (am_nd 1000000 (am_nd 1000000 (am_lf (66, .return_, 1)) (am_lf (66, .return_, 1))) (am_nd 1000000 (am_lf (66, .return_, 1)) (am_lf (66, .return_, 1))))) (am_nd 1000000 (am_nd 1000000 (am_nd 1000000 (am_lf (66, .return_, 1)) (am_lf (66, .return_, 1))) (am_nd 1000000 (am_lf (66, .return_, 1)) (am_lf (66, .return_, 1)))) (am_nd 1000000 (am_nd 1000000 (am_lf (66, .return_, 1)) (am_lf (66, .return_, 1))) (am_nd 1000000 (am_lf (66, .return_, 1)) (am_lf (66, .return_, 1)))))) (am_nd 1000000 (am_nd 1000000 (am_nd 1000000 (am_nd 1000000 (am_lf (66, .return_, 1)) (am_lf (66, .return_, 1))) (am_nd 1000000 (am_lf (66, .return_, 1)) (am_lf (66, .return_, 1)))) (am_nd 1000000 (am_nd 1000000 (am_lf (66, .return_, 1)) (am_lf (66, .return_, 1))) (am_nd 1000000 (am_lf (66, .return_, 1)) (am_lf (66, .return_, 1))))) (am_nd 1000000 (am_nd 1000000 (am_nd 1000000 (am_lf (66, .return_, 1)) (am_lf (66, .return_, 1))) (am_nd 1000000 (am_lf (66, .return_, 1)) (am_lf (66, .return_, 1)))) (am_nd 1000000 (am_nd 1000000 (am_lf (66, .return_, 1)) (am_lf (66, .return_, 1))) (am_nd 1000000 (am_lf (66, .return_, 1)) (am_lf (66, .return_, 1)))))))
def am_c8 : am_T am_E 6 := (am_nd 58 am_c8_0 am_c8_1)
def am_c9 : am_T am_E 5 := (am_nd 30 (am_nd 15 (am_nd 7 (am_nd 4 (am_nd 1 (am_lf (0, .aload_n 0, 1)) (am_lf (1, .invokespecial 3, 3))) (am_nd 5 (am_lf (4, .aload_n 0, 1)) (am_lf (5, .bipush 6, 2)))) (am_nd 12 (am_nd 9 (am_lf (7, .newarray .int, 2)) (am_lf (9, .putfield 9, 3))) (am_nd 13 (am_lf (12, .aload_n 0, 1)) (am_lf (13, .bipush 8, 2))))) (am_nd 22 (am_nd 20 (am_nd 17 (am_lf (15, .newarray .int, 2)) (am_lf (17, .putfield 15, 3))) (am_nd 21 (am_lf (20, .aload_n 0, 1)) (am_lf (21, .iconst 0, 1)))) (am_nd 26 (am_nd 25 (am_lf (22, .putfield 18, 3)) (am_lf (25, .aload_n 0, 1))) (am_nd 27 (am_lf (26, .iconst 0, 1)) (am_lf (27, .putfield 22, 3)))))) (am_nd 1000000 (am_nd 36 (am_nd 32 (am_nd 31 (am_lf (30, .aload_n 0, 1)) (am_lf (31, .iconst 0, 1))) (am_nd 35 (am_lf (32, .putfield 25, 3)) (am_lf (35, .aload_n 0, 1)))) (am_nd 40 (am_nd 37 (am_lf (36, .iconst 0, 1)) (am_lf (37, .putfield 28, 3))) (am_nd 1000000 (am_lf (40, .return_, 1)) (am_lf (40, .return_, 1))))) (am_nd 1000000 (am_nd 1000000 (am_nd 1000000 (am_lf (40, .return_, 1)) (am_lf (40, .return_, 1))) (am_nd 1000000 (am_lf (40, .return_, 1)) (am_lf (40, .return_, 1)))) (am_nd 1000000 (am_nd 1000000 (am_lf (40, .return_, 1)) (am_lf (40, .return_, 1))) (am_nd 1000000 (am_lf (40, .return_, 1)) (am_lf (40, .return_, 1)))))))
def am_c10 : am_T am_E 4 := (am_nd 16 (am_nd 6 (am_nd 2 (am_nd 1 (am_lf (0, .aload_n 0, 1)) (am_lf (1, .iconst 0, 1))) (am_nd 5 (am_lf (2, .putfield 54, 3)) (am_lf (5, .aload_n 0, 1)))) (am_nd 10 (am_nd 9 (am_lf (6, .getfield 10, 3)) (am_lf (9, .aload_n 0, 1))) (am_nd 13 (am_lf (10, .getfield 16, 3)) (am_lf (13, .invokevirtual 124, 3))))) (am_nd 1000000 (am_nd 1000000 (am_nd 1000000 (am_lf (16, .return_, 1)) (am_lf (16, .return_, 1))) (am_nd 1000000 (am_lf (16, .return_, 1)) (am_lf (16, .return_, 1)))) (am_nd 1000000 (am_nd 1000000 (am_lf (16, .return_, 1)) (am_lf (16, .return_, 1))) (am_nd 1000000 (am_lf (16, .return_, 1)) (am_lf (16, .return_, 1))))))
def am_c11 : am_T am_E 5 := (am_nd 31 (am_nd 16 (am_nd 6 (am_nd 4 (am_nd 1 (am_lf (0, .aload_n 1, 1)) (am_lf (1, .getfield 9, 3))) (am_nd 5 (am_lf (4, .iconst 0, 1)) (am_lf (5, .aload_n 0, 1)))) (am_nd 10 (am_nd 9 (am_lf (6, .getfield 9, 3)) (am_lf (9, .iconst 0, 1))) (am_nd 13 (am_lf (10, .sipush 192, 3)) (am_lf (13, .invokestatic 58, 3))))) (am_nd 22 (am_nd 20 (am_nd 17 (am_lf (16, .aload_n 1, 1)) (am_lf (17, .getfield 15, 3))) (am_nd 21 (am_lf (20, .iconst 0, 1)) (am_lf (21, .aload_n 0, 1)))) (am_nd 26 (am_nd 25 (am_lf (22, .getfield 15, 3)) (am_lf (25, .iconst 0, 1))) (am_nd 28 (am_lf (26, .bipush 24, 2)) (am_lf (28, .invokestatic 58, 3)))))) (am_nd 46 (am_nd 37 (am_nd 35 (am_nd 32 (am_lf (31, .aload_n 1, 1)) (am_lf (32, .getfield 18, 3))) (am_nd 36 (am_lf (35, .iconst 0, 1)) (am_lf (36, .aload_n 0, 1)))) (am_nd 41 (am_nd 40 (am_lf (37, .getfield 18, 3)) (am_lf (40, .iconst 0, 1))) (am_nd 43 (am_lf (41, .bipush 6, 2)) (am_lf (43, .invokestatic 58, 3))))) (am_nd 54 (am_nd 48 (am_nd 47 (am_lf (46, .aload_n 0, 1)) (am_lf (47, .aload_n 1, 1))) (am_nd 51 (am_lf (48, .getfield 21, 3)) (am_lf (51, .putfield 21, 3)))) (am_nd 1000000 (am_nd 1000000 (am_lf (54, .return_, 1)) (am_lf (54, .return_, 1))) (am_nd 1000000 (am_lf (54, .return_, 1)) (am_lf (54, .return_, 1)))))))
def am_c12 : am_T am_E 2 := (am_nd 4 (am_nd 1 (am_lf (0, .aload_n 0, 1)) (am_lf (1, .getfield 50, 3))) (am_nd 7 (am_lf (4, .invokevirtual 223, 3)) (am_lf (7, .ireturn, 1))))
def am_c13 : am_T am_E 2 := (am_nd 4 (am_nd 1 (am_lf (0, .aload_n 0, 1)) (am_lf (1, .getfield 28, 3))) (am_nd 1000000 (am_lf (4, .ireturn, 1)) (am_lf (4, .ireturn, 1))))
def am_c14 : am_T am_E 2 := (am_nd 4 (am_nd 1 (am_lf (0, .aload_n 0, 1)) (am_lf (1, .getfield 50, 3))) (am_nd 7 (am_lf (4, .invokevirtual 234, 3)) (am_lf (7, .ireturn, 1))))
def am_c15 : am_T am_E 2 := (am_nd 4 (am_nd 1 (am_lf (0, .aload_n 0, 1)) (am_lf (1, .getfield 25, 3))) (am_nd 1000000 (am_lf (4, .ireturn, 1)) (am_lf (4, .ireturn, 1))))
def am_c16 : am_T am_E 4 := (am_nd 12 (am_nd 4 (am_nd 2 (am_nd 1 (am_lf (0, .aload_n 2, 1)) (am_lf (1, .iconst 0, 1))) (am_nd 3 (am_lf (2, .aload_n 0, 1)) (am_lf (3, .iload_n 1, 1)))) (am_nd 8 (am_nd 7 (am_lf (4, .invokevirtual 7, 3)) (am_lf (7, .i2l, 1))) (am_nd 9 (am_lf (8, .lastore, 1)) (am_lf (9, .goto 9, 3))))) (am_nd 16 (am_nd 14 (am_nd 13 (am_lf (12, .astore_n 3, 1)) (am_lf (13, .iconst 1, 1))) (am_nd 15 (am_lf (14, .ireturn, 1)) (am_lf (15, .astore_n 3, 1)))) (am_nd 18 (am_nd 17 (am_lf (16, .iconst 2, 1)) (am_lf (17, .ireturn, 1))) (am_nd 19 (am_lf (18, .iconst 0, 1)) (am_lf (19, .ireturn, 1))))))
def am_c17 : am_T am_E 5 := (am_nd 29 (am_nd 16 (am_nd 6 (am_nd 2 (am_nd 1 (am_lf (0, .aload_n 0, 1)) (am_lf (1, .iload_n 1, 1))) (am_nd 5 (am_lf (2, .invokevirtual 58, 3)) (am_lf (5, .astore_n 2, 1)))) (am_nd 10 (am_nd 7 (am_lf (6, .aload_n 2, 1)) (am_lf (7, .invokevirtual 62, 3))) (am_nd 13 (am_lf (10, .ifCond .eq 13, 3)) (am_lf (13, .new 66, 3))))) (am_nd 23 (am_nd 19 (am_nd 17 (am_lf (16, .dup, 1)) (am_lf (17, .ldc 68, 2))) (am_nd 22 (am_lf (19, .invokespecial 70, 3)) (am_lf (22, .athrow, 1)))) (am_nd 25 (am_nd 24 (am_lf (23, .aload_n 0, 1)) (am_lf (24, .iconst 0, 1))) (am_nd 28 (am_lf (25, .putfield 54, 3)) (am_lf (28, .aload_n 2, 1)))))) (am_nd 1000000 (am_nd 1000000 (am_nd 1000000 (am_nd 32 (am_lf (29, .invokevirtual 73, 3)) (am_lf (32, .ireturn, 1))) (am_nd 1000000 (am_lf (32, .ireturn, 1)) (am_lf (32, .ireturn, 1)))) (am_nd 1000000 (am_nd 1000000 (am_lf (32, .ireturn, 1)) (am_lf (32, .ireturn, 1))) (am_nd 1000000 (am_lf (32, .ireturn, 1)) (am_lf (32, .ireturn, 1))))) (am_nd 1000000 (am_nd 1000000 (am_nd 1000000 (am_lf (32, .ireturn, 1)) (am_lf (32, .ireturn, 1))) (am_nd 1000000 (am_lf (32, .ireturn, 1)) (am_lf (32, .ireturn, 1)))) (am_nd 1000000 (am_nd 1000000 (am_lf (32, .ireturn, 1)) (am_lf (32, .ireturn, 1))) (am_nd 1000000 (am_lf (32, .ireturn, 1)) (am_lf (32, .ireturn, 1)))))))
def am_c18 : am_T am_E 5 := (am_nd 31 (am_nd 15 (am_nd 6 (am_nd 4 (am_nd 1 (am_lf (0, .iload_n 1, 1)) (am_lf (1, .ifCond .eq 18, 3))) (am_nd 5 (am_lf (4, .iload_n 1, 1)) (am_lf (5, .iconst 1, 1)))) (am_nd 12 (am_nd 9 (am_lf (6, .if_icmp .eq 13, 3)) (am_lf (9, .new 149, 3))) (am_nd 13 (am_lf (12, .dup, 1)) (am_lf (13, .ldc 237, 2))))) (am_nd 23 (am_nd 19 (am_nd 18 (am_lf (15, .invokespecial 153, 3)) (am_lf (18, .athrow, 1))) (am_nd 20 (am_lf (19, .iload_n 1, 1)) (am_lf (20, .ifCond .ne 10, 3)))) (am_nd 27 (am_nd 24 (am_lf (23, .aload_n 0, 1)) (am_lf (24, .getfield 10, 3))) (am_nd 30 (am_lf (27, .goto 7, 3)) (am_lf (30, .aload_n 0, 1)))))) (am_nd 1000000 (am_nd 1000000 (am_nd 1000000 (am_nd 34 (am_lf (31, .getfield 16, 3)) (am_lf (34, .areturn, 1))) (am_nd 1000000 (am_lf (34, .areturn, 1)) (am_lf (34, .areturn, 1)))) (am_nd 1000000 (am_nd 1000000 (am_lf (34, .areturn, 1)) (am_lf (34, .areturn, 1))) (am_nd 1000000 (am_lf (34, .areturn, 1)) (am_lf (34, .areturn, 1))))) (am_nd 1000000 (am_nd 1000000 (am_nd 1000000 (am_lf (34, .areturn, 1)) (am_lf (34, .areturn, 1))) (am_nd 1000000 (am_lf (34, .areturn, 1)) (am_lf (34, .areturn, 1)))) (am_nd 1000000 (am_nd 1000000 (am_lf (34, .areturn, 1)) (am_lf (34, .areturn, 1))) (am_nd 1000000 (am_lf (34, .areturn, 1)) (am_lf (34, .areturn, 1)))))))
def am_c19 : am_T am_E 3 := (am_nd 9 (am_nd 4 (am_nd 1 (am_lf (0, .aload_n 0, 1)) (am_lf (1, .getfield 21, 3))) (am_nd 6 (am_lf (4, .bipush 6, 2)) (am_lf (6, .if_icmp .lt 7, 3)))) (am_nd 13 (am_nd 10 (am_lf (9, .iconst 1, 1)) (am_lf (10, .goto 4, 3))) (am_nd 14 (am_lf (13, .iconst 0, 1)) (am_lf (14, .ireturn, 1)))))
def am_c20 : am_T am_E 5 := (am_nd 25 (am_nd 15 (am_nd 6 (am_nd 4 (am_nd 1 (am_lf (0, .aload_n 0, 1)) (am_lf (1, .getfield 21, 3))) (am_nd 5 (am_lf (4, .istore_n 1, 1)) (am_lf (5, .iload_n 1, 1)))) (am_nd 10 (am_nd 9 (am_lf (6, .ifCond .lt 9, 3)) (am_lf (9, .iload_n 1, 1))) (am_nd 12 (am_lf (10, .bipush 6, 2)) (am_lf (12, .if_icmp .lt 5, 3))))) (am_nd 19 (am_nd 17 (am_nd 16 (am_lf (15, .iconst (-1), 1)) (am_lf (16, .ireturn, 1))) (am_nd 18 (am_lf (17, .aload_n 0, 1)) (am_lf (18, .iload_n 1, 1)))) (am_nd 21 (am_nd 20 (am_lf (19, .iconst 1, 1)) (am_lf (20, .iadd, 1))) (am_nd 24 (am_lf (21, .putfield 21, 3)) (am_lf (24, .aload_n 0, 1)))))) (am_nd 35 (am_nd 31 (am_nd 29 (am_nd 28 (am_lf (25, .getfield 18, 3)) (am_lf (28, .iload_n 1, 1))) (am_nd 30 (am_lf (29, .iconst 0, 1)) (am_lf (30, .iastore, 1)))) (am_nd 33 (am_nd 32 (am_lf (31, .aload_n 0, 1)) (am_lf (32, .iload_n 1, 1))) (am_nd 34 (am_lf (33, .iconst 2, 1)) (am_lf (34, .iconst 0, 1))))) (am_nd 41 (am_nd 37 (am_nd 36 (am_lf (35, .iconst 0, 1)) (am_lf (36, .iconst 0, 1))) (am_nd 40 (am_lf (37, .invokevirtual 46, 3)) (am_lf (40, .iload_n 1, 1)))) (am_nd 1000000 (am_nd 1000000 (am_lf (41, .ireturn, 1)) (am_lf (41, .ireturn, 1))) (am_nd 1000000 (am_lf (41, .ireturn, 1)) (am_lf (41, .ireturn, 1)))))))
def am_c21_0 : am_T am_E 5 := (am_nd 24 (am_nd 12 (am_nd 8 (am_nd 2 (am_nd 1 (am_lf (0, .aload_n 0, 1)) (am_lf (1, .iload_n 1, 1))) (am_nd 5 (am_lf (2, .invokevirtual 29, 3)) (am_lf (5, .ifCond .ne 4, 3)))) (am_nd 10 (am_nd 9 (am_lf (8, .return_, 1)) (am_lf (9, .iload_n 1, 1))) (am_nd 11 (am_lf (10, .iconst 4, 1)) (am_lf (11, .imul, 1))))) (am_nd 20 (am_nd 15 (am_nd 14 (am_lf (12, .istore 6, 2)) (am_lf (14, .aload_n 0, 1))) (am_nd 18 (am_lf (15, .getfield 15, 3)) (am_lf (18, .iload 6, 2)))) (am_nd 22 (am_nd 21 (am_lf (20, .iconst 0, 1)) (am_lf (21, .iadd, 1))) (am_nd 23 (am_lf (22, .iload_n 2, 1)) (am_lf (23, .iastore, 1)))))) (am_nd 35 (am_nd 31 (am_nd 28 (am_nd 25 (am_lf (24, .aload_n 0, 1)) (am_lf (25, .getfield 15, 3))) (am_nd 30 (am_lf (28, .iload 6, 2)) (am_lf (30, .iconst 1, 1)))) (am_nd 33 (am_nd 32 (am_lf (31, .iadd, 1)) (am_lf (32, .iload_n 3, 1))) (am_nd 34 (am_lf (33, .iastore, 1)) (am_lf (34, .aload_n 0, 1))))) (am_nd 42 (am_nd 40 (am_nd 38 (am_lf (35, .getfield 15, 3)) (am_lf (38, .iload 6, 2))) (am_nd 41 (am_lf (40, .iconst 2, 1)) (am_lf (41, .iadd, 1)))) (am_nd 45 (am_nd 44 (am_lf (42, .iload 4, 2)) (am_lf (44, .iastore, 1))) (am_nd 46 (am_lf (45, .aload_n 0, 1)) (am_lf (46, .getfield 15, 3)))))))
def am_c21_1 : am_T am_E 5 := (am_nd 1000000 (am_nd 1000000 (am_nd 55 (am_nd 52 (am_nd 51 (am_lf (49, .iload 6, 2)) (am_lf (51, .iconst 3, 1))) (am_nd 53 (am_lf (52, .iadd, 1)) (am_lf (53, .iload 5, 2)))) (am_nd 1000000 (am_nd 56 (am_lf (55, .iastore, 1)) (am_lf (56, .return_, 1))) (am_nd 1000000 (am_lf (56, .return_, 1)) (am_lf (56, .return_, 1))))) (am_nd 1000000 (am_nd 1000000 (am_nd 1000000 (am_lf (56, .return_, 1)) (am_lf (56, .return_, 1))) (am_nd 1000000 (am_lf (56, .return_, 1)) (am_lf (56, .return_, 1)))) (am_nd 1000000 (am_nd 1000000 (am_lf (56, .return_, 1)) (am_lf (56, .return_, 1))) (am_nd 1000000 (am_lf (56, .return_, 1)) (am_lf (56, .return_, 1)))))) (am_nd 1000000 (am_nd 1000000 (am_nd 1000000 (am_nd 1000000 (am_lf (56, .return_, 1)) (am_lf (56, .return_, 1))) (am_nd 1000000 (am_lf (56, .return_, 1)) (am_lf (56, .return_, 1)))) (am_nd 1000000 (am_nd 1000000 (am_lf (56, .return_, 1)) (am_lf (56, .return_, 1))) (am_nd 1000000 (am_lf (56, .return_, 1)) (am_lf (56, .return_, 1))))) (am_nd 1000000 (am_nd 1000000 (am_nd 1000000 (am_lf (56, .return_, 1)) (am_lf (56, .return_, 1))) (am_nd 1000000 (am_lf (56, .return_, 1)) (am_lf (56, .return_, 1)))) (am_nd 1000000 (am_nd 1000000 (am_lf (56, .return_, 1)) (am_lf (56, .return_, 1))) (am_nd 1000000 (am_lf (56, .return_, 1)) (am_lf (56, .return_, 1)))))))
def am_c21 : am_T am_E 6 := (am_nd 49 am_c21_0 am_c21_1)
def am_c22 : am_T am_E 4 := (am_nd 15 (am_nd 6 (am_nd 4 (am_nd 1 (am_lf (0, .iload_n 1, 1)) (am_lf (1, .ifCond .lt 21, 3))) (am_nd 5 (am_lf (4, .iload_n 1, 1)) (am_lf (5, .aload_n 0, 1)))) (am_nd 12 (am_nd 9 (am_lf (6, .getfield 21, 3)) (am_lf (9, .if_icmp .ge 13, 3))) (am_nd 13 (am_lf (12, .iload_n 1, 1)) (am_lf (13, .bipush 6, 2))))) (am_nd 23 (am_nd 19 (am_nd 18 (am_lf (15, .if_icmp .ge 7, 3)) (am_lf (18, .iconst 1, 1))) (am_nd 22 (am_lf (19, .goto 4, 3)) (am_lf (22, .iconst 0, 1)))) (am_nd 1000000 (am_nd 1000000 (am_lf (23, .ireturn, 1)) (am_lf (23, .ireturn, 1))) (am_nd 1000000 (am_lf (23, .ireturn, 1)) (am_lf (23, .ireturn, 1))))))
def am_c23 : am_T am_E 5 := (am_nd 25 (am_nd 11 (am_nd 5 (am_nd 3 (am_nd 2 (am_lf (0, .aload 7, 2)) (am_lf (2, .iconst 0, 1))) (am_nd 4 (am_lf (3, .aload_n 0, 1)) (am_lf (4, .iload_n 1, 1)))) (am_nd 7 (am_nd 6 (am_lf (5, .iload_n 2, 1)) (am_lf (6, .iload_n 3, 1))) (am_nd 9 (am_lf (7, .iload 4, 2)) (am_lf (9, .iload 5, 2))))) (am_nd 18 (am_nd 16 (am_nd 13 (am_lf (11, .iload 6, 2)) (am_lf (13, .invokevirtual 17, 3))) (am_nd 17 (am_lf (16, .i2l, 1)) (am_lf (17, .lastore, 1)))) (am_nd 23 (am_nd 21 (am_lf (18, .goto 15, 3)) (am_lf (21, .astore 8, 2))) (am_nd 24 (am_lf (23, .iconst 1, 1)) (am_lf (24, .ireturn, 1)))))) (am_nd 1000000 (am_nd 31 (am_nd 28 (am_nd 27 (am_lf (25, .astore 8, 2)) (am_lf (27, .iconst 2, 1))) (am_nd 29 (am_lf (28, .ireturn, 1)) (am_lf (29, .astore 8, 2)))) (am_nd 33 (am_nd 32 (am_lf (31, .iconst 3, 1)) (am_lf (32, .ireturn, 1))) (am_nd 34 (am_lf (33, .iconst 0, 1)) (am_lf (34, .ireturn, 1))))) (am_nd 1000000 (am_nd 1000000 (am_nd 1000000 (am_lf (34, .ireturn, 1)) (am_lf (34, .ireturn, 1))) (am_nd 1000000 (am_lf (34, .ireturn, 1)) (am_lf (34, .ireturn, 1)))) (am_nd 1000000 (am_nd 1000000 (am_lf (34, .ireturn, 1)) (am_lf (34, .ireturn, 1))) (am_nd 1000000 (am_lf (34, .ireturn, 1)) (am_lf (34, .ireturn, 1)))))))
def am_c24_0 : am_T am_E 5 := (am_nd 32 (am_nd 14 (am_nd 7 (am_nd 2 (am_nd 1 (am_lf (0, .aload_n 0, 1)) (am_lf (1, .iload_n 1, 1))) (am_nd 5 (am_lf (2, .invokevirtual 58, 3)) (am_lf (5, .astore 7, 2)))) (am_nd 10 (am_nd 9 (am_lf (7, .aload 7, 2)) (am_lf (9, .iload_n 2, 1))) (am_nd 13 (am_lf (10, .invokestatic 77, 3)) (am_lf (13, .iload_n 3, 1))))) (am_nd 23 (am_nd 18 (am_nd 17 (am_lf (14, .ifCond .lt 9, 3)) (am_lf (17, .iload_n 3, 1))) (am_nd 20 (am_lf (18, .bipush 9, 2)) (am_lf (20, .if_icmp .le 13, 3)))) (am_nd 27 (am_nd 26 (am_lf (23, .new 81, 3)) (am_lf (26, .dup, 1))) (am_nd 29 (am_lf (27, .ldc 83, 2)) (am_lf (29, .invokespecial 85, 3)))))) (am_nd 48 (am_nd 39 (am_nd 34 (am_nd 33 (am_lf (32, .athrow, 1)) (am_lf (33, .iload_n 3, 1))) (am_nd 37 (am_lf (34, .invokestatic 86, 3)) (am_lf (37, .iload 4, 2)))) (am_nd 43 (am_nd 42 (am_lf (39, .invokestatic 90, 3)) (am_lf (42, .iload_n 3, 1))) (am_nd 46 (am_lf (43, .invokestatic 94, 3)) (am_lf (46, .iload 5, 2))))) (am_nd 57 (am_nd 52 (am_nd 51 (am_lf (48, .invokestatic 90, 3)) (am_lf (51, .iload_n 3, 1))) (am_nd 55 (am_lf (52, .invokestatic 97, 3)) (am_lf (55, .iload 6, 2)))) (am_nd 62 (am_nd 60 (am_lf (57, .invokestatic 90, 3)) (am_lf (60, .aload 7, 2))) (am_nd 63 (am_lf (62, .iload_n 2, 1)) (am_lf (63, .invokevirtual 100, 3)))))))
def am_c24_1 : am_T am_E 5 := (am_nd 98 (am_nd 82 (am_nd 75 (am_nd 71 (am_nd 68 (am_lf (66, .bipush 8, 2)) (am_lf (68, .if_icmp .lt 13, 3))) (am_nd 74 (am_lf (71, .new 66, 3)) (am_lf (74, .dup, 1)))) (am_nd 80 (am_nd 77 (am_lf (75, .ldc 104, 2)) (am_lf (77, .invokespecial 70, 3))) (am_nd 81 (am_lf (80, .athrow, 1)) (am_lf (81, .aload_n 0, 1))))) (am_nd 90 (am_nd 86 (am_nd 83 (am_lf (82, .iconst 0, 1)) (am_lf (83, .putfield 54, 3))) (am_nd 87 (am_lf (86, .iload_n 3, 1)) (am_lf (87, .invokestatic 97, 3)))) (am_nd 94 (am_nd 93 (am_lf (90, .ifCond .ne 7, 3)) (am_lf (93, .iload_n 3, 1))) (am_nd 97 (am_lf (94, .ifCond .ne 7, 3)) (am_lf (97, .iconst 1, 1)))))) (am_nd 112 (am_nd 106 (am_nd 102 (am_nd 101 (am_lf (98, .goto 4, 3)) (am_lf (101, .iconst 0, 1))) (am_nd 104 (am_lf (102, .istore 8, 2)) (am_lf (104, .aload 7, 2)))) (am_nd 108 (am_nd 107 (am_lf (106, .iload_n 2, 1)) (am_lf (107, .iload_n 3, 1))) (am_nd 109 (am_lf (108, .iload_n 3, 1)) (am_lf (109, .invokestatic 86, 3))))) (am_nd 121 (am_nd 117 (am_nd 115 (am_lf (112, .ifCond .eq 8, 3)) (am_lf (115, .iload 4, 2))) (am_nd 120 (am_lf (117, .goto 4, 3)) (am_lf (120, .iconst 0, 1)))) (am_nd 125 (am_nd 122 (am_lf (121, .iload_n 3, 1)) (am_lf (122, .invokestatic 94, 3))) (am_nd 128 (am_lf (125, .ifCond .eq 8, 3)) (am_lf (128, .iload 5, 2)))))))
def am_c24_2 : am_T am_E 5 := (am_nd 1000000 (am_nd 148 (am_nd 139 (am_nd 134 (am_nd 133 (am_lf (130, .goto 4, 3)) (am_lf (133, .iconst 0, 1))) (am_nd 136 (am_lf (134, .iload 8, 2)) (am_lf (136, .ifCond .eq 8, 3)))) (am_nd 144 (am_nd 141 (am_lf (139, .iload 6, 2)) (am_lf (141, .goto 4, 3))) (am_nd 145 (am_lf (144, .iconst 0, 1)) (am_lf (145, .invokevirtual 106, 3))))) (am_nd 1000000 (am_nd 1000000 (am_nd 1000000 (am_lf (148, .ireturn, 1)) (am_lf (148, .ireturn, 1))) (am_nd 1000000 (am_lf (148, .ireturn, 1)) (am_lf (148, .ireturn, 1)))) (am_nd 1000000 (am_nd 1000000 (am_lf (148, .ireturn, 1)) (am_lf (148, .ireturn, 1))) (am_nd 1000000 (am_lf (148, .ireturn, 1)) (am_lf (148, .ireturn, 1)))))) (am_nd 1000000 (am_nd 1000000 (am_nd 1000000 (am_nd 1000000 (am_lf (148, .ireturn, 1)) (am_lf (148, .ireturn, 1))) (am_nd 1000000 (am_lf (148, .ireturn, 1)) (am_lf (148, .ireturn, 1)))) (am_nd 1000000 (am_nd 1000000 (am_lf (148, .ireturn, 1)) (am_lf (148, .ireturn, 1))) (am_nd 1000000 (am_lf (148, .ireturn, 1)) (am_lf (148, .ireturn, 1))))) (am_nd 1000000 (am_nd 1000000 (am_nd 1000000 (am_lf (148, .ireturn, 1)) (am_lf (148, .ireturn, 1))) (am_nd 1000000 (am_lf (148, .ireturn, 1)) (am_lf (148, .ireturn, 1)))) (am_nd 1000000 (am_nd 1000000 (am_lf (148, .ireturn, 1)) (am_lf (148, .ireturn, 1))) (am_nd 1000000 (am_lf (148, .ireturn, 1)) (am_lf (148, .ireturn, 1)))))))
def am_c24_3 : am_T am_E 5 := (am_nd 1000000 (am_nd 1000000 (am_nd 1000000 (am_nd 1000000 (am_nd 1000000 (am_lf (148, .ireturn, 1)) (am_lf (148, .ireturn, 1))) (am_nd 1000000 (am_lf (148, .ireturn, 1)) (am_lf (148, .ireturn, 1)))) (am_nd 1000000 (am_nd 1000000 (am_lf (148, .ireturn, 1)) (am_lf (148, .ireturn, 1))) (am_nd 1000000 (am_lf (148, .ireturn, 1)) (am_lf (148, .ireturn, 1))))) (am_nd 1000000 (am_nd 1000000 (am_nd 1000000 (am_lf (148, .ireturn, 1)) (am_lf (148, .ireturn, 1))) (am_nd 1000000 (am_lf (148, .ireturn, 1)) (am_lf (148, .ireturn, 1)))) (am_nd 1000000 (am_nd 1000000 (am_lf (148, .ireturn, 1)) (am_lf (148, .ireturn, 1))) (am_nd 1000000 (am_lf (148, .ireturn, 1)) (am_lf (148, .ireturn, 1)))))) (am_nd 1000000 (am_nd 1000000 (am_nd 1000000 (am_nd 1000000 (am_lf (148, .ireturn, 1)) (am_lf (148, .ireturn, 1))) (am_nd 1000000 (am_lf (148, .ireturn, 1)) (am_lf (148, .ireturn, 1)))) (am_nd 1000000 (am_nd 1000000 (am_lf (148, .ireturn, 1)) (am_lf (148, .ireturn, 1))) (am_nd 1000000 (am_lf (148, .ireturn, 1)) (am_lf (148, .ireturn, 1))))) (am_nd 1000000 (am_nd 1000000 (am_nd 1000000 (am_lf (148, .ireturn, 1)) (am_lf (148, .ireturn, 1))) (am_nd 1000000 (am_lf (148, .ireturn, 1)) (am_lf (148, .ireturn, 1)))) (am_nd 1000000 (am_nd 1000000 (am_lf (148, .ireturn, 1)) (am_lf (148, .ireturn, 1))) (am_nd 1000000 (am_lf (148, .ireturn, 1)) (am_lf (148, .ireturn, 1)))))))
def am_c24 : am_T am_E 7 := (am_nd 130 (am_nd 66 am_c24_0 am_c24_1) (am_nd 1000000 am_c24_2 am_c24_3))
def am_c25 : am_T am_E 4 := (am_nd 17 (am_nd 8 (am_nd 2 (am_nd 1 (am_lf (0, .aload_n 0, 1)) (am_lf (1, .iload_n 1, 1))) (am_nd 5 (am_lf (2, .invokevirtual 239, 3)) (am_lf (5, .ifCond .ne 13, 3)))) (am_nd 12 (am_nd 11 (am_lf (8, .new 149, 3)) (am_lf (11, .dup, 1))) (am_nd 14 (am_lf (12, .ldc 242, 2)) (am_lf (14, .invokespecial 153, 3))))) (am_nd 1000000 (am_nd 1000000 (am_nd 18 (am_lf (17, .athrow, 1)) (am_lf (18, .return_, 1))) (am_nd 1000000 (am_lf (18, .return_, 1)) (am_lf (18, .return_, 1)))) (am_nd 1000000 (am_nd 1000000 (am_lf (18, .return_, 1)) (am_lf (18, .return_, 1))) (am_nd 1000000 (am_lf (18, .return_, 1)) (am_lf (18, .return_, 1))))))
def am_c26 : am_T am_E 3 := (am_nd 7 (am_nd 3 (am_nd 1 (am_lf (0, .iload_n 0, 1)) (am_lf (1, .bipush 9, 2))) (am_nd 6 (am_lf (3, .if_icmp .eq 7, 3)) (am_lf (6, .iconst 1, 1)))) (am_nd 11 (am_nd 10 (am_lf (7, .goto 4, 3)) (am_lf (10, .iconst 0, 1))) (am_nd 1000000 (am_lf (11, .ireturn, 1)) (am_lf (11, .ireturn, 1)))))
def am_c27 : am_T am_E 4 := (am_nd 17 (am_nd 8 (am_nd 4 (am_nd 1 (am_lf (0, .iload_n 0, 1)) (am_lf (1, .ifCond .eq 20, 3))) (am_nd 5 (am_lf (4, .iload_n 1, 1)) (am_lf (5, .invokestatic 205, 3)))) (am_nd 14 (am_nd 11 (am_lf (8, .ifCond .ne 13, 3)) (am_lf (11, .new 81, 3))) (am_nd 15 (am_lf (14, .dup, 1)) (am_lf (15, .ldc 208, 2))))) (am_nd 1000000 (am_nd 21 (am_nd 20 (am_lf (17, .invokespecial 85, 3)) (am_lf (20, .athrow, 1))) (am_nd 1000000 (am_lf (21, .return_, 1)) (am_lf (21, .return_, 1)))) (am_nd 1000000 (am_nd 1000000 (am_lf (21, .return_, 1)) (am_lf (21, .return_, 1))) (am_nd 1000000 (am_lf (21, .return_, 1)) (am_lf (21, .return_, 1))))))
def am_c28 : am_T am_E 4 := (am_nd 15 (am_nd 7 (am_nd 4 (am_nd 1 (am_lf (0, .iload_n 0, 1)) (am_lf (1, .ifCond .lt 13, 3))) (am_nd 5 (am_lf (4, .iload_n 0, 1)) (am_lf (5, .bipush 6, 2)))) (am_nd 11 (am_nd 10 (am_lf (7, .if_icmp .ge 7, 3)) (am_lf (10, .iconst 1, 1))) (am_nd 14 (am_lf (11, .goto 4, 3)) (am_lf (14, .iconst 0, 1))))) (am_nd 1000000 (am_nd 1000000 (am_nd 1000000 (am_lf (15, .ireturn, 1)) (am_lf (15, .ireturn, 1))) (am_nd 1000000 (am_lf (15, .ireturn, 1)) (am_lf (15, .ireturn, 1)))) (am_nd 1000000 (am_nd 1000000 (am_lf (15, .ireturn, 1)) (am_lf (15, .ireturn, 1))) (am_nd 1000000 (am_lf (15, .ireturn, 1)) (am_lf (15, .ireturn, 1))))))
def am_c29 : am_T am_E 3 := (am_nd 8 (am_nd 4 (am_nd 1 (am_lf (0, .iload_n 0, 1)) (am_lf (1, .ifCond .eq 7, 3))) (am_nd 5 (am_lf (4, .iconst 1, 1)) (am_lf (5, .goto 4, 3)))) (am_nd 1000000 (am_nd 9 (am_lf (8, .iconst 0, 1)) (am_lf (9, .ireturn, 1))) (am_nd 1000000 (am_lf (9, .ireturn, 1)) (am_lf (9, .ireturn, 1)))))
def am_c30 : am_T am_E 4 := (am_nd 15 (am_nd 6 (am_nd 2 (am_nd 1 (am_lf (0, .iload_n 0, 1)) (am_lf (1, .iconst 2, 1))) (am_nd 5 (am_lf (2, .if_icmp .lt 13, 3)) (am_lf (5, .iload_n 0, 1)))) (am_nd 11 (am_nd 8 (am_lf (6, .bipush 8, 2)) (am_lf (8, .if_icmp .eq 7, 3))) (am_nd 12 (am_lf (11, .iconst 1, 1)) (am_lf (12, .goto 4, 3))))) (am_nd 1000000 (am_nd 1000000 (am_nd 16 (am_lf (15, .iconst 0, 1)) (am_lf (16, .ireturn, 1))) (am_nd 1000000 (am_lf (16, .ireturn, 1)) (am_lf (16, .ireturn, 1)))) (am_nd 1000000 (am_nd 1000000 (am_lf (16, .ireturn, 1)) (am_lf (16, .ireturn, 1))) (am_nd 1000000 (am_lf (16, .ireturn, 1)) (am_lf (16, .ireturn, 1))))))
def am_c31 : am_T am_E 4 := (am_nd 14 (am_nd 8 (am_nd 2 (am_nd 1 (am_lf (0, .aload_n 0, 1)) (am_lf (1, .iload_n 1, 1))) (am_nd 5 (am_lf (2, .invokevirtual 29, 3)) (am_lf (5, .ifCond .eq 12, 3)))) (am_nd 12 (am_nd 9 (am_lf (8, .aload_n 0, 1)) (am_lf (9, .getfield 18, 3))) (am_nd 13 (am_lf (12, .iload_n 1, 1)) (am_lf (13, .iaload, 1))))) (am_nd 1000000 (am_nd 18 (am_nd 17 (am_lf (14, .goto 4, 3)) (am_lf (17, .iconst 0, 1))) (am_nd 1000000 (am_lf (18, .ireturn, 1)) (am_lf (18, .ireturn, 1)))) (am_nd 1000000 (am_nd 1000000 (am_lf (18, .ireturn, 1)) (am_lf (18, .ireturn, 1))) (am_nd 1000000 (am_lf (18, .ireturn, 1)) (am_lf (18, .ireturn, 1))))))
def am_c32 : am_T am_E 5 := (am_nd 29 (am_nd 15 (am_nd 7 (am_nd 2 (am_nd 1 (am_lf (0, .aload_n 0, 1)) (am_lf (1, .iload_n 1, 1))) (am_nd 5 (am_lf (2, .invokevirtual 25, 3)) (am_lf (5, .istore 6, 2)))) (am_nd 9 (am_nd 8 (am_lf (7, .aload_n 0, 1)) (am_lf (8, .iload_n 1, 1))) (am_nd 12 (am_lf (9, .invokevirtual 29, 3)) (am_lf (12, .ifCond .eq 10, 3))))) (am_nd 23 (am_nd 19 (am_nd 17 (am_lf (15, .iload 6, 2)) (am_lf (17, .bipush 8, 2))) (am_nd 22 (am_lf (19, .if_icmp .lt 5, 3)) (am_lf (22, .iconst (-1), 1)))) (am_nd 25 (am_nd 24 (am_lf (23, .ireturn, 1)) (am_lf (24, .aload_n 0, 1))) (am_nd 28 (am_lf (25, .getfield 18, 3)) (am_lf (28, .iload_n 1, 1)))))) (am_nd 39 (am_nd 34 (am_nd 32 (am_nd 31 (am_lf (29, .iload 6, 2)) (am_lf (31, .iconst 1, 1))) (am_nd 33 (am_lf (32, .iadd, 1)) (am_lf (33, .iastore, 1)))) (am_nd 36 (am_nd 35 (am_lf (34, .aload_n 0, 1)) (am_lf (35, .iload_n 1, 1))) (am_nd 38 (am_lf (36, .iload 6, 2)) (am_lf (38, .iload_n 2, 1))))) (am_nd 47 (am_nd 42 (am_nd 40 (am_lf (39, .iload_n 3, 1)) (am_lf (40, .iload 4, 2))) (am_nd 44 (am_lf (42, .iload 5, 2)) (am_lf (44, .invokevirtual 50, 3)))) (am_nd 1000000 (am_nd 49 (am_lf (47, .iload 6, 2)) (am_lf (49, .ireturn, 1))) (am_nd 1000000 (am_lf (49, .ireturn, 1)) (am_lf (49, .ireturn, 1)))))))
def am_c33_0 : am_T am_E 5 := (am_nd 24 (am_nd 13 (am_nd 6 (am_nd 2 (am_nd 1 (am_lf (0, .aload_n 0, 1)) (am_lf (1, .iload_n 1, 1))) (am_nd 3 (am_lf (2, .iload_n 2, 1)) (am_lf (3, .invokevirtual 54, 3)))) (am_nd 10 (am_nd 9 (am_lf (6, .ifCond .ne 4, 3)) (am_lf (9, .return_, 1))) (am_nd 11 (am_lf (10, .iload_n 1, 1)) (am_lf (11, .bipush 8, 2))))) (am_nd 17 (am_nd 15 (am_nd 14 (am_lf (13, .imul, 1)) (am_lf (14, .iload_n 2, 1))) (am_nd 16 (am_lf (15, .iadd, 1)) (am_lf (16, .iconst 4, 1)))) (am_nd 20 (am_nd 18 (am_lf (17, .imul, 1)) (am_lf (18, .istore 7, 2))) (am_nd 21 (am_lf (20, .aload_n 0, 1)) (am_lf (21, .getfield 9, 3)))))) (am_nd 36 (am_nd 29 (am_nd 27 (am_nd 26 (am_lf (24, .iload 7, 2)) (am_lf (26, .iconst 0, 1))) (am_nd 28 (am_lf (27, .iadd, 1)) (am_lf (28, .iload_n 3, 1)))) (am_nd 31 (am_nd 30 (am_lf (29, .iastore, 1)) (am_lf (30, .aload_n 0, 1))) (am_nd 34 (am_lf (31, .getfield 9, 3)) (am_lf (34, .iload 7, 2))))) (am_nd 41 (am_nd 38 (am_nd 37 (am_lf (36, .iconst 1, 1)) (am_lf (37, .iadd, 1))) (am_nd 40 (am_lf (38, .iload 4, 2)) (am_lf (40, .iastore, 1)))) (am_nd 45 (am_nd 42 (am_lf (41, .aload_n 0, 1)) (am_lf (42, .getfield 9, 3))) (am_nd 47 (am_lf (45, .iload 7, 2)) (am_lf (47, .iconst 2, 1)))))))
def am_c33_1 : am_T am_E 5 := (am_nd 1000000 (am_nd 60 (am_nd 53 (am_nd 51 (am_nd 49 (am_lf (48, .iadd, 1)) (am_lf (49, .iload 5, 2))) (am_nd 52 (am_lf (51, .iastore, 1)) (am_lf (52, .aload_n 0, 1)))) (am_nd 58 (am_nd 56 (am_lf (53, .getfield 9, 3)) (am_lf (56, .iload 7, 2))) (am_nd 59 (am_lf (58, .iconst 3, 1)) (am_lf (59, .iadd, 1))))) (am_nd 1000000 (am_nd 63 (am_nd 62 (am_lf (60, .iload 6, 2)) (am_lf (62, .iastore, 1))) (am_nd 1000000 (am_lf (63, .return_, 1)) (am_lf (63, .return_, 1)))) (am_nd 1000000 (am_nd 1000000 (am_lf (63, .return_, 1)) (am_lf (63, .return_, 1))) (am_nd 1000000 (am_lf (63, .return_, 1)) (am_lf (63, .return_, 1)))))) (am_nd 1000000 (am_nd 1000000 (am_nd 1000000 (am_nd 1000000 (am_lf (63, .return_, 1)) (am_lf (63, .return_, 1))) (am_nd 1000000 (am_lf (63, .return_, 1)) (am_lf (63, .return_, 1)))) (am_nd 1000000 (am_nd 1000000 (am_lf (63, .return_, 1)) (am_lf (63, .return_, 1))) (am_nd 1000000 (am_lf (63, .return_, 1)) (am_lf (63, .return_, 1))))) (am_nd 1000000 (am_nd 1000000 (am_nd 1000000 (am_lf (63, .return_, 1)) (am_lf (63, .return_, 1))) (am_nd 1000000 (am_lf (63, .return_, 1)) (am_lf (63, .return_, 1)))) (am_nd 1000000 (am_nd 1000000 (am_lf (63, .return_, 1)) (am_lf (63, .return_, 1))) (am_nd 1000000 (am_lf (63, .return_, 1)) (am_lf (63, .return_, 1)))))))
def am_c33 : am_T am_E 6 := (am_nd 48 am_c33_0 am_c33_1)
def am_c34 : am_T am_E 4 := (am_nd 13 (am_nd 7 (am_nd 4 (am_nd 1 (am_lf (0, .iload_n 2, 1)) (am_lf (1, .ifCond .lt 22, 3))) (am_nd 5 (am_lf (4, .iload_n 2, 1)) (am_lf (5, .bipush 8, 2)))) (am_nd 11 (am_nd 10 (am_lf (7, .if_icmp .ge 16, 3)) (am_lf (10, .iload_n 2, 1))) (am_nd 12 (am_lf (11, .aload_n 0, 1)) (am_lf (12, .iload_n 1, 1))))) (am_nd 23 (am_nd 19 (am_nd 16 (am_lf (13, .invokevirtual 25, 3)) (am_lf (16, .if_icmp .ge 7, 3))) (am_nd 20 (am_lf (19, .iconst 1, 1)) (am_lf (20, .goto 4, 3)))) (am_nd 1000000 (am_nd 24 (am_lf (23, .iconst 0, 1)) (am_lf (24, .ireturn, 1))) (am_nd 1000000 (am_lf (24, .ireturn, 1)) (am_lf (24, .ireturn, 1))))))
def am_c35 : am_T am_E 5 := (am_nd 25 (am_nd 13 (am_nd 4 (am_nd 2 (am_nd 1 (am_lf (0, .aload_n 0, 1)) (am_lf (1, .iload_n 1, 1))) (am_nd 3 (am_lf (2, .iload_n 2, 1)) (am_lf (3, .iload_n 3, 1)))) (am_nd 8 (am_nd 6 (am_lf (4, .iload 4, 2)) (am_lf (6, .iload 5, 2))) (am_nd 10 (am_lf (8, .iload 6, 2)) (am_lf (10, .invokevirtual 23, 3))))) (am_nd 20 (am_nd 18 (am_nd 16 (am_lf (13, .goto 11, 3)) (am_lf (16, .astore 7, 2))) (am_nd 19 (am_lf (18, .iconst 1, 1)) (am_lf (19, .ireturn, 1)))) (am_nd 23 (am_nd 22 (am_lf (20, .astore 7, 2)) (am_lf (22, .iconst 2, 1))) (am_nd 24 (am_lf (23, .ireturn, 1)) (am_lf (24, .iconst 0, 1)))))) (am_nd 1000000 (am_nd 1000000 (am_nd 1000000 (am_nd 1000000 (am_lf (25, .ireturn, 1)) (am_lf (25, .ireturn, 1))) (am_nd 1000000 (am_lf (25, .ireturn, 1)) (am_lf (25, .ireturn, 1)))) (am_nd 1000000 (am_nd 1000000 (am_lf (25, .ireturn, 1)) (am_lf (25, .ireturn, 1))) (am_nd 1000000 (am_lf (25, .ireturn, 1)) (am_lf (25, .ireturn, 1))))) (am_nd 1000000 (am_nd 1000000 (am_nd 1000000 (am_lf (25, .ireturn, 1)) (am_lf (25, .ireturn, 1))) (am_nd 1000000 (am_lf (25, .ireturn, 1)) (am_lf (25, .ireturn, 1)))) (am_nd 1000000 (am_nd 1000000 (am_lf (25, .ireturn, 1)) (am_lf (25, .ireturn, 1))) (am_nd 1000000 (am_lf (25, .ireturn, 1)) (am_lf (25, .ireturn, 1)))))))
def am_c36_0 : am_T am_E 5 := (am_nd 31 (am_nd 14 (am_nd 7 (am_nd 2 (am_nd 1 (am_lf (0, .aload_n 0, 1)) (am_lf (1, .iload_n 1, 1))) (am_nd 5 (am_lf (2, .invokevirtual 58, 3)) (am_lf (5, .astore 7, 2)))) (am_nd 10 (am_nd 9 (am_lf (7, .aload 7, 2)) (am_lf (9, .iload_n 2, 1))) (am_nd 13 (am_lf (10, .invokestatic 77, 3)) (am_lf (13, .iload_n 3, 1))))) (am_nd 22 (am_nd 18 (am_nd 17 (am_lf (14, .ifCond .lt 8, 3)) (am_lf (17, .iload_n 3, 1))) (am_nd 19 (am_lf (18, .iconst 2, 1)) (am_lf (19, .if_icmp .le 13, 3)))) (am_nd 26 (am_nd 25 (am_lf (22, .new 81, 3)) (am_lf (25, .dup, 1))) (am_nd 28 (am_lf (26, .ldc 110, 2)) (am_lf (28, .invokespecial 85, 3)))))) (am_nd 46 (am_nd 37 (am_nd 33 (am_nd 32 (am_lf (31, .athrow, 1)) (am_lf (32, .iload_n 3, 1))) (am_nd 36 (am_lf (33, .ifCond .eq 7, 3)) (am_lf (36, .iconst 1, 1)))) (am_nd 41 (am_nd 40 (am_lf (37, .goto 4, 3)) (am_lf (40, .iconst 0, 1))) (am_nd 43 (am_lf (41, .iload 4, 2)) (am_lf (43, .invokestatic 90, 3))))) (am_nd 52 (am_nd 48 (am_nd 47 (am_lf (46, .iload_n 3, 1)) (am_lf (47, .iconst 2, 1))) (am_nd 51 (am_lf (48, .if_icmp .eq 7, 3)) (am_lf (51, .iconst 1, 1)))) (am_nd 56 (am_nd 55 (am_lf (52, .goto 4, 3)) (am_lf (55, .iconst 0, 1))) (am_nd 58 (am_lf (56, .iload 5, 2)) (am_lf (58, .invokestatic 112, 3)))))))
def am_c36_1 : am_T am_E 5 := (am_nd 89 (am_nd 76 (am_nd 67 (am_nd 63 (am_nd 62 (am_lf (61, .iload_n 3, 1)) (am_lf (62, .iconst 1, 1))) (am_nd 66 (am_lf (63, .if_icmp .ne 7, 3)) (am_lf (66, .iconst 1, 1)))) (am_nd 71 (am_nd 70 (am_lf (67, .goto 4, 3)) (am_lf (70, .iconst 0, 1))) (am_nd 73 (am_lf (71, .iload 6, 2)) (am_lf (73, .invokestatic 112, 3))))) (am_nd 83 (am_nd 78 (am_nd 77 (am_lf (76, .aload_n 0, 1)) (am_lf (77, .iconst 0, 1))) (am_nd 81 (am_lf (78, .putfield 54, 3)) (am_lf (81, .aload 7, 2)))) (am_nd 85 (am_nd 84 (am_lf (83, .iload_n 2, 1)) (am_lf (84, .iload_n 3, 1))) (am_nd 86 (am_lf (85, .iload_n 3, 1)) (am_lf (86, .ifCond .eq 8, 3)))))) (am_nd 105 (am_nd 96 (am_nd 94 (am_nd 91 (am_lf (89, .iload 4, 2)) (am_lf (91, .goto 4, 3))) (am_nd 95 (am_lf (94, .iconst 0, 1)) (am_lf (95, .iload_n 3, 1)))) (am_nd 100 (am_nd 97 (am_lf (96, .iconst 2, 1)) (am_lf (97, .if_icmp .eq 8, 3))) (am_nd 102 (am_lf (100, .iload 5, 2)) (am_lf (102, .goto 4, 3))))) (am_nd 111 (am_nd 107 (am_nd 106 (am_lf (105, .iconst 0, 1)) (am_lf (106, .iload_n 3, 1))) (am_nd 108 (am_lf (107, .iconst 1, 1)) (am_lf (108, .if_icmp .ne 8, 3)))) (am_nd 116 (am_nd 113 (am_lf (111, .iload 6, 2)) (am_lf (113, .goto 4, 3))) (am_nd 117 (am_lf (116, .iconst 0, 1)) (am_lf (117, .invokevirtual 115, 3)))))))
def am_c36_2 : am_T am_E 5 := (am_nd 1000000 (am_nd 1000000 (am_nd 1000000 (am_nd 1000000 (am_nd 1000000 (am_lf (120, .return_, 1)) (am_lf (120, .return_, 1))) (am_nd 1000000 (am_lf (120, .return_, 1)) (am_lf (120, .return_, 1)))) (am_nd 1000000 (am_nd 1000000 (am_lf (120, .return_, 1)) (am_lf (120, .return_, 1))) (am_nd 1000000 (am_lf (120, .return_, 1)) (am_lf (120, .return_, 1))))) (am_nd 1000000 (am_nd 1000000 (am_nd 1000000 (am_lf (120, .return_, 1)) (am_lf (120, .return_, 1))) (am_nd 1000000 (am_lf (120, .return_, 1)) (am_lf (120, .return_, 1)))) (am_nd 1000000 (am_nd 1000000 (am_lf (120, .return_, 1)) (am_lf (120, .return_, 1))) (am_nd 1000000 (am_lf (120, .return_, 1)) (am_lf (120, .return_, 1)))))) (am_nd 1000000 (am_nd 1000000 (am_nd 1000000 (am_nd 1000000 (am_lf (120, .return_, 1)) (am_lf (120, .return_, 1))) (am_nd 1000000 (am_lf (120, .return_, 1)) (am_lf (120, .return_, 1)))) (am_nd 1000000 (am_nd 1000000 (am_lf (120, .return_, 1)) (am_lf (120, .return_, 1))) (am_nd 1000000 (am_lf (120, .return_, 1)) (am_lf (120, .return_, 1))))) (am_nd 1000000 (am_nd 1000000 (am_nd 1000000 (am_lf (120, .return_, 1)) (am_lf (120, .return_, 1))) (am_nd 1000000 (am_lf (120, .return_, 1)) (am_lf (120, .return_, 1)))) (am_nd 1000000 (am_nd 1000000 (am_lf (120, .return_, 1)) (am_lf (120, .return_, 1))) (am_nd 1000000 (am_lf (120, .return_, 1)) (am_lf (120, .return_, 1)))))))
def am_c36_3 : am_T am_E 5 := (am_nd 1000000 (am_nd 1000000 (am_nd 1000000 (am_nd 1000000 (am_nd 1000000 (am_lf (120, .return_, 1)) (am_lf (120, .return_, 1))) (am_nd 1000000 (am_lf (120, .return_, 1)) (am_lf (120, .return_, 1)))) (am_nd 1000000 (am_nd 1000000 (am_lf (120, .return_, 1)) (am_lf (120, .return_, 1))) (am_nd 1000000 (am_lf (120, .return_, 1)) (am_lf (120, .return_, 1))))) (am_nd 1000000 (am_nd 1000000 (am_nd 1000000 (am_lf (120, .return_, 1)) (am_lf (120, .return_, 1))) (am_nd 1000000 (am_lf (120, .return_, 1)) (am_lf (120, .return_, 1)))) (am_nd 1000000 (am_nd 1000000 (am_lf (120, .return_, 1)) (am_lf (120, .return_, 1))) (am_nd 1000000 (am_lf (120, .return_, 1)) (am_lf (120, .return_, 1)))))) (am_nd 1000000 (am_nd 1000000 (am_nd 1000000 (am_nd 1000000 (am_lf (120, .return_, 1)) (am_lf (120, .return_, 1))) (am_nd 1000000 (am_lf (120, .return_, 1)) (am_lf (120, .return_, 1)))) (am_nd 1000000 (am_nd 1000000 (am_lf (120, .return_, 1)) (am_lf (120, .return_, 1))) (am_nd 1000000 (am_lf (120, .return_, 1)) (am_lf (120, .return_, 1))))) (am_nd 1000000 (am_nd 1000000 (am_nd 1000000 (am_lf (120, .return_, 1)) (am_lf (120, .return_, 1))) (am_nd 1000000 (am_lf (120, .return_, 1)) (am_lf (120, .return_, 1)))) (am_nd 1000000 (am_nd 1000000 (am_lf (120, .return_, 1)) (am_lf (120, .return_, 1))) (am_nd 1000000 (am_lf (120, .return_, 1)) (am_lf (120, .return_, 1)))))))
def am_c36 : am_T am_E 7 := (am_nd 120 (am_nd 61 am_c36_0 am_c36_1) (am_nd 1000000 am_c36_2 am_c36_3))
def am_c37 : am_T am_E 4 := (am_nd 17 (am_nd 8 (am_nd 4 (am_nd 1 (am_lf (0, .iload_n 0, 1)) (am_lf (1, .ifCond .eq 23, 3))) (am_nd 5 (am_lf (4, .iload_n 1, 1)) (am_lf (5, .ifCond .lt 9, 3)))) (am_nd 11 (am_nd 9 (am_lf (8, .iload_n 1, 1)) (am_lf (9, .bipush 6, 2))) (am_nd 14 (am_lf (11, .if_icmp .lt 13, 3)) (am_lf (14, .new 81, 3))))) (am_nd 24 (am_nd 20 (am_nd 18 (am_lf (17, .dup, 1)) (am_lf (18, .ldc 244, 2))) (am_nd 23 (am_lf (20, .invokespecial 85, 3)) (am_lf (23, .athrow, 1)))) (am_nd 1000000 (am_nd 1000000 (am_lf (24, .return_, 1)) (am_lf (24, .return_, 1))) (am_nd 1000000 (am_lf (24, .return_, 1)) (am_lf (24, .return_, 1))))))
def am_c38 : am_T am_E 4 := (am_nd 12 (am_nd 8 (am_nd 2 (am_nd 1 (am_lf (0, .aload_n 0, 1)) (am_lf (1, .iload_n 1, 1))) (am_nd 5 (am_lf (2, .invokevirtual 27, 3)) (am_lf (5, .goto 6, 3)))) (am_nd 10 (am_nd 9 (am_lf (8, .astore_n 2, 1)) (am_lf (9, .iconst 1, 1))) (am_nd 11 (am_lf (10, .ireturn, 1)) (am_lf (11, .iconst 0, 1))))) (am_nd 1000000 (am_nd 1000000 (am_nd 1000000 (am_lf (12, .ireturn, 1)) (am_lf (12, .ireturn, 1))) (am_nd 1000000 (am_lf (12, .ireturn, 1)) (am_lf (12, .ireturn, 1)))) (am_nd 1000000 (am_nd 1000000 (am_lf (12, .ireturn, 1)) (am_lf (12, .ireturn, 1))) (am_nd 1000000 (am_lf (12, .ireturn, 1)) (am_lf (12, .ireturn, 1))))))
def am_c39 : am_T am_E 4 := (am_nd 12 (am_nd 6 (am_nd 2 (am_nd 1 (am_lf (0, .aload_n 0, 1)) (am_lf (1, .iload_n 1, 1))) (am_nd 5 (am_lf (2, .invokevirtual 58, 3)) (am_lf (5, .astore_n 2, 1)))) (am_nd 8 (am_nd 7 (am_lf (6, .aload_n 0, 1)) (am_lf (7, .iconst 0, 1))) (am_nd 11 (am_lf (8, .putfield 54, 3)) (am_lf (11, .aload_n 2, 1))))) (am_nd 1000000 (am_nd 1000000 (am_nd 15 (am_lf (12, .invokevirtual 119, 3)) (am_lf (15, .return_, 1))) (am_nd 1000000 (am_lf (15, .return_, 1)) (am_lf (15, .return_, 1)))) (am_nd 1000000 (am_nd 1000000 (am_lf (15, .return_, 1)) (am_lf (15, .return_, 1))) (am_nd 1000000 (am_lf (15, .return_, 1)) (am_lf (15, .return_, 1))))))
def am_c40 : am_T am_E 2 := (am_nd 2 (am_nd 1 (am_lf (0, .aload_n 0, 1)) (am_lf (1, .iconst 0, 1))) (am_nd 5 (am_lf (2, .putfield 21, 3)) (am_lf (5, .return_, 1))))
def am_c41 : am_T am_E 4 := (am_nd 12 (am_nd 4 (am_nd 2 (am_nd 1 (am_lf (0, .aload_n 2, 1)) (am_lf (1, .iconst 0, 1))) (am_nd 3 (am_lf (2, .aload_n 0, 1)) (am_lf (3, .iload_n 1, 1)))) (am_nd 8 (am_nd 7 (am_lf (4, .invokevirtual 31, 3)) (am_lf (7, .i2l, 1))) (am_nd 9 (am_lf (8, .lastore, 1)) (am_lf (9, .goto 6, 3))))) (am_nd 16 (am_nd 14 (am_nd 13 (am_lf (12, .astore_n 3, 1)) (am_lf (13, .iconst 1, 1))) (am_nd 15 (am_lf (14, .ireturn, 1)) (am_lf (15, .iconst 0, 1)))) (am_nd 1000000 (am_nd 1000000 (am_lf (16, .ireturn, 1)) (am_lf (16, .ireturn, 1))) (am_nd 1000000 (am_lf (16, .ireturn, 1)) (am_lf (16, .ireturn, 1))))))
def am_c42_0 : am_T am_E 5 := (am_nd 29 (am_nd 15 (am_nd 6 (am_nd 4 (am_nd 1 (am_lf (0, .iload_n 1, 1)) (am_lf (1, .ifCond .lt 8, 3))) (am_nd 5 (am_lf (4, .iload_n 1, 1)) (am_lf (5, .iconst 2, 1)))) (am_nd 12 (am_nd 9 (am_lf (6, .if_icmp .le 13, 3)) (am_lf (9, .new 81, 3))) (am_nd 13 (am_lf (12, .dup, 1)) (am_lf (13, .ldc 122, 2))))) (am_nd 21 (am_nd 19 (am_nd 18 (am_lf (15, .invokespecial 85, 3)) (am_lf (18, .athrow, 1))) (am_nd 20 (am_lf (19, .aload_n 0, 1)) (am_lf (20, .iconst 0, 1)))) (am_nd 25 (am_nd 24 (am_lf (21, .putfield 54, 3)) (am_lf (24, .aload_n 0, 1))) (am_nd 28 (am_lf (25, .getfield 16, 3)) (am_lf (28, .aload_n 0, 1)))))) (am_nd 45 (am_nd 39 (am_nd 35 (am_nd 32 (am_lf (29, .getfield 10, 3)) (am_lf (32, .invokevirtual 124, 3))) (am_nd 36 (am_lf (35, .aload_n 0, 1)) (am_lf (36, .getfield 10, 3)))) (am_nd 43 (am_nd 42 (am_lf (39, .invokevirtual 128, 3)) (am_lf (42, .istore_n 2, 1))) (am_nd 44 (am_lf (43, .iconst 0, 1)) (am_lf (44, .istore_n 3, 1))))) (am_nd 51 (am_nd 47 (am_nd 46 (am_lf (45, .iload_n 3, 1)) (am_lf (46, .iload_n 2, 1))) (am_nd 50 (am_lf (47, .if_icmp .ge 72, 3)) (am_lf (50, .iload_n 1, 1)))) (am_nd 55 (am_nd 54 (am_lf (51, .ifCond .ne 22, 3)) (am_lf (54, .aload_n 0, 1))) (am_nd 58 (am_lf (55, .getfield 22, 3)) (am_lf (58, .aload_n 0, 1)))))))
def am_c42_1 : am_T am_E 5 := (am_nd 91 (am_nd 75 (am_nd 67 (am_nd 63 (am_nd 62 (am_lf (59, .getfield 10, 3)) (am_lf (62, .aload_n 0, 1))) (am_nd 66 (am_lf (63, .getfield 16, 3)) (am_lf (66, .iload_n 3, 1)))) (am_nd 73 (am_nd 70 (am_lf (67, .invokevirtual 131, 3)) (am_lf (70, .goto 43, 3))) (am_nd 74 (am_lf (73, .iload_n 1, 1)) (am_lf (74, .iconst 1, 1))))) (am_nd 83 (am_nd 79 (am_nd 78 (am_lf (75, .if_icmp .ne 22, 3)) (am_lf (78, .aload_n 0, 1))) (am_nd 82 (am_lf (79, .getfield 29, 3)) (am_lf (82, .aload_n 0, 1)))) (am_nd 87 (am_nd 86 (am_lf (83, .getfield 10, 3)) (am_lf (86, .aload_n 0, 1))) (am_nd 90 (am_lf (87, .getfield 16, 3)) (am_lf (90, .iload_n 3, 1)))))) (am_nd 109 (am_nd 101 (am_nd 97 (am_nd 94 (am_lf (91, .invokevirtual 135, 3)) (am_lf (94, .goto 19, 3))) (am_nd 98 (am_lf (97, .aload_n 0, 1)) (am_lf (98, .getfield 36, 3)))) (am_nd 105 (am_nd 102 (am_lf (101, .aload_n 0, 1)) (am_lf (102, .getfield 10, 3))) (am_nd 106 (am_lf (105, .aload_n 0, 1)) (am_lf (106, .getfield 16, 3))))) (am_nd 119 (am_nd 113 (am_nd 110 (am_lf (109, .iload_n 3, 1)) (am_lf (110, .invokevirtual 138, 3))) (am_nd 116 (am_lf (113, .iinc 3 1, 3)) (am_lf (116, .goto (-71), 3)))) (am_nd 123 (am_nd 120 (am_lf (119, .aload_n 0, 1)) (am_lf (120, .getfield 16, 3))) (am_nd 124 (am_lf (123, .aload_n 0, 1)) (am_lf (124, .getfield 10, 3)))))))
def am_c42_2 : am_T am_E 5 := (am_nd 1000000 (am_nd 1000000 (am_nd 1000000 (am_nd 1000000 (am_nd 130 (am_lf (127, .invokevirtual 141, 3)) (am_lf (130, .ireturn, 1))) (am_nd 1000000 (am_lf (130, .ireturn, 1)) (am_lf (130, .ireturn, 1)))) (am_nd 1000000 (am_nd 1000000 (am_lf (130, .ireturn, 1)) (am_lf (130, .ireturn, 1))) (am_nd 1000000 (am_lf (130, .ireturn, 1)) (am_lf (130, .ireturn, 1))))) (am_nd 1000000 (am_nd 1000000 (am_nd 1000000 (am_lf (130, .ireturn, 1)) (am_lf (130, .ireturn, 1))) (am_nd 1000000 (am_lf (130, .ireturn, 1)) (am_lf (130, .ireturn, 1)))) (am_nd 1000000 (am_nd 1000000 (am_lf (130, .ireturn, 1)) (am_lf (130, .ireturn, 1))) (am_nd 1000000 (am_lf (130, .ireturn, 1)) (am_lf (130, .ireturn, 1)))))) (am_nd 1000000 (am_nd 1000000 (am_nd 1000000 (am_nd 1000000 (am_lf (130, .ireturn, 1)) (am_lf (130, .ireturn, 1))) (am_nd 1000000 (am_lf (130, .ireturn, 1)) (am_lf (130, .ireturn, 1)))) (am_nd 1000000 (am_nd 1000000 (am_lf (130, .ireturn, 1)) (am_lf (130, .ireturn, 1))) (am_nd 1000000 (am_lf (130, .ireturn, 1)) (am_lf (130, .ireturn, 1))))) (am_nd 1000000 (am_nd 1000000 (am_nd 1000000 (am_lf (130, .ireturn, 1)) (am_lf (130, .ireturn, 1))) (am_nd 1000000 (am_lf (130, .ireturn, 1)) (am_lf (130, .ireturn, 1)))) (am_nd 1000000 (am_nd 1000000 (am_lf (130, .ireturn, 1)) (am_lf (130, .ireturn, 1))) (am_nd 1000000 (am_lf (130, .ireturn, 1)) (am_lf (130, .ireturn, 1)))))))
def am_c42_3 : am_T am_E 5 := (am_nd 1000000 (am_nd 1000000 (am_nd 1000000 (am_nd 1000000 (am_nd 1000000 (am_lf (130, .ireturn, 1)) (am_lf (130, .ireturn, 1))) (am_nd 1000000 (am_lf (130, .ireturn, 1)) (am_lf (130, .ireturn, 1)))) (am_nd 1000000 (am_nd 1000000 (am_lf (130, .ireturn, 1)) (am_lf (130, .ireturn, 1))) (am_nd 1000000 (am_lf (130, .ireturn, 1)) (am_lf (130, .ireturn, 1))))) (am_nd 1000000 (am_nd 1000000 (am_nd 1000000 (am_lf (130, .ireturn, 1)) (am_lf (130, .ireturn, 1))) (am_nd 1000000 (am_lf (130, .ireturn, 1)) (am_lf (130, .ireturn, 1)))) (am_nd 1000000 (am_nd 1000000 (am_lf (130, .ireturn, 1)) (am_lf (130, .ireturn, 1))) (am_nd 1000000 (am_lf (130, .ireturn, 1)) (am_lf (130, .ireturn, 1)))))) (am_nd 1000000 (am_nd 1000000 (am_nd 1000000 (am_nd 1000000 (am_lf (130, .ireturn, 1)) (am_lf (130, .ireturn, 1))) (am_nd 1000000 (am_lf (130, .ireturn, 1)) (am_lf (130, .ireturn, 1)))) (am_nd 1000000 (am_nd 1000000 (am_lf (130, .ireturn, 1)) (am_lf (130, .ireturn, 1))) (am_nd 1000000 (am_lf (130, .ireturn, 1)) (am_lf (130, .ireturn, 1))))) (am_nd 1000000 (am_nd 1000000 (am_nd 1000000 (am_lf (130, .ireturn, 1)) (am_lf (130, .ireturn, 1))) (am_nd 1000000 (am_lf (130, .ireturn, 1)) (am_lf (130, .ireturn, 1)))) (am_nd 1000000 (am_nd 1000000 (am_lf (130, .ireturn, 1)) (am_lf (130, .ireturn, 1))) (am_nd 1000000 (am_lf (130, .ireturn, 1)) (am_lf (130, .ireturn, 1)))))))
def am_c42 : am_T am_E 7 := (am_nd 127 (am_nd 59 am_c42_0 am_c42_1) (am_nd 1000000 am_c42_2 am_c42_3))
def am_c43 : am_T am_E 2 := (am_nd 4 (am_nd 1 (am_lf (0, .aload_n 0, 1)) (am_lf (1, .getfield 21, 3))) (am_nd 1000000 (am_lf (4, .ireturn, 1)) (am_lf (4, .ireturn, 1))))
def am_c44_0 : am_T am_E 5 := (am_nd 32 (am_nd 16 (am_nd 7 (am_nd 3 (am_nd 1 (am_lf (0, .iconst 0, 1)) (am_lf (1, .istore 4, 2))) (am_nd 5 (am_lf (3, .iload 4, 2)) (am_lf (5, .bipush 6, 2)))) (am_nd 11 (am_nd 10 (am_lf (7, .if_icmp .ge 15, 3)) (am_lf (10, .aload_n 0, 1))) (am_nd 13 (am_lf (11, .iload 4, 2)) (am_lf (13, .invokevirtual 19, 3))))) (am_nd 24 (am_nd 22 (am_nd 19 (am_lf (16, .iinc 4 1, 3)) (am_lf (19, .goto (-16), 3))) (am_nd 23 (am_lf (22, .aload_n 1, 1)) (am_lf (23, .iload_n 3, 1)))) (am_nd 29 (am_nd 27 (am_lf (24, .invokevirtual 23, 3)) (am_lf (27, .istore 4, 2))) (am_nd 30 (am_lf (29, .iconst 0, 1)) (am_lf (30, .istore 5, 2)))))) (am_nd 45 (am_nd 40 (am_nd 36 (am_nd 34 (am_lf (32, .iload 5, 2)) (am_lf (34, .iload 4, 2))) (am_nd 39 (am_lf (36, .if_icmp .ge 18, 3)) (am_lf (39, .aload_n 0, 1)))) (am_nd 42 (am_nd 41 (am_lf (40, .aload_n 1, 1)) (am_lf (41, .aload_n 2, 1))) (am_nd 43 (am_lf (42, .iload_n 3, 1)) (am_lf (43, .iload 5, 2))))) (am_nd 55 (am_nd 51 (am_nd 48 (am_lf (45, .invokevirtual 29, 3)) (am_lf (48, .iinc 5 1, 3))) (am_nd 54 (am_lf (51, .goto (-19), 3)) (am_lf (54, .aload_n 0, 1)))) (am_nd 57 (am_nd 56 (am_lf (55, .aload_n 1, 1)) (am_lf (56, .aload_n 2, 1))) (am_nd 58 (am_lf (57, .iload_n 3, 1)) (am_lf (58, .invokevirtual 33, 3)))))))
def am_c44_1 : am_T am_E 5 := (am_nd 1000000 (am_nd 1000000 (am_nd 1000000 (am_nd 1000000 (am_nd 1000000 (am_lf (61, .return_, 1)) (am_lf (61, .return_, 1))) (am_nd 1000000 (am_lf (61, .return_, 1)) (am_lf (61, .return_, 1)))) (am_nd 1000000 (am_nd 1000000 (am_lf (61, .return_, 1)) (am_lf (61, .return_, 1))) (am_nd 1000000 (am_lf (61, .return_, 1)) (am_lf (61, .return_, 1))))) (am_nd 1000000 (am_nd 1000000 (am_nd 1000000 (am_lf (61, .return_, 1)) (am_lf (61, .return_, 1))) (am_nd 1000000 (am_lf (61, .return_, 1)) (am_lf (61, .return_, 1)))) (am_nd 1000000 (am_nd 1000000 (am_lf (61, .return_, 1)) (am_lf (61, .return_, 1))) (am_nd 1000000 (am_lf (61, .return_, 1)) (am_lf (61, .return_, 1)))))) (am_nd 1000000 (am_nd 1000000 (am_nd 1000000 (am_nd 1000000 (am_lf (61, .return_, 1)) (am_lf (61, .return_, 1))) (am_nd 1000000 (am_lf (61, .return_, 1)) (am_lf (61, .return_, 1)))) (am_nd 1000000 (am_nd 1000000 (am_lf (61, .return_, 1)) (am_lf (61, .return_, 1))) (am_nd 1000000 (am_lf (61, .return_, 1)) (am_lf (61, .return_, 1))))) (am_nd 1000000 (am_nd 1000000 (am_nd 1000000 (am_lf (61, .return_, 1)) (am_lf (61, .return_, 1))) (am_nd 1000000 (am_lf (61, .return_, 1)) (am_lf (61, .return_, 1)))) (am_nd 1000000 (am_nd 1000000 (am_lf (61, .return_, 1)) (am_lf (61, .return_, 1))) (am_nd 1000000 (am_lf (61, .return_, 1)) (am_lf (61, .return_, 1)))))))
def am_c44 : am_T am_E 6 := (am_nd 61 am_c44_0 am_c44_1)
def am_c45 : am_T am_E 4 := (am_nd 14 (am_nd 8 (am_nd 4 (am_nd 1 (am_lf (0, .iload_n 1, 1)) (am_lf (1, .invokestatic 81, 3))) (am_nd 7 (am_lf (4, .ifCond .eq 10, 3)) (am_lf (7, .aload_n 0, 1)))) (am_nd 12 (am_nd 11 (am_lf (8, .getfield 9, 3)) (am_lf (11, .iload_n 1, 1))) (am_nd 13 (am_lf (12, .iconst 0, 1)) (am_lf (13, .bastore, 1))))) (am_nd 1000000 (am_nd 1000000 (am_nd 1000000 (am_lf (14, .return_, 1)) (am_lf (14, .return_, 1))) (am_nd 1000000 (am_lf (14, .return_, 1)) (am_lf (14, .return_, 1)))) (am_nd 1000000 (am_nd 1000000 (am_lf (14, .return_, 1)) (am_lf (14, .return_, 1))) (am_nd 1000000 (am_lf (14, .return_, 1)) (am_lf (14, .return_, 1))))))
def am_c46_0 : am_T am_E 5 := (am_nd 25 (am_nd 12 (am_nd 5 (am_nd 2 (am_nd 1 (am_lf (0, .aload_n 1, 1)) (am_lf (1, .iload_n 3, 1))) (am_nd 4 (am_lf (2, .iload 4, 2)) (am_lf (4, .iconst 0, 1)))) (am_nd 10 (am_nd 8 (am_lf (5, .invokevirtual 37, 3)) (am_lf (8, .istore 5, 2))) (am_nd 11 (am_lf (10, .aload_n 1, 1)) (am_lf (11, .iload_n 3, 1))))) (am_nd 20 (am_nd 15 (am_nd 14 (am_lf (12, .iload 4, 2)) (am_lf (14, .iconst 1, 1))) (am_nd 18 (am_lf (15, .invokevirtual 37, 3)) (am_lf (18, .istore 6, 2)))) (am_nd 22 (am_nd 21 (am_lf (20, .aload_n 1, 1)) (am_lf (21, .iload_n 3, 1))) (am_nd 24 (am_lf (22, .iload 4, 2)) (am_lf (24, .iconst 2, 1)))))) (am_nd 40 (am_nd 32 (am_nd 30 (am_nd 28 (am_lf (25, .invokevirtual 37, 3)) (am_lf (28, .istore 7, 2))) (am_nd 31 (am_lf (30, .aload_n 1, 1)) (am_lf (31, .iload_n 3, 1)))) (am_nd 35 (am_nd 34 (am_lf (32, .iload 4, 2)) (am_lf (34, .iconst 3, 1))) (am_nd 38 (am_lf (35, .invokevirtual 37, 3)) (am_lf (38, .istore 8, 2))))) (am_nd 48 (am_nd 45 (am_nd 42 (am_lf (40, .iload 5, 2)) (am_lf (42, .ifCond .ne 14, 3))) (am_nd 46 (am_lf (45, .aload_n 0, 1)) (am_lf (46, .iload 6, 2)))) (am_nd 53 (am_nd 50 (am_lf (48, .iload 8, 2)) (am_lf (50, .invokevirtual 41, 3))) (am_nd 56 (am_lf (53, .goto 128, 3)) (am_lf (56, .iload 5, 2)))))))
def am_c46_1 : am_T am_E 5 := (am_nd 88 (am_nd 74 (am_nd 65 (am_nd 62 (am_nd 59 (am_lf (58, .iconst 1, 1)) (am_lf (59, .if_icmp .ne 44, 3))) (am_nd 63 (am_lf (62, .aload_n 0, 1)) (am_lf (63, .iload 7, 2)))) (am_nd 71 (am_nd 68 (am_lf (65, .invokevirtual 45, 3)) (am_lf (68, .ifCond .eq 35, 3))) (am_nd 72 (am_lf (71, .aload_n 0, 1)) (am_lf (72, .iload 6, 2))))) (am_nd 83 (am_nd 77 (am_nd 75 (am_lf (74, .aload_n 0, 1)) (am_lf (75, .iload 7, 2))) (am_nd 80 (am_lf (77, .invokevirtual 49, 3)) (am_lf (80, .invokevirtual 41, 3)))) (am_nd 85 (am_nd 84 (am_lf (83, .aload_n 2, 1)) (am_lf (84, .iload_n 3, 1))) (am_nd 87 (am_lf (85, .iload 4, 2)) (am_lf (87, .iconst 0, 1)))))) (am_nd 105 (am_nd 94 (am_nd 91 (am_nd 90 (am_lf (88, .iload 6, 2)) (am_lf (90, .iconst 0, 1))) (am_nd 92 (am_lf (91, .aload_n 0, 1)) (am_lf (92, .iload 6, 2)))) (am_nd 100 (am_nd 97 (am_lf (94, .invokevirtual 49, 3)) (am_lf (97, .invokevirtual 52, 3))) (am_nd 103 (am_lf (100, .goto 81, 3)) (am_lf (103, .iload 5, 2))))) (am_nd 114 (am_nd 111 (am_nd 108 (am_lf (105, .invokestatic 56, 3)) (am_lf (108, .ifCond .eq 59, 3))) (am_nd 112 (am_lf (111, .aload_n 0, 1)) (am_lf (112, .iload 5, 2)))) (am_nd 118 (am_nd 116 (am_lf (114, .iload 7, 2)) (am_lf (116, .iload 8, 2))) (am_nd 121 (am_lf (118, .invokevirtual 59, 3)) (am_lf (121, .ifCond .eq 46, 3)))))))
def am_c46_2 : am_T am_E 5 := (am_nd 154 (am_nd 138 (am_nd 130 (am_nd 127 (am_nd 125 (am_lf (124, .aload_n 0, 1)) (am_lf (125, .iload 6, 2))) (am_nd 129 (am_lf (127, .iload 5, 2)) (am_lf (129, .aload_n 0, 1)))) (am_nd 135 (am_nd 132 (am_lf (130, .iload 7, 2)) (am_lf (132, .invokevirtual 49, 3))) (am_nd 136 (am_lf (135, .aload_n 0, 1)) (am_lf (136, .iload 8, 2))))) (am_nd 148 (am_nd 144 (am_nd 141 (am_lf (138, .invokevirtual 49, 3)) (am_lf (141, .invokestatic 63, 3))) (am_nd 147 (am_lf (144, .invokevirtual 41, 3)) (am_lf (147, .aload_n 2, 1)))) (am_nd 151 (am_nd 149 (am_lf (148, .iload_n 3, 1)) (am_lf (149, .iload 4, 2))) (am_nd 152 (am_lf (151, .iconst 0, 1)) (am_lf (152, .iload 6, 2)))))) (am_nd 172 (am_nd 161 (am_nd 156 (am_nd 155 (am_lf (154, .iconst 0, 1)) (am_lf (155, .aload_n 0, 1))) (am_nd 158 (am_lf (156, .iload 6, 2)) (am_lf (158, .invokevirtual 49, 3)))) (am_nd 167 (am_nd 164 (am_lf (161, .invokevirtual 52, 3)) (am_lf (164, .goto 17, 3))) (am_nd 169 (am_lf (167, .iload 5, 2)) (am_lf (169, .invokestatic 66, 3))))) (am_nd 181 (am_nd 176 (am_nd 175 (am_lf (172, .ifCond .eq 9, 3)) (am_lf (175, .aload_n 0, 1))) (am_nd 178 (am_lf (176, .iload 6, 2)) (am_lf (178, .invokevirtual 19, 3)))) (am_nd 1000000 (am_nd 1000000 (am_lf (181, .return_, 1)) (am_lf (181, .return_, 1))) (am_nd 1000000 (am_lf (181, .return_, 1)) (am_lf (181, .return_, 1)))))))
def am_c46_3 : am_T am_E 5 := (am_nd 1000000 (am_nd 1000000 (am_nd 1000000 (am_nd 1000000 (am_nd 1000000 (am_lf (181, .return_, 1)) (am_lf (181, .return_, 1))) (am_nd 1000000 (am_lf (181, .return_, 1)) (am_lf (181, .return_, 1)))) (am_nd 1000000 (am_nd 1000000 (am_lf (181, .return_, 1)) (am_lf (181, .return_, 1))) (am_nd 1000000 (am_lf (181, .return_, 1)) (am_lf (181, .return_, 1))))) (am_nd 1000000 (am_nd 1000000 (am_nd 1000000 (am_lf (181, .return_, 1)) (am_lf (181, .return_, 1))) (am_nd 1000000 (am_lf (181, .return_, 1)) (am_lf (181, .return_, 1)))) (am_nd 1000000 (am_nd 1000000 (am_lf (181, .return_, 1)) (am_lf (181, .return_, 1))) (am_nd 1000000 (am_lf (181, .return_, 1)) (am_lf (181, .return_, 1)))))) (am_nd 1000000 (am_nd 1000000 (am_nd 1000000 (am_nd 1000000 (am_lf (181, .return_, 1)) (am_lf (181, .return_, 1))) (am_nd 1000000 (am_lf (181, .return_, 1)) (am_lf (181, .return_, 1)))) (am_nd 1000000 (am_nd 1000000 (am_lf (181, .return_, 1)) (am_lf (181, .return_, 1))) (am_nd 1000000 (am_lf (181, .return_, 1)) (am_lf (181, .return_, 1))))) (am_nd 1000000 (am_nd 1000000 (am_nd 1000000 (am_lf (181, .return_, 1)) (am_lf (181, .return_, 1))) (am_nd 1000000 (am_lf (181, .return_, 1)) (am_lf (181, .return_, 1)))) (am_nd 1000000 (am_nd 1000000 (am_lf (181, .return_, 1)) (am_lf (181, .return_, 1))) (am_nd 1000000 (am_lf (181, .return_, 1)) (am_lf (181, .return_, 1)))))))
def am_c46 : am_T am_E 7 := (am_nd 124 (am_nd 58 am_c46_0 am_c46_1) (am_nd 1000000 am_c46_2 am_c46_3))
def am_c47_0 : am_T am_E 5 := (am_nd 32 (am_nd 15 (am_nd 6 (am_nd 4 (am_nd 1 (am_lf (0, .iload_n 1, 1)) (am_lf (1, .ifCond .lt 40, 3))) (am_nd 5 (am_lf (4, .iload_n 1, 1)) (am_lf (5, .aload_n 0, 1)))) (am_nd 12 (am_nd 9 (am_lf (6, .getfield 21, 3)) (am_lf (9, .if_icmp .ge 32, 3))) (am_nd 13 (am_lf (12, .iload_n 1, 1)) (am_lf (13, .bipush 6, 2))))) (am_nd 23 (am_nd 19 (am_nd 18 (am_lf (15, .if_icmp .ge 26, 3)) (am_lf (18, .iload_n 2, 1))) (am_nd 22 (am_lf (19, .ifCond .lt 22, 3)) (am_lf (22, .iload_n 2, 1)))) (am_nd 28 (am_nd 25 (am_lf (23, .bipush 8, 2)) (am_lf (25, .if_icmp .ge 16, 3))) (am_nd 29 (am_lf (28, .iload_n 3, 1)) (am_lf (29, .ifCond .lt 12, 3)))))) (am_nd 46 (am_nd 38 (am_nd 34 (am_nd 33 (am_lf (32, .iload_n 3, 1)) (am_lf (33, .iconst 4, 1))) (am_nd 37 (am_lf (34, .if_icmp .ge 7, 3)) (am_lf (37, .iconst 1, 1)))) (am_nd 42 (am_nd 41 (am_lf (38, .goto 4, 3)) (am_lf (41, .iconst 0, 1))) (am_nd 44 (am_lf (42, .istore 4, 2)) (am_lf (44, .iload 4, 2))))) (am_nd 54 (am_nd 50 (am_nd 49 (am_lf (46, .ifCond .eq 21, 3)) (am_lf (49, .aload_n 0, 1))) (am_nd 53 (am_lf (50, .getfield 9, 3)) (am_lf (53, .iload_n 1, 1)))) (am_nd 57 (am_nd 56 (am_lf (54, .bipush 8, 2)) (am_lf (56, .imul, 1))) (am_nd 58 (am_lf (57, .iload_n 2, 1)) (am_lf (58, .iadd, 1)))))))
def am_c47_1 : am_T am_E 5 := (am_nd 1000000 (am_nd 1000000 (am_nd 63 (am_nd 61 (am_nd 60 (am_lf (59, .iconst 4, 1)) (am_lf (60, .imul, 1))) (am_nd 62 (am_lf (61, .iload_n 3, 1)) (am_lf (62, .iadd, 1)))) (am_nd 67 (am_nd 64 (am_lf (63, .iaload, 1)) (am_lf (64, .goto 4, 3))) (am_nd 68 (am_lf (67, .iconst 0, 1)) (am_lf (68, .ireturn, 1))))) (am_nd 1000000 (am_nd 1000000 (am_nd 1000000 (am_lf (68, .ireturn, 1)) (am_lf (68, .ireturn, 1))) (am_nd 1000000 (am_lf (68, .ireturn, 1)) (am_lf (68, .ireturn, 1)))) (am_nd 1000000 (am_nd 1000000 (am_lf (68, .ireturn, 1)) (am_lf (68, .ireturn, 1))) (am_nd 1000000 (am_lf (68, .ireturn, 1)) (am_lf (68, .ireturn, 1)))))) (am_nd 1000000 (am_nd 1000000 (am_nd 1000000 (am_nd 1000000 (am_lf (68, .ireturn, 1)) (am_lf (68, .ireturn, 1))) (am_nd 1000000 (am_lf (68, .ireturn, 1)) (am_lf (68, .ireturn, 1)))) (am_nd 1000000 (am_nd 1000000 (am_lf (68, .ireturn, 1)) (am_lf (68, .ireturn, 1))) (am_nd 1000000 (am_lf (68, .ireturn, 1)) (am_lf (68, .ireturn, 1))))) (am_nd 1000000 (am_nd 1000000 (am_nd 1000000 (am_lf (68, .ireturn, 1)) (am_lf (68, .ireturn, 1))) (am_nd 1000000 (am_lf (68, .ireturn, 1)) (am_lf (68, .ireturn, 1)))) (am_nd 1000000 (am_nd 1000000 (am_lf (68, .ireturn, 1)) (am_lf (68, .ireturn, 1))) (am_nd 1000000 (am_lf (68, .ireturn, 1)) (am_lf (68, .ireturn, 1)))))))
def am_c47 : am_T am_E 6 := (am_nd 59 am_c47_0 am_c47_1)
def am_c48 : am_T am_E 4 := (am_nd 14 (am_nd 8 (am_nd 4 (am_nd 1 (am_lf (0, .iload_n 1, 1)) (am_lf (1, .invokestatic 81, 3))) (am_nd 7 (am_lf (4, .ifCond .eq 17, 3)) (am_lf (7, .aload_n 0, 1)))) (am_nd 12 (am_nd 11 (am_lf (8, .getfield 9, 3)) (am_lf (11, .iload_n 1, 1))) (am_nd 13 (am_lf (12, .iconst 1, 1)) (am_lf (13, .bastore, 1))))) (am_nd 20 (am_nd 18 (am_nd 15 (am_lf (14, .aload_n 0, 1)) (am_lf (15, .getfield 15, 3))) (am_nd 19 (am_lf (18, .iload_n 1, 1)) (am_lf (19, .iload_n 2, 1)))) (am_nd 1000000 (am_nd 21 (am_lf (20, .iastore, 1)) (am_lf (21, .return_, 1))) (am_nd 1000000 (am_lf (21, .return_, 1)) (am_lf (21, .return_, 1))))))
def am_c49 : am_T am_E 4 := (am_nd 16 (am_nd 8 (am_nd 4 (am_nd 1 (am_lf (0, .iload_n 1, 1)) (am_lf (1, .invokestatic 81, 3))) (am_nd 7 (am_lf (4, .ifCond .eq 16, 3)) (am_lf (7, .aload_n 0, 1)))) (am_nd 12 (am_nd 11 (am_lf (8, .getfield 9, 3)) (am_lf (11, .iload_n 1, 1))) (am_nd 13 (am_lf (12, .baload, 1)) (am_lf (13, .ifCond .eq 7, 3))))) (am_nd 1000000 (am_nd 20 (am_nd 17 (am_lf (16, .iconst 1, 1)) (am_lf (17, .goto 4, 3))) (am_nd 21 (am_lf (20, .iconst 0, 1)) (am_lf (21, .ireturn, 1)))) (am_nd 1000000 (am_nd 1000000 (am_lf (21, .ireturn, 1)) (am_lf (21, .ireturn, 1))) (am_nd 1000000 (am_lf (21, .ireturn, 1)) (am_lf (21, .ireturn, 1))))))
def am_c50 : am_T am_E 4 := (am_nd 16 (am_nd 8 (am_nd 4 (am_nd 1 (am_lf (0, .iload_n 1, 1)) (am_lf (1, .invokestatic 81, 3))) (am_nd 7 (am_lf (4, .ifCond .eq 12, 3)) (am_lf (7, .aload_n 0, 1)))) (am_nd 12 (am_nd 11 (am_lf (8, .getfield 15, 3)) (am_lf (11, .iload_n 1, 1))) (am_nd 13 (am_lf (12, .iaload, 1)) (am_lf (13, .goto 4, 3))))) (am_nd 1000000 (am_nd 1000000 (am_nd 17 (am_lf (16, .iconst 0, 1)) (am_lf (17, .ireturn, 1))) (am_nd 1000000 (am_lf (17, .ireturn, 1)) (am_lf (17, .ireturn, 1)))) (am_nd 1000000 (am_nd 1000000 (am_lf (17, .ireturn, 1)) (am_lf (17, .ireturn, 1))) (am_nd 1000000 (am_lf (17, .ireturn, 1)) (am_lf (17, .ireturn, 1))))))
def am_c51 : am_T am_E 4 := (am_nd 15 (am_nd 6 (am_nd 2 (am_nd 1 (am_lf (0, .iload_n 0, 1)) (am_lf (1, .iconst 2, 1))) (am_nd 5 (am_lf (2, .if_icmp .lt 13, 3)) (am_lf (5, .iload_n 0, 1)))) (am_nd 11 (am_nd 8 (am_lf (6, .bipush 7, 2)) (am_lf (8, .if_icmp .gt 7, 3))) (am_nd 12 (am_lf (11, .iconst 1, 1)) (am_lf (12, .goto 4, 3))))) (am_nd 1000000 (am_nd 1000000 (am_nd 16 (am_lf (15, .iconst 0, 1)) (am_lf (16, .ireturn, 1))) (am_nd 1000000 (am_lf (16, .ireturn, 1)) (am_lf (16, .ireturn, 1)))) (am_nd 1000000 (am_nd 1000000 (am_lf (16, .ireturn, 1)) (am_lf (16, .ireturn, 1))) (am_nd 1000000 (am_lf (16, .ireturn, 1)) (am_lf (16, .ireturn, 1))))))
def am_c52 : am_T am_E 5 := (am_nd 32 (am_nd 16 (am_nd 8 (am_nd 2 (am_nd 1 (am_lf (0, .aload_n 0, 1)) (am_lf (1, .iload_n 2, 1))) (am_nd 5 (am_lf (2, .invokevirtual 45, 3)) (am_lf (5, .ifCond .eq 27, 3)))) (am_nd 10 (am_nd 9 (am_lf (8, .aload_n 0, 1)) (am_lf (9, .iload_n 3, 1))) (am_nd 13 (am_lf (10, .invokevirtual 45, 3)) (am_lf (13, .ifCond .eq 19, 3))))) (am_nd 22 (am_nd 18 (am_nd 17 (am_lf (16, .iload_n 1, 1)) (am_lf (17, .aload_n 0, 1))) (am_nd 19 (am_lf (18, .iload_n 3, 1)) (am_lf (19, .invokevirtual 49, 3)))) (am_nd 28 (am_nd 25 (am_lf (22, .invokestatic 69, 3)) (am_lf (25, .ifCond .ne 7, 3))) (am_nd 29 (am_lf (28, .iconst 1, 1)) (am_lf (29, .goto 4, 3)))))) (am_nd 1000000 (am_nd 1000000 (am_nd 1000000 (am_nd 33 (am_lf (32, .iconst 0, 1)) (am_lf (33, .ireturn, 1))) (am_nd 1000000 (am_lf (33, .ireturn, 1)) (am_lf (33, .ireturn, 1)))) (am_nd 1000000 (am_nd 1000000 (am_lf (33, .ireturn, 1)) (am_lf (33, .ireturn, 1))) (am_nd 1000000 (am_lf (33, .ireturn, 1)) (am_lf (33, .ireturn, 1))))) (am_nd 1000000 (am_nd 1000000 (am_nd 1000000 (am_lf (33, .ireturn, 1)) (am_lf (33, .ireturn, 1))) (am_nd 1000000 (am_lf (33, .ireturn, 1)) (am_lf (33, .ireturn, 1)))) (am_nd 1000000 (am_nd 1000000 (am_lf (33, .ireturn, 1)) (am_lf (33, .ireturn, 1))) (am_nd 1000000 (am_lf (33, .ireturn, 1)) (am_lf (33, .ireturn, 1)))))))
def am_c53 : am_T am_E 4 := (am_nd 15 (am_nd 7 (am_nd 3 (am_nd 1 (am_lf (0, .iload_n 0, 1)) (am_lf (1, .bipush 7, 2))) (am_nd 6 (am_lf (3, .if_icmp .ne 11, 3)) (am_lf (6, .iload_n 1, 1)))) (am_nd 11 (am_nd 10 (am_lf (7, .ifCond .ne 7, 3)) (am_lf (10, .iconst 1, 1))) (am_nd 14 (am_lf (11, .goto 4, 3)) (am_lf (14, .iconst 0, 1))))) (am_nd 1000000 (am_nd 1000000 (am_nd 1000000 (am_lf (15, .ireturn, 1)) (am_lf (15, .ireturn, 1))) (am_nd 1000000 (am_lf (15, .ireturn, 1)) (am_lf (15, .ireturn, 1)))) (am_nd 1000000 (am_nd 1000000 (am_lf (15, .ireturn, 1)) (am_lf (15, .ireturn, 1))) (am_nd 1000000 (am_lf (15, .ireturn, 1)) (am_lf (15, .ireturn, 1))))))
def am_c54_0 : am_T am_E 5 := (am_nd 54 (am_nd 46 (am_nd 42 (am_nd 40 (am_nd 1 (am_lf (0, .iload_n 0, 1)) (am_lf (1, .tableswitch 78 2 7 #[39, 43, 47, 51, 55, 66], 39))) (am_nd 41 (am_lf (40, .iload_n 1, 1)) (am_lf (41, .iload_n 2, 1)))) (am_nd 44 (am_nd 43 (am_lf (42, .iadd, 1)) (am_lf (43, .ireturn, 1))) (am_nd 45 (am_lf (44, .iload_n 1, 1)) (am_lf (45, .iload_n 2, 1))))) (am_nd 50 (am_nd 48 (am_nd 47 (am_lf (46, .isub, 1)) (am_lf (47, .ireturn, 1))) (am_nd 49 (am_lf (48, .iload_n 1, 1)) (am_lf (49, .iload_n 2, 1)))) (am_nd 52 (am_nd 51 (am_lf (50, .imul, 1)) (am_lf (51, .ireturn, 1))) (am_nd 53 (am_lf (52, .iload_n 1, 1)) (am_lf (53, .iload_n 2, 1)))))) (am_nd 66 (am_nd 58 (am_nd 56 (am_nd 55 (am_lf (54, .iand, 1)) (am_lf (55, .ireturn, 1))) (am_nd 57 (am_lf (56, .iload_n 1, 1)) (am_lf (57, .iload_n 2, 1)))) (am_nd 62 (am_nd 61 (am_lf (58, .if_icmp .ge 7, 3)) (am_lf (61, .iconst 1, 1))) (am_nd 65 (am_lf (62, .goto 4, 3)) (am_lf (65, .iconst 0, 1))))) (am_nd 72 (am_nd 68 (am_nd 67 (am_lf (66, .ireturn, 1)) (am_lf (67, .iload_n 2, 1))) (am_nd 71 (am_lf (68, .ifCond .ne 7, 3)) (am_lf (71, .iconst 0, 1)))) (am_nd 76 (am_nd 75 (am_lf (72, .goto 6, 3)) (am_lf (75, .iload_n 1, 1))) (am_nd 77 (am_lf (76, .iload_n 2, 1)) (am_lf (77, .idiv, 1)))))))
def am_c54_1 : am_T am_E 5 := (am_nd 1000000 (am_nd 1000000 (am_nd 1000000 (am_nd 80 (am_nd 79 (am_lf (78, .ireturn, 1)) (am_lf (79, .iconst 0, 1))) (am_nd 1000000 (am_lf (80, .ireturn, 1)) (am_lf (80, .ireturn, 1)))) (am_nd 1000000 (am_nd 1000000 (am_lf (80, .ireturn, 1)) (am_lf (80, .ireturn, 1))) (am_nd 1000000 (am_lf (80, .ireturn, 1)) (am_lf (80, .ireturn, 1))))) (am_nd 1000000 (am_nd 1000000 (am_nd 1000000 (am_lf (80, .ireturn, 1)) (am_lf (80, .ireturn, 1))) (am_nd 1000000 (am_lf (80, .ireturn, 1)) (am_lf (80, .ireturn, 1)))) (am_nd 1000000 (am_nd 1000000 (am_lf (80, .ireturn, 1)) (am_lf (80, .ireturn, 1))) (am_nd 1000000 (am_lf (80, .ireturn, 1)) (am_lf (80, .ireturn, 1)))))) (am_nd 1000000 (am_nd 1000000 (am_nd 1000000 (am_nd 1000000 (am_lf (80, .ireturn, 1)) (am_lf (80, .ireturn, 1))) (am_nd 1000000 (am_lf (80, .ireturn, 1)) (am_lf (80, .ireturn, 1)))) (am_nd 1000000 (am_nd 1000000 (am_lf (80, .ireturn, 1)) (am_lf (80, .ireturn, 1))) (am_nd 1000000 (am_lf (80, .ireturn, 1)) (am_lf (80, .ireturn, 1))))) (am_nd 1000000 (am_nd 1000000 (am_nd 1000000 (am_lf (80, .ireturn, 1)) (am_lf (80, .ireturn, 1))) (am_nd 1000000 (am_lf (80, .ireturn, 1)) (am_lf (80, .ireturn, 1)))) (am_nd 1000000 (am_nd 1000000 (am_lf (80, .ireturn, 1)) (am_lf (80, .ireturn, 1))) (am_nd 1000000 (am_lf (80, .ireturn, 1)) (am_lf (80, .ireturn, 1)))))))
def am_c54 : am_T am_E 6 := (am_nd 78 am_c54_0 am_c54_1)
def am_c55_0 : am_T am_E 5 := (am_nd 28 (am_nd 11 (am_nd 6 (am_nd 2 (am_nd 1 (am_lf (0, .aload_n 1, 1)) (am_lf (1, .iload_n 3, 1))) (am_nd 3 (am_lf (2, .iconst 1, 1)) (am_lf (3, .invokevirtual 73, 3)))) (am_nd 9 (am_nd 8 (am_lf (6, .istore 4, 2)) (am_lf (8, .aload_n 1, 1))) (am_nd 10 (am_lf (9, .iload_n 3, 1)) (am_lf (10, .iconst 0, 1))))) (am_nd 19 (am_nd 15 (am_nd 14 (am_lf (11, .invokevirtual 73, 3)) (am_lf (14, .iconst 1, 1))) (am_nd 18 (am_lf (15, .if_icmp .ne 48, 3)) (am_lf (18, .aload_n 0, 1)))) (am_nd 24 (am_nd 21 (am_lf (19, .iload 4, 2)) (am_lf (21, .invokevirtual 45, 3))) (am_nd 27 (am_lf (24, .ifCond .eq 39, 3)) (am_lf (27, .aload_n 0, 1)))))) (am_nd 45 (am_nd 37 (am_nd 33 (am_nd 30 (am_lf (28, .iload 4, 2)) (am_lf (30, .invokevirtual 49, 3))) (am_nd 36 (am_lf (33, .ifCond .eq 12, 3)) (am_lf (36, .aload_n 1, 1)))) (am_nd 39 (am_nd 38 (am_lf (37, .iload_n 3, 1)) (am_lf (38, .iconst 2, 1))) (am_nd 42 (am_lf (39, .invokevirtual 73, 3)) (am_lf (42, .goto 9, 3))))) (am_nd 51 (am_nd 47 (am_nd 46 (am_lf (45, .aload_n 1, 1)) (am_lf (46, .iload_n 3, 1))) (am_nd 48 (am_lf (47, .iconst 3, 1)) (am_lf (48, .invokevirtual 73, 3)))) (am_nd 54 (am_nd 53 (am_lf (51, .istore 5, 2)) (am_lf (53, .aload_n 2, 1))) (am_nd 55 (am_lf (54, .iload_n 3, 1)) (am_lf (55, .iconst 0, 1)))))))
def am_c55_1 : am_T am_E 5 := (am_nd 1000000 (am_nd 1000000 (am_nd 63 (am_nd 59 (am_nd 57 (am_lf (56, .iconst 0, 1)) (am_lf (57, .iload 5, 2))) (am_nd 60 (am_lf (59, .iconst 0, 1)) (am_lf (60, .invokevirtual 77, 3)))) (am_nd 1000000 (am_nd 1000000 (am_lf (63, .return_, 1)) (am_lf (63, .return_, 1))) (am_nd 1000000 (am_lf (63, .return_, 1)) (am_lf (63, .return_, 1))))) (am_nd 1000000 (am_nd 1000000 (am_nd 1000000 (am_lf (63, .return_, 1)) (am_lf (63, .return_, 1))) (am_nd 1000000 (am_lf (63, .return_, 1)) (am_lf (63, .return_, 1)))) (am_nd 1000000 (am_nd 1000000 (am_lf (63, .return_, 1)) (am_lf (63, .return_, 1))) (am_nd 1000000 (am_lf (63, .return_, 1)) (am_lf (63, .return_, 1)))))) (am_nd 1000000 (am_nd 1000000 (am_nd 1000000 (am_nd 1000000 (am_lf (63, .return_, 1)) (am_lf (63, .return_, 1))) (am_nd 1000000 (am_lf (63, .return_, 1)) (am_lf (63, .return_, 1)))) (am_nd 1000000 (am_nd 1000000 (am_lf (63, .return_, 1)) (am_lf (63, .return_, 1))) (am_nd 1000000 (am_lf (63, .return_, 1)) (am_lf (63, .return_, 1))))) (am_nd 1000000 (am_nd 1000000 (am_nd 1000000 (am_lf (63, .return_, 1)) (am_lf (63, .return_, 1))) (am_nd 1000000 (am_lf (63, .return_, 1)) (am_lf (63, .return_, 1)))) (am_nd 1000000 (am_nd 1000000 (am_lf (63, .return_, 1)) (am_lf (63, .return_, 1))) (am_nd 1000000 (am_lf (63, .return_, 1)) (am_lf (63, .return_, 1)))))))
def am_c55 : am_T am_E 6 := (am_nd 56 am_c55_0 am_c55_1)
def am_c56 : am_T am_E 5 := (am_nd 29 (am_nd 15 (am_nd 6 (am_nd 4 (am_nd 1 (am_lf (0, .iload_n 1, 1)) (am_lf (1, .ifCond .lt 17, 3))) (am_nd 5 (am_lf (4, .iload_n 1, 1)) (am_lf (5, .aload_n 0, 1)))) (am_nd 12 (am_nd 9 (am_lf (6, .getfield 21, 3)) (am_lf (9, .if_icmp .ge 9, 3))) (am_nd 13 (am_lf (12, .iload_n 1, 1)) (am_lf (13, .bipush 6, 2))))) (am_nd 23 (am_nd 19 (am_nd 18 (am_lf (15, .if_icmp .lt 13, 3)) (am_lf (18, .iload_n 2, 1))) (am_nd 22 (am_lf (19, .ifCond .ne 7, 3)) (am_lf (22, .iconst 2, 1)))) (am_nd 27 (am_nd 26 (am_lf (23, .goto 4, 3)) (am_lf (26, .iconst 0, 1))) (am_nd 28 (am_lf (27, .ireturn, 1)) (am_lf (28, .iload_n 2, 1)))))) (am_nd 43 (am_nd 37 (am_nd 33 (am_nd 32 (am_lf (29, .ifCond .lt 21, 3)) (am_lf (32, .iload_n 2, 1))) (am_nd 34 (am_lf (33, .iconst 4, 1)) (am_lf (34, .if_icmp .ge 16, 3)))) (am_nd 41 (am_nd 38 (am_lf (37, .aload_n 0, 1)) (am_lf (38, .getfield 15, 3))) (am_nd 42 (am_lf (41, .iload_n 1, 1)) (am_lf (42, .iconst 4, 1))))) (am_nd 47 (am_nd 45 (am_nd 44 (am_lf (43, .imul, 1)) (am_lf (44, .iload_n 2, 1))) (am_nd 46 (am_lf (45, .iadd, 1)) (am_lf (46, .iaload, 1)))) (am_nd 51 (am_nd 50 (am_lf (47, .goto 4, 3)) (am_lf (50, .iconst 0, 1))) (am_nd 1000000 (am_lf (51, .ireturn, 1)) (am_lf (51, .ireturn, 1)))))))
def am_c57_0 : am_T am_E 5 := (am_nd 29 (am_nd 14 (am_nd 7 (am_nd 2 (am_nd 1 (am_lf (0, .aload_n 1, 1)) (am_lf (1, .iload_n 3, 1))) (am_nd 5 (am_lf (2, .invokevirtual 9, 3)) (am_lf (5, .istore 4, 2)))) (am_nd 10 (am_nd 8 (am_lf (7, .iconst 0, 1)) (am_lf (8, .istore 5, 2))) (am_nd 12 (am_lf (10, .iload 5, 2)) (am_lf (12, .iload 4, 2))))) (am_nd 21 (am_nd 18 (am_nd 17 (am_lf (14, .if_icmp .ge 78, 3)) (am_lf (17, .aload_n 1, 1))) (am_nd 19 (am_lf (18, .iload_n 3, 1)) (am_lf (19, .iload 5, 2)))) (am_nd 25 (am_nd 22 (am_lf (21, .iconst 0, 1)) (am_lf (22, .invokevirtual 15, 3))) (am_nd 27 (am_lf (25, .istore 6, 2)) (am_lf (27, .iload 6, 2)))))) (am_nd 45 (am_nd 39 (am_nd 34 (am_nd 31 (am_lf (29, .bipush 8, 2)) (am_lf (31, .if_icmp .eq 11, 3))) (am_nd 36 (am_lf (34, .iload 6, 2)) (am_lf (36, .invokestatic 19, 3)))) (am_nd 43 (am_nd 42 (am_lf (39, .ifCond .eq 14, 3)) (am_lf (42, .aload_n 0, 1))) (am_nd 44 (am_lf (43, .aload_n 1, 1)) (am_lf (44, .iload_n 3, 1))))) (am_nd 54 (am_nd 50 (am_nd 47 (am_lf (45, .iload 5, 2)) (am_lf (47, .invokevirtual 23, 3))) (am_nd 53 (am_lf (50, .goto 4, 3)) (am_lf (53, .iconst (-1), 1)))) (am_nd 58 (am_nd 56 (am_lf (54, .istore 7, 2)) (am_lf (56, .iload 7, 2))) (am_nd 61 (am_lf (58, .ifCond .lt 28, 3)) (am_lf (61, .aload_n 2, 1)))))))
def am_c57_1 : am_T am_E 5 := (am_nd 89 (am_nd 74 (am_nd 67 (am_nd 65 (am_nd 63 (am_lf (62, .iload_n 3, 1)) (am_lf (63, .iload 5, 2))) (am_nd 66 (am_lf (65, .iconst 1, 1)) (am_lf (66, .aload_n 1, 1)))) (am_nd 70 (am_nd 68 (am_lf (67, .iload_n 3, 1)) (am_lf (68, .iload 5, 2))) (am_nd 71 (am_lf (70, .iconst 1, 1)) (am_lf (71, .invokevirtual 15, 3))))) (am_nd 79 (am_nd 76 (am_nd 75 (am_lf (74, .aload_n 1, 1)) (am_lf (75, .iload_n 3, 1))) (am_nd 78 (am_lf (76, .iload 7, 2)) (am_lf (78, .iconst 1, 1)))) (am_nd 83 (am_nd 82 (am_lf (79, .invokevirtual 15, 3)) (am_lf (82, .iconst 0, 1))) (am_nd 86 (am_lf (83, .invokevirtual 29, 3)) (am_lf (86, .iinc 5 1, 3)))))) (am_nd 1000000 (am_nd 1000000 (am_nd 1000000 (am_nd 92 (am_lf (89, .goto (-79), 3)) (am_lf (92, .return_, 1))) (am_nd 1000000 (am_lf (92, .return_, 1)) (am_lf (92, .return_, 1)))) (am_nd 1000000 (am_nd 1000000 (am_lf (92, .return_, 1)) (am_lf (92, .return_, 1))) (am_nd 1000000 (am_lf (92, .return_, 1)) (am_lf (92, .return_, 1))))) (am_nd 1000000 (am_nd 1000000 (am_nd 1000000 (am_lf (92, .return_, 1)) (am_lf (92, .return_, 1))) (am_nd 1000000 (am_lf (92, .return_, 1)) (am_lf (92, .return_, 1)))) (am_nd 1000000 (am_nd 1000000 (am_lf (92, .return_, 1)) (am_lf (92, .return_, 1))) (am_nd 1000000 (am_lf (92, .return_, 1)) (am_lf (92, .return_, 1)))))))
def am_c57 : am_T am_E 6 := (am_nd 62 am_c57_0 am_c57_1)
def am_c58 : am_T am_E 5 := (am_nd 26 (am_nd 12 (am_nd 6 (am_nd 3 (am_nd 1 (am_lf (0, .iconst 0, 1)) (am_lf (1, .istore 4, 2))) (am_nd 5 (am_lf (3, .iload 4, 2)) (am_lf (5, .iload_n 3, 1)))) (am_nd 10 (am_nd 9 (am_lf (6, .if_icmp .ge 36, 3)) (am_lf (9, .aload_n 0, 1))) (am_nd 11 (am_lf (10, .aload_n 1, 1)) (am_lf (11, .iload_n 2, 1))))) (am_nd 21 (am_nd 15 (am_nd 14 (am_lf (12, .iload 4, 2)) (am_lf (14, .iload_n 3, 1))) (am_nd 18 (am_lf (15, .invokevirtual 33, 3)) (am_lf (18, .ifCond .eq 18, 3)))) (am_nd 23 (am_nd 22 (am_lf (21, .aload_n 0, 1)) (am_lf (22, .aload_n 1, 1))) (am_nd 24 (am_lf (23, .iload_n 2, 1)) (am_lf (24, .iload 4, 2)))))) (am_nd 43 (am_nd 35 (am_nd 30 (am_nd 27 (am_lf (26, .iload_n 3, 1)) (am_lf (27, .invokevirtual 37, 3))) (am_nd 33 (am_lf (30, .ifCond .eq 6, 3)) (am_lf (33, .iload 4, 2)))) (am_nd 39 (am_nd 36 (am_lf (35, .ireturn, 1)) (am_lf (36, .iinc 4 1, 3))) (am_nd 42 (am_lf (39, .goto (-36), 3)) (am_lf (42, .iconst (-1), 1))))) (am_nd 1000000 (am_nd 1000000 (am_nd 1000000 (am_lf (43, .ireturn, 1)) (am_lf (43, .ireturn, 1))) (am_nd 1000000 (am_lf (43, .ireturn, 1)) (am_lf (43, .ireturn, 1)))) (am_nd 1000000 (am_nd 1000000 (am_lf (43, .ireturn, 1)) (am_lf (43, .ireturn, 1))) (am_nd 1000000 (am_lf (43, .ireturn, 1)) (am_lf (43, .ireturn, 1)))))))
def am_c59_0 : am_T am_E 5 := (am_nd 25 (am_nd 11 (am_nd 4 (am_nd 2 (am_nd 1 (am_lf (0, .aload_n 1, 1)) (am_lf (1, .iload_n 2, 1))) (am_nd 3 (am_lf (2, .iload_n 3, 1)) (am_lf (3, .iconst 0, 1)))) (am_nd 8 (am_nd 7 (am_lf (4, .invokevirtual 15, 3)) (am_lf (7, .aload_n 1, 1))) (am_nd 9 (am_lf (8, .iload_n 2, 1)) (am_lf (9, .iload 4, 2))))) (am_nd 19 (am_nd 15 (am_nd 12 (am_lf (11, .iconst 0, 1)) (am_lf (12, .invokevirtual 15, 3))) (am_nd 18 (am_lf (15, .if_icmp .ne 43, 3)) (am_lf (18, .aload_n 1, 1)))) (am_nd 21 (am_nd 20 (am_lf (19, .iload_n 2, 1)) (am_lf (20, .iload_n 3, 1))) (am_nd 22 (am_lf (21, .iconst 2, 1)) (am_lf (22, .invokevirtual 15, 3)))))) (am_nd 38 (am_nd 30 (am_nd 27 (am_nd 26 (am_lf (25, .aload_n 1, 1)) (am_lf (26, .iload_n 2, 1))) (am_nd 29 (am_lf (27, .iload 4, 2)) (am_lf (29, .iconst 2, 1)))) (am_nd 36 (am_nd 33 (am_lf (30, .invokevirtual 15, 3)) (am_lf (33, .if_icmp .ne 25, 3))) (am_nd 37 (am_lf (36, .aload_n 1, 1)) (am_lf (37, .iload_n 2, 1))))) (am_nd 44 (am_nd 40 (am_nd 39 (am_lf (38, .iload_n 3, 1)) (am_lf (39, .iconst 3, 1))) (am_nd 43 (am_lf (40, .invokevirtual 15, 3)) (am_lf (43, .aload_n 1, 1)))) (am_nd 47 (am_nd 45 (am_lf (44, .iload_n 2, 1)) (am_lf (45, .iload 4, 2))) (am_nd 48 (am_lf (47, .iconst 3, 1)) (am_lf (48, .invokevirtual 15, 3)))))))
def am_c59_1 : am_T am_E 5 := (am_nd 1000000 (am_nd 1000000 (am_nd 59 (am_nd 55 (am_nd 54 (am_lf (51, .if_icmp .ne 7, 3)) (am_lf (54, .iconst 1, 1))) (am_nd 58 (am_lf (55, .goto 4, 3)) (am_lf (58, .iconst 0, 1)))) (am_nd 1000000 (am_nd 1000000 (am_lf (59, .ireturn, 1)) (am_lf (59, .ireturn, 1))) (am_nd 1000000 (am_lf (59, .ireturn, 1)) (am_lf (59, .ireturn, 1))))) (am_nd 1000000 (am_nd 1000000 (am_nd 1000000 (am_lf (59, .ireturn, 1)) (am_lf (59, .ireturn, 1))) (am_nd 1000000 (am_lf (59, .ireturn, 1)) (am_lf (59, .ireturn, 1)))) (am_nd 1000000 (am_nd 1000000 (am_lf (59, .ireturn, 1)) (am_lf (59, .ireturn, 1))) (am_nd 1000000 (am_lf (59, .ireturn, 1)) (am_lf (59, .ireturn, 1)))))) (am_nd 1000000 (am_nd 1000000 (am_nd 1000000 (am_nd 1000000 (am_lf (59, .ireturn, 1)) (am_lf (59, .ireturn, 1))) (am_nd 1000000 (am_lf (59, .ireturn, 1)) (am_lf (59, .ireturn, 1)))) (am_nd 1000000 (am_nd 1000000 (am_lf (59, .ireturn, 1)) (am_lf (59, .ireturn, 1))) (am_nd 1000000 (am_lf (59, .ireturn, 1)) (am_lf (59, .ireturn, 1))))) (am_nd 1000000 (am_nd 1000000 (am_nd 1000000 (am_lf (59, .ireturn, 1)) (am_lf (59, .ireturn, 1))) (am_nd 1000000 (am_lf (59, .ireturn, 1)) (am_lf (59, .ireturn, 1)))) (am_nd 1000000 (am_nd 1000000 (am_lf (59, .ireturn, 1)) (am_lf (59, .ireturn, 1))) (am_nd 1000000 (am_lf (59, .ireturn, 1)) (am_lf (59, .ireturn, 1)))))))
def am_c59 : am_T am_E 6 := (am_nd 51 am_c59_0 am_c59_1)
def am_c60_0 : am_T am_E 5 := (am_nd 24 (am_nd 11 (am_nd 4 (am_nd 2 (am_nd 1 (am_lf (0, .aload_n 1, 1)) (am_lf (1, .iload_n 2, 1))) (am_nd 3 (am_lf (2, .iload_n 3, 1)) (am_lf (3, .iconst 1, 1)))) (am_nd 9 (am_nd 7 (am_lf (4, .invokevirtual 15, 3)) (am_lf (7, .istore 5, 2))) (am_nd 10 (am_lf (9, .aload_n 1, 1)) (am_lf (10, .iload_n 2, 1))))) (am_nd 20 (am_nd 14 (am_nd 12 (am_lf (11, .iload_n 3, 1)) (am_lf (12, .iload 5, 2))) (am_nd 17 (am_lf (14, .invokevirtual 40, 3)) (am_lf (17, .ifCond .eq 5, 3)))) (am_nd 22 (am_nd 21 (am_lf (20, .iconst 0, 1)) (am_lf (21, .ireturn, 1))) (am_nd 23 (am_lf (22, .aload_n 1, 1)) (am_lf (23, .iload_n 2, 1)))))) (am_nd 39 (am_nd 31 (am_nd 26 (am_nd 25 (am_lf (24, .iload_n 3, 1)) (am_lf (25, .iconst 0, 1))) (am_nd 29 (am_lf (26, .invokevirtual 15, 3)) (am_lf (29, .bipush 8, 2)))) (am_nd 35 (am_nd 34 (am_lf (31, .if_icmp .ne 7, 3)) (am_lf (34, .iconst 1, 1))) (am_nd 38 (am_lf (35, .goto 4, 3)) (am_lf (38, .iconst 0, 1))))) (am_nd 44 (am_nd 42 (am_nd 41 (am_lf (39, .istore 6, 2)) (am_lf (41, .iload_n 3, 1))) (am_nd 43 (am_lf (42, .iconst 1, 1)) (am_lf (43, .iadd, 1)))) (am_nd 48 (am_nd 46 (am_lf (44, .istore 7, 2)) (am_lf (46, .iload 7, 2))) (am_nd 50 (am_lf (48, .iload 4, 2)) (am_lf (50, .if_icmp .ge 58, 3)))))))
def am_c60_1 : am_T am_E 5 := (am_nd 82 (am_nd 68 (am_nd 60 (am_nd 55 (am_nd 54 (am_lf (53, .aload_n 1, 1)) (am_lf (54, .iload_n 2, 1))) (am_nd 57 (am_lf (55, .iload 7, 2)) (am_lf (57, .invokevirtual 44, 3)))) (am_nd 64 (am_nd 62 (am_lf (60, .istore 8, 2)) (am_lf (62, .iload 6, 2))) (am_nd 67 (am_lf (64, .ifCond .eq 18, 3)) (am_lf (67, .aload_n 1, 1))))) (am_nd 75 (am_nd 71 (am_nd 69 (am_lf (68, .iload_n 2, 1)) (am_lf (69, .iload 7, 2))) (am_nd 72 (am_lf (71, .iconst 0, 1)) (am_lf (72, .invokevirtual 15, 3)))) (am_nd 80 (am_nd 77 (am_lf (75, .bipush 9, 2)) (am_lf (77, .if_icmp .ne 5, 3))) (am_nd 81 (am_lf (80, .iconst 0, 1)) (am_lf (81, .ireturn, 1)))))) (am_nd 97 (am_nd 90 (am_nd 86 (am_nd 84 (am_lf (82, .iload 8, 2)) (am_lf (84, .iload 5, 2))) (am_nd 89 (am_lf (86, .if_icmp .eq 14, 3)) (am_lf (89, .aload_n 1, 1)))) (am_nd 92 (am_nd 91 (am_lf (90, .iload_n 2, 1)) (am_lf (91, .iload_n 3, 1))) (am_nd 94 (am_lf (92, .iload 8, 2)) (am_lf (94, .invokevirtual 40, 3))))) (am_nd 105 (am_nd 101 (am_nd 100 (am_lf (97, .ifCond .eq 5, 3)) (am_lf (100, .iconst 0, 1))) (am_nd 102 (am_lf (101, .ireturn, 1)) (am_lf (102, .iinc 7 1, 3)))) (am_nd 109 (am_nd 108 (am_lf (105, .goto (-59), 3)) (am_lf (108, .iconst 1, 1))) (am_nd 1000000 (am_lf (109, .ireturn, 1)) (am_lf (109, .ireturn, 1)))))))
def am_c60 : am_T am_E 6 := (am_nd 53 am_c60_0 am_c60_1)
def am_c61 : am_T am_E 5 := (am_nd 28 (am_nd 14 (am_nd 4 (am_nd 2 (am_nd 1 (am_lf (0, .aload_n 0, 1)) (am_lf (1, .iload_n 1, 1))) (am_nd 3 (am_lf (2, .iload_n 2, 1)) (am_lf (3, .iconst 0, 1)))) (am_nd 9 (am_nd 7 (am_lf (4, .invokevirtual 33, 3)) (am_lf (7, .istore 4, 2))) (am_nd 11 (am_lf (9, .iload 4, 2)) (am_lf (11, .invokestatic 40, 3))))) (am_nd 20 (am_nd 18 (am_nd 17 (am_lf (14, .ifCond .eq 14, 3)) (am_lf (17, .aload_n 0, 1))) (am_nd 19 (am_lf (18, .iload_n 1, 1)) (am_lf (19, .iload_n 2, 1)))) (am_nd 24 (am_nd 21 (am_lf (20, .iconst 2, 1)) (am_lf (21, .invokevirtual 33, 3))) (am_nd 25 (am_lf (24, .iload_n 3, 1)) (am_lf (25, .if_icmp .eq 22, 3)))))) (am_nd 43 (am_nd 37 (am_nd 33 (am_nd 30 (am_lf (28, .iload 4, 2)) (am_lf (30, .invokestatic 43, 3))) (am_nd 36 (am_lf (33, .ifCond .eq 18, 3)) (am_lf (36, .aload_n 0, 1)))) (am_nd 39 (am_nd 38 (am_lf (37, .iload_n 1, 1)) (am_lf (38, .iload_n 2, 1))) (am_nd 40 (am_lf (39, .iconst 3, 1)) (am_lf (40, .invokevirtual 33, 3))))) (am_nd 51 (am_nd 47 (am_nd 44 (am_lf (43, .iload_n 3, 1)) (am_lf (44, .if_icmp .ne 7, 3))) (am_nd 48 (am_lf (47, .iconst 1, 1)) (am_lf (48, .goto 4, 3)))) (am_nd 1000000 (am_nd 52 (am_lf (51, .iconst 0, 1)) (am_lf (52, .ireturn, 1))) (am_nd 1000000 (am_lf (52, .ireturn, 1)) (am_lf (52, .ireturn, 1)))))))
def am_c62 : am_T am_E 4 := (am_nd 14 (am_nd 4 (am_nd 2 (am_nd 1 (am_lf (0, .aload_n 0, 1)) (am_lf (1, .iload_n 1, 1))) (am_nd 3 (am_lf (2, .iload_n 2, 1)) (am_lf (3, .iconst 0, 1)))) (am_nd 10 (am_nd 7 (am_lf (4, .invokevirtual 33, 3)) (am_lf (7, .invokestatic 37, 3))) (am_nd 13 (am_lf (10, .ifCond .eq 13, 3)) (am_lf (13, .aload_n 0, 1))))) (am_nd 20 (am_nd 16 (am_nd 15 (am_lf (14, .iload_n 1, 1)) (am_lf (15, .iload_n 2, 1))) (am_nd 17 (am_lf (16, .iconst 1, 1)) (am_lf (17, .invokevirtual 33, 3)))) (am_nd 24 (am_nd 23 (am_lf (20, .goto 4, 3)) (am_lf (23, .iconst (-1), 1))) (am_nd 1000000 (am_lf (24, .ireturn, 1)) (am_lf (24, .ireturn, 1))))))
def am_c63_0 : am_T am_E 5 := (am_nd 30 (am_nd 15 (am_nd 7 (am_nd 2 (am_nd 1 (am_lf (0, .aload_n 1, 1)) (am_lf (1, .iload_n 3, 1))) (am_nd 5 (am_lf (2, .invokevirtual 19, 3)) (am_lf (5, .bipush 8, 2)))) (am_nd 12 (am_nd 10 (am_lf (7, .invokestatic 25, 3)) (am_lf (10, .istore 4, 2))) (am_nd 14 (am_lf (12, .iload 4, 2)) (am_lf (14, .iconst 1, 1))))) (am_nd 23 (am_nd 18 (am_nd 16 (am_lf (15, .isub, 1)) (am_lf (16, .istore 5, 2))) (am_nd 20 (am_lf (18, .iload 5, 2)) (am_lf (20, .ifCond .lt 34, 3)))) (am_nd 27 (am_nd 24 (am_lf (23, .aload_n 0, 1)) (am_lf (24, .getfield 15, 3))) (am_nd 29 (am_lf (27, .iload 5, 2)) (am_lf (29, .iconst 0, 1)))))) (am_nd 42 (am_nd 37 (am_nd 32 (am_nd 31 (am_lf (30, .bastore, 1)) (am_lf (31, .aload_n 0, 1))) (am_nd 35 (am_lf (32, .getfield 9, 3)) (am_lf (35, .iload 5, 2)))) (am_nd 39 (am_nd 38 (am_lf (37, .aload_n 0, 1)) (am_lf (38, .aload_n 1, 1))) (am_nd 40 (am_lf (39, .iload_n 3, 1)) (am_lf (40, .iload 5, 2))))) (am_nd 51 (am_nd 47 (am_nd 44 (am_lf (42, .iload 4, 2)) (am_lf (44, .invokevirtual 31, 3))) (am_nd 48 (am_lf (47, .iastore, 1)) (am_lf (48, .iinc 5 (-1), 3)))) (am_nd 55 (am_nd 54 (am_lf (51, .goto (-33), 3)) (am_lf (54, .iconst 0, 1))) (am_nd 57 (am_lf (55, .istore 5, 2)) (am_lf (57, .iload 5, 2)))))))
def am_c63_1 : am_T am_E 5 := (am_nd 92 (am_nd 74 (am_nd 66 (am_nd 64 (am_nd 61 (am_lf (59, .iload 4, 2)) (am_lf (61, .if_icmp .ge 78, 3))) (am_nd 65 (am_lf (64, .aload_n 0, 1)) (am_lf (65, .aload_n 1, 1)))) (am_nd 69 (am_nd 67 (am_lf (66, .iload_n 3, 1)) (am_lf (67, .iload 4, 2))) (am_nd 72 (am_lf (69, .invokevirtual 35, 3)) (am_lf (72, .istore 6, 2))))) (am_nd 83 (am_nd 79 (am_nd 76 (am_lf (74, .iload 6, 2)) (am_lf (76, .ifCond .lt 57, 3))) (am_nd 81 (am_lf (79, .iload 6, 2)) (am_lf (81, .bipush 8, 2)))) (am_nd 87 (am_nd 86 (am_lf (83, .if_icmp .ge 50, 3)) (am_lf (86, .aload_n 0, 1))) (am_nd 90 (am_lf (87, .getfield 15, 3)) (am_lf (90, .iload 6, 2)))))) (am_nd 102 (am_nd 96 (am_nd 94 (am_nd 93 (am_lf (92, .iconst 1, 1)) (am_lf (93, .bastore, 1))) (am_nd 95 (am_lf (94, .aload_n 2, 1)) (am_lf (95, .iload_n 3, 1)))) (am_nd 99 (am_nd 98 (am_lf (96, .iload 5, 2)) (am_lf (98, .aload_n 1, 1))) (am_nd 100 (am_lf (99, .iload_n 3, 1)) (am_lf (100, .iload 6, 2))))) (am_nd 108 (am_nd 106 (am_nd 103 (am_lf (102, .iconst 0, 1)) (am_lf (103, .invokevirtual 39, 3))) (am_nd 107 (am_lf (106, .aload_n 1, 1)) (am_lf (107, .iload_n 3, 1)))) (am_nd 111 (am_nd 110 (am_lf (108, .iload 6, 2)) (am_lf (110, .iconst 1, 1))) (am_nd 114 (am_lf (111, .invokevirtual 39, 3)) (am_lf (114, .aload_n 1, 1)))))))
def am_c63_2 : am_T am_E 5 := (am_nd 1000000 (am_nd 127 (am_nd 122 (am_nd 118 (am_nd 116 (am_lf (115, .iload_n 3, 1)) (am_lf (116, .iload 6, 2))) (am_nd 119 (am_lf (118, .iconst 2, 1)) (am_lf (119, .invokevirtual 39, 3)))) (am_nd 124 (am_nd 123 (am_lf (122, .aload_n 1, 1)) (am_lf (123, .iload_n 3, 1))) (am_nd 126 (am_lf (124, .iload 6, 2)) (am_lf (126, .iconst 3, 1))))) (am_nd 139 (am_nd 133 (am_nd 130 (am_lf (127, .invokevirtual 39, 3)) (am_lf (130, .invokevirtual 43, 3))) (am_nd 136 (am_lf (133, .iinc 5 1, 3)) (am_lf (136, .goto (-79), 3)))) (am_nd 1000000 (am_nd 1000000 (am_lf (139, .return_, 1)) (am_lf (139, .return_, 1))) (am_nd 1000000 (am_lf (139, .return_, 1)) (am_lf (139, .return_, 1)))))) (am_nd 1000000 (am_nd 1000000 (am_nd 1000000 (am_nd 1000000 (am_lf (139, .return_, 1)) (am_lf (139, .return_, 1))) (am_nd 1000000 (am_lf (139, .return_, 1)) (am_lf (139, .return_, 1)))) (am_nd 1000000 (am_nd 1000000 (am_lf (139, .return_, 1)) (am_lf (139, .return_, 1))) (am_nd 1000000 (am_lf (139, .return_, 1)) (am_lf (139, .return_, 1))))) (am_nd 1000000 (am_nd 1000000 (am_nd 1000000 (am_lf (139, .return_, 1)) (am_lf (139, .return_, 1))) (am_nd 1000000 (am_lf (139, .return_, 1)) (am_lf (139, .return_, 1)))) (am_nd 1000000 (am_nd 1000000 (am_lf (139, .return_, 1)) (am_lf (139, .return_, 1))) (am_nd 1000000 (am_lf (139, .return_, 1)) (am_lf (139, .return_, 1)))))))
def am_c63_3 : am_T am_E 5 := (am_nd 1000000 (am_nd 1000000 (am_nd 1000000 (am_nd 1000000 (am_nd 1000000 (am_lf (139, .return_, 1)) (am_lf (139, .return_, 1))) (am_nd 1000000 (am_lf (139, .return_, 1)) (am_lf (139, .return_, 1)))) (am_nd 1000000 (am_nd 1000000 (am_lf (139, .return_, 1)) (am_lf (139, .return_, 1))) (am_nd 1000000 (am_lf (139, .return_, 1)) (am_lf (139, .return_, 1))))) (am_nd 1000000 (am_nd 1000000 (am_nd 1000000 (am_lf (139, .return_, 1)) (am_lf (139, .return_, 1))) (am_nd 1000000 (am_lf (139, .return_, 1)) (am_lf (139, .return_, 1)))) (am_nd 1000000 (am_nd 1000000 (am_lf (139, .return_, 1)) (am_lf (139, .return_, 1))) (am_nd 1000000 (am_lf (139, .return_, 1)) (am_lf (139, .return_, 1)))))) (am_nd 1000000 (am_nd 1000000 (am_nd 1000000 (am_nd 1000000 (am_lf (139, .return_, 1)) (am_lf (139, .return_, 1))) (am_nd 1000000 (am_lf (139, .return_, 1)) (am_lf (139, .return_, 1)))) (am_nd 1000000 (am_nd 1000000 (am_lf (139, .return_, 1)) (am_lf (139, .return_, 1))) (am_nd 1000000 (am_lf (139, .return_, 1)) (am_lf (139, .return_, 1))))) (am_nd 1000000 (am_nd 1000000 (am_nd 1000000 (am_lf (139, .return_, 1)) (am_lf (139, .return_, 1))) (am_nd 1000000 (am_lf (139, .return_, 1)) (am_lf (139, .return_, 1)))) (am_nd 1000000 (am_nd 1000000 (am_lf (139, .return_, 1)) (am_lf (139, .return_, 1))) (am_nd 1000000 (am_lf (139, .return_, 1)) (am_lf (139, .return_, 1)))))))
def am_c63 : am_T am_E 7 := (am_nd 115 (am_nd 59 am_c63_0 am_c63_1) (am_nd 1000000 am_c63_2 am_c63_3))
def am_c64 : am_T am_E 3 := (am_nd 6 (am_nd 2 (am_nd 1 (am_lf (0, .iload_n 0, 1)) (am_lf (1, .iload_n 1, 1))) (am_nd 5 (am_lf (2, .if_icmp .gt 7, 3)) (am_lf (5, .iload_n 0, 1)))) (am_nd 10 (am_nd 9 (am_lf (6, .goto 4, 3)) (am_lf (9, .iload_n 1, 1))) (am_nd 1000000 (am_lf (10, .ireturn, 1)) (am_lf (10, .ireturn, 1)))))
def am_c65_0 : am_T am_E 5 := (am_nd 27 (am_nd 12 (am_nd 5 (am_nd 3 (am_nd 1 (am_lf (0, .iconst 0, 1)) (am_lf (1, .istore 5, 2))) (am_nd 4 (am_lf (3, .iload_n 3, 1)) (am_lf (4, .iconst 1, 1)))) (am_nd 8 (am_nd 6 (am_lf (5, .iadd, 1)) (am_lf (6, .istore 6, 2))) (am_nd 10 (am_lf (8, .iload 6, 2)) (am_lf (10, .iload 4, 2))))) (am_nd 22 (am_nd 17 (am_nd 15 (am_lf (12, .if_icmp .ge 42, 3)) (am_lf (15, .iload 6, 2))) (am_nd 19 (am_lf (17, .bipush 8, 2)) (am_lf (19, .if_icmp .ge 35, 3)))) (am_nd 24 (am_nd 23 (am_lf (22, .aload_n 0, 1)) (am_lf (23, .aload_n 1, 1))) (am_nd 25 (am_lf (24, .iload_n 2, 1)) (am_lf (25, .iload 6, 2)))))) (am_nd 43 (am_nd 36 (am_nd 31 (am_nd 28 (am_lf (27, .iload_n 3, 1)) (am_lf (28, .invokevirtual 47, 3))) (am_nd 34 (am_lf (31, .ifCond .eq 17, 3)) (am_lf (34, .iload 5, 2)))) (am_nd 40 (am_nd 37 (am_lf (36, .aload_n 0, 1)) (am_lf (37, .getfield 9, 3))) (am_nd 42 (am_lf (40, .iload 6, 2)) (am_lf (42, .iaload, 1))))) (am_nd 54 (am_nd 48 (am_nd 46 (am_lf (43, .invokestatic 51, 3)) (am_lf (46, .istore 5, 2))) (am_nd 51 (am_lf (48, .iinc 6 1, 3)) (am_lf (51, .goto (-43), 3)))) (am_nd 56 (am_nd 55 (am_lf (54, .aload_n 1, 1)) (am_lf (55, .iload_n 2, 1))) (am_nd 57 (am_lf (56, .iload_n 3, 1)) (am_lf (57, .iconst 0, 1)))))))
def am_c65_1 : am_T am_E 5 := (am_nd 1000000 (am_nd 76 (am_nd 67 (am_nd 63 (am_nd 61 (am_lf (58, .invokevirtual 39, 3)) (am_lf (61, .istore 6, 2))) (am_nd 65 (am_lf (63, .iload 5, 2)) (am_lf (65, .iload 6, 2)))) (am_nd 72 (am_nd 70 (am_lf (67, .ifCond .lt 21, 3)) (am_lf (70, .iload 6, 2))) (am_nd 75 (am_lf (72, .getstatic 54, 3)) (am_lf (75, .arraylength, 1))))) (am_nd 85 (am_nd 82 (am_nd 79 (am_lf (76, .if_icmp .ge 12, 3)) (am_lf (79, .getstatic 54, 3))) (am_nd 84 (am_lf (82, .iload 6, 2)) (am_lf (84, .iaload, 1)))) (am_nd 89 (am_nd 88 (am_lf (85, .goto 4, 3)) (am_lf (88, .iconst 0, 1))) (am_nd 90 (am_lf (89, .iadd, 1)) (am_lf (90, .ireturn, 1)))))) (am_nd 1000000 (am_nd 1000000 (am_nd 1000000 (am_nd 1000000 (am_lf (90, .ireturn, 1)) (am_lf (90, .ireturn, 1))) (am_nd 1000000 (am_lf (90, .ireturn, 1)) (am_lf (90, .ireturn, 1)))) (am_nd 1000000 (am_nd 1000000 (am_lf (90, .ireturn, 1)) (am_lf (90, .ireturn, 1))) (am_nd 1000000 (am_lf (90, .ireturn, 1)) (am_lf (90, .ireturn, 1))))) (am_nd 1000000 (am_nd 1000000 (am_nd 1000000 (am_lf (90, .ireturn, 1)) (am_lf (90, .ireturn, 1))) (am_nd 1000000 (am_lf (90, .ireturn, 1)) (am_lf (90, .ireturn, 1)))) (am_nd 1000000 (am_nd 1000000 (am_lf (90, .ireturn, 1)) (am_lf (90, .ireturn, 1))) (am_nd 1000000 (am_lf (90, .ireturn, 1)) (am_lf (90, .ireturn, 1)))))))
def am_c65 : am_T am_E 6 := (am_nd 58 am_c65_0 am_c65_1)
def am_c66_0 : am_T am_E 5 := (am_nd 25 (am_nd 11 (am_nd 4 (am_nd 2 (am_nd 1 (am_lf (0, .aload_n 1, 1)) (am_lf (1, .iload_n 2, 1))) (am_nd 3 (am_lf (2, .iload_n 3, 1)) (am_lf (3, .iconst 0, 1)))) (am_nd 9 (am_nd 7 (am_lf (4, .invokevirtual 39, 3)) (am_lf (7, .istore 5, 2))) (am_nd 10 (am_lf (9, .aload_n 1, 1)) (am_lf (10, .iload_n 2, 1))))) (am_nd 19 (am_nd 14 (am_nd 13 (am_lf (11, .iload 4, 2)) (am_lf (13, .iconst 0, 1))) (am_nd 17 (am_lf (14, .invokevirtual 39, 3)) (am_lf (17, .istore 6, 2)))) (am_nd 21 (am_nd 20 (am_lf (19, .aload_n 1, 1)) (am_lf (20, .iload_n 2, 1))) (am_nd 22 (am_lf (21, .iload_n 3, 1)) (am_lf (22, .invokevirtual 61, 3)))))) (am_nd 40 (am_nd 31 (am_nd 28 (am_nd 27 (am_lf (25, .istore 7, 2)) (am_lf (27, .aload_n 1, 1))) (am_nd 29 (am_lf (28, .iload_n 2, 1)) (am_lf (29, .iload 4, 2)))) (am_nd 36 (am_nd 34 (am_lf (31, .invokevirtual 61, 3)) (am_lf (34, .istore 8, 2))) (am_nd 38 (am_lf (36, .iload 5, 2)) (am_lf (38, .bipush 7, 2))))) (am_nd 50 (am_nd 45 (am_nd 43 (am_lf (40, .if_icmp .lt 10, 3)) (am_lf (43, .iload 6, 2))) (am_nd 47 (am_lf (45, .bipush 7, 2)) (am_lf (47, .if_icmp .ge 33, 3)))) (am_nd 54 (am_nd 52 (am_lf (50, .iload 7, 2)) (am_lf (52, .iload 8, 2))) (am_nd 57 (am_lf (54, .if_icmp .eq 26, 3)) (am_lf (57, .aload_n 1, 1)))))))
def am_c66_1 : am_T am_E 5 := (am_nd 1000000 (am_nd 72 (am_nd 65 (am_nd 60 (am_nd 59 (am_lf (58, .iload_n 2, 1)) (am_lf (59, .iload_n 3, 1))) (am_nd 62 (am_lf (60, .iload 8, 2)) (am_lf (62, .invokevirtual 64, 3)))) (am_nd 69 (am_nd 68 (am_lf (65, .ifCond .ne 15, 3)) (am_lf (68, .aload_n 1, 1))) (am_nd 70 (am_lf (69, .iload_n 2, 1)) (am_lf (70, .iload 4, 2))))) (am_nd 81 (am_nd 77 (am_nd 74 (am_lf (72, .iload 7, 2)) (am_lf (74, .invokevirtual 64, 3))) (am_nd 80 (am_lf (77, .ifCond .eq 7, 3)) (am_lf (80, .iconst 1, 1)))) (am_nd 85 (am_nd 84 (am_lf (81, .goto 4, 3)) (am_lf (84, .iconst 0, 1))) (am_nd 1000000 (am_lf (85, .ireturn, 1)) (am_lf (85, .ireturn, 1)))))) (am_nd 1000000 (am_nd 1000000 (am_nd 1000000 (am_nd 1000000 (am_lf (85, .ireturn, 1)) (am_lf (85, .ireturn, 1))) (am_nd 1000000 (am_lf (85, .ireturn, 1)) (am_lf (85, .ireturn, 1)))) (am_nd 1000000 (am_nd 1000000 (am_lf (85, .ireturn, 1)) (am_lf (85, .ireturn, 1))) (am_nd 1000000 (am_lf (85, .ireturn, 1)) (am_lf (85, .ireturn, 1))))) (am_nd 1000000 (am_nd 1000000 (am_nd 1000000 (am_lf (85, .ireturn, 1)) (am_lf (85, .ireturn, 1))) (am_nd 1000000 (am_lf (85, .ireturn, 1)) (am_lf (85, .ireturn, 1)))) (am_nd 1000000 (am_nd 1000000 (am_lf (85, .ireturn, 1)) (am_lf (85, .ireturn, 1))) (am_nd 1000000 (am_lf (85, .ireturn, 1)) (am_lf (85, .ireturn, 1)))))))
def am_c66 : am_T am_E 6 := (am_nd 58 am_c66_0 am_c66_1)
def am_c67 : am_T am_E 3 := (am_nd 6 (am_nd 2 (am_nd 1 (am_lf (0, .iload_n 0, 1)) (am_lf (1, .iload_n 1, 1))) (am_nd 5 (am_lf (2, .if_icmp .lt 7, 3)) (am_lf (5, .iload_n 0, 1)))) (am_nd 10 (am_nd 9 (am_lf (6, .goto 4, 3)) (am_lf (9, .iload_n 1, 1))) (am_nd 1000000 (am_lf (10, .ireturn, 1)) (am_lf (10, .ireturn, 1)))))
def am_c68_0 : am_T am_E 5 := (am_nd 29 (am_nd 12 (am_nd 6 (am_nd 3 (am_nd 1 (am_lf (0, .iconst (-1), 1)) (am_lf (1, .istore 4, 2))) (am_nd 4 (am_lf (3, .iconst 0, 1)) (am_lf (4, .istore 5, 2)))) (am_nd 9 (am_nd 7 (am_lf (6, .iconst 0, 1)) (am_lf (7, .istore 6, 2))) (am_nd 11 (am_lf (9, .iload 6, 2)) (am_lf (11, .iload_n 3, 1))))) (am_nd 22 (am_nd 17 (am_nd 15 (am_lf (12, .if_icmp .ge 62, 3)) (am_lf (15, .iload 6, 2))) (am_nd 19 (am_lf (17, .bipush 8, 2)) (am_lf (19, .if_icmp .ge 55, 3)))) (am_nd 26 (am_nd 23 (am_lf (22, .aload_n 0, 1)) (am_lf (23, .getfield 15, 3))) (am_nd 28 (am_lf (26, .iload 6, 2)) (am_lf (28, .baload, 1)))))) (am_nd 45 (am_nd 38 (am_nd 33 (am_nd 32 (am_lf (29, .ifCond .ne 39, 3)) (am_lf (32, .aload_n 0, 1))) (am_nd 36 (am_lf (33, .getfield 9, 3)) (am_lf (36, .iload 6, 2)))) (am_nd 41 (am_nd 39 (am_lf (38, .iaload, 1)) (am_lf (39, .iload 5, 2))) (am_nd 44 (am_lf (41, .if_icmp .le 27, 3)) (am_lf (44, .aload_n 0, 1))))) (am_nd 52 (am_nd 47 (am_nd 46 (am_lf (45, .aload_n 1, 1)) (am_lf (46, .iload_n 2, 1))) (am_nd 49 (am_lf (47, .iload 6, 2)) (am_lf (49, .invokevirtual 57, 3)))) (am_nd 57 (am_nd 55 (am_lf (52, .ifCond .eq 16, 3)) (am_lf (55, .iload 6, 2))) (am_nd 59 (am_lf (57, .istore 4, 2)) (am_lf (59, .aload_n 0, 1)))))))
def am_c68_1 : am_T am_E 5 := (am_nd 1000000 (am_nd 1000000 (am_nd 68 (am_nd 65 (am_nd 63 (am_lf (60, .getfield 9, 3)) (am_lf (63, .iload 6, 2))) (am_nd 66 (am_lf (65, .iaload, 1)) (am_lf (66, .istore 5, 2)))) (am_nd 74 (am_nd 71 (am_lf (68, .iinc 6 1, 3)) (am_lf (71, .goto (-62), 3))) (am_nd 76 (am_lf (74, .iload 4, 2)) (am_lf (76, .ireturn, 1))))) (am_nd 1000000 (am_nd 1000000 (am_nd 1000000 (am_lf (76, .ireturn, 1)) (am_lf (76, .ireturn, 1))) (am_nd 1000000 (am_lf (76, .ireturn, 1)) (am_lf (76, .ireturn, 1)))) (am_nd 1000000 (am_nd 1000000 (am_lf (76, .ireturn, 1)) (am_lf (76, .ireturn, 1))) (am_nd 1000000 (am_lf (76, .ireturn, 1)) (am_lf (76, .ireturn, 1)))))) (am_nd 1000000 (am_nd 1000000 (am_nd 1000000 (am_nd 1000000 (am_lf (76, .ireturn, 1)) (am_lf (76, .ireturn, 1))) (am_nd 1000000 (am_lf (76, .ireturn, 1)) (am_lf (76, .ireturn, 1)))) (am_nd 1000000 (am_nd 1000000 (am_lf (76, .ireturn, 1)) (am_lf (76, .ireturn, 1))) (am_nd 1000000 (am_lf (76, .ireturn, 1)) (am_lf (76, .ireturn, 1))))) (am_nd 1000000 (am_nd 1000000 (am_nd 1000000 (am_lf (76, .ireturn, 1)) (am_lf (76, .ireturn, 1))) (am_nd 1000000 (am_lf (76, .ireturn, 1)) (am_lf (76, .ireturn, 1)))) (am_nd 1000000 (am_nd 1000000 (am_lf (76, .ireturn, 1)) (am_lf (76, .ireturn, 1))) (am_nd 1000000 (am_lf (76, .ireturn, 1)) (am_lf (76, .ireturn, 1)))))))
def am_c68 : am_T am_E 6 := (am_nd 60 am_c68_0 am_c68_1)
def am_c69 : am_T am_E 5 := (am_nd 29 (am_nd 16 (am_nd 6 (am_nd 3 (am_nd 1 (am_lf (0, .iconst 0, 1)) (am_lf (1, .istore 4, 2))) (am_nd 5 (am_lf (3, .iload 4, 2)) (am_lf (5, .iload_n 3, 1)))) (am_nd 11 (am_nd 9 (am_lf (6, .if_icmp .ge 40, 3)) (am_lf (9, .iload 4, 2))) (am_nd 13 (am_lf (11, .bipush 8, 2)) (am_lf (13, .if_icmp .ge 33, 3))))) (am_nd 23 (am_nd 20 (am_nd 17 (am_lf (16, .aload_n 0, 1)) (am_lf (17, .getfield 15, 3))) (am_nd 22 (am_lf (20, .iload 4, 2)) (am_lf (22, .baload, 1)))) (am_nd 27 (am_nd 26 (am_lf (23, .ifCond .ne 17, 3)) (am_lf (26, .aload_n 0, 1))) (am_nd 28 (am_lf (27, .aload_n 1, 1)) (am_lf (28, .iload_n 2, 1)))))) (am_nd 46 (am_nd 38 (am_nd 32 (am_nd 30 (am_lf (29, .iload_n 3, 1)) (am_lf (30, .iload 4, 2))) (am_nd 35 (am_lf (32, .invokevirtual 47, 3)) (am_lf (35, .ifCond .eq 5, 3)))) (am_nd 40 (am_nd 39 (am_lf (38, .iconst 0, 1)) (am_lf (39, .ireturn, 1))) (am_nd 43 (am_lf (40, .iinc 4 1, 3)) (am_lf (43, .goto (-40), 3))))) (am_nd 1000000 (am_nd 1000000 (am_nd 47 (am_lf (46, .iconst 1, 1)) (am_lf (47, .ireturn, 1))) (am_nd 1000000 (am_lf (47, .ireturn, 1)) (am_lf (47, .ireturn, 1)))) (am_nd 1000000 (am_nd 1000000 (am_lf (47, .ireturn, 1)) (am_lf (47, .ireturn, 1))) (am_nd 1000000 (am_lf (47, .ireturn, 1)) (am_lf (47, .ireturn, 1)))))))
def am_c70_0 : am_T am_E 5 := (am_nd 26 (am_nd 12 (am_nd 4 (am_nd 2 (am_nd 1 (am_lf (0, .iconst 0, 1)) (am_lf (1, .istore_n 2, 1))) (am_nd 3 (am_lf (2, .iconst 0, 1)) (am_lf (3, .istore_n 3, 1)))) (am_nd 6 (am_nd 5 (am_lf (4, .iload_n 3, 1)) (am_lf (5, .aload_n 0, 1))) (am_nd 9 (am_lf (6, .getfield 21, 3)) (am_lf (9, .if_icmp .ge 58, 3))))) (am_nd 19 (am_nd 14 (am_nd 13 (am_lf (12, .aload_n 0, 1)) (am_lf (13, .iload_n 3, 1))) (am_nd 17 (am_lf (14, .invokevirtual 25, 3)) (am_lf (17, .istore 4, 2)))) (am_nd 22 (am_nd 20 (am_lf (19, .iconst 0, 1)) (am_lf (20, .istore 5, 2))) (am_nd 24 (am_lf (22, .iload 5, 2)) (am_lf (24, .iload 4, 2)))))) (am_nd 43 (am_nd 32 (am_nd 30 (am_nd 29 (am_lf (26, .if_icmp .ge 23, 3)) (am_lf (29, .aload_n 0, 1))) (am_nd 31 (am_lf (30, .aload_n 1, 1)) (am_lf (31, .iload_n 3, 1)))) (am_nd 37 (am_nd 34 (am_lf (32, .iload 5, 2)) (am_lf (34, .invokevirtual 64, 3))) (am_nd 40 (am_lf (37, .ifCond .eq 6, 3)) (am_lf (40, .iinc 2 1, 3))))) (am_nd 51 (am_nd 49 (am_nd 46 (am_lf (43, .iinc 5 1, 3)) (am_lf (46, .goto (-24), 3))) (am_nd 50 (am_lf (49, .aload_n 0, 1)) (am_lf (50, .aload_n 1, 1)))) (am_nd 55 (am_nd 52 (am_lf (51, .iload_n 3, 1)) (am_lf (52, .invokevirtual 68, 3))) (am_nd 58 (am_lf (55, .ifCond .eq 6, 3)) (am_lf (58, .iinc 2 1, 3)))))))
def am_c70_1 : am_T am_E 5 := (am_nd 1000000 (am_nd 1000000 (am_nd 1000000 (am_nd 67 (am_nd 64 (am_lf (61, .iinc 3 1, 3)) (am_lf (64, .goto (-60), 3))) (am_nd 68 (am_lf (67, .iload_n 2, 1)) (am_lf (68, .ireturn, 1)))) (am_nd 1000000 (am_nd 1000000 (am_lf (68, .ireturn, 1)) (am_lf (68, .ireturn, 1))) (am_nd 1000000 (am_lf (68, .ireturn, 1)) (am_lf (68, .ireturn, 1))))) (am_nd 1000000 (am_nd 1000000 (am_nd 1000000 (am_lf (68, .ireturn, 1)) (am_lf (68, .ireturn, 1))) (am_nd 1000000 (am_lf (68, .ireturn, 1)) (am_lf (68, .ireturn, 1)))) (am_nd 1000000 (am_nd 1000000 (am_lf (68, .ireturn, 1)) (am_lf (68, .ireturn, 1))) (am_nd 1000000 (am_lf (68, .ireturn, 1)) (am_lf (68, .ireturn, 1)))))) (am_nd 1000000 (am_nd 1000000 (am_nd 1000000 (am_nd 1000000 (am_lf (68, .ireturn, 1)) (am_lf (68, .ireturn, 1))) (am_nd 1000000 (am_lf (68, .ireturn, 1)) (am_lf (68, .ireturn, 1)))) (am_nd 1000000 (am_nd 1000000 (am_lf (68, .ireturn, 1)) (am_lf (68, .ireturn, 1))) (am_nd 1000000 (am_lf (68, .ireturn, 1)) (am_lf (68, .ireturn, 1))))) (am_nd 1000000 (am_nd 1000000 (am_nd 1000000 (am_lf (68, .ireturn, 1)) (am_lf (68, .ireturn, 1))) (am_nd 1000000 (am_lf (68, .ireturn, 1)) (am_lf (68, .ireturn, 1)))) (am_nd 1000000 (am_nd 1000000 (am_lf (68, .ireturn, 1)) (am_lf (68, .ireturn, 1))) (am_nd 1000000 (am_lf (68, .ireturn, 1)) (am_lf (68, .ireturn, 1)))))))
def am_c70 : am_T am_E 6 := (am_nd 61 am_c70_0 am_c70_1)
def am_c71 : am_T am_E 5 := (am_nd 28 (am_nd 12 (am_nd 6 (am_nd 3 (am_nd 1 (am_lf (0, .iconst 0, 1)) (am_lf (1, .istore 4, 2))) (am_nd 5 (am_lf (3, .iload 4, 2)) (am_lf (5, .iconst 4, 1)))) (am_nd 10 (am_nd 9 (am_lf (6, .if_icmp .ge 30, 3)) (am_lf (9, .aload_n 0, 1))) (am_nd 11 (am_lf (10, .iload_n 2, 1)) (am_lf (11, .iload_n 3, 1))))) (am_nd 19 (am_nd 17 (am_nd 14 (am_lf (12, .iload 4, 2)) (am_lf (14, .invokevirtual 33, 3))) (am_nd 18 (am_lf (17, .aload_n 1, 1)) (am_lf (18, .iload_n 2, 1)))) (am_nd 22 (am_nd 20 (am_lf (19, .iload_n 3, 1)) (am_lf (20, .iload 4, 2))) (am_nd 25 (am_lf (22, .invokevirtual 33, 3)) (am_lf (25, .if_icmp .eq 5, 3)))))) (am_nd 1000000 (am_nd 36 (am_nd 30 (am_nd 29 (am_lf (28, .iconst 1, 1)) (am_lf (29, .ireturn, 1))) (am_nd 33 (am_lf (30, .iinc 4 1, 3)) (am_lf (33, .goto (-30), 3)))) (am_nd 1000000 (am_nd 37 (am_lf (36, .iconst 0, 1)) (am_lf (37, .ireturn, 1))) (am_nd 1000000 (am_lf (37, .ireturn, 1)) (am_lf (37, .ireturn, 1))))) (am_nd 1000000 (am_nd 1000000 (am_nd 1000000 (am_lf (37, .ireturn, 1)) (am_lf (37, .ireturn, 1))) (am_nd 1000000 (am_lf (37, .ireturn, 1)) (am_lf (37, .ireturn, 1)))) (am_nd 1000000 (am_nd 1000000 (am_lf (37, .ireturn, 1)) (am_lf (37, .ireturn, 1))) (am_nd 1000000 (am_lf (37, .ireturn, 1)) (am_lf (37, .ireturn, 1)))))))
def am_c72 : am_T am_E 5 := (am_nd 24 (am_nd 10 (am_nd 4 (am_nd 2 (am_nd 1 (am_lf (0, .iconst 0, 1)) (am_lf (1, .istore_n 3, 1))) (am_nd 3 (am_lf (2, .iload_n 3, 1)) (am_lf (3, .iconst 4, 1)))) (am_nd 8 (am_nd 7 (am_lf (4, .if_icmp .ge 26, 3)) (am_lf (7, .aload_n 0, 1))) (am_nd 9 (am_lf (8, .iload_n 2, 1)) (am_lf (9, .iload_n 3, 1))))) (am_nd 16 (am_nd 14 (am_nd 13 (am_lf (10, .invokevirtual 72, 3)) (am_lf (13, .aload_n 1, 1))) (am_nd 15 (am_lf (14, .iload_n 2, 1)) (am_lf (15, .iload_n 3, 1)))) (am_nd 22 (am_nd 19 (am_lf (16, .invokevirtual 72, 3)) (am_lf (19, .if_icmp .eq 5, 3))) (am_nd 23 (am_lf (22, .iconst 1, 1)) (am_lf (23, .ireturn, 1)))))) (am_nd 1000000 (am_nd 1000000 (am_nd 30 (am_nd 27 (am_lf (24, .iinc 3 1, 3)) (am_lf (27, .goto (-25), 3))) (am_nd 31 (am_lf (30, .iconst 0, 1)) (am_lf (31, .ireturn, 1)))) (am_nd 1000000 (am_nd 1000000 (am_lf (31, .ireturn, 1)) (am_lf (31, .ireturn, 1))) (am_nd 1000000 (am_lf (31, .ireturn, 1)) (am_lf (31, .ireturn, 1))))) (am_nd 1000000 (am_nd 1000000 (am_nd 1000000 (am_lf (31, .ireturn, 1)) (am_lf (31, .ireturn, 1))) (am_nd 1000000 (am_lf (31, .ireturn, 1)) (am_lf (31, .ireturn, 1)))) (am_nd 1000000 (am_nd 1000000 (am_lf (31, .ireturn, 1)) (am_lf (31, .ireturn, 1))) (am_nd 1000000 (am_lf (31, .ireturn, 1)) (am_lf (31, .ireturn, 1)))))))
def am_c73 : am_T am_E 5 := (am_nd 24 (am_nd 12 (am_nd 5 (am_nd 3 (am_nd 2 (am_lf (0, .aload 5, 2)) (am_lf (2, .iconst 0, 1))) (am_nd 4 (am_lf (3, .aload_n 0, 1)) (am_lf (4, .iload_n 1, 1)))) (am_nd 7 (am_nd 6 (am_lf (5, .iload_n 2, 1)) (am_lf (6, .iload_n 3, 1))) (am_nd 9 (am_lf (7, .iload 4, 2)) (am_lf (9, .invokevirtual 34, 3))))) (am_nd 19 (am_nd 14 (am_nd 13 (am_lf (12, .i2l, 1)) (am_lf (13, .lastore, 1))) (am_nd 17 (am_lf (14, .goto 11, 3)) (am_lf (17, .astore 6, 2)))) (am_nd 21 (am_nd 20 (am_lf (19, .iconst 1, 1)) (am_lf (20, .ireturn, 1))) (am_nd 23 (am_lf (21, .astore 6, 2)) (am_lf (23, .iconst 2, 1)))))) (am_nd 1000000 (am_nd 1000000 (am_nd 26 (am_nd 25 (am_lf (24, .ireturn, 1)) (am_lf (25, .iconst 0, 1))) (am_nd 1000000 (am_lf (26, .ireturn, 1)) (am_lf (26, .ireturn, 1)))) (am_nd 1000000 (am_nd 1000000 (am_lf (26, .ireturn, 1)) (am_lf (26, .ireturn, 1))) (am_nd 1000000 (am_lf (26, .ireturn, 1)) (am_lf (26, .ireturn, 1))))) (am_nd 1000000 (am_nd 1000000 (am_nd 1000000 (am_lf (26, .ireturn, 1)) (am_lf (26, .ireturn, 1))) (am_nd 1000000 (am_lf (26, .ireturn, 1)) (am_lf (26, .ireturn, 1)))) (am_nd 1000000 (am_nd 1000000 (am_lf (26, .ireturn, 1)) (am_lf (26, .ireturn, 1))) (am_nd 1000000 (am_lf (26, .ireturn, 1)) (am_lf (26, .ireturn, 1)))))))
def am_c74 : am_T am_E 5 := (am_nd 32 (am_nd 14 (am_nd 7 (am_nd 2 (am_nd 1 (am_lf (0, .aload_n 0, 1)) (am_lf (1, .iload_n 1, 1))) (am_nd 5 (am_lf (2, .invokevirtual 58, 3)) (am_lf (5, .astore 5, 2)))) (am_nd 10 (am_nd 9 (am_lf (7, .aload 5, 2)) (am_lf (9, .iload_n 2, 1))) (am_nd 11 (am_lf (10, .iload_n 3, 1)) (am_lf (11, .invokevirtual 145, 3))))) (am_nd 23 (am_nd 20 (am_nd 17 (am_lf (14, .ifCond .ne 13, 3)) (am_lf (17, .new 149, 3))) (am_nd 21 (am_lf (20, .dup, 1)) (am_lf (21, .ldc 151, 2)))) (am_nd 27 (am_nd 26 (am_lf (23, .invokespecial 153, 3)) (am_lf (26, .athrow, 1))) (am_nd 29 (am_lf (27, .iload 4, 2)) (am_lf (29, .ifCond .lt 9, 3)))))) (am_nd 48 (am_nd 41 (am_nd 35 (am_nd 34 (am_lf (32, .iload 4, 2)) (am_lf (34, .iconst 4, 1))) (am_nd 38 (am_lf (35, .if_icmp .lt 13, 3)) (am_lf (38, .new 81, 3)))) (am_nd 44 (am_nd 42 (am_lf (41, .dup, 1)) (am_lf (42, .ldc 154, 2))) (am_nd 47 (am_lf (44, .invokespecial 85, 3)) (am_lf (47, .athrow, 1))))) (am_nd 54 (am_nd 51 (am_nd 50 (am_lf (48, .aload 5, 2)) (am_lf (50, .iload_n 2, 1))) (am_nd 52 (am_lf (51, .iload_n 3, 1)) (am_lf (52, .iload 4, 2)))) (am_nd 1000000 (am_nd 57 (am_lf (54, .invokevirtual 156, 3)) (am_lf (57, .ireturn, 1))) (am_nd 1000000 (am_lf (57, .ireturn, 1)) (am_lf (57, .ireturn, 1)))))))
def am_c75 : am_T am_E 5 := (am_nd 23 (am_nd 11 (am_nd 5 (am_nd 3 (am_nd 2 (am_lf (0, .aload 4, 2)) (am_lf (2, .iconst 0, 1))) (am_nd 4 (am_lf (3, .aload_n 0, 1)) (am_lf (4, .iload_n 1, 1)))) (am_nd 7 (am_nd 6 (am_lf (5, .iload_n 2, 1)) (am_lf (6, .iload_n 3, 1))) (am_nd 10 (am_lf (7, .invokevirtual 38, 3)) (am_lf (10, .i2l, 1))))) (am_nd 18 (am_nd 15 (am_nd 12 (am_lf (11, .lastore, 1)) (am_lf (12, .goto 11, 3))) (am_nd 17 (am_lf (15, .astore 5, 2)) (am_lf (17, .iconst 1, 1)))) (am_nd 21 (am_nd 19 (am_lf (18, .ireturn, 1)) (am_lf (19, .astore 5, 2))) (am_nd 22 (am_lf (21, .iconst 2, 1)) (am_lf (22, .ireturn, 1)))))) (am_nd 1000000 (am_nd 1000000 (am_nd 1000000 (am_nd 24 (am_lf (23, .iconst 0, 1)) (am_lf (24, .ireturn, 1))) (am_nd 1000000 (am_lf (24, .ireturn, 1)) (am_lf (24, .ireturn, 1)))) (am_nd 1000000 (am_nd 1000000 (am_lf (24, .ireturn, 1)) (am_lf (24, .ireturn, 1))) (am_nd 1000000 (am_lf (24, .ireturn, 1)) (am_lf (24, .ireturn, 1))))) (am_nd 1000000 (am_nd 1000000 (am_nd 1000000 (am_lf (24, .ireturn, 1)) (am_lf (24, .ireturn, 1))) (am_nd 1000000 (am_lf (24, .ireturn, 1)) (am_lf (24, .ireturn, 1)))) (am_nd 1000000 (am_nd 1000000 (am_lf (24, .ireturn, 1)) (am_lf (24, .ireturn, 1))) (am_nd 1000000 (am_lf (24, .ireturn, 1)) (am_lf (24, .ireturn, 1)))))))
def am_c76 : am_T am_E 5 := (am_nd 31 (am_nd 14 (am_nd 7 (am_nd 2 (am_nd 1 (am_lf (0, .aload_n 0, 1)) (am_lf (1, .iload_n 1, 1))) (am_nd 5 (am_lf (2, .invokevirtual 58, 3)) (am_lf (5, .astore 4, 2)))) (am_nd 10 (am_nd 9 (am_lf (7, .aload 4, 2)) (am_lf (9, .iload_n 2, 1))) (am_nd 13 (am_lf (10, .invokestatic 77, 3)) (am_lf (13, .iload_n 3, 1))))) (am_nd 22 (am_nd 18 (am_nd 17 (am_lf (14, .ifCond .lt 8, 3)) (am_lf (17, .iload_n 3, 1))) (am_nd 19 (am_lf (18, .iconst 4, 1)) (am_lf (19, .if_icmp .le 13, 3)))) (am_nd 26 (am_nd 25 (am_lf (22, .new 81, 3)) (am_lf (25, .dup, 1))) (am_nd 28 (am_lf (26, .ldc 160, 2)) (am_lf (28, .invokespecial 85, 3)))))) (am_nd 46 (am_nd 37 (am_nd 33 (am_nd 32 (am_lf (31, .athrow, 1)) (am_lf (32, .iload_n 3, 1))) (am_nd 34 (am_lf (33, .iconst 4, 1)) (am_lf (34, .if_icmp .ne 12, 3)))) (am_nd 40 (am_nd 39 (am_lf (37, .aload 4, 2)) (am_lf (39, .iload_n 2, 1))) (am_nd 43 (am_lf (40, .invokevirtual 100, 3)) (am_lf (43, .goto 10, 3))))) (am_nd 53 (am_nd 49 (am_nd 48 (am_lf (46, .aload 4, 2)) (am_lf (48, .iload_n 2, 1))) (am_nd 50 (am_lf (49, .iload_n 3, 1)) (am_lf (50, .invokevirtual 162, 3)))) (am_nd 1000000 (am_nd 1000000 (am_lf (53, .ireturn, 1)) (am_lf (53, .ireturn, 1))) (am_nd 1000000 (am_lf (53, .ireturn, 1)) (am_lf (53, .ireturn, 1)))))))
def am_c77 : am_T am_E 4 := (am_nd 12 (am_nd 6 (am_nd 2 (am_nd 1 (am_lf (0, .aload_n 1, 1)) (am_lf (1, .iconst 0, 1))) (am_nd 3 (am_lf (2, .aload_n 0, 1)) (am_lf (3, .invokevirtual 42, 3)))) (am_nd 8 (am_nd 7 (am_lf (6, .i2l, 1)) (am_lf (7, .lastore, 1))) (am_nd 11 (am_lf (8, .goto 6, 3)) (am_lf (11, .astore_n 2, 1))))) (am_nd 1000000 (am_nd 14 (am_nd 13 (am_lf (12, .iconst 1, 1)) (am_lf (13, .ireturn, 1))) (am_nd 15 (am_lf (14, .iconst 0, 1)) (am_lf (15, .ireturn, 1)))) (am_nd 1000000 (am_nd 1000000 (am_lf (15, .ireturn, 1)) (am_lf (15, .ireturn, 1))) (am_nd 1000000 (am_lf (15, .ireturn, 1)) (am_lf (15, .ireturn, 1))))))
def am_c78_0 : am_T am_E 5 := (am_nd 31 (am_nd 15 (am_nd 8 (am_nd 4 (am_nd 1 (am_lf (0, .aload_n 0, 1)) (am_lf (1, .getfield 43, 3))) (am_nd 7 (am_lf (4, .invokevirtual 166, 3)) (am_lf (7, .iconst 0, 1)))) (am_nd 10 (am_nd 9 (am_lf (8, .istore_n 1, 1)) (am_lf (9, .iload_n 1, 1))) (am_nd 12 (am_lf (10, .bipush 6, 2)) (am_lf (12, .if_icmp .ge 64, 3))))) (am_nd 23 (am_nd 19 (am_nd 16 (am_lf (15, .aload_n 0, 1)) (am_lf (16, .getfield 43, 3))) (am_nd 20 (am_lf (19, .iload_n 1, 1)) (am_lf (20, .invokevirtual 169, 3)))) (am_nd 27 (am_nd 26 (am_lf (23, .ifCond .eq 53, 3)) (am_lf (26, .aload_n 0, 1))) (am_nd 30 (am_lf (27, .getfield 43, 3)) (am_lf (30, .iload_n 1, 1)))))) (am_nd 45 (am_nd 39 (am_nd 35 (am_nd 34 (am_lf (31, .invokevirtual 172, 3)) (am_lf (34, .istore_n 2, 1))) (am_nd 36 (am_lf (35, .aload_n 0, 1)) (am_lf (36, .getfield 43, 3)))) (am_nd 43 (am_nd 40 (am_lf (39, .iload_n 2, 1)) (am_lf (40, .invokevirtual 175, 3))) (am_nd 44 (am_lf (43, .istore_n 3, 1)) (am_lf (44, .aload_n 0, 1))))) (am_nd 53 (am_nd 49 (am_nd 48 (am_lf (45, .getfield 43, 3)) (am_lf (48, .aload_n 0, 1))) (am_nd 52 (am_lf (49, .getfield 10, 3)) (am_lf (52, .iload_n 2, 1)))) (am_nd 57 (am_nd 54 (am_lf (53, .aload_n 0, 1)) (am_lf (54, .getfield 16, 3))) (am_nd 58 (am_lf (57, .iload_n 3, 1)) (am_lf (58, .invokevirtual 178, 3)))))))
def am_c78_1 : am_T am_E 5 := (am_nd 95 (am_nd 77 (am_nd 67 (am_nd 65 (am_nd 62 (am_lf (61, .aload_n 0, 1)) (am_lf (62, .getfield 43, 3))) (am_nd 66 (am_lf (65, .iload_n 2, 1)) (am_lf (66, .iload_n 3, 1)))) (am_nd 73 (am_nd 70 (am_lf (67, .invokevirtual 182, 3)) (am_lf (70, .iinc 1 1, 3))) (am_nd 76 (am_lf (73, .goto (-64), 3)) (am_lf (76, .aload_n 0, 1))))) (am_nd 85 (am_nd 81 (am_nd 78 (am_lf (77, .iconst 1, 1)) (am_lf (78, .putfield 54, 3))) (am_nd 82 (am_lf (81, .aload_n 0, 1)) (am_lf (82, .getfield 43, 3)))) (am_nd 91 (am_nd 88 (am_lf (85, .invokevirtual 186, 3)) (am_lf (88, .ifCond .eq 13, 3))) (am_nd 94 (am_lf (91, .new 189, 3)) (am_lf (94, .dup, 1)))))) (am_nd 1000000 (am_nd 102 (am_nd 100 (am_nd 97 (am_lf (95, .ldc 191, 2)) (am_lf (97, .invokespecial 193, 3))) (am_nd 101 (am_lf (100, .athrow, 1)) (am_lf (101, .aload_n 0, 1)))) (am_nd 108 (am_nd 105 (am_lf (102, .getfield 43, 3)) (am_lf (105, .invokevirtual 194, 3))) (am_nd 1000000 (am_lf (108, .ireturn, 1)) (am_lf (108, .ireturn, 1))))) (am_nd 1000000 (am_nd 1000000 (am_nd 1000000 (am_lf (108, .ireturn, 1)) (am_lf (108, .ireturn, 1))) (am_nd 1000000 (am_lf (108, .ireturn, 1)) (am_lf (108, .ireturn, 1)))) (am_nd 1000000 (am_nd 1000000 (am_lf (108, .ireturn, 1)) (am_lf (108, .ireturn, 1))) (am_nd 1000000 (am_lf (108, .ireturn, 1)) (am_lf (108, .ireturn, 1)))))))
def am_c78 : am_T am_E 6 := (am_nd 61 am_c78_0 am_c78_1)
def am_c79 : am_T am_E 5 := (am_nd 28 (am_nd 14 (am_nd 8 (am_nd 4 (am_nd 1 (am_lf (0, .aload_n 0, 1)) (am_lf (1, .getfield 28, 3))) (am_nd 5 (am_lf (4, .iconst (-1), 1)) (am_lf (5, .invokestatic 48, 3)))) (am_nd 10 (am_nd 9 (am_lf (8, .aload_n 0, 1)) (am_lf (9, .iconst 0, 1))) (am_nd 13 (am_lf (10, .putfield 35, 3)) (am_lf (13, .aload_n 0, 1))))) (am_nd 20 (am_nd 18 (am_nd 15 (am_lf (14, .iconst 0, 1)) (am_lf (15, .putfield 39, 3))) (am_nd 19 (am_lf (18, .aload_n 0, 1)) (am_lf (19, .iconst (-1), 1)))) (am_nd 24 (am_nd 23 (am_lf (20, .putfield 42, 3)) (am_lf (23, .aload_n 0, 1))) (am_nd 25 (am_lf (24, .iconst (-1), 1)) (am_lf (25, .putfield 45, 3)))))) (am_nd 1000000 (am_nd 34 (am_nd 30 (am_nd 29 (am_lf (28, .aload_n 0, 1)) (am_lf (29, .iconst 0, 1))) (am_nd 31 (am_lf (30, .iconst 0, 1)) (am_lf (31, .invokevirtual 54, 3)))) (am_nd 1000000 (am_nd 1000000 (am_lf (34, .return_, 1)) (am_lf (34, .return_, 1))) (am_nd 1000000 (am_lf (34, .return_, 1)) (am_lf (34, .return_, 1))))) (am_nd 1000000 (am_nd 1000000 (am_nd 1000000 (am_lf (34, .return_, 1)) (am_lf (34, .return_, 1))) (am_nd 1000000 (am_lf (34, .return_, 1)) (am_lf (34, .return_, 1)))) (am_nd 1000000 (am_nd 1000000 (am_lf (34, .return_, 1)) (am_lf (34, .return_, 1))) (am_nd 1000000 (am_lf (34, .return_, 1)) (am_lf (34, .return_, 1)))))))
def am_c80 : am_T am_E 4 := (am_nd 10 (am_nd 4 (am_nd 2 (am_nd 1 (am_lf (0, .iconst 0, 1)) (am_lf (1, .istore_n 2, 1))) (am_nd 3 (am_lf (2, .aload_n 0, 1)) (am_lf (3, .arraylength, 1)))) (am_nd 6 (am_nd 5 (am_lf (4, .istore_n 3, 1)) (am_lf (5, .iload_n 2, 1))) (am_nd 7 (am_lf (6, .iload_n 3, 1)) (am_lf (7, .if_icmp .ge 13, 3))))) (am_nd 14 (am_nd 12 (am_nd 11 (am_lf (10, .aload_n 0, 1)) (am_lf (11, .iload_n 2, 1))) (am_nd 13 (am_lf (12, .iload_n 1, 1)) (am_lf (13, .iastore, 1)))) (am_nd 20 (am_nd 17 (am_lf (14, .iinc 2 1, 3)) (am_lf (17, .goto (-12), 3))) (am_nd 1000000 (am_lf (20, .return_, 1)) (am_lf (20, .return_, 1))))))
def am_c81_0 : am_T am_E 5 := (am_nd 29 (am_nd 17 (am_nd 8 (am_nd 4 (am_nd 1 (am_lf (0, .aload_n 0, 1)) (am_lf (1, .getfield 39, 3))) (am_nd 7 (am_lf (4, .ifCond .ne 23, 3)) (am_lf (7, .iload_n 1, 1)))) (am_nd 12 (am_nd 11 (am_lf (8, .ifCond .lt 19, 3)) (am_lf (11, .iload_n 1, 1))) (am_nd 14 (am_lf (12, .bipush 6, 2)) (am_lf (14, .if_icmp .ge 13, 3))))) (am_nd 23 (am_nd 21 (am_nd 18 (am_lf (17, .aload_n 0, 1)) (am_lf (18, .getfield 28, 3))) (am_nd 22 (am_lf (21, .iload_n 1, 1)) (am_lf (22, .iaload, 1)))) (am_nd 27 (am_nd 24 (am_lf (23, .iload_n 2, 1)) (am_lf (24, .if_icmp .ne 4, 3))) (am_nd 28 (am_lf (27, .return_, 1)) (am_lf (28, .aload_n 0, 1)))))) (am_nd 41 (am_nd 35 (am_nd 33 (am_nd 32 (am_lf (29, .getfield 28, 3)) (am_lf (32, .iload_n 1, 1))) (am_nd 34 (am_lf (33, .iaload, 1)) (am_lf (34, .iconst (-1), 1)))) (am_nd 39 (am_nd 38 (am_lf (35, .if_icmp .eq 13, 3)) (am_lf (38, .aload_n 0, 1))) (am_nd 40 (am_lf (39, .iconst 1, 1)) (am_lf (40, .iload_n 1, 1))))) (am_nd 49 (am_nd 45 (am_nd 42 (am_lf (41, .iload_n 2, 1)) (am_lf (42, .invokevirtual 69, 3))) (am_nd 48 (am_lf (45, .goto 46, 3)) (am_lf (48, .aload_n 0, 1)))) (am_nd 55 (am_nd 52 (am_lf (49, .getfield 35, 3)) (am_lf (52, .ifCond .lt 39, 3))) (am_nd 56 (am_lf (55, .aload_n 0, 1)) (am_lf (56, .getfield 35, 3)))))))
def am_c81_1 : am_T am_E 5 := (am_nd 86 (am_nd 72 (am_nd 68 (am_nd 64 (am_nd 61 (am_lf (59, .bipush 6, 2)) (am_lf (61, .if_icmp .ge 30, 3))) (am_nd 65 (am_lf (64, .aload_n 0, 1)) (am_lf (65, .getfield 28, 3)))) (am_nd 70 (am_nd 69 (am_lf (68, .iload_n 1, 1)) (am_lf (69, .iload_n 2, 1))) (am_nd 71 (am_lf (70, .iastore, 1)) (am_lf (71, .aload_n 0, 1))))) (am_nd 80 (am_nd 76 (am_nd 75 (am_lf (72, .getfield 32, 3)) (am_lf (75, .aload_n 0, 1))) (am_nd 79 (am_lf (76, .getfield 35, 3)) (am_lf (79, .iload_n 1, 1)))) (am_nd 82 (am_nd 81 (am_lf (80, .iastore, 1)) (am_lf (81, .aload_n 0, 1))) (am_nd 83 (am_lf (82, .dup, 1)) (am_lf (83, .getfield 35, 3)))))) (am_nd 1000000 (am_nd 1000000 (am_nd 88 (am_nd 87 (am_lf (86, .iconst 1, 1)) (am_lf (87, .iadd, 1))) (am_nd 91 (am_lf (88, .putfield 35, 3)) (am_lf (91, .return_, 1)))) (am_nd 1000000 (am_nd 1000000 (am_lf (91, .return_, 1)) (am_lf (91, .return_, 1))) (am_nd 1000000 (am_lf (91, .return_, 1)) (am_lf (91, .return_, 1))))) (am_nd 1000000 (am_nd 1000000 (am_nd 1000000 (am_lf (91, .return_, 1)) (am_lf (91, .return_, 1))) (am_nd 1000000 (am_lf (91, .return_, 1)) (am_lf (91, .return_, 1)))) (am_nd 1000000 (am_nd 1000000 (am_lf (91, .return_, 1)) (am_lf (91, .return_, 1))) (am_nd 1000000 (am_lf (91, .return_, 1)) (am_lf (91, .return_, 1)))))))
def am_c81 : am_T am_E 6 := (am_nd 59 am_c81_0 am_c81_1)
def am_c82 : am_T am_E 4 := (am_nd 12 (am_nd 6 (am_nd 2 (am_nd 1 (am_lf (0, .aload_n 0, 1)) (am_lf (1, .iload_n 1, 1))) (am_nd 5 (am_lf (2, .putfield 39, 3)) (am_lf (5, .aload_n 0, 1)))) (am_nd 10 (am_nd 7 (am_lf (6, .iload_n 2, 1)) (am_lf (7, .putfield 42, 3))) (am_nd 11 (am_lf (10, .aload_n 0, 1)) (am_lf (11, .iload_n 3, 1))))) (am_nd 1000000 (am_nd 1000000 (am_nd 15 (am_lf (12, .putfield 45, 3)) (am_lf (15, .return_, 1))) (am_nd 1000000 (am_lf (15, .return_, 1)) (am_lf (15, .return_, 1)))) (am_nd 1000000 (am_nd 1000000 (am_lf (15, .return_, 1)) (am_lf (15, .return_, 1))) (am_nd 1000000 (am_lf (15, .return_, 1)) (am_lf (15, .return_, 1))))))
def am_c83 : am_T am_E 4 := (am_nd 16 (am_nd 8 (am_nd 4 (am_nd 1 (am_lf (0, .aload_n 0, 1)) (am_lf (1, .getfield 39, 3))) (am_nd 7 (am_lf (4, .ifCond .ne 15, 3)) (am_lf (7, .iload_n 1, 1)))) (am_nd 12 (am_nd 9 (am_lf (8, .aload_n 0, 1)) (am_lf (9, .getfield 35, 3))) (am_nd 15 (am_lf (12, .if_icmp .ge 7, 3)) (am_lf (15, .iconst 1, 1))))) (am_nd 1000000 (am_nd 20 (am_nd 19 (am_lf (16, .goto 4, 3)) (am_lf (19, .iconst 0, 1))) (am_nd 1000000 (am_lf (20, .ireturn, 1)) (am_lf (20, .ireturn, 1)))) (am_nd 1000000 (am_nd 1000000 (am_lf (20, .ireturn, 1)) (am_lf (20, .ireturn, 1))) (am_nd 1000000 (am_lf (20, .ireturn, 1)) (am_lf (20, .ireturn, 1))))))
def am_c84 : am_T am_E 4 := (am_nd 15 (am_nd 7 (am_nd 4 (am_nd 1 (am_lf (0, .iload_n 1, 1)) (am_lf (1, .ifCond .lt 18, 3))) (am_nd 5 (am_lf (4, .iload_n 1, 1)) (am_lf (5, .bipush 6, 2)))) (am_nd 11 (am_nd 10 (am_lf (7, .if_icmp .ge 12, 3)) (am_lf (10, .aload_n 0, 1))) (am_nd 14 (am_lf (11, .getfield 32, 3)) (am_lf (14, .iload_n 1, 1))))) (am_nd 1000000 (am_nd 19 (am_nd 16 (am_lf (15, .iaload, 1)) (am_lf (16, .goto 4, 3))) (am_nd 20 (am_lf (19, .iconst (-1), 1)) (am_lf (20, .ireturn, 1)))) (am_nd 1000000 (am_nd 1000000 (am_lf (20, .ireturn, 1)) (am_lf (20, .ireturn, 1))) (am_nd 1000000 (am_lf (20, .ireturn, 1)) (am_lf (20, .ireturn, 1))))))
def am_c85 : am_T am_E 4 := (am_nd 15 (am_nd 7 (am_nd 4 (am_nd 1 (am_lf (0, .iload_n 1, 1)) (am_lf (1, .ifCond .lt 18, 3))) (am_nd 5 (am_lf (4, .iload_n 1, 1)) (am_lf (5, .bipush 6, 2)))) (am_nd 11 (am_nd 10 (am_lf (7, .if_icmp .ge 12, 3)) (am_lf (10, .aload_n 0, 1))) (am_nd 14 (am_lf (11, .getfield 28, 3)) (am_lf (14, .iload_n 1, 1))))) (am_nd 1000000 (am_nd 19 (am_nd 16 (am_lf (15, .iaload, 1)) (am_lf (16, .goto 4, 3))) (am_nd 20 (am_lf (19, .iconst (-1), 1)) (am_lf (20, .ireturn, 1)))) (am_nd 1000000 (am_nd 1000000 (am_lf (20, .ireturn, 1)) (am_lf (20, .ireturn, 1))) (am_nd 1000000 (am_lf (20, .ireturn, 1)) (am_lf (20, .ireturn, 1))))))
def am_c86 : am_T am_E 5 := (am_nd 31 (am_nd 16 (am_nd 8 (am_nd 4 (am_nd 1 (am_lf (0, .aload_n 0, 1)) (am_lf (1, .getfield 12, 3))) (am_nd 7 (am_lf (4, .invokevirtual 58, 3)) (am_lf (7, .aload_n 0, 1)))) (am_nd 12 (am_nd 11 (am_lf (8, .getfield 21, 3)) (am_lf (11, .aload_n 0, 1))) (am_nd 15 (am_lf (12, .getfield 12, 3)) (am_lf (15, .aload_n 1, 1))))) (am_nd 24 (am_nd 20 (am_nd 17 (am_lf (16, .iload_n 2, 1)) (am_lf (17, .invokevirtual 61, 3))) (am_nd 21 (am_lf (20, .aload_n 0, 1)) (am_lf (21, .getfield 25, 3)))) (am_nd 28 (am_nd 25 (am_lf (24, .aload_n 0, 1)) (am_lf (25, .getfield 12, 3))) (am_nd 29 (am_lf (28, .aload_n 3, 1)) (am_lf (29, .iload 4, 2)))))) (am_nd 1000000 (am_nd 1000000 (am_nd 1000000 (am_nd 34 (am_lf (31, .invokevirtual 61, 3)) (am_lf (34, .return_, 1))) (am_nd 1000000 (am_lf (34, .return_, 1)) (am_lf (34, .return_, 1)))) (am_nd 1000000 (am_nd 1000000 (am_lf (34, .return_, 1)) (am_lf (34, .return_, 1))) (am_nd 1000000 (am_lf (34, .return_, 1)) (am_lf (34, .return_, 1))))) (am_nd 1000000 (am_nd 1000000 (am_nd 1000000 (am_lf (34, .return_, 1)) (am_lf (34, .return_, 1))) (am_nd 1000000 (am_lf (34, .return_, 1)) (am_lf (34, .return_, 1)))) (am_nd 1000000 (am_nd 1000000 (am_lf (34, .return_, 1)) (am_lf (34, .return_, 1))) (am_nd 1000000 (am_lf (34, .return_, 1)) (am_lf (34, .return_, 1)))))))
def am_c87 : am_T am_E 5 := (am_nd 25 (am_nd 12 (am_nd 6 (am_nd 2 (am_nd 1 (am_lf (0, .aload_n 0, 1)) (am_lf (1, .iconst 0, 1))) (am_nd 5 (am_lf (2, .putfield 36, 3)) (am_lf (5, .aload_n 0, 1)))) (am_nd 10 (am_nd 7 (am_lf (6, .iconst 0, 1)) (am_lf (7, .putfield 40, 3))) (am_nd 11 (am_lf (10, .iconst 0, 1)) (am_lf (11, .istore_n 1, 1))))) (am_nd 19 (am_nd 15 (am_nd 13 (am_lf (12, .iload_n 1, 1)) (am_lf (13, .bipush 6, 2))) (am_nd 18 (am_lf (15, .if_icmp .ge 17, 3)) (am_lf (18, .aload_n 0, 1)))) (am_nd 21 (am_nd 20 (am_lf (19, .iconst (-1), 1)) (am_lf (20, .iload_n 1, 1))) (am_nd 22 (am_lf (21, .iconst 0, 1)) (am_lf (22, .invokevirtual 43, 3)))))) (am_nd 1000000 (am_nd 1000000 (am_nd 29 (am_nd 26 (am_lf (25, .pop, 1)) (am_lf (26, .iinc 1 1, 3))) (am_nd 32 (am_lf (29, .goto (-17), 3)) (am_lf (32, .return_, 1)))) (am_nd 1000000 (am_nd 1000000 (am_lf (32, .return_, 1)) (am_lf (32, .return_, 1))) (am_nd 1000000 (am_lf (32, .return_, 1)) (am_lf (32, .return_, 1))))) (am_nd 1000000 (am_nd 1000000 (am_nd 1000000 (am_lf (32, .return_, 1)) (am_lf (32, .return_, 1))) (am_nd 1000000 (am_lf (32, .return_, 1)) (am_lf (32, .return_, 1)))) (am_nd 1000000 (am_nd 1000000 (am_lf (32, .return_, 1)) (am_lf (32, .return_, 1))) (am_nd 1000000 (am_lf (32, .return_, 1)) (am_lf (32, .return_, 1)))))))
def am_c88_0 : am_T am_E 5 := (am_nd 31 (am_nd 16 (am_nd 6 (am_nd 3 (am_nd 1 (am_lf (0, .iconst 0, 1)) (am_lf (1, .istore 4, 2))) (am_nd 5 (am_lf (3, .iload 4, 2)) (am_lf (5, .aload_n 0, 1)))) (am_nd 12 (am_nd 9 (am_lf (6, .getfield 40, 3)) (am_lf (9, .if_icmp .ge 57, 3))) (am_nd 14 (am_lf (12, .iload 4, 2)) (am_lf (14, .bipush 22, 2))))) (am_nd 25 (am_nd 20 (am_nd 19 (am_lf (16, .if_icmp .ge 50, 3)) (am_lf (19, .aload_n 0, 1))) (am_nd 23 (am_lf (20, .getfield 20, 3)) (am_lf (23, .iload 4, 2)))) (am_nd 27 (am_nd 26 (am_lf (25, .iaload, 1)) (am_lf (26, .iload_n 1, 1))) (am_nd 30 (am_lf (27, .if_icmp .ne 33, 3)) (am_lf (30, .aload_n 0, 1)))))) (am_nd 47 (am_nd 38 (am_nd 36 (am_nd 34 (am_lf (31, .getfield 24, 3)) (am_lf (34, .iload 4, 2))) (am_nd 37 (am_lf (36, .iaload, 1)) (am_lf (37, .iload_n 2, 1)))) (am_nd 42 (am_nd 41 (am_lf (38, .if_icmp .ne 22, 3)) (am_lf (41, .aload_n 0, 1))) (am_nd 45 (am_lf (42, .getfield 27, 3)) (am_lf (45, .iload 4, 2))))) (am_nd 53 (am_nd 49 (am_nd 48 (am_lf (47, .iaload, 1)) (am_lf (48, .iload_n 3, 1))) (am_nd 52 (am_lf (49, .if_icmp .ne 11, 3)) (am_lf (52, .aload_n 0, 1)))) (am_nd 58 (am_nd 56 (am_lf (53, .getfield 30, 3)) (am_lf (56, .iload 4, 2))) (am_nd 59 (am_lf (58, .iaload, 1)) (am_lf (59, .ireturn, 1)))))))
def am_c88_1 : am_T am_E 5 := (am_nd 91 (am_nd 79 (am_nd 70 (am_nd 66 (am_nd 63 (am_lf (60, .iinc 4 1, 3)) (am_lf (63, .goto (-60), 3))) (am_nd 67 (am_lf (66, .aload_n 0, 1)) (am_lf (67, .getfield 40, 3)))) (am_nd 74 (am_nd 72 (am_lf (70, .istore 4, 2)) (am_lf (72, .iload 4, 2))) (am_nd 77 (am_lf (74, .ifCond .lt 10, 3)) (am_lf (77, .iload 4, 2))))) (am_nd 86 (am_nd 84 (am_nd 81 (am_lf (79, .bipush 22, 2)) (am_lf (81, .if_icmp .lt 5, 3))) (am_nd 85 (am_lf (84, .iconst 0, 1)) (am_lf (85, .ireturn, 1)))) (am_nd 89 (am_nd 87 (am_lf (86, .aload_n 0, 1)) (am_lf (87, .iload 4, 2))) (am_nd 90 (am_lf (89, .iconst 1, 1)) (am_lf (90, .iadd, 1)))))) (am_nd 107 (am_nd 99 (am_nd 95 (am_nd 94 (am_lf (91, .putfield 40, 3)) (am_lf (94, .aload_n 0, 1))) (am_nd 98 (am_lf (95, .getfield 33, 3)) (am_lf (98, .iconst 0, 1)))) (am_nd 103 (am_nd 102 (am_lf (99, .invokestatic 51, 3)) (am_lf (102, .aload_n 0, 1))) (am_nd 106 (am_lf (103, .getfield 33, 3)) (am_lf (106, .iconst 1, 1))))) (am_nd 112 (am_nd 110 (am_nd 109 (am_lf (107, .iload 4, 2)) (am_lf (109, .iadd, 1))) (am_nd 111 (am_lf (110, .iconst 1, 1)) (am_lf (111, .iastore, 1)))) (am_nd 116 (am_nd 113 (am_lf (112, .aload_n 0, 1)) (am_lf (113, .invokevirtual 81, 3))) (am_nd 118 (am_lf (116, .istore 5, 2)) (am_lf (118, .aload_n 0, 1)))))))
def am_c88_2 : am_T am_E 5 := (am_nd 146 (am_nd 133 (am_nd 126 (am_nd 124 (am_nd 122 (am_lf (119, .getfield 20, 3)) (am_lf (122, .iload 4, 2))) (am_nd 125 (am_lf (124, .iload_n 1, 1)) (am_lf (125, .iastore, 1)))) (am_nd 130 (am_nd 127 (am_lf (126, .aload_n 0, 1)) (am_lf (127, .getfield 24, 3))) (am_nd 132 (am_lf (130, .iload 4, 2)) (am_lf (132, .iload_n 2, 1))))) (am_nd 140 (am_nd 135 (am_nd 134 (am_lf (133, .iastore, 1)) (am_lf (134, .aload_n 0, 1))) (am_nd 138 (am_lf (135, .getfield 27, 3)) (am_lf (138, .iload 4, 2)))) (am_nd 142 (am_nd 141 (am_lf (140, .iload_n 3, 1)) (am_lf (141, .iastore, 1))) (am_nd 143 (am_lf (142, .aload_n 0, 1)) (am_lf (143, .getfield 30, 3)))))) (am_nd 1000000 (am_nd 153 (am_nd 150 (am_nd 148 (am_lf (146, .iload 4, 2)) (am_lf (148, .iload 5, 2))) (am_nd 151 (am_lf (150, .iastore, 1)) (am_lf (151, .iload 5, 2)))) (am_nd 1000000 (am_nd 1000000 (am_lf (153, .ireturn, 1)) (am_lf (153, .ireturn, 1))) (am_nd 1000000 (am_lf (153, .ireturn, 1)) (am_lf (153, .ireturn, 1))))) (am_nd 1000000 (am_nd 1000000 (am_nd 1000000 (am_lf (153, .ireturn, 1)) (am_lf (153, .ireturn, 1))) (am_nd 1000000 (am_lf (153, .ireturn, 1)) (am_lf (153, .ireturn, 1)))) (am_nd 1000000 (am_nd 1000000 (am_lf (153, .ireturn, 1)) (am_lf (153, .ireturn, 1))) (am_nd 1000000 (am_lf (153, .ireturn, 1)) (am_lf (153, .ireturn, 1)))))))
def am_c88_3 : am_T am_E 5 := (am_nd 1000000 (am_nd 1000000 (am_nd 1000000 (am_nd 1000000 (am_nd 1000000 (am_lf (153, .ireturn, 1)) (am_lf (153, .ireturn, 1))) (am_nd 1000000 (am_lf (153, .ireturn, 1)) (am_lf (153, .ireturn, 1)))) (am_nd 1000000 (am_nd 1000000 (am_lf (153, .ireturn, 1)) (am_lf (153, .ireturn, 1))) (am_nd 1000000 (am_lf (153, .ireturn, 1)) (am_lf (153, .ireturn, 1))))) (am_nd 1000000 (am_nd 1000000 (am_nd 1000000 (am_lf (153, .ireturn, 1)) (am_lf (153, .ireturn, 1))) (am_nd 1000000 (am_lf (153, .ireturn, 1)) (am_lf (153, .ireturn, 1)))) (am_nd 1000000 (am_nd 1000000 (am_lf (153, .ireturn, 1)) (am_lf (153, .ireturn, 1))) (am_nd 1000000 (am_lf (153, .ireturn, 1)) (am_lf (153, .ireturn, 1)))))) (am_nd 1000000 (am_nd 1000000 (am_nd 1000000 (am_nd 1000000 (am_lf (153, .ireturn, 1)) (am_lf (153, .ireturn, 1))) (am_nd 1000000 (am_lf (153, .ireturn, 1)) (am_lf (153, .ireturn, 1)))) (am_nd 1000000 (am_nd 1000000 (am_lf (153, .ireturn, 1)) (am_lf (153, .ireturn, 1))) (am_nd 1000000 (am_lf (153, .ireturn, 1)) (am_lf (153, .ireturn, 1))))) (am_nd 1000000 (am_nd 1000000 (am_nd 1000000 (am_lf (153, .ireturn, 1)) (am_lf (153, .ireturn, 1))) (am_nd 1000000 (am_lf (153, .ireturn, 1)) (am_lf (153, .ireturn, 1)))) (am_nd 1000000 (am_nd 1000000 (am_lf (153, .ireturn, 1)) (am_lf (153, .ireturn, 1))) (am_nd 1000000 (am_lf (153, .ireturn, 1)) (am_lf (153, .ireturn, 1)))))))
def am_c88 : am_T am_E 7 := (am_nd 119 (am_nd 60 am_c88_0 am_c88_1) (am_nd 1000000 am_c88_2 am_c88_3))
def am_c89_0 : am_T am_E 5 := (am_nd 25 (am_nd 15 (am_nd 6 (am_nd 4 (am_nd 1 (am_lf (0, .aload_n 0, 1)) (am_lf (1, .getfield 36, 3))) (am_nd 5 (am_lf (4, .istore_n 1, 1)) (am_lf (5, .iload_n 1, 1)))) (am_nd 10 (am_nd 9 (am_lf (6, .ifCond .lt 9, 3)) (am_lf (9, .iload_n 1, 1))) (am_nd 12 (am_lf (10, .bipush 22, 2)) (am_lf (12, .if_icmp .lt 5, 3))))) (am_nd 19 (am_nd 17 (am_nd 16 (am_lf (15, .iconst 0, 1)) (am_lf (16, .ireturn, 1))) (am_nd 18 (am_lf (17, .aload_n 0, 1)) (am_lf (18, .iload_n 1, 1)))) (am_nd 21 (am_nd 20 (am_lf (19, .iconst 1, 1)) (am_lf (20, .iadd, 1))) (am_nd 24 (am_lf (21, .putfield 36, 3)) (am_lf (24, .aload_n 0, 1)))))) (am_nd 38 (am_nd 33 (am_nd 29 (am_nd 28 (am_lf (25, .getfield 33, 3)) (am_lf (28, .iconst 0, 1))) (am_nd 30 (am_lf (29, .aload_n 0, 1)) (am_lf (30, .getfield 13, 3)))) (am_nd 35 (am_nd 34 (am_lf (33, .iload_n 1, 1)) (am_lf (34, .aaload, 1))) (am_nd 36 (am_lf (35, .iconst 0, 1)) (am_lf (36, .bipush 23, 2))))) (am_nd 46 (am_nd 42 (am_nd 41 (am_lf (38, .invokestatic 88, 3)) (am_lf (41, .aload_n 0, 1))) (am_nd 45 (am_lf (42, .getfield 16, 3)) (am_lf (45, .iload_n 1, 1)))) (am_nd 48 (am_nd 47 (am_lf (46, .iconst 1, 1)) (am_lf (47, .bastore, 1))) (am_nd 49 (am_lf (48, .iconst 1, 1)) (am_lf (49, .istore_n 2, 1)))))))
def am_c89_1 : am_T am_E 5 := (am_nd 79 (am_nd 65 (am_nd 57 (am_nd 53 (am_nd 51 (am_lf (50, .iload_n 2, 1)) (am_lf (51, .bipush 23, 2))) (am_nd 56 (am_lf (53, .if_icmp .ge 25, 3)) (am_lf (56, .aload_n 0, 1)))) (am_nd 61 (am_nd 60 (am_lf (57, .getfield 33, 3)) (am_lf (60, .iload_n 2, 1))) (am_nd 62 (am_lf (61, .iaload, 1)) (am_lf (62, .ifCond .eq 10, 3))))) (am_nd 71 (am_nd 69 (am_nd 66 (am_lf (65, .aload_n 0, 1)) (am_lf (66, .getfield 16, 3))) (am_nd 70 (am_lf (69, .iload_n 1, 1)) (am_lf (70, .iconst 0, 1)))) (am_nd 75 (am_nd 72 (am_lf (71, .bastore, 1)) (am_lf (72, .iinc 2 1, 3))) (am_nd 78 (am_lf (75, .goto (-25), 3)) (am_lf (78, .iload_n 1, 1)))))) (am_nd 1000000 (am_nd 1000000 (am_nd 1000000 (am_nd 1000000 (am_lf (79, .ireturn, 1)) (am_lf (79, .ireturn, 1))) (am_nd 1000000 (am_lf (79, .ireturn, 1)) (am_lf (79, .ireturn, 1)))) (am_nd 1000000 (am_nd 1000000 (am_lf (79, .ireturn, 1)) (am_lf (79, .ireturn, 1))) (am_nd 1000000 (am_lf (79, .ireturn, 1)) (am_lf (79, .ireturn, 1))))) (am_nd 1000000 (am_nd 1000000 (am_nd 1000000 (am_lf (79, .ireturn, 1)) (am_lf (79, .ireturn, 1))) (am_nd 1000000 (am_lf (79, .ireturn, 1)) (am_lf (79, .ireturn, 1)))) (am_nd 1000000 (am_nd 1000000 (am_lf (79, .ireturn, 1)) (am_lf (79, .ireturn, 1))) (am_nd 1000000 (am_lf (79, .ireturn, 1)) (am_lf (79, .ireturn, 1)))))))
def am_c89 : am_T am_E 6 := (am_nd 50 am_c89_0 am_c89_1)
def am_c90_0 : am_T am_E 5 := (am_nd 29 (am_nd 13 (am_nd 6 (am_nd 2 (am_nd 1 (am_lf (0, .aload_n 0, 1)) (am_lf (1, .iconst 0, 1))) (am_nd 5 (am_lf (2, .putfield 24, 3)) (am_lf (5, .aload_n 0, 1)))) (am_nd 10 (am_nd 7 (am_lf (6, .iconst 0, 1)) (am_lf (7, .putfield 28, 3))) (am_nd 11 (am_lf (10, .iconst 0, 1)) (am_lf (11, .istore 4, 2))))) (am_nd 21 (am_nd 17 (am_nd 15 (am_lf (13, .iload 4, 2)) (am_lf (15, .bipush 6, 2))) (am_nd 20 (am_lf (17, .if_icmp .ge 18, 3)) (am_lf (20, .aload_n 0, 1)))) (am_nd 26 (am_nd 24 (am_lf (21, .getfield 9, 3)) (am_lf (24, .iload 4, 2))) (am_nd 28 (am_lf (26, .iload 4, 2)) (am_lf (28, .iastore, 1)))))) (am_nd 45 (am_nd 37 (am_nd 35 (am_nd 32 (am_lf (29, .iinc 4 1, 3)) (am_lf (32, .goto (-19), 3))) (am_nd 36 (am_lf (35, .aload_n 2, 1)) (am_lf (36, .iload_n 3, 1)))) (am_nd 42 (am_nd 40 (am_lf (37, .invokevirtual 43, 3)) (am_lf (40, .istore 4, 2))) (am_nd 43 (am_lf (42, .iconst 0, 1)) (am_lf (43, .istore 5, 2))))) (am_nd 53 (am_nd 49 (am_nd 47 (am_lf (45, .iload 5, 2)) (am_lf (47, .iload 4, 2))) (am_nd 52 (am_lf (49, .if_icmp .ge 102, 3)) (am_lf (52, .aload_n 2, 1)))) (am_nd 56 (am_nd 54 (am_lf (53, .iload_n 3, 1)) (am_lf (54, .iload 5, 2))) (am_nd 57 (am_lf (56, .iconst 0, 1)) (am_lf (57, .invokevirtual 49, 3)))))))
def am_c90_1 : am_T am_E 5 := (am_nd 87 (am_nd 73 (am_nd 66 (am_nd 63 (am_nd 62 (am_lf (60, .istore 6, 2)) (am_lf (62, .aload_n 2, 1))) (am_nd 64 (am_lf (63, .iload_n 3, 1)) (am_lf (64, .iload 5, 2)))) (am_nd 70 (am_nd 67 (am_lf (66, .iconst 3, 1)) (am_lf (67, .invokevirtual 49, 3))) (am_nd 72 (am_lf (70, .istore 7, 2)) (am_lf (72, .aload_n 0, 1))))) (am_nd 78 (am_nd 75 (am_nd 74 (am_lf (73, .aload_n 2, 1)) (am_lf (74, .iload_n 3, 1))) (am_nd 77 (am_lf (75, .iload 5, 2)) (am_lf (77, .iconst 2, 1)))) (am_nd 84 (am_nd 81 (am_lf (78, .invokevirtual 49, 3)) (am_lf (81, .invokevirtual 53, 3))) (am_nd 86 (am_lf (84, .istore 8, 2)) (am_lf (86, .aload_n 0, 1)))))) (am_nd 102 (am_nd 95 (am_nd 92 (am_nd 89 (am_lf (87, .iload 7, 2)) (am_lf (89, .invokevirtual 53, 3))) (am_nd 94 (am_lf (92, .istore 9, 2)) (am_lf (94, .aload_n 0, 1)))) (am_nd 98 (am_nd 96 (am_lf (95, .aload_n 1, 1)) (am_lf (96, .iload 6, 2))) (am_nd 100 (am_lf (98, .iload 8, 2)) (am_lf (100, .iload 9, 2))))) (am_nd 111 (am_nd 107 (am_nd 105 (am_lf (102, .invokevirtual 56, 3)) (am_lf (105, .iload 6, 2))) (am_nd 110 (am_lf (107, .ifCond .ne 12, 3)) (am_lf (110, .aload_n 1, 1)))) (am_nd 116 (am_nd 113 (am_lf (111, .iload 7, 2)) (am_lf (113, .invokevirtual 60, 3))) (am_nd 119 (am_lf (116, .goto 14, 3)) (am_lf (119, .aload_n 0, 1)))))))
def am_c90_2 : am_T am_E 5 := (am_nd 152 (am_nd 134 (am_nd 127 (am_nd 123 (am_nd 121 (am_lf (120, .aload_n 1, 1)) (am_lf (121, .iload 6, 2))) (am_nd 125 (am_lf (123, .iload 8, 2)) (am_lf (125, .iload 9, 2)))) (am_nd 132 (am_nd 130 (am_lf (127, .invokevirtual 65, 3)) (am_lf (130, .istore 10, 2))) (am_nd 133 (am_lf (132, .aload_n 0, 1)) (am_lf (133, .aload_n 2, 1))))) (am_nd 142 (am_nd 137 (am_nd 135 (am_lf (134, .iload_n 3, 1)) (am_lf (135, .iload 5, 2))) (am_nd 140 (am_lf (137, .invokevirtual 69, 3)) (am_lf (140, .iload 10, 2)))) (am_nd 148 (am_nd 145 (am_lf (142, .invokevirtual 73, 3)) (am_lf (145, .iinc 5 1, 3))) (am_nd 151 (am_lf (148, .goto (-103), 3)) (am_lf (151, .aload_n 0, 1)))))) (am_nd 1000000 (am_nd 158 (am_nd 154 (am_nd 153 (am_lf (152, .aload_n 1, 1)) (am_lf (153, .aload_n 2, 1))) (am_nd 155 (am_lf (154, .iload_n 3, 1)) (am_lf (155, .invokevirtual 77, 3)))) (am_nd 1000000 (am_nd 1000000 (am_lf (158, .return_, 1)) (am_lf (158, .return_, 1))) (am_nd 1000000 (am_lf (158, .return_, 1)) (am_lf (158, .return_, 1))))) (am_nd 1000000 (am_nd 1000000 (am_nd 1000000 (am_lf (158, .return_, 1)) (am_lf (158, .return_, 1))) (am_nd 1000000 (am_lf (158, .return_, 1)) (am_lf (158, .return_, 1)))) (am_nd 1000000 (am_nd 1000000 (am_lf (158, .return_, 1)) (am_lf (158, .return_, 1))) (am_nd 1000000 (am_lf (158, .return_, 1)) (am_lf (158, .return_, 1)))))))
def am_c90_3 : am_T am_E 5 := (am_nd 1000000 (am_nd 1000000 (am_nd 1000000 (am_nd 1000000 (am_nd 1000000 (am_lf (158, .return_, 1)) (am_lf (158, .return_, 1))) (am_nd 1000000 (am_lf (158, .return_, 1)) (am_lf (158, .return_, 1)))) (am_nd 1000000 (am_nd 1000000 (am_lf (158, .return_, 1)) (am_lf (158, .return_, 1))) (am_nd 1000000 (am_lf (158, .return_, 1)) (am_lf (158, .return_, 1))))) (am_nd 1000000 (am_nd 1000000 (am_nd 1000000 (am_lf (158, .return_, 1)) (am_lf (158, .return_, 1))) (am_nd 1000000 (am_lf (158, .return_, 1)) (am_lf (158, .return_, 1)))) (am_nd 1000000 (am_nd 1000000 (am_lf (158, .return_, 1)) (am_lf (158, .return_, 1))) (am_nd 1000000 (am_lf (158, .return_, 1)) (am_lf (158, .return_, 1)))))) (am_nd 1000000 (am_nd 1000000 (am_nd 1000000 (am_nd 1000000 (am_lf (158, .return_, 1)) (am_lf (158, .return_, 1))) (am_nd 1000000 (am_lf (158, .return_, 1)) (am_lf (158, .return_, 1)))) (am_nd 1000000 (am_nd 1000000 (am_lf (158, .return_, 1)) (am_lf (158, .return_, 1))) (am_nd 1000000 (am_lf (158, .return_, 1)) (am_lf (158, .return_, 1))))) (am_nd 1000000 (am_nd 1000000 (am_nd 1000000 (am_lf (158, .return_, 1)) (am_lf (158, .return_, 1))) (am_nd 1000000 (am_lf (158, .return_, 1)) (am_lf (158, .return_, 1)))) (am_nd 1000000 (am_nd 1000000 (am_lf (158, .return_, 1)) (am_lf (158, .return_, 1))) (am_nd 1000000 (am_lf (158, .return_, 1)) (am_lf (158, .return_, 1)))))))
def am_c90 : am_T am_E 7 := (am_nd 120 (am_nd 60 am_c90_0 am_c90_1) (am_nd 1000000 am_c90_2 am_c90_3))
def am_c91 : am_T am_E 4 := (am_nd 16 (am_nd 8 (am_nd 4 (am_nd 1 (am_lf (0, .iload_n 1, 1)) (am_lf (1, .invokestatic 81, 3))) (am_nd 7 (am_lf (4, .ifCond .eq 12, 3)) (am_lf (7, .aload_n 0, 1)))) (am_nd 12 (am_nd 11 (am_lf (8, .getfield 9, 3)) (am_lf (11, .iload_n 1, 1))) (am_nd 13 (am_lf (12, .iaload, 1)) (am_lf (13, .goto 4, 3))))) (am_nd 1000000 (am_nd 1000000 (am_nd 17 (am_lf (16, .iconst 0, 1)) (am_lf (17, .ireturn, 1))) (am_nd 1000000 (am_lf (17, .ireturn, 1)) (am_lf (17, .ireturn, 1)))) (am_nd 1000000 (am_nd 1000000 (am_lf (17, .ireturn, 1)) (am_lf (17, .ireturn, 1))) (am_nd 1000000 (am_lf (17, .ireturn, 1)) (am_lf (17, .ireturn, 1))))))
def am_c92_0 : am_T am_E 5 := (am_nd 29 (am_nd 15 (am_nd 7 (am_nd 3 (am_nd 1 (am_lf (0, .iload_n 2, 1)) (am_lf (1, .bipush 9, 2))) (am_nd 6 (am_lf (3, .if_icmp .ne 25, 3)) (am_lf (6, .aload_n 0, 1)))) (am_nd 10 (am_nd 9 (am_lf (7, .bipush 9, 2)) (am_lf (9, .iload_n 3, 1))) (am_nd 12 (am_lf (10, .iload 4, 2)) (am_lf (12, .invokevirtual 89, 3))))) (am_nd 21 (am_nd 17 (am_nd 16 (am_lf (15, .aload_n 0, 1)) (am_lf (16, .dup, 1))) (am_nd 20 (am_lf (17, .getfield 28, 3)) (am_lf (20, .iconst 1, 1)))) (am_nd 25 (am_nd 22 (am_lf (21, .iadd, 1)) (am_lf (22, .putfield 28, 3))) (am_nd 28 (am_lf (25, .goto 75, 3)) (am_lf (28, .iload_n 2, 1)))))) (am_nd 46 (am_nd 37 (am_nd 34 (am_nd 31 (am_lf (29, .bipush 7, 2)) (am_lf (31, .if_icmp .ne 33, 3))) (am_nd 35 (am_lf (34, .aload_n 1, 1)) (am_lf (35, .iload 4, 2)))) (am_nd 43 (am_nd 40 (am_lf (37, .invokevirtual 93, 3)) (am_lf (40, .ifCond .eq 12, 3))) (am_nd 44 (am_lf (43, .aload_n 1, 1)) (am_lf (44, .iload 4, 2))))) (am_nd 55 (am_nd 52 (am_nd 49 (am_lf (46, .invokevirtual 96, 3)) (am_lf (49, .ifCond .ne 15, 3))) (am_nd 53 (am_lf (52, .aload_n 0, 1)) (am_lf (53, .bipush 7, 2)))) (am_nd 58 (am_nd 56 (am_lf (55, .iload_n 3, 1)) (am_lf (56, .iload 4, 2))) (am_nd 61 (am_lf (58, .invokevirtual 99, 3)) (am_lf (61, .goto 39, 3)))))))
def am_c92_1 : am_T am_E 5 := (am_nd 94 (am_nd 79 (am_nd 71 (am_nd 67 (am_nd 65 (am_lf (64, .iload_n 2, 1)) (am_lf (65, .bipush 8, 2))) (am_nd 70 (am_lf (67, .if_icmp .ne 33, 3)) (am_lf (70, .aload_n 1, 1)))) (am_nd 75 (am_nd 72 (am_lf (71, .iload_n 3, 1)) (am_lf (72, .invokevirtual 93, 3))) (am_nd 78 (am_lf (75, .ifCond .eq 14, 3)) (am_lf (78, .aload_n 1, 1))))) (am_nd 89 (am_nd 83 (am_nd 80 (am_lf (79, .iload_n 3, 1)) (am_lf (80, .invokevirtual 96, 3))) (am_nd 86 (am_lf (83, .invokestatic 102, 3)) (am_lf (86, .ifCond .ne 14, 3)))) (am_nd 92 (am_nd 90 (am_lf (89, .aload_n 0, 1)) (am_lf (90, .bipush 8, 2))) (am_nd 93 (am_lf (92, .iload_n 3, 1)) (am_lf (93, .aload_n 0, 1)))))) (am_nd 1000000 (am_nd 1000000 (am_nd 100 (am_nd 97 (am_lf (94, .getfield 28, 3)) (am_lf (97, .invokevirtual 99, 3))) (am_nd 1000000 (am_lf (100, .return_, 1)) (am_lf (100, .return_, 1)))) (am_nd 1000000 (am_nd 1000000 (am_lf (100, .return_, 1)) (am_lf (100, .return_, 1))) (am_nd 1000000 (am_lf (100, .return_, 1)) (am_lf (100, .return_, 1))))) (am_nd 1000000 (am_nd 1000000 (am_nd 1000000 (am_lf (100, .return_, 1)) (am_lf (100, .return_, 1))) (am_nd 1000000 (am_lf (100, .return_, 1)) (am_lf (100, .return_, 1)))) (am_nd 1000000 (am_nd 1000000 (am_lf (100, .return_, 1)) (am_lf (100, .return_, 1))) (am_nd 1000000 (am_lf (100, .return_, 1)) (am_lf (100, .return_, 1)))))))
def am_c92 : am_T am_E 6 := (am_nd 64 am_c92_0 am_c92_1)
def am_c93 : am_T am_E 5 := (am_nd 32 (am_nd 18 (am_nd 8 (am_nd 4 (am_nd 1 (am_lf (0, .aload_n 0, 1)) (am_lf (1, .getfield 24, 3))) (am_nd 6 (am_lf (4, .istore 4, 2)) (am_lf (6, .iload 4, 2)))) (am_nd 13 (am_nd 11 (am_lf (8, .ifCond .lt 42, 3)) (am_lf (11, .iload 4, 2))) (am_nd 15 (am_lf (13, .bipush 8, 2)) (am_lf (15, .if_icmp .ge 35, 3))))) (am_nd 23 (am_nd 21 (am_nd 19 (am_lf (18, .aload_n 0, 1)) (am_lf (19, .iload 4, 2))) (am_nd 22 (am_lf (21, .iconst 1, 1)) (am_lf (22, .iadd, 1)))) (am_nd 27 (am_nd 26 (am_lf (23, .putfield 24, 3)) (am_lf (26, .aload_n 0, 1))) (am_nd 30 (am_lf (27, .getfield 15, 3)) (am_lf (30, .iload 4, 2)))))) (am_nd 43 (am_nd 38 (am_nd 34 (am_nd 33 (am_lf (32, .iload_n 1, 1)) (am_lf (33, .iastore, 1))) (am_nd 35 (am_lf (34, .aload_n 0, 1)) (am_lf (35, .getfield 18, 3)))) (am_nd 41 (am_nd 40 (am_lf (38, .iload 4, 2)) (am_lf (40, .iload_n 2, 1))) (am_nd 42 (am_lf (41, .iastore, 1)) (am_lf (42, .aload_n 0, 1))))) (am_nd 50 (am_nd 48 (am_nd 46 (am_lf (43, .getfield 21, 3)) (am_lf (46, .iload 4, 2))) (am_nd 49 (am_lf (48, .iload_n 3, 1)) (am_lf (49, .iastore, 1)))) (am_nd 1000000 (am_nd 1000000 (am_lf (50, .return_, 1)) (am_lf (50, .return_, 1))) (am_nd 1000000 (am_lf (50, .return_, 1)) (am_lf (50, .return_, 1)))))))
def am_c94 : am_T am_E 4 := (am_nd 15 (am_nd 7 (am_nd 4 (am_nd 1 (am_lf (0, .iload_n 1, 1)) (am_lf (1, .ifCond .lt 22, 3))) (am_nd 5 (am_lf (4, .iload_n 1, 1)) (am_lf (5, .bipush 22, 2)))) (am_nd 11 (am_nd 10 (am_lf (7, .if_icmp .ge 16, 3)) (am_lf (10, .aload_n 0, 1))) (am_nd 14 (am_lf (11, .getfield 16, 3)) (am_lf (14, .iload_n 1, 1))))) (am_nd 23 (am_nd 19 (am_nd 16 (am_lf (15, .baload, 1)) (am_lf (16, .ifCond .eq 7, 3))) (am_nd 20 (am_lf (19, .iconst 1, 1)) (am_lf (20, .goto 4, 3)))) (am_nd 1000000 (am_nd 24 (am_lf (23, .iconst 0, 1)) (am_lf (24, .ireturn, 1))) (am_nd 1000000 (am_lf (24, .ireturn, 1)) (am_lf (24, .ireturn, 1))))))
def am_c95 : am_T am_E 3 := (am_nd 6 (am_nd 2 (am_nd 1 (am_lf (0, .aload_n 0, 1)) (am_lf (1, .iload_n 1, 1))) (am_nd 3 (am_lf (2, .iconst 0, 1)) (am_lf (3, .invokevirtual 47, 3)))) (am_nd 1000000 (am_nd 1000000 (am_lf (6, .ireturn, 1)) (am_lf (6, .ireturn, 1))) (am_nd 1000000 (am_lf (6, .ireturn, 1)) (am_lf (6, .ireturn, 1)))))
def am_c96 : am_T am_E 5 := (am_nd 30 (am_nd 15 (am_nd 7 (am_nd 4 (am_nd 1 (am_lf (0, .iload_n 1, 1)) (am_lf (1, .ifCond .lt 23, 3))) (am_nd 5 (am_lf (4, .iload_n 1, 1)) (am_lf (5, .bipush 22, 2)))) (am_nd 11 (am_nd 10 (am_lf (7, .if_icmp .ge 17, 3)) (am_lf (10, .iload_n 2, 1))) (am_nd 14 (am_lf (11, .ifCond .lt 13, 3)) (am_lf (14, .iload_n 2, 1))))) (am_nd 24 (am_nd 20 (am_nd 17 (am_lf (15, .bipush 23, 2)) (am_lf (17, .if_icmp .ge 7, 3))) (am_nd 21 (am_lf (20, .iconst 1, 1)) (am_lf (21, .goto 4, 3)))) (am_nd 26 (am_nd 25 (am_lf (24, .iconst 0, 1)) (am_lf (25, .istore_n 3, 1))) (am_nd 27 (am_lf (26, .iload_n 3, 1)) (am_lf (27, .ifCond .eq 14, 3)))))) (am_nd 42 (am_nd 36 (am_nd 34 (am_nd 31 (am_lf (30, .aload_n 0, 1)) (am_lf (31, .getfield 13, 3))) (am_nd 35 (am_lf (34, .iload_n 1, 1)) (am_lf (35, .aaload, 1)))) (am_nd 38 (am_nd 37 (am_lf (36, .iload_n 2, 1)) (am_lf (37, .iaload, 1))) (am_nd 41 (am_lf (38, .goto 4, 3)) (am_lf (41, .iconst 0, 1))))) (am_nd 1000000 (am_nd 1000000 (am_nd 1000000 (am_lf (42, .ireturn, 1)) (am_lf (42, .ireturn, 1))) (am_nd 1000000 (am_lf (42, .ireturn, 1)) (am_lf (42, .ireturn, 1)))) (am_nd 1000000 (am_nd 1000000 (am_lf (42, .ireturn, 1)) (am_lf (42, .ireturn, 1))) (am_nd 1000000 (am_lf (42, .ireturn, 1)) (am_lf (42, .ireturn, 1)))))))
def am_c97 : am_T am_E 5 := (am_nd 31 (am_nd 16 (am_nd 6 (am_nd 3 (am_nd 1 (am_lf (0, .iconst 0, 1)) (am_lf (1, .istore 4, 2))) (am_nd 5 (am_lf (3, .iload 4, 2)) (am_lf (5, .aload_n 0, 1)))) (am_nd 12 (am_nd 9 (am_lf (6, .getfield 24, 3)) (am_lf (9, .if_icmp .ge 29, 3))) (am_nd 14 (am_lf (12, .iload 4, 2)) (am_lf (14, .bipush 8, 2))))) (am_nd 23 (am_nd 20 (am_nd 19 (am_lf (16, .if_icmp .ge 22, 3)) (am_lf (19, .aload_n 0, 1))) (am_nd 22 (am_lf (20, .iload 4, 2)) (am_lf (22, .iload_n 1, 1)))) (am_nd 25 (am_nd 24 (am_lf (23, .iload_n 2, 1)) (am_lf (24, .iload_n 3, 1))) (am_nd 28 (am_lf (25, .invokevirtual 85, 3)) (am_lf (28, .ifCond .eq 4, 3)))))) (am_nd 45 (am_nd 39 (am_nd 35 (am_nd 32 (am_lf (31, .return_, 1)) (am_lf (32, .iinc 4 1, 3))) (am_nd 38 (am_lf (35, .goto (-32), 3)) (am_lf (38, .aload_n 0, 1)))) (am_nd 41 (am_nd 40 (am_lf (39, .iload_n 1, 1)) (am_lf (40, .iload_n 2, 1))) (am_nd 42 (am_lf (41, .iload_n 3, 1)) (am_lf (42, .invokevirtual 89, 3))))) (am_nd 1000000 (am_nd 1000000 (am_nd 1000000 (am_lf (45, .return_, 1)) (am_lf (45, .return_, 1))) (am_nd 1000000 (am_lf (45, .return_, 1)) (am_lf (45, .return_, 1)))) (am_nd 1000000 (am_nd 1000000 (am_lf (45, .return_, 1)) (am_lf (45, .return_, 1))) (am_nd 1000000 (am_lf (45, .return_, 1)) (am_lf (45, .return_, 1)))))))
def am_c98 : am_T am_E 5 := (am_nd 27 (am_nd 15 (am_nd 7 (am_nd 4 (am_nd 1 (am_lf (0, .iload_n 1, 1)) (am_lf (1, .ifCond .lt 44, 3))) (am_nd 5 (am_lf (4, .iload_n 1, 1)) (am_lf (5, .bipush 8, 2)))) (am_nd 11 (am_nd 10 (am_lf (7, .if_icmp .ge 38, 3)) (am_lf (10, .aload_n 0, 1))) (am_nd 14 (am_lf (11, .getfield 15, 3)) (am_lf (14, .iload_n 1, 1))))) (am_nd 21 (am_nd 17 (am_nd 16 (am_lf (15, .iaload, 1)) (am_lf (16, .iload_n 2, 1))) (am_nd 20 (am_lf (17, .if_icmp .ne 28, 3)) (am_lf (20, .aload_n 0, 1)))) (am_nd 25 (am_nd 24 (am_lf (21, .getfield 18, 3)) (am_lf (24, .iload_n 1, 1))) (am_nd 26 (am_lf (25, .iaload, 1)) (am_lf (26, .iload_n 3, 1)))))) (am_nd 42 (am_nd 35 (am_nd 31 (am_nd 30 (am_lf (27, .if_icmp .ne 18, 3)) (am_lf (30, .aload_n 0, 1))) (am_nd 34 (am_lf (31, .getfield 21, 3)) (am_lf (34, .iload_n 1, 1)))) (am_nd 38 (am_nd 36 (am_lf (35, .iaload, 1)) (am_lf (36, .iload 4, 2))) (am_nd 41 (am_lf (38, .if_icmp .ne 7, 3)) (am_lf (41, .iconst 1, 1))))) (am_nd 1000000 (am_nd 46 (am_nd 45 (am_lf (42, .goto 4, 3)) (am_lf (45, .iconst 0, 1))) (am_nd 1000000 (am_lf (46, .ireturn, 1)) (am_lf (46, .ireturn, 1)))) (am_nd 1000000 (am_nd 1000000 (am_lf (46, .ireturn, 1)) (am_lf (46, .ireturn, 1))) (am_nd 1000000 (am_lf (46, .ireturn, 1)) (am_lf (46, .ireturn, 1)))))))
def am_c99 : am_T am_E 4 := (am_nd 15 (am_nd 7 (am_nd 4 (am_nd 1 (am_lf (0, .iload_n 0, 1)) (am_lf (1, .ifCond .lt 13, 3))) (am_nd 5 (am_lf (4, .iload_n 0, 1)) (am_lf (5, .bipush 8, 2)))) (am_nd 11 (am_nd 10 (am_lf (7, .if_icmp .ge 7, 3)) (am_lf (10, .iconst 1, 1))) (am_nd 14 (am_lf (11, .goto 4, 3)) (am_lf (14, .iconst 0, 1))))) (am_nd 1000000 (am_nd 1000000 (am_nd 1000000 (am_lf (15, .ireturn, 1)) (am_lf (15, .ireturn, 1))) (am_nd 1000000 (am_lf (15, .ireturn, 1)) (am_lf (15, .ireturn, 1)))) (am_nd 1000000 (am_nd 1000000 (am_lf (15, .ireturn, 1)) (am_lf (15, .ireturn, 1))) (am_nd 1000000 (am_lf (15, .ireturn, 1)) (am_lf (15, .ireturn, 1))))))
def am_c100 : am_T am_E 4 := (am_nd 14 (am_nd 8 (am_nd 4 (am_nd 1 (am_lf (0, .aload_n 0, 1)) (am_lf (1, .getfield 33, 3))) (am_nd 5 (am_lf (4, .iconst 0, 1)) (am_lf (5, .invokestatic 51, 3)))) (am_nd 12 (am_nd 9 (am_lf (8, .aload_n 0, 1)) (am_lf (9, .getfield 33, 3))) (am_nd 13 (am_lf (12, .iconst 0, 1)) (am_lf (13, .iload_n 1, 1))))) (am_nd 1000000 (am_nd 16 (am_nd 15 (am_lf (14, .iastore, 1)) (am_lf (15, .aload_n 0, 1))) (am_nd 19 (am_lf (16, .invokevirtual 57, 3)) (am_lf (19, .ireturn, 1)))) (am_nd 1000000 (am_nd 1000000 (am_lf (19, .ireturn, 1)) (am_lf (19, .ireturn, 1))) (am_nd 1000000 (am_lf (19, .ireturn, 1)) (am_lf (19, .ireturn, 1))))))
def am_c101 : am_T am_E 5 := (am_nd 29 (am_nd 13 (am_nd 4 (am_nd 2 (am_nd 1 (am_lf (0, .iconst 0, 1)) (am_lf (1, .istore_n 1, 1))) (am_nd 3 (am_lf (2, .iload_n 1, 1)) (am_lf (3, .aload_n 0, 1)))) (am_nd 10 (am_nd 7 (am_lf (4, .getfield 36, 3)) (am_lf (7, .if_icmp .ge 30, 3))) (am_nd 11 (am_lf (10, .iload_n 1, 1)) (am_lf (11, .bipush 22, 2))))) (am_nd 21 (am_nd 17 (am_nd 16 (am_lf (13, .if_icmp .ge 24, 3)) (am_lf (16, .aload_n 0, 1))) (am_nd 18 (am_lf (17, .aload_n 0, 1)) (am_lf (18, .getfield 13, 3)))) (am_nd 23 (am_nd 22 (am_lf (21, .iload_n 1, 1)) (am_lf (22, .aaload, 1))) (am_nd 26 (am_lf (23, .invokevirtual 84, 3)) (am_lf (26, .ifCond .eq 5, 3)))))) (am_nd 1000000 (am_nd 37 (am_nd 31 (am_nd 30 (am_lf (29, .iload_n 1, 1)) (am_lf (30, .ireturn, 1))) (am_nd 34 (am_lf (31, .iinc 1 1, 3)) (am_lf (34, .goto (-32), 3)))) (am_nd 41 (am_nd 38 (am_lf (37, .aload_n 0, 1)) (am_lf (38, .invokevirtual 81, 3))) (am_nd 1000000 (am_lf (41, .ireturn, 1)) (am_lf (41, .ireturn, 1))))) (am_nd 1000000 (am_nd 1000000 (am_nd 1000000 (am_lf (41, .ireturn, 1)) (am_lf (41, .ireturn, 1))) (am_nd 1000000 (am_lf (41, .ireturn, 1)) (am_lf (41, .ireturn, 1)))) (am_nd 1000000 (am_nd 1000000 (am_lf (41, .ireturn, 1)) (am_lf (41, .ireturn, 1))) (am_nd 1000000 (am_lf (41, .ireturn, 1)) (am_lf (41, .ireturn, 1)))))))
def am_c102 : am_T am_E 5 := (am_nd 23 (am_nd 11 (am_nd 5 (am_nd 2 (am_nd 1 (am_lf (0, .iconst 0, 1)) (am_lf (1, .istore_n 2, 1))) (am_nd 3 (am_lf (2, .iload_n 2, 1)) (am_lf (3, .bipush 23, 2)))) (am_nd 9 (am_nd 8 (am_lf (5, .if_icmp .ge 29, 3)) (am_lf (8, .iload_n 2, 1))) (am_nd 10 (am_lf (9, .aload_n 1, 1)) (am_lf (10, .arraylength, 1))))) (am_nd 17 (am_nd 15 (am_nd 14 (am_lf (11, .if_icmp .ge 23, 3)) (am_lf (14, .aload_n 1, 1))) (am_nd 16 (am_lf (15, .iload_n 2, 1)) (am_lf (16, .iaload, 1)))) (am_nd 21 (am_nd 18 (am_lf (17, .aload_n 0, 1)) (am_lf (18, .getfield 33, 3))) (am_nd 22 (am_lf (21, .iload_n 2, 1)) (am_lf (22, .iaload, 1)))))) (am_nd 1000000 (am_nd 31 (am_nd 27 (am_nd 26 (am_lf (23, .if_icmp .eq 5, 3)) (am_lf (26, .iconst 0, 1))) (am_nd 28 (am_lf (27, .ireturn, 1)) (am_lf (28, .iinc 2 1, 3)))) (am_nd 35 (am_nd 34 (am_lf (31, .goto (-29), 3)) (am_lf (34, .iconst 1, 1))) (am_nd 1000000 (am_lf (35, .ireturn, 1)) (am_lf (35, .ireturn, 1))))) (am_nd 1000000 (am_nd 1000000 (am_nd 1000000 (am_lf (35, .ireturn, 1)) (am_lf (35, .ireturn, 1))) (am_nd 1000000 (am_lf (35, .ireturn, 1)) (am_lf (35, .ireturn, 1)))) (am_nd 1000000 (am_nd 1000000 (am_lf (35, .ireturn, 1)) (am_lf (35, .ireturn, 1))) (am_nd 1000000 (am_lf (35, .ireturn, 1)) (am_lf (35, .ireturn, 1)))))))
def am_c103_0 : am_T am_E 5 := (am_nd 33 (am_nd 17 (am_nd 8 (am_nd 2 (am_nd 1 (am_lf (0, .aload_n 1, 1)) (am_lf (1, .iload_n 3, 1))) (am_nd 5 (am_lf (2, .invokevirtual 93, 3)) (am_lf (5, .ifCond .eq 16, 3)))) (am_nd 11 (am_nd 9 (am_lf (8, .aload_n 1, 1)) (am_lf (9, .iload 4, 2))) (am_nd 14 (am_lf (11, .invokevirtual 93, 3)) (am_lf (14, .ifCond .eq 7, 3))))) (am_nd 24 (am_nd 21 (am_nd 18 (am_lf (17, .iconst 1, 1)) (am_lf (18, .goto 4, 3))) (am_nd 22 (am_lf (21, .iconst 0, 1)) (am_lf (22, .istore 5, 2)))) (am_nd 28 (am_nd 25 (am_lf (24, .iload_n 2, 1)) (am_lf (25, .invokestatic 105, 3))) (am_nd 31 (am_lf (28, .ifCond .eq 41, 3)) (am_lf (31, .iload 5, 2)))))) (am_nd 50 (am_nd 40 (am_nd 37 (am_nd 36 (am_lf (33, .ifCond .eq 36, 3)) (am_lf (36, .iload_n 2, 1))) (am_nd 38 (am_lf (37, .aload_n 1, 1)) (am_lf (38, .iload 4, 2)))) (am_nd 46 (am_nd 43 (am_lf (40, .invokevirtual 96, 3)) (am_lf (43, .invokestatic 108, 3))) (am_nd 49 (am_lf (46, .ifCond .ne 23, 3)) (am_lf (49, .aload_n 1, 1))))) (am_nd 56 (am_nd 52 (am_nd 51 (am_lf (50, .iload_n 2, 1)) (am_lf (51, .aload_n 1, 1))) (am_nd 53 (am_lf (52, .iload_n 3, 1)) (am_lf (53, .invokevirtual 96, 3)))) (am_nd 59 (am_nd 57 (am_lf (56, .aload_n 1, 1)) (am_lf (57, .iload 4, 2))) (am_nd 62 (am_lf (59, .invokevirtual 96, 3)) (am_lf (62, .invokestatic 112, 3)))))))
def am_c103_1 : am_T am_E 5 := (am_nd 130 (am_nd 117 (am_nd 112 (am_nd 69 (am_nd 68 (am_lf (65, .invokevirtual 60, 3)) (am_lf (68, .ireturn, 1))) (am_nd 70 (am_lf (69, .iload_n 2, 1)) (am_lf (70, .tableswitch 120 2 8 #[42, 51, 60, 68, 76, 100, 108], 42)))) (am_nd 114 (am_nd 113 (am_lf (112, .aload_n 1, 1)) (am_lf (113, .iload_n 3, 1))) (am_nd 116 (am_lf (114, .iload 4, 2)) (am_lf (116, .iconst 1, 1))))) (am_nd 123 (am_nd 121 (am_nd 120 (am_lf (117, .invokevirtual 115, 3)) (am_lf (120, .ireturn, 1))) (am_nd 122 (am_lf (121, .aload_n 1, 1)) (am_lf (122, .iload_n 3, 1)))) (am_nd 126 (am_nd 125 (am_lf (123, .iload 4, 2)) (am_lf (125, .iconst (-1), 1))) (am_nd 129 (am_lf (126, .invokevirtual 115, 3)) (am_lf (129, .ireturn, 1)))))) (am_nd 142 (am_nd 137 (am_nd 132 (am_nd 131 (am_lf (130, .aload_n 1, 1)) (am_lf (131, .iload_n 3, 1))) (am_nd 134 (am_lf (132, .iload 4, 2)) (am_lf (134, .invokevirtual 118, 3)))) (am_nd 139 (am_nd 138 (am_lf (137, .ireturn, 1)) (am_lf (138, .aload_n 1, 1))) (am_nd 140 (am_lf (139, .iload_n 3, 1)) (am_lf (140, .iload 4, 2))))) (am_nd 149 (am_nd 146 (am_nd 145 (am_lf (142, .invokevirtual 121, 3)) (am_lf (145, .ireturn, 1))) (am_nd 147 (am_lf (146, .iload_n 3, 1)) (am_lf (147, .iload 4, 2)))) (am_nd 153 (am_nd 152 (am_lf (149, .if_icmp .ne 11, 3)) (am_lf (152, .aload_n 1, 1))) (am_nd 154 (am_lf (153, .iconst 0, 1)) (am_lf (154, .invokevirtual 60, 3)))))))
def am_c103_2 : am_T am_E 5 := (am_nd 183 (am_nd 171 (am_nd 164 (am_nd 161 (am_nd 160 (am_lf (157, .goto 12, 3)) (am_lf (160, .aload_n 1, 1))) (am_nd 163 (am_lf (161, .bipush 6, 2)) (am_lf (163, .iload_n 3, 1)))) (am_nd 169 (am_nd 166 (am_lf (164, .iload 4, 2)) (am_lf (166, .invokevirtual 124, 3))) (am_nd 170 (am_lf (169, .ireturn, 1)) (am_lf (170, .aload_n 1, 1))))) (am_nd 178 (am_nd 174 (am_nd 172 (am_lf (171, .iload_n 3, 1)) (am_lf (172, .iload 4, 2))) (am_nd 177 (am_lf (174, .invokevirtual 127, 3)) (am_lf (177, .ireturn, 1)))) (am_nd 181 (am_nd 179 (am_lf (178, .aload_n 1, 1)) (am_lf (179, .bipush 8, 2))) (am_nd 182 (am_lf (181, .iload_n 3, 1)) (am_lf (182, .aload_n 0, 1)))))) (am_nd 1000000 (am_nd 191 (am_nd 189 (am_nd 186 (am_lf (183, .getfield 28, 3)) (am_lf (186, .invokevirtual 124, 3))) (am_nd 190 (am_lf (189, .ireturn, 1)) (am_lf (190, .iload_n 3, 1)))) (am_nd 1000000 (am_nd 1000000 (am_lf (191, .ireturn, 1)) (am_lf (191, .ireturn, 1))) (am_nd 1000000 (am_lf (191, .ireturn, 1)) (am_lf (191, .ireturn, 1))))) (am_nd 1000000 (am_nd 1000000 (am_nd 1000000 (am_lf (191, .ireturn, 1)) (am_lf (191, .ireturn, 1))) (am_nd 1000000 (am_lf (191, .ireturn, 1)) (am_lf (191, .ireturn, 1)))) (am_nd 1000000 (am_nd 1000000 (am_lf (191, .ireturn, 1)) (am_lf (191, .ireturn, 1))) (am_nd 1000000 (am_lf (191, .ireturn, 1)) (am_lf (191, .ireturn, 1)))))))
def am_c103_3 : am_T am_E 5 := (am_nd 1000000 (am_nd 1000000 (am_nd 1000000 (am_nd 1000000 (am_nd 1000000 (am_lf (191, .ireturn, 1)) (am_lf (191, .ireturn, 1))) (am_nd 1000000 (am_lf (191, .ireturn, 1)) (am_lf (191, .ireturn, 1)))) (am_nd 1000000 (am_nd 1000000 (am_lf (191, .ireturn, 1)) (am_lf (191, .ireturn, 1))) (am_nd 1000000 (am_lf (191, .ireturn, 1)) (am_lf (191, .ireturn, 1))))) (am_nd 1000000 (am_nd 1000000 (am_nd 1000000 (am_lf (191, .ireturn, 1)) (am_lf (191, .ireturn, 1))) (am_nd 1000000 (am_lf (191, .ireturn, 1)) (am_lf (191, .ireturn, 1)))) (am_nd 1000000 (am_nd 1000000 (am_lf (191, .ireturn, 1)) (am_lf (191, .ireturn, 1))) (am_nd 1000000 (am_lf (191, .ireturn, 1)) (am_lf (191, .ireturn, 1)))))) (am_nd 1000000 (am_nd 1000000 (am_nd 1000000 (am_nd 1000000 (am_lf (191, .ireturn, 1)) (am_lf (191, .ireturn, 1))) (am_nd 1000000 (am_lf (191, .ireturn, 1)) (am_lf (191, .ireturn, 1)))) (am_nd 1000000 (am_nd 1000000 (am_lf (191, .ireturn, 1)) (am_lf (191, .ireturn, 1))) (am_nd 1000000 (am_lf (191, .ireturn, 1)) (am_lf (191, .ireturn, 1))))) (am_nd 1000000 (am_nd 1000000 (am_nd 1000000 (am_lf (191, .ireturn, 1)) (am_lf (191, .ireturn, 1))) (am_nd 1000000 (am_lf (191, .ireturn, 1)) (am_lf (191, .ireturn, 1)))) (am_nd 1000000 (am_nd 1000000 (am_lf (191, .ireturn, 1)) (am_lf (191, .ireturn, 1))) (am_nd 1000000 (am_lf (191, .ireturn, 1)) (am_lf (191, .ireturn, 1)))))))
def am_c103 : am_T am_E 7 := (am_nd 157 (am_nd 65 am_c103_0 am_c103_1) (am_nd 1000000 am_c103_2 am_c103_3))
def am_c104 : am_T am_E 5 := (am_nd 28 (am_nd 16 (am_nd 7 (am_nd 3 (am_nd 1 (am_lf (0, .iconst 0, 1)) (am_lf (1, .istore 4, 2))) (am_nd 5 (am_lf (3, .iload 4, 2)) (am_lf (5, .bipush 23, 2)))) (am_nd 11 (am_nd 10 (am_lf (7, .if_icmp .ge 33, 3)) (am_lf (10, .aload_n 0, 1))) (am_nd 14 (am_lf (11, .getfield 33, 3)) (am_lf (14, .iload 4, 2))))) (am_nd 23 (am_nd 18 (am_nd 17 (am_lf (16, .aload_n 0, 1)) (am_lf (17, .iload_n 1, 1))) (am_nd 20 (am_lf (18, .iload 4, 2)) (am_lf (20, .invokevirtual 47, 3)))) (am_nd 25 (am_nd 24 (am_lf (23, .iload_n 3, 1)) (am_lf (24, .aload_n 0, 1))) (am_nd 26 (am_lf (25, .iload_n 2, 1)) (am_lf (26, .iload 4, 2)))))) (am_nd 44 (am_nd 34 (am_nd 32 (am_nd 31 (am_lf (28, .invokevirtual 47, 3)) (am_lf (31, .imul, 1))) (am_nd 33 (am_lf (32, .iadd, 1)) (am_lf (33, .iastore, 1)))) (am_nd 40 (am_nd 37 (am_lf (34, .iinc 4 1, 3)) (am_lf (37, .goto (-34), 3))) (am_nd 41 (am_lf (40, .aload_n 0, 1)) (am_lf (41, .invokevirtual 57, 3))))) (am_nd 1000000 (am_nd 1000000 (am_nd 1000000 (am_lf (44, .ireturn, 1)) (am_lf (44, .ireturn, 1))) (am_nd 1000000 (am_lf (44, .ireturn, 1)) (am_lf (44, .ireturn, 1)))) (am_nd 1000000 (am_nd 1000000 (am_lf (44, .ireturn, 1)) (am_lf (44, .ireturn, 1))) (am_nd 1000000 (am_lf (44, .ireturn, 1)) (am_lf (44, .ireturn, 1)))))))
def am_c105_0 : am_T am_E 5 := (am_nd 28 (am_nd 16 (am_nd 8 (am_nd 2 (am_nd 1 (am_lf (0, .aload_n 0, 1)) (am_lf (1, .iload_n 1, 1))) (am_nd 5 (am_lf (2, .invokevirtual 61, 3)) (am_lf (5, .ifCond .ne 27, 3)))) (am_nd 10 (am_nd 9 (am_lf (8, .aload_n 0, 1)) (am_lf (9, .iload_n 2, 1))) (am_nd 13 (am_lf (10, .invokevirtual 61, 3)) (am_lf (13, .ifCond .ne 19, 3))))) (am_nd 20 (am_nd 18 (am_nd 17 (am_lf (16, .aload_n 0, 1)) (am_lf (17, .iconst 4, 1))) (am_nd 19 (am_lf (18, .iload_n 1, 1)) (am_lf (19, .iload_n 2, 1)))) (am_nd 24 (am_nd 23 (am_lf (20, .invokestatic 65, 3)) (am_lf (23, .iload_n 1, 1))) (am_nd 25 (am_lf (24, .iload_n 2, 1)) (am_lf (25, .invokestatic 70, 3)))))) (am_nd 42 (am_nd 34 (am_nd 32 (am_nd 31 (am_lf (28, .invokevirtual 43, 3)) (am_lf (31, .ireturn, 1))) (am_nd 33 (am_lf (32, .aload_n 0, 1)) (am_lf (33, .iload_n 1, 1)))) (am_nd 40 (am_nd 37 (am_lf (34, .invokevirtual 61, 3)) (am_lf (37, .ifCond .eq 11, 3))) (am_nd 41 (am_lf (40, .aload_n 0, 1)) (am_lf (41, .iload_n 1, 1))))) (am_nd 50 (am_nd 48 (am_nd 45 (am_lf (42, .invokevirtual 73, 3)) (am_lf (45, .goto 8, 3))) (am_nd 49 (am_lf (48, .aload_n 0, 1)) (am_lf (49, .iload_n 2, 1)))) (am_nd 54 (am_nd 53 (am_lf (50, .invokevirtual 73, 3)) (am_lf (53, .istore_n 3, 1))) (am_nd 55 (am_lf (54, .aload_n 0, 1)) (am_lf (55, .iload_n 1, 1)))))))
def am_c105_1 : am_T am_E 5 := (am_nd 87 (am_nd 72 (am_nd 66 (am_nd 62 (am_nd 59 (am_lf (56, .invokevirtual 61, 3)) (am_lf (59, .ifCond .eq 7, 3))) (am_nd 63 (am_lf (62, .iload_n 2, 1)) (am_lf (63, .goto 4, 3)))) (am_nd 69 (am_nd 67 (am_lf (66, .iload_n 1, 1)) (am_lf (67, .istore 4, 2))) (am_nd 70 (am_lf (69, .iconst 0, 1)) (am_lf (70, .istore 5, 2))))) (am_nd 80 (am_nd 76 (am_nd 74 (am_lf (72, .iload 5, 2)) (am_lf (74, .bipush 23, 2))) (am_nd 79 (am_lf (76, .if_icmp .ge 26, 3)) (am_lf (79, .aload_n 0, 1)))) (am_nd 85 (am_nd 83 (am_lf (80, .getfield 33, 3)) (am_lf (83, .iload 5, 2))) (am_nd 86 (am_lf (85, .iload_n 3, 1)) (am_lf (86, .aload_n 0, 1)))))) (am_nd 103 (am_nd 95 (am_nd 91 (am_nd 89 (am_lf (87, .iload 4, 2)) (am_lf (89, .iload 5, 2))) (am_nd 94 (am_lf (91, .invokevirtual 47, 3)) (am_lf (94, .imul, 1)))) (am_nd 99 (am_nd 96 (am_lf (95, .iastore, 1)) (am_lf (96, .iinc 5 1, 3))) (am_nd 102 (am_lf (99, .goto (-27), 3)) (am_lf (102, .aload_n 0, 1))))) (am_nd 1000000 (am_nd 1000000 (am_nd 106 (am_lf (103, .invokevirtual 57, 3)) (am_lf (106, .ireturn, 1))) (am_nd 1000000 (am_lf (106, .ireturn, 1)) (am_lf (106, .ireturn, 1)))) (am_nd 1000000 (am_nd 1000000 (am_lf (106, .ireturn, 1)) (am_lf (106, .ireturn, 1))) (am_nd 1000000 (am_lf (106, .ireturn, 1)) (am_lf (106, .ireturn, 1)))))))
def am_c105 : am_T am_E 6 := (am_nd 56 am_c105_0 am_c105_1)
def am_c106_0 : am_T am_E 5 := (am_nd 26 (am_nd 14 (am_nd 6 (am_nd 2 (am_nd 1 (am_lf (0, .iload_n 1, 1)) (am_lf (1, .iload_n 2, 1))) (am_nd 5 (am_lf (2, .if_icmp .eq 21, 3)) (am_lf (5, .aload_n 0, 1)))) (am_nd 8 (am_nd 7 (am_lf (6, .iload_n 1, 1)) (am_lf (7, .iconst 0, 1))) (am_nd 11 (am_lf (8, .invokevirtual 77, 3)) (am_lf (11, .ifCond .ne 12, 3))))) (am_nd 20 (am_nd 16 (am_nd 15 (am_lf (14, .aload_n 0, 1)) (am_lf (15, .iload_n 2, 1))) (am_nd 17 (am_lf (16, .iconst (-1), 1)) (am_lf (17, .invokevirtual 77, 3)))) (am_nd 24 (am_nd 23 (am_lf (20, .ifCond .eq 5, 3)) (am_lf (23, .iload_n 1, 1))) (am_nd 25 (am_lf (24, .ireturn, 1)) (am_lf (25, .aload_n 0, 1)))))) (am_nd 40 (am_nd 34 (am_nd 28 (am_nd 27 (am_lf (26, .iload_n 2, 1)) (am_lf (27, .iconst 0, 1))) (am_nd 31 (am_lf (28, .invokevirtual 77, 3)) (am_lf (31, .ifCond .ne 12, 3)))) (am_nd 36 (am_nd 35 (am_lf (34, .aload_n 0, 1)) (am_lf (35, .iload_n 1, 1))) (am_nd 37 (am_lf (36, .iconst (-1), 1)) (am_lf (37, .invokevirtual 77, 3))))) (am_nd 46 (am_nd 44 (am_nd 43 (am_lf (40, .ifCond .eq 5, 3)) (am_lf (43, .iload_n 2, 1))) (am_nd 45 (am_lf (44, .ireturn, 1)) (am_lf (45, .aload_n 0, 1)))) (am_nd 48 (am_nd 47 (am_lf (46, .iconst 5, 1)) (am_lf (47, .iload_n 1, 1))) (am_nd 49 (am_lf (48, .iload_n 2, 1)) (am_lf (49, .invokestatic 65, 3)))))))
def am_c106_1 : am_T am_E 5 := (am_nd 1000000 (am_nd 1000000 (am_nd 60 (am_nd 54 (am_nd 53 (am_lf (52, .iload_n 1, 1)) (am_lf (53, .iload_n 2, 1))) (am_nd 57 (am_lf (54, .invokestatic 70, 3)) (am_lf (57, .invokevirtual 43, 3)))) (am_nd 1000000 (am_nd 1000000 (am_lf (60, .ireturn, 1)) (am_lf (60, .ireturn, 1))) (am_nd 1000000 (am_lf (60, .ireturn, 1)) (am_lf (60, .ireturn, 1))))) (am_nd 1000000 (am_nd 1000000 (am_nd 1000000 (am_lf (60, .ireturn, 1)) (am_lf (60, .ireturn, 1))) (am_nd 1000000 (am_lf (60, .ireturn, 1)) (am_lf (60, .ireturn, 1)))) (am_nd 1000000 (am_nd 1000000 (am_lf (60, .ireturn, 1)) (am_lf (60, .ireturn, 1))) (am_nd 1000000 (am_lf (60, .ireturn, 1)) (am_lf (60, .ireturn, 1)))))) (am_nd 1000000 (am_nd 1000000 (am_nd 1000000 (am_nd 1000000 (am_lf (60, .ireturn, 1)) (am_lf (60, .ireturn, 1))) (am_nd 1000000 (am_lf (60, .ireturn, 1)) (am_lf (60, .ireturn, 1)))) (am_nd 1000000 (am_nd 1000000 (am_lf (60, .ireturn, 1)) (am_lf (60, .ireturn, 1))) (am_nd 1000000 (am_lf (60, .ireturn, 1)) (am_lf (60, .ireturn, 1))))) (am_nd 1000000 (am_nd 1000000 (am_nd 1000000 (am_lf (60, .ireturn, 1)) (am_lf (60, .ireturn, 1))) (am_nd 1000000 (am_lf (60, .ireturn, 1)) (am_lf (60, .ireturn, 1)))) (am_nd 1000000 (am_nd 1000000 (am_lf (60, .ireturn, 1)) (am_lf (60, .ireturn, 1))) (am_nd 1000000 (am_lf (60, .ireturn, 1)) (am_lf (60, .ireturn, 1)))))))
def am_c106 : am_T am_E 6 := (am_nd 52 am_c106_0 am_c106_1)
def am_c107 : am_T am_E 4 := (am_nd 14 (am_nd 8 (am_nd 2 (am_nd 1 (am_lf (0, .aload_n 0, 1)) (am_lf (1, .iload_n 1, 1))) (am_nd 5 (am_lf (2, .invokevirtual 61, 3)) (am_lf (5, .ifCond .eq 17, 3)))) (am_nd 10 (am_nd 9 (am_lf (8, .aload_n 0, 1)) (am_lf (9, .iload_n 1, 1))) (am_nd 11 (am_lf (10, .iconst 0, 1)) (am_lf (11, .invokevirtual 47, 3))))) (am_nd 22 (am_nd 18 (am_nd 15 (am_lf (14, .iload_n 2, 1)) (am_lf (15, .if_icmp .ne 7, 3))) (am_nd 19 (am_lf (18, .iconst 1, 1)) (am_lf (19, .goto 4, 3)))) (am_nd 1000000 (am_nd 23 (am_lf (22, .iconst 0, 1)) (am_lf (23, .ireturn, 1))) (am_nd 1000000 (am_lf (23, .ireturn, 1)) (am_lf (23, .ireturn, 1))))))
def am_c108 : am_T am_E 4 := (am_nd 14 (am_nd 6 (am_nd 2 (am_nd 1 (am_lf (0, .aload_n 0, 1)) (am_lf (1, .iload_n 2, 1))) (am_nd 3 (am_lf (2, .iconst 1, 1)) (am_lf (3, .invokevirtual 77, 3)))) (am_nd 10 (am_nd 9 (am_lf (6, .ifCond .eq 7, 3)) (am_lf (9, .iload_n 1, 1))) (am_nd 13 (am_lf (10, .goto 11, 3)) (am_lf (13, .aload_n 0, 1))))) (am_nd 21 (am_nd 17 (am_nd 16 (am_lf (14, .bipush 7, 2)) (am_lf (16, .iload_n 1, 1))) (am_nd 18 (am_lf (17, .iload_n 2, 1)) (am_lf (18, .invokevirtual 43, 3)))) (am_nd 1000000 (am_nd 1000000 (am_lf (21, .ireturn, 1)) (am_lf (21, .ireturn, 1))) (am_nd 1000000 (am_lf (21, .ireturn, 1)) (am_lf (21, .ireturn, 1))))))
def am_c109 : am_T am_E 4 := (am_nd 14 (am_nd 8 (am_nd 4 (am_nd 1 (am_lf (0, .iload_n 1, 1)) (am_lf (1, .invokestatic 81, 3))) (am_nd 7 (am_lf (4, .ifCond .eq 10, 3)) (am_lf (7, .aload_n 0, 1)))) (am_nd 12 (am_nd 11 (am_lf (8, .getfield 9, 3)) (am_lf (11, .iload_n 1, 1))) (am_nd 13 (am_lf (12, .iload_n 2, 1)) (am_lf (13, .iastore, 1))))) (am_nd 1000000 (am_nd 1000000 (am_nd 1000000 (am_lf (14, .return_, 1)) (am_lf (14, .return_, 1))) (am_nd 1000000 (am_lf (14, .return_, 1)) (am_lf (14, .return_, 1)))) (am_nd 1000000 (am_nd 1000000 (am_lf (14, .return_, 1)) (am_lf (14, .return_, 1))) (am_nd 1000000 (am_lf (14, .return_, 1)) (am_lf (14, .return_, 1))))))
def am_c110_0 : am_T am_E 5 := (am_nd 26 (am_nd 12 (am_nd 4 (am_nd 2 (am_nd 1 (am_lf (0, .aload_n 0, 1)) (am_lf (1, .aload_n 2, 1))) (am_nd 3 (am_lf (2, .iload_n 3, 1)) (am_lf (3, .iconst 0, 1)))) (am_nd 10 (am_nd 7 (am_lf (4, .invokevirtual 130, 3)) (am_lf (7, .putfield 31, 3))) (am_nd 11 (am_lf (10, .aload_n 0, 1)) (am_lf (11, .aload_n 0, 1))))) (am_nd 22 (am_nd 18 (am_nd 15 (am_lf (12, .getfield 31, 3)) (am_lf (15, .ifCond .ne 7, 3))) (am_nd 19 (am_lf (18, .iconst 0, 1)) (am_lf (19, .goto 13, 3)))) (am_nd 24 (am_nd 23 (am_lf (22, .aload_n 0, 1)) (am_lf (23, .aload_n 2, 1))) (am_nd 25 (am_lf (24, .iload_n 3, 1)) (am_lf (25, .iconst 1, 1)))))) (am_nd 42 (am_nd 36 (am_nd 32 (am_nd 29 (am_lf (26, .invokevirtual 130, 3)) (am_lf (29, .invokevirtual 53, 3))) (am_nd 35 (am_lf (32, .putfield 34, 3)) (am_lf (35, .aload_n 0, 1)))) (am_nd 38 (am_nd 37 (am_lf (36, .aload_n 2, 1)) (am_lf (37, .iload_n 3, 1))) (am_nd 39 (am_lf (38, .iconst 2, 1)) (am_lf (39, .invokevirtual 130, 3))))) (am_nd 48 (am_nd 46 (am_nd 45 (am_lf (42, .putfield 37, 3)) (am_lf (45, .aload_n 0, 1))) (am_nd 47 (am_lf (46, .aload_n 2, 1)) (am_lf (47, .iload_n 3, 1)))) (am_nd 52 (am_nd 49 (am_lf (48, .iconst 3, 1)) (am_lf (49, .invokevirtual 130, 3))) (am_nd 55 (am_lf (52, .putfield 40, 3)) (am_lf (55, .aload_n 0, 1)))))))
def am_c110_1 : am_T am_E 5 := (am_nd 90 (am_nd 72 (am_nd 64 (am_nd 60 (am_nd 59 (am_lf (56, .getfield 31, 3)) (am_lf (59, .iconst 1, 1))) (am_nd 63 (am_lf (60, .if_icmp .eq 4, 3)) (am_lf (63, .return_, 1)))) (am_nd 66 (am_nd 65 (am_lf (64, .aload_n 1, 1)) (am_lf (65, .aload_n 0, 1))) (am_nd 69 (am_lf (66, .getfield 34, 3)) (am_lf (69, .invokevirtual 93, 3))))) (am_nd 80 (am_nd 76 (am_nd 74 (am_lf (72, .istore 4, 2)) (am_lf (74, .iload 4, 2))) (am_nd 79 (am_lf (76, .ifCond .ne 14, 3)) (am_lf (79, .aload_n 0, 1)))) (am_nd 84 (am_nd 83 (am_lf (80, .getfield 37, 3)) (am_lf (83, .aload_n 0, 1))) (am_nd 87 (am_lf (84, .getfield 40, 3)) (am_lf (87, .if_icmp .ne 49, 3)))))) (am_nd 107 (am_nd 97 (am_nd 93 (am_nd 91 (am_lf (90, .aload_n 0, 1)) (am_lf (91, .iload 4, 2))) (am_nd 96 (am_lf (93, .ifCond .eq 21, 3)) (am_lf (96, .aload_n 1, 1)))) (am_nd 101 (am_nd 98 (am_lf (97, .aload_n 0, 1)) (am_lf (98, .getfield 34, 3))) (am_nd 104 (am_lf (101, .invokevirtual 96, 3)) (am_lf (104, .ifCond .ne 10, 3))))) (am_nd 115 (am_nd 111 (am_nd 108 (am_lf (107, .aload_n 0, 1)) (am_lf (108, .getfield 40, 3))) (am_nd 114 (am_lf (111, .goto 7, 3)) (am_lf (114, .aload_n 0, 1)))) (am_nd 121 (am_nd 118 (am_lf (115, .getfield 37, 3)) (am_lf (118, .putfield 37, 3))) (am_nd 122 (am_lf (121, .aload_n 0, 1)) (am_lf (122, .iconst 0, 1)))))))
def am_c110_2 : am_T am_E 5 := (am_nd 1000000 (am_nd 1000000 (am_nd 131 (am_nd 127 (am_nd 126 (am_lf (123, .putfield 31, 3)) (am_lf (126, .aload_n 0, 1))) (am_nd 128 (am_lf (127, .iconst 0, 1)) (am_lf (128, .putfield 34, 3)))) (am_nd 133 (am_nd 132 (am_lf (131, .aload_n 0, 1)) (am_lf (132, .iconst 0, 1))) (am_nd 136 (am_lf (133, .putfield 40, 3)) (am_lf (136, .return_, 1))))) (am_nd 1000000 (am_nd 1000000 (am_nd 1000000 (am_lf (136, .return_, 1)) (am_lf (136, .return_, 1))) (am_nd 1000000 (am_lf (136, .return_, 1)) (am_lf (136, .return_, 1)))) (am_nd 1000000 (am_nd 1000000 (am_lf (136, .return_, 1)) (am_lf (136, .return_, 1))) (am_nd 1000000 (am_lf (136, .return_, 1)) (am_lf (136, .return_, 1)))))) (am_nd 1000000 (am_nd 1000000 (am_nd 1000000 (am_nd 1000000 (am_lf (136, .return_, 1)) (am_lf (136, .return_, 1))) (am_nd 1000000 (am_lf (136, .return_, 1)) (am_lf (136, .return_, 1)))) (am_nd 1000000 (am_nd 1000000 (am_lf (136, .return_, 1)) (am_lf (136, .return_, 1))) (am_nd 1000000 (am_lf (136, .return_, 1)) (am_lf (136, .return_, 1))))) (am_nd 1000000 (am_nd 1000000 (am_nd 1000000 (am_lf (136, .return_, 1)) (am_lf (136, .return_, 1))) (am_nd 1000000 (am_lf (136, .return_, 1)) (am_lf (136, .return_, 1)))) (am_nd 1000000 (am_nd 1000000 (am_lf (136, .return_, 1)) (am_lf (136, .return_, 1))) (am_nd 1000000 (am_lf (136, .return_, 1)) (am_lf (136, .return_, 1)))))))
def am_c110_3 : am_T am_E 5 := (am_nd 1000000 (am_nd 1000000 (am_nd 1000000 (am_nd 1000000 (am_nd 1000000 (am_lf (136, .return_, 1)) (am_lf (136, .return_, 1))) (am_nd 1000000 (am_lf (136, .return_, 1)) (am_lf (136, .return_, 1)))) (am_nd 1000000 (am_nd 1000000 (am_lf (136, .return_, 1)) (am_lf (136, .return_, 1))) (am_nd 1000000 (am_lf (136, .return_, 1)) (am_lf (136, .return_, 1))))) (am_nd 1000000 (am_nd 1000000 (am_nd 1000000 (am_lf (136, .return_, 1)) (am_lf (136, .return_, 1))) (am_nd 1000000 (am_lf (136, .return_, 1)) (am_lf (136, .return_, 1)))) (am_nd 1000000 (am_nd 1000000 (am_lf (136, .return_, 1)) (am_lf (136, .return_, 1))) (am_nd 1000000 (am_lf (136, .return_, 1)) (am_lf (136, .return_, 1)))))) (am_nd 1000000 (am_nd 1000000 (am_nd 1000000 (am_nd 1000000 (am_lf (136, .return_, 1)) (am_lf (136, .return_, 1))) (am_nd 1000000 (am_lf (136, .return_, 1)) (am_lf (136, .return_, 1)))) (am_nd 1000000 (am_nd 1000000 (am_lf (136, .return_, 1)) (am_lf (136, .return_, 1))) (am_nd 1000000 (am_lf (136, .return_, 1)) (am_lf (136, .return_, 1))))) (am_nd 1000000 (am_nd 1000000 (am_nd 1000000 (am_lf (136, .return_, 1)) (am_lf (136, .return_, 1))) (am_nd 1000000 (am_lf (136, .return_, 1)) (am_lf (136, .return_, 1)))) (am_nd 1000000 (am_nd 1000000 (am_lf (136, .return_, 1)) (am_lf (136, .return_, 1))) (am_nd 1000000 (am_lf (136, .return_, 1)) (am_lf (136, .return_, 1)))))))
def am_c110 : am_T am_E 7 := (am_nd 123 (am_nd 56 am_c110_0 am_c110_1) (am_nd 1000000 am_c110_2 am_c110_3))
def am_c111_0 : am_T am_E 5 := (am_nd 32 (am_nd 16 (am_nd 8 (am_nd 4 (am_nd 1 (am_lf (0, .aload_n 0, 1)) (am_lf (1, .getfield 21, 3))) (am_nd 5 (am_lf (4, .aload_n 0, 1)) (am_lf (5, .getfield 25, 3)))) (am_nd 14 (am_nd 11 (am_lf (8, .invokevirtual 65, 3)) (am_lf (11, .ifCond .ne 13, 3))) (am_nd 15 (am_lf (14, .aload_n 0, 1)) (am_lf (15, .iconst 2, 1))))) (am_nd 24 (am_nd 18 (am_nd 17 (am_lf (16, .iload_n 1, 1)) (am_lf (17, .iload_n 2, 1))) (am_nd 21 (am_lf (18, .invokevirtual 69, 3)) (am_lf (21, .goto 66, 3)))) (am_nd 28 (am_nd 25 (am_lf (24, .aload_n 0, 1)) (am_lf (25, .getfield 21, 3))) (am_nd 29 (am_lf (28, .aload_n 0, 1)) (am_lf (29, .getfield 25, 3)))))) (am_nd 48 (am_nd 40 (am_nd 38 (am_nd 35 (am_lf (32, .invokevirtual 73, 3)) (am_lf (35, .ifCond .ne 13, 3))) (am_nd 39 (am_lf (38, .aload_n 0, 1)) (am_lf (39, .iconst 3, 1)))) (am_nd 42 (am_nd 41 (am_lf (40, .iload_n 1, 1)) (am_lf (41, .iload_n 2, 1))) (am_nd 45 (am_lf (42, .invokevirtual 69, 3)) (am_lf (45, .goto 42, 3))))) (am_nd 56 (am_nd 52 (am_nd 49 (am_lf (48, .aload_n 0, 1)) (am_lf (49, .getfield 21, 3))) (am_nd 55 (am_lf (52, .invokevirtual 76, 3)) (am_lf (55, .iconst 2, 1)))) (am_nd 60 (am_nd 59 (am_lf (56, .if_icmp .eq 27, 3)) (am_lf (59, .aload_n 0, 1))) (am_nd 63 (am_lf (60, .getfield 21, 3)) (am_lf (63, .aload_n 0, 1)))))))
def am_c111_1 : am_T am_E 5 := (am_nd 1000000 (am_nd 80 (am_nd 74 (am_nd 70 (am_nd 67 (am_lf (64, .getfield 25, 3)) (am_lf (67, .invokevirtual 80, 3))) (am_nd 73 (am_lf (70, .ifCond .ne 13, 3)) (am_lf (73, .aload_n 0, 1)))) (am_nd 76 (am_nd 75 (am_lf (74, .iconst 4, 1)) (am_lf (75, .iload_n 1, 1))) (am_nd 77 (am_lf (76, .iload_n 2, 1)) (am_lf (77, .invokevirtual 69, 3))))) (am_nd 1000000 (am_nd 84 (am_nd 83 (am_lf (80, .goto 7, 3)) (am_lf (83, .aload_n 0, 1))) (am_nd 87 (am_lf (84, .invokevirtual 83, 3)) (am_lf (87, .return_, 1)))) (am_nd 1000000 (am_nd 1000000 (am_lf (87, .return_, 1)) (am_lf (87, .return_, 1))) (am_nd 1000000 (am_lf (87, .return_, 1)) (am_lf (87, .return_, 1)))))) (am_nd 1000000 (am_nd 1000000 (am_nd 1000000 (am_nd 1000000 (am_lf (87, .return_, 1)) (am_lf (87, .return_, 1))) (am_nd 1000000 (am_lf (87, .return_, 1)) (am_lf (87, .return_, 1)))) (am_nd 1000000 (am_nd 1000000 (am_lf (87, .return_, 1)) (am_lf (87, .return_, 1))) (am_nd 1000000 (am_lf (87, .return_, 1)) (am_lf (87, .return_, 1))))) (am_nd 1000000 (am_nd 1000000 (am_nd 1000000 (am_lf (87, .return_, 1)) (am_lf (87, .return_, 1))) (am_nd 1000000 (am_lf (87, .return_, 1)) (am_lf (87, .return_, 1)))) (am_nd 1000000 (am_nd 1000000 (am_lf (87, .return_, 1)) (am_lf (87, .return_, 1))) (am_nd 1000000 (am_lf (87, .return_, 1)) (am_lf (87, .return_, 1)))))))
def am_c111 : am_T am_E 6 := (am_nd 64 am_c111_0 am_c111_1)
def am_c112_0 : am_T am_E 5 := (am_nd 29 (am_nd 14 (am_nd 8 (am_nd 4 (am_nd 1 (am_lf (0, .aload_n 0, 1)) (am_lf (1, .getfield 24, 3))) (am_nd 5 (am_lf (4, .aload_n 1, 1)) (am_lf (5, .getfield 24, 3)))) (am_nd 12 (am_nd 11 (am_lf (8, .if_icmp .eq 5, 3)) (am_lf (11, .iconst 0, 1))) (am_nd 13 (am_lf (12, .ireturn, 1)) (am_lf (13, .iconst 0, 1))))) (am_nd 20 (am_nd 16 (am_nd 15 (am_lf (14, .istore_n 2, 1)) (am_lf (15, .iload_n 2, 1))) (am_nd 17 (am_lf (16, .aload_n 0, 1)) (am_lf (17, .getfield 24, 3)))) (am_nd 24 (am_nd 23 (am_lf (20, .if_icmp .ge 43, 3)) (am_lf (23, .iload_n 2, 1))) (am_nd 26 (am_lf (24, .bipush 8, 2)) (am_lf (26, .if_icmp .ge 37, 3)))))) (am_nd 41 (am_nd 35 (am_nd 31 (am_nd 30 (am_lf (29, .aload_n 0, 1)) (am_lf (30, .iload_n 2, 1))) (am_nd 32 (am_lf (31, .aload_n 1, 1)) (am_lf (32, .getfield 15, 3)))) (am_nd 37 (am_nd 36 (am_lf (35, .iload_n 2, 1)) (am_lf (36, .iaload, 1))) (am_nd 38 (am_lf (37, .aload_n 1, 1)) (am_lf (38, .getfield 18, 3))))) (am_nd 47 (am_nd 43 (am_nd 42 (am_lf (41, .iload_n 2, 1)) (am_lf (42, .iaload, 1))) (am_nd 44 (am_lf (43, .aload_n 1, 1)) (am_lf (44, .getfield 21, 3)))) (am_nd 49 (am_nd 48 (am_lf (47, .iload_n 2, 1)) (am_lf (48, .iaload, 1))) (am_nd 52 (am_lf (49, .invokevirtual 85, 3)) (am_lf (52, .ifCond .ne 5, 3)))))))
def am_c112_1 : am_T am_E 5 := (am_nd 1000000 (am_nd 1000000 (am_nd 63 (am_nd 57 (am_nd 56 (am_lf (55, .iconst 0, 1)) (am_lf (56, .ireturn, 1))) (am_nd 60 (am_lf (57, .iinc 2 1, 3)) (am_lf (60, .goto (-45), 3)))) (am_nd 1000000 (am_nd 64 (am_lf (63, .iconst 1, 1)) (am_lf (64, .ireturn, 1))) (am_nd 1000000 (am_lf (64, .ireturn, 1)) (am_lf (64, .ireturn, 1))))) (am_nd 1000000 (am_nd 1000000 (am_nd 1000000 (am_lf (64, .ireturn, 1)) (am_lf (64, .ireturn, 1))) (am_nd 1000000 (am_lf (64, .ireturn, 1)) (am_lf (64, .ireturn, 1)))) (am_nd 1000000 (am_nd 1000000 (am_lf (64, .ireturn, 1)) (am_lf (64, .ireturn, 1))) (am_nd 1000000 (am_lf (64, .ireturn, 1)) (am_lf (64, .ireturn, 1)))))) (am_nd 1000000 (am_nd 1000000 (am_nd 1000000 (am_nd 1000000 (am_lf (64, .ireturn, 1)) (am_lf (64, .ireturn, 1))) (am_nd 1000000 (am_lf (64, .ireturn, 1)) (am_lf (64, .ireturn, 1)))) (am_nd 1000000 (am_nd 1000000 (am_lf (64, .ireturn, 1)) (am_lf (64, .ireturn, 1))) (am_nd 1000000 (am_lf (64, .ireturn, 1)) (am_lf (64, .ireturn, 1))))) (am_nd 1000000 (am_nd 1000000 (am_nd 1000000 (am_lf (64, .ireturn, 1)) (am_lf (64, .ireturn, 1))) (am_nd 1000000 (am_lf (64, .ireturn, 1)) (am_lf (64, .ireturn, 1)))) (am_nd 1000000 (am_nd 1000000 (am_lf (64, .ireturn, 1)) (am_lf (64, .ireturn, 1))) (am_nd 1000000 (am_lf (64, .ireturn, 1)) (am_lf (64, .ireturn, 1)))))))
def am_c112 : am_T am_E 6 := (am_nd 55 am_c112_0 am_c112_1)
def am_c113 : am_T am_E 4 := (am_nd 16 (am_nd 8 (am_nd 4 (am_nd 1 (am_lf (0, .aload_n 0, 1)) (am_lf (1, .getfield 31, 3))) (am_nd 5 (am_lf (4, .aload_n 1, 1)) (am_lf (5, .getfield 31, 3)))) (am_nd 12 (am_nd 11 (am_lf (8, .if_icmp .ne 18, 3)) (am_lf (11, .aload_n 0, 1))) (am_nd 15 (am_lf (12, .getfield 34, 3)) (am_lf (15, .aload_n 1, 1))))) (am_nd 26 (am_nd 22 (am_nd 19 (am_lf (16, .getfield 34, 3)) (am_lf (19, .if_icmp .ne 7, 3))) (am_nd 23 (am_lf (22, .iconst 1, 1)) (am_lf (23, .goto 4, 3)))) (am_nd 1000000 (am_nd 27 (am_lf (26, .iconst 0, 1)) (am_lf (27, .ireturn, 1))) (am_nd 1000000 (am_lf (27, .ireturn, 1)) (am_lf (27, .ireturn, 1))))))
def am_c114 : am_T am_E 2 := (am_nd 4 (am_nd 1 (am_lf (0, .aload_n 0, 1)) (am_lf (1, .getfield 31, 3))) (am_nd 1000000 (am_lf (4, .ireturn, 1)) (am_lf (4, .ireturn, 1))))
def am_c115 : am_T am_E 5 := (am_nd 25 (am_nd 13 (am_nd 5 (am_nd 2 (am_nd 1 (am_lf (0, .iconst 0, 1)) (am_lf (1, .istore_n 2, 1))) (am_nd 3 (am_lf (2, .iload_n 2, 1)) (am_lf (3, .bipush 6, 2)))) (am_nd 9 (am_nd 8 (am_lf (5, .if_icmp .ge 26, 3)) (am_lf (8, .aload_n 0, 1))) (am_nd 12 (am_lf (9, .getfield 9, 3)) (am_lf (12, .iload_n 2, 1))))) (am_nd 19 (am_nd 15 (am_nd 14 (am_lf (13, .iaload, 1)) (am_lf (14, .aload_n 1, 1))) (am_nd 18 (am_lf (15, .getfield 9, 3)) (am_lf (18, .iload_n 2, 1)))) (am_nd 23 (am_nd 20 (am_lf (19, .iaload, 1)) (am_lf (20, .if_icmp .eq 5, 3))) (am_nd 24 (am_lf (23, .iconst 0, 1)) (am_lf (24, .ireturn, 1)))))) (am_nd 1000000 (am_nd 1000000 (am_nd 31 (am_nd 28 (am_lf (25, .iinc 2 1, 3)) (am_lf (28, .goto (-26), 3))) (am_nd 32 (am_lf (31, .iconst 1, 1)) (am_lf (32, .ireturn, 1)))) (am_nd 1000000 (am_nd 1000000 (am_lf (32, .ireturn, 1)) (am_lf (32, .ireturn, 1))) (am_nd 1000000 (am_lf (32, .ireturn, 1)) (am_lf (32, .ireturn, 1))))) (am_nd 1000000 (am_nd 1000000 (am_nd 1000000 (am_lf (32, .ireturn, 1)) (am_lf (32, .ireturn, 1))) (am_nd 1000000 (am_lf (32, .ireturn, 1)) (am_lf (32, .ireturn, 1)))) (am_nd 1000000 (am_nd 1000000 (am_lf (32, .ireturn, 1)) (am_lf (32, .ireturn, 1))) (am_nd 1000000 (am_lf (32, .ireturn, 1)) (am_lf (32, .ireturn, 1)))))))
def am_c116 : am_T am_E 5 := (am_nd 32 (am_nd 14 (am_nd 8 (am_nd 4 (am_nd 1 (am_lf (0, .aload_n 0, 1)) (am_lf (1, .getfield 21, 3))) (am_nd 7 (am_lf (4, .invokevirtual 76, 3)) (am_lf (7, .istore_n 1, 1)))) (am_nd 10 (am_nd 9 (am_lf (8, .iload_n 1, 1)) (am_lf (9, .iconst 2, 1))) (am_nd 13 (am_lf (10, .if_icmp .eq 21, 3)) (am_lf (13, .aload_n 0, 1))))) (am_nd 22 (am_nd 18 (am_nd 15 (am_lf (14, .aload_n 0, 1)) (am_lf (15, .getfield 21, 3))) (am_nd 21 (am_lf (18, .invokevirtual 93, 3)) (am_lf (21, .aload_n 0, 1)))) (am_nd 28 (am_nd 25 (am_lf (22, .getfield 25, 3)) (am_lf (25, .invokevirtual 93, 3))) (am_nd 31 (am_lf (28, .invokevirtual 54, 3)) (am_lf (31, .iload_n 1, 1)))))) (am_nd 48 (am_nd 38 (am_nd 36 (am_nd 33 (am_lf (32, .iconst 1, 1)) (am_lf (33, .if_icmp .ne 21, 3))) (am_nd 37 (am_lf (36, .aload_n 0, 1)) (am_lf (37, .aload_n 0, 1)))) (am_nd 44 (am_nd 41 (am_lf (38, .getfield 21, 3)) (am_lf (41, .invokevirtual 96, 3))) (am_nd 45 (am_lf (44, .aload_n 0, 1)) (am_lf (45, .getfield 25, 3))))) (am_nd 1000000 (am_nd 54 (am_nd 51 (am_lf (48, .invokevirtual 96, 3)) (am_lf (51, .invokevirtual 54, 3))) (am_nd 1000000 (am_lf (54, .return_, 1)) (am_lf (54, .return_, 1)))) (am_nd 1000000 (am_nd 1000000 (am_lf (54, .return_, 1)) (am_lf (54, .return_, 1))) (am_nd 1000000 (am_lf (54, .return_, 1)) (am_lf (54, .return_, 1)))))))
def am_c117 : am_T am_E 2 := (am_nd 4 (am_nd 1 (am_lf (0, .aload_n 0, 1)) (am_lf (1, .getfield 37, 3))) (am_nd 1000000 (am_lf (4, .ireturn, 1)) (am_lf (4, .ireturn, 1))))
def am_c118 : am_T am_E 2 := (am_nd 4 (am_nd 1 (am_lf (0, .aload_n 0, 1)) (am_lf (1, .getfield 40, 3))) (am_nd 1000000 (am_lf (4, .ireturn, 1)) (am_lf (4, .ireturn, 1))))
def am_c119 : am_T am_E 2 := (am_nd 4 (am_nd 1 (am_lf (0, .aload_n 0, 1)) (am_lf (1, .getfield 39, 3))) (am_nd 1000000 (am_lf (4, .ireturn, 1)) (am_lf (4, .ireturn, 1))))
def am_c120 : am_T am_E 2 := (am_nd 4 (am_nd 1 (am_lf (0, .aload_n 0, 1)) (am_lf (1, .getfield 35, 3))) (am_nd 1000000 (am_lf (4, .ireturn, 1)) (am_lf (4, .ireturn, 1))))
def am_c121 : am_T am_E 4 := (am_nd 12 (am_nd 4 (am_nd 2 (am_nd 1 (am_lf (0, .aload_n 2, 1)) (am_lf (1, .iconst 0, 1))) (am_nd 3 (am_lf (2, .aload_n 0, 1)) (am_lf (3, .iload_n 1, 1)))) (am_nd 8 (am_nd 7 (am_lf (4, .invokevirtual 48, 3)) (am_lf (7, .i2l, 1))) (am_nd 9 (am_lf (8, .lastore, 1)) (am_lf (9, .goto 6, 3))))) (am_nd 16 (am_nd 14 (am_nd 13 (am_lf (12, .astore_n 3, 1)) (am_lf (13, .iconst 1, 1))) (am_nd 15 (am_lf (14, .ireturn, 1)) (am_lf (15, .iconst 0, 1)))) (am_nd 1000000 (am_nd 1000000 (am_lf (16, .ireturn, 1)) (am_lf (16, .ireturn, 1))) (am_nd 1000000 (am_lf (16, .ireturn, 1)) (am_lf (16, .ireturn, 1))))))
def am_c122 : am_T am_E 5 := (am_nd 56 (am_nd 42 (am_nd 32 (am_nd 28 (am_nd 1 (am_lf (0, .iload_n 1, 1)) (am_lf (1, .tableswitch 62 0 2 #[27, 46, 54], 27))) (am_nd 29 (am_lf (28, .aload_n 0, 1)) (am_lf (29, .getfield 54, 3)))) (am_nd 36 (am_nd 35 (am_lf (32, .ifCond .eq 13, 3)) (am_lf (35, .aload_n 0, 1))) (am_nd 39 (am_lf (36, .getfield 43, 3)) (am_lf (39, .invokevirtual 186, 3))))) (am_nd 48 (am_nd 46 (am_nd 45 (am_lf (42, .goto 4, 3)) (am_lf (45, .iconst (-1), 1))) (am_nd 47 (am_lf (46, .ireturn, 1)) (am_lf (47, .aload_n 0, 1)))) (am_nd 54 (am_nd 51 (am_lf (48, .getfield 43, 3)) (am_lf (51, .invokevirtual 197, 3))) (am_nd 55 (am_lf (54, .ireturn, 1)) (am_lf (55, .aload_n 0, 1)))))) (am_nd 1000000 (am_nd 66 (am_nd 62 (am_nd 59 (am_lf (56, .getfield 43, 3)) (am_lf (59, .invokevirtual 200, 3))) (am_nd 63 (am_lf (62, .ireturn, 1)) (am_lf (63, .new 81, 3)))) (am_nd 69 (am_nd 67 (am_lf (66, .dup, 1)) (am_lf (67, .ldc 203, 2))) (am_nd 72 (am_lf (69, .invokespecial 85, 3)) (am_lf (72, .athrow, 1))))) (am_nd 1000000 (am_nd 1000000 (am_nd 1000000 (am_lf (72, .athrow, 1)) (am_lf (72, .athrow, 1))) (am_nd 1000000 (am_lf (72, .athrow, 1)) (am_lf (72, .athrow, 1)))) (am_nd 1000000 (am_nd 1000000 (am_lf (72, .athrow, 1)) (am_lf (72, .athrow, 1))) (am_nd 1000000 (am_lf (72, .athrow, 1)) (am_lf (72, .athrow, 1)))))))
def am_c123 : am_T am_E 2 := (am_nd 4 (am_nd 1 (am_lf (0, .aload_n 0, 1)) (am_lf (1, .getfield 42, 3))) (am_nd 1000000 (am_lf (4, .ireturn, 1)) (am_lf (4, .ireturn, 1))))
def am_c124 : am_T am_E 2 := (am_nd 4 (am_nd 1 (am_lf (0, .aload_n 0, 1)) (am_lf (1, .getfield 45, 3))) (am_nd 1000000 (am_lf (4, .ireturn, 1)) (am_lf (4, .ireturn, 1))))
def am_c125 : am_T am_E 5 := (am_nd 27 (am_nd 12 (am_nd 5 (am_nd 3 (am_nd 2 (am_lf (0, .aload 5, 2)) (am_lf (2, .iconst 0, 1))) (am_nd 4 (am_lf (3, .aload_n 0, 1)) (am_lf (4, .iload_n 1, 1)))) (am_nd 7 (am_nd 6 (am_lf (5, .iload_n 2, 1)) (am_lf (6, .iload_n 3, 1))) (am_nd 9 (am_lf (7, .iload 4, 2)) (am_lf (9, .invokevirtual 51, 3))))) (am_nd 20 (am_nd 16 (am_nd 15 (am_lf (12, .ifCond .eq 7, 3)) (am_lf (15, .lconst 1, 1))) (am_nd 19 (am_lf (16, .goto 4, 3)) (am_lf (19, .lconst 0, 1)))) (am_nd 24 (am_nd 21 (am_lf (20, .lastore, 1)) (am_lf (21, .goto 7, 3))) (am_nd 26 (am_lf (24, .astore 6, 2)) (am_lf (26, .iconst 1, 1)))))) (am_nd 1000000 (am_nd 1000000 (am_nd 29 (am_nd 28 (am_lf (27, .ireturn, 1)) (am_lf (28, .iconst 0, 1))) (am_nd 1000000 (am_lf (29, .ireturn, 1)) (am_lf (29, .ireturn, 1)))) (am_nd 1000000 (am_nd 1000000 (am_lf (29, .ireturn, 1)) (am_lf (29, .ireturn, 1))) (am_nd 1000000 (am_lf (29, .ireturn, 1)) (am_lf (29, .ireturn, 1))))) (am_nd 1000000 (am_nd 1000000 (am_nd 1000000 (am_lf (29, .ireturn, 1)) (am_lf (29, .ireturn, 1))) (am_nd 1000000 (am_lf (29, .ireturn, 1)) (am_lf (29, .ireturn, 1)))) (am_nd 1000000 (am_nd 1000000 (am_lf (29, .ireturn, 1)) (am_lf (29, .ireturn, 1))) (am_nd 1000000 (am_lf (29, .ireturn, 1)) (am_lf (29, .ireturn, 1)))))))
def am_c126_0 : am_T am_E 5 := (am_nd 35 (am_nd 16 (am_nd 8 (am_nd 4 (am_nd 1 (am_lf (0, .aload_n 0, 1)) (am_lf (1, .getfield 10, 3))) (am_nd 5 (am_lf (4, .iload_n 1, 1)) (am_lf (5, .invokestatic 77, 3)))) (am_nd 12 (am_nd 9 (am_lf (8, .aload_n 0, 1)) (am_lf (9, .getfield 16, 3))) (am_nd 13 (am_lf (12, .iload_n 3, 1)) (am_lf (13, .invokestatic 77, 3))))) (am_nd 25 (am_nd 20 (am_nd 17 (am_lf (16, .iload_n 2, 1)) (am_lf (17, .invokestatic 205, 3))) (am_nd 23 (am_lf (20, .ifCond .eq 11, 3)) (am_lf (23, .iload 4, 2)))) (am_nd 31 (am_nd 28 (am_lf (25, .invokestatic 205, 3)) (am_lf (28, .ifCond .ne 13, 3))) (am_nd 34 (am_lf (31, .new 149, 3)) (am_lf (34, .dup, 1)))))) (am_nd 50 (am_nd 42 (am_nd 40 (am_nd 37 (am_lf (35, .ldc 208, 2)) (am_lf (37, .invokespecial 153, 3))) (am_nd 41 (am_lf (40, .athrow, 1)) (am_lf (41, .aload_n 0, 1)))) (am_nd 46 (am_nd 45 (am_lf (42, .getfield 43, 3)) (am_lf (45, .aload_n 0, 1))) (am_nd 49 (am_lf (46, .getfield 10, 3)) (am_lf (49, .iload_n 1, 1))))) (am_nd 58 (am_nd 54 (am_nd 51 (am_lf (50, .aload_n 0, 1)) (am_lf (51, .getfield 16, 3))) (am_nd 55 (am_lf (54, .iload_n 3, 1)) (am_lf (55, .invokevirtual 178, 3)))) (am_nd 62 (am_nd 59 (am_lf (58, .aload_n 0, 1)) (am_lf (59, .getfield 43, 3))) (am_nd 63 (am_lf (62, .iload_n 2, 1)) (am_lf (63, .iload 4, 2)))))))
def am_c126_1 : am_T am_E 5 := (am_nd 1000000 (am_nd 1000000 (am_nd 1000000 (am_nd 1000000 (am_nd 68 (am_lf (65, .invokevirtual 210, 3)) (am_lf (68, .ireturn, 1))) (am_nd 1000000 (am_lf (68, .ireturn, 1)) (am_lf (68, .ireturn, 1)))) (am_nd 1000000 (am_nd 1000000 (am_lf (68, .ireturn, 1)) (am_lf (68, .ireturn, 1))) (am_nd 1000000 (am_lf (68, .ireturn, 1)) (am_lf (68, .ireturn, 1))))) (am_nd 1000000 (am_nd 1000000 (am_nd 1000000 (am_lf (68, .ireturn, 1)) (am_lf (68, .ireturn, 1))) (am_nd 1000000 (am_lf (68, .ireturn, 1)) (am_lf (68, .ireturn, 1)))) (am_nd 1000000 (am_nd 1000000 (am_lf (68, .ireturn, 1)) (am_lf (68, .ireturn, 1))) (am_nd 1000000 (am_lf (68, .ireturn, 1)) (am_lf (68, .ireturn, 1)))))) (am_nd 1000000 (am_nd 1000000 (am_nd 1000000 (am_nd 1000000 (am_lf (68, .ireturn, 1)) (am_lf (68, .ireturn, 1))) (am_nd 1000000 (am_lf (68, .ireturn, 1)) (am_lf (68, .ireturn, 1)))) (am_nd 1000000 (am_nd 1000000 (am_lf (68, .ireturn, 1)) (am_lf (68, .ireturn, 1))) (am_nd 1000000 (am_lf (68, .ireturn, 1)) (am_lf (68, .ireturn, 1))))) (am_nd 1000000 (am_nd 1000000 (am_nd 1000000 (am_lf (68, .ireturn, 1)) (am_lf (68, .ireturn, 1))) (am_nd 1000000 (am_lf (68, .ireturn, 1)) (am_lf (68, .ireturn, 1)))) (am_nd 1000000 (am_nd 1000000 (am_lf (68, .ireturn, 1)) (am_lf (68, .ireturn, 1))) (am_nd 1000000 (am_lf (68, .ireturn, 1)) (am_lf (68, .ireturn, 1)))))))
def am_c126 : am_T am_E 6 := (am_nd 65 am_c126_0 am_c126_1)
def am_c127 : am_T am_E 4 := (am_nd 16 (am_nd 8 (am_nd 4 (am_nd 1 (am_lf (0, .aload_n 0, 1)) (am_lf (1, .getfield 21, 3))) (am_nd 5 (am_lf (4, .iload_n 1, 1)) (am_lf (5, .invokevirtual 86, 3)))) (am_nd 12 (am_nd 9 (am_lf (8, .aload_n 0, 1)) (am_lf (9, .getfield 25, 3))) (am_nd 13 (am_lf (12, .iload_n 2, 1)) (am_lf (13, .invokevirtual 86, 3))))) (am_nd 24 (am_nd 20 (am_nd 19 (am_lf (16, .if_icmp .ne 7, 3)) (am_lf (19, .iconst 1, 1))) (am_nd 23 (am_lf (20, .goto 4, 3)) (am_lf (23, .iconst 0, 1)))) (am_nd 1000000 (am_nd 1000000 (am_lf (24, .ireturn, 1)) (am_lf (24, .ireturn, 1))) (am_nd 1000000 (am_lf (24, .ireturn, 1)) (am_lf (24, .ireturn, 1))))))
def am_c128 : am_T am_E 4 := (am_nd 10 (am_nd 4 (am_nd 2 (am_nd 1 (am_lf (0, .aload_n 3, 1)) (am_lf (1, .iconst 0, 1))) (am_nd 3 (am_lf (2, .aload_n 0, 1)) (am_lf (3, .iload_n 1, 1)))) (am_nd 8 (am_nd 5 (am_lf (4, .iload_n 2, 1)) (am_lf (5, .invokevirtual 55, 3))) (am_nd 9 (am_lf (8, .i2l, 1)) (am_lf (9, .lastore, 1))))) (am_nd 17 (am_nd 15 (am_nd 13 (am_lf (10, .goto 7, 3)) (am_lf (13, .astore 4, 2))) (am_nd 16 (am_lf (15, .iconst 1, 1)) (am_lf (16, .ireturn, 1)))) (am_nd 1000000 (am_nd 18 (am_lf (17, .iconst 0, 1)) (am_lf (18, .ireturn, 1))) (am_nd 1000000 (am_lf (18, .ireturn, 1)) (am_lf (18, .ireturn, 1))))))
def am_c129 : am_T am_E 4 := (am_nd 12 (am_nd 6 (am_nd 2 (am_nd 1 (am_lf (0, .aload_n 0, 1)) (am_lf (1, .iload_n 1, 1))) (am_nd 5 (am_lf (2, .invokevirtual 58, 3)) (am_lf (5, .astore_n 3, 1)))) (am_nd 8 (am_nd 7 (am_lf (6, .aload_n 3, 1)) (am_lf (7, .iload_n 2, 1))) (am_nd 11 (am_lf (8, .invokestatic 77, 3)) (am_lf (11, .aload_n 0, 1))))) (am_nd 20 (am_nd 16 (am_nd 15 (am_lf (12, .getfield 43, 3)) (am_lf (15, .aload_n 3, 1))) (am_nd 17 (am_lf (16, .iload_n 2, 1)) (am_lf (17, .invokevirtual 213, 3)))) (am_nd 1000000 (am_nd 1000000 (am_lf (20, .ireturn, 1)) (am_lf (20, .ireturn, 1))) (am_nd 1000000 (am_lf (20, .ireturn, 1)) (am_lf (20, .ireturn, 1))))))
def am_c130 : am_T am_E 4 := (am_nd 16 (am_nd 8 (am_nd 4 (am_nd 1 (am_lf (0, .aload_n 0, 1)) (am_lf (1, .getfield 12, 3))) (am_nd 7 (am_lf (4, .invokevirtual 58, 3)) (am_lf (7, .aload_n 0, 1)))) (am_nd 12 (am_nd 11 (am_lf (8, .getfield 21, 3)) (am_lf (11, .aload_n 0, 1))) (am_nd 15 (am_lf (12, .getfield 12, 3)) (am_lf (15, .aload_n 1, 1))))) (am_nd 24 (am_nd 20 (am_nd 17 (am_lf (16, .iload_n 2, 1)) (am_lf (17, .invokevirtual 61, 3))) (am_nd 21 (am_lf (20, .aload_n 0, 1)) (am_lf (21, .getfield 21, 3)))) (am_nd 1000000 (am_nd 27 (am_lf (24, .invokevirtual 90, 3)) (am_lf (27, .ireturn, 1))) (am_nd 1000000 (am_lf (27, .ireturn, 1)) (am_lf (27, .ireturn, 1))))))
def am_c131 : am_T am_E 2 := (am_nd 4 (am_nd 1 (am_lf (0, .aload_n 0, 1)) (am_lf (1, .getfield 24, 3))) (am_nd 1000000 (am_lf (4, .ireturn, 1)) (am_lf (4, .ireturn, 1))))
def am_c132 : am_T am_E 5 := (am_nd 24 (am_nd 12 (am_nd 5 (am_nd 3 (am_nd 2 (am_lf (0, .aload 5, 2)) (am_lf (2, .iconst 0, 1))) (am_nd 4 (am_lf (3, .aload_n 0, 1)) (am_lf (4, .iload_n 1, 1)))) (am_nd 7 (am_nd 6 (am_lf (5, .iload_n 2, 1)) (am_lf (6, .iload_n 3, 1))) (am_nd 9 (am_lf (7, .iload 4, 2)) (am_lf (9, .invokevirtual 59, 3))))) (am_nd 19 (am_nd 14 (am_nd 13 (am_lf (12, .i2l, 1)) (am_lf (13, .lastore, 1))) (am_nd 17 (am_lf (14, .goto 11, 3)) (am_lf (17, .astore 6, 2)))) (am_nd 21 (am_nd 20 (am_lf (19, .iconst 1, 1)) (am_lf (20, .ireturn, 1))) (am_nd 23 (am_lf (21, .astore 6, 2)) (am_lf (23, .iconst 2, 1)))))) (am_nd 1000000 (am_nd 1000000 (am_nd 26 (am_nd 25 (am_lf (24, .ireturn, 1)) (am_lf (25, .iconst 0, 1))) (am_nd 1000000 (am_lf (26, .ireturn, 1)) (am_lf (26, .ireturn, 1)))) (am_nd 1000000 (am_nd 1000000 (am_lf (26, .ireturn, 1)) (am_lf (26, .ireturn, 1))) (am_nd 1000000 (am_lf (26, .ireturn, 1)) (am_lf (26, .ireturn, 1))))) (am_nd 1000000 (am_nd 1000000 (am_nd 1000000 (am_lf (26, .ireturn, 1)) (am_lf (26, .ireturn, 1))) (am_nd 1000000 (am_lf (26, .ireturn, 1)) (am_lf (26, .ireturn, 1)))) (am_nd 1000000 (am_nd 1000000 (am_lf (26, .ireturn, 1)) (am_lf (26, .ireturn, 1))) (am_nd 1000000 (am_lf (26, .ireturn, 1)) (am_lf (26, .ireturn, 1)))))))
def am_c133 : am_T am_E 5 := (am_nd 34 (am_nd 17 (am_nd 7 (am_nd 2 (am_nd 1 (am_lf (0, .aload_n 0, 1)) (am_lf (1, .iload_n 1, 1))) (am_nd 5 (am_lf (2, .invokevirtual 58, 3)) (am_lf (5, .astore 5, 2)))) (am_nd 12 (am_nd 9 (am_lf (7, .iload 4, 2)) (am_lf (9, .ifCond .lt 11, 3))) (am_nd 14 (am_lf (12, .iload 4, 2)) (am_lf (14, .sipush 500, 3))))) (am_nd 26 (am_nd 23 (am_nd 20 (am_lf (17, .if_icmp .le 13, 3)) (am_lf (20, .new 81, 3))) (am_nd 24 (am_lf (23, .dup, 1)) (am_lf (24, .ldc 217, 2)))) (am_nd 30 (am_nd 29 (am_lf (26, .invokespecial 85, 3)) (am_lf (29, .athrow, 1))) (am_nd 31 (am_lf (30, .aload_n 0, 1)) (am_lf (31, .getfield 50, 3)))))) (am_nd 1000000 (am_nd 40 (am_nd 37 (am_nd 36 (am_lf (34, .aload 5, 2)) (am_lf (36, .iload_n 2, 1))) (am_nd 38 (am_lf (37, .iload_n 3, 1)) (am_lf (38, .iload 4, 2)))) (am_nd 1000000 (am_nd 43 (am_lf (40, .invokevirtual 219, 3)) (am_lf (43, .ireturn, 1))) (am_nd 1000000 (am_lf (43, .ireturn, 1)) (am_lf (43, .ireturn, 1))))) (am_nd 1000000 (am_nd 1000000 (am_nd 1000000 (am_lf (43, .ireturn, 1)) (am_lf (43, .ireturn, 1))) (am_nd 1000000 (am_lf (43, .ireturn, 1)) (am_lf (43, .ireturn, 1)))) (am_nd 1000000 (am_nd 1000000 (am_lf (43, .ireturn, 1)) (am_lf (43, .ireturn, 1))) (am_nd 1000000 (am_lf (43, .ireturn, 1)) (am_lf (43, .ireturn, 1)))))))
def am_c134 : am_T am_E 5 := (am_nd 29 (am_nd 12 (am_nd 6 (am_nd 2 (am_nd 1 (am_lf (0, .aload_n 0, 1)) (am_lf (1, .iload_n 2, 1))) (am_nd 3 (am_lf (2, .iload_n 3, 1)) (am_lf (3, .invokevirtual 31, 3)))) (am_nd 9 (am_nd 7 (am_lf (6, .iconst 0, 1)) (am_lf (7, .istore 5, 2))) (am_nd 10 (am_lf (9, .iconst 0, 1)) (am_lf (10, .istore 6, 2))))) (am_nd 21 (am_nd 16 (am_nd 14 (am_lf (12, .iload 6, 2)) (am_lf (14, .iload 4, 2))) (am_nd 19 (am_lf (16, .if_icmp .ge 44, 3)) (am_lf (19, .iload 5, 2)))) (am_nd 25 (am_nd 24 (am_lf (21, .ifCond .ne 39, 3)) (am_lf (24, .aload_n 0, 1))) (am_nd 28 (am_lf (25, .getfield 22, 3)) (am_lf (28, .aload_n 1, 1)))))) (am_nd 47 (am_nd 39 (am_nd 33 (am_nd 30 (am_lf (29, .aload_n 0, 1)) (am_lf (30, .getfield 18, 3))) (am_nd 36 (am_lf (33, .invokevirtual 35, 3)) (am_lf (36, .if_icmp .ge 11, 3)))) (am_nd 41 (am_nd 40 (am_lf (39, .aload_n 0, 1)) (am_lf (40, .aload_n 1, 1))) (am_nd 44 (am_lf (41, .invokevirtual 41, 3)) (am_lf (44, .goto 8, 3))))) (am_nd 54 (am_nd 49 (am_nd 48 (am_lf (47, .aload_n 0, 1)) (am_lf (48, .aload_n 1, 1))) (am_nd 52 (am_lf (49, .invokevirtual 45, 3)) (am_lf (52, .istore 5, 2)))) (am_nd 60 (am_nd 57 (am_lf (54, .iinc 6 1, 3)) (am_lf (57, .goto (-45), 3))) (am_nd 62 (am_lf (60, .iload 5, 2)) (am_lf (62, .ireturn, 1)))))))
def am_c135 : am_T am_E 5 := (am_nd 28 (am_nd 16 (am_nd 8 (am_nd 4 (am_nd 1 (am_lf (0, .aload_n 0, 1)) (am_lf (1, .getfield 9, 3))) (am_nd 5 (am_lf (4, .iconst 0, 1)) (am_lf (5, .invokestatic 52, 3)))) (am_nd 12 (am_nd 9 (am_lf (8, .aload_n 0, 1)) (am_lf (9, .getfield 15, 3))) (am_nd 13 (am_lf (12, .iconst 0, 1)) (am_lf (13, .invokestatic 52, 3))))) (am_nd 22 (am_nd 18 (am_nd 17 (am_lf (16, .aload_n 0, 1)) (am_lf (17, .iconst 0, 1))) (am_nd 19 (am_lf (18, .iload_n 1, 1)) (am_lf (19, .invokevirtual 58, 3)))) (am_nd 24 (am_nd 23 (am_lf (22, .aload_n 0, 1)) (am_lf (23, .iconst 1, 1))) (am_nd 25 (am_lf (24, .iload_n 2, 1)) (am_lf (25, .invokevirtual 58, 3)))))) (am_nd 40 (am_nd 34 (am_nd 30 (am_nd 29 (am_lf (28, .aload_n 0, 1)) (am_lf (29, .iconst 0, 1))) (am_nd 33 (am_lf (30, .putfield 18, 3)) (am_lf (33, .aload_n 0, 1)))) (am_nd 38 (am_nd 35 (am_lf (34, .iconst 0, 1)) (am_lf (35, .putfield 22, 3))) (am_nd 39 (am_lf (38, .aload_n 0, 1)) (am_lf (39, .iconst 0, 1))))) (am_nd 48 (am_nd 44 (am_nd 43 (am_lf (40, .putfield 25, 3)) (am_lf (43, .aload_n 0, 1))) (am_nd 45 (am_lf (44, .iconst 0, 1)) (am_lf (45, .putfield 28, 3)))) (am_nd 1000000 (am_nd 1000000 (am_lf (48, .return_, 1)) (am_lf (48, .return_, 1))) (am_nd 1000000 (am_lf (48, .return_, 1)) (am_lf (48, .return_, 1)))))))
def am_c136 : am_T am_E 4 := (am_nd 14 (am_nd 8 (am_nd 4 (am_nd 1 (am_lf (0, .iload_n 1, 1)) (am_lf (1, .invokestatic 88, 3))) (am_nd 7 (am_lf (4, .ifCond .eq 10, 3)) (am_lf (7, .aload_n 0, 1)))) (am_nd 12 (am_nd 11 (am_lf (8, .getfield 9, 3)) (am_lf (11, .iload_n 1, 1))) (am_nd 13 (am_lf (12, .iload_n 2, 1)) (am_lf (13, .iastore, 1))))) (am_nd 1000000 (am_nd 1000000 (am_nd 1000000 (am_lf (14, .return_, 1)) (am_lf (14, .return_, 1))) (am_nd 1000000 (am_lf (14, .return_, 1)) (am_lf (14, .return_, 1)))) (am_nd 1000000 (am_nd 1000000 (am_lf (14, .return_, 1)) (am_lf (14, .return_, 1))) (am_nd 1000000 (am_lf (14, .return_, 1)) (am_lf (14, .return_, 1))))))
def am_c137_0 : am_T am_E 5 := (am_nd 28 (am_nd 14 (am_nd 6 (am_nd 2 (am_nd 1 (am_lf (0, .aload_n 1, 1)) (am_lf (1, .aload_n 0, 1))) (am_nd 5 (am_lf (2, .getfield 18, 3)) (am_lf (5, .aload_n 0, 1)))) (am_nd 10 (am_nd 9 (am_lf (6, .getfield 22, 3)) (am_lf (9, .iconst 0, 1))) (am_nd 13 (am_lf (10, .invokevirtual 61, 3)) (am_lf (13, .istore_n 2, 1))))) (am_nd 20 (am_nd 16 (am_nd 15 (am_lf (14, .aload_n 1, 1)) (am_lf (15, .aload_n 0, 1))) (am_nd 19 (am_lf (16, .getfield 18, 3)) (am_lf (19, .aload_n 0, 1)))) (am_nd 24 (am_nd 23 (am_lf (20, .getfield 22, 3)) (am_lf (23, .iconst 1, 1))) (am_nd 27 (am_lf (24, .invokevirtual 61, 3)) (am_lf (27, .istore_n 3, 1)))))) (am_nd 42 (am_nd 34 (am_nd 30 (am_nd 29 (am_lf (28, .aload_n 0, 1)) (am_lf (29, .aload_n 1, 1))) (am_nd 31 (am_lf (30, .aload_n 0, 1)) (am_lf (31, .getfield 18, 3)))) (am_nd 38 (am_nd 35 (am_lf (34, .aload_n 0, 1)) (am_lf (35, .getfield 22, 3))) (am_nd 39 (am_lf (38, .iconst 2, 1)) (am_lf (39, .invokevirtual 61, 3))))) (am_nd 49 (am_nd 47 (am_nd 45 (am_lf (42, .invokevirtual 65, 3)) (am_lf (45, .istore 4, 2))) (am_nd 48 (am_lf (47, .aload_n 0, 1)) (am_lf (48, .aload_n 1, 1)))) (am_nd 53 (am_nd 50 (am_lf (49, .aload_n 0, 1)) (am_lf (50, .getfield 18, 3))) (am_nd 54 (am_lf (53, .aload_n 0, 1)) (am_lf (54, .getfield 22, 3)))))))
def am_c137_1 : am_T am_E 5 := (am_nd 89 (am_nd 72 (am_nd 66 (am_nd 61 (am_nd 58 (am_lf (57, .iconst 3, 1)) (am_lf (58, .invokevirtual 61, 3))) (am_nd 64 (am_lf (61, .invokevirtual 65, 3)) (am_lf (64, .istore 5, 2)))) (am_nd 68 (am_nd 67 (am_lf (66, .aload_n 0, 1)) (am_lf (67, .iload_n 2, 1))) (am_nd 70 (am_lf (68, .iload 4, 2)) (am_lf (70, .iload 5, 2))))) (am_nd 82 (am_nd 77 (am_nd 75 (am_lf (72, .invokevirtual 68, 3)) (am_lf (75, .istore 6, 2))) (am_nd 79 (am_lf (77, .iload 6, 2)) (am_lf (79, .ifCond .eq 6, 3)))) (am_nd 85 (am_nd 84 (am_lf (82, .iload 6, 2)) (am_lf (84, .ireturn, 1))) (am_nd 86 (am_lf (85, .iload_n 2, 1)) (am_lf (86, .ifCond .ne 24, 3)))))) (am_nd 101 (am_nd 93 (am_nd 91 (am_nd 90 (am_lf (89, .aload_n 0, 1)) (am_lf (90, .iload_n 3, 1))) (am_nd 92 (am_lf (91, .aload_n 1, 1)) (am_lf (92, .aload_n 0, 1)))) (am_nd 97 (am_nd 96 (am_lf (93, .getfield 18, 3)) (am_lf (96, .aload_n 0, 1))) (am_nd 100 (am_lf (97, .getfield 22, 3)) (am_lf (100, .iconst 3, 1))))) (am_nd 111 (am_nd 107 (am_nd 104 (am_lf (101, .invokevirtual 61, 3)) (am_lf (104, .invokevirtual 58, 3))) (am_nd 110 (am_lf (107, .goto 68, 3)) (am_lf (110, .iload_n 2, 1)))) (am_nd 115 (am_nd 112 (am_lf (111, .iconst 1, 1)) (am_lf (112, .if_icmp .ne 13, 3))) (am_nd 116 (am_lf (115, .aload_n 0, 1)) (am_lf (116, .iload_n 3, 1)))))))
def am_c137_2 : am_T am_E 5 := (am_nd 151 (am_nd 133 (am_nd 126 (am_nd 122 (am_nd 119 (am_lf (117, .iload 4, 2)) (am_lf (119, .invokevirtual 58, 3))) (am_nd 125 (am_lf (122, .goto 53, 3)) (am_lf (125, .iload_n 2, 1)))) (am_nd 131 (am_nd 128 (am_lf (126, .bipush 8, 2)) (am_lf (128, .if_icmp .ne 17, 3))) (am_nd 132 (am_lf (131, .aload_n 0, 1)) (am_lf (132, .iload_n 3, 1))))) (am_nd 142 (am_nd 136 (am_nd 134 (am_lf (133, .aload_n 0, 1)) (am_lf (134, .iload 4, 2))) (am_nd 139 (am_lf (136, .invokevirtual 71, 3)) (am_lf (139, .invokevirtual 58, 3)))) (am_nd 146 (am_nd 145 (am_lf (142, .goto 33, 3)) (am_lf (145, .iload_n 2, 1))) (am_nd 148 (am_lf (146, .bipush 9, 2)) (am_lf (148, .if_icmp .ne 14, 3)))))) (am_nd 165 (am_nd 159 (am_nd 154 (am_nd 152 (am_lf (151, .aload_n 0, 1)) (am_lf (152, .iload 4, 2))) (am_nd 156 (am_lf (154, .iload 5, 2)) (am_lf (156, .invokevirtual 74, 3)))) (am_nd 163 (am_nd 162 (am_lf (159, .goto 16, 3)) (am_lf (162, .aload_n 0, 1))) (am_nd 164 (am_lf (163, .iload_n 3, 1)) (am_lf (164, .iload_n 2, 1))))) (am_nd 175 (am_nd 169 (am_nd 167 (am_lf (165, .iload 4, 2)) (am_lf (167, .iload 5, 2))) (am_nd 172 (am_lf (169, .invokestatic 77, 3)) (am_lf (172, .invokevirtual 58, 3)))) (am_nd 177 (am_nd 176 (am_lf (175, .aload_n 0, 1)) (am_lf (176, .dup, 1))) (am_nd 180 (am_lf (177, .getfield 22, 3)) (am_lf (180, .iconst 1, 1)))))))
def am_c137_3 : am_T am_E 5 := (am_nd 1000000 (am_nd 195 (am_nd 187 (am_nd 185 (am_nd 182 (am_lf (181, .iadd, 1)) (am_lf (182, .putfield 22, 3))) (am_nd 186 (am_lf (185, .aload_n 0, 1)) (am_lf (186, .dup, 1)))) (am_nd 191 (am_nd 190 (am_lf (187, .getfield 25, 3)) (am_lf (190, .iconst 1, 1))) (am_nd 192 (am_lf (191, .iadd, 1)) (am_lf (192, .putfield 25, 3))))) (am_nd 1000000 (am_nd 1000000 (am_nd 196 (am_lf (195, .iconst 0, 1)) (am_lf (196, .ireturn, 1))) (am_nd 1000000 (am_lf (196, .ireturn, 1)) (am_lf (196, .ireturn, 1)))) (am_nd 1000000 (am_nd 1000000 (am_lf (196, .ireturn, 1)) (am_lf (196, .ireturn, 1))) (am_nd 1000000 (am_lf (196, .ireturn, 1)) (am_lf (196, .ireturn, 1)))))) (am_nd 1000000 (am_nd 1000000 (am_nd 1000000 (am_nd 1000000 (am_lf (196, .ireturn, 1)) (am_lf (196, .ireturn, 1))) (am_nd 1000000 (am_lf (196, .ireturn, 1)) (am_lf (196, .ireturn, 1)))) (am_nd 1000000 (am_nd 1000000 (am_lf (196, .ireturn, 1)) (am_lf (196, .ireturn, 1))) (am_nd 1000000 (am_lf (196, .ireturn, 1)) (am_lf (196, .ireturn, 1))))) (am_nd 1000000 (am_nd 1000000 (am_nd 1000000 (am_lf (196, .ireturn, 1)) (am_lf (196, .ireturn, 1))) (am_nd 1000000 (am_lf (196, .ireturn, 1)) (am_lf (196, .ireturn, 1)))) (am_nd 1000000 (am_nd 1000000 (am_lf (196, .ireturn, 1)) (am_lf (196, .ireturn, 1))) (am_nd 1000000 (am_lf (196, .ireturn, 1)) (am_lf (196, .ireturn, 1)))))))
def am_c137 : am_T am_E 7 := (am_nd 117 (am_nd 57 am_c137_0 am_c137_1) (am_nd 181 am_c137_2 am_c137_3))
def am_c138 : am_T am_E 4 := (am_nd 16 (am_nd 8 (am_nd 4 (am_nd 1 (am_lf (0, .iload_n 1, 1)) (am_lf (1, .invokestatic 88, 3))) (am_nd 7 (am_lf (4, .ifCond .eq 12, 3)) (am_lf (7, .aload_n 0, 1)))) (am_nd 12 (am_nd 11 (am_lf (8, .getfield 9, 3)) (am_lf (11, .iload_n 1, 1))) (am_nd 13 (am_lf (12, .iaload, 1)) (am_lf (13, .goto 4, 3))))) (am_nd 1000000 (am_nd 1000000 (am_nd 17 (am_lf (16, .iconst 0, 1)) (am_lf (17, .ireturn, 1))) (am_nd 1000000 (am_lf (17, .ireturn, 1)) (am_lf (17, .ireturn, 1)))) (am_nd 1000000 (am_nd 1000000 (am_lf (17, .ireturn, 1)) (am_lf (17, .ireturn, 1))) (am_nd 1000000 (am_lf (17, .ireturn, 1)) (am_lf (17, .ireturn, 1))))))
def am_c139 : am_T am_E 5 := (am_nd 28 (am_nd 13 (am_nd 8 (am_nd 2 (am_nd 1 (am_lf (0, .iload_n 1, 1)) (am_lf (1, .iload_n 3, 1))) (am_nd 5 (am_lf (2, .invokestatic 80, 3)) (am_lf (5, .ifCond .eq 5, 3)))) (am_nd 10 (am_nd 9 (am_lf (8, .iconst 2, 1)) (am_lf (9, .ireturn, 1))) (am_nd 11 (am_lf (10, .iload_n 1, 1)) (am_lf (11, .bipush 8, 2))))) (am_nd 23 (am_nd 17 (am_nd 16 (am_lf (13, .if_icmp .ne 12, 3)) (am_lf (16, .iload_n 2, 1))) (am_nd 20 (am_lf (17, .invokestatic 48, 3)) (am_lf (20, .ifCond .ne 5, 3)))) (am_nd 25 (am_nd 24 (am_lf (23, .iconst 3, 1)) (am_lf (24, .ireturn, 1))) (am_nd 26 (am_lf (25, .iload_n 1, 1)) (am_lf (26, .bipush 9, 2)))))) (am_nd 1000000 (am_nd 38 (am_nd 32 (am_nd 31 (am_lf (28, .if_icmp .ne 14, 3)) (am_lf (31, .iload_n 2, 1))) (am_nd 35 (am_lf (32, .invokestatic 48, 3)) (am_lf (35, .ifCond .ne 7, 3)))) (am_nd 42 (am_nd 39 (am_lf (38, .iconst 4, 1)) (am_lf (39, .goto 4, 3))) (am_nd 43 (am_lf (42, .iconst 0, 1)) (am_lf (43, .ireturn, 1))))) (am_nd 1000000 (am_nd 1000000 (am_nd 1000000 (am_lf (43, .ireturn, 1)) (am_lf (43, .ireturn, 1))) (am_nd 1000000 (am_lf (43, .ireturn, 1)) (am_lf (43, .ireturn, 1)))) (am_nd 1000000 (am_nd 1000000 (am_lf (43, .ireturn, 1)) (am_lf (43, .ireturn, 1))) (am_nd 1000000 (am_lf (43, .ireturn, 1)) (am_lf (43, .ireturn, 1)))))))
def am_c140 : am_T am_E 4 := (am_nd 16 (am_nd 8 (am_nd 4 (am_nd 1 (am_lf (0, .iload_n 1, 1)) (am_lf (1, .invokestatic 48, 3))) (am_nd 7 (am_lf (4, .ifCond .eq 12, 3)) (am_lf (7, .aload_n 0, 1)))) (am_nd 12 (am_nd 11 (am_lf (8, .getfield 15, 3)) (am_lf (11, .iload_n 1, 1))) (am_nd 13 (am_lf (12, .iaload, 1)) (am_lf (13, .goto 4, 3))))) (am_nd 1000000 (am_nd 1000000 (am_nd 17 (am_lf (16, .iconst 0, 1)) (am_lf (17, .ireturn, 1))) (am_nd 1000000 (am_lf (17, .ireturn, 1)) (am_lf (17, .ireturn, 1)))) (am_nd 1000000 (am_nd 1000000 (am_lf (17, .ireturn, 1)) (am_lf (17, .ireturn, 1))) (am_nd 1000000 (am_lf (17, .ireturn, 1)) (am_lf (17, .ireturn, 1))))))
def am_c141 : am_T am_E 4 := (am_nd 14 (am_nd 8 (am_nd 4 (am_nd 1 (am_lf (0, .iload_n 1, 1)) (am_lf (1, .invokestatic 48, 3))) (am_nd 7 (am_lf (4, .ifCond .eq 10, 3)) (am_lf (7, .aload_n 0, 1)))) (am_nd 12 (am_nd 11 (am_lf (8, .getfield 15, 3)) (am_lf (11, .iload_n 1, 1))) (am_nd 13 (am_lf (12, .iload_n 2, 1)) (am_lf (13, .iastore, 1))))) (am_nd 1000000 (am_nd 1000000 (am_nd 1000000 (am_lf (14, .return_, 1)) (am_lf (14, .return_, 1))) (am_nd 1000000 (am_lf (14, .return_, 1)) (am_lf (14, .return_, 1)))) (am_nd 1000000 (am_nd 1000000 (am_lf (14, .return_, 1)) (am_lf (14, .return_, 1))) (am_nd 1000000 (am_lf (14, .return_, 1)) (am_lf (14, .return_, 1))))))
def am_c142_0 : am_T am_E 5 := (am_nd 26 (am_nd 12 (am_nd 6 (am_nd 2 (am_nd 1 (am_lf (0, .aload_n 1, 1)) (am_lf (1, .aload_n 0, 1))) (am_nd 5 (am_lf (2, .getfield 18, 3)) (am_lf (5, .iconst 0, 1)))) (am_nd 10 (am_nd 9 (am_lf (6, .invokevirtual 84, 3)) (am_lf (9, .istore_n 2, 1))) (am_nd 11 (am_lf (10, .aload_n 0, 1)) (am_lf (11, .aload_n 1, 1))))) (am_nd 20 (am_nd 16 (am_nd 13 (am_lf (12, .aload_n 0, 1)) (am_lf (13, .getfield 18, 3))) (am_nd 17 (am_lf (16, .iconst 1, 1)) (am_lf (17, .invokevirtual 84, 3)))) (am_nd 24 (am_nd 23 (am_lf (20, .invokevirtual 65, 3)) (am_lf (23, .istore_n 3, 1))) (am_nd 25 (am_lf (24, .aload_n 0, 1)) (am_lf (25, .dup, 1)))))) (am_nd 40 (am_nd 34 (am_nd 30 (am_nd 29 (am_lf (26, .getfield 25, 3)) (am_lf (29, .iconst 1, 1))) (am_nd 31 (am_lf (30, .iadd, 1)) (am_lf (31, .putfield 25, 3)))) (am_nd 36 (am_nd 35 (am_lf (34, .iload_n 2, 1)) (am_lf (35, .iconst 2, 1))) (am_nd 39 (am_lf (36, .if_icmp .ne 10, 3)) (am_lf (39, .aload_n 0, 1))))) (am_nd 46 (am_nd 44 (am_nd 41 (am_lf (40, .iload_n 3, 1)) (am_lf (41, .putfield 28, 3))) (am_nd 45 (am_lf (44, .iconst 1, 1)) (am_lf (45, .ireturn, 1)))) (am_nd 48 (am_nd 47 (am_lf (46, .aload_n 0, 1)) (am_lf (47, .iload_n 2, 1))) (am_nd 49 (am_lf (48, .iconst 1, 1)) (am_lf (49, .if_icmp .ne 19, 3)))))))
def am_c142_1 : am_T am_E 5 := (am_nd 82 (am_nd 68 (am_nd 58 (am_nd 56 (am_nd 53 (am_lf (52, .iload_n 3, 1)) (am_lf (53, .ifCond .ne 15, 3))) (am_nd 57 (am_lf (56, .aload_n 1, 1)) (am_lf (57, .aload_n 0, 1)))) (am_nd 62 (am_nd 61 (am_lf (58, .getfield 18, 3)) (am_lf (61, .iconst 3, 1))) (am_nd 65 (am_lf (62, .invokevirtual 84, 3)) (am_lf (65, .goto 12, 3))))) (am_nd 74 (am_nd 70 (am_nd 69 (am_lf (68, .aload_n 1, 1)) (am_lf (69, .aload_n 0, 1))) (am_nd 73 (am_lf (70, .getfield 18, 3)) (am_lf (73, .iconst 2, 1)))) (am_nd 80 (am_nd 77 (am_lf (74, .invokevirtual 84, 3)) (am_lf (77, .putfield 18, 3))) (am_nd 81 (am_lf (80, .aload_n 0, 1)) (am_lf (81, .iconst 0, 1)))))) (am_nd 1000000 (am_nd 1000000 (am_nd 86 (am_nd 85 (am_lf (82, .putfield 22, 3)) (am_lf (85, .iconst 0, 1))) (am_nd 1000000 (am_lf (86, .ireturn, 1)) (am_lf (86, .ireturn, 1)))) (am_nd 1000000 (am_nd 1000000 (am_lf (86, .ireturn, 1)) (am_lf (86, .ireturn, 1))) (am_nd 1000000 (am_lf (86, .ireturn, 1)) (am_lf (86, .ireturn, 1))))) (am_nd 1000000 (am_nd 1000000 (am_nd 1000000 (am_lf (86, .ireturn, 1)) (am_lf (86, .ireturn, 1))) (am_nd 1000000 (am_lf (86, .ireturn, 1)) (am_lf (86, .ireturn, 1)))) (am_nd 1000000 (am_nd 1000000 (am_lf (86, .ireturn, 1)) (am_lf (86, .ireturn, 1))) (am_nd 1000000 (am_lf (86, .ireturn, 1)) (am_lf (86, .ireturn, 1)))))))
def am_c142 : am_T am_E 6 := (am_nd 52 am_c142_0 am_c142_1)
def am_c143 : am_T am_E 4 := (am_nd 12 (am_nd 4 (am_nd 2 (am_nd 1 (am_lf (0, .aload_n 2, 1)) (am_lf (1, .iconst 0, 1))) (am_nd 3 (am_lf (2, .aload_n 0, 1)) (am_lf (3, .iload_n 1, 1)))) (am_nd 8 (am_nd 7 (am_lf (4, .invokevirtual 62, 3)) (am_lf (7, .i2l, 1))) (am_nd 9 (am_lf (8, .lastore, 1)) (am_lf (9, .goto 6, 3))))) (am_nd 16 (am_nd 14 (am_nd 13 (am_lf (12, .astore_n 3, 1)) (am_lf (13, .iconst 1, 1))) (am_nd 15 (am_lf (14, .ireturn, 1)) (am_lf (15, .iconst 0, 1)))) (am_nd 1000000 (am_nd 1000000 (am_lf (16, .ireturn, 1)) (am_lf (16, .ireturn, 1))) (am_nd 1000000 (am_lf (16, .ireturn, 1)) (am_lf (16, .ireturn, 1))))))
def am_c144 : am_T am_E 4 := (am_nd 17 (am_nd 10 (am_nd 4 (am_nd 1 (am_lf (0, .iload_n 1, 1)) (am_lf (1, .invokestatic 226, 3))) (am_nd 7 (am_lf (4, .ifCond .ne 13, 3)) (am_lf (7, .new 149, 3)))) (am_nd 13 (am_nd 11 (am_lf (10, .dup, 1)) (am_lf (11, .ldc 229, 2))) (am_nd 16 (am_lf (13, .invokespecial 153, 3)) (am_lf (16, .athrow, 1))))) (am_nd 25 (am_nd 21 (am_nd 18 (am_lf (17, .aload_n 0, 1)) (am_lf (18, .getfield 50, 3))) (am_nd 22 (am_lf (21, .iload_n 1, 1)) (am_lf (22, .invokevirtual 231, 3)))) (am_nd 1000000 (am_nd 1000000 (am_lf (25, .ireturn, 1)) (am_lf (25, .ireturn, 1))) (am_nd 1000000 (am_lf (25, .ireturn, 1)) (am_lf (25, .ireturn, 1))))))
def am_c145_0 : am_T am_E 5 := (am_nd 31 (am_nd 14 (am_nd 6 (am_nd 4 (am_nd 1 (am_lf (0, .aload_n 0, 1)) (am_lf (1, .invokespecial 1, 3))) (am_nd 5 (am_lf (4, .aload_n 0, 1)) (am_lf (5, .iconst 2, 1)))) (am_nd 11 (am_nd 8 (am_lf (6, .newarray .int, 2)) (am_lf (8, .putfield 7, 3))) (am_nd 12 (am_lf (11, .aload_n 0, 1)) (am_lf (12, .bipush 12, 2))))) (am_nd 23 (am_nd 19 (am_nd 16 (am_lf (14, .newarray .int, 2)) (am_lf (16, .putfield 13, 3))) (am_nd 20 (am_lf (19, .aload_n 0, 1)) (am_lf (20, .sipush 384, 3)))) (am_nd 28 (am_nd 25 (am_lf (23, .newarray .int, 2)) (am_lf (25, .putfield 16, 3))) (am_nd 29 (am_lf (28, .aload_n 0, 1)) (am_lf (29, .bipush 48, 2)))))) (am_nd 48 (am_nd 39 (am_nd 36 (am_nd 33 (am_lf (31, .newarray .int, 2)) (am_lf (33, .putfield 19, 3))) (am_nd 37 (am_lf (36, .aload_n 0, 1)) (am_lf (37, .bipush 22, 2)))) (am_nd 44 (am_nd 41 (am_lf (39, .newarray .int, 2)) (am_lf (41, .putfield 22, 3))) (am_nd 45 (am_lf (44, .aload_n 0, 1)) (am_lf (45, .sipush 528, 3))))) (am_nd 57 (am_nd 53 (am_nd 50 (am_lf (48, .newarray .int, 2)) (am_lf (50, .putfield 25, 3))) (am_nd 54 (am_lf (53, .aload_n 0, 1)) (am_lf (54, .sipush 528, 3)))) (am_nd 62 (am_nd 59 (am_lf (57, .newarray .int, 2)) (am_lf (59, .putfield 28, 3))) (am_nd 63 (am_lf (62, .aload_n 0, 1)) (am_lf (63, .sipush 288, 3)))))))
def am_c145_1 : am_T am_E 5 := (am_nd 99 (am_nd 81 (am_nd 73 (am_nd 71 (am_nd 68 (am_lf (66, .newarray .int, 2)) (am_lf (68, .putfield 31, 3))) (am_nd 72 (am_lf (71, .aload_n 0, 1)) (am_lf (72, .iconst 2, 1)))) (am_nd 78 (am_nd 75 (am_lf (73, .newarray .int, 2)) (am_lf (75, .putfield 34, 3))) (am_nd 79 (am_lf (78, .aload_n 0, 1)) (am_lf (79, .bipush 16, 2))))) (am_nd 90 (am_nd 86 (am_nd 83 (am_lf (81, .newarray .int, 2)) (am_lf (83, .putfield 37, 3))) (am_nd 87 (am_lf (86, .aload_n 0, 1)) (am_lf (87, .sipush 384, 3)))) (am_nd 95 (am_nd 92 (am_lf (90, .newarray .int, 2)) (am_lf (92, .putfield 40, 3))) (am_nd 96 (am_lf (95, .aload_n 0, 1)) (am_lf (96, .sipush 384, 3)))))) (am_nd 115 (am_nd 107 (am_nd 104 (am_nd 101 (am_lf (99, .newarray .int, 2)) (am_lf (101, .putfield 43, 3))) (am_nd 105 (am_lf (104, .aload_n 0, 1)) (am_lf (105, .bipush 24, 2)))) (am_nd 112 (am_nd 109 (am_lf (107, .newarray .int, 2)) (am_lf (109, .putfield 46, 3))) (am_nd 113 (am_lf (112, .aload_n 0, 1)) (am_lf (113, .bipush 24, 2))))) (am_nd 122 (am_nd 120 (am_nd 117 (am_lf (115, .newarray .int, 2)) (am_lf (117, .putfield 49, 3))) (am_nd 121 (am_lf (120, .aload_n 0, 1)) (am_lf (121, .iconst 2, 1)))) (am_nd 127 (am_nd 124 (am_lf (122, .newarray .int, 2)) (am_lf (124, .putfield 52, 3))) (am_nd 128 (am_lf (127, .aload_n 0, 1)) (am_lf (128, .iconst 2, 1)))))))
def am_c145_2 : am_T am_E 5 := (am_nd 158 (am_nd 143 (am_nd 136 (am_nd 134 (am_nd 131 (am_lf (129, .newarray .int, 2)) (am_lf (131, .putfield 55, 3))) (am_nd 135 (am_lf (134, .aload_n 0, 1)) (am_lf (135, .iconst 2, 1)))) (am_nd 141 (am_nd 138 (am_lf (136, .newarray .int, 2)) (am_lf (138, .putfield 58, 3))) (am_nd 142 (am_lf (141, .aload_n 0, 1)) (am_lf (142, .iconst 2, 1))))) (am_nd 150 (am_nd 148 (am_nd 145 (am_lf (143, .newarray .int, 2)) (am_lf (145, .putfield 61, 3))) (am_nd 149 (am_lf (148, .aload_n 0, 1)) (am_lf (149, .iconst (-1), 1)))) (am_nd 154 (am_nd 153 (am_lf (150, .putfield 64, 3)) (am_lf (153, .aload_n 0, 1))) (am_nd 155 (am_lf (154, .iconst (-1), 1)) (am_lf (155, .putfield 68, 3)))))) (am_nd 172 (am_nd 164 (am_nd 160 (am_nd 159 (am_lf (158, .aload_n 0, 1)) (am_lf (159, .iconst (-1), 1))) (am_nd 163 (am_lf (160, .putfield 71, 3)) (am_lf (163, .aload_n 0, 1)))) (am_nd 168 (am_nd 166 (am_lf (164, .bipush 40, 2)) (am_lf (166, .newarray .int, 2))) (am_nd 171 (am_lf (168, .putfield 74, 3)) (am_lf (171, .aload_n 0, 1))))) (am_nd 180 (am_nd 176 (am_nd 174 (am_lf (172, .bipush 40, 2)) (am_lf (174, .newarray .int, 2))) (am_nd 179 (am_lf (176, .putfield 77, 3)) (am_lf (179, .aload_n 0, 1)))) (am_nd 184 (am_nd 182 (am_lf (180, .bipush 6, 2)) (am_lf (182, .newarray .int, 2))) (am_nd 187 (am_lf (184, .putfield 80, 3)) (am_lf (187, .aload_n 0, 1)))))))
def am_c145_3 : am_T am_E 5 := (am_nd 220 (am_nd 204 (am_nd 196 (am_nd 192 (am_nd 190 (am_lf (188, .bipush 6, 2)) (am_lf (190, .newarray .boolean, 2))) (am_nd 195 (am_lf (192, .putfield 83, 3)) (am_lf (195, .aload_n 0, 1)))) (am_nd 200 (am_nd 198 (am_lf (196, .bipush 6, 2)) (am_lf (198, .newarray .int, 2))) (am_nd 203 (am_lf (200, .putfield 87, 3)) (am_lf (203, .aload_n 0, 1))))) (am_nd 212 (am_nd 208 (am_nd 206 (am_lf (204, .bipush 8, 2)) (am_lf (206, .newarray .int, 2))) (am_nd 211 (am_lf (208, .putfield 90, 3)) (am_lf (211, .aload_n 0, 1)))) (am_nd 216 (am_nd 214 (am_lf (212, .bipush 8, 2)) (am_lf (214, .newarray .boolean, 2))) (am_nd 219 (am_lf (216, .putfield 93, 3)) (am_lf (219, .aload_n 0, 1)))))) (am_nd 236 (am_nd 228 (am_nd 224 (am_nd 222 (am_lf (220, .bipush 6, 2)) (am_lf (222, .newarray .int, 2))) (am_nd 227 (am_lf (224, .putfield 96, 3)) (am_lf (227, .aload_n 0, 1)))) (am_nd 232 (am_nd 230 (am_lf (228, .bipush 8, 2)) (am_lf (230, .newarray .int, 2))) (am_nd 235 (am_lf (232, .putfield 99, 3)) (am_lf (235, .aload_n 0, 1))))) (am_nd 1000000 (am_nd 240 (am_nd 238 (am_lf (236, .bipush 22, 2)) (am_lf (238, .newarray .boolean, 2))) (am_nd 243 (am_lf (240, .putfield 102, 3)) (am_lf (243, .return_, 1)))) (am_nd 1000000 (am_nd 1000000 (am_lf (243, .return_, 1)) (am_lf (243, .return_, 1))) (am_nd 1000000 (am_lf (243, .return_, 1)) (am_lf (243, .return_, 1)))))))
def am_c145 : am_T am_E 7 := (am_nd 129 (am_nd 66 am_c145_0 am_c145_1) (am_nd 188 am_c145_2 am_c145_3))
def am_c146 : am_T am_E 2 := (am_nd 4 (am_nd 1 (am_lf (0, .aload_n 0, 1)) (am_lf (1, .getfield 105, 3))) (am_nd 1000000 (am_lf (4, .ireturn, 1)) (am_lf (4, .ireturn, 1))))
def am_c147_0 : am_T am_E 5 := (am_nd 29 (am_nd 14 (am_nd 6 (am_nd 2 (am_nd 1 (am_lf (0, .aload_n 0, 1)) (am_lf (1, .iload_n 1, 1))) (am_nd 3 (am_lf (2, .iconst 2, 1)) (am_lf (3, .invokestatic 108, 3)))) (am_nd 10 (am_nd 9 (am_lf (6, .ifCond .eq 7, 3)) (am_lf (9, .iconst 1, 1))) (am_nd 13 (am_lf (10, .goto 19, 3)) (am_lf (13, .aload_n 0, 1))))) (am_nd 21 (am_nd 18 (am_nd 17 (am_lf (14, .getfield 7, 3)) (am_lf (17, .iload_n 1, 1))) (am_nd 19 (am_lf (18, .iaload, 1)) (am_lf (19, .bipush 6, 2)))) (am_nd 25 (am_nd 24 (am_lf (21, .if_icmp .ne 7, 3)) (am_lf (24, .iconst 2, 1))) (am_nd 28 (am_lf (25, .goto 4, 3)) (am_lf (28, .iconst 0, 1)))))) (am_nd 44 (am_nd 39 (am_nd 33 (am_nd 32 (am_lf (29, .putfield 105, 3)) (am_lf (32, .aload_n 0, 1))) (am_nd 36 (am_lf (33, .getfield 105, 3)) (am_lf (36, .ifCond .le 5, 3)))) (am_nd 41 (am_nd 40 (am_lf (39, .iconst 0, 1)) (am_lf (40, .ireturn, 1))) (am_nd 43 (am_lf (41, .bipush 6, 2)) (am_lf (43, .iload_n 1, 1))))) (am_nd 50 (am_nd 46 (am_nd 45 (am_lf (44, .imul, 1)) (am_lf (45, .aload_n 0, 1))) (am_nd 49 (am_lf (46, .getfield 7, 3)) (am_lf (49, .iload_n 1, 1)))) (am_nd 52 (am_nd 51 (am_lf (50, .iaload, 1)) (am_lf (51, .iadd, 1))) (am_nd 53 (am_lf (52, .istore_n 2, 1)) (am_lf (53, .aload_n 0, 1)))))))
def am_c147_1 : am_T am_E 5 := (am_nd 76 (am_nd 64 (am_nd 60 (am_nd 58 (am_nd 57 (am_lf (54, .getfield 13, 3)) (am_lf (57, .iload_n 2, 1))) (am_nd 59 (am_lf (58, .iconst 0, 1)) (am_lf (59, .iastore, 1)))) (am_nd 62 (am_nd 61 (am_lf (60, .aload_n 0, 1)) (am_lf (61, .iload_n 2, 1))) (am_nd 63 (am_lf (62, .iconst 2, 1)) (am_lf (63, .iconst 0, 1))))) (am_nd 70 (am_nd 66 (am_nd 65 (am_lf (64, .iconst 0, 1)) (am_lf (65, .iconst 0, 1))) (am_nd 69 (am_lf (66, .invokevirtual 112, 3)) (am_lf (69, .aload_n 0, 1)))) (am_nd 74 (am_nd 73 (am_lf (70, .getfield 7, 3)) (am_lf (73, .iload_n 1, 1))) (am_nd 75 (am_lf (74, .dup2, 1)) (am_lf (75, .iaload, 1)))))) (am_nd 88 (am_nd 80 (am_nd 78 (am_nd 77 (am_lf (76, .iconst 1, 1)) (am_lf (77, .iadd, 1))) (am_nd 79 (am_lf (78, .iastore, 1)) (am_lf (79, .aload_n 0, 1)))) (am_nd 84 (am_nd 83 (am_lf (80, .invokevirtual 116, 3)) (am_lf (83, .aload_n 0, 1))) (am_nd 87 (am_lf (84, .getfield 7, 3)) (am_lf (87, .iload_n 1, 1))))) (am_nd 1000000 (am_nd 90 (am_nd 89 (am_lf (88, .iaload, 1)) (am_lf (89, .iconst 1, 1))) (am_nd 91 (am_lf (90, .isub, 1)) (am_lf (91, .ireturn, 1)))) (am_nd 1000000 (am_nd 1000000 (am_lf (91, .ireturn, 1)) (am_lf (91, .ireturn, 1))) (am_nd 1000000 (am_lf (91, .ireturn, 1)) (am_lf (91, .ireturn, 1)))))))
def am_c147 : am_T am_E 6 := (am_nd 54 am_c147_0 am_c147_1)
def am_c148 : am_T am_E 4 := (am_nd 14 (am_nd 6 (am_nd 4 (am_nd 1 (am_lf (0, .iload_n 0, 1)) (am_lf (1, .ifCond .lt 8, 3))) (am_nd 5 (am_lf (4, .iload_n 0, 1)) (am_lf (5, .iload_n 1, 1)))) (am_nd 10 (am_nd 9 (am_lf (6, .if_icmp .lt 7, 3)) (am_lf (9, .iconst 1, 1))) (am_nd 13 (am_lf (10, .goto 4, 3)) (am_lf (13, .iconst 0, 1))))) (am_nd 1000000 (am_nd 1000000 (am_nd 1000000 (am_lf (14, .ireturn, 1)) (am_lf (14, .ireturn, 1))) (am_nd 1000000 (am_lf (14, .ireturn, 1)) (am_lf (14, .ireturn, 1)))) (am_nd 1000000 (am_nd 1000000 (am_lf (14, .ireturn, 1)) (am_lf (14, .ireturn, 1))) (am_nd 1000000 (am_lf (14, .ireturn, 1)) (am_lf (14, .ireturn, 1))))))
def am_c149_0 : am_T am_E 5 := (am_nd 20 (am_nd 10 (am_nd 6 (am_nd 4 (am_nd 1 (am_lf (0, .aload_n 0, 1)) (am_lf (1, .getfield 19, 3))) (am_nd 5 (am_lf (4, .iconst 4, 1)) (am_lf (5, .iload_n 1, 1)))) (am_nd 8 (am_nd 7 (am_lf (6, .imul, 1)) (am_lf (7, .iload_n 2, 1))) (am_nd 9 (am_lf (8, .iastore, 1)) (am_lf (9, .aload_n 0, 1))))) (am_nd 16 (am_nd 14 (am_nd 13 (am_lf (10, .getfield 19, 3)) (am_lf (13, .iconst 4, 1))) (am_nd 15 (am_lf (14, .iload_n 1, 1)) (am_lf (15, .imul, 1)))) (am_nd 18 (am_nd 17 (am_lf (16, .iconst 1, 1)) (am_lf (17, .iadd, 1))) (am_nd 19 (am_lf (18, .iload_n 3, 1)) (am_lf (19, .iastore, 1)))))) (am_nd 31 (am_nd 26 (am_nd 24 (am_nd 21 (am_lf (20, .aload_n 0, 1)) (am_lf (21, .getfield 19, 3))) (am_nd 25 (am_lf (24, .iconst 4, 1)) (am_lf (25, .iload_n 1, 1)))) (am_nd 28 (am_nd 27 (am_lf (26, .imul, 1)) (am_lf (27, .iconst 2, 1))) (am_nd 29 (am_lf (28, .iadd, 1)) (am_lf (29, .iload 4, 2))))) (am_nd 37 (am_nd 33 (am_nd 32 (am_lf (31, .iastore, 1)) (am_lf (32, .aload_n 0, 1))) (am_nd 36 (am_lf (33, .getfield 19, 3)) (am_lf (36, .iconst 4, 1)))) (am_nd 39 (am_nd 38 (am_lf (37, .iload_n 1, 1)) (am_lf (38, .imul, 1))) (am_nd 40 (am_lf (39, .iconst 3, 1)) (am_lf (40, .iadd, 1)))))))
def am_c149_1 : am_T am_E 5 := (am_nd 1000000 (am_nd 1000000 (am_nd 1000000 (am_nd 44 (am_nd 43 (am_lf (41, .iload 5, 2)) (am_lf (43, .iastore, 1))) (am_nd 1000000 (am_lf (44, .return_, 1)) (am_lf (44, .return_, 1)))) (am_nd 1000000 (am_nd 1000000 (am_lf (44, .return_, 1)) (am_lf (44, .return_, 1))) (am_nd 1000000 (am_lf (44, .return_, 1)) (am_lf (44, .return_, 1))))) (am_nd 1000000 (am_nd 1000000 (am_nd 1000000 (am_lf (44, .return_, 1)) (am_lf (44, .return_, 1))) (am_nd 1000000 (am_lf (44, .return_, 1)) (am_lf (44, .return_, 1)))) (am_nd 1000000 (am_nd 1000000 (am_lf (44, .return_, 1)) (am_lf (44, .return_, 1))) (am_nd 1000000 (am_lf (44, .return_, 1)) (am_lf (44, .return_, 1)))))) (am_nd 1000000 (am_nd 1000000 (am_nd 1000000 (am_nd 1000000 (am_lf (44, .return_, 1)) (am_lf (44, .return_, 1))) (am_nd 1000000 (am_lf (44, .return_, 1)) (am_lf (44, .return_, 1)))) (am_nd 1000000 (am_nd 1000000 (am_lf (44, .return_, 1)) (am_lf (44, .return_, 1))) (am_nd 1000000 (am_lf (44, .return_, 1)) (am_lf (44, .return_, 1))))) (am_nd 1000000 (am_nd 1000000 (am_nd 1000000 (am_lf (44, .return_, 1)) (am_lf (44, .return_, 1))) (am_nd 1000000 (am_lf (44, .return_, 1)) (am_lf (44, .return_, 1)))) (am_nd 1000000 (am_nd 1000000 (am_lf (44, .return_, 1)) (am_lf (44, .return_, 1))) (am_nd 1000000 (am_lf (44, .return_, 1)) (am_lf (44, .return_, 1)))))))
def am_c149 : am_T am_E 6 := (am_nd 41 am_c149_0 am_c149_1)
def am_c150 : am_T am_E 4 := (am_nd 12 (am_nd 6 (am_nd 2 (am_nd 1 (am_lf (0, .aload_n 0, 1)) (am_lf (1, .iconst (-1), 1))) (am_nd 5 (am_lf (2, .putfield 64, 3)) (am_lf (5, .aload_n 0, 1)))) (am_nd 10 (am_nd 7 (am_lf (6, .iconst (-1), 1)) (am_lf (7, .putfield 68, 3))) (am_nd 11 (am_lf (10, .aload_n 0, 1)) (am_lf (11, .iconst (-1), 1))))) (am_nd 1000000 (am_nd 1000000 (am_nd 15 (am_lf (12, .putfield 71, 3)) (am_lf (15, .return_, 1))) (am_nd 1000000 (am_lf (15, .return_, 1)) (am_lf (15, .return_, 1)))) (am_nd 1000000 (am_nd 1000000 (am_lf (15, .return_, 1)) (am_lf (15, .return_, 1))) (am_nd 1000000 (am_lf (15, .return_, 1)) (am_lf (15, .return_, 1))))))
def am_c151_0 : am_T am_E 5 := (am_nd 29 (am_nd 14 (am_nd 6 (am_nd 2 (am_nd 1 (am_lf (0, .aload_n 0, 1)) (am_lf (1, .iconst 0, 1))) (am_nd 5 (am_lf (2, .putfield 105, 3)) (am_lf (5, .aload_n 0, 1)))) (am_nd 8 (am_nd 7 (am_lf (6, .iload_n 1, 1)) (am_lf (7, .iload_n 2, 1))) (am_nd 11 (am_lf (8, .invokevirtual 129, 3)) (am_lf (11, .ifCond .ne 9, 3))))) (am_nd 20 (am_nd 16 (am_nd 15 (am_lf (14, .aload_n 0, 1)) (am_lf (15, .iconst 1, 1))) (am_nd 19 (am_lf (16, .invokevirtual 132, 3)) (am_lf (19, .ireturn, 1)))) (am_nd 23 (am_nd 21 (am_lf (20, .iload_n 3, 1)) (am_lf (21, .bipush 10, 2))) (am_nd 26 (am_lf (23, .invokestatic 108, 3)) (am_lf (26, .ifCond .ne 54, 3)))))) (am_nd 47 (am_nd 38 (am_nd 33 (am_nd 30 (am_lf (29, .iload_n 3, 1)) (am_lf (30, .invokestatic 119, 3))) (am_nd 36 (am_lf (33, .ifCond .eq 13, 3)) (am_lf (36, .iload 4, 2)))) (am_nd 43 (am_nd 40 (am_lf (38, .bipush 6, 2)) (am_lf (40, .invokestatic 108, 3))) (am_nd 46 (am_lf (43, .ifCond .ne 37, 3)) (am_lf (46, .iload_n 3, 1))))) (am_nd 57 (am_nd 53 (am_nd 50 (am_lf (47, .invokestatic 123, 3)) (am_lf (50, .ifCond .eq 13, 3))) (am_nd 55 (am_lf (53, .iload 5, 2)) (am_lf (55, .bipush 6, 2)))) (am_nd 63 (am_nd 60 (am_lf (57, .invokestatic 108, 3)) (am_lf (60, .ifCond .ne 20, 3))) (am_nd 64 (am_lf (63, .iload_n 3, 1)) (am_lf (64, .invokestatic 126, 3)))))))
def am_c151_1 : am_T am_E 5 := (am_nd 95 (am_nd 85 (am_nd 77 (am_nd 72 (am_nd 70 (am_lf (67, .ifCond .eq 19, 3)) (am_lf (70, .iload 6, 2))) (am_nd 74 (am_lf (72, .bipush 6, 2)) (am_lf (74, .invokestatic 108, 3)))) (am_nd 81 (am_nd 80 (am_lf (77, .ifCond .eq 9, 3)) (am_lf (80, .aload_n 0, 1))) (am_nd 82 (am_lf (81, .iconst 2, 1)) (am_lf (82, .invokevirtual 132, 3))))) (am_nd 90 (am_nd 88 (am_nd 86 (am_lf (85, .ireturn, 1)) (am_lf (86, .bipush 6, 2))) (am_nd 89 (am_lf (88, .iload_n 1, 1)) (am_lf (89, .imul, 1)))) (am_nd 92 (am_nd 91 (am_lf (90, .iload_n 2, 1)) (am_lf (91, .iadd, 1))) (am_nd 94 (am_lf (92, .istore 7, 2)) (am_lf (94, .aload_n 0, 1)))))) (am_nd 111 (am_nd 103 (am_nd 100 (am_nd 98 (am_lf (95, .getfield 13, 3)) (am_lf (98, .iload 7, 2))) (am_nd 101 (am_lf (100, .iaload, 1)) (am_lf (101, .bipush 8, 2)))) (am_nd 107 (am_nd 106 (am_lf (103, .if_icmp .ne 9, 3)) (am_lf (106, .aload_n 0, 1))) (am_nd 108 (am_lf (107, .iconst 3, 1)) (am_lf (108, .invokevirtual 132, 3))))) (am_nd 117 (am_nd 113 (am_nd 112 (am_lf (111, .ireturn, 1)) (am_lf (112, .aload_n 0, 1))) (am_nd 115 (am_lf (113, .bipush 32, 2)) (am_lf (115, .iload 7, 2)))) (am_nd 119 (am_nd 118 (am_lf (117, .imul, 1)) (am_lf (118, .iconst 4, 1))) (am_nd 120 (am_lf (119, .aload_n 0, 1)) (am_lf (120, .getfield 13, 3)))))))
def am_c151_2 : am_T am_E 5 := (am_nd 148 (am_nd 135 (am_nd 128 (am_nd 126 (am_nd 125 (am_lf (123, .iload 7, 2)) (am_lf (125, .iaload, 1))) (am_nd 127 (am_lf (126, .imul, 1)) (am_lf (127, .iadd, 1)))) (am_nd 131 (am_nd 129 (am_lf (128, .iload_n 3, 1)) (am_lf (129, .iload 4, 2))) (am_nd 133 (am_lf (131, .iload 5, 2)) (am_lf (133, .iload 6, 2))))) (am_nd 144 (am_nd 139 (am_nd 138 (am_lf (135, .invokevirtual 136, 3)) (am_lf (138, .aload_n 0, 1))) (am_nd 142 (am_lf (139, .getfield 13, 3)) (am_lf (142, .iload 7, 2)))) (am_nd 146 (am_nd 145 (am_lf (144, .dup2, 1)) (am_lf (145, .iaload, 1))) (am_nd 147 (am_lf (146, .iconst 1, 1)) (am_lf (147, .iadd, 1)))))) (am_nd 161 (am_nd 154 (am_nd 150 (am_nd 149 (am_lf (148, .iastore, 1)) (am_lf (149, .aload_n 0, 1))) (am_nd 153 (am_lf (150, .invokevirtual 116, 3)) (am_lf (153, .aload_n 0, 1)))) (am_nd 159 (am_nd 157 (am_lf (154, .getfield 13, 3)) (am_lf (157, .iload 7, 2))) (am_nd 160 (am_lf (159, .iaload, 1)) (am_lf (160, .iconst 1, 1))))) (am_nd 1000000 (am_nd 1000000 (am_nd 162 (am_lf (161, .isub, 1)) (am_lf (162, .ireturn, 1))) (am_nd 1000000 (am_lf (162, .ireturn, 1)) (am_lf (162, .ireturn, 1)))) (am_nd 1000000 (am_nd 1000000 (am_lf (162, .ireturn, 1)) (am_lf (162, .ireturn, 1))) (am_nd 1000000 (am_lf (162, .ireturn, 1)) (am_lf (162, .ireturn, 1)))))))
def am_c151_3 : am_T am_E 5 := (am_nd 1000000 (am_nd 1000000 (am_nd 1000000 (am_nd 1000000 (am_nd 1000000 (am_lf (162, .ireturn, 1)) (am_lf (162, .ireturn, 1))) (am_nd 1000000 (am_lf (162, .ireturn, 1)) (am_lf (162, .ireturn, 1)))) (am_nd 1000000 (am_nd 1000000 (am_lf (162, .ireturn, 1)) (am_lf (162, .ireturn, 1))) (am_nd 1000000 (am_lf (162, .ireturn, 1)) (am_lf (162, .ireturn, 1))))) (am_nd 1000000 (am_nd 1000000 (am_nd 1000000 (am_lf (162, .ireturn, 1)) (am_lf (162, .ireturn, 1))) (am_nd 1000000 (am_lf (162, .ireturn, 1)) (am_lf (162, .ireturn, 1)))) (am_nd 1000000 (am_nd 1000000 (am_lf (162, .ireturn, 1)) (am_lf (162, .ireturn, 1))) (am_nd 1000000 (am_lf (162, .ireturn, 1)) (am_lf (162, .ireturn, 1)))))) (am_nd 1000000 (am_nd 1000000 (am_nd 1000000 (am_nd 1000000 (am_lf (162, .ireturn, 1)) (am_lf (162, .ireturn, 1))) (am_nd 1000000 (am_lf (162, .ireturn, 1)) (am_lf (162, .ireturn, 1)))) (am_nd 1000000 (am_nd 1000000 (am_lf (162, .ireturn, 1)) (am_lf (162, .ireturn, 1))) (am_nd 1000000 (am_lf (162, .ireturn, 1)) (am_lf (162, .ireturn, 1))))) (am_nd 1000000 (am_nd 1000000 (am_nd 1000000 (am_lf (162, .ireturn, 1)) (am_lf (162, .ireturn, 1))) (am_nd 1000000 (am_lf (162, .ireturn, 1)) (am_lf (162, .ireturn, 1)))) (am_nd 1000000 (am_nd 1000000 (am_lf (162, .ireturn, 1)) (am_lf (162, .ireturn, 1))) (am_nd 1000000 (am_lf (162, .ireturn, 1)) (am_lf (162, .ireturn, 1)))))))
def am_c151 : am_T am_E 7 := (am_nd 123 (am_nd 67 am_c151_0 am_c151_1) (am_nd 1000000 am_c151_2 am_c151_3))
def am_c152 : am_T am_E 4 := (am_nd 14 (am_nd 8 (am_nd 2 (am_nd 1 (am_lf (0, .iload_n 1, 1)) (am_lf (1, .iconst 2, 1))) (am_nd 5 (am_lf (2, .invokestatic 108, 3)) (am_lf (5, .ifCond .ne 20, 3)))) (am_nd 10 (am_nd 9 (am_lf (8, .iload_n 2, 1)) (am_lf (9, .aload_n 0, 1))) (am_nd 13 (am_lf (10, .getfield 7, 3)) (am_lf (13, .iload_n 1, 1))))) (am_nd 22 (am_nd 18 (am_nd 15 (am_lf (14, .iaload, 1)) (am_lf (15, .invokestatic 108, 3))) (am_nd 21 (am_lf (18, .ifCond .ne 7, 3)) (am_lf (21, .iconst 1, 1)))) (am_nd 26 (am_nd 25 (am_lf (22, .goto 4, 3)) (am_lf (25, .iconst 0, 1))) (am_nd 1000000 (am_lf (26, .ireturn, 1)) (am_lf (26, .ireturn, 1))))))
def am_c153 : am_T am_E 3 := (am_nd 6 (am_nd 2 (am_nd 1 (am_lf (0, .aload_n 0, 1)) (am_lf (1, .iload_n 1, 1))) (am_nd 5 (am_lf (2, .putfield 105, 3)) (am_lf (5, .iconst 0, 1)))) (am_nd 1000000 (am_nd 1000000 (am_lf (6, .ireturn, 1)) (am_lf (6, .ireturn, 1))) (am_nd 1000000 (am_lf (6, .ireturn, 1)) (am_lf (6, .ireturn, 1)))))
def am_c154 : am_T am_E 3 := (am_nd 7 (am_nd 3 (am_nd 1 (am_lf (0, .iload_n 0, 1)) (am_lf (1, .bipush 9, 2))) (am_nd 6 (am_lf (3, .if_icmp .eq 7, 3)) (am_lf (6, .iconst 1, 1)))) (am_nd 11 (am_nd 10 (am_lf (7, .goto 4, 3)) (am_lf (10, .iconst 0, 1))) (am_nd 1000000 (am_lf (11, .ireturn, 1)) (am_lf (11, .ireturn, 1)))))
def am_c155 : am_T am_E 3 := (am_nd 8 (am_nd 4 (am_nd 1 (am_lf (0, .iload_n 0, 1)) (am_lf (1, .ifCond .eq 7, 3))) (am_nd 5 (am_lf (4, .iconst 1, 1)) (am_lf (5, .goto 4, 3)))) (am_nd 1000000 (am_nd 9 (am_lf (8, .iconst 0, 1)) (am_lf (9, .ireturn, 1))) (am_nd 1000000 (am_lf (9, .ireturn, 1)) (am_lf (9, .ireturn, 1)))))
def am_c156 : am_T am_E 4 := (am_nd 15 (am_nd 6 (am_nd 2 (am_nd 1 (am_lf (0, .iload_n 0, 1)) (am_lf (1, .iconst 1, 1))) (am_nd 5 (am_lf (2, .if_icmp .le 13, 3)) (am_lf (5, .iload_n 0, 1)))) (am_nd 11 (am_nd 8 (am_lf (6, .bipush 8, 2)) (am_lf (8, .if_icmp .eq 7, 3))) (am_nd 12 (am_lf (11, .iconst 1, 1)) (am_lf (12, .goto 4, 3))))) (am_nd 1000000 (am_nd 1000000 (am_nd 16 (am_lf (15, .iconst 0, 1)) (am_lf (16, .ireturn, 1))) (am_nd 1000000 (am_lf (16, .ireturn, 1)) (am_lf (16, .ireturn, 1)))) (am_nd 1000000 (am_nd 1000000 (am_lf (16, .ireturn, 1)) (am_lf (16, .ireturn, 1))) (am_nd 1000000 (am_lf (16, .ireturn, 1)) (am_lf (16, .ireturn, 1))))))
def am_c157_0 : am_T am_E 5 := (am_nd 26 (am_nd 12 (am_nd 6 (am_nd 4 (am_nd 1 (am_lf (0, .aload_n 0, 1)) (am_lf (1, .getfield 16, 3))) (am_nd 5 (am_lf (4, .iload_n 1, 1)) (am_lf (5, .iload_n 2, 1)))) (am_nd 8 (am_nd 7 (am_lf (6, .iastore, 1)) (am_lf (7, .aload_n 0, 1))) (am_nd 11 (am_lf (8, .getfield 16, 3)) (am_lf (11, .iload_n 1, 1))))) (am_nd 18 (am_nd 14 (am_nd 13 (am_lf (12, .iconst 1, 1)) (am_lf (13, .iadd, 1))) (am_nd 15 (am_lf (14, .iload_n 2, 1)) (am_lf (15, .invokestatic 119, 3)))) (am_nd 22 (am_nd 21 (am_lf (18, .ifCond .eq 7, 3)) (am_lf (21, .iload_n 3, 1))) (am_nd 25 (am_lf (22, .goto 4, 3)) (am_lf (25, .iconst 0, 1)))))) (am_nd 38 (am_nd 32 (am_nd 28 (am_nd 27 (am_lf (26, .iastore, 1)) (am_lf (27, .aload_n 0, 1))) (am_nd 31 (am_lf (28, .getfield 16, 3)) (am_lf (31, .iload_n 1, 1)))) (am_nd 34 (am_nd 33 (am_lf (32, .iconst 2, 1)) (am_lf (33, .iadd, 1))) (am_nd 35 (am_lf (34, .iload_n 2, 1)) (am_lf (35, .invokestatic 123, 3))))) (am_nd 47 (am_nd 43 (am_nd 41 (am_lf (38, .ifCond .eq 8, 3)) (am_lf (41, .iload 4, 2))) (am_nd 46 (am_lf (43, .goto 4, 3)) (am_lf (46, .iconst 0, 1)))) (am_nd 49 (am_nd 48 (am_lf (47, .iastore, 1)) (am_lf (48, .aload_n 0, 1))) (am_nd 52 (am_lf (49, .getfield 16, 3)) (am_lf (52, .iload_n 1, 1)))))))
def am_c157_1 : am_T am_E 5 := (am_nd 1000000 (am_nd 68 (am_nd 59 (am_nd 55 (am_nd 54 (am_lf (53, .iconst 3, 1)) (am_lf (54, .iadd, 1))) (am_nd 56 (am_lf (55, .iload_n 2, 1)) (am_lf (56, .invokestatic 126, 3)))) (am_nd 63 (am_nd 62 (am_lf (59, .ifCond .ne 7, 3)) (am_lf (62, .iload_n 2, 1))) (am_nd 66 (am_lf (63, .ifCond .ne 8, 3)) (am_lf (66, .iload 5, 2))))) (am_nd 1000000 (am_nd 72 (am_nd 71 (am_lf (68, .goto 4, 3)) (am_lf (71, .iconst 0, 1))) (am_nd 73 (am_lf (72, .iastore, 1)) (am_lf (73, .return_, 1)))) (am_nd 1000000 (am_nd 1000000 (am_lf (73, .return_, 1)) (am_lf (73, .return_, 1))) (am_nd 1000000 (am_lf (73, .return_, 1)) (am_lf (73, .return_, 1)))))) (am_nd 1000000 (am_nd 1000000 (am_nd 1000000 (am_nd 1000000 (am_lf (73, .return_, 1)) (am_lf (73, .return_, 1))) (am_nd 1000000 (am_lf (73, .return_, 1)) (am_lf (73, .return_, 1)))) (am_nd 1000000 (am_nd 1000000 (am_lf (73, .return_, 1)) (am_lf (73, .return_, 1))) (am_nd 1000000 (am_lf (73, .return_, 1)) (am_lf (73, .return_, 1))))) (am_nd 1000000 (am_nd 1000000 (am_nd 1000000 (am_lf (73, .return_, 1)) (am_lf (73, .return_, 1))) (am_nd 1000000 (am_lf (73, .return_, 1)) (am_lf (73, .return_, 1)))) (am_nd 1000000 (am_nd 1000000 (am_lf (73, .return_, 1)) (am_lf (73, .return_, 1))) (am_nd 1000000 (am_lf (73, .return_, 1)) (am_lf (73, .return_, 1)))))))
def am_c157 : am_T am_E 6 := (am_nd 53 am_c157_0 am_c157_1)
def am_c158_0 : am_T am_E 5 := (am_nd 28 (am_nd 14 (am_nd 6 (am_nd 2 (am_nd 1 (am_lf (0, .aload_n 0, 1)) (am_lf (1, .iconst 0, 1))) (am_nd 5 (am_lf (2, .putfield 105, 3)) (am_lf (5, .aload_n 0, 1)))) (am_nd 8 (am_nd 7 (am_lf (6, .iload_n 1, 1)) (am_lf (7, .iload_n 2, 1))) (am_nd 11 (am_lf (8, .invokevirtual 129, 3)) (am_lf (11, .ifCond .ne 9, 3))))) (am_nd 20 (am_nd 16 (am_nd 15 (am_lf (14, .aload_n 0, 1)) (am_lf (15, .iconst 1, 1))) (am_nd 19 (am_lf (16, .putfield 105, 3)) (am_lf (19, .return_, 1)))) (am_nd 22 (am_nd 21 (am_lf (20, .iload_n 3, 1)) (am_lf (21, .iconst 3, 1))) (am_nd 25 (am_lf (22, .invokestatic 108, 3)) (am_lf (25, .ifCond .ne 47, 3)))))) (am_nd 44 (am_nd 36 (am_nd 32 (am_nd 29 (am_lf (28, .iload_n 3, 1)) (am_lf (29, .ifCond .eq 13, 3))) (am_nd 34 (am_lf (32, .iload 4, 2)) (am_lf (34, .bipush 6, 2)))) (am_nd 42 (am_nd 39 (am_lf (36, .invokestatic 108, 3)) (am_lf (39, .ifCond .ne 33, 3))) (am_nd 43 (am_lf (42, .iload_n 3, 1)) (am_lf (43, .iconst 2, 1))))) (am_nd 54 (am_nd 49 (am_nd 47 (am_lf (44, .if_icmp .eq 13, 3)) (am_lf (47, .iload 5, 2))) (am_nd 51 (am_lf (49, .bipush 6, 2)) (am_lf (51, .invokestatic 108, 3)))) (am_nd 58 (am_nd 57 (am_lf (54, .ifCond .ne 18, 3)) (am_lf (57, .iload_n 3, 1))) (am_nd 59 (am_lf (58, .iconst 1, 1)) (am_lf (59, .if_icmp .ne 19, 3)))))))
def am_c158_1 : am_T am_E 5 := (am_nd 87 (am_nd 78 (am_nd 72 (am_nd 66 (am_nd 64 (am_lf (62, .iload 6, 2)) (am_lf (64, .bipush 6, 2))) (am_nd 69 (am_lf (66, .invokestatic 108, 3)) (am_lf (69, .ifCond .eq 9, 3)))) (am_nd 74 (am_nd 73 (am_lf (72, .aload_n 0, 1)) (am_lf (73, .iconst 2, 1))) (am_nd 77 (am_lf (74, .putfield 105, 3)) (am_lf (77, .return_, 1))))) (am_nd 83 (am_nd 81 (am_nd 79 (am_lf (78, .aload_n 0, 1)) (am_lf (79, .bipush 6, 2))) (am_nd 82 (am_lf (81, .iload_n 1, 1)) (am_lf (82, .imul, 1)))) (am_nd 85 (am_nd 84 (am_lf (83, .iload_n 2, 1)) (am_lf (84, .iadd, 1))) (am_nd 86 (am_lf (85, .iload_n 3, 1)) (am_lf (86, .iload_n 3, 1)))))) (am_nd 102 (am_nd 96 (am_nd 91 (am_nd 90 (am_lf (87, .ifCond .ne 7, 3)) (am_lf (90, .iconst 0, 1))) (am_nd 94 (am_lf (91, .goto 5, 3)) (am_lf (94, .iload 4, 2)))) (am_nd 98 (am_nd 97 (am_lf (96, .iload_n 3, 1)) (am_lf (97, .iconst 2, 1))) (am_nd 101 (am_lf (98, .if_icmp .ne 7, 3)) (am_lf (101, .iconst 0, 1))))) (am_nd 109 (am_nd 107 (am_nd 105 (am_lf (102, .goto 5, 3)) (am_lf (105, .iload 5, 2))) (am_nd 108 (am_lf (107, .iload_n 3, 1)) (am_lf (108, .iconst 1, 1)))) (am_nd 114 (am_nd 112 (am_lf (109, .if_icmp .ne 8, 3)) (am_lf (112, .iload 6, 2))) (am_nd 117 (am_lf (114, .goto 4, 3)) (am_lf (117, .iconst 0, 1)))))))
def am_c158_2 : am_T am_E 5 := (am_nd 1000000 (am_nd 1000000 (am_nd 1000000 (am_nd 122 (am_nd 121 (am_lf (118, .invokevirtual 112, 3)) (am_lf (121, .aload_n 0, 1))) (am_nd 125 (am_lf (122, .invokevirtual 116, 3)) (am_lf (125, .return_, 1)))) (am_nd 1000000 (am_nd 1000000 (am_lf (125, .return_, 1)) (am_lf (125, .return_, 1))) (am_nd 1000000 (am_lf (125, .return_, 1)) (am_lf (125, .return_, 1))))) (am_nd 1000000 (am_nd 1000000 (am_nd 1000000 (am_lf (125, .return_, 1)) (am_lf (125, .return_, 1))) (am_nd 1000000 (am_lf (125, .return_, 1)) (am_lf (125, .return_, 1)))) (am_nd 1000000 (am_nd 1000000 (am_lf (125, .return_, 1)) (am_lf (125, .return_, 1))) (am_nd 1000000 (am_lf (125, .return_, 1)) (am_lf (125, .return_, 1)))))) (am_nd 1000000 (am_nd 1000000 (am_nd 1000000 (am_nd 1000000 (am_lf (125, .return_, 1)) (am_lf (125, .return_, 1))) (am_nd 1000000 (am_lf (125, .return_, 1)) (am_lf (125, .return_, 1)))) (am_nd 1000000 (am_nd 1000000 (am_lf (125, .return_, 1)) (am_lf (125, .return_, 1))) (am_nd 1000000 (am_lf (125, .return_, 1)) (am_lf (125, .return_, 1))))) (am_nd 1000000 (am_nd 1000000 (am_nd 1000000 (am_lf (125, .return_, 1)) (am_lf (125, .return_, 1))) (am_nd 1000000 (am_lf (125, .return_, 1)) (am_lf (125, .return_, 1)))) (am_nd 1000000 (am_nd 1000000 (am_lf (125, .return_, 1)) (am_lf (125, .return_, 1))) (am_nd 1000000 (am_lf (125, .return_, 1)) (am_lf (125, .return_, 1)))))))
def am_c158_3 : am_T am_E 5 := (am_nd 1000000 (am_nd 1000000 (am_nd 1000000 (am_nd 1000000 (am_nd 1000000 (am_lf (125, .return_, 1)) (am_lf (125, .return_, 1))) (am_nd 1000000 (am_lf (125, .return_, 1)) (am_lf (125, .return_, 1)))) (am_nd 1000000 (am_nd 1000000 (am_lf (125, .return_, 1)) (am_lf (125, .return_, 1))) (am_nd 1000000 (am_lf (125, .return_, 1)) (am_lf (125, .return_, 1))))) (am_nd 1000000 (am_nd 1000000 (am_nd 1000000 (am_lf (125, .return_, 1)) (am_lf (125, .return_, 1))) (am_nd 1000000 (am_lf (125, .return_, 1)) (am_lf (125, .return_, 1)))) (am_nd 1000000 (am_nd 1000000 (am_lf (125, .return_, 1)) (am_lf (125, .return_, 1))) (am_nd 1000000 (am_lf (125, .return_, 1)) (am_lf (125, .return_, 1)))))) (am_nd 1000000 (am_nd 1000000 (am_nd 1000000 (am_nd 1000000 (am_lf (125, .return_, 1)) (am_lf (125, .return_, 1))) (am_nd 1000000 (am_lf (125, .return_, 1)) (am_lf (125, .return_, 1)))) (am_nd 1000000 (am_nd 1000000 (am_lf (125, .return_, 1)) (am_lf (125, .return_, 1))) (am_nd 1000000 (am_lf (125, .return_, 1)) (am_lf (125, .return_, 1))))) (am_nd 1000000 (am_nd 1000000 (am_nd 1000000 (am_lf (125, .return_, 1)) (am_lf (125, .return_, 1))) (am_nd 1000000 (am_lf (125, .return_, 1)) (am_lf (125, .return_, 1)))) (am_nd 1000000 (am_nd 1000000 (am_lf (125, .return_, 1)) (am_lf (125, .return_, 1))) (am_nd 1000000 (am_lf (125, .return_, 1)) (am_lf (125, .return_, 1)))))))
def am_c158 : am_T am_E 7 := (am_nd 118 (am_nd 62 am_c158_0 am_c158_1) (am_nd 1000000 am_c158_2 am_c158_3))
def am_c159 : am_T am_E 5 := (am_nd 30 (am_nd 14 (am_nd 6 (am_nd 2 (am_nd 1 (am_lf (0, .aload_n 0, 1)) (am_lf (1, .iload_n 1, 1))) (am_nd 3 (am_lf (2, .iconst 2, 1)) (am_lf (3, .invokestatic 108, 3)))) (am_nd 10 (am_nd 9 (am_lf (6, .ifCond .eq 7, 3)) (am_lf (9, .iconst 1, 1))) (am_nd 13 (am_lf (10, .goto 4, 3)) (am_lf (13, .iconst 0, 1))))) (am_nd 24 (am_nd 18 (am_nd 17 (am_lf (14, .putfield 105, 3)) (am_lf (17, .aload_n 0, 1))) (am_nd 21 (am_lf (18, .getfield 105, 3)) (am_lf (21, .ifCond .le 4, 3)))) (am_nd 26 (am_nd 25 (am_lf (24, .return_, 1)) (am_lf (25, .aload_n 0, 1))) (am_nd 29 (am_lf (26, .getfield 7, 3)) (am_lf (29, .iload_n 1, 1)))))) (am_nd 1000000 (am_nd 36 (am_nd 32 (am_nd 31 (am_lf (30, .iconst 0, 1)) (am_lf (31, .iastore, 1))) (am_nd 33 (am_lf (32, .aload_n 0, 1)) (am_lf (33, .invokevirtual 116, 3)))) (am_nd 1000000 (am_nd 1000000 (am_lf (36, .return_, 1)) (am_lf (36, .return_, 1))) (am_nd 1000000 (am_lf (36, .return_, 1)) (am_lf (36, .return_, 1))))) (am_nd 1000000 (am_nd 1000000 (am_nd 1000000 (am_lf (36, .return_, 1)) (am_lf (36, .return_, 1))) (am_nd 1000000 (am_lf (36, .return_, 1)) (am_lf (36, .return_, 1)))) (am_nd 1000000 (am_nd 1000000 (am_lf (36, .return_, 1)) (am_lf (36, .return_, 1))) (am_nd 1000000 (am_lf (36, .return_, 1)) (am_lf (36, .return_, 1)))))))
def am_c160 : am_T am_E 4 := (am_nd 12 (am_nd 6 (am_nd 2 (am_nd 1 (am_lf (0, .aload_n 0, 1)) (am_lf (1, .iconst 0, 1))) (am_nd 5 (am_lf (2, .putfield 105, 3)) (am_lf (5, .aload_n 0, 1)))) (am_nd 8 (am_nd 7 (am_lf (6, .iconst 1, 1)) (am_lf (7, .iconst 0, 1))) (am_nd 11 (am_lf (8, .invokevirtual 139, 3)) (am_lf (11, .aload_n 0, 1))))) (am_nd 1000000 (am_nd 1000000 (am_nd 15 (am_lf (12, .invokevirtual 116, 3)) (am_lf (15, .return_, 1))) (am_nd 1000000 (am_lf (15, .return_, 1)) (am_lf (15, .return_, 1)))) (am_nd 1000000 (am_nd 1000000 (am_lf (15, .return_, 1)) (am_lf (15, .return_, 1))) (am_nd 1000000 (am_lf (15, .return_, 1)) (am_lf (15, .return_, 1))))))
def am_c161_0 : am_T am_E 5 := (am_nd 26 (am_nd 12 (am_nd 6 (am_nd 4 (am_nd 1 (am_lf (0, .aload_n 0, 1)) (am_lf (1, .getfield 7, 3))) (am_nd 5 (am_lf (4, .iload_n 2, 1)) (am_lf (5, .aload_n 0, 1)))) (am_nd 10 (am_nd 9 (am_lf (6, .getfield 7, 3)) (am_lf (9, .iload_n 1, 1))) (am_nd 11 (am_lf (10, .iaload, 1)) (am_lf (11, .iastore, 1))))) (am_nd 17 (am_nd 14 (am_nd 13 (am_lf (12, .iconst 0, 1)) (am_lf (13, .istore_n 3, 1))) (am_nd 15 (am_lf (14, .iload_n 3, 1)) (am_lf (15, .bipush 6, 2)))) (am_nd 21 (am_nd 20 (am_lf (17, .if_icmp .ge 31, 3)) (am_lf (20, .aload_n 0, 1))) (am_nd 24 (am_lf (21, .getfield 13, 3)) (am_lf (24, .bipush 6, 2)))))) (am_nd 37 (am_nd 30 (am_nd 28 (am_nd 27 (am_lf (26, .iload_n 2, 1)) (am_lf (27, .imul, 1))) (am_nd 29 (am_lf (28, .iload_n 3, 1)) (am_lf (29, .iadd, 1)))) (am_nd 34 (am_nd 31 (am_lf (30, .aload_n 0, 1)) (am_lf (31, .getfield 13, 3))) (am_nd 36 (am_lf (34, .bipush 6, 2)) (am_lf (36, .iload_n 1, 1))))) (am_nd 41 (am_nd 39 (am_nd 38 (am_lf (37, .imul, 1)) (am_lf (38, .iload_n 3, 1))) (am_nd 40 (am_lf (39, .iadd, 1)) (am_lf (40, .iaload, 1)))) (am_nd 45 (am_nd 42 (am_lf (41, .iastore, 1)) (am_lf (42, .iinc 3 1, 3))) (am_nd 48 (am_lf (45, .goto (-31), 3)) (am_lf (48, .iconst 0, 1)))))))
def am_c161_1 : am_T am_E 5 := (am_nd 77 (am_nd 65 (am_nd 57 (am_nd 51 (am_nd 50 (am_lf (49, .istore_n 3, 1)) (am_lf (50, .iload_n 3, 1))) (am_nd 54 (am_lf (51, .sipush 192, 3)) (am_lf (54, .if_icmp .ge 33, 3)))) (am_nd 61 (am_nd 58 (am_lf (57, .aload_n 0, 1)) (am_lf (58, .getfield 16, 3))) (am_nd 64 (am_lf (61, .sipush 192, 3)) (am_lf (64, .iload_n 2, 1))))) (am_nd 69 (am_nd 67 (am_nd 66 (am_lf (65, .imul, 1)) (am_lf (66, .iload_n 3, 1))) (am_nd 68 (am_lf (67, .iadd, 1)) (am_lf (68, .aload_n 0, 1)))) (am_nd 75 (am_nd 72 (am_lf (69, .getfield 16, 3)) (am_lf (72, .sipush 192, 3))) (am_nd 76 (am_lf (75, .iload_n 1, 1)) (am_lf (76, .imul, 1)))))) (am_nd 89 (am_nd 81 (am_nd 79 (am_nd 78 (am_lf (77, .iload_n 3, 1)) (am_lf (78, .iadd, 1))) (am_nd 80 (am_lf (79, .iaload, 1)) (am_lf (80, .iastore, 1)))) (am_nd 87 (am_nd 84 (am_lf (81, .iinc 3 1, 3)) (am_lf (84, .goto (-34), 3))) (am_nd 88 (am_lf (87, .iconst 0, 1)) (am_lf (88, .istore_n 3, 1))))) (am_nd 96 (am_nd 92 (am_nd 90 (am_lf (89, .iload_n 3, 1)) (am_lf (90, .bipush 24, 2))) (am_nd 95 (am_lf (92, .if_icmp .ge 31, 3)) (am_lf (95, .aload_n 0, 1)))) (am_nd 101 (am_nd 99 (am_lf (96, .getfield 19, 3)) (am_lf (99, .bipush 24, 2))) (am_nd 102 (am_lf (101, .iload_n 2, 1)) (am_lf (102, .imul, 1)))))))
def am_c161_2 : am_T am_E 5 := (am_nd 1000000 (am_nd 114 (am_nd 109 (am_nd 105 (am_nd 104 (am_lf (103, .iload_n 3, 1)) (am_lf (104, .iadd, 1))) (am_nd 106 (am_lf (105, .aload_n 0, 1)) (am_lf (106, .getfield 19, 3)))) (am_nd 112 (am_nd 111 (am_lf (109, .bipush 24, 2)) (am_lf (111, .iload_n 1, 1))) (am_nd 113 (am_lf (112, .imul, 1)) (am_lf (113, .iload_n 3, 1))))) (am_nd 120 (am_nd 116 (am_nd 115 (am_lf (114, .iadd, 1)) (am_lf (115, .iaload, 1))) (am_nd 117 (am_lf (116, .iastore, 1)) (am_lf (117, .iinc 3 1, 3)))) (am_nd 1000000 (am_nd 123 (am_lf (120, .goto (-31), 3)) (am_lf (123, .return_, 1))) (am_nd 1000000 (am_lf (123, .return_, 1)) (am_lf (123, .return_, 1)))))) (am_nd 1000000 (am_nd 1000000 (am_nd 1000000 (am_nd 1000000 (am_lf (123, .return_, 1)) (am_lf (123, .return_, 1))) (am_nd 1000000 (am_lf (123, .return_, 1)) (am_lf (123, .return_, 1)))) (am_nd 1000000 (am_nd 1000000 (am_lf (123, .return_, 1)) (am_lf (123, .return_, 1))) (am_nd 1000000 (am_lf (123, .return_, 1)) (am_lf (123, .return_, 1))))) (am_nd 1000000 (am_nd 1000000 (am_nd 1000000 (am_lf (123, .return_, 1)) (am_lf (123, .return_, 1))) (am_nd 1000000 (am_lf (123, .return_, 1)) (am_lf (123, .return_, 1)))) (am_nd 1000000 (am_nd 1000000 (am_lf (123, .return_, 1)) (am_lf (123, .return_, 1))) (am_nd 1000000 (am_lf (123, .return_, 1)) (am_lf (123, .return_, 1)))))))
def am_c161_3 : am_T am_E 5 := (am_nd 1000000 (am_nd 1000000 (am_nd 1000000 (am_nd 1000000 (am_nd 1000000 (am_lf (123, .return_, 1)) (am_lf (123, .return_, 1))) (am_nd 1000000 (am_lf (123, .return_, 1)) (am_lf (123, .return_, 1)))) (am_nd 1000000 (am_nd 1000000 (am_lf (123, .return_, 1)) (am_lf (123, .return_, 1))) (am_nd 1000000 (am_lf (123, .return_, 1)) (am_lf (123, .return_, 1))))) (am_nd 1000000 (am_nd 1000000 (am_nd 1000000 (am_lf (123, .return_, 1)) (am_lf (123, .return_, 1))) (am_nd 1000000 (am_lf (123, .return_, 1)) (am_lf (123, .return_, 1)))) (am_nd 1000000 (am_nd 1000000 (am_lf (123, .return_, 1)) (am_lf (123, .return_, 1))) (am_nd 1000000 (am_lf (123, .return_, 1)) (am_lf (123, .return_, 1)))))) (am_nd 1000000 (am_nd 1000000 (am_nd 1000000 (am_nd 1000000 (am_lf (123, .return_, 1)) (am_lf (123, .return_, 1))) (am_nd 1000000 (am_lf (123, .return_, 1)) (am_lf (123, .return_, 1)))) (am_nd 1000000 (am_nd 1000000 (am_lf (123, .return_, 1)) (am_lf (123, .return_, 1))) (am_nd 1000000 (am_lf (123, .return_, 1)) (am_lf (123, .return_, 1))))) (am_nd 1000000 (am_nd 1000000 (am_nd 1000000 (am_lf (123, .return_, 1)) (am_lf (123, .return_, 1))) (am_nd 1000000 (am_lf (123, .return_, 1)) (am_lf (123, .return_, 1)))) (am_nd 1000000 (am_nd 1000000 (am_lf (123, .return_, 1)) (am_lf (123, .return_, 1))) (am_nd 1000000 (am_lf (123, .return_, 1)) (am_lf (123, .return_, 1)))))))
def am_c161 : am_T am_E 7 := (am_nd 103 (am_nd 49 am_c161_0 am_c161_1) (am_nd 1000000 am_c161_2 am_c161_3))
def am_c162_0 : am_T am_E 5 := (am_nd 25 (am_nd 12 (am_nd 4 (am_nd 2 (am_nd 1 (am_lf (0, .aload_n 0, 1)) (am_lf (1, .aload_n 0, 1))) (am_nd 3 (am_lf (2, .iload_n 1, 1)) (am_lf (3, .iload_n 2, 1)))) (am_nd 10 (am_nd 7 (am_lf (4, .invokevirtual 129, 3)) (am_lf (7, .ifCond .eq 21, 3))) (am_nd 11 (am_lf (10, .iload_n 3, 1)) (am_lf (11, .aload_n 0, 1))))) (am_nd 19 (am_nd 17 (am_nd 15 (am_lf (12, .getfield 13, 3)) (am_lf (15, .bipush 6, 2))) (am_nd 18 (am_lf (17, .iload_n 1, 1)) (am_lf (18, .imul, 1)))) (am_nd 21 (am_nd 20 (am_lf (19, .iload_n 2, 1)) (am_lf (20, .iadd, 1))) (am_nd 22 (am_lf (21, .iaload, 1)) (am_lf (22, .invokestatic 108, 3)))))) (am_nd 42 (am_nd 34 (am_nd 29 (am_nd 28 (am_lf (25, .ifCond .eq 7, 3)) (am_lf (28, .iconst 1, 1))) (am_nd 32 (am_lf (29, .goto 17, 3)) (am_lf (32, .iload 4, 2)))) (am_nd 38 (am_nd 35 (am_lf (34, .iconst 4, 1)) (am_lf (35, .invokestatic 108, 3))) (am_nd 41 (am_lf (38, .ifCond .eq 7, 3)) (am_lf (41, .iconst 2, 1))))) (am_nd 50 (am_nd 46 (am_nd 45 (am_lf (42, .goto 4, 3)) (am_lf (45, .iconst 0, 1))) (am_nd 49 (am_lf (46, .putfield 105, 3)) (am_lf (49, .aload_n 0, 1)))) (am_nd 56 (am_nd 53 (am_lf (50, .getfield 105, 3)) (am_lf (53, .ifCond .le 7, 3))) (am_nd 57 (am_lf (56, .iconst 0, 1)) (am_lf (57, .goto 24, 3)))))))
def am_c162_1 : am_T am_E 5 := (am_nd 81 (am_nd 72 (am_nd 68 (am_nd 64 (am_nd 61 (am_lf (60, .aload_n 0, 1)) (am_lf (61, .getfield 16, 3))) (am_nd 66 (am_lf (64, .bipush 32, 2)) (am_lf (66, .bipush 6, 2)))) (am_nd 70 (am_nd 69 (am_lf (68, .iload_n 1, 1)) (am_lf (69, .imul, 1))) (am_nd 71 (am_lf (70, .iload_n 2, 1)) (am_lf (71, .iadd, 1))))) (am_nd 76 (am_nd 74 (am_nd 73 (am_lf (72, .imul, 1)) (am_lf (73, .iconst 4, 1))) (am_nd 75 (am_lf (74, .iload_n 3, 1)) (am_lf (75, .imul, 1)))) (am_nd 79 (am_nd 77 (am_lf (76, .iadd, 1)) (am_lf (77, .iload 4, 2))) (am_nd 80 (am_lf (79, .iadd, 1)) (am_lf (80, .iaload, 1)))))) (am_nd 1000000 (am_nd 1000000 (am_nd 1000000 (am_nd 1000000 (am_lf (81, .ireturn, 1)) (am_lf (81, .ireturn, 1))) (am_nd 1000000 (am_lf (81, .ireturn, 1)) (am_lf (81, .ireturn, 1)))) (am_nd 1000000 (am_nd 1000000 (am_lf (81, .ireturn, 1)) (am_lf (81, .ireturn, 1))) (am_nd 1000000 (am_lf (81, .ireturn, 1)) (am_lf (81, .ireturn, 1))))) (am_nd 1000000 (am_nd 1000000 (am_nd 1000000 (am_lf (81, .ireturn, 1)) (am_lf (81, .ireturn, 1))) (am_nd 1000000 (am_lf (81, .ireturn, 1)) (am_lf (81, .ireturn, 1)))) (am_nd 1000000 (am_nd 1000000 (am_lf (81, .ireturn, 1)) (am_lf (81, .ireturn, 1))) (am_nd 1000000 (am_lf (81, .ireturn, 1)) (am_lf (81, .ireturn, 1)))))))
def am_c162 : am_T am_E 6 := (am_nd 60 am_c162_0 am_c162_1)
def am_c163_0 : am_T am_E 5 := (am_nd 30 (am_nd 14 (am_nd 4 (am_nd 2 (am_nd 1 (am_lf (0, .aload_n 0, 1)) (am_lf (1, .aload_n 0, 1))) (am_nd 3 (am_lf (2, .iload_n 1, 1)) (am_lf (3, .iload_n 2, 1)))) (am_nd 10 (am_nd 7 (am_lf (4, .invokevirtual 129, 3)) (am_lf (7, .ifCond .ne 7, 3))) (am_nd 11 (am_lf (10, .iconst 1, 1)) (am_lf (11, .goto 16, 3))))) (am_nd 22 (am_nd 16 (am_nd 15 (am_lf (14, .iload_n 3, 1)) (am_lf (15, .iconst 5, 1))) (am_nd 19 (am_lf (16, .invokestatic 108, 3)) (am_lf (19, .ifCond .eq 7, 3)))) (am_nd 26 (am_nd 23 (am_lf (22, .iconst 2, 1)) (am_lf (23, .goto 4, 3))) (am_nd 27 (am_lf (26, .iconst 0, 1)) (am_lf (27, .putfield 105, 3)))))) (am_nd 44 (am_nd 38 (am_nd 34 (am_nd 31 (am_lf (30, .aload_n 0, 1)) (am_lf (31, .getfield 105, 3))) (am_nd 37 (am_lf (34, .ifCond .le 5, 3)) (am_lf (37, .iconst 0, 1)))) (am_nd 40 (am_nd 39 (am_lf (38, .ireturn, 1)) (am_lf (39, .iload_n 3, 1))) (am_nd 41 (am_lf (40, .iconst 4, 1)) (am_lf (41, .if_icmp .ne 17, 3))))) (am_nd 51 (am_nd 48 (am_nd 45 (am_lf (44, .aload_n 0, 1)) (am_lf (45, .getfield 13, 3))) (am_nd 50 (am_lf (48, .bipush 6, 2)) (am_lf (50, .iload_n 1, 1)))) (am_nd 53 (am_nd 52 (am_lf (51, .imul, 1)) (am_lf (52, .iload_n 2, 1))) (am_nd 54 (am_lf (53, .iadd, 1)) (am_lf (54, .iaload, 1)))))))
def am_c163_1 : am_T am_E 5 := (am_nd 1000000 (am_nd 68 (am_nd 63 (am_nd 59 (am_nd 58 (am_lf (55, .goto 18, 3)) (am_lf (58, .aload_n 0, 1))) (am_nd 62 (am_lf (59, .getfield 19, 3)) (am_lf (62, .iconst 4, 1)))) (am_nd 66 (am_nd 65 (am_lf (63, .bipush 6, 2)) (am_lf (65, .iload_n 1, 1))) (am_nd 67 (am_lf (66, .imul, 1)) (am_lf (67, .iload_n 2, 1))))) (am_nd 72 (am_nd 70 (am_nd 69 (am_lf (68, .iadd, 1)) (am_lf (69, .imul, 1))) (am_nd 71 (am_lf (70, .iload_n 3, 1)) (am_lf (71, .iadd, 1)))) (am_nd 1000000 (am_nd 73 (am_lf (72, .iaload, 1)) (am_lf (73, .ireturn, 1))) (am_nd 1000000 (am_lf (73, .ireturn, 1)) (am_lf (73, .ireturn, 1)))))) (am_nd 1000000 (am_nd 1000000 (am_nd 1000000 (am_nd 1000000 (am_lf (73, .ireturn, 1)) (am_lf (73, .ireturn, 1))) (am_nd 1000000 (am_lf (73, .ireturn, 1)) (am_lf (73, .ireturn, 1)))) (am_nd 1000000 (am_nd 1000000 (am_lf (73, .ireturn, 1)) (am_lf (73, .ireturn, 1))) (am_nd 1000000 (am_lf (73, .ireturn, 1)) (am_lf (73, .ireturn, 1))))) (am_nd 1000000 (am_nd 1000000 (am_nd 1000000 (am_lf (73, .ireturn, 1)) (am_lf (73, .ireturn, 1))) (am_nd 1000000 (am_lf (73, .ireturn, 1)) (am_lf (73, .ireturn, 1)))) (am_nd 1000000 (am_nd 1000000 (am_lf (73, .ireturn, 1)) (am_lf (73, .ireturn, 1))) (am_nd 1000000 (am_lf (73, .ireturn, 1)) (am_lf (73, .ireturn, 1)))))))
def am_c163 : am_T am_E 6 := (am_nd 55 am_c163_0 am_c163_1)
def am_c164_0 : am_T am_E 5 := (am_nd 28 (am_nd 14 (am_nd 6 (am_nd 2 (am_nd 1 (am_lf (0, .aload_n 0, 1)) (am_lf (1, .iload_n 1, 1))) (am_nd 3 (am_lf (2, .iconst 3, 1)) (am_lf (3, .invokestatic 108, 3)))) (am_nd 10 (am_nd 9 (am_lf (6, .ifCond .eq 7, 3)) (am_lf (9, .iconst 1, 1))) (am_nd 13 (am_lf (10, .goto 4, 3)) (am_lf (13, .iconst 0, 1))))) (am_nd 24 (am_nd 18 (am_nd 17 (am_lf (14, .putfield 105, 3)) (am_lf (17, .aload_n 0, 1))) (am_nd 21 (am_lf (18, .getfield 105, 3)) (am_lf (21, .ifCond .le 5, 3)))) (am_nd 26 (am_nd 25 (am_lf (24, .iconst 0, 1)) (am_lf (25, .ireturn, 1))) (am_nd 27 (am_lf (26, .aload_n 0, 1)) (am_lf (27, .iconst 0, 1)))))) (am_nd 38 (am_nd 34 (am_nd 32 (am_nd 29 (am_lf (28, .iconst 1, 1)) (am_lf (29, .invokevirtual 139, 3))) (am_nd 33 (am_lf (32, .iconst 0, 1)) (am_lf (33, .istore_n 2, 1)))) (am_nd 36 (am_nd 35 (am_lf (34, .iconst 0, 1)) (am_lf (35, .istore_n 3, 1))) (am_nd 37 (am_lf (36, .iload_n 3, 1)) (am_lf (37, .aload_n 0, 1))))) (am_nd 46 (am_nd 42 (am_nd 41 (am_lf (38, .getfield 7, 3)) (am_lf (41, .iconst 0, 1))) (am_nd 43 (am_lf (42, .iaload, 1)) (am_lf (43, .if_icmp .ge 47, 3)))) (am_nd 50 (am_nd 47 (am_lf (46, .iload_n 1, 1)) (am_lf (47, .ifCond .ne 11, 3))) (am_nd 51 (am_lf (50, .aload_n 0, 1)) (am_lf (51, .iload_n 3, 1)))))))
def am_c164_1 : am_T am_E 5 := (am_nd 82 (am_nd 68 (am_nd 60 (am_nd 58 (am_nd 55 (am_lf (52, .invokevirtual 143, 3)) (am_lf (55, .goto 21, 3))) (am_nd 59 (am_lf (58, .iload_n 1, 1)) (am_lf (59, .iconst 1, 1)))) (am_nd 64 (am_nd 63 (am_lf (60, .if_icmp .ne 11, 3)) (am_lf (63, .aload_n 0, 1))) (am_nd 65 (am_lf (64, .iload_n 3, 1)) (am_lf (65, .invokevirtual 147, 3))))) (am_nd 76 (am_nd 72 (am_nd 71 (am_lf (68, .goto 8, 3)) (am_lf (71, .aload_n 0, 1))) (am_nd 73 (am_lf (72, .iload_n 3, 1)) (am_lf (73, .invokevirtual 150, 3)))) (am_nd 78 (am_nd 77 (am_lf (76, .iload_n 2, 1)) (am_lf (77, .aload_n 0, 1))) (am_nd 79 (am_lf (78, .iload_n 3, 1)) (am_lf (79, .invokevirtual 153, 3)))))) (am_nd 1000000 (am_nd 90 (am_nd 84 (am_nd 83 (am_lf (82, .iadd, 1)) (am_lf (83, .istore_n 2, 1))) (am_nd 87 (am_lf (84, .iinc 3 1, 3)) (am_lf (87, .goto (-51), 3)))) (am_nd 94 (am_nd 91 (am_lf (90, .aload_n 0, 1)) (am_lf (91, .invokevirtual 116, 3))) (am_nd 95 (am_lf (94, .iload_n 2, 1)) (am_lf (95, .ireturn, 1))))) (am_nd 1000000 (am_nd 1000000 (am_nd 1000000 (am_lf (95, .ireturn, 1)) (am_lf (95, .ireturn, 1))) (am_nd 1000000 (am_lf (95, .ireturn, 1)) (am_lf (95, .ireturn, 1)))) (am_nd 1000000 (am_nd 1000000 (am_lf (95, .ireturn, 1)) (am_lf (95, .ireturn, 1))) (am_nd 1000000 (am_lf (95, .ireturn, 1)) (am_lf (95, .ireturn, 1)))))))
def am_c164 : am_T am_E 6 := (am_nd 52 am_c164_0 am_c164_1)
def am_c165_0 : am_T am_E 5 := (am_nd 25 (am_nd 13 (am_nd 5 (am_nd 2 (am_nd 1 (am_lf (0, .iconst 0, 1)) (am_lf (1, .istore_n 2, 1))) (am_nd 3 (am_lf (2, .iload_n 2, 1)) (am_lf (3, .bipush 6, 2)))) (am_nd 9 (am_nd 8 (am_lf (5, .if_icmp .ge 16, 3)) (am_lf (8, .aload_n 0, 1))) (am_nd 12 (am_lf (9, .getfield 83, 3)) (am_lf (12, .iload_n 2, 1))))) (am_nd 21 (am_nd 15 (am_nd 14 (am_lf (13, .iconst 0, 1)) (am_lf (14, .bastore, 1))) (am_nd 18 (am_lf (15, .iinc 2 1, 3)) (am_lf (18, .goto (-16), 3)))) (am_nd 23 (am_nd 22 (am_lf (21, .iconst 0, 1)) (am_lf (22, .istore_n 2, 1))) (am_nd 24 (am_lf (23, .iload_n 2, 1)) (am_lf (24, .aload_n 0, 1)))))) (am_nd 40 (am_nd 33 (am_nd 29 (am_nd 28 (am_lf (25, .getfield 13, 3)) (am_lf (28, .iload_n 1, 1))) (am_nd 30 (am_lf (29, .iaload, 1)) (am_lf (30, .if_icmp .ge 232, 3)))) (am_nd 38 (am_nd 36 (am_lf (33, .sipush 192, 3)) (am_lf (36, .bipush 32, 2))) (am_nd 39 (am_lf (38, .iload_n 1, 1)) (am_lf (39, .imul, 1))))) (am_nd 44 (am_nd 42 (am_nd 41 (am_lf (40, .iadd, 1)) (am_lf (41, .iconst 4, 1))) (am_nd 43 (am_lf (42, .iload_n 2, 1)) (am_lf (43, .imul, 1)))) (am_nd 46 (am_nd 45 (am_lf (44, .iadd, 1)) (am_lf (45, .istore_n 3, 1))) (am_nd 47 (am_lf (46, .aload_n 0, 1)) (am_lf (47, .getfield 16, 3)))))))
def am_c165_1 : am_T am_E 5 := (am_nd 72 (am_nd 61 (am_nd 55 (am_nd 52 (am_nd 51 (am_lf (50, .iload_n 3, 1)) (am_lf (51, .iaload, 1))) (am_nd 54 (am_lf (52, .istore 4, 2)) (am_lf (54, .aload_n 0, 1)))) (am_nd 59 (am_nd 58 (am_lf (55, .getfield 16, 3)) (am_lf (58, .iload_n 3, 1))) (am_nd 60 (am_lf (59, .iconst 2, 1)) (am_lf (60, .iadd, 1))))) (am_nd 68 (am_nd 64 (am_nd 62 (am_lf (61, .iaload, 1)) (am_lf (62, .istore 5, 2))) (am_nd 65 (am_lf (64, .aload_n 0, 1)) (am_lf (65, .getfield 16, 3)))) (am_nd 70 (am_nd 69 (am_lf (68, .iload_n 3, 1)) (am_lf (69, .iconst 3, 1))) (am_nd 71 (am_lf (70, .iadd, 1)) (am_lf (71, .iaload, 1)))))) (am_nd 89 (am_nd 81 (am_nd 76 (am_nd 74 (am_lf (72, .istore 6, 2)) (am_lf (74, .iload 4, 2))) (am_nd 79 (am_lf (76, .ifCond .eq 69, 3)) (am_lf (79, .iload 4, 2)))) (am_nd 85 (am_nd 82 (am_lf (81, .iconst 1, 1)) (am_lf (82, .if_icmp .ne 13, 3))) (am_nd 86 (am_lf (85, .aload_n 0, 1)) (am_lf (86, .getfield 83, 3))))) (am_nd 97 (am_nd 92 (am_nd 91 (am_lf (89, .iload 5, 2)) (am_lf (91, .baload, 1))) (am_nd 95 (am_lf (92, .ifCond .ne 53, 3)) (am_lf (95, .iload 4, 2)))) (am_nd 101 (am_nd 98 (am_lf (97, .iconst 1, 1)) (am_lf (98, .if_icmp .le 51, 3))) (am_nd 103 (am_lf (101, .iload 4, 2)) (am_lf (103, .bipush 8, 2)))))))
def am_c165_2 : am_T am_E 5 := (am_nd 139 (am_nd 122 (am_nd 114 (am_nd 109 (am_nd 108 (am_lf (105, .if_icmp .ge 44, 3)) (am_lf (108, .aload_n 0, 1))) (am_nd 112 (am_lf (109, .getfield 83, 3)) (am_lf (112, .iload 5, 2)))) (am_nd 118 (am_nd 115 (am_lf (114, .baload, 1)) (am_lf (115, .ifCond .eq 34, 3))) (am_nd 119 (am_lf (118, .aload_n 0, 1)) (am_lf (119, .getfield 83, 3))))) (am_nd 130 (am_nd 125 (am_nd 124 (am_lf (122, .iload 6, 2)) (am_lf (124, .baload, 1))) (am_nd 128 (am_lf (125, .ifCond .eq 24, 3)) (am_lf (128, .iload 4, 2)))) (am_nd 135 (am_nd 132 (am_lf (130, .bipush 7, 2)) (am_lf (132, .if_icmp .ne 13, 3))) (am_nd 136 (am_lf (135, .aload_n 0, 1)) (am_lf (136, .getfield 87, 3)))))) (am_nd 154 (am_nd 146 (am_nd 142 (am_nd 141 (am_lf (139, .iload 6, 2)) (am_lf (141, .iaload, 1))) (am_nd 145 (am_lf (142, .ifCond .eq 7, 3)) (am_lf (145, .iconst 1, 1)))) (am_nd 150 (am_nd 149 (am_lf (146, .goto 4, 3)) (am_lf (149, .iconst 0, 1))) (am_nd 152 (am_lf (150, .istore 7, 2)) (am_lf (152, .iload 4, 2))))) (am_nd 163 (am_nd 159 (am_nd 156 (am_lf (154, .bipush 9, 2)) (am_lf (156, .if_icmp .ne 6, 3))) (am_nd 162 (am_lf (159, .goto 97, 3)) (am_lf (162, .aload_n 0, 1)))) (am_nd 167 (am_nd 166 (am_lf (163, .getfield 16, 3)) (am_lf (166, .iload_n 3, 1))) (am_nd 168 (am_lf (167, .iconst 1, 1)) (am_lf (168, .iadd, 1)))))))
def am_c165_3 : am_T am_E 5 := (am_nd 202 (am_nd 186 (am_nd 177 (am_nd 172 (am_nd 170 (am_lf (169, .iaload, 1)) (am_lf (170, .istore 8, 2))) (am_nd 174 (am_lf (172, .iload 7, 2)) (am_lf (174, .ifCond .ne 7, 3)))) (am_nd 181 (am_nd 178 (am_lf (177, .iconst 0, 1)) (am_lf (178, .goto 42, 3))) (am_nd 183 (am_lf (181, .iload 4, 2)) (am_lf (183, .ifCond .ne 8, 3))))) (am_nd 194 (am_nd 191 (am_nd 188 (am_lf (186, .iload 6, 2)) (am_lf (188, .goto 32, 3))) (am_nd 193 (am_lf (191, .iload 4, 2)) (am_lf (193, .aload_n 0, 1)))) (am_nd 199 (am_nd 197 (am_lf (194, .getfield 87, 3)) (am_lf (197, .iload 5, 2))) (am_nd 200 (am_lf (199, .iaload, 1)) (am_lf (200, .iload 4, 2)))))) (am_nd 217 (am_nd 210 (am_nd 206 (am_nd 203 (am_lf (202, .iconst 1, 1)) (am_lf (203, .if_icmp .ne 7, 3))) (am_nd 207 (am_lf (206, .iconst 0, 1)) (am_lf (207, .goto 10, 3)))) (am_nd 214 (am_nd 211 (am_lf (210, .aload_n 0, 1)) (am_lf (211, .getfield 87, 3))) (am_nd 216 (am_lf (214, .iload 6, 2)) (am_lf (216, .iaload, 1))))) (am_nd 227 (am_nd 222 (am_nd 220 (am_lf (217, .invokestatic 156, 3)) (am_lf (220, .istore 9, 2))) (am_nd 224 (am_lf (222, .iload 7, 2)) (am_lf (224, .ifCond .eq 14, 3)))) (am_nd 229 (am_nd 228 (am_lf (227, .aload_n 0, 1)) (am_lf (228, .iload_n 3, 1))) (am_nd 230 (am_lf (229, .iconst 0, 1)) (am_lf (230, .iload 8, 2)))))))
def am_c165_4 : am_T am_E 5 := (am_nd 264 (am_nd 247 (am_nd 239 (am_nd 235 (am_nd 233 (am_lf (232, .iconst 0, 1)) (am_lf (233, .iload 9, 2))) (am_nd 238 (am_lf (235, .invokevirtual 136, 3)) (am_lf (238, .aload_n 0, 1)))) (am_nd 244 (am_nd 242 (am_lf (239, .getfield 83, 3)) (am_lf (242, .iload 8, 2))) (am_nd 246 (am_lf (244, .iload 7, 2)) (am_lf (246, .bastore, 1))))) (am_nd 255 (am_nd 251 (am_nd 248 (am_lf (247, .aload_n 0, 1)) (am_lf (248, .getfield 87, 3))) (am_nd 253 (am_lf (251, .iload 8, 2)) (am_lf (253, .iload 9, 2)))) (am_nd 259 (am_nd 256 (am_lf (255, .iastore, 1)) (am_lf (256, .iinc 2 1, 3))) (am_nd 262 (am_lf (259, .goto (-236), 3)) (am_lf (262, .bipush 24, 2)))))) (am_nd 274 (am_nd 268 (am_nd 266 (am_nd 265 (am_lf (264, .iconst 4, 1)) (am_lf (265, .iload_n 1, 1))) (am_nd 267 (am_lf (266, .imul, 1)) (am_lf (267, .iadd, 1)))) (am_nd 270 (am_nd 269 (am_lf (268, .istore_n 2, 1)) (am_lf (269, .aload_n 0, 1))) (am_nd 273 (am_lf (270, .getfield 19, 3)) (am_lf (273, .iload_n 2, 1))))) (am_nd 280 (am_nd 276 (am_nd 275 (am_lf (274, .iaload, 1)) (am_lf (275, .iconst 1, 1))) (am_nd 279 (am_lf (276, .if_icmp .ne 65, 3)) (am_lf (279, .aload_n 0, 1)))) (am_nd 284 (am_nd 283 (am_lf (280, .getfield 83, 3)) (am_lf (283, .aload_n 0, 1))) (am_nd 287 (am_lf (284, .getfield 19, 3)) (am_lf (287, .iload_n 2, 1)))))))
def am_c165_5 : am_T am_E 5 := (am_nd 311 (am_nd 299 (am_nd 292 (am_nd 290 (am_nd 289 (am_lf (288, .iconst 1, 1)) (am_lf (289, .iadd, 1))) (am_nd 291 (am_lf (290, .iaload, 1)) (am_lf (291, .baload, 1)))) (am_nd 296 (am_nd 295 (am_lf (292, .ifCond .eq 49, 3)) (am_lf (295, .aload_n 0, 1))) (am_nd 298 (am_lf (296, .bipush 6, 2)) (am_lf (298, .iload_n 1, 1))))) (am_nd 303 (am_nd 301 (am_nd 300 (am_lf (299, .iadd, 1)) (am_lf (300, .iconst 0, 1))) (am_nd 302 (am_lf (301, .iconst 0, 1)) (am_lf (302, .aload_n 0, 1)))) (am_nd 307 (am_nd 306 (am_lf (303, .getfield 87, 3)) (am_lf (306, .aload_n 0, 1))) (am_nd 310 (am_lf (307, .getfield 19, 3)) (am_lf (310, .iload_n 2, 1)))))) (am_nd 323 (am_nd 315 (am_nd 313 (am_nd 312 (am_lf (311, .iconst 1, 1)) (am_lf (312, .iadd, 1))) (am_nd 314 (am_lf (313, .iaload, 1)) (am_lf (314, .iaload, 1)))) (am_nd 319 (am_nd 318 (am_lf (315, .ifCond .eq 14, 3)) (am_lf (318, .aload_n 0, 1))) (am_nd 322 (am_lf (319, .getfield 19, 3)) (am_lf (322, .iload_n 2, 1))))) (am_nd 329 (am_nd 325 (am_nd 324 (am_lf (323, .iconst 2, 1)) (am_lf (324, .iadd, 1))) (am_nd 326 (am_lf (325, .iaload, 1)) (am_lf (326, .goto 11, 3)))) (am_nd 333 (am_nd 330 (am_lf (329, .aload_n 0, 1)) (am_lf (330, .getfield 19, 3))) (am_nd 334 (am_lf (333, .iload_n 2, 1)) (am_lf (334, .iconst 3, 1)))))))
def am_c165_6 : am_T am_E 5 := (am_nd 1000000 (am_nd 1000000 (am_nd 341 (am_nd 337 (am_nd 336 (am_lf (335, .iadd, 1)) (am_lf (336, .iaload, 1))) (am_nd 338 (am_lf (337, .iconst 0, 1)) (am_lf (338, .invokevirtual 112, 3)))) (am_nd 1000000 (am_nd 1000000 (am_lf (341, .return_, 1)) (am_lf (341, .return_, 1))) (am_nd 1000000 (am_lf (341, .return_, 1)) (am_lf (341, .return_, 1))))) (am_nd 1000000 (am_nd 1000000 (am_nd 1000000 (am_lf (341, .return_, 1)) (am_lf (341, .return_, 1))) (am_nd 1000000 (am_lf (341, .return_, 1)) (am_lf (341, .return_, 1)))) (am_nd 1000000 (am_nd 1000000 (am_lf (341, .return_, 1)) (am_lf (341, .return_, 1))) (am_nd 1000000 (am_lf (341, .return_, 1)) (am_lf (341, .return_, 1)))))) (am_nd 1000000 (am_nd 1000000 (am_nd 1000000 (am_nd 1000000 (am_lf (341, .return_, 1)) (am_lf (341, .return_, 1))) (am_nd 1000000 (am_lf (341, .return_, 1)) (am_lf (341, .return_, 1)))) (am_nd 1000000 (am_nd 1000000 (am_lf (341, .return_, 1)) (am_lf (341, .return_, 1))) (am_nd 1000000 (am_lf (341, .return_, 1)) (am_lf (341, .return_, 1))))) (am_nd 1000000 (am_nd 1000000 (am_nd 1000000 (am_lf (341, .return_, 1)) (am_lf (341, .return_, 1))) (am_nd 1000000 (am_lf (341, .return_, 1)) (am_lf (341, .return_, 1)))) (am_nd 1000000 (am_nd 1000000 (am_lf (341, .return_, 1)) (am_lf (341, .return_, 1))) (am_nd 1000000 (am_lf (341, .return_, 1)) (am_lf (341, .return_, 1)))))))
def am_c165_7 : am_T am_E 5 := (am_nd 1000000 (am_nd 1000000 (am_nd 1000000 (am_nd 1000000 (am_nd 1000000 (am_lf (341, .return_, 1)) (am_lf (341, .return_, 1))) (am_nd 1000000 (am_lf (341, .return_, 1)) (am_lf (341, .return_, 1)))) (am_nd 1000000 (am_nd 1000000 (am_lf (341, .return_, 1)) (am_lf (341, .return_, 1))) (am_nd 1000000 (am_lf (341, .return_, 1)) (am_lf (341, .return_, 1))))) (am_nd 1000000 (am_nd 1000000 (am_nd 1000000 (am_lf (341, .return_, 1)) (am_lf (341, .return_, 1))) (am_nd 1000000 (am_lf (341, .return_, 1)) (am_lf (341, .return_, 1)))) (am_nd 1000000 (am_nd 1000000 (am_lf (341, .return_, 1)) (am_lf (341, .return_, 1))) (am_nd 1000000 (am_lf (341, .return_, 1)) (am_lf (341, .return_, 1)))))) (am_nd 1000000 (am_nd 1000000 (am_nd 1000000 (am_nd 1000000 (am_lf (341, .return_, 1)) (am_lf (341, .return_, 1))) (am_nd 1000000 (am_lf (341, .return_, 1)) (am_lf (341, .return_, 1)))) (am_nd 1000000 (am_nd 1000000 (am_lf (341, .return_, 1)) (am_lf (341, .return_, 1))) (am_nd 1000000 (am_lf (341, .return_, 1)) (am_lf (341, .return_, 1))))) (am_nd 1000000 (am_nd 1000000 (am_nd 1000000 (am_lf (341, .return_, 1)) (am_lf (341, .return_, 1))) (am_nd 1000000 (am_lf (341, .return_, 1)) (am_lf (341, .return_, 1)))) (am_nd 1000000 (am_nd 1000000 (am_lf (341, .return_, 1)) (am_lf (341, .return_, 1))) (am_nd 1000000 (am_lf (341, .return_, 1)) (am_lf (341, .return_, 1)))))))
def am_c165 : am_T am_E 8 := (am_nd 232 (am_nd 105 (am_nd 50 am_c165_0 am_c165_1) (am_nd 169 am_c165_2 am_c165_3)) (am_nd 335 (am_nd 288 am_c165_4 am_c165_5) (am_nd 1000000 am_c165_6 am_c165_7)))
def am_c166 : am_T am_E 5 := (am_nd 54 (am_nd 46 (am_nd 42 (am_nd 40 (am_nd 1 (am_lf (0, .iload_n 0, 1)) (am_lf (1, .tableswitch 70 2 7 #[39, 43, 47, 51, 55, 66], 39))) (am_nd 41 (am_lf (40, .iload_n 1, 1)) (am_lf (41, .iload_n 2, 1)))) (am_nd 44 (am_nd 43 (am_lf (42, .iadd, 1)) (am_lf (43, .ireturn, 1))) (am_nd 45 (am_lf (44, .iload_n 1, 1)) (am_lf (45, .iload_n 2, 1))))) (am_nd 50 (am_nd 48 (am_nd 47 (am_lf (46, .isub, 1)) (am_lf (47, .ireturn, 1))) (am_nd 49 (am_lf (48, .iload_n 1, 1)) (am_lf (49, .iload_n 2, 1)))) (am_nd 52 (am_nd 51 (am_lf (50, .imul, 1)) (am_lf (51, .ireturn, 1))) (am_nd 53 (am_lf (52, .iload_n 1, 1)) (am_lf (53, .iload_n 2, 1)))))) (am_nd 66 (am_nd 58 (am_nd 56 (am_nd 55 (am_lf (54, .iand, 1)) (am_lf (55, .ireturn, 1))) (am_nd 57 (am_lf (56, .iload_n 1, 1)) (am_lf (57, .iload_n 2, 1)))) (am_nd 62 (am_nd 61 (am_lf (58, .if_icmp .ge 7, 3)) (am_lf (61, .iconst 1, 1))) (am_nd 65 (am_lf (62, .goto 4, 3)) (am_lf (65, .iconst 0, 1))))) (am_nd 70 (am_nd 68 (am_nd 67 (am_lf (66, .ireturn, 1)) (am_lf (67, .iload_n 1, 1))) (am_nd 69 (am_lf (68, .iload_n 2, 1)) (am_lf (69, .idiv, 1)))) (am_nd 72 (am_nd 71 (am_lf (70, .ireturn, 1)) (am_lf (71, .iload_n 1, 1))) (am_nd 1000000 (am_lf (72, .ireturn, 1)) (am_lf (72, .ireturn, 1)))))))
def am_c167_0 : am_T am_E 5 := (am_nd 23 (am_nd 12 (am_nd 4 (am_nd 2 (am_nd 1 (am_lf (0, .iconst 0, 1)) (am_lf (1, .istore_n 2, 1))) (am_nd 3 (am_lf (2, .iload_n 2, 1)) (am_lf (3, .aload_n 0, 1)))) (am_nd 8 (am_nd 7 (am_lf (4, .getfield 13, 3)) (am_lf (7, .iload_n 1, 1))) (am_nd 9 (am_lf (8, .iaload, 1)) (am_lf (9, .if_icmp .ge 128, 3))))) (am_nd 19 (am_nd 16 (am_nd 13 (am_lf (12, .aload_n 0, 1)) (am_lf (13, .getfield 16, 3))) (am_nd 18 (am_lf (16, .bipush 32, 2)) (am_lf (18, .iload_n 1, 1)))) (am_nd 21 (am_nd 20 (am_lf (19, .imul, 1)) (am_lf (20, .iconst 4, 1))) (am_nd 22 (am_lf (21, .iload_n 2, 1)) (am_lf (22, .imul, 1)))))) (am_nd 32 (am_nd 27 (am_nd 25 (am_nd 24 (am_lf (23, .iadd, 1)) (am_lf (24, .iaload, 1))) (am_nd 26 (am_lf (25, .istore_n 3, 1)) (am_lf (26, .iconst (-1), 1)))) (am_nd 30 (am_nd 29 (am_lf (27, .istore 4, 2)) (am_lf (29, .iload_n 2, 1))) (am_nd 31 (am_lf (30, .iconst 1, 1)) (am_lf (31, .isub, 1))))) (am_nd 40 (am_nd 36 (am_nd 34 (am_lf (32, .istore 5, 2)) (am_lf (34, .iload 5, 2))) (am_nd 39 (am_lf (36, .ifCond .lt 40, 3)) (am_lf (39, .iload_n 3, 1)))) (am_nd 44 (am_nd 41 (am_lf (40, .iconst 1, 1)) (am_lf (41, .if_icmp .le 35, 3))) (am_nd 45 (am_lf (44, .iload_n 3, 1)) (am_lf (45, .bipush 9, 2)))))))
def am_c167_1 : am_T am_E 5 := (am_nd 82 (am_nd 63 (am_nd 54 (am_nd 51 (am_nd 50 (am_lf (47, .if_icmp .ge 29, 3)) (am_lf (50, .aload_n 0, 1))) (am_nd 52 (am_lf (51, .iload_n 1, 1)) (am_lf (52, .iload 5, 2)))) (am_nd 58 (am_nd 55 (am_lf (54, .iload_n 2, 1)) (am_lf (55, .invokevirtual 164, 3))) (am_nd 61 (am_lf (58, .ifCond .eq 8, 3)) (am_lf (61, .iload 5, 2))))) (am_nd 73 (am_nd 68 (am_nd 66 (am_lf (63, .goto 5, 3)) (am_lf (66, .iload 4, 2))) (am_nd 70 (am_lf (68, .istore 4, 2)) (am_lf (70, .iinc 5 (-1), 3)))) (am_nd 78 (am_nd 76 (am_lf (73, .goto (-39), 3)) (am_lf (76, .iload 4, 2))) (am_nd 79 (am_lf (78, .iconst (-1), 1)) (am_lf (79, .if_icmp .eq 52, 3)))))) (am_nd 93 (am_nd 89 (am_nd 86 (am_nd 83 (am_lf (82, .aload_n 0, 1)) (am_lf (83, .sipush 192, 3))) (am_nd 88 (am_lf (86, .bipush 32, 2)) (am_lf (88, .iload_n 1, 1)))) (am_nd 91 (am_nd 90 (am_lf (89, .imul, 1)) (am_lf (90, .iadd, 1))) (am_nd 92 (am_lf (91, .iconst 4, 1)) (am_lf (92, .iload_n 2, 1))))) (am_nd 97 (am_nd 95 (am_nd 94 (am_lf (93, .imul, 1)) (am_lf (94, .iadd, 1))) (am_nd 96 (am_lf (95, .iconst 1, 1)) (am_lf (96, .aload_n 0, 1)))) (am_nd 102 (am_nd 100 (am_lf (97, .getfield 16, 3)) (am_lf (100, .bipush 32, 2))) (am_nd 103 (am_lf (102, .iload_n 1, 1)) (am_lf (103, .imul, 1)))))))
def am_c167_2 : am_T am_E 5 := (am_nd 124 (am_nd 112 (am_nd 108 (am_nd 106 (am_nd 105 (am_lf (104, .iconst 4, 1)) (am_lf (105, .iload_n 2, 1))) (am_nd 107 (am_lf (106, .imul, 1)) (am_lf (107, .iadd, 1)))) (am_nd 110 (am_nd 109 (am_lf (108, .iconst 1, 1)) (am_lf (109, .iadd, 1))) (am_nd 111 (am_lf (110, .iaload, 1)) (am_lf (111, .aload_n 0, 1))))) (am_nd 119 (am_nd 117 (am_nd 115 (am_lf (112, .getfield 16, 3)) (am_lf (115, .bipush 32, 2))) (am_nd 118 (am_lf (117, .iload_n 1, 1)) (am_lf (118, .imul, 1)))) (am_nd 122 (am_nd 120 (am_lf (119, .iconst 4, 1)) (am_lf (120, .iload 4, 2))) (am_nd 123 (am_lf (122, .imul, 1)) (am_lf (123, .iadd, 1)))))) (am_nd 1000000 (am_nd 128 (am_nd 126 (am_nd 125 (am_lf (124, .iconst 1, 1)) (am_lf (125, .iadd, 1))) (am_nd 127 (am_lf (126, .iaload, 1)) (am_lf (127, .iconst 0, 1)))) (am_nd 134 (am_nd 131 (am_lf (128, .invokevirtual 136, 3)) (am_lf (131, .iinc 2 1, 3))) (am_nd 137 (am_lf (134, .goto (-132), 3)) (am_lf (137, .return_, 1))))) (am_nd 1000000 (am_nd 1000000 (am_nd 1000000 (am_lf (137, .return_, 1)) (am_lf (137, .return_, 1))) (am_nd 1000000 (am_lf (137, .return_, 1)) (am_lf (137, .return_, 1)))) (am_nd 1000000 (am_nd 1000000 (am_lf (137, .return_, 1)) (am_lf (137, .return_, 1))) (am_nd 1000000 (am_lf (137, .return_, 1)) (am_lf (137, .return_, 1)))))))
def am_c167_3 : am_T am_E 5 := (am_nd 1000000 (am_nd 1000000 (am_nd 1000000 (am_nd 1000000 (am_nd 1000000 (am_lf (137, .return_, 1)) (am_lf (137, .return_, 1))) (am_nd 1000000 (am_lf (137, .return_, 1)) (am_lf (137, .return_, 1)))) (am_nd 1000000 (am_nd 1000000 (am_lf (137, .return_, 1)) (am_lf (137, .return_, 1))) (am_nd 1000000 (am_lf (137, .return_, 1)) (am_lf (137, .return_, 1))))) (am_nd 1000000 (am_nd 1000000 (am_nd 1000000 (am_lf (137, .return_, 1)) (am_lf (137, .return_, 1))) (am_nd 1000000 (am_lf (137, .return_, 1)) (am_lf (137, .return_, 1)))) (am_nd 1000000 (am_nd 1000000 (am_lf (137, .return_, 1)) (am_lf (137, .return_, 1))) (am_nd 1000000 (am_lf (137, .return_, 1)) (am_lf (137, .return_, 1)))))) (am_nd 1000000 (am_nd 1000000 (am_nd 1000000 (am_nd 1000000 (am_lf (137, .return_, 1)) (am_lf (137, .return_, 1))) (am_nd 1000000 (am_lf (137, .return_, 1)) (am_lf (137, .return_, 1)))) (am_nd 1000000 (am_nd 1000000 (am_lf (137, .return_, 1)) (am_lf (137, .return_, 1))) (am_nd 1000000 (am_lf (137, .return_, 1)) (am_lf (137, .return_, 1))))) (am_nd 1000000 (am_nd 1000000 (am_nd 1000000 (am_lf (137, .return_, 1)) (am_lf (137, .return_, 1))) (am_nd 1000000 (am_lf (137, .return_, 1)) (am_lf (137, .return_, 1)))) (am_nd 1000000 (am_nd 1000000 (am_lf (137, .return_, 1)) (am_lf (137, .return_, 1))) (am_nd 1000000 (am_lf (137, .return_, 1)) (am_lf (137, .return_, 1)))))))
def am_c167 : am_T am_E 7 := (am_nd 104 (am_nd 47 am_c167_0 am_c167_1) (am_nd 1000000 am_c167_2 am_c167_3))
def am_c168_0 : am_T am_E 5 := (am_nd 20 (am_nd 10 (am_nd 5 (am_nd 3 (am_nd 2 (am_lf (0, .bipush 32, 2)) (am_lf (2, .iload_n 1, 1))) (am_nd 4 (am_lf (3, .imul, 1)) (am_lf (4, .iconst 4, 1)))) (am_nd 7 (am_nd 6 (am_lf (5, .iload_n 2, 1)) (am_lf (6, .imul, 1))) (am_nd 8 (am_lf (7, .iadd, 1)) (am_lf (8, .istore 4, 2))))) (am_nd 15 (am_nd 13 (am_nd 12 (am_lf (10, .bipush 32, 2)) (am_lf (12, .iload_n 1, 1))) (am_nd 14 (am_lf (13, .imul, 1)) (am_lf (14, .iconst 4, 1)))) (am_nd 17 (am_nd 16 (am_lf (15, .iload_n 3, 1)) (am_lf (16, .imul, 1))) (am_nd 18 (am_lf (17, .iadd, 1)) (am_lf (18, .istore 5, 2)))))) (am_nd 35 (am_nd 27 (am_nd 24 (am_nd 21 (am_lf (20, .aload_n 0, 1)) (am_lf (21, .getfield 16, 3))) (am_nd 26 (am_lf (24, .iload 5, 2)) (am_lf (26, .iaload, 1)))) (am_nd 30 (am_nd 29 (am_lf (27, .istore 6, 2)) (am_lf (29, .aload_n 0, 1))) (am_nd 33 (am_lf (30, .getfield 16, 3)) (am_lf (33, .iload 4, 2))))) (am_nd 42 (am_nd 38 (am_nd 36 (am_lf (35, .iaload, 1)) (am_lf (36, .iload 6, 2))) (am_nd 41 (am_lf (38, .if_icmp .ne 45, 3)) (am_lf (41, .aload_n 0, 1)))) (am_nd 47 (am_nd 45 (am_lf (42, .getfield 16, 3)) (am_lf (45, .iload 4, 2))) (am_nd 48 (am_lf (47, .iconst 2, 1)) (am_lf (48, .iadd, 1)))))))
def am_c168_1 : am_T am_E 5 := (am_nd 75 (am_nd 62 (am_nd 56 (am_nd 51 (am_nd 50 (am_lf (49, .iaload, 1)) (am_lf (50, .aload_n 0, 1))) (am_nd 54 (am_lf (51, .getfield 16, 3)) (am_lf (54, .iload 5, 2)))) (am_nd 58 (am_nd 57 (am_lf (56, .iconst 2, 1)) (am_lf (57, .iadd, 1))) (am_nd 59 (am_lf (58, .iaload, 1)) (am_lf (59, .if_icmp .ne 24, 3))))) (am_nd 69 (am_nd 66 (am_nd 63 (am_lf (62, .aload_n 0, 1)) (am_lf (63, .getfield 16, 3))) (am_nd 68 (am_lf (66, .iload 4, 2)) (am_lf (68, .iconst 3, 1)))) (am_nd 71 (am_nd 70 (am_lf (69, .iadd, 1)) (am_lf (70, .iaload, 1))) (am_nd 72 (am_lf (71, .aload_n 0, 1)) (am_lf (72, .getfield 16, 3)))))) (am_nd 86 (am_nd 80 (am_nd 78 (am_nd 77 (am_lf (75, .iload 5, 2)) (am_lf (77, .iconst 3, 1))) (am_nd 79 (am_lf (78, .iadd, 1)) (am_lf (79, .iaload, 1)))) (am_nd 84 (am_nd 83 (am_lf (80, .if_icmp .eq 5, 3)) (am_lf (83, .iconst 0, 1))) (am_nd 85 (am_lf (84, .ireturn, 1)) (am_lf (85, .iconst 1, 1))))) (am_nd 93 (am_nd 89 (am_nd 88 (am_lf (86, .istore 7, 2)) (am_lf (88, .iload_n 2, 1))) (am_nd 91 (am_lf (89, .istore 8, 2)) (am_lf (91, .iload 8, 2)))) (am_nd 97 (am_nd 94 (am_lf (93, .iload_n 3, 1)) (am_lf (94, .if_icmp .ge 129, 3))) (am_nd 99 (am_lf (97, .iload 7, 2)) (am_lf (99, .ifCond .eq 52, 3)))))))
def am_c168_2 : am_T am_E 5 := (am_nd 130 (am_nd 114 (am_nd 107 (am_nd 104 (am_nd 103 (am_lf (102, .aload_n 0, 1)) (am_lf (103, .iload_n 1, 1))) (am_nd 106 (am_lf (104, .iload 8, 2)) (am_lf (106, .aload_n 0, 1)))) (am_nd 112 (am_nd 110 (am_lf (107, .getfield 16, 3)) (am_lf (110, .iload 5, 2))) (am_nd 113 (am_lf (112, .iconst 2, 1)) (am_lf (113, .iadd, 1))))) (am_nd 123 (am_nd 118 (am_nd 115 (am_lf (114, .iaload, 1)) (am_lf (115, .invokevirtual 160, 3))) (am_nd 121 (am_lf (118, .ifCond .ne 33, 3)) (am_lf (121, .iload 6, 2)))) (am_nd 128 (am_nd 125 (am_lf (123, .bipush 8, 2)) (am_lf (125, .if_icmp .eq 22, 3))) (am_nd 129 (am_lf (128, .aload_n 0, 1)) (am_lf (129, .iload_n 1, 1)))))) (am_nd 144 (am_nd 138 (am_nd 133 (am_nd 132 (am_lf (130, .iload 8, 2)) (am_lf (132, .aload_n 0, 1))) (am_nd 136 (am_lf (133, .getfield 16, 3)) (am_lf (136, .iload 5, 2)))) (am_nd 140 (am_nd 139 (am_lf (138, .iconst 3, 1)) (am_lf (139, .iadd, 1))) (am_nd 141 (am_lf (140, .iaload, 1)) (am_lf (141, .invokevirtual 160, 3))))) (am_nd 152 (am_nd 148 (am_nd 147 (am_lf (144, .ifCond .ne 7, 3)) (am_lf (147, .iconst 1, 1))) (am_nd 151 (am_lf (148, .goto 4, 3)) (am_lf (151, .iconst 0, 1)))) (am_nd 156 (am_nd 154 (am_lf (152, .istore 7, 2)) (am_lf (154, .iload 7, 2))) (am_nd 159 (am_lf (156, .ifCond .eq 58, 3)) (am_lf (159, .iload 8, 2)))))))
def am_c168_3 : am_T am_E 5 := (am_nd 191 (am_nd 175 (am_nd 167 (am_nd 165 (am_nd 162 (am_lf (161, .iload_n 2, 1)) (am_lf (162, .if_icmp .eq 22, 3))) (am_nd 166 (am_lf (165, .aload_n 0, 1)) (am_lf (166, .iload_n 1, 1)))) (am_nd 170 (am_nd 169 (am_lf (167, .iload 8, 2)) (am_lf (169, .aload_n 0, 1))) (am_nd 173 (am_lf (170, .getfield 16, 3)) (am_lf (173, .iload 4, 2))))) (am_nd 181 (am_nd 177 (am_nd 176 (am_lf (175, .iconst 1, 1)) (am_lf (176, .iadd, 1))) (am_nd 178 (am_lf (177, .iaload, 1)) (am_lf (178, .invokevirtual 160, 3)))) (am_nd 186 (am_nd 184 (am_lf (181, .ifCond .ne 33, 3)) (am_lf (184, .iload 6, 2))) (am_nd 188 (am_lf (186, .bipush 8, 2)) (am_lf (188, .if_icmp .ne 22, 3)))))) (am_nd 203 (am_nd 198 (am_nd 195 (am_nd 192 (am_lf (191, .aload_n 0, 1)) (am_lf (192, .getfield 16, 3))) (am_nd 197 (am_lf (195, .bipush 32, 2)) (am_lf (197, .iload_n 1, 1)))) (am_nd 200 (am_nd 199 (am_lf (198, .imul, 1)) (am_lf (199, .iconst 4, 1))) (am_nd 202 (am_lf (200, .iload 8, 2)) (am_lf (202, .imul, 1))))) (am_nd 210 (am_nd 205 (am_nd 204 (am_lf (203, .iadd, 1)) (am_lf (204, .iaload, 1))) (am_nd 207 (am_lf (205, .bipush 9, 2)) (am_lf (207, .if_icmp .eq 7, 3)))) (am_nd 214 (am_nd 211 (am_lf (210, .iconst 1, 1)) (am_lf (211, .goto 4, 3))) (am_nd 215 (am_lf (214, .iconst 0, 1)) (am_lf (215, .istore 7, 2)))))))
def am_c168_4 : am_T am_E 5 := (am_nd 1000000 (am_nd 1000000 (am_nd 1000000 (am_nd 223 (am_nd 220 (am_lf (217, .iinc 8 1, 3)) (am_lf (220, .goto (-129), 3))) (am_nd 225 (am_lf (223, .iload 7, 2)) (am_lf (225, .ireturn, 1)))) (am_nd 1000000 (am_nd 1000000 (am_lf (225, .ireturn, 1)) (am_lf (225, .ireturn, 1))) (am_nd 1000000 (am_lf (225, .ireturn, 1)) (am_lf (225, .ireturn, 1))))) (am_nd 1000000 (am_nd 1000000 (am_nd 1000000 (am_lf (225, .ireturn, 1)) (am_lf (225, .ireturn, 1))) (am_nd 1000000 (am_lf (225, .ireturn, 1)) (am_lf (225, .ireturn, 1)))) (am_nd 1000000 (am_nd 1000000 (am_lf (225, .ireturn, 1)) (am_lf (225, .ireturn, 1))) (am_nd 1000000 (am_lf (225, .ireturn, 1)) (am_lf (225, .ireturn, 1)))))) (am_nd 1000000 (am_nd 1000000 (am_nd 1000000 (am_nd 1000000 (am_lf (225, .ireturn, 1)) (am_lf (225, .ireturn, 1))) (am_nd 1000000 (am_lf (225, .ireturn, 1)) (am_lf (225, .ireturn, 1)))) (am_nd 1000000 (am_nd 1000000 (am_lf (225, .ireturn, 1)) (am_lf (225, .ireturn, 1))) (am_nd 1000000 (am_lf (225, .ireturn, 1)) (am_lf (225, .ireturn, 1))))) (am_nd 1000000 (am_nd 1000000 (am_nd 1000000 (am_lf (225, .ireturn, 1)) (am_lf (225, .ireturn, 1))) (am_nd 1000000 (am_lf (225, .ireturn, 1)) (am_lf (225, .ireturn, 1)))) (am_nd 1000000 (am_nd 1000000 (am_lf (225, .ireturn, 1)) (am_lf (225, .ireturn, 1))) (am_nd 1000000 (am_lf (225, .ireturn, 1)) (am_lf (225, .ireturn, 1)))))))
def am_c168_5 : am_T am_E 5 := (am_nd 1000000 (am_nd 1000000 (am_nd 1000000 (am_nd 1000000 (am_nd 1000000 (am_lf (225, .ireturn, 1)) (am_lf (225, .ireturn, 1))) (am_nd 1000000 (am_lf (225, .ireturn, 1)) (am_lf (225, .ireturn, 1)))) (am_nd 1000000 (am_nd 1000000 (am_lf (225, .ireturn, 1)) (am_lf (225, .ireturn, 1))) (am_nd 1000000 (am_lf (225, .ireturn, 1)) (am_lf (225, .ireturn, 1))))) (am_nd 1000000 (am_nd 1000000 (am_nd 1000000 (am_lf (225, .ireturn, 1)) (am_lf (225, .ireturn, 1))) (am_nd 1000000 (am_lf (225, .ireturn, 1)) (am_lf (225, .ireturn, 1)))) (am_nd 1000000 (am_nd 1000000 (am_lf (225, .ireturn, 1)) (am_lf (225, .ireturn, 1))) (am_nd 1000000 (am_lf (225, .ireturn, 1)) (am_lf (225, .ireturn, 1)))))) (am_nd 1000000 (am_nd 1000000 (am_nd 1000000 (am_nd 1000000 (am_lf (225, .ireturn, 1)) (am_lf (225, .ireturn, 1))) (am_nd 1000000 (am_lf (225, .ireturn, 1)) (am_lf (225, .ireturn, 1)))) (am_nd 1000000 (am_nd 1000000 (am_lf (225, .ireturn, 1)) (am_lf (225, .ireturn, 1))) (am_nd 1000000 (am_lf (225, .ireturn, 1)) (am_lf (225, .ireturn, 1))))) (am_nd 1000000 (am_nd 1000000 (am_nd 1000000 (am_lf (225, .ireturn, 1)) (am_lf (225, .ireturn, 1))) (am_nd 1000000 (am_lf (225, .ireturn, 1)) (am_lf (225, .ireturn, 1)))) (am_nd 1000000 (am_nd 1000000 (am_lf (225, .ireturn, 1)) (am_lf (225, .ireturn, 1))) (am_nd 1000000 (am_lf (225, .ireturn, 1)) (am_lf (225, .ireturn, 1)))))))
def am_c168_6 : am_T am_E 5 := (am_nd 1000000 (am_nd 1000000 (am_nd 1000000 (am_nd 1000000 (am_nd 1000000 (am_lf (225, .ireturn, 1)) (am_lf (225, .ireturn, 1))) (am_nd 1000000 (am_lf (225, .ireturn, 1)) (am_lf (225, .ireturn, 1)))) (am_nd 1000000 (am_nd 1000000 (am_lf (225, .ireturn, 1)) (am_lf (225, .ireturn, 1))) (am_nd 1000000 (am_lf (225, .ireturn, 1)) (am_lf (225, .ireturn, 1))))) (am_nd 1000000 (am_nd 1000000 (am_nd 1000000 (am_lf (225, .ireturn, 1)) (am_lf (225, .ireturn, 1))) (am_nd 1000000 (am_lf (225, .ireturn, 1)) (am_lf (225, .ireturn, 1)))) (am_nd 1000000 (am_nd 1000000 (am_lf (225, .ireturn, 1)) (am_lf (225, .ireturn, 1))) (am_nd 1000000 (am_lf (225, .ireturn, 1)) (am_lf (225, .ireturn, 1)))))) (am_nd 1000000 (am_nd 1000000 (am_nd 1000000 (am_nd 1000000 (am_lf (225, .ireturn, 1)) (am_lf (225, .ireturn, 1))) (am_nd 1000000 (am_lf (225, .ireturn, 1)) (am_lf (225, .ireturn, 1)))) (am_nd 1000000 (am_nd 1000000 (am_lf (225, .ireturn, 1)) (am_lf (225, .ireturn, 1))) (am_nd 1000000 (am_lf (225, .ireturn, 1)) (am_lf (225, .ireturn, 1))))) (am_nd 1000000 (am_nd 1000000 (am_nd 1000000 (am_lf (225, .ireturn, 1)) (am_lf (225, .ireturn, 1))) (am_nd 1000000 (am_lf (225, .ireturn, 1)) (am_lf (225, .ireturn, 1)))) (am_nd 1000000 (am_nd 1000000 (am_lf (225, .ireturn, 1)) (am_lf (225, .ireturn, 1))) (am_nd 1000000 (am_lf (225, .ireturn, 1)) (am_lf (225, .ireturn, 1)))))))
def am_c168_7 : am_T am_E 5 := (am_nd 1000000 (am_nd 1000000 (am_nd 1000000 (am_nd 1000000 (am_nd 1000000 (am_lf (225, .ireturn, 1)) (am_lf (225, .ireturn, 1))) (am_nd 1000000 (am_lf (225, .ireturn, 1)) (am_lf (225, .ireturn, 1)))) (am_nd 1000000 (am_nd 1000000 (am_lf (225, .ireturn, 1)) (am_lf (225, .ireturn, 1))) (am_nd 1000000 (am_lf (225, .ireturn, 1)) (am_lf (225, .ireturn, 1))))) (am_nd 1000000 (am_nd 1000000 (am_nd 1000000 (am_lf (225, .ireturn, 1)) (am_lf (225, .ireturn, 1))) (am_nd 1000000 (am_lf (225, .ireturn, 1)) (am_lf (225, .ireturn, 1)))) (am_nd 1000000 (am_nd 1000000 (am_lf (225, .ireturn, 1)) (am_lf (225, .ireturn, 1))) (am_nd 1000000 (am_lf (225, .ireturn, 1)) (am_lf (225, .ireturn, 1)))))) (am_nd 1000000 (am_nd 1000000 (am_nd 1000000 (am_nd 1000000 (am_lf (225, .ireturn, 1)) (am_lf (225, .ireturn, 1))) (am_nd 1000000 (am_lf (225, .ireturn, 1)) (am_lf (225, .ireturn, 1)))) (am_nd 1000000 (am_nd 1000000 (am_lf (225, .ireturn, 1)) (am_lf (225, .ireturn, 1))) (am_nd 1000000 (am_lf (225, .ireturn, 1)) (am_lf (225, .ireturn, 1))))) (am_nd 1000000 (am_nd 1000000 (am_nd 1000000 (am_lf (225, .ireturn, 1)) (am_lf (225, .ireturn, 1))) (am_nd 1000000 (am_lf (225, .ireturn, 1)) (am_lf (225, .ireturn, 1)))) (am_nd 1000000 (am_nd 1000000 (am_lf (225, .ireturn, 1)) (am_lf (225, .ireturn, 1))) (am_nd 1000000 (am_lf (225, .ireturn, 1)) (am_lf (225, .ireturn, 1)))))))
def am_c168 : am_T am_E 8 := (am_nd 217 (am_nd 102 (am_nd 49 am_c168_0 am_c168_1) (am_nd 161 am_c168_2 am_c168_3)) (am_nd 1000000 (am_nd 1000000 am_c168_4 am_c168_5) (am_nd 1000000 am_c168_6 am_c168_7)))
def am_c169 : am_T am_E 5 := (am_nd 27 (am_nd 10 (am_nd 5 (am_nd 3 (am_nd 2 (am_lf (0, .bipush 32, 2)) (am_lf (2, .iload_n 1, 1))) (am_nd 4 (am_lf (3, .imul, 1)) (am_lf (4, .iconst 4, 1)))) (am_nd 7 (am_nd 6 (am_lf (5, .iload_n 2, 1)) (am_lf (6, .imul, 1))) (am_nd 8 (am_lf (7, .iadd, 1)) (am_lf (8, .istore 4, 2))))) (am_nd 17 (am_nd 14 (am_nd 11 (am_lf (10, .aload_n 0, 1)) (am_lf (11, .getfield 16, 3))) (am_nd 16 (am_lf (14, .iload 4, 2)) (am_lf (16, .iaload, 1)))) (am_nd 23 (am_nd 20 (am_lf (17, .invokestatic 119, 3)) (am_lf (20, .ifCond .eq 20, 3))) (am_nd 24 (am_lf (23, .aload_n 0, 1)) (am_lf (24, .getfield 16, 3)))))) (am_nd 40 (am_nd 32 (am_nd 30 (am_nd 29 (am_lf (27, .iload 4, 2)) (am_lf (29, .iconst 1, 1))) (am_nd 31 (am_lf (30, .iadd, 1)) (am_lf (31, .iaload, 1)))) (am_nd 36 (am_nd 33 (am_lf (32, .iload_n 3, 1)) (am_lf (33, .if_icmp .ne 7, 3))) (am_nd 37 (am_lf (36, .iconst 1, 1)) (am_lf (37, .goto 4, 3))))) (am_nd 1000000 (am_nd 1000000 (am_nd 41 (am_lf (40, .iconst 0, 1)) (am_lf (41, .ireturn, 1))) (am_nd 1000000 (am_lf (41, .ireturn, 1)) (am_lf (41, .ireturn, 1)))) (am_nd 1000000 (am_nd 1000000 (am_lf (41, .ireturn, 1)) (am_lf (41, .ireturn, 1))) (am_nd 1000000 (am_lf (41, .ireturn, 1)) (am_lf (41, .ireturn, 1)))))))
def am_c170_0 : am_T am_E 5 := (am_nd 22 (am_nd 10 (am_nd 6 (am_nd 4 (am_nd 1 (am_lf (0, .aload_n 0, 1)) (am_lf (1, .getfield 13, 3))) (am_nd 5 (am_lf (4, .iload_n 1, 1)) (am_lf (5, .iaload, 1)))) (am_nd 8 (am_nd 7 (am_lf (6, .iconst 1, 1)) (am_lf (7, .isub, 1))) (am_nd 9 (am_lf (8, .istore_n 2, 1)) (am_lf (9, .iload_n 2, 1))))) (am_nd 16 (am_nd 14 (am_nd 13 (am_lf (10, .ifCond .lt 98, 3)) (am_lf (13, .iconst 0, 1))) (am_nd 15 (am_lf (14, .istore_n 3, 1)) (am_lf (15, .iload_n 2, 1)))) (am_nd 18 (am_nd 17 (am_lf (16, .iconst 1, 1)) (am_lf (17, .iadd, 1))) (am_nd 20 (am_lf (18, .istore 4, 2)) (am_lf (20, .iload 4, 2)))))) (am_nd 35 (am_nd 28 (am_nd 26 (am_nd 23 (am_lf (22, .aload_n 0, 1)) (am_lf (23, .getfield 13, 3))) (am_nd 27 (am_lf (26, .iload_n 1, 1)) (am_lf (27, .iaload, 1)))) (am_nd 32 (am_nd 31 (am_lf (28, .if_icmp .ge 43, 3)) (am_lf (31, .aload_n 0, 1))) (am_nd 33 (am_lf (32, .iload_n 1, 1)) (am_lf (33, .iload 4, 2))))) (am_nd 43 (am_nd 39 (am_nd 36 (am_lf (35, .iload_n 2, 1)) (am_lf (36, .invokevirtual 170, 3))) (am_nd 42 (am_lf (39, .ifCond .eq 24, 3)) (am_lf (42, .aload_n 0, 1)))) (am_nd 48 (am_nd 46 (am_lf (43, .getfield 90, 3)) (am_lf (46, .iload 4, 2))) (am_nd 49 (am_lf (48, .iaload, 1)) (am_lf (49, .iload_n 3, 1)))))))
def am_c170_1 : am_T am_E 5 := (am_nd 82 (am_nd 65 (am_nd 59 (am_nd 54 (am_nd 53 (am_lf (50, .if_icmp .le 13, 3)) (am_lf (53, .aload_n 0, 1))) (am_nd 57 (am_lf (54, .getfield 90, 3)) (am_lf (57, .iload 4, 2)))) (am_nd 63 (am_nd 60 (am_lf (59, .iaload, 1)) (am_lf (60, .goto 4, 3))) (am_nd 64 (am_lf (63, .iload_n 3, 1)) (am_lf (64, .istore_n 3, 1))))) (am_nd 75 (am_nd 71 (am_nd 68 (am_lf (65, .iinc 4 1, 3)) (am_lf (68, .goto (-48), 3))) (am_nd 72 (am_lf (71, .aload_n 0, 1)) (am_lf (72, .getfield 90, 3)))) (am_nd 77 (am_nd 76 (am_lf (75, .iload_n 2, 1)) (am_lf (76, .aload_n 0, 1))) (am_nd 80 (am_lf (77, .getfield 16, 3)) (am_lf (80, .bipush 32, 2)))))) (am_nd 92 (am_nd 86 (am_nd 84 (am_nd 83 (am_lf (82, .iload_n 1, 1)) (am_lf (83, .imul, 1))) (am_nd 85 (am_lf (84, .iconst 4, 1)) (am_lf (85, .iload_n 2, 1)))) (am_nd 88 (am_nd 87 (am_lf (86, .imul, 1)) (am_lf (87, .iadd, 1))) (am_nd 89 (am_lf (88, .iaload, 1)) (am_lf (89, .invokestatic 173, 3))))) (am_nd 96 (am_nd 94 (am_nd 93 (am_lf (92, .iload_n 3, 1)) (am_lf (93, .iadd, 1))) (am_nd 95 (am_lf (94, .iastore, 1)) (am_lf (95, .aload_n 0, 1)))) (am_nd 100 (am_nd 99 (am_lf (96, .getfield 93, 3)) (am_lf (99, .iload_n 2, 1))) (am_nd 101 (am_lf (100, .iconst 0, 1)) (am_lf (101, .bastore, 1)))))))
def am_c170_2 : am_T am_E 5 := (am_nd 128 (am_nd 116 (am_nd 110 (am_nd 108 (am_nd 105 (am_lf (102, .iinc 2 (-1), 3)) (am_lf (105, .goto (-96), 3))) (am_nd 109 (am_lf (108, .iconst 0, 1)) (am_lf (109, .istore_n 2, 1)))) (am_nd 112 (am_nd 111 (am_lf (110, .iload_n 2, 1)) (am_lf (111, .aload_n 0, 1))) (am_nd 115 (am_lf (112, .getfield 13, 3)) (am_lf (115, .iload_n 1, 1))))) (am_nd 122 (am_nd 120 (am_nd 117 (am_lf (116, .iaload, 1)) (am_lf (117, .if_icmp .ge 185, 3))) (am_nd 121 (am_lf (120, .iconst (-1), 1)) (am_lf (121, .istore_n 3, 1)))) (am_nd 125 (am_nd 123 (am_lf (122, .iconst 0, 1)) (am_lf (123, .istore 4, 2))) (am_nd 127 (am_lf (125, .iload 4, 2)) (am_lf (127, .aload_n 0, 1)))))) (am_nd 143 (am_nd 136 (am_nd 132 (am_nd 131 (am_lf (128, .getfield 13, 3)) (am_lf (131, .iload_n 1, 1))) (am_nd 133 (am_lf (132, .iaload, 1)) (am_lf (133, .if_icmp .ge 105, 3)))) (am_nd 140 (am_nd 137 (am_lf (136, .aload_n 0, 1)) (am_lf (137, .getfield 93, 3))) (am_nd 142 (am_lf (140, .iload 4, 2)) (am_lf (142, .baload, 1))))) (am_nd 151 (am_nd 147 (am_nd 146 (am_lf (143, .ifCond .ne 7, 3)) (am_lf (146, .iconst 1, 1))) (am_nd 150 (am_lf (147, .goto 4, 3)) (am_lf (150, .iconst 0, 1)))) (am_nd 154 (am_nd 153 (am_lf (151, .istore 5, 2)) (am_lf (153, .iconst 0, 1))) (am_nd 156 (am_lf (154, .istore 6, 2)) (am_lf (156, .iload 6, 2)))))))
def am_c170_3 : am_T am_E 5 := (am_nd 191 (am_nd 175 (am_nd 168 (am_nd 163 (am_nd 160 (am_lf (158, .iload 4, 2)) (am_lf (160, .if_icmp .ge 43, 3))) (am_nd 165 (am_lf (163, .iload 5, 2)) (am_lf (165, .ifCond .eq 29, 3)))) (am_nd 172 (am_nd 169 (am_lf (168, .aload_n 0, 1)) (am_lf (169, .getfield 93, 3))) (am_nd 174 (am_lf (172, .iload 6, 2)) (am_lf (174, .baload, 1))))) (am_nd 182 (am_nd 179 (am_nd 178 (am_lf (175, .ifCond .ne 15, 3)) (am_lf (178, .aload_n 0, 1))) (am_nd 180 (am_lf (179, .iload_n 1, 1)) (am_lf (180, .iload 4, 2)))) (am_nd 187 (am_nd 184 (am_lf (182, .iload 6, 2)) (am_lf (184, .invokevirtual 170, 3))) (am_nd 190 (am_lf (187, .ifCond .ne 7, 3)) (am_lf (190, .iconst 1, 1)))))) (am_nd 209 (am_nd 200 (am_nd 195 (am_nd 194 (am_lf (191, .goto 4, 3)) (am_lf (194, .iconst 0, 1))) (am_nd 197 (am_lf (195, .istore 5, 2)) (am_lf (197, .iinc 6 1, 3)))) (am_nd 205 (am_nd 203 (am_lf (200, .goto (-44), 3)) (am_lf (203, .iload 5, 2))) (am_nd 208 (am_lf (205, .ifCond .eq 27, 3)) (am_lf (208, .iload_n 3, 1))))) (am_nd 217 (am_nd 213 (am_nd 210 (am_lf (209, .iconst (-1), 1)) (am_lf (210, .if_icmp .eq 19, 3))) (am_nd 214 (am_lf (213, .aload_n 0, 1)) (am_lf (214, .getfield 90, 3)))) (am_nd 220 (am_nd 219 (am_lf (217, .iload 4, 2)) (am_lf (219, .iaload, 1))) (am_nd 221 (am_lf (220, .aload_n 0, 1)) (am_lf (221, .getfield 90, 3)))))))
def am_c170_4 : am_T am_E 5 := (am_nd 251 (am_nd 239 (am_nd 231 (am_nd 226 (am_nd 225 (am_lf (224, .iload_n 3, 1)) (am_lf (225, .iaload, 1))) (am_nd 229 (am_lf (226, .if_icmp .le 6, 3)) (am_lf (229, .iload 4, 2)))) (am_nd 235 (am_nd 232 (am_lf (231, .istore_n 3, 1)) (am_lf (232, .iinc 4 1, 3))) (am_nd 238 (am_lf (235, .goto (-110), 3)) (am_lf (238, .aload_n 0, 1))))) (am_nd 245 (am_nd 243 (am_nd 242 (am_lf (239, .getfield 93, 3)) (am_lf (242, .iload_n 3, 1))) (am_nd 244 (am_lf (243, .iconst 1, 1)) (am_lf (244, .bastore, 1)))) (am_nd 248 (am_nd 246 (am_lf (245, .iconst 0, 1)) (am_lf (246, .istore 4, 2))) (am_nd 250 (am_lf (248, .iload 4, 2)) (am_lf (250, .iconst 4, 1)))))) (am_nd 266 (am_nd 261 (am_nd 255 (am_nd 254 (am_lf (251, .if_icmp .ge 45, 3)) (am_lf (254, .aload_n 0, 1))) (am_nd 258 (am_lf (255, .getfield 16, 3)) (am_lf (258, .sipush 192, 3)))) (am_nd 264 (am_nd 263 (am_lf (261, .bipush 32, 2)) (am_lf (263, .iload_n 1, 1))) (am_nd 265 (am_lf (264, .imul, 1)) (am_lf (265, .iadd, 1))))) (am_nd 270 (am_nd 268 (am_nd 267 (am_lf (266, .iconst 4, 1)) (am_lf (267, .iload_n 2, 1))) (am_nd 269 (am_lf (268, .imul, 1)) (am_lf (269, .iadd, 1)))) (am_nd 273 (am_nd 272 (am_lf (270, .iload 4, 2)) (am_lf (272, .iadd, 1))) (am_nd 274 (am_lf (273, .aload_n 0, 1)) (am_lf (274, .getfield 16, 3)))))))
def am_c170_5 : am_T am_E 5 := (am_nd 1000000 (am_nd 287 (am_nd 282 (am_nd 280 (am_nd 279 (am_lf (277, .bipush 32, 2)) (am_lf (279, .iload_n 1, 1))) (am_nd 281 (am_lf (280, .imul, 1)) (am_lf (281, .iconst 4, 1)))) (am_nd 284 (am_nd 283 (am_lf (282, .iload_n 3, 1)) (am_lf (283, .imul, 1))) (am_nd 285 (am_lf (284, .iadd, 1)) (am_lf (285, .iload 4, 2))))) (am_nd 293 (am_nd 289 (am_nd 288 (am_lf (287, .iadd, 1)) (am_lf (288, .iaload, 1))) (am_nd 290 (am_lf (289, .iastore, 1)) (am_lf (290, .iinc 4 1, 3)))) (am_nd 299 (am_nd 296 (am_lf (293, .goto (-45), 3)) (am_lf (296, .iinc 2 1, 3))) (am_nd 302 (am_lf (299, .goto (-189), 3)) (am_lf (302, .return_, 1)))))) (am_nd 1000000 (am_nd 1000000 (am_nd 1000000 (am_nd 1000000 (am_lf (302, .return_, 1)) (am_lf (302, .return_, 1))) (am_nd 1000000 (am_lf (302, .return_, 1)) (am_lf (302, .return_, 1)))) (am_nd 1000000 (am_nd 1000000 (am_lf (302, .return_, 1)) (am_lf (302, .return_, 1))) (am_nd 1000000 (am_lf (302, .return_, 1)) (am_lf (302, .return_, 1))))) (am_nd 1000000 (am_nd 1000000 (am_nd 1000000 (am_lf (302, .return_, 1)) (am_lf (302, .return_, 1))) (am_nd 1000000 (am_lf (302, .return_, 1)) (am_lf (302, .return_, 1)))) (am_nd 1000000 (am_nd 1000000 (am_lf (302, .return_, 1)) (am_lf (302, .return_, 1))) (am_nd 1000000 (am_lf (302, .return_, 1)) (am_lf (302, .return_, 1)))))))
def am_c170_6 : am_T am_E 5 := (am_nd 1000000 (am_nd 1000000 (am_nd 1000000 (am_nd 1000000 (am_nd 1000000 (am_lf (302, .return_, 1)) (am_lf (302, .return_, 1))) (am_nd 1000000 (am_lf (302, .return_, 1)) (am_lf (302, .return_, 1)))) (am_nd 1000000 (am_nd 1000000 (am_lf (302, .return_, 1)) (am_lf (302, .return_, 1))) (am_nd 1000000 (am_lf (302, .return_, 1)) (am_lf (302, .return_, 1))))) (am_nd 1000000 (am_nd 1000000 (am_nd 1000000 (am_lf (302, .return_, 1)) (am_lf (302, .return_, 1))) (am_nd 1000000 (am_lf (302, .return_, 1)) (am_lf (302, .return_, 1)))) (am_nd 1000000 (am_nd 1000000 (am_lf (302, .return_, 1)) (am_lf (302, .return_, 1))) (am_nd 1000000 (am_lf (302, .return_, 1)) (am_lf (302, .return_, 1)))))) (am_nd 1000000 (am_nd 1000000 (am_nd 1000000 (am_nd 1000000 (am_lf (302, .return_, 1)) (am_lf (302, .return_, 1))) (am_nd 1000000 (am_lf (302, .return_, 1)) (am_lf (302, .return_, 1)))) (am_nd 1000000 (am_nd 1000000 (am_lf (302, .return_, 1)) (am_lf (302, .return_, 1))) (am_nd 1000000 (am_lf (302, .return_, 1)) (am_lf (302, .return_, 1))))) (am_nd 1000000 (am_nd 1000000 (am_nd 1000000 (am_lf (302, .return_, 1)) (am_lf (302, .return_, 1))) (am_nd 1000000 (am_lf (302, .return_, 1)) (am_lf (302, .return_, 1)))) (am_nd 1000000 (am_nd 1000000 (am_lf (302, .return_, 1)) (am_lf (302, .return_, 1))) (am_nd 1000000 (am_lf (302, .return_, 1)) (am_lf (302, .return_, 1)))))))
def am_c170_7 : am_T am_E 5 := (am_nd 1000000 (am_nd 1000000 (am_nd 1000000 (am_nd 1000000 (am_nd 1000000 (am_lf (302, .return_, 1)) (am_lf (302, .return_, 1))) (am_nd 1000000 (am_lf (302, .return_, 1)) (am_lf (302, .return_, 1)))) (am_nd 1000000 (am_nd 1000000 (am_lf (302, .return_, 1)) (am_lf (302, .return_, 1))) (am_nd 1000000 (am_lf (302, .return_, 1)) (am_lf (302, .return_, 1))))) (am_nd 1000000 (am_nd 1000000 (am_nd 1000000 (am_lf (302, .return_, 1)) (am_lf (302, .return_, 1))) (am_nd 1000000 (am_lf (302, .return_, 1)) (am_lf (302, .return_, 1)))) (am_nd 1000000 (am_nd 1000000 (am_lf (302, .return_, 1)) (am_lf (302, .return_, 1))) (am_nd 1000000 (am_lf (302, .return_, 1)) (am_lf (302, .return_, 1)))))) (am_nd 1000000 (am_nd 1000000 (am_nd 1000000 (am_nd 1000000 (am_lf (302, .return_, 1)) (am_lf (302, .return_, 1))) (am_nd 1000000 (am_lf (302, .return_, 1)) (am_lf (302, .return_, 1)))) (am_nd 1000000 (am_nd 1000000 (am_lf (302, .return_, 1)) (am_lf (302, .return_, 1))) (am_nd 1000000 (am_lf (302, .return_, 1)) (am_lf (302, .return_, 1))))) (am_nd 1000000 (am_nd 1000000 (am_nd 1000000 (am_lf (302, .return_, 1)) (am_lf (302, .return_, 1))) (am_nd 1000000 (am_lf (302, .return_, 1)) (am_lf (302, .return_, 1)))) (am_nd 1000000 (am_nd 1000000 (am_lf (302, .return_, 1)) (am_lf (302, .return_, 1))) (am_nd 1000000 (am_lf (302, .return_, 1)) (am_lf (302, .return_, 1)))))))
def am_c170 : am_T am_E 8 := (am_nd 224 (am_nd 102 (am_nd 50 am_c170_0 am_c170_1) (am_nd 158 am_c170_2 am_c170_3)) (am_nd 1000000 (am_nd 277 am_c170_4 am_c170_5) (am_nd 1000000 am_c170_6 am_c170_7)))
def am_c171_0 : am_T am_E 5 := (am_nd 25 (am_nd 11 (am_nd 7 (am_nd 4 (am_nd 1 (am_lf (0, .aload_n 0, 1)) (am_lf (1, .getfield 16, 3))) (am_nd 6 (am_lf (4, .bipush 32, 2)) (am_lf (6, .iload_n 1, 1)))) (am_nd 9 (am_nd 8 (am_lf (7, .imul, 1)) (am_lf (8, .iconst 4, 1))) (am_nd 10 (am_lf (9, .iload_n 2, 1)) (am_lf (10, .imul, 1))))) (am_nd 18 (am_nd 13 (am_nd 12 (am_lf (11, .iadd, 1)) (am_lf (12, .iaload, 1))) (am_nd 15 (am_lf (13, .bipush 7, 2)) (am_lf (15, .if_icmp .lt 25, 3)))) (am_nd 22 (am_nd 19 (am_lf (18, .aload_n 0, 1)) (am_lf (19, .getfield 16, 3))) (am_nd 24 (am_lf (22, .bipush 32, 2)) (am_lf (24, .iload_n 1, 1)))))) (am_nd 36 (am_nd 29 (am_nd 27 (am_nd 26 (am_lf (25, .imul, 1)) (am_lf (26, .iconst 4, 1))) (am_nd 28 (am_lf (27, .iload_n 3, 1)) (am_lf (28, .imul, 1)))) (am_nd 31 (am_nd 30 (am_lf (29, .iadd, 1)) (am_lf (30, .iaload, 1))) (am_nd 33 (am_lf (31, .bipush 7, 2)) (am_lf (33, .if_icmp .lt 7, 3))))) (am_nd 43 (am_nd 40 (am_nd 37 (am_lf (36, .iconst 1, 1)) (am_lf (37, .goto 4, 3))) (am_nd 41 (am_lf (40, .iconst 0, 1)) (am_lf (41, .istore 4, 2)))) (am_nd 46 (am_nd 44 (am_lf (43, .iconst 0, 1)) (am_lf (44, .istore 5, 2))) (am_nd 48 (am_lf (46, .iload 5, 2)) (am_lf (48, .bipush 6, 2)))))))
def am_c171_1 : am_T am_E 5 := (am_nd 81 (am_nd 66 (am_nd 59 (am_nd 55 (am_nd 53 (am_lf (50, .if_icmp .ge 65, 3)) (am_lf (53, .iload 4, 2))) (am_nd 58 (am_lf (55, .ifCond .ne 47, 3)) (am_lf (58, .aload_n 0, 1)))) (am_nd 61 (am_nd 60 (am_lf (59, .iload_n 1, 1)) (am_lf (60, .iload_n 3, 1))) (am_nd 63 (am_lf (61, .iload 5, 2)) (am_lf (63, .invokevirtual 160, 3))))) (am_nd 72 (am_nd 70 (am_nd 69 (am_lf (66, .ifCond .eq 14, 3)) (am_lf (69, .aload_n 0, 1))) (am_nd 71 (am_lf (70, .iload_n 1, 1)) (am_lf (71, .iload_n 2, 1)))) (am_nd 77 (am_nd 74 (am_lf (72, .iload 5, 2)) (am_lf (74, .invokevirtual 167, 3))) (am_nd 80 (am_lf (77, .ifCond .ne 25, 3)) (am_lf (80, .aload_n 0, 1)))))) (am_nd 94 (am_nd 88 (am_nd 83 (am_nd 82 (am_lf (81, .iload_n 1, 1)) (am_lf (82, .iload_n 2, 1))) (am_nd 85 (am_lf (83, .iload 5, 2)) (am_lf (85, .invokevirtual 160, 3)))) (am_nd 92 (am_nd 91 (am_lf (88, .ifCond .eq 18, 3)) (am_lf (91, .aload_n 0, 1))) (am_nd 93 (am_lf (92, .iload_n 1, 1)) (am_lf (93, .iload_n 3, 1))))) (am_nd 103 (am_nd 99 (am_nd 96 (am_lf (94, .iload 5, 2)) (am_lf (96, .invokevirtual 167, 3))) (am_nd 102 (am_lf (99, .ifCond .eq 7, 3)) (am_lf (102, .iconst 1, 1)))) (am_nd 107 (am_nd 106 (am_lf (103, .goto 4, 3)) (am_lf (106, .iconst 0, 1))) (am_nd 109 (am_lf (107, .istore 4, 2)) (am_lf (109, .iinc 5 1, 3)))))))
def am_c171_2 : am_T am_E 5 := (am_nd 1000000 (am_nd 1000000 (am_nd 1000000 (am_nd 117 (am_nd 115 (am_lf (112, .goto (-66), 3)) (am_lf (115, .iload 4, 2))) (am_nd 1000000 (am_lf (117, .ireturn, 1)) (am_lf (117, .ireturn, 1)))) (am_nd 1000000 (am_nd 1000000 (am_lf (117, .ireturn, 1)) (am_lf (117, .ireturn, 1))) (am_nd 1000000 (am_lf (117, .ireturn, 1)) (am_lf (117, .ireturn, 1))))) (am_nd 1000000 (am_nd 1000000 (am_nd 1000000 (am_lf (117, .ireturn, 1)) (am_lf (117, .ireturn, 1))) (am_nd 1000000 (am_lf (117, .ireturn, 1)) (am_lf (117, .ireturn, 1)))) (am_nd 1000000 (am_nd 1000000 (am_lf (117, .ireturn, 1)) (am_lf (117, .ireturn, 1))) (am_nd 1000000 (am_lf (117, .ireturn, 1)) (am_lf (117, .ireturn, 1)))))) (am_nd 1000000 (am_nd 1000000 (am_nd 1000000 (am_nd 1000000 (am_lf (117, .ireturn, 1)) (am_lf (117, .ireturn, 1))) (am_nd 1000000 (am_lf (117, .ireturn, 1)) (am_lf (117, .ireturn, 1)))) (am_nd 1000000 (am_nd 1000000 (am_lf (117, .ireturn, 1)) (am_lf (117, .ireturn, 1))) (am_nd 1000000 (am_lf (117, .ireturn, 1)) (am_lf (117, .ireturn, 1))))) (am_nd 1000000 (am_nd 1000000 (am_nd 1000000 (am_lf (117, .ireturn, 1)) (am_lf (117, .ireturn, 1))) (am_nd 1000000 (am_lf (117, .ireturn, 1)) (am_lf (117, .ireturn, 1)))) (am_nd 1000000 (am_nd 1000000 (am_lf (117, .ireturn, 1)) (am_lf (117, .ireturn, 1))) (am_nd 1000000 (am_lf (117, .ireturn, 1)) (am_lf (117, .ireturn, 1)))))))
def am_c171_3 : am_T am_E 5 := (am_nd 1000000 (am_nd 1000000 (am_nd 1000000 (am_nd 1000000 (am_nd 1000000 (am_lf (117, .ireturn, 1)) (am_lf (117, .ireturn, 1))) (am_nd 1000000 (am_lf (117, .ireturn, 1)) (am_lf (117, .ireturn, 1)))) (am_nd 1000000 (am_nd 1000000 (am_lf (117, .ireturn, 1)) (am_lf (117, .ireturn, 1))) (am_nd 1000000 (am_lf (117, .ireturn, 1)) (am_lf (117, .ireturn, 1))))) (am_nd 1000000 (am_nd 1000000 (am_nd 1000000 (am_lf (117, .ireturn, 1)) (am_lf (117, .ireturn, 1))) (am_nd 1000000 (am_lf (117, .ireturn, 1)) (am_lf (117, .ireturn, 1)))) (am_nd 1000000 (am_nd 1000000 (am_lf (117, .ireturn, 1)) (am_lf (117, .ireturn, 1))) (am_nd 1000000 (am_lf (117, .ireturn, 1)) (am_lf (117, .ireturn, 1)))))) (am_nd 1000000 (am_nd 1000000 (am_nd 1000000 (am_nd 1000000 (am_lf (117, .ireturn, 1)) (am_lf (117, .ireturn, 1))) (am_nd 1000000 (am_lf (117, .ireturn, 1)) (am_lf (117, .ireturn, 1)))) (am_nd 1000000 (am_nd 1000000 (am_lf (117, .ireturn, 1)) (am_lf (117, .ireturn, 1))) (am_nd 1000000 (am_lf (117, .ireturn, 1)) (am_lf (117, .ireturn, 1))))) (am_nd 1000000 (am_nd 1000000 (am_nd 1000000 (am_lf (117, .ireturn, 1)) (am_lf (117, .ireturn, 1))) (am_nd 1000000 (am_lf (117, .ireturn, 1)) (am_lf (117, .ireturn, 1)))) (am_nd 1000000 (am_nd 1000000 (am_lf (117, .ireturn, 1)) (am_lf (117, .ireturn, 1))) (am_nd 1000000 (am_lf (117, .ireturn, 1)) (am_lf (117, .ireturn, 1)))))))
def am_c171 : am_T am_E 7 := (am_nd 112 (am_nd 50 am_c171_0 am_c171_1) (am_nd 1000000 am_c171_2 am_c171_3))
def am_c172_0 : am_T am_E 5 := (am_nd 24 (am_nd 10 (am_nd 5 (am_nd 3 (am_nd 2 (am_lf (0, .bipush 32, 2)) (am_lf (2, .iload_n 1, 1))) (am_nd 4 (am_lf (3, .imul, 1)) (am_lf (4, .iconst 4, 1)))) (am_nd 7 (am_nd 6 (am_lf (5, .iload_n 2, 1)) (am_lf (6, .imul, 1))) (am_nd 8 (am_lf (7, .iadd, 1)) (am_lf (8, .istore 4, 2))))) (am_nd 14 (am_nd 12 (am_nd 11 (am_lf (10, .aload_n 0, 1)) (am_lf (11, .iload_n 1, 1))) (am_nd 13 (am_lf (12, .iload_n 2, 1)) (am_lf (13, .iload_n 3, 1)))) (am_nd 20 (am_nd 17 (am_lf (14, .invokevirtual 160, 3)) (am_lf (17, .ifCond .ne 55, 3))) (am_nd 21 (am_lf (20, .aload_n 0, 1)) (am_lf (21, .getfield 16, 3)))))) (am_nd 40 (am_nd 33 (am_nd 27 (am_nd 26 (am_lf (24, .iload 4, 2)) (am_lf (26, .iaload, 1))) (am_nd 30 (am_lf (27, .invokestatic 123, 3)) (am_lf (30, .ifCond .eq 16, 3)))) (am_nd 37 (am_nd 34 (am_lf (33, .aload_n 0, 1)) (am_lf (34, .getfield 16, 3))) (am_nd 39 (am_lf (37, .iload 4, 2)) (am_lf (39, .iconst 2, 1))))) (am_nd 46 (am_nd 42 (am_nd 41 (am_lf (40, .iadd, 1)) (am_lf (41, .iaload, 1))) (am_nd 43 (am_lf (42, .iload_n 3, 1)) (am_lf (43, .if_icmp .eq 29, 3)))) (am_nd 50 (am_nd 47 (am_lf (46, .aload_n 0, 1)) (am_lf (47, .getfield 16, 3))) (am_nd 52 (am_lf (50, .iload 4, 2)) (am_lf (52, .iaload, 1)))))))
def am_c172_1 : am_T am_E 5 := (am_nd 1000000 (am_nd 68 (am_nd 63 (am_nd 59 (am_nd 56 (am_lf (53, .invokestatic 126, 3)) (am_lf (56, .ifCond .eq 20, 3))) (am_nd 60 (am_lf (59, .aload_n 0, 1)) (am_lf (60, .getfield 16, 3)))) (am_nd 66 (am_nd 65 (am_lf (63, .iload 4, 2)) (am_lf (65, .iconst 3, 1))) (am_nd 67 (am_lf (66, .iadd, 1)) (am_lf (67, .iaload, 1))))) (am_nd 76 (am_nd 72 (am_nd 69 (am_lf (68, .iload_n 3, 1)) (am_lf (69, .if_icmp .ne 7, 3))) (am_nd 73 (am_lf (72, .iconst 1, 1)) (am_lf (73, .goto 4, 3)))) (am_nd 1000000 (am_nd 77 (am_lf (76, .iconst 0, 1)) (am_lf (77, .ireturn, 1))) (am_nd 1000000 (am_lf (77, .ireturn, 1)) (am_lf (77, .ireturn, 1)))))) (am_nd 1000000 (am_nd 1000000 (am_nd 1000000 (am_nd 1000000 (am_lf (77, .ireturn, 1)) (am_lf (77, .ireturn, 1))) (am_nd 1000000 (am_lf (77, .ireturn, 1)) (am_lf (77, .ireturn, 1)))) (am_nd 1000000 (am_nd 1000000 (am_lf (77, .ireturn, 1)) (am_lf (77, .ireturn, 1))) (am_nd 1000000 (am_lf (77, .ireturn, 1)) (am_lf (77, .ireturn, 1))))) (am_nd 1000000 (am_nd 1000000 (am_nd 1000000 (am_lf (77, .ireturn, 1)) (am_lf (77, .ireturn, 1))) (am_nd 1000000 (am_lf (77, .ireturn, 1)) (am_lf (77, .ireturn, 1)))) (am_nd 1000000 (am_nd 1000000 (am_lf (77, .ireturn, 1)) (am_lf (77, .ireturn, 1))) (am_nd 1000000 (am_lf (77, .ireturn, 1)) (am_lf (77, .ireturn, 1)))))))
def am_c172 : am_T am_E 6 := (am_nd 53 am_c172_0 am_c172_1)
def am_c173 : am_T am_E 5 := (am_nd 30 (am_nd 15 (am_nd 6 (am_nd 2 (am_nd 1 (am_lf (0, .iload_n 0, 1)) (am_lf (1, .iconst 4, 1))) (am_nd 5 (am_lf (2, .if_icmp .ne 7, 3)) (am_lf (5, .iconst 3, 1)))) (am_nd 10 (am_nd 9 (am_lf (6, .goto 24, 3)) (am_lf (9, .iload_n 0, 1))) (am_nd 12 (am_lf (10, .bipush 7, 2)) (am_lf (12, .if_icmp .ne 7, 3))))) (am_nd 22 (am_nd 19 (am_nd 16 (am_lf (15, .iconst 4, 1)) (am_lf (16, .goto 14, 3))) (am_nd 20 (am_lf (19, .iload_n 0, 1)) (am_lf (20, .bipush 8, 2)))) (am_nd 26 (am_nd 25 (am_lf (22, .if_icmp .ne 7, 3)) (am_lf (25, .iconst 2, 1))) (am_nd 29 (am_lf (26, .goto 4, 3)) (am_lf (29, .iconst 1, 1)))))) (am_nd 1000000 (am_nd 1000000 (am_nd 1000000 (am_nd 1000000 (am_lf (30, .ireturn, 1)) (am_lf (30, .ireturn, 1))) (am_nd 1000000 (am_lf (30, .ireturn, 1)) (am_lf (30, .ireturn, 1)))) (am_nd 1000000 (am_nd 1000000 (am_lf (30, .ireturn, 1)) (am_lf (30, .ireturn, 1))) (am_nd 1000000 (am_lf (30, .ireturn, 1)) (am_lf (30, .ireturn, 1))))) (am_nd 1000000 (am_nd 1000000 (am_nd 1000000 (am_lf (30, .ireturn, 1)) (am_lf (30, .ireturn, 1))) (am_nd 1000000 (am_lf (30, .ireturn, 1)) (am_lf (30, .ireturn, 1)))) (am_nd 1000000 (am_nd 1000000 (am_lf (30, .ireturn, 1)) (am_lf (30, .ireturn, 1))) (am_nd 1000000 (am_lf (30, .ireturn, 1)) (am_lf (30, .ireturn, 1)))))))
def am_c174_0 : am_T am_E 5 := (am_nd 24 (am_nd 10 (am_nd 4 (am_nd 2 (am_nd 1 (am_lf (0, .iconst 0, 1)) (am_lf (1, .istore_n 2, 1))) (am_nd 3 (am_lf (2, .iconst 0, 1)) (am_lf (3, .istore_n 3, 1)))) (am_nd 6 (am_nd 5 (am_lf (4, .iload_n 3, 1)) (am_lf (5, .aload_n 0, 1))) (am_nd 9 (am_lf (6, .getfield 13, 3)) (am_lf (9, .iload_n 1, 1))))) (am_nd 16 (am_nd 14 (am_nd 11 (am_lf (10, .iaload, 1)) (am_lf (11, .if_icmp .gt 162, 3))) (am_nd 15 (am_lf (14, .iload_n 3, 1)) (am_lf (15, .aload_n 0, 1)))) (am_nd 20 (am_nd 19 (am_lf (16, .getfield 13, 3)) (am_lf (19, .iload_n 1, 1))) (am_nd 21 (am_lf (20, .iaload, 1)) (am_lf (21, .if_icmp .ne 9, 3)))))) (am_nd 35 (am_nd 30 (am_nd 26 (am_nd 25 (am_lf (24, .iconst 4, 1)) (am_lf (25, .iload_n 1, 1))) (am_nd 27 (am_lf (26, .imul, 1)) (am_lf (27, .goto 11, 3)))) (am_nd 33 (am_nd 32 (am_lf (30, .bipush 32, 2)) (am_lf (32, .iload_n 1, 1))) (am_nd 34 (am_lf (33, .imul, 1)) (am_lf (34, .iconst 4, 1))))) (am_nd 40 (am_nd 37 (am_nd 36 (am_lf (35, .iload_n 3, 1)) (am_lf (36, .imul, 1))) (am_nd 38 (am_lf (37, .iadd, 1)) (am_lf (38, .istore 4, 2)))) (am_nd 43 (am_nd 41 (am_lf (40, .iconst 0, 1)) (am_lf (41, .istore 5, 2))) (am_nd 44 (am_lf (43, .iconst 0, 1)) (am_lf (44, .istore 6, 2)))))))
def am_c174_1 : am_T am_E 5 := (am_nd 75 (am_nd 59 (am_nd 53 (am_nd 49 (am_nd 48 (am_lf (46, .iload 6, 2)) (am_lf (48, .iconst 4, 1))) (am_nd 52 (am_lf (49, .if_icmp .ge 105, 3)) (am_lf (52, .iload_n 3, 1)))) (am_nd 57 (am_nd 54 (am_lf (53, .aload_n 0, 1)) (am_lf (54, .getfield 13, 3))) (am_nd 58 (am_lf (57, .iload_n 1, 1)) (am_lf (58, .iaload, 1))))) (am_nd 68 (am_nd 63 (am_nd 62 (am_lf (59, .if_icmp .ne 16, 3)) (am_lf (62, .aload_n 0, 1))) (am_nd 66 (am_lf (63, .getfield 19, 3)) (am_lf (66, .iload 4, 2)))) (am_nd 71 (am_nd 70 (am_lf (68, .iload 6, 2)) (am_lf (70, .iadd, 1))) (am_nd 72 (am_lf (71, .iaload, 1)) (am_lf (72, .goto 13, 3)))))) (am_nd 88 (am_nd 83 (am_nd 79 (am_nd 76 (am_lf (75, .aload_n 0, 1)) (am_lf (76, .getfield 16, 3))) (am_nd 81 (am_lf (79, .iload 4, 2)) (am_lf (81, .iload 6, 2)))) (am_nd 85 (am_nd 84 (am_lf (83, .iadd, 1)) (am_lf (84, .iaload, 1))) (am_nd 87 (am_lf (85, .istore 7, 2)) (am_lf (87, .iload_n 3, 1))))) (am_nd 94 (am_nd 92 (am_nd 89 (am_lf (88, .aload_n 0, 1)) (am_lf (89, .getfield 13, 3))) (am_nd 93 (am_lf (92, .iload_n 1, 1)) (am_lf (93, .iaload, 1)))) (am_nd 98 (am_nd 97 (am_lf (94, .if_icmp .ne 19, 3)) (am_lf (97, .aload_n 0, 1))) (am_nd 101 (am_lf (98, .getfield 19, 3)) (am_lf (101, .bipush 24, 2)))))))
def am_c174_2 : am_T am_E 5 := (am_nd 131 (am_nd 117 (am_nd 109 (am_nd 106 (am_nd 105 (am_lf (103, .iload 4, 2)) (am_lf (105, .iadd, 1))) (am_nd 108 (am_lf (106, .iload 6, 2)) (am_lf (108, .iadd, 1)))) (am_nd 113 (am_nd 110 (am_lf (109, .iaload, 1)) (am_lf (110, .goto 17, 3))) (am_nd 114 (am_lf (113, .aload_n 0, 1)) (am_lf (114, .getfield 16, 3))))) (am_nd 125 (am_nd 122 (am_nd 120 (am_lf (117, .sipush 192, 3)) (am_lf (120, .iload 4, 2))) (am_nd 123 (am_lf (122, .iadd, 1)) (am_lf (123, .iload 6, 2)))) (am_nd 127 (am_nd 126 (am_lf (125, .iadd, 1)) (am_lf (126, .iaload, 1))) (am_nd 129 (am_lf (127, .istore 8, 2)) (am_lf (129, .iload 5, 2)))))) (am_nd 148 (am_nd 141 (am_nd 136 (am_nd 134 (am_lf (131, .ifCond .ne 10, 3)) (am_lf (134, .iload 7, 2))) (am_nd 138 (am_lf (136, .iload 8, 2)) (am_lf (138, .if_icmp .eq 7, 3)))) (am_nd 145 (am_nd 142 (am_lf (141, .iconst 1, 1)) (am_lf (142, .goto 4, 3))) (am_nd 146 (am_lf (145, .iconst 0, 1)) (am_lf (146, .istore 5, 2))))) (am_nd 157 (am_nd 154 (am_nd 151 (am_lf (148, .iinc 6 1, 3)) (am_lf (151, .goto (-105), 3))) (am_nd 155 (am_lf (154, .iload_n 2, 1)) (am_lf (155, .iload 5, 2)))) (am_nd 161 (am_nd 160 (am_lf (157, .ifCond .eq 7, 3)) (am_lf (160, .iconst 1, 1))) (am_nd 164 (am_lf (161, .goto 4, 3)) (am_lf (164, .iconst 0, 1)))))))
def am_c174_3 : am_T am_E 5 := (am_nd 1000000 (am_nd 1000000 (am_nd 173 (am_nd 167 (am_nd 166 (am_lf (165, .iadd, 1)) (am_lf (166, .istore_n 2, 1))) (am_nd 170 (am_lf (167, .iinc 3 1, 3)) (am_lf (170, .goto (-166), 3)))) (am_nd 1000000 (am_nd 174 (am_lf (173, .iload_n 2, 1)) (am_lf (174, .ireturn, 1))) (am_nd 1000000 (am_lf (174, .ireturn, 1)) (am_lf (174, .ireturn, 1))))) (am_nd 1000000 (am_nd 1000000 (am_nd 1000000 (am_lf (174, .ireturn, 1)) (am_lf (174, .ireturn, 1))) (am_nd 1000000 (am_lf (174, .ireturn, 1)) (am_lf (174, .ireturn, 1)))) (am_nd 1000000 (am_nd 1000000 (am_lf (174, .ireturn, 1)) (am_lf (174, .ireturn, 1))) (am_nd 1000000 (am_lf (174, .ireturn, 1)) (am_lf (174, .ireturn, 1)))))) (am_nd 1000000 (am_nd 1000000 (am_nd 1000000 (am_nd 1000000 (am_lf (174, .ireturn, 1)) (am_lf (174, .ireturn, 1))) (am_nd 1000000 (am_lf (174, .ireturn, 1)) (am_lf (174, .ireturn, 1)))) (am_nd 1000000 (am_nd 1000000 (am_lf (174, .ireturn, 1)) (am_lf (174, .ireturn, 1))) (am_nd 1000000 (am_lf (174, .ireturn, 1)) (am_lf (174, .ireturn, 1))))) (am_nd 1000000 (am_nd 1000000 (am_nd 1000000 (am_lf (174, .ireturn, 1)) (am_lf (174, .ireturn, 1))) (am_nd 1000000 (am_lf (174, .ireturn, 1)) (am_lf (174, .ireturn, 1)))) (am_nd 1000000 (am_nd 1000000 (am_lf (174, .ireturn, 1)) (am_lf (174, .ireturn, 1))) (am_nd 1000000 (am_lf (174, .ireturn, 1)) (am_lf (174, .ireturn, 1)))))))
def am_c174 : am_T am_E 7 := (am_nd 103 (am_nd 46 am_c174_0 am_c174_1) (am_nd 165 am_c174_2 am_c174_3))
def am_c175_0 : am_T am_E 5 := (am_nd 25 (am_nd 12 (am_nd 6 (am_nd 2 (am_nd 1 (am_lf (0, .aload_n 0, 1)) (am_lf (1, .iconst 0, 1))) (am_nd 5 (am_lf (2, .putfield 105, 3)) (am_lf (5, .aload_n 0, 1)))) (am_nd 10 (am_nd 7 (am_lf (6, .iconst 0, 1)) (am_lf (7, .putfield 226, 3))) (am_nd 11 (am_lf (10, .iconst 0, 1)) (am_lf (11, .istore_n 1, 1))))) (am_nd 19 (am_nd 15 (am_nd 13 (am_lf (12, .iload_n 1, 1)) (am_lf (13, .bipush 6, 2))) (am_nd 18 (am_lf (15, .if_icmp .ge 16, 3)) (am_lf (18, .aload_n 0, 1)))) (am_nd 23 (am_nd 22 (am_lf (19, .getfield 80, 3)) (am_lf (22, .iload_n 1, 1))) (am_nd 24 (am_lf (23, .iconst (-1), 1)) (am_lf (24, .iastore, 1)))))) (am_nd 41 (am_nd 33 (am_nd 31 (am_nd 28 (am_lf (25, .iinc 1 1, 3)) (am_lf (28, .goto (-16), 3))) (am_nd 32 (am_lf (31, .aload_n 0, 1)) (am_lf (32, .iconst 0, 1)))) (am_nd 37 (am_nd 34 (am_lf (33, .iconst 0, 1)) (am_lf (34, .invokevirtual 245, 3))) (am_nd 38 (am_lf (37, .aload_n 0, 1)) (am_lf (38, .invokevirtual 116, 3))))) (am_nd 47 (am_nd 43 (am_nd 42 (am_lf (41, .aload_n 0, 1)) (am_lf (42, .iconst 0, 1))) (am_nd 46 (am_lf (43, .putfield 64, 3)) (am_lf (46, .iconst 0, 1)))) (am_nd 49 (am_nd 48 (am_lf (47, .istore_n 1, 1)) (am_lf (48, .iload_n 1, 1))) (am_nd 50 (am_lf (49, .aload_n 0, 1)) (am_lf (50, .getfield 226, 3)))))))
def am_c175_1 : am_T am_E 5 := (am_nd 83 (am_nd 69 (am_nd 63 (am_nd 57 (am_nd 56 (am_lf (53, .if_icmp .ge 66, 3)) (am_lf (56, .aload_n 0, 1))) (am_nd 60 (am_lf (57, .getfield 64, 3)) (am_lf (60, .ifCond .ne 59, 3)))) (am_nd 65 (am_nd 64 (am_lf (63, .aload_n 0, 1)) (am_lf (64, .aload_n 0, 1))) (am_nd 66 (am_lf (65, .aload_n 0, 1)) (am_lf (66, .getfield 74, 3))))) (am_nd 75 (am_nd 71 (am_nd 70 (am_lf (69, .iload_n 1, 1)) (am_lf (70, .iaload, 1))) (am_nd 72 (am_lf (71, .aload_n 0, 1)) (am_lf (72, .getfield 77, 3)))) (am_nd 77 (am_nd 76 (am_lf (75, .iload_n 1, 1)) (am_lf (76, .iaload, 1))) (am_nd 80 (am_lf (77, .invokevirtual 248, 3)) (am_lf (80, .putfield 64, 3)))))) (am_nd 99 (am_nd 93 (am_nd 87 (am_nd 84 (am_lf (83, .aload_n 0, 1)) (am_lf (84, .getfield 64, 3))) (am_nd 90 (am_lf (87, .ifCond .ne 6, 3)) (am_lf (90, .goto 23, 3)))) (am_nd 95 (am_nd 94 (am_lf (93, .aload_n 0, 1)) (am_lf (94, .aload_n 0, 1))) (am_nd 98 (am_lf (95, .getfield 74, 3)) (am_lf (98, .iload_n 1, 1))))) (am_nd 105 (am_nd 103 (am_nd 100 (am_lf (99, .iaload, 1)) (am_lf (100, .putfield 68, 3))) (am_nd 104 (am_lf (103, .aload_n 0, 1)) (am_lf (104, .aload_n 0, 1)))) (am_nd 109 (am_nd 108 (am_lf (105, .getfield 77, 3)) (am_lf (108, .iload_n 1, 1))) (am_nd 110 (am_lf (109, .iaload, 1)) (am_lf (110, .putfield 71, 3)))))))
def am_c175_2 : am_T am_E 5 := (am_nd 1000000 (am_nd 131 (am_nd 123 (am_nd 119 (am_nd 116 (am_lf (113, .iinc 1 1, 3)) (am_lf (116, .goto (-68), 3))) (am_nd 120 (am_lf (119, .aload_n 0, 1)) (am_lf (120, .getfield 64, 3)))) (am_nd 127 (am_nd 126 (am_lf (123, .ifCond .le 11, 3)) (am_lf (126, .aload_n 0, 1))) (am_nd 128 (am_lf (127, .iconst 1, 1)) (am_lf (128, .invokevirtual 132, 3))))) (am_nd 1000000 (am_nd 135 (am_nd 134 (am_lf (131, .goto 7, 3)) (am_lf (134, .aload_n 0, 1))) (am_nd 138 (am_lf (135, .getfield 226, 3)) (am_lf (138, .ireturn, 1)))) (am_nd 1000000 (am_nd 1000000 (am_lf (138, .ireturn, 1)) (am_lf (138, .ireturn, 1))) (am_nd 1000000 (am_lf (138, .ireturn, 1)) (am_lf (138, .ireturn, 1)))))) (am_nd 1000000 (am_nd 1000000 (am_nd 1000000 (am_nd 1000000 (am_lf (138, .ireturn, 1)) (am_lf (138, .ireturn, 1))) (am_nd 1000000 (am_lf (138, .ireturn, 1)) (am_lf (138, .ireturn, 1)))) (am_nd 1000000 (am_nd 1000000 (am_lf (138, .ireturn, 1)) (am_lf (138, .ireturn, 1))) (am_nd 1000000 (am_lf (138, .ireturn, 1)) (am_lf (138, .ireturn, 1))))) (am_nd 1000000 (am_nd 1000000 (am_nd 1000000 (am_lf (138, .ireturn, 1)) (am_lf (138, .ireturn, 1))) (am_nd 1000000 (am_lf (138, .ireturn, 1)) (am_lf (138, .ireturn, 1)))) (am_nd 1000000 (am_nd 1000000 (am_lf (138, .ireturn, 1)) (am_lf (138, .ireturn, 1))) (am_nd 1000000 (am_lf (138, .ireturn, 1)) (am_lf (138, .ireturn, 1)))))))
def am_c175_3 : am_T am_E 5 := (am_nd 1000000 (am_nd 1000000 (am_nd 1000000 (am_nd 1000000 (am_nd 1000000 (am_lf (138, .ireturn, 1)) (am_lf (138, .ireturn, 1))) (am_nd 1000000 (am_lf (138, .ireturn, 1)) (am_lf (138, .ireturn, 1)))) (am_nd 1000000 (am_nd 1000000 (am_lf (138, .ireturn, 1)) (am_lf (138, .ireturn, 1))) (am_nd 1000000 (am_lf (138, .ireturn, 1)) (am_lf (138, .ireturn, 1))))) (am_nd 1000000 (am_nd 1000000 (am_nd 1000000 (am_lf (138, .ireturn, 1)) (am_lf (138, .ireturn, 1))) (am_nd 1000000 (am_lf (138, .ireturn, 1)) (am_lf (138, .ireturn, 1)))) (am_nd 1000000 (am_nd 1000000 (am_lf (138, .ireturn, 1)) (am_lf (138, .ireturn, 1))) (am_nd 1000000 (am_lf (138, .ireturn, 1)) (am_lf (138, .ireturn, 1)))))) (am_nd 1000000 (am_nd 1000000 (am_nd 1000000 (am_nd 1000000 (am_lf (138, .ireturn, 1)) (am_lf (138, .ireturn, 1))) (am_nd 1000000 (am_lf (138, .ireturn, 1)) (am_lf (138, .ireturn, 1)))) (am_nd 1000000 (am_nd 1000000 (am_lf (138, .ireturn, 1)) (am_lf (138, .ireturn, 1))) (am_nd 1000000 (am_lf (138, .ireturn, 1)) (am_lf (138, .ireturn, 1))))) (am_nd 1000000 (am_nd 1000000 (am_nd 1000000 (am_lf (138, .ireturn, 1)) (am_lf (138, .ireturn, 1))) (am_nd 1000000 (am_lf (138, .ireturn, 1)) (am_lf (138, .ireturn, 1)))) (am_nd 1000000 (am_nd 1000000 (am_lf (138, .ireturn, 1)) (am_lf (138, .ireturn, 1))) (am_nd 1000000 (am_lf (138, .ireturn, 1)) (am_lf (138, .ireturn, 1)))))))
def am_c175 : am_T am_E 7 := (am_nd 113 (am_nd 53 am_c175_0 am_c175_1) (am_nd 1000000 am_c175_2 am_c175_3))
def am_c176_0 : am_T am_E 5 := (am_nd 26 (am_nd 14 (am_nd 4 (am_nd 2 (am_nd 1 (am_lf (0, .iconst 0, 1)) (am_lf (1, .istore_n 3, 1))) (am_nd 3 (am_lf (2, .iload_n 3, 1)) (am_lf (3, .aload_n 0, 1)))) (am_nd 10 (am_nd 7 (am_lf (4, .getfield 226, 3)) (am_lf (7, .if_icmp .ge 30, 3))) (am_nd 11 (am_lf (10, .aload_n 0, 1)) (am_lf (11, .getfield 74, 3))))) (am_nd 20 (am_nd 16 (am_nd 15 (am_lf (14, .iload_n 3, 1)) (am_lf (15, .iaload, 1))) (am_nd 17 (am_lf (16, .iload_n 1, 1)) (am_lf (17, .if_icmp .ne 14, 3)))) (am_nd 24 (am_nd 21 (am_lf (20, .aload_n 0, 1)) (am_lf (21, .getfield 77, 3))) (am_nd 25 (am_lf (24, .iload_n 3, 1)) (am_lf (25, .iaload, 1)))))) (am_nd 42 (am_nd 34 (am_nd 30 (am_nd 27 (am_lf (26, .iload_n 2, 1)) (am_lf (27, .if_icmp .ne 4, 3))) (am_nd 31 (am_lf (30, .return_, 1)) (am_lf (31, .iinc 3 1, 3)))) (am_nd 38 (am_nd 37 (am_lf (34, .goto (-32), 3)) (am_lf (37, .aload_n 0, 1))) (am_nd 41 (am_lf (38, .getfield 74, 3)) (am_lf (41, .aload_n 0, 1))))) (am_nd 48 (am_nd 46 (am_nd 45 (am_lf (42, .getfield 226, 3)) (am_lf (45, .iload_n 1, 1))) (am_nd 47 (am_lf (46, .iastore, 1)) (am_lf (47, .aload_n 0, 1)))) (am_nd 52 (am_nd 51 (am_lf (48, .getfield 77, 3)) (am_lf (51, .aload_n 0, 1))) (am_nd 55 (am_lf (52, .getfield 226, 3)) (am_lf (55, .iload_n 2, 1)))))))
def am_c176_1 : am_T am_E 5 := (am_nd 82 (am_nd 68 (am_nd 62 (am_nd 58 (am_nd 57 (am_lf (56, .iastore, 1)) (am_lf (57, .aload_n 0, 1))) (am_nd 59 (am_lf (58, .dup, 1)) (am_lf (59, .getfield 226, 3)))) (am_nd 64 (am_nd 63 (am_lf (62, .iconst 1, 1)) (am_lf (63, .iadd, 1))) (am_nd 67 (am_lf (64, .putfield 226, 3)) (am_lf (67, .aload_n 0, 1))))) (am_nd 74 (am_nd 72 (am_nd 71 (am_lf (68, .getfield 80, 3)) (am_lf (71, .iload_n 1, 1))) (am_nd 73 (am_lf (72, .iaload, 1)) (am_lf (73, .iconst (-1), 1)))) (am_nd 78 (am_nd 77 (am_lf (74, .if_icmp .ne 10, 3)) (am_lf (77, .aload_n 0, 1))) (am_nd 81 (am_lf (78, .getfield 80, 3)) (am_lf (81, .iload_n 1, 1)))))) (am_nd 1000000 (am_nd 1000000 (am_nd 84 (am_nd 83 (am_lf (82, .iload_n 2, 1)) (am_lf (83, .iastore, 1))) (am_nd 1000000 (am_lf (84, .return_, 1)) (am_lf (84, .return_, 1)))) (am_nd 1000000 (am_nd 1000000 (am_lf (84, .return_, 1)) (am_lf (84, .return_, 1))) (am_nd 1000000 (am_lf (84, .return_, 1)) (am_lf (84, .return_, 1))))) (am_nd 1000000 (am_nd 1000000 (am_nd 1000000 (am_lf (84, .return_, 1)) (am_lf (84, .return_, 1))) (am_nd 1000000 (am_lf (84, .return_, 1)) (am_lf (84, .return_, 1)))) (am_nd 1000000 (am_nd 1000000 (am_lf (84, .return_, 1)) (am_lf (84, .return_, 1))) (am_nd 1000000 (am_lf (84, .return_, 1)) (am_lf (84, .return_, 1)))))))
def am_c176 : am_T am_E 6 := (am_nd 56 am_c176_0 am_c176_1)
def am_c177_0 : am_T am_E 5 := (am_nd 24 (am_nd 12 (am_nd 6 (am_nd 4 (am_nd 1 (am_lf (0, .aload_n 0, 1)) (am_lf (1, .getfield 80, 3))) (am_nd 5 (am_lf (4, .iload_n 1, 1)) (am_lf (5, .iaload, 1)))) (am_nd 10 (am_nd 7 (am_lf (6, .iload_n 2, 1)) (am_lf (7, .if_icmp .eq 5, 3))) (am_nd 11 (am_lf (10, .iconst 1, 1)) (am_lf (11, .ireturn, 1))))) (am_nd 18 (am_nd 16 (am_nd 13 (am_lf (12, .aload_n 0, 1)) (am_lf (13, .invokevirtual 229, 3))) (am_nd 17 (am_lf (16, .aload_n 0, 1)) (am_lf (17, .iconst 0, 1)))) (am_nd 20 (am_nd 19 (am_lf (18, .iconst 0, 1)) (am_lf (19, .iload_n 1, 1))) (am_nd 23 (am_lf (20, .invokevirtual 232, 3)) (am_lf (23, .aload_n 0, 1)))))) (am_nd 38 (am_nd 30 (am_nd 26 (am_nd 25 (am_lf (24, .iconst 1, 1)) (am_lf (25, .iconst 1, 1))) (am_nd 27 (am_lf (26, .iload_n 2, 1)) (am_lf (27, .invokevirtual 232, 3)))) (am_nd 34 (am_nd 31 (am_lf (30, .aload_n 0, 1)) (am_lf (31, .invokevirtual 235, 3))) (am_nd 37 (am_lf (34, .ifCond .ne 5, 3)) (am_lf (37, .iconst 2, 1))))) (am_nd 46 (am_nd 40 (am_nd 39 (am_lf (38, .ireturn, 1)) (am_lf (39, .aload_n 0, 1))) (am_nd 43 (am_lf (40, .invokevirtual 239, 3)) (am_lf (43, .ifCond .ne 5, 3)))) (am_nd 48 (am_nd 47 (am_lf (46, .iconst 3, 1)) (am_lf (47, .ireturn, 1))) (am_nd 49 (am_lf (48, .aload_n 0, 1)) (am_lf (49, .getfield 52, 3)))))))
def am_c177_1 : am_T am_E 5 := (am_nd 78 (am_nd 66 (am_nd 58 (am_nd 54 (am_nd 53 (am_lf (52, .iconst 0, 1)) (am_lf (53, .iaload, 1))) (am_nd 55 (am_lf (54, .iconst 2, 1)) (am_lf (55, .if_icmp .eq 12, 3)))) (am_nd 62 (am_nd 59 (am_lf (58, .aload_n 0, 1)) (am_lf (59, .invokevirtual 242, 3))) (am_nd 65 (am_lf (62, .ifCond .ne 5, 3)) (am_lf (65, .iconst 4, 1))))) (am_nd 72 (am_nd 68 (am_nd 67 (am_lf (66, .ireturn, 1)) (am_lf (67, .aload_n 0, 1))) (am_nd 71 (am_lf (68, .getfield 52, 3)) (am_lf (71, .iconst 0, 1)))) (am_nd 74 (am_nd 73 (am_lf (72, .iaload, 1)) (am_lf (73, .iconst 2, 1))) (am_nd 77 (am_lf (74, .if_icmp .eq 19, 3)) (am_lf (77, .aload_n 0, 1)))))) (am_nd 90 (am_nd 84 (am_nd 82 (am_nd 79 (am_lf (78, .aload_n 0, 1)) (am_lf (79, .getfield 58, 3))) (am_nd 83 (am_lf (82, .iconst 0, 1)) (am_lf (83, .iaload, 1)))) (am_nd 88 (am_nd 85 (am_lf (84, .aload_n 0, 1)) (am_lf (85, .getfield 58, 3))) (am_nd 89 (am_lf (88, .iconst 1, 1)) (am_lf (89, .iaload, 1))))) (am_nd 98 (am_nd 94 (am_nd 93 (am_lf (90, .invokevirtual 245, 3)) (am_lf (93, .aload_n 0, 1))) (am_nd 97 (am_lf (94, .getfield 52, 3)) (am_lf (97, .iconst 0, 1)))) (am_nd 100 (am_nd 99 (am_lf (98, .iaload, 1)) (am_lf (99, .iconst 1, 1))) (am_nd 103 (am_lf (100, .if_icmp .ne 19, 3)) (am_lf (103, .aload_n 0, 1)))))))
def am_c177_2 : am_T am_E 5 := (am_nd 1000000 (am_nd 116 (am_nd 110 (am_nd 108 (am_nd 105 (am_lf (104, .aload_n 0, 1)) (am_lf (105, .getfield 61, 3))) (am_nd 109 (am_lf (108, .iconst 0, 1)) (am_lf (109, .iaload, 1)))) (am_nd 114 (am_nd 111 (am_lf (110, .aload_n 0, 1)) (am_lf (111, .getfield 61, 3))) (am_nd 115 (am_lf (114, .iconst 1, 1)) (am_lf (115, .iaload, 1))))) (am_nd 1000000 (am_nd 120 (am_nd 119 (am_lf (116, .invokevirtual 245, 3)) (am_lf (119, .iconst 0, 1))) (am_nd 1000000 (am_lf (120, .ireturn, 1)) (am_lf (120, .ireturn, 1)))) (am_nd 1000000 (am_nd 1000000 (am_lf (120, .ireturn, 1)) (am_lf (120, .ireturn, 1))) (am_nd 1000000 (am_lf (120, .ireturn, 1)) (am_lf (120, .ireturn, 1)))))) (am_nd 1000000 (am_nd 1000000 (am_nd 1000000 (am_nd 1000000 (am_lf (120, .ireturn, 1)) (am_lf (120, .ireturn, 1))) (am_nd 1000000 (am_lf (120, .ireturn, 1)) (am_lf (120, .ireturn, 1)))) (am_nd 1000000 (am_nd 1000000 (am_lf (120, .ireturn, 1)) (am_lf (120, .ireturn, 1))) (am_nd 1000000 (am_lf (120, .ireturn, 1)) (am_lf (120, .ireturn, 1))))) (am_nd 1000000 (am_nd 1000000 (am_nd 1000000 (am_lf (120, .ireturn, 1)) (am_lf (120, .ireturn, 1))) (am_nd 1000000 (am_lf (120, .ireturn, 1)) (am_lf (120, .ireturn, 1)))) (am_nd 1000000 (am_nd 1000000 (am_lf (120, .ireturn, 1)) (am_lf (120, .ireturn, 1))) (am_nd 1000000 (am_lf (120, .ireturn, 1)) (am_lf (120, .ireturn, 1)))))))
def am_c177_3 : am_T am_E 5 := (am_nd 1000000 (am_nd 1000000 (am_nd 1000000 (am_nd 1000000 (am_nd 1000000 (am_lf (120, .ireturn, 1)) (am_lf (120, .ireturn, 1))) (am_nd 1000000 (am_lf (120, .ireturn, 1)) (am_lf (120, .ireturn, 1)))) (am_nd 1000000 (am_nd 1000000 (am_lf (120, .ireturn, 1)) (am_lf (120, .ireturn, 1))) (am_nd 1000000 (am_lf (120, .ireturn, 1)) (am_lf (120, .ireturn, 1))))) (am_nd 1000000 (am_nd 1000000 (am_nd 1000000 (am_lf (120, .ireturn, 1)) (am_lf (120, .ireturn, 1))) (am_nd 1000000 (am_lf (120, .ireturn, 1)) (am_lf (120, .ireturn, 1)))) (am_nd 1000000 (am_nd 1000000 (am_lf (120, .ireturn, 1)) (am_lf (120, .ireturn, 1))) (am_nd 1000000 (am_lf (120, .ireturn, 1)) (am_lf (120, .ireturn, 1)))))) (am_nd 1000000 (am_nd 1000000 (am_nd 1000000 (am_nd 1000000 (am_lf (120, .ireturn, 1)) (am_lf (120, .ireturn, 1))) (am_nd 1000000 (am_lf (120, .ireturn, 1)) (am_lf (120, .ireturn, 1)))) (am_nd 1000000 (am_nd 1000000 (am_lf (120, .ireturn, 1)) (am_lf (120, .ireturn, 1))) (am_nd 1000000 (am_lf (120, .ireturn, 1)) (am_lf (120, .ireturn, 1))))) (am_nd 1000000 (am_nd 1000000 (am_nd 1000000 (am_lf (120, .ireturn, 1)) (am_lf (120, .ireturn, 1))) (am_nd 1000000 (am_lf (120, .ireturn, 1)) (am_lf (120, .ireturn, 1)))) (am_nd 1000000 (am_nd 1000000 (am_lf (120, .ireturn, 1)) (am_lf (120, .ireturn, 1))) (am_nd 1000000 (am_lf (120, .ireturn, 1)) (am_lf (120, .ireturn, 1)))))))
def am_c177 : am_T am_E 7 := (am_nd 104 (am_nd 52 am_c177_0 am_c177_1) (am_nd 1000000 am_c177_2 am_c177_3))
def am_c178_0 : am_T am_E 5 := (am_nd 24 (am_nd 14 (am_nd 7 (am_nd 3 (am_nd 1 (am_lf (0, .aload_n 0, 1)) (am_lf (1, .bipush 6, 2))) (am_nd 6 (am_lf (3, .putfield 176, 3)) (am_lf (6, .iconst 0, 1)))) (am_nd 9 (am_nd 8 (am_lf (7, .istore_n 1, 1)) (am_lf (8, .iload_n 1, 1))) (am_nd 11 (am_lf (9, .bipush 6, 2)) (am_lf (11, .if_icmp .ge 60, 3))))) (am_nd 20 (am_nd 18 (am_nd 15 (am_lf (14, .aload_n 0, 1)) (am_lf (15, .getfield 22, 3))) (am_nd 19 (am_lf (18, .iload_n 1, 1)) (am_lf (19, .iconst (-1), 1)))) (am_nd 22 (am_nd 21 (am_lf (20, .iastore, 1)) (am_lf (21, .iconst 0, 1))) (am_nd 23 (am_lf (22, .istore_n 2, 1)) (am_lf (23, .iload_n 2, 1)))))) (am_nd 37 (am_nd 32 (am_nd 28 (am_nd 25 (am_lf (24, .iconst 2, 1)) (am_lf (25, .if_icmp .ge 40, 3))) (am_nd 31 (am_lf (28, .sipush 144, 3)) (am_lf (31, .iload_n 2, 1)))) (am_nd 35 (am_nd 33 (am_lf (32, .imul, 1)) (am_lf (33, .bipush 24, 2))) (am_nd 36 (am_lf (35, .iload_n 1, 1)) (am_lf (36, .imul, 1))))) (am_nd 43 (am_nd 39 (am_nd 38 (am_lf (37, .iadd, 1)) (am_lf (38, .istore_n 3, 1))) (am_nd 40 (am_lf (39, .aload_n 0, 1)) (am_lf (40, .getfield 31, 3)))) (am_nd 45 (am_nd 44 (am_lf (43, .iload_n 3, 1)) (am_lf (44, .iconst 0, 1))) (am_nd 48 (am_lf (45, .invokestatic 187, 3)) (am_lf (48, .aload_n 0, 1)))))))
def am_c178_1 : am_T am_E 5 := (am_nd 1000000 (am_nd 59 (am_nd 55 (am_nd 53 (am_nd 52 (am_lf (49, .getfield 31, 3)) (am_lf (52, .iload_n 3, 1))) (am_nd 54 (am_lf (53, .iconst 1, 1)) (am_lf (54, .iadd, 1)))) (am_nd 57 (am_nd 56 (am_lf (55, .iload_n 1, 1)) (am_lf (56, .iadd, 1))) (am_nd 58 (am_lf (57, .iconst 1, 1)) (am_lf (58, .iastore, 1))))) (am_nd 71 (am_nd 65 (am_nd 62 (am_lf (59, .iinc 2 1, 3)) (am_lf (62, .goto (-39), 3))) (am_nd 68 (am_lf (65, .iinc 1 1, 3)) (am_lf (68, .goto (-60), 3)))) (am_nd 1000000 (am_nd 1000000 (am_lf (71, .return_, 1)) (am_lf (71, .return_, 1))) (am_nd 1000000 (am_lf (71, .return_, 1)) (am_lf (71, .return_, 1)))))) (am_nd 1000000 (am_nd 1000000 (am_nd 1000000 (am_nd 1000000 (am_lf (71, .return_, 1)) (am_lf (71, .return_, 1))) (am_nd 1000000 (am_lf (71, .return_, 1)) (am_lf (71, .return_, 1)))) (am_nd 1000000 (am_nd 1000000 (am_lf (71, .return_, 1)) (am_lf (71, .return_, 1))) (am_nd 1000000 (am_lf (71, .return_, 1)) (am_lf (71, .return_, 1))))) (am_nd 1000000 (am_nd 1000000 (am_nd 1000000 (am_lf (71, .return_, 1)) (am_lf (71, .return_, 1))) (am_nd 1000000 (am_lf (71, .return_, 1)) (am_lf (71, .return_, 1)))) (am_nd 1000000 (am_nd 1000000 (am_lf (71, .return_, 1)) (am_lf (71, .return_, 1))) (am_nd 1000000 (am_lf (71, .return_, 1)) (am_lf (71, .return_, 1)))))))
def am_c178 : am_T am_E 6 := (am_nd 49 am_c178_0 am_c178_1)
def am_c179 : am_T am_E 5 := (am_nd 25 (am_nd 11 (am_nd 5 (am_nd 2 (am_nd 1 (am_lf (0, .iconst 0, 1)) (am_lf (1, .istore_n 3, 1))) (am_nd 3 (am_lf (2, .iload_n 3, 1)) (am_lf (3, .bipush 24, 2)))) (am_nd 9 (am_nd 8 (am_lf (5, .if_icmp .ge 23, 3)) (am_lf (8, .aload_n 0, 1))) (am_nd 10 (am_lf (9, .iload_n 1, 1)) (am_lf (10, .iload_n 3, 1))))) (am_nd 17 (am_nd 13 (am_nd 12 (am_lf (11, .iadd, 1)) (am_lf (12, .iload_n 3, 1))) (am_nd 16 (am_lf (13, .ifCond .ne 7, 3)) (am_lf (16, .iload_n 2, 1)))) (am_nd 21 (am_nd 20 (am_lf (17, .goto 4, 3)) (am_lf (20, .iconst 0, 1))) (am_nd 22 (am_lf (21, .iastore, 1)) (am_lf (22, .iinc 3 1, 3)))))) (am_nd 1000000 (am_nd 1000000 (am_nd 1000000 (am_nd 28 (am_lf (25, .goto (-23), 3)) (am_lf (28, .return_, 1))) (am_nd 1000000 (am_lf (28, .return_, 1)) (am_lf (28, .return_, 1)))) (am_nd 1000000 (am_nd 1000000 (am_lf (28, .return_, 1)) (am_lf (28, .return_, 1))) (am_nd 1000000 (am_lf (28, .return_, 1)) (am_lf (28, .return_, 1))))) (am_nd 1000000 (am_nd 1000000 (am_nd 1000000 (am_lf (28, .return_, 1)) (am_lf (28, .return_, 1))) (am_nd 1000000 (am_lf (28, .return_, 1)) (am_lf (28, .return_, 1)))) (am_nd 1000000 (am_nd 1000000 (am_lf (28, .return_, 1)) (am_lf (28, .return_, 1))) (am_nd 1000000 (am_lf (28, .return_, 1)) (am_lf (28, .return_, 1)))))))
def am_c180_0 : am_T am_E 5 := (am_nd 25 (am_nd 10 (am_nd 5 (am_nd 3 (am_nd 2 (am_lf (0, .bipush 6, 2)) (am_lf (2, .iload_n 2, 1))) (am_nd 4 (am_lf (3, .imul, 1)) (am_lf (4, .iload_n 3, 1)))) (am_nd 8 (am_nd 6 (am_lf (5, .iadd, 1)) (am_lf (6, .istore 4, 2))) (am_nd 9 (am_lf (8, .iload_n 3, 1)) (am_lf (9, .aload_n 0, 1))))) (am_nd 18 (am_nd 14 (am_nd 13 (am_lf (10, .getfield 7, 3)) (am_lf (13, .iload_n 2, 1))) (am_nd 15 (am_lf (14, .iaload, 1)) (am_lf (15, .if_icmp .ge 13, 3)))) (am_nd 22 (am_nd 19 (am_lf (18, .aload_n 0, 1)) (am_lf (19, .getfield 13, 3))) (am_nd 24 (am_lf (22, .iload 4, 2)) (am_lf (24, .iaload, 1)))))) (am_nd 38 (am_nd 32 (am_nd 29 (am_nd 28 (am_lf (25, .goto 4, 3)) (am_lf (28, .iconst 0, 1))) (am_nd 31 (am_lf (29, .istore 5, 2)) (am_lf (31, .aload_n 0, 1)))) (am_nd 36 (am_nd 35 (am_lf (32, .getfield 34, 3)) (am_lf (35, .iload_n 1, 1))) (am_nd 37 (am_lf (36, .iconst 0, 1)) (am_lf (37, .iastore, 1))))) (am_nd 44 (am_nd 42 (am_nd 39 (am_lf (38, .aload_n 0, 1)) (am_lf (39, .getfield 49, 3))) (am_nd 43 (am_lf (42, .iconst 0, 1)) (am_lf (43, .iconst 0, 1)))) (am_nd 48 (am_nd 47 (am_lf (44, .invokestatic 187, 3)) (am_lf (47, .iconst 0, 1))) (am_nd 50 (am_lf (48, .istore 6, 2)) (am_lf (50, .iload 6, 2)))))))
def am_c180_1 : am_T am_E 5 := (am_nd 83 (am_nd 68 (am_nd 61 (am_nd 57 (am_nd 54 (am_lf (52, .bipush 22, 2)) (am_lf (54, .if_icmp .ge 17, 3))) (am_nd 58 (am_lf (57, .aload_n 0, 1)) (am_lf (58, .getfield 102, 3)))) (am_nd 64 (am_nd 63 (am_lf (61, .iload 6, 2)) (am_lf (63, .iconst 0, 1))) (am_nd 65 (am_lf (64, .bastore, 1)) (am_lf (65, .iinc 6 1, 3))))) (am_nd 76 (am_nd 72 (am_nd 71 (am_lf (68, .goto (-18), 3)) (am_lf (71, .iconst 0, 1))) (am_nd 74 (am_lf (72, .istore 6, 2)) (am_lf (74, .iload 6, 2)))) (am_nd 81 (am_nd 78 (am_lf (76, .iload 5, 2)) (am_lf (78, .if_icmp .ge 24, 3))) (am_nd 82 (am_lf (81, .aload_n 0, 1)) (am_lf (82, .iload_n 1, 1)))))) (am_nd 96 (am_nd 89 (am_nd 87 (am_nd 85 (am_lf (83, .bipush 32, 2)) (am_lf (85, .iload 4, 2))) (am_nd 88 (am_lf (87, .imul, 1)) (am_lf (88, .iconst 4, 1)))) (am_nd 92 (am_nd 91 (am_lf (89, .iload 6, 2)) (am_lf (91, .imul, 1))) (am_nd 93 (am_lf (92, .iadd, 1)) (am_lf (93, .invokevirtual 210, 3))))) (am_nd 104 (am_nd 102 (am_nd 99 (am_lf (96, .iinc 6 1, 3)) (am_lf (99, .goto (-25), 3))) (am_nd 103 (am_lf (102, .aload_n 0, 1)) (am_lf (103, .iload_n 1, 1)))) (am_nd 106 (am_nd 105 (am_lf (104, .iload_n 3, 1)) (am_lf (105, .aload_n 0, 1))) (am_nd 109 (am_lf (106, .getfield 7, 3)) (am_lf (109, .iload_n 2, 1)))))))
def am_c180_2 : am_T am_E 5 := (am_nd 1000000 (am_nd 125 (am_nd 117 (am_nd 114 (am_nd 111 (am_lf (110, .iaload, 1)) (am_lf (111, .if_icmp .ge 10, 3))) (am_nd 115 (am_lf (114, .iconst 4, 1)) (am_lf (115, .iload 4, 2)))) (am_nd 121 (am_nd 118 (am_lf (117, .imul, 1)) (am_lf (118, .goto 4, 3))) (am_nd 122 (am_lf (121, .iconst (-1), 1)) (am_lf (122, .invokevirtual 213, 3))))) (am_nd 1000000 (am_nd 1000000 (am_nd 1000000 (am_lf (125, .return_, 1)) (am_lf (125, .return_, 1))) (am_nd 1000000 (am_lf (125, .return_, 1)) (am_lf (125, .return_, 1)))) (am_nd 1000000 (am_nd 1000000 (am_lf (125, .return_, 1)) (am_lf (125, .return_, 1))) (am_nd 1000000 (am_lf (125, .return_, 1)) (am_lf (125, .return_, 1)))))) (am_nd 1000000 (am_nd 1000000 (am_nd 1000000 (am_nd 1000000 (am_lf (125, .return_, 1)) (am_lf (125, .return_, 1))) (am_nd 1000000 (am_lf (125, .return_, 1)) (am_lf (125, .return_, 1)))) (am_nd 1000000 (am_nd 1000000 (am_lf (125, .return_, 1)) (am_lf (125, .return_, 1))) (am_nd 1000000 (am_lf (125, .return_, 1)) (am_lf (125, .return_, 1))))) (am_nd 1000000 (am_nd 1000000 (am_nd 1000000 (am_lf (125, .return_, 1)) (am_lf (125, .return_, 1))) (am_nd 1000000 (am_lf (125, .return_, 1)) (am_lf (125, .return_, 1)))) (am_nd 1000000 (am_nd 1000000 (am_lf (125, .return_, 1)) (am_lf (125, .return_, 1))) (am_nd 1000000 (am_lf (125, .return_, 1)) (am_lf (125, .return_, 1)))))))
def am_c180_3 : am_T am_E 5 := (am_nd 1000000 (am_nd 1000000 (am_nd 1000000 (am_nd 1000000 (am_nd 1000000 (am_lf (125, .return_, 1)) (am_lf (125, .return_, 1))) (am_nd 1000000 (am_lf (125, .return_, 1)) (am_lf (125, .return_, 1)))) (am_nd 1000000 (am_nd 1000000 (am_lf (125, .return_, 1)) (am_lf (125, .return_, 1))) (am_nd 1000000 (am_lf (125, .return_, 1)) (am_lf (125, .return_, 1))))) (am_nd 1000000 (am_nd 1000000 (am_nd 1000000 (am_lf (125, .return_, 1)) (am_lf (125, .return_, 1))) (am_nd 1000000 (am_lf (125, .return_, 1)) (am_lf (125, .return_, 1)))) (am_nd 1000000 (am_nd 1000000 (am_lf (125, .return_, 1)) (am_lf (125, .return_, 1))) (am_nd 1000000 (am_lf (125, .return_, 1)) (am_lf (125, .return_, 1)))))) (am_nd 1000000 (am_nd 1000000 (am_nd 1000000 (am_nd 1000000 (am_lf (125, .return_, 1)) (am_lf (125, .return_, 1))) (am_nd 1000000 (am_lf (125, .return_, 1)) (am_lf (125, .return_, 1)))) (am_nd 1000000 (am_nd 1000000 (am_lf (125, .return_, 1)) (am_lf (125, .return_, 1))) (am_nd 1000000 (am_lf (125, .return_, 1)) (am_lf (125, .return_, 1))))) (am_nd 1000000 (am_nd 1000000 (am_nd 1000000 (am_lf (125, .return_, 1)) (am_lf (125, .return_, 1))) (am_nd 1000000 (am_lf (125, .return_, 1)) (am_lf (125, .return_, 1)))) (am_nd 1000000 (am_nd 1000000 (am_lf (125, .return_, 1)) (am_lf (125, .return_, 1))) (am_nd 1000000 (am_lf (125, .return_, 1)) (am_lf (125, .return_, 1)))))))
def am_c180 : am_T am_E 7 := (am_nd 110 (am_nd 52 am_c180_0 am_c180_1) (am_nd 1000000 am_c180_2 am_c180_3))
def am_c181_0 : am_T am_E 5 := (am_nd 25 (am_nd 12 (am_nd 6 (am_nd 4 (am_nd 1 (am_lf (0, .aload_n 0, 1)) (am_lf (1, .getfield 16, 3))) (am_nd 5 (am_lf (4, .iload_n 2, 1)) (am_lf (5, .iaload, 1)))) (am_nd 10 (am_nd 7 (am_lf (6, .istore_n 3, 1)) (am_lf (7, .sipush 144, 3))) (am_nd 11 (am_lf (10, .iload_n 1, 1)) (am_lf (11, .imul, 1))))) (am_nd 19 (am_nd 16 (am_nd 14 (am_lf (12, .istore 4, 2)) (am_lf (14, .iload 4, 2))) (am_nd 18 (am_lf (16, .bipush 24, 2)) (am_lf (18, .aload_n 0, 1)))) (am_nd 23 (am_nd 22 (am_lf (19, .getfield 16, 3)) (am_lf (22, .iload_n 2, 1))) (am_nd 24 (am_lf (23, .iconst 2, 1)) (am_lf (24, .iadd, 1)))))) (am_nd 38 (am_nd 30 (am_nd 27 (am_nd 26 (am_lf (25, .iaload, 1)) (am_lf (26, .imul, 1))) (am_nd 28 (am_lf (27, .iadd, 1)) (am_lf (28, .istore 5, 2)))) (am_nd 34 (am_nd 32 (am_lf (30, .iload 4, 2)) (am_lf (32, .bipush 24, 2))) (am_nd 35 (am_lf (34, .iload_n 3, 1)) (am_lf (35, .invokestatic 126, 3))))) (am_nd 46 (am_nd 42 (am_nd 41 (am_lf (38, .ifCond .eq 14, 3)) (am_lf (41, .aload_n 0, 1))) (am_nd 45 (am_lf (42, .getfield 16, 3)) (am_lf (45, .iload_n 2, 1)))) (am_nd 48 (am_nd 47 (am_lf (46, .iconst 3, 1)) (am_lf (47, .iadd, 1))) (am_nd 49 (am_lf (48, .iaload, 1)) (am_lf (49, .goto 4, 3)))))))
def am_c181_1 : am_T am_E 5 := (am_nd 79 (am_nd 64 (am_nd 57 (am_nd 54 (am_nd 53 (am_lf (52, .iconst 0, 1)) (am_lf (53, .imul, 1))) (am_nd 55 (am_lf (54, .iadd, 1)) (am_lf (55, .istore 6, 2)))) (am_nd 60 (am_nd 58 (am_lf (57, .iload_n 3, 1)) (am_lf (58, .bipush 9, 2))) (am_nd 63 (am_lf (60, .if_icmp .ne 33, 3)) (am_lf (63, .aload_n 0, 1))))) (am_nd 71 (am_nd 67 (am_nd 65 (am_lf (64, .iload_n 1, 1)) (am_lf (65, .bipush 9, 2))) (am_nd 68 (am_lf (67, .aload_n 0, 1)) (am_lf (68, .getfield 31, 3)))) (am_nd 74 (am_nd 73 (am_lf (71, .iload 5, 2)) (am_lf (73, .aload_n 0, 1))) (am_nd 77 (am_lf (74, .getfield 31, 3)) (am_lf (77, .iload 6, 2)))))) (am_nd 91 (am_nd 87 (am_nd 83 (am_nd 82 (am_lf (79, .invokevirtual 206, 3)) (am_lf (82, .aload_n 0, 1))) (am_nd 86 (am_lf (83, .getfield 49, 3)) (am_lf (86, .iconst 0, 1)))) (am_nd 89 (am_nd 88 (am_lf (87, .dup2, 1)) (am_lf (88, .iaload, 1))) (am_nd 90 (am_lf (89, .iconst 1, 1)) (am_lf (90, .iadd, 1))))) (am_nd 97 (am_nd 93 (am_nd 92 (am_lf (91, .iastore, 1)) (am_lf (92, .return_, 1))) (am_nd 94 (am_lf (93, .iload_n 3, 1)) (am_lf (94, .ifCond .ne 22, 3)))) (am_nd 101 (am_nd 98 (am_lf (97, .aload_n 0, 1)) (am_lf (98, .getfield 46, 3))) (am_nd 102 (am_lf (101, .iconst 0, 1)) (am_lf (102, .aload_n 0, 1)))))))
def am_c181_2 : am_T am_E 5 := (am_nd 132 (am_nd 117 (am_nd 109 (am_nd 107 (am_nd 106 (am_lf (103, .getfield 16, 3)) (am_lf (106, .iload_n 2, 1))) (am_nd 108 (am_lf (107, .iconst 3, 1)) (am_lf (108, .iadd, 1)))) (am_nd 113 (am_nd 110 (am_lf (109, .iaload, 1)) (am_lf (110, .invokestatic 187, 3))) (am_nd 116 (am_lf (113, .goto 68, 3)) (am_lf (116, .iload_n 3, 1))))) (am_nd 125 (am_nd 121 (am_nd 118 (am_lf (117, .iconst 1, 1)) (am_lf (118, .if_icmp .ne 20, 3))) (am_nd 122 (am_lf (121, .aload_n 0, 1)) (am_lf (122, .getfield 31, 3)))) (am_nd 128 (am_nd 127 (am_lf (125, .iload 5, 2)) (am_lf (127, .aload_n 0, 1))) (am_nd 131 (am_lf (128, .getfield 46, 3)) (am_lf (131, .iconst 0, 1)))))) (am_nd 148 (am_nd 141 (am_nd 138 (am_nd 135 (am_lf (132, .invokestatic 183, 3)) (am_lf (135, .goto 46, 3))) (am_nd 139 (am_lf (138, .iload_n 3, 1)) (am_lf (139, .bipush 7, 2)))) (am_nd 145 (am_nd 144 (am_lf (141, .if_icmp .ne 15, 3)) (am_lf (144, .aload_n 0, 1))) (am_nd 146 (am_lf (145, .iload_n 1, 1)) (am_lf (146, .iload 5, 2))))) (am_nd 157 (am_nd 153 (am_nd 150 (am_lf (148, .iload 6, 2)) (am_lf (150, .invokevirtual 216, 3))) (am_nd 156 (am_lf (153, .goto 28, 3)) (am_lf (156, .iload_n 3, 1)))) (am_nd 162 (am_nd 159 (am_lf (157, .bipush 8, 2)) (am_lf (159, .if_icmp .ne 13, 3))) (am_nd 163 (am_lf (162, .aload_n 0, 1)) (am_lf (163, .iload_n 1, 1)))))))
def am_c181_3 : am_T am_E 5 := (am_nd 195 (am_nd 181 (am_nd 173 (am_nd 169 (am_nd 166 (am_lf (164, .iload 5, 2)) (am_lf (166, .invokevirtual 220, 3))) (am_nd 172 (am_lf (169, .goto 12, 3)) (am_lf (172, .aload_n 0, 1)))) (am_nd 176 (am_nd 174 (am_lf (173, .iload_n 3, 1)) (am_lf (174, .iload 5, 2))) (am_nd 178 (am_lf (176, .iload 6, 2)) (am_lf (178, .invokevirtual 223, 3))))) (am_nd 187 (am_nd 185 (am_nd 182 (am_lf (181, .aload_n 0, 1)) (am_lf (182, .getfield 46, 3))) (am_nd 186 (am_lf (185, .iconst 0, 1)) (am_lf (186, .aload_n 0, 1)))) (am_nd 192 (am_nd 190 (am_lf (187, .getfield 31, 3)) (am_lf (190, .iload 4, 2))) (am_nd 194 (am_lf (192, .bipush 24, 2)) (am_lf (194, .aload_n 0, 1)))))) (am_nd 207 (am_nd 201 (am_nd 199 (am_nd 198 (am_lf (195, .getfield 16, 3)) (am_lf (198, .iload_n 2, 1))) (am_nd 200 (am_lf (199, .iconst 1, 1)) (am_lf (200, .iadd, 1)))) (am_nd 203 (am_nd 202 (am_lf (201, .iaload, 1)) (am_lf (202, .imul, 1))) (am_nd 204 (am_lf (203, .iadd, 1)) (am_lf (204, .invokestatic 183, 3))))) (am_nd 1000000 (am_nd 1000000 (am_nd 1000000 (am_lf (207, .return_, 1)) (am_lf (207, .return_, 1))) (am_nd 1000000 (am_lf (207, .return_, 1)) (am_lf (207, .return_, 1)))) (am_nd 1000000 (am_nd 1000000 (am_lf (207, .return_, 1)) (am_lf (207, .return_, 1))) (am_nd 1000000 (am_lf (207, .return_, 1)) (am_lf (207, .return_, 1)))))))
def am_c181 : am_T am_E 7 := (am_nd 103 (am_nd 52 am_c181_0 am_c181_1) (am_nd 164 am_c181_2 am_c181_3))
def am_c182_0 : am_T am_E 5 := (am_nd 24 (am_nd 11 (am_nd 5 (am_nd 3 (am_nd 2 (am_lf (0, .bipush 8, 2)) (am_lf (2, .iload_n 1, 1))) (am_nd 4 (am_lf (3, .imul, 1)) (am_lf (4, .aload_n 0, 1)))) (am_nd 9 (am_nd 8 (am_lf (5, .getfield 34, 3)) (am_lf (8, .iload_n 1, 1))) (am_nd 10 (am_lf (9, .iaload, 1)) (am_lf (10, .iadd, 1))))) (am_nd 19 (am_nd 14 (am_nd 13 (am_lf (11, .istore 7, 2)) (am_lf (13, .aload_n 0, 1))) (am_nd 17 (am_lf (14, .getfield 37, 3)) (am_lf (17, .iload 7, 2)))) (am_nd 21 (am_nd 20 (am_lf (19, .iload_n 2, 1)) (am_lf (20, .iastore, 1))) (am_nd 22 (am_lf (21, .aload_n 3, 1)) (am_lf (22, .iload 4, 2)))))) (am_nd 40 (am_nd 32 (am_nd 28 (am_nd 25 (am_lf (24, .aload_n 0, 1)) (am_lf (25, .getfield 40, 3))) (am_nd 30 (am_lf (28, .bipush 24, 2)) (am_lf (30, .iload 7, 2)))) (am_nd 36 (am_nd 33 (am_lf (32, .imul, 1)) (am_lf (33, .invokestatic 183, 3))) (am_nd 38 (am_lf (36, .aload 5, 2)) (am_lf (38, .iload 6, 2))))) (am_nd 48 (am_nd 44 (am_nd 41 (am_lf (40, .aload_n 0, 1)) (am_lf (41, .getfield 43, 3))) (am_nd 46 (am_lf (44, .bipush 24, 2)) (am_lf (46, .iload 7, 2)))) (am_nd 52 (am_nd 49 (am_lf (48, .imul, 1)) (am_lf (49, .invokestatic 183, 3))) (am_nd 53 (am_lf (52, .aload_n 0, 1)) (am_lf (53, .getfield 34, 3)))))))
def am_c182_1 : am_T am_E 5 := (am_nd 1000000 (am_nd 1000000 (am_nd 60 (am_nd 58 (am_nd 57 (am_lf (56, .iload_n 1, 1)) (am_lf (57, .dup2, 1))) (am_nd 59 (am_lf (58, .iaload, 1)) (am_lf (59, .iconst 1, 1)))) (am_nd 62 (am_nd 61 (am_lf (60, .iadd, 1)) (am_lf (61, .iastore, 1))) (am_nd 1000000 (am_lf (62, .return_, 1)) (am_lf (62, .return_, 1))))) (am_nd 1000000 (am_nd 1000000 (am_nd 1000000 (am_lf (62, .return_, 1)) (am_lf (62, .return_, 1))) (am_nd 1000000 (am_lf (62, .return_, 1)) (am_lf (62, .return_, 1)))) (am_nd 1000000 (am_nd 1000000 (am_lf (62, .return_, 1)) (am_lf (62, .return_, 1))) (am_nd 1000000 (am_lf (62, .return_, 1)) (am_lf (62, .return_, 1)))))) (am_nd 1000000 (am_nd 1000000 (am_nd 1000000 (am_nd 1000000 (am_lf (62, .return_, 1)) (am_lf (62, .return_, 1))) (am_nd 1000000 (am_lf (62, .return_, 1)) (am_lf (62, .return_, 1)))) (am_nd 1000000 (am_nd 1000000 (am_lf (62, .return_, 1)) (am_lf (62, .return_, 1))) (am_nd 1000000 (am_lf (62, .return_, 1)) (am_lf (62, .return_, 1))))) (am_nd 1000000 (am_nd 1000000 (am_nd 1000000 (am_lf (62, .return_, 1)) (am_lf (62, .return_, 1))) (am_nd 1000000 (am_lf (62, .return_, 1)) (am_lf (62, .return_, 1)))) (am_nd 1000000 (am_nd 1000000 (am_lf (62, .return_, 1)) (am_lf (62, .return_, 1))) (am_nd 1000000 (am_lf (62, .return_, 1)) (am_lf (62, .return_, 1)))))))
def am_c182 : am_T am_E 6 := (am_nd 56 am_c182_0 am_c182_1)
def am_c183 : am_T am_E 5 := (am_nd 25 (am_nd 14 (am_nd 7 (am_nd 3 (am_nd 1 (am_lf (0, .iconst 0, 1)) (am_lf (1, .istore 4, 2))) (am_nd 5 (am_lf (3, .iload 4, 2)) (am_lf (5, .bipush 24, 2)))) (am_nd 11 (am_nd 10 (am_lf (7, .if_icmp .ge 21, 3)) (am_lf (10, .aload_n 2, 1))) (am_nd 12 (am_lf (11, .iload_n 3, 1)) (am_lf (12, .iload 4, 2))))) (am_nd 19 (am_nd 16 (am_nd 15 (am_lf (14, .iadd, 1)) (am_lf (15, .aload_n 0, 1))) (am_nd 17 (am_lf (16, .iload_n 1, 1)) (am_lf (17, .iload 4, 2)))) (am_nd 21 (am_nd 20 (am_lf (19, .iadd, 1)) (am_lf (20, .iaload, 1))) (am_nd 22 (am_lf (21, .iastore, 1)) (am_lf (22, .iinc 4 1, 3)))))) (am_nd 1000000 (am_nd 1000000 (am_nd 1000000 (am_nd 28 (am_lf (25, .goto (-22), 3)) (am_lf (28, .return_, 1))) (am_nd 1000000 (am_lf (28, .return_, 1)) (am_lf (28, .return_, 1)))) (am_nd 1000000 (am_nd 1000000 (am_lf (28, .return_, 1)) (am_lf (28, .return_, 1))) (am_nd 1000000 (am_lf (28, .return_, 1)) (am_lf (28, .return_, 1))))) (am_nd 1000000 (am_nd 1000000 (am_nd 1000000 (am_lf (28, .return_, 1)) (am_lf (28, .return_, 1))) (am_nd 1000000 (am_lf (28, .return_, 1)) (am_lf (28, .return_, 1)))) (am_nd 1000000 (am_nd 1000000 (am_lf (28, .return_, 1)) (am_lf (28, .return_, 1))) (am_nd 1000000 (am_lf (28, .return_, 1)) (am_lf (28, .return_, 1)))))))
def am_c184_0 : am_T am_E 5 := (am_nd 32 (am_nd 16 (am_nd 8 (am_nd 4 (am_nd 1 (am_lf (0, .aload_n 0, 1)) (am_lf (1, .getfield 31, 3))) (am_nd 5 (am_lf (4, .iload_n 3, 1)) (am_lf (5, .invokestatic 191, 3)))) (am_nd 12 (am_nd 10 (am_lf (8, .istore 4, 2)) (am_lf (10, .iload 4, 2))) (am_nd 15 (am_lf (12, .ifCond .eq 45, 3)) (am_lf (15, .aload_n 0, 1))))) (am_nd 24 (am_nd 20 (am_nd 19 (am_lf (16, .getfield 31, 3)) (am_lf (19, .iload_n 3, 1))) (am_nd 21 (am_lf (20, .iaload, 1)) (am_lf (21, .ifCond .eq 36, 3)))) (am_nd 28 (am_nd 25 (am_lf (24, .aload_n 0, 1)) (am_lf (25, .getfield 31, 3))) (am_nd 29 (am_lf (28, .iload_n 2, 1)) (am_lf (29, .invokestatic 191, 3)))))) (am_nd 46 (am_nd 40 (am_nd 36 (am_nd 35 (am_lf (32, .ifCond .eq 25, 3)) (am_lf (35, .aload_n 0, 1))) (am_nd 39 (am_lf (36, .getfield 46, 3)) (am_lf (39, .iconst 0, 1)))) (am_nd 44 (am_nd 41 (am_lf (40, .aload_n 0, 1)) (am_lf (41, .getfield 31, 3))) (am_nd 45 (am_lf (44, .iload_n 2, 1)) (am_lf (45, .iaload, 1))))) (am_nd 52 (am_nd 50 (am_nd 47 (am_lf (46, .aload_n 0, 1)) (am_lf (47, .getfield 31, 3))) (am_nd 51 (am_lf (50, .iload_n 3, 1)) (am_lf (51, .iaload, 1)))) (am_nd 56 (am_nd 53 (am_lf (52, .idiv, 1)) (am_lf (53, .invokestatic 187, 3))) (am_nd 57 (am_lf (56, .return_, 1)) (am_lf (57, .iload 4, 2)))))))
def am_c184_1 : am_T am_E 5 := (am_nd 88 (am_nd 73 (am_nd 67 (am_nd 63 (am_nd 62 (am_lf (59, .ifCond .eq 27, 3)) (am_lf (62, .aload_n 0, 1))) (am_nd 66 (am_lf (63, .getfield 31, 3)) (am_lf (66, .iload_n 3, 1)))) (am_nd 69 (am_nd 68 (am_lf (67, .iaload, 1)) (am_lf (68, .iconst 1, 1))) (am_nd 72 (am_lf (69, .if_icmp .ne 17, 3)) (am_lf (72, .aload_n 0, 1))))) (am_nd 81 (am_nd 77 (am_nd 76 (am_lf (73, .getfield 31, 3)) (am_lf (76, .iload_n 2, 1))) (am_nd 78 (am_lf (77, .aload_n 0, 1)) (am_lf (78, .getfield 46, 3)))) (am_nd 85 (am_nd 82 (am_lf (81, .iconst 0, 1)) (am_lf (82, .invokestatic 183, 3))) (am_nd 86 (am_lf (85, .return_, 1)) (am_lf (86, .iload 4, 2)))))) (am_nd 102 (am_nd 96 (am_nd 92 (am_nd 91 (am_lf (88, .ifCond .eq 12, 3)) (am_lf (91, .aload_n 0, 1))) (am_nd 95 (am_lf (92, .getfield 31, 3)) (am_lf (95, .iload_n 3, 1)))) (am_nd 100 (am_nd 97 (am_lf (96, .iaload, 1)) (am_lf (97, .ifCond .ne 40, 3))) (am_nd 101 (am_lf (100, .aload_n 0, 1)) (am_lf (101, .iload_n 1, 1))))) (am_nd 109 (am_nd 105 (am_nd 104 (am_lf (102, .bipush 7, 2)) (am_lf (104, .aload_n 0, 1))) (am_nd 108 (am_lf (105, .getfield 31, 3)) (am_lf (108, .iload_n 2, 1)))) (am_nd 113 (am_nd 110 (am_lf (109, .aload_n 0, 1)) (am_lf (110, .getfield 31, 3))) (am_nd 114 (am_lf (113, .iload_n 3, 1)) (am_lf (114, .invokevirtual 202, 3)))))))
def am_c184_2 : am_T am_E 5 := (am_nd 145 (am_nd 130 (am_nd 124 (am_nd 121 (am_nd 120 (am_lf (117, .ifCond .ne 20, 3)) (am_lf (120, .aload_n 0, 1))) (am_nd 122 (am_lf (121, .iload_n 1, 1)) (am_lf (122, .bipush 7, 2)))) (am_nd 128 (am_nd 125 (am_lf (124, .aload_n 0, 1)) (am_lf (125, .getfield 31, 3))) (am_nd 129 (am_lf (128, .iload_n 2, 1)) (am_lf (129, .aload_n 0, 1))))) (am_nd 138 (am_nd 134 (am_nd 133 (am_lf (130, .getfield 31, 3)) (am_lf (133, .iload_n 3, 1))) (am_nd 137 (am_lf (134, .invokevirtual 206, 3)) (am_lf (137, .aload_n 0, 1)))) (am_nd 141 (am_nd 139 (am_lf (138, .aload_n 0, 1)) (am_lf (139, .bipush 7, 2))) (am_nd 142 (am_lf (141, .aload_n 0, 1)) (am_lf (142, .getfield 31, 3)))))) (am_nd 1000000 (am_nd 151 (am_nd 147 (am_nd 146 (am_lf (145, .iload_n 2, 1)) (am_lf (146, .aload_n 0, 1))) (am_nd 150 (am_lf (147, .getfield 31, 3)) (am_lf (150, .iload_n 3, 1)))) (am_nd 157 (am_nd 154 (am_lf (151, .invokevirtual 195, 3)) (am_lf (154, .invokevirtual 199, 3))) (am_nd 1000000 (am_lf (157, .return_, 1)) (am_lf (157, .return_, 1))))) (am_nd 1000000 (am_nd 1000000 (am_nd 1000000 (am_lf (157, .return_, 1)) (am_lf (157, .return_, 1))) (am_nd 1000000 (am_lf (157, .return_, 1)) (am_lf (157, .return_, 1)))) (am_nd 1000000 (am_nd 1000000 (am_lf (157, .return_, 1)) (am_lf (157, .return_, 1))) (am_nd 1000000 (am_lf (157, .return_, 1)) (am_lf (157, .return_, 1)))))))
def am_c184_3 : am_T am_E 5 := (am_nd 1000000 (am_nd 1000000 (am_nd 1000000 (am_nd 1000000 (am_nd 1000000 (am_lf (157, .return_, 1)) (am_lf (157, .return_, 1))) (am_nd 1000000 (am_lf (157, .return_, 1)) (am_lf (157, .return_, 1)))) (am_nd 1000000 (am_nd 1000000 (am_lf (157, .return_, 1)) (am_lf (157, .return_, 1))) (am_nd 1000000 (am_lf (157, .return_, 1)) (am_lf (157, .return_, 1))))) (am_nd 1000000 (am_nd 1000000 (am_nd 1000000 (am_lf (157, .return_, 1)) (am_lf (157, .return_, 1))) (am_nd 1000000 (am_lf (157, .return_, 1)) (am_lf (157, .return_, 1)))) (am_nd 1000000 (am_nd 1000000 (am_lf (157, .return_, 1)) (am_lf (157, .return_, 1))) (am_nd 1000000 (am_lf (157, .return_, 1)) (am_lf (157, .return_, 1)))))) (am_nd 1000000 (am_nd 1000000 (am_nd 1000000 (am_nd 1000000 (am_lf (157, .return_, 1)) (am_lf (157, .return_, 1))) (am_nd 1000000 (am_lf (157, .return_, 1)) (am_lf (157, .return_, 1)))) (am_nd 1000000 (am_nd 1000000 (am_lf (157, .return_, 1)) (am_lf (157, .return_, 1))) (am_nd 1000000 (am_lf (157, .return_, 1)) (am_lf (157, .return_, 1))))) (am_nd 1000000 (am_nd 1000000 (am_nd 1000000 (am_lf (157, .return_, 1)) (am_lf (157, .return_, 1))) (am_nd 1000000 (am_lf (157, .return_, 1)) (am_lf (157, .return_, 1)))) (am_nd 1000000 (am_nd 1000000 (am_lf (157, .return_, 1)) (am_lf (157, .return_, 1))) (am_nd 1000000 (am_lf (157, .return_, 1)) (am_lf (157, .return_, 1)))))))
def am_c184 : am_T am_E 7 := (am_nd 117 (am_nd 59 am_c184_0 am_c184_1) (am_nd 1000000 am_c184_2 am_c184_3))
def am_c185 : am_T am_E 5 := (am_nd 23 (am_nd 11 (am_nd 4 (am_nd 2 (am_nd 1 (am_lf (0, .iconst 1, 1)) (am_lf (1, .istore_n 2, 1))) (am_nd 3 (am_lf (2, .iconst 1, 1)) (am_lf (3, .istore_n 3, 1)))) (am_nd 7 (am_nd 5 (am_lf (4, .iload_n 3, 1)) (am_lf (5, .bipush 24, 2))) (am_nd 10 (am_lf (7, .if_icmp .ge 27, 3)) (am_lf (10, .iload_n 2, 1))))) (am_nd 17 (am_nd 15 (am_nd 14 (am_lf (11, .ifCond .eq 15, 3)) (am_lf (14, .aload_n 0, 1))) (am_nd 16 (am_lf (15, .iload_n 1, 1)) (am_lf (16, .iload_n 3, 1)))) (am_nd 19 (am_nd 18 (am_lf (17, .iadd, 1)) (am_lf (18, .iaload, 1))) (am_nd 22 (am_lf (19, .ifCond .ne 7, 3)) (am_lf (22, .iconst 1, 1)))))) (am_nd 1000000 (am_nd 31 (am_nd 27 (am_nd 26 (am_lf (23, .goto 4, 3)) (am_lf (26, .iconst 0, 1))) (am_nd 28 (am_lf (27, .istore_n 2, 1)) (am_lf (28, .iinc 3 1, 3)))) (am_nd 35 (am_nd 34 (am_lf (31, .goto (-27), 3)) (am_lf (34, .iload_n 2, 1))) (am_nd 1000000 (am_lf (35, .ireturn, 1)) (am_lf (35, .ireturn, 1))))) (am_nd 1000000 (am_nd 1000000 (am_nd 1000000 (am_lf (35, .ireturn, 1)) (am_lf (35, .ireturn, 1))) (am_nd 1000000 (am_lf (35, .ireturn, 1)) (am_lf (35, .ireturn, 1)))) (am_nd 1000000 (am_nd 1000000 (am_lf (35, .ireturn, 1)) (am_lf (35, .ireturn, 1))) (am_nd 1000000 (am_lf (35, .ireturn, 1)) (am_lf (35, .ireturn, 1)))))))
def am_c186_0 : am_T am_E 5 := (am_nd 26 (am_nd 13 (am_nd 6 (am_nd 3 (am_nd 1 (am_lf (0, .iconst 0, 1)) (am_lf (1, .istore 7, 2))) (am_nd 4 (am_lf (3, .iconst 0, 1)) (am_lf (4, .istore 8, 2)))) (am_nd 9 (am_nd 8 (am_lf (6, .iload 8, 2)) (am_lf (8, .aload_n 0, 1))) (am_nd 12 (am_lf (9, .getfield 34, 3)) (am_lf (12, .iload_n 1, 1))))) (am_nd 20 (am_nd 17 (am_nd 14 (am_lf (13, .iaload, 1)) (am_lf (14, .if_icmp .ge 78, 3))) (am_nd 19 (am_lf (17, .bipush 8, 2)) (am_lf (19, .iload_n 1, 1)))) (am_nd 23 (am_nd 21 (am_lf (20, .imul, 1)) (am_lf (21, .iload 8, 2))) (am_nd 24 (am_lf (23, .iadd, 1)) (am_lf (24, .istore 9, 2)))))) (am_nd 42 (am_nd 35 (am_nd 31 (am_nd 28 (am_lf (26, .iload 7, 2)) (am_lf (28, .ifCond .ne 51, 3))) (am_nd 32 (am_lf (31, .aload_n 0, 1)) (am_lf (32, .getfield 37, 3)))) (am_nd 38 (am_nd 37 (am_lf (35, .iload 9, 2)) (am_lf (37, .iaload, 1))) (am_nd 39 (am_lf (38, .iload_n 2, 1)) (am_lf (39, .if_icmp .ne 44, 3))))) (am_nd 50 (am_nd 46 (am_nd 43 (am_lf (42, .aload_n 0, 1)) (am_lf (43, .getfield 40, 3))) (am_nd 48 (am_lf (46, .bipush 24, 2)) (am_lf (48, .iload 9, 2)))) (am_nd 52 (am_nd 51 (am_lf (50, .imul, 1)) (am_lf (51, .aload_n 3, 1))) (am_nd 54 (am_lf (52, .iload 4, 2)) (am_lf (54, .invokestatic 179, 3)))))))
def am_c186_1 : am_T am_E 5 := (am_nd 92 (am_nd 73 (am_nd 66 (am_nd 61 (am_nd 60 (am_lf (57, .ifCond .eq 26, 3)) (am_lf (60, .aload_n 0, 1))) (am_nd 64 (am_lf (61, .getfield 43, 3)) (am_lf (64, .bipush 24, 2)))) (am_nd 69 (am_nd 68 (am_lf (66, .iload 9, 2)) (am_lf (68, .imul, 1))) (am_nd 71 (am_lf (69, .aload 5, 2)) (am_lf (71, .iload 6, 2))))) (am_nd 83 (am_nd 79 (am_nd 76 (am_lf (73, .invokestatic 179, 3)) (am_lf (76, .ifCond .eq 7, 3))) (am_nd 80 (am_lf (79, .iconst 1, 1)) (am_lf (80, .goto 4, 3)))) (am_nd 86 (am_nd 84 (am_lf (83, .iconst 0, 1)) (am_lf (84, .istore 7, 2))) (am_nd 89 (am_lf (86, .iinc 8 1, 3)) (am_lf (89, .goto (-83), 3)))))) (am_nd 1000000 (am_nd 1000000 (am_nd 1000000 (am_nd 94 (am_lf (92, .iload 7, 2)) (am_lf (94, .ireturn, 1))) (am_nd 1000000 (am_lf (94, .ireturn, 1)) (am_lf (94, .ireturn, 1)))) (am_nd 1000000 (am_nd 1000000 (am_lf (94, .ireturn, 1)) (am_lf (94, .ireturn, 1))) (am_nd 1000000 (am_lf (94, .ireturn, 1)) (am_lf (94, .ireturn, 1))))) (am_nd 1000000 (am_nd 1000000 (am_nd 1000000 (am_lf (94, .ireturn, 1)) (am_lf (94, .ireturn, 1))) (am_nd 1000000 (am_lf (94, .ireturn, 1)) (am_lf (94, .ireturn, 1)))) (am_nd 1000000 (am_nd 1000000 (am_lf (94, .ireturn, 1)) (am_lf (94, .ireturn, 1))) (am_nd 1000000 (am_lf (94, .ireturn, 1)) (am_lf (94, .ireturn, 1)))))))
def am_c186 : am_T am_E 6 := (am_nd 57 am_c186_0 am_c186_1)
def am_c187 : am_T am_E 5 := (am_nd 26 (am_nd 15 (am_nd 6 (am_nd 3 (am_nd 1 (am_lf (0, .iconst 1, 1)) (am_lf (1, .istore 4, 2))) (am_nd 4 (am_lf (3, .iconst 0, 1)) (am_lf (4, .istore 5, 2)))) (am_nd 10 (am_nd 8 (am_lf (6, .iload 5, 2)) (am_lf (8, .bipush 24, 2))) (am_nd 13 (am_lf (10, .if_icmp .ge 36, 3)) (am_lf (13, .iload 4, 2))))) (am_nd 22 (am_nd 19 (am_nd 18 (am_lf (15, .ifCond .eq 22, 3)) (am_lf (18, .aload_n 0, 1))) (am_nd 20 (am_lf (19, .iload_n 1, 1)) (am_lf (20, .iload 5, 2)))) (am_nd 24 (am_nd 23 (am_lf (22, .iadd, 1)) (am_lf (23, .iaload, 1))) (am_nd 25 (am_lf (24, .aload_n 2, 1)) (am_lf (25, .iload_n 3, 1)))))) (am_nd 40 (am_nd 33 (am_nd 29 (am_nd 28 (am_lf (26, .iload 5, 2)) (am_lf (28, .iadd, 1))) (am_nd 30 (am_lf (29, .iaload, 1)) (am_lf (30, .if_icmp .ne 7, 3)))) (am_nd 37 (am_nd 34 (am_lf (33, .iconst 1, 1)) (am_lf (34, .goto 4, 3))) (am_nd 38 (am_lf (37, .iconst 0, 1)) (am_lf (38, .istore 4, 2))))) (am_nd 1000000 (am_nd 46 (am_nd 43 (am_lf (40, .iinc 5 1, 3)) (am_lf (43, .goto (-37), 3))) (am_nd 48 (am_lf (46, .iload 4, 2)) (am_lf (48, .ireturn, 1)))) (am_nd 1000000 (am_nd 1000000 (am_lf (48, .ireturn, 1)) (am_lf (48, .ireturn, 1))) (am_nd 1000000 (am_lf (48, .ireturn, 1)) (am_lf (48, .ireturn, 1)))))))
def am_c188_0 : am_T am_E 5 := (am_nd 29 (am_nd 14 (am_nd 6 (am_nd 2 (am_nd 1 (am_lf (0, .iload_n 1, 1)) (am_lf (1, .iconst 4, 1))) (am_nd 5 (am_lf (2, .if_icmp .eq 8, 3)) (am_lf (5, .iload_n 1, 1)))) (am_nd 10 (am_nd 7 (am_lf (6, .iconst 5, 1)) (am_lf (7, .if_icmp .ne 7, 3))) (am_nd 11 (am_lf (10, .iconst 1, 1)) (am_lf (11, .goto 4, 3))))) (am_nd 20 (am_nd 17 (am_nd 15 (am_lf (14, .iconst 0, 1)) (am_lf (15, .istore 6, 2))) (am_nd 18 (am_lf (17, .iconst 0, 1)) (am_lf (18, .istore 7, 2)))) (am_nd 23 (am_nd 22 (am_lf (20, .iload 7, 2)) (am_lf (22, .aload_n 0, 1))) (am_nd 26 (am_lf (23, .getfield 176, 3)) (am_lf (26, .if_icmp .ge 106, 3)))))) (am_nd 44 (am_nd 36 (am_nd 33 (am_nd 30 (am_lf (29, .aload_n 0, 1)) (am_lf (30, .getfield 22, 3))) (am_nd 35 (am_lf (33, .iload 7, 2)) (am_lf (35, .iaload, 1)))) (am_nd 40 (am_nd 37 (am_lf (36, .iload_n 1, 1)) (am_lf (37, .if_icmp .eq 6, 3))) (am_nd 43 (am_lf (40, .goto 86, 3)) (am_lf (43, .aload_n 0, 1))))) (am_nd 52 (am_nd 49 (am_nd 47 (am_lf (44, .getfield 25, 3)) (am_lf (47, .bipush 24, 2))) (am_nd 51 (am_lf (49, .iload 7, 2)) (am_lf (51, .imul, 1)))) (am_nd 54 (am_nd 53 (am_lf (52, .aload_n 2, 1)) (am_lf (53, .iload_n 3, 1))) (am_nd 57 (am_lf (54, .invokestatic 179, 3)) (am_lf (57, .ifCond .eq 25, 3)))))))
def am_c188_1 : am_T am_E 5 := (am_nd 93 (am_nd 76 (am_nd 68 (am_nd 64 (am_nd 61 (am_lf (60, .aload_n 0, 1)) (am_lf (61, .getfield 28, 3))) (am_nd 66 (am_lf (64, .bipush 24, 2)) (am_lf (66, .iload 7, 2)))) (am_nd 71 (am_nd 69 (am_lf (68, .imul, 1)) (am_lf (69, .aload 4, 2))) (am_nd 73 (am_lf (71, .iload 5, 2)) (am_lf (73, .invokestatic 179, 3))))) (am_nd 84 (am_nd 81 (am_nd 79 (am_lf (76, .ifCond .eq 6, 3)) (am_lf (79, .iload 7, 2))) (am_nd 82 (am_lf (81, .ireturn, 1)) (am_lf (82, .iload 6, 2)))) (am_nd 88 (am_nd 87 (am_lf (84, .ifCond .eq 42, 3)) (am_lf (87, .aload_n 0, 1))) (am_nd 91 (am_lf (88, .getfield 25, 3)) (am_lf (91, .bipush 24, 2)))))) (am_nd 110 (am_nd 100 (am_nd 96 (am_nd 95 (am_lf (93, .iload 7, 2)) (am_lf (95, .imul, 1))) (am_nd 98 (am_lf (96, .aload 4, 2)) (am_lf (98, .iload 5, 2)))) (am_nd 106 (am_nd 103 (am_lf (100, .invokestatic 179, 3)) (am_lf (103, .ifCond .eq 23, 3))) (am_nd 107 (am_lf (106, .aload_n 0, 1)) (am_lf (107, .getfield 28, 3))))) (am_nd 116 (am_nd 114 (am_nd 112 (am_lf (110, .bipush 24, 2)) (am_lf (112, .iload 7, 2))) (am_nd 115 (am_lf (114, .imul, 1)) (am_lf (115, .aload_n 2, 1)))) (am_nd 120 (am_nd 117 (am_lf (116, .iload_n 3, 1)) (am_lf (117, .invokestatic 179, 3))) (am_nd 123 (am_lf (120, .ifCond .eq 6, 3)) (am_lf (123, .iload 7, 2)))))))
def am_c188_2 : am_T am_E 5 := (am_nd 154 (am_nd 141 (am_nd 133 (am_nd 129 (am_nd 126 (am_lf (125, .ireturn, 1)) (am_lf (126, .iinc 7 1, 3))) (am_nd 132 (am_lf (129, .goto (-109), 3)) (am_lf (132, .aload_n 0, 1)))) (am_nd 137 (am_nd 136 (am_lf (133, .getfield 22, 3)) (am_lf (136, .aload_n 0, 1))) (am_nd 140 (am_lf (137, .getfield 176, 3)) (am_lf (140, .iload_n 1, 1))))) (am_nd 145 (am_nd 143 (am_nd 142 (am_lf (141, .iastore, 1)) (am_lf (142, .aload_n 2, 1))) (am_nd 144 (am_lf (143, .iload_n 3, 1)) (am_lf (144, .aload_n 0, 1)))) (am_nd 150 (am_nd 148 (am_lf (145, .getfield 25, 3)) (am_lf (148, .bipush 24, 2))) (am_nd 151 (am_lf (150, .aload_n 0, 1)) (am_lf (151, .getfield 176, 3)))))) (am_nd 169 (am_nd 162 (am_nd 158 (am_nd 155 (am_lf (154, .imul, 1)) (am_lf (155, .invokestatic 183, 3))) (am_nd 160 (am_lf (158, .aload 4, 2)) (am_lf (160, .iload 5, 2)))) (am_nd 166 (am_nd 163 (am_lf (162, .aload_n 0, 1)) (am_lf (163, .getfield 28, 3))) (am_nd 168 (am_lf (166, .bipush 24, 2)) (am_lf (168, .aload_n 0, 1))))) (am_nd 177 (am_nd 173 (am_nd 172 (am_lf (169, .getfield 176, 3)) (am_lf (172, .imul, 1))) (am_nd 176 (am_lf (173, .invokestatic 183, 3)) (am_lf (176, .aload_n 0, 1)))) (am_nd 181 (am_nd 178 (am_lf (177, .dup, 1)) (am_lf (178, .getfield 176, 3))) (am_nd 182 (am_lf (181, .iconst 1, 1)) (am_lf (182, .iadd, 1)))))))
def am_c188_3 : am_T am_E 5 := (am_nd 1000000 (am_nd 1000000 (am_nd 191 (am_nd 187 (am_nd 186 (am_lf (183, .putfield 176, 3)) (am_lf (186, .aload_n 0, 1))) (am_nd 190 (am_lf (187, .getfield 176, 3)) (am_lf (190, .iconst 1, 1)))) (am_nd 1000000 (am_nd 192 (am_lf (191, .isub, 1)) (am_lf (192, .ireturn, 1))) (am_nd 1000000 (am_lf (192, .ireturn, 1)) (am_lf (192, .ireturn, 1))))) (am_nd 1000000 (am_nd 1000000 (am_nd 1000000 (am_lf (192, .ireturn, 1)) (am_lf (192, .ireturn, 1))) (am_nd 1000000 (am_lf (192, .ireturn, 1)) (am_lf (192, .ireturn, 1)))) (am_nd 1000000 (am_nd 1000000 (am_lf (192, .ireturn, 1)) (am_lf (192, .ireturn, 1))) (am_nd 1000000 (am_lf (192, .ireturn, 1)) (am_lf (192, .ireturn, 1)))))) (am_nd 1000000 (am_nd 1000000 (am_nd 1000000 (am_nd 1000000 (am_lf (192, .ireturn, 1)) (am_lf (192, .ireturn, 1))) (am_nd 1000000 (am_lf (192, .ireturn, 1)) (am_lf (192, .ireturn, 1)))) (am_nd 1000000 (am_nd 1000000 (am_lf (192, .ireturn, 1)) (am_lf (192, .ireturn, 1))) (am_nd 1000000 (am_lf (192, .ireturn, 1)) (am_lf (192, .ireturn, 1))))) (am_nd 1000000 (am_nd 1000000 (am_nd 1000000 (am_lf (192, .ireturn, 1)) (am_lf (192, .ireturn, 1))) (am_nd 1000000 (am_lf (192, .ireturn, 1)) (am_lf (192, .ireturn, 1)))) (am_nd 1000000 (am_nd 1000000 (am_lf (192, .ireturn, 1)) (am_lf (192, .ireturn, 1))) (am_nd 1000000 (am_lf (192, .ireturn, 1)) (am_lf (192, .ireturn, 1)))))))
def am_c188 : am_T am_E 7 := (am_nd 125 (am_nd 60 am_c188_0 am_c188_1) (am_nd 183 am_c188_2 am_c188_3))
def am_c189 : am_T am_E 4 := (am_nd 14 (am_nd 6 (am_nd 4 (am_nd 1 (am_lf (0, .aload_n 0, 1)) (am_lf (1, .getfield 46, 3))) (am_nd 5 (am_lf (4, .iconst 0, 1)) (am_lf (5, .iconst 0, 1)))) (am_nd 10 (am_nd 9 (am_lf (6, .invokestatic 187, 3)) (am_lf (9, .aload_n 0, 1))) (am_nd 13 (am_lf (10, .getfield 46, 3)) (am_lf (13, .iconst 1, 1))))) (am_nd 18 (am_nd 16 (am_nd 15 (am_lf (14, .iload_n 1, 1)) (am_lf (15, .iadd, 1))) (am_nd 17 (am_lf (16, .iconst 1, 1)) (am_lf (17, .iastore, 1)))) (am_nd 1000000 (am_nd 1000000 (am_lf (18, .return_, 1)) (am_lf (18, .return_, 1))) (am_nd 1000000 (am_lf (18, .return_, 1)) (am_lf (18, .return_, 1))))))
def am_c190_0 : am_T am_E 5 := (am_nd 29 (am_nd 13 (am_nd 7 (am_nd 3 (am_nd 1 (am_lf (0, .aload_n 0, 1)) (am_lf (1, .bipush 8, 2))) (am_nd 4 (am_lf (3, .aload_n 0, 1)) (am_lf (4, .getfield 31, 3)))) (am_nd 9 (am_nd 8 (am_lf (7, .iload_n 2, 1)) (am_lf (8, .aload_n 0, 1))) (am_nd 12 (am_lf (9, .getfield 49, 3)) (am_lf (12, .iconst 0, 1))))) (am_nd 21 (am_nd 17 (am_nd 16 (am_lf (13, .invokevirtual 195, 3)) (am_lf (16, .istore_n 3, 1))) (am_nd 18 (am_lf (17, .aload_n 0, 1)) (am_lf (18, .getfield 31, 3)))) (am_nd 25 (am_nd 22 (am_lf (21, .iload_n 2, 1)) (am_lf (22, .invokestatic 191, 3))) (am_nd 28 (am_lf (25, .ifCond .eq 27, 3)) (am_lf (28, .aload_n 0, 1)))))) (am_nd 43 (am_nd 37 (am_nd 33 (am_nd 32 (am_lf (29, .getfield 31, 3)) (am_lf (32, .iload_n 2, 1))) (am_nd 34 (am_lf (33, .iaload, 1)) (am_lf (34, .ifCond .lt 18, 3)))) (am_nd 41 (am_nd 38 (am_lf (37, .aload_n 0, 1)) (am_lf (38, .getfield 31, 3))) (am_nd 42 (am_lf (41, .iload_n 2, 1)) (am_lf (42, .iaload, 1))))) (am_nd 52 (am_nd 48 (am_nd 45 (am_lf (43, .bipush 8, 2)) (am_lf (45, .if_icmp .ge 7, 3))) (am_nd 49 (am_lf (48, .iconst 1, 1)) (am_lf (49, .goto 4, 3)))) (am_nd 55 (am_nd 53 (am_lf (52, .iconst 0, 1)) (am_lf (53, .istore 4, 2))) (am_nd 57 (am_lf (55, .iload 4, 2)) (am_lf (57, .ifCond .ne 29, 3)))))))
def am_c190_1 : am_T am_E 5 := (am_nd 87 (am_nd 73 (am_nd 66 (am_nd 64 (am_nd 61 (am_lf (60, .aload_n 0, 1)) (am_lf (61, .getfield 102, 3))) (am_nd 65 (am_lf (64, .iload_n 3, 1)) (am_lf (65, .baload, 1)))) (am_nd 70 (am_nd 69 (am_lf (66, .ifCond .ne 20, 3)) (am_lf (69, .aload_n 0, 1))) (am_nd 71 (am_lf (70, .iload_n 1, 1)) (am_lf (71, .bipush 8, 2))))) (am_nd 79 (am_nd 77 (am_nd 74 (am_lf (73, .aload_n 0, 1)) (am_lf (74, .getfield 31, 3))) (am_nd 78 (am_lf (77, .iload_n 2, 1)) (am_lf (78, .aload_n 0, 1)))) (am_nd 83 (am_nd 82 (am_lf (79, .getfield 49, 3)) (am_lf (82, .iconst 0, 1))) (am_nd 86 (am_lf (83, .invokevirtual 206, 3)) (am_lf (86, .aload_n 0, 1)))))) (am_nd 1000000 (am_nd 93 (am_nd 91 (am_nd 90 (am_lf (87, .getfield 102, 3)) (am_lf (90, .iload_n 3, 1))) (am_nd 92 (am_lf (91, .iconst 1, 1)) (am_lf (92, .bastore, 1)))) (am_nd 95 (am_nd 94 (am_lf (93, .aload_n 0, 1)) (am_lf (94, .iload_n 3, 1))) (am_nd 98 (am_lf (95, .invokevirtual 199, 3)) (am_lf (98, .return_, 1))))) (am_nd 1000000 (am_nd 1000000 (am_nd 1000000 (am_lf (98, .return_, 1)) (am_lf (98, .return_, 1))) (am_nd 1000000 (am_lf (98, .return_, 1)) (am_lf (98, .return_, 1)))) (am_nd 1000000 (am_nd 1000000 (am_lf (98, .return_, 1)) (am_lf (98, .return_, 1))) (am_nd 1000000 (am_lf (98, .return_, 1)) (am_lf (98, .return_, 1)))))))
def am_c190 : am_T am_E 6 := (am_nd 60 am_c190_0 am_c190_1)
def am_c191_0 : am_T am_E 5 := (am_nd 30 (am_nd 15 (am_nd 8 (am_nd 4 (am_nd 1 (am_lf (0, .aload_n 0, 1)) (am_lf (1, .getfield 31, 3))) (am_nd 5 (am_lf (4, .iload_n 2, 1)) (am_lf (5, .invokestatic 191, 3)))) (am_nd 11 (am_nd 10 (am_lf (8, .istore 4, 2)) (am_lf (10, .aload_n 0, 1))) (am_nd 14 (am_lf (11, .getfield 31, 3)) (am_lf (14, .iload_n 3, 1))))) (am_nd 24 (am_nd 20 (am_nd 18 (am_lf (15, .invokestatic 191, 3)) (am_lf (18, .istore 5, 2))) (am_nd 21 (am_lf (20, .aload_n 0, 1)) (am_lf (21, .getfield 31, 3)))) (am_nd 26 (am_nd 25 (am_lf (24, .iload_n 2, 1)) (am_lf (25, .aload_n 0, 1))) (am_nd 29 (am_lf (26, .getfield 31, 3)) (am_lf (29, .iload_n 3, 1)))))) (am_nd 45 (am_nd 37 (am_nd 35 (am_nd 33 (am_lf (30, .invokestatic 179, 3)) (am_lf (33, .istore 6, 2))) (am_nd 36 (am_lf (35, .iload_n 1, 1)) (am_lf (36, .iconst 2, 1)))) (am_nd 41 (am_nd 40 (am_lf (37, .if_icmp .eq 8, 3)) (am_lf (40, .iload_n 1, 1))) (am_nd 42 (am_lf (41, .iconst 3, 1)) (am_lf (42, .if_icmp .ne 75, 3))))) (am_nd 52 (am_nd 48 (am_nd 46 (am_lf (45, .iconst 0, 1)) (am_lf (46, .istore 7, 2))) (am_nd 50 (am_lf (48, .iload 7, 2)) (am_lf (50, .bipush 24, 2)))) (am_nd 56 (am_nd 55 (am_lf (52, .if_icmp .ge 62, 3)) (am_lf (55, .aload_n 0, 1))) (am_nd 59 (am_lf (56, .getfield 46, 3)) (am_lf (59, .iload 7, 2)))))))
def am_c191_1 : am_T am_E 5 := (am_nd 85 (am_nd 74 (am_nd 67 (am_nd 63 (am_nd 62 (am_lf (61, .iload_n 1, 1)) (am_lf (62, .iconst 2, 1))) (am_nd 66 (am_lf (63, .if_icmp .ne 25, 3)) (am_lf (66, .aload_n 0, 1)))) (am_nd 71 (am_nd 70 (am_lf (67, .getfield 31, 3)) (am_lf (70, .iload_n 2, 1))) (am_nd 73 (am_lf (71, .iload 7, 2)) (am_lf (73, .iadd, 1))))) (am_nd 80 (am_nd 76 (am_nd 75 (am_lf (74, .iaload, 1)) (am_lf (75, .aload_n 0, 1))) (am_nd 79 (am_lf (76, .getfield 31, 3)) (am_lf (79, .iload_n 3, 1)))) (am_nd 83 (am_nd 82 (am_lf (80, .iload 7, 2)) (am_lf (82, .iadd, 1))) (am_nd 84 (am_lf (83, .iaload, 1)) (am_lf (84, .iadd, 1)))))) (am_nd 98 (am_nd 93 (am_nd 89 (am_nd 88 (am_lf (85, .goto 22, 3)) (am_lf (88, .aload_n 0, 1))) (am_nd 92 (am_lf (89, .getfield 31, 3)) (am_lf (92, .iload_n 2, 1)))) (am_nd 96 (am_nd 95 (am_lf (93, .iload 7, 2)) (am_lf (95, .iadd, 1))) (am_nd 97 (am_lf (96, .iaload, 1)) (am_lf (97, .aload_n 0, 1))))) (am_nd 105 (am_nd 102 (am_nd 101 (am_lf (98, .getfield 31, 3)) (am_lf (101, .iload_n 3, 1))) (am_nd 104 (am_lf (102, .iload 7, 2)) (am_lf (104, .iadd, 1)))) (am_nd 107 (am_nd 106 (am_lf (105, .iaload, 1)) (am_lf (106, .isub, 1))) (am_nd 108 (am_lf (107, .iastore, 1)) (am_lf (108, .iinc 7 1, 3)))))))
def am_c191_2 : am_T am_E 5 := (am_nd 146 (am_nd 129 (am_nd 119 (am_nd 117 (am_nd 114 (am_lf (111, .goto (-63), 3)) (am_lf (114, .goto 317, 3))) (am_nd 118 (am_lf (117, .iload_n 1, 1)) (am_lf (118, .iconst 4, 1)))) (am_nd 124 (am_nd 122 (am_lf (119, .if_icmp .ne 86, 3)) (am_lf (122, .iload 4, 2))) (am_nd 127 (am_lf (124, .ifCond .ne 8, 3)) (am_lf (127, .iload 5, 2))))) (am_nd 138 (am_nd 134 (am_nd 132 (am_lf (129, .ifCond .eq 76, 3)) (am_lf (132, .iload 4, 2))) (am_nd 137 (am_lf (134, .ifCond .eq 12, 3)) (am_lf (137, .aload_n 0, 1)))) (am_nd 142 (am_nd 141 (am_lf (138, .getfield 31, 3)) (am_lf (141, .iload_n 2, 1))) (am_nd 143 (am_lf (142, .iaload, 1)) (am_lf (143, .goto 9, 3)))))) (am_nd 160 (am_nd 152 (am_nd 150 (am_nd 147 (am_lf (146, .aload_n 0, 1)) (am_lf (147, .getfield 31, 3))) (am_nd 151 (am_lf (150, .iload_n 3, 1)) (am_lf (151, .iaload, 1)))) (am_nd 156 (am_nd 154 (am_lf (152, .istore 7, 2)) (am_lf (154, .iload 4, 2))) (am_nd 159 (am_lf (156, .ifCond .eq 7, 3)) (am_lf (159, .iload_n 3, 1))))) (am_nd 167 (am_nd 164 (am_nd 163 (am_lf (160, .goto 4, 3)) (am_lf (163, .iload_n 2, 1))) (am_nd 166 (am_lf (164, .istore 8, 2)) (am_lf (166, .iconst 0, 1)))) (am_nd 171 (am_nd 169 (am_lf (167, .istore 9, 2)) (am_lf (169, .iload 9, 2))) (am_nd 173 (am_lf (171, .bipush 24, 2)) (am_lf (173, .if_icmp .ge 29, 3)))))))
def am_c191_3 : am_T am_E 5 := (am_nd 207 (am_nd 192 (am_nd 184 (am_nd 180 (am_nd 177 (am_lf (176, .aload_n 0, 1)) (am_lf (177, .getfield 46, 3))) (am_nd 182 (am_lf (180, .iload 9, 2)) (am_lf (182, .iload 7, 2)))) (am_nd 188 (am_nd 185 (am_lf (184, .aload_n 0, 1)) (am_lf (185, .getfield 31, 3))) (am_nd 190 (am_lf (188, .iload 8, 2)) (am_lf (190, .iload 9, 2))))) (am_nd 196 (am_nd 194 (am_nd 193 (am_lf (192, .iadd, 1)) (am_lf (193, .iaload, 1))) (am_nd 195 (am_lf (194, .imul, 1)) (am_lf (195, .iastore, 1)))) (am_nd 202 (am_nd 199 (am_lf (196, .iinc 9 1, 3)) (am_lf (199, .goto (-30), 3))) (am_nd 205 (am_lf (202, .goto 229, 3)) (am_lf (205, .iload 4, 2)))))) (am_nd 225 (am_nd 216 (am_nd 212 (am_nd 210 (am_lf (207, .ifCond .eq 41, 3)) (am_lf (210, .iload 5, 2))) (am_nd 215 (am_lf (212, .ifCond .eq 36, 3)) (am_lf (215, .iload_n 1, 1)))) (am_nd 221 (am_nd 218 (am_lf (216, .bipush 7, 2)) (am_lf (218, .if_icmp .ge 30, 3))) (am_nd 222 (am_lf (221, .aload_n 0, 1)) (am_lf (222, .getfield 46, 3))))) (am_nd 231 (am_nd 227 (am_nd 226 (am_lf (225, .iconst 0, 1)) (am_lf (226, .iload_n 1, 1))) (am_nd 228 (am_lf (227, .aload_n 0, 1)) (am_lf (228, .getfield 31, 3)))) (am_nd 233 (am_nd 232 (am_lf (231, .iload_n 2, 1)) (am_lf (232, .iaload, 1))) (am_nd 234 (am_lf (233, .aload_n 0, 1)) (am_lf (234, .getfield 31, 3)))))))
def am_c191_4 : am_T am_E 5 := (am_nd 268 (am_nd 253 (am_nd 245 (am_nd 239 (am_nd 238 (am_lf (237, .iload_n 3, 1)) (am_lf (238, .iaload, 1))) (am_nd 242 (am_lf (239, .invokestatic 156, 3)) (am_lf (242, .invokestatic 187, 3)))) (am_nd 249 (am_nd 248 (am_lf (245, .goto 186, 3)) (am_lf (248, .iload_n 1, 1))) (am_nd 250 (am_lf (249, .iconst 5, 1)) (am_lf (250, .if_icmp .ne 24, 3))))) (am_nd 262 (am_nd 258 (am_nd 255 (am_lf (253, .iload 6, 2)) (am_lf (255, .ifCond .eq 19, 3))) (am_nd 259 (am_lf (258, .aload_n 0, 1)) (am_lf (259, .getfield 31, 3)))) (am_nd 264 (am_nd 263 (am_lf (262, .iload_n 2, 1)) (am_lf (263, .aload_n 0, 1))) (am_nd 267 (am_lf (264, .getfield 46, 3)) (am_lf (267, .iconst 0, 1)))))) (am_nd 285 (am_nd 276 (am_nd 274 (am_nd 271 (am_lf (268, .invokestatic 183, 3)) (am_lf (271, .goto 160, 3))) (am_nd 275 (am_lf (274, .iload_n 1, 1)) (am_lf (275, .iconst 5, 1)))) (am_nd 281 (am_nd 279 (am_lf (276, .if_icmp .ne 43, 3)) (am_lf (279, .iload 4, 2))) (am_nd 284 (am_lf (281, .ifCond .eq 12, 3)) (am_lf (284, .aload_n 0, 1))))) (am_nd 293 (am_nd 289 (am_nd 288 (am_lf (285, .getfield 31, 3)) (am_lf (288, .iload_n 2, 1))) (am_nd 290 (am_lf (289, .iaload, 1)) (am_lf (290, .ifCond .eq 17, 3)))) (am_nd 298 (am_nd 295 (am_lf (293, .iload 5, 2)) (am_lf (295, .ifCond .eq 24, 3))) (am_nd 299 (am_lf (298, .aload_n 0, 1)) (am_lf (299, .getfield 31, 3)))))))
def am_c191_5 : am_T am_E 5 := (am_nd 333 (am_nd 316 (am_nd 308 (am_nd 304 (am_nd 303 (am_lf (302, .iload_n 3, 1)) (am_lf (303, .iaload, 1))) (am_nd 307 (am_lf (304, .ifCond .ne 15, 3)) (am_lf (307, .aload_n 0, 1)))) (am_nd 312 (am_nd 311 (am_lf (308, .getfield 46, 3)) (am_lf (311, .iconst 0, 1))) (am_nd 313 (am_lf (312, .iconst 0, 1)) (am_lf (313, .invokestatic 187, 3))))) (am_nd 324 (am_nd 320 (am_nd 319 (am_lf (316, .goto 115, 3)) (am_lf (319, .iload_n 1, 1))) (am_nd 321 (am_lf (320, .iconst 5, 1)) (am_lf (321, .if_icmp .ne 68, 3)))) (am_nd 329 (am_nd 326 (am_lf (324, .iload 4, 2)) (am_lf (326, .ifCond .eq 13, 3))) (am_nd 330 (am_lf (329, .aload_n 0, 1)) (am_lf (330, .getfield 31, 3)))))) (am_nd 348 (am_nd 339 (am_nd 335 (am_nd 334 (am_lf (333, .iload_n 2, 1)) (am_lf (334, .iaload, 1))) (am_nd 336 (am_lf (335, .iconst (-1), 1)) (am_lf (336, .if_icmp .eq 18, 3)))) (am_nd 344 (am_nd 341 (am_lf (339, .iload 5, 2)) (am_lf (341, .ifCond .eq 48, 3))) (am_nd 345 (am_lf (344, .aload_n 0, 1)) (am_lf (345, .getfield 31, 3))))) (am_nd 354 (am_nd 350 (am_nd 349 (am_lf (348, .iload_n 3, 1)) (am_lf (349, .iaload, 1))) (am_nd 351 (am_lf (350, .iconst (-1), 1)) (am_lf (351, .if_icmp .ne 38, 3)))) (am_nd 358 (am_nd 355 (am_lf (354, .aload_n 0, 1)) (am_lf (355, .getfield 31, 3))) (am_nd 360 (am_lf (358, .iload 4, 2)) (am_lf (360, .ifCond .eq 17, 3)))))))
def am_c191_6 : am_T am_E 5 := (am_nd 392 (am_nd 377 (am_nd 369 (am_nd 367 (am_nd 364 (am_lf (363, .aload_n 0, 1)) (am_lf (364, .getfield 31, 3))) (am_nd 368 (am_lf (367, .iload_n 2, 1)) (am_lf (368, .iaload, 1)))) (am_nd 373 (am_nd 370 (am_lf (369, .iconst (-1), 1)) (am_lf (370, .if_icmp .ne 7, 3))) (am_nd 374 (am_lf (373, .iload_n 3, 1)) (am_lf (374, .goto 4, 3))))) (am_nd 383 (am_nd 379 (am_nd 378 (am_lf (377, .iload_n 2, 1)) (am_lf (378, .aload_n 0, 1))) (am_nd 382 (am_lf (379, .getfield 46, 3)) (am_lf (382, .iconst 0, 1)))) (am_nd 389 (am_nd 386 (am_lf (383, .invokestatic 183, 3)) (am_lf (386, .goto 45, 3))) (am_nd 390 (am_lf (389, .iload_n 1, 1)) (am_lf (390, .bipush 6, 2)))))) (am_nd 409 (am_nd 401 (am_nd 397 (am_nd 395 (am_lf (392, .if_icmp .ne 20, 3)) (am_lf (395, .iload 6, 2))) (am_nd 400 (am_lf (397, .ifCond .eq 15, 3)) (am_lf (400, .aload_n 0, 1)))) (am_nd 405 (am_nd 404 (am_lf (401, .getfield 46, 3)) (am_lf (404, .iconst 0, 1))) (am_nd 406 (am_lf (405, .iconst 0, 1)) (am_lf (406, .invokestatic 187, 3))))) (am_nd 415 (am_nd 413 (am_nd 412 (am_lf (409, .goto 22, 3)) (am_lf (412, .aload_n 0, 1))) (am_nd 414 (am_lf (413, .aload_n 0, 1)) (am_lf (414, .iload_n 1, 1)))) (am_nd 419 (am_nd 416 (am_lf (415, .aload_n 0, 1)) (am_lf (416, .getfield 31, 3))) (am_nd 420 (am_lf (419, .iload_n 2, 1)) (am_lf (420, .aload_n 0, 1)))))))
def am_c191_7 : am_T am_E 5 := (am_nd 1000000 (am_nd 1000000 (am_nd 431 (am_nd 425 (am_nd 424 (am_lf (421, .getfield 31, 3)) (am_lf (424, .iload_n 3, 1))) (am_nd 428 (am_lf (425, .invokevirtual 195, 3)) (am_lf (428, .invokevirtual 199, 3)))) (am_nd 1000000 (am_nd 1000000 (am_lf (431, .return_, 1)) (am_lf (431, .return_, 1))) (am_nd 1000000 (am_lf (431, .return_, 1)) (am_lf (431, .return_, 1))))) (am_nd 1000000 (am_nd 1000000 (am_nd 1000000 (am_lf (431, .return_, 1)) (am_lf (431, .return_, 1))) (am_nd 1000000 (am_lf (431, .return_, 1)) (am_lf (431, .return_, 1)))) (am_nd 1000000 (am_nd 1000000 (am_lf (431, .return_, 1)) (am_lf (431, .return_, 1))) (am_nd 1000000 (am_lf (431, .return_, 1)) (am_lf (431, .return_, 1)))))) (am_nd 1000000 (am_nd 1000000 (am_nd 1000000 (am_nd 1000000 (am_lf (431, .return_, 1)) (am_lf (431, .return_, 1))) (am_nd 1000000 (am_lf (431, .return_, 1)) (am_lf (431, .return_, 1)))) (am_nd 1000000 (am_nd 1000000 (am_lf (431, .return_, 1)) (am_lf (431, .return_, 1))) (am_nd 1000000 (am_lf (431, .return_, 1)) (am_lf (431, .return_, 1))))) (am_nd 1000000 (am_nd 1000000 (am_nd 1000000 (am_lf (431, .return_, 1)) (am_lf (431, .return_, 1))) (am_nd 1000000 (am_lf (431, .return_, 1)) (am_lf (431, .return_, 1)))) (am_nd 1000000 (am_nd 1000000 (am_lf (431, .return_, 1)) (am_lf (431, .return_, 1))) (am_nd 1000000 (am_lf (431, .return_, 1)) (am_lf (431, .return_, 1)))))))
def am_c191 : am_T am_E 8 := (am_nd 237 (am_nd 111 (am_nd 61 am_c191_0 am_c191_1) (am_nd 176 am_c191_2 am_c191_3)) (am_nd 363 (am_nd 302 am_c191_4 am_c191_5) (am_nd 421 am_c191_6 am_c191_7)))
def am_c192_0 : am_T am_E 5 := (am_nd 25 (am_nd 14 (am_nd 6 (am_nd 2 (am_nd 1 (am_lf (0, .iload_n 2, 1)) (am_lf (1, .iconst (-1), 1))) (am_nd 5 (am_lf (2, .if_icmp .ne 7, 3)) (am_lf (5, .iconst 2, 1)))) (am_nd 10 (am_nd 9 (am_lf (6, .goto 9, 3)) (am_lf (9, .aload_n 0, 1))) (am_nd 13 (am_lf (10, .getfield 19, 3)) (am_lf (13, .iload_n 2, 1))))) (am_nd 20 (am_nd 16 (am_nd 15 (am_lf (14, .iaload, 1)) (am_lf (15, .istore_n 3, 1))) (am_nd 19 (am_lf (16, .sipush 144, 3)) (am_lf (19, .iload_n 1, 1)))) (am_nd 23 (am_nd 21 (am_lf (20, .imul, 1)) (am_lf (21, .bipush 24, 2))) (am_nd 24 (am_lf (23, .iload_n 2, 1)) (am_lf (24, .iconst (-1), 1)))))) (am_nd 39 (am_nd 33 (am_nd 29 (am_nd 28 (am_lf (25, .if_icmp .ne 7, 3)) (am_lf (28, .iconst 0, 1))) (am_nd 32 (am_lf (29, .goto 11, 3)) (am_lf (32, .aload_n 0, 1)))) (am_nd 37 (am_nd 36 (am_lf (33, .getfield 19, 3)) (am_lf (36, .iload_n 2, 1))) (am_nd 38 (am_lf (37, .iconst 1, 1)) (am_lf (38, .iadd, 1))))) (am_nd 44 (am_nd 41 (am_nd 40 (am_lf (39, .iaload, 1)) (am_lf (40, .imul, 1))) (am_nd 42 (am_lf (41, .iadd, 1)) (am_lf (42, .istore 4, 2)))) (am_nd 46 (am_nd 45 (am_lf (44, .iload_n 2, 1)) (am_lf (45, .iconst (-1), 1))) (am_nd 49 (am_lf (46, .if_icmp .ne 7, 3)) (am_lf (49, .iconst 0, 1)))))))
def am_c192_1 : am_T am_E 5 := (am_nd 77 (am_nd 63 (am_nd 58 (am_nd 54 (am_nd 53 (am_lf (50, .goto 11, 3)) (am_lf (53, .aload_n 0, 1))) (am_nd 57 (am_lf (54, .getfield 19, 3)) (am_lf (57, .iload_n 2, 1)))) (am_nd 60 (am_nd 59 (am_lf (58, .iconst 2, 1)) (am_lf (59, .iadd, 1))) (am_nd 61 (am_lf (60, .iaload, 1)) (am_lf (61, .istore 5, 2))))) (am_nd 69 (am_nd 65 (am_nd 64 (am_lf (63, .iload_n 2, 1)) (am_lf (64, .iconst (-1), 1))) (am_nd 68 (am_lf (65, .if_icmp .ne 7, 3)) (am_lf (68, .iconst 0, 1)))) (am_nd 73 (am_nd 72 (am_lf (69, .goto 11, 3)) (am_lf (72, .aload_n 0, 1))) (am_nd 76 (am_lf (73, .getfield 19, 3)) (am_lf (76, .iload_n 2, 1)))))) (am_nd 89 (am_nd 82 (am_nd 79 (am_nd 78 (am_lf (77, .iconst 3, 1)) (am_lf (78, .iadd, 1))) (am_nd 80 (am_lf (79, .iaload, 1)) (am_lf (80, .istore 6, 2)))) (am_nd 84 (am_nd 83 (am_lf (82, .iload_n 3, 1)) (am_lf (83, .iconst 1, 1))) (am_nd 87 (am_lf (84, .if_icmp .ne 50, 3)) (am_lf (87, .iload 5, 2))))) (am_nd 98 (am_nd 94 (am_nd 91 (am_lf (89, .iload 6, 2)) (am_lf (91, .if_icmp .eq 15, 3))) (am_nd 95 (am_lf (94, .aload_n 0, 1)) (am_lf (95, .getfield 31, 3)))) (am_nd 103 (am_nd 100 (am_lf (98, .iload 4, 2)) (am_lf (100, .invokestatic 191, 3))) (am_nd 106 (am_lf (103, .ifCond .eq 31, 3)) (am_lf (106, .iconst 0, 1)))))))
def am_c192_2 : am_T am_E 5 := (am_nd 139 (am_nd 122 (am_nd 115 (am_nd 110 (am_nd 108 (am_lf (107, .istore_n 3, 1)) (am_lf (108, .iload 5, 2))) (am_nd 112 (am_lf (110, .iload 6, 2)) (am_lf (112, .if_icmp .eq 13, 3)))) (am_nd 119 (am_nd 116 (am_lf (115, .aload_n 0, 1)) (am_lf (116, .getfield 31, 3))) (am_nd 121 (am_lf (119, .iload 4, 2)) (am_lf (121, .iaload, 1))))) (am_nd 132 (am_nd 127 (am_nd 125 (am_lf (122, .ifCond .eq 8, 3)) (am_lf (125, .iload 5, 2))) (am_nd 130 (am_lf (127, .goto 5, 3)) (am_lf (130, .iload 6, 2)))) (am_nd 135 (am_nd 134 (am_lf (132, .istore 5, 2)) (am_lf (134, .aload_n 0, 1))) (am_nd 138 (am_lf (135, .getfield 52, 3)) (am_lf (138, .iload_n 1, 1)))))) (am_nd 150 (am_nd 145 (am_nd 141 (am_nd 140 (am_lf (139, .iload_n 3, 1)) (am_lf (140, .iastore, 1))) (am_nd 142 (am_lf (141, .aload_n 0, 1)) (am_lf (142, .getfield 55, 3)))) (am_nd 148 (am_nd 146 (am_lf (145, .iload_n 1, 1)) (am_lf (146, .iload 4, 2))) (am_nd 149 (am_lf (148, .iastore, 1)) (am_lf (149, .aload_n 0, 1))))) (am_nd 157 (am_nd 154 (am_nd 153 (am_lf (150, .getfield 58, 3)) (am_lf (153, .iload_n 1, 1))) (am_nd 156 (am_lf (154, .iload 5, 2)) (am_lf (156, .iastore, 1)))) (am_nd 161 (am_nd 158 (am_lf (157, .aload_n 0, 1)) (am_lf (158, .getfield 61, 3))) (am_nd 162 (am_lf (161, .iload_n 1, 1)) (am_lf (162, .iload 6, 2)))))))
def am_c192_3 : am_T am_E 5 := (am_nd 1000000 (am_nd 1000000 (am_nd 1000000 (am_nd 1000000 (am_nd 165 (am_lf (164, .iastore, 1)) (am_lf (165, .return_, 1))) (am_nd 1000000 (am_lf (165, .return_, 1)) (am_lf (165, .return_, 1)))) (am_nd 1000000 (am_nd 1000000 (am_lf (165, .return_, 1)) (am_lf (165, .return_, 1))) (am_nd 1000000 (am_lf (165, .return_, 1)) (am_lf (165, .return_, 1))))) (am_nd 1000000 (am_nd 1000000 (am_nd 1000000 (am_lf (165, .return_, 1)) (am_lf (165, .return_, 1))) (am_nd 1000000 (am_lf (165, .return_, 1)) (am_lf (165, .return_, 1)))) (am_nd 1000000 (am_nd 1000000 (am_lf (165, .return_, 1)) (am_lf (165, .return_, 1))) (am_nd 1000000 (am_lf (165, .return_, 1)) (am_lf (165, .return_, 1)))))) (am_nd 1000000 (am_nd 1000000 (am_nd 1000000 (am_nd 1000000 (am_lf (165, .return_, 1)) (am_lf (165, .return_, 1))) (am_nd 1000000 (am_lf (165, .return_, 1)) (am_lf (165, .return_, 1)))) (am_nd 1000000 (am_nd 1000000 (am_lf (165, .return_, 1)) (am_lf (165, .return_, 1))) (am_nd 1000000 (am_lf (165, .return_, 1)) (am_lf (165, .return_, 1))))) (am_nd 1000000 (am_nd 1000000 (am_nd 1000000 (am_lf (165, .return_, 1)) (am_lf (165, .return_, 1))) (am_nd 1000000 (am_lf (165, .return_, 1)) (am_lf (165, .return_, 1)))) (am_nd 1000000 (am_nd 1000000 (am_lf (165, .return_, 1)) (am_lf (165, .return_, 1))) (am_nd 1000000 (am_lf (165, .return_, 1)) (am_lf (165, .return_, 1)))))))
def am_c192 : am_T am_E 7 := (am_nd 107 (am_nd 50 am_c192_0 am_c192_1) (am_nd 164 am_c192_2 am_c192_3))
def am_c193_0 : am_T am_E 5 := (am_nd 24 (am_nd 12 (am_nd 6 (am_nd 4 (am_nd 1 (am_lf (0, .aload_n 0, 1)) (am_lf (1, .getfield 34, 3))) (am_nd 5 (am_lf (4, .iconst 0, 1)) (am_lf (5, .iaload, 1)))) (am_nd 10 (am_nd 7 (am_lf (6, .aload_n 0, 1)) (am_lf (7, .getfield 34, 3))) (am_nd 11 (am_lf (10, .iconst 1, 1)) (am_lf (11, .iaload, 1))))) (am_nd 20 (am_nd 16 (am_nd 15 (am_lf (12, .if_icmp .ne 7, 3)) (am_lf (15, .iconst 1, 1))) (am_nd 19 (am_lf (16, .goto 4, 3)) (am_lf (19, .iconst 0, 1)))) (am_nd 22 (am_nd 21 (am_lf (20, .istore_n 1, 1)) (am_lf (21, .iconst 0, 1))) (am_nd 23 (am_lf (22, .istore_n 2, 1)) (am_lf (23, .iload_n 2, 1)))))) (am_nd 38 (am_nd 30 (am_nd 28 (am_nd 25 (am_lf (24, .aload_n 0, 1)) (am_lf (25, .getfield 34, 3))) (am_nd 29 (am_lf (28, .iconst 0, 1)) (am_lf (29, .iaload, 1)))) (am_nd 34 (am_nd 33 (am_lf (30, .if_icmp .ge 87, 3)) (am_lf (33, .iload_n 1, 1))) (am_nd 37 (am_lf (34, .ifCond .eq 83, 3)) (am_lf (37, .aload_n 0, 1))))) (am_nd 44 (am_nd 42 (am_nd 41 (am_lf (38, .getfield 37, 3)) (am_lf (41, .iload_n 2, 1))) (am_nd 43 (am_lf (42, .iaload, 1)) (am_lf (43, .aload_n 0, 1)))) (am_nd 49 (am_nd 47 (am_lf (44, .getfield 37, 3)) (am_lf (47, .bipush 8, 2))) (am_nd 50 (am_lf (49, .iload_n 2, 1)) (am_lf (50, .iadd, 1)))))))
def am_c193_1 : am_T am_E 5 := (am_nd 80 (am_nd 64 (am_nd 59 (am_nd 55 (am_nd 52 (am_lf (51, .iaload, 1)) (am_lf (52, .if_icmp .ne 57, 3))) (am_nd 56 (am_lf (55, .aload_n 0, 1)) (am_lf (56, .getfield 40, 3)))) (am_nd 62 (am_nd 61 (am_lf (59, .bipush 24, 2)) (am_lf (61, .iload_n 2, 1))) (am_nd 63 (am_lf (62, .imul, 1)) (am_lf (63, .aload_n 0, 1))))) (am_nd 72 (am_nd 69 (am_nd 67 (am_lf (64, .getfield 40, 3)) (am_lf (67, .bipush 24, 2))) (am_nd 71 (am_lf (69, .bipush 8, 2)) (am_lf (71, .iload_n 2, 1)))) (am_nd 74 (am_nd 73 (am_lf (72, .iadd, 1)) (am_lf (73, .imul, 1))) (am_nd 77 (am_lf (74, .invokestatic 179, 3)) (am_lf (77, .ifCond .eq 32, 3)))))) (am_nd 94 (am_nd 87 (am_nd 84 (am_nd 81 (am_lf (80, .aload_n 0, 1)) (am_lf (81, .getfield 43, 3))) (am_nd 86 (am_lf (84, .bipush 24, 2)) (am_lf (86, .iload_n 2, 1)))) (am_nd 89 (am_nd 88 (am_lf (87, .imul, 1)) (am_lf (88, .aload_n 0, 1))) (am_nd 92 (am_lf (89, .getfield 43, 3)) (am_lf (92, .bipush 24, 2))))) (am_nd 99 (am_nd 97 (am_nd 96 (am_lf (94, .bipush 8, 2)) (am_lf (96, .iload_n 2, 1))) (am_nd 98 (am_lf (97, .iadd, 1)) (am_lf (98, .imul, 1)))) (am_nd 105 (am_nd 102 (am_lf (99, .invokestatic 179, 3)) (am_lf (102, .ifCond .eq 7, 3))) (am_nd 106 (am_lf (105, .iconst 1, 1)) (am_lf (106, .goto 4, 3)))))))
def am_c193_2 : am_T am_E 5 := (am_nd 1000000 (am_nd 1000000 (am_nd 117 (am_nd 111 (am_nd 110 (am_lf (109, .iconst 0, 1)) (am_lf (110, .istore_n 1, 1))) (am_nd 114 (am_lf (111, .iinc 2 1, 3)) (am_lf (114, .goto (-91), 3)))) (am_nd 1000000 (am_nd 118 (am_lf (117, .iload_n 1, 1)) (am_lf (118, .ireturn, 1))) (am_nd 1000000 (am_lf (118, .ireturn, 1)) (am_lf (118, .ireturn, 1))))) (am_nd 1000000 (am_nd 1000000 (am_nd 1000000 (am_lf (118, .ireturn, 1)) (am_lf (118, .ireturn, 1))) (am_nd 1000000 (am_lf (118, .ireturn, 1)) (am_lf (118, .ireturn, 1)))) (am_nd 1000000 (am_nd 1000000 (am_lf (118, .ireturn, 1)) (am_lf (118, .ireturn, 1))) (am_nd 1000000 (am_lf (118, .ireturn, 1)) (am_lf (118, .ireturn, 1)))))) (am_nd 1000000 (am_nd 1000000 (am_nd 1000000 (am_nd 1000000 (am_lf (118, .ireturn, 1)) (am_lf (118, .ireturn, 1))) (am_nd 1000000 (am_lf (118, .ireturn, 1)) (am_lf (118, .ireturn, 1)))) (am_nd 1000000 (am_nd 1000000 (am_lf (118, .ireturn, 1)) (am_lf (118, .ireturn, 1))) (am_nd 1000000 (am_lf (118, .ireturn, 1)) (am_lf (118, .ireturn, 1))))) (am_nd 1000000 (am_nd 1000000 (am_nd 1000000 (am_lf (118, .ireturn, 1)) (am_lf (118, .ireturn, 1))) (am_nd 1000000 (am_lf (118, .ireturn, 1)) (am_lf (118, .ireturn, 1)))) (am_nd 1000000 (am_nd 1000000 (am_lf (118, .ireturn, 1)) (am_lf (118, .ireturn, 1))) (am_nd 1000000 (am_lf (118, .ireturn, 1)) (am_lf (118, .ireturn, 1)))))))
def am_c193_3 : am_T am_E 5 := (am_nd 1000000 (am_nd 1000000 (am_nd 1000000 (am_nd 1000000 (am_nd 1000000 (am_lf (118, .ireturn, 1)) (am_lf (118, .ireturn, 1))) (am_nd 1000000 (am_lf (118, .ireturn, 1)) (am_lf (118, .ireturn, 1)))) (am_nd 1000000 (am_nd 1000000 (am_lf (118, .ireturn, 1)) (am_lf (118, .ireturn, 1))) (am_nd 1000000 (am_lf (118, .ireturn, 1)) (am_lf (118, .ireturn, 1))))) (am_nd 1000000 (am_nd 1000000 (am_nd 1000000 (am_lf (118, .ireturn, 1)) (am_lf (118, .ireturn, 1))) (am_nd 1000000 (am_lf (118, .ireturn, 1)) (am_lf (118, .ireturn, 1)))) (am_nd 1000000 (am_nd 1000000 (am_lf (118, .ireturn, 1)) (am_lf (118, .ireturn, 1))) (am_nd 1000000 (am_lf (118, .ireturn, 1)) (am_lf (118, .ireturn, 1)))))) (am_nd 1000000 (am_nd 1000000 (am_nd 1000000 (am_nd 1000000 (am_lf (118, .ireturn, 1)) (am_lf (118, .ireturn, 1))) (am_nd 1000000 (am_lf (118, .ireturn, 1)) (am_lf (118, .ireturn, 1)))) (am_nd 1000000 (am_nd 1000000 (am_lf (118, .ireturn, 1)) (am_lf (118, .ireturn, 1))) (am_nd 1000000 (am_lf (118, .ireturn, 1)) (am_lf (118, .ireturn, 1))))) (am_nd 1000000 (am_nd 1000000 (am_nd 1000000 (am_lf (118, .ireturn, 1)) (am_lf (118, .ireturn, 1))) (am_nd 1000000 (am_lf (118, .ireturn, 1)) (am_lf (118, .ireturn, 1)))) (am_nd 1000000 (am_nd 1000000 (am_lf (118, .ireturn, 1)) (am_lf (118, .ireturn, 1))) (am_nd 1000000 (am_lf (118, .ireturn, 1)) (am_lf (118, .ireturn, 1)))))))
def am_c193 : am_T am_E 7 := (am_nd 109 (am_nd 51 am_c193_0 am_c193_1) (am_nd 1000000 am_c193_2 am_c193_3))
def am_c194_0 : am_T am_E 5 := (am_nd 26 (am_nd 12 (am_nd 6 (am_nd 4 (am_nd 1 (am_lf (0, .aload_n 0, 1)) (am_lf (1, .getfield 52, 3))) (am_nd 5 (am_lf (4, .iconst 0, 1)) (am_lf (5, .iaload, 1)))) (am_nd 10 (am_nd 7 (am_lf (6, .aload_n 0, 1)) (am_lf (7, .getfield 52, 3))) (am_nd 11 (am_lf (10, .iconst 1, 1)) (am_lf (11, .iaload, 1))))) (am_nd 18 (am_nd 16 (am_nd 15 (am_lf (12, .if_icmp .eq 5, 3)) (am_lf (15, .iconst 0, 1))) (am_nd 17 (am_lf (16, .ireturn, 1)) (am_lf (17, .aload_n 0, 1)))) (am_nd 22 (am_nd 21 (am_lf (18, .getfield 52, 3)) (am_lf (21, .iconst 0, 1))) (am_nd 23 (am_lf (22, .iaload, 1)) (am_lf (23, .ifCond .eq 29, 3)))))) (am_nd 40 (am_nd 34 (am_nd 30 (am_nd 27 (am_lf (26, .aload_n 0, 1)) (am_lf (27, .getfield 31, 3))) (am_nd 31 (am_lf (30, .aload_n 0, 1)) (am_lf (31, .getfield 55, 3)))) (am_nd 36 (am_nd 35 (am_lf (34, .iconst 0, 1)) (am_lf (35, .iaload, 1))) (am_nd 37 (am_lf (36, .aload_n 0, 1)) (am_lf (37, .getfield 31, 3))))) (am_nd 46 (am_nd 44 (am_nd 41 (am_lf (40, .aload_n 0, 1)) (am_lf (41, .getfield 55, 3))) (am_nd 45 (am_lf (44, .iconst 1, 1)) (am_lf (45, .iaload, 1)))) (am_nd 52 (am_nd 49 (am_lf (46, .invokestatic 179, 3)) (am_lf (49, .ifCond .eq 7, 3))) (am_nd 53 (am_lf (52, .iconst 1, 1)) (am_lf (53, .goto 4, 3)))))))
def am_c194_1 : am_T am_E 5 := (am_nd 1000000 (am_nd 1000000 (am_nd 1000000 (am_nd 1000000 (am_nd 57 (am_lf (56, .iconst 0, 1)) (am_lf (57, .ireturn, 1))) (am_nd 1000000 (am_lf (57, .ireturn, 1)) (am_lf (57, .ireturn, 1)))) (am_nd 1000000 (am_nd 1000000 (am_lf (57, .ireturn, 1)) (am_lf (57, .ireturn, 1))) (am_nd 1000000 (am_lf (57, .ireturn, 1)) (am_lf (57, .ireturn, 1))))) (am_nd 1000000 (am_nd 1000000 (am_nd 1000000 (am_lf (57, .ireturn, 1)) (am_lf (57, .ireturn, 1))) (am_nd 1000000 (am_lf (57, .ireturn, 1)) (am_lf (57, .ireturn, 1)))) (am_nd 1000000 (am_nd 1000000 (am_lf (57, .ireturn, 1)) (am_lf (57, .ireturn, 1))) (am_nd 1000000 (am_lf (57, .ireturn, 1)) (am_lf (57, .ireturn, 1)))))) (am_nd 1000000 (am_nd 1000000 (am_nd 1000000 (am_nd 1000000 (am_lf (57, .ireturn, 1)) (am_lf (57, .ireturn, 1))) (am_nd 1000000 (am_lf (57, .ireturn, 1)) (am_lf (57, .ireturn, 1)))) (am_nd 1000000 (am_nd 1000000 (am_lf (57, .ireturn, 1)) (am_lf (57, .ireturn, 1))) (am_nd 1000000 (am_lf (57, .ireturn, 1)) (am_lf (57, .ireturn, 1))))) (am_nd 1000000 (am_nd 1000000 (am_nd 1000000 (am_lf (57, .ireturn, 1)) (am_lf (57, .ireturn, 1))) (am_nd 1000000 (am_lf (57, .ireturn, 1)) (am_lf (57, .ireturn, 1)))) (am_nd 1000000 (am_nd 1000000 (am_lf (57, .ireturn, 1)) (am_lf (57, .ireturn, 1))) (am_nd 1000000 (am_lf (57, .ireturn, 1)) (am_lf (57, .ireturn, 1)))))))
def am_c194 : am_T am_E 6 := (am_nd 56 am_c194_0 am_c194_1)
def am_c195 : am_T am_E 5 := (am_nd 26 (am_nd 11 (am_nd 4 (am_nd 2 (am_nd 1 (am_lf (0, .iconst 1, 1)) (am_lf (1, .istore_n 1, 1))) (am_nd 3 (am_lf (2, .iconst 0, 1)) (am_lf (3, .istore_n 2, 1)))) (am_nd 7 (am_nd 5 (am_lf (4, .iload_n 2, 1)) (am_lf (5, .bipush 6, 2))) (am_nd 10 (am_lf (7, .if_icmp .ge 45, 3)) (am_lf (10, .iload_n 1, 1))))) (am_nd 20 (am_nd 15 (am_nd 14 (am_lf (11, .ifCond .eq 33, 3)) (am_lf (14, .aload_n 0, 1))) (am_nd 18 (am_lf (15, .getfield 31, 3)) (am_lf (18, .bipush 24, 2)))) (am_nd 22 (am_nd 21 (am_lf (20, .iload_n 2, 1)) (am_lf (21, .imul, 1))) (am_nd 23 (am_lf (22, .aload_n 0, 1)) (am_lf (23, .getfield 31, 3)))))) (am_nd 41 (am_nd 33 (am_nd 31 (am_nd 29 (am_lf (26, .sipush 144, 3)) (am_lf (29, .bipush 24, 2))) (am_nd 32 (am_lf (31, .iload_n 2, 1)) (am_lf (32, .imul, 1)))) (am_nd 37 (am_nd 34 (am_lf (33, .iadd, 1)) (am_lf (34, .invokestatic 179, 3))) (am_nd 40 (am_lf (37, .ifCond .eq 7, 3)) (am_lf (40, .iconst 1, 1))))) (am_nd 49 (am_nd 45 (am_nd 44 (am_lf (41, .goto 4, 3)) (am_lf (44, .iconst 0, 1))) (am_nd 46 (am_lf (45, .istore_n 1, 1)) (am_lf (46, .iinc 2 1, 3)))) (am_nd 53 (am_nd 52 (am_lf (49, .goto (-45), 3)) (am_lf (52, .iload_n 1, 1))) (am_nd 1000000 (am_lf (53, .ireturn, 1)) (am_lf (53, .ireturn, 1)))))))
def am_c196 : am_T am_E 5 := (am_nd 30 (am_nd 14 (am_nd 6 (am_nd 2 (am_nd 1 (am_lf (0, .aload_n 0, 1)) (am_lf (1, .iload_n 1, 1))) (am_nd 3 (am_lf (2, .iconst 3, 1)) (am_lf (3, .invokestatic 108, 3)))) (am_nd 10 (am_nd 9 (am_lf (6, .ifCond .eq 7, 3)) (am_lf (9, .iconst 1, 1))) (am_nd 13 (am_lf (10, .goto 4, 3)) (am_lf (13, .iconst 0, 1))))) (am_nd 24 (am_nd 18 (am_nd 17 (am_lf (14, .putfield 105, 3)) (am_lf (17, .aload_n 0, 1))) (am_nd 21 (am_lf (18, .getfield 105, 3)) (am_lf (21, .ifCond .le 5, 3)))) (am_nd 26 (am_nd 25 (am_lf (24, .iconst 0, 1)) (am_lf (25, .ireturn, 1))) (am_nd 27 (am_lf (26, .iload_n 1, 1)) (am_lf (27, .ifCond .ne 10, 3)))))) (am_nd 46 (am_nd 38 (am_nd 34 (am_nd 31 (am_lf (30, .aload_n 0, 1)) (am_lf (31, .getfield 64, 3))) (am_nd 37 (am_lf (34, .goto 19, 3)) (am_lf (37, .iload_n 1, 1)))) (am_nd 42 (am_nd 39 (am_lf (38, .iconst 1, 1)) (am_lf (39, .if_icmp .ne 10, 3))) (am_nd 43 (am_lf (42, .aload_n 0, 1)) (am_lf (43, .getfield 68, 3))))) (am_nd 1000000 (am_nd 50 (am_nd 49 (am_lf (46, .goto 7, 3)) (am_lf (49, .aload_n 0, 1))) (am_nd 53 (am_lf (50, .getfield 71, 3)) (am_lf (53, .ireturn, 1)))) (am_nd 1000000 (am_nd 1000000 (am_lf (53, .ireturn, 1)) (am_lf (53, .ireturn, 1))) (am_nd 1000000 (am_lf (53, .ireturn, 1)) (am_lf (53, .ireturn, 1)))))))
def am_c197_0 : am_T am_E 5 := (am_nd 30 (am_nd 13 (am_nd 4 (am_nd 2 (am_nd 1 (am_lf (0, .aload_n 0, 1)) (am_lf (1, .aload_n 0, 1))) (am_nd 3 (am_lf (2, .iconst 0, 1)) (am_lf (3, .iload_n 1, 1)))) (am_nd 10 (am_nd 7 (am_lf (4, .invokevirtual 129, 3)) (am_lf (7, .ifCond .eq 31, 3))) (am_nd 11 (am_lf (10, .iload_n 2, 1)) (am_lf (11, .bipush 6, 2))))) (am_nd 21 (am_nd 19 (am_nd 16 (am_lf (13, .invokestatic 108, 3)) (am_lf (16, .ifCond .ne 22, 3))) (am_nd 20 (am_lf (19, .aload_n 0, 1)) (am_lf (20, .iconst 1, 1)))) (am_nd 25 (am_nd 22 (am_lf (21, .iload_n 3, 1)) (am_lf (22, .invokevirtual 129, 3))) (am_nd 28 (am_lf (25, .ifCond .eq 13, 3)) (am_lf (28, .iload 4, 2)))))) (am_nd 47 (am_nd 39 (am_nd 35 (am_nd 32 (am_lf (30, .bipush 6, 2)) (am_lf (32, .invokestatic 108, 3))) (am_nd 38 (am_lf (35, .ifCond .eq 7, 3)) (am_lf (38, .iconst 1, 1)))) (am_nd 43 (am_nd 42 (am_lf (39, .goto 4, 3)) (am_lf (42, .iconst 0, 1))) (am_nd 46 (am_lf (43, .putfield 105, 3)) (am_lf (46, .aload_n 0, 1))))) (am_nd 55 (am_nd 53 (am_nd 50 (am_lf (47, .getfield 105, 3)) (am_lf (50, .ifCond .le 5, 3))) (am_nd 54 (am_lf (53, .iconst 0, 1)) (am_lf (54, .ireturn, 1)))) (am_nd 59 (am_nd 56 (am_lf (55, .aload_n 0, 1)) (am_lf (56, .invokevirtual 229, 3))) (am_nd 60 (am_lf (59, .aload_n 0, 1)) (am_lf (60, .iconst 0, 1)))))))
def am_c197_1 : am_T am_E 5 := (am_nd 88 (am_nd 73 (am_nd 67 (am_nd 63 (am_nd 62 (am_lf (61, .iconst 0, 1)) (am_lf (62, .iload_n 1, 1))) (am_nd 66 (am_lf (63, .invokevirtual 232, 3)) (am_lf (66, .aload_n 0, 1)))) (am_nd 69 (am_nd 68 (am_lf (67, .iconst 1, 1)) (am_lf (68, .iconst 1, 1))) (am_nd 70 (am_lf (69, .iload_n 3, 1)) (am_lf (70, .invokevirtual 232, 3))))) (am_nd 80 (am_nd 77 (am_nd 74 (am_lf (73, .aload_n 0, 1)) (am_lf (74, .getfield 31, 3))) (am_nd 79 (am_lf (77, .bipush 24, 2)) (am_lf (79, .iload_n 2, 1)))) (am_nd 82 (am_nd 81 (am_lf (80, .imul, 1)) (am_lf (81, .aload_n 0, 1))) (am_nd 85 (am_lf (82, .getfield 31, 3)) (am_lf (85, .sipush 144, 3)))))) (am_nd 1000000 (am_nd 94 (am_nd 92 (am_nd 90 (am_lf (88, .bipush 24, 2)) (am_lf (90, .iload 4, 2))) (am_nd 93 (am_lf (92, .imul, 1)) (am_lf (93, .iadd, 1)))) (am_nd 1000000 (am_nd 97 (am_lf (94, .invokestatic 179, 3)) (am_lf (97, .ireturn, 1))) (am_nd 1000000 (am_lf (97, .ireturn, 1)) (am_lf (97, .ireturn, 1))))) (am_nd 1000000 (am_nd 1000000 (am_nd 1000000 (am_lf (97, .ireturn, 1)) (am_lf (97, .ireturn, 1))) (am_nd 1000000 (am_lf (97, .ireturn, 1)) (am_lf (97, .ireturn, 1)))) (am_nd 1000000 (am_nd 1000000 (am_lf (97, .ireturn, 1)) (am_lf (97, .ireturn, 1))) (am_nd 1000000 (am_lf (97, .ireturn, 1)) (am_lf (97, .ireturn, 1)))))))
def am_c197 : am_T am_E 6 := (am_nd 61 am_c197_0 am_c197_1)
def am_c198 : am_T am_E 5 := (am_nd 28 (am_nd 14 (am_nd 4 (am_nd 2 (am_nd 1 (am_lf (0, .aload_n 0, 1)) (am_lf (1, .aload_n 0, 1))) (am_nd 3 (am_lf (2, .iload_n 1, 1)) (am_lf (3, .iload_n 2, 1)))) (am_nd 10 (am_nd 7 (am_lf (4, .invokevirtual 129, 3)) (am_lf (7, .ifCond .eq 7, 3))) (am_nd 11 (am_lf (10, .iconst 0, 1)) (am_lf (11, .goto 4, 3))))) (am_nd 22 (am_nd 18 (am_nd 15 (am_lf (14, .iconst 1, 1)) (am_lf (15, .putfield 105, 3))) (am_nd 19 (am_lf (18, .aload_n 0, 1)) (am_lf (19, .getfield 105, 3)))) (am_nd 26 (am_nd 25 (am_lf (22, .ifCond .le 5, 3)) (am_lf (25, .iconst 0, 1))) (am_nd 27 (am_lf (26, .ireturn, 1)) (am_lf (27, .aload_n 0, 1)))))) (am_nd 42 (am_nd 34 (am_nd 32 (am_nd 31 (am_lf (28, .invokevirtual 229, 3)) (am_lf (31, .aload_n 0, 1))) (am_nd 33 (am_lf (32, .iconst 0, 1)) (am_lf (33, .iload_n 1, 1)))) (am_nd 38 (am_nd 35 (am_lf (34, .iload_n 2, 1)) (am_lf (35, .invokevirtual 232, 3))) (am_nd 39 (am_lf (38, .aload_n 0, 1)) (am_lf (39, .getfield 34, 3))))) (am_nd 1000000 (am_nd 44 (am_nd 43 (am_lf (42, .iconst 0, 1)) (am_lf (43, .iaload, 1))) (am_nd 1000000 (am_lf (44, .ireturn, 1)) (am_lf (44, .ireturn, 1)))) (am_nd 1000000 (am_nd 1000000 (am_lf (44, .ireturn, 1)) (am_lf (44, .ireturn, 1))) (am_nd 1000000 (am_lf (44, .ireturn, 1)) (am_lf (44, .ireturn, 1)))))))
def am_c199_0 : am_T am_E 5 := (am_nd 34 (am_nd 15 (am_nd 6 (am_nd 2 (am_nd 1 (am_lf (0, .aload_n 0, 1)) (am_lf (1, .iload_n 1, 1))) (am_nd 3 (am_lf (2, .iconst 2, 1)) (am_lf (3, .invokestatic 108, 3)))) (am_nd 10 (am_nd 9 (am_lf (6, .ifCond .eq 7, 3)) (am_lf (9, .iconst 1, 1))) (am_nd 13 (am_lf (10, .goto 21, 3)) (am_lf (13, .iload 4, 2))))) (am_nd 26 (am_nd 20 (am_nd 18 (am_lf (15, .ifCond .lt 11, 3)) (am_lf (18, .iload 4, 2))) (am_nd 23 (am_lf (20, .sipush 500, 3)) (am_lf (23, .if_icmp .le 7, 3)))) (am_nd 30 (am_nd 27 (am_lf (26, .iconst 2, 1)) (am_lf (27, .goto 4, 3))) (am_nd 31 (am_lf (30, .iconst 0, 1)) (am_lf (31, .putfield 105, 3)))))) (am_nd 48 (am_nd 42 (am_nd 38 (am_nd 35 (am_lf (34, .aload_n 0, 1)) (am_lf (35, .getfield 105, 3))) (am_nd 41 (am_lf (38, .ifCond .le 5, 3)) (am_lf (41, .iconst 0, 1)))) (am_nd 44 (am_nd 43 (am_lf (42, .ireturn, 1)) (am_lf (43, .iconst 0, 1))) (am_nd 46 (am_lf (44, .istore 5, 2)) (am_lf (46, .iload 5, 2))))) (am_nd 57 (am_nd 53 (am_nd 50 (am_lf (48, .bipush 8, 2)) (am_lf (50, .if_icmp .ge 17, 3))) (am_nd 54 (am_lf (53, .aload_n 0, 1)) (am_lf (54, .getfield 99, 3)))) (am_nd 60 (am_nd 59 (am_lf (57, .iload 5, 2)) (am_lf (59, .iconst 0, 1))) (am_nd 61 (am_lf (60, .iastore, 1)) (am_lf (61, .iinc 5 1, 3)))))))
def am_c199_1 : am_T am_E 5 := (am_nd 98 (am_nd 81 (am_nd 72 (am_nd 68 (am_nd 67 (am_lf (64, .goto (-18), 3)) (am_lf (67, .iconst 0, 1))) (am_nd 70 (am_lf (68, .istore 5, 2)) (am_lf (70, .iload 5, 2)))) (am_nd 77 (am_nd 74 (am_lf (72, .bipush 6, 2)) (am_lf (74, .if_icmp .ge 36, 3))) (am_nd 78 (am_lf (77, .aload_n 0, 1)) (am_lf (78, .getfield 96, 3))))) (am_nd 89 (am_nd 85 (am_nd 83 (am_lf (81, .iload 5, 2)) (am_lf (83, .iload 5, 2))) (am_nd 88 (am_lf (85, .ifCond .ne 7, 3)) (am_lf (88, .iload_n 2, 1)))) (am_nd 94 (am_nd 92 (am_lf (89, .goto 14, 3)) (am_lf (92, .iload 5, 2))) (am_nd 95 (am_lf (94, .iconst 1, 1)) (am_lf (95, .if_icmp .ne 7, 3)))))) (am_nd 112 (am_nd 104 (am_nd 102 (am_nd 99 (am_lf (98, .iload_n 3, 1)) (am_lf (99, .goto 4, 3))) (am_nd 103 (am_lf (102, .iconst 0, 1)) (am_lf (103, .iastore, 1)))) (am_nd 110 (am_nd 107 (am_lf (104, .iinc 5 1, 3)) (am_lf (107, .goto (-37), 3))) (am_nd 111 (am_lf (110, .aload_n 0, 1)) (am_lf (111, .iconst 0, 1))))) (am_nd 120 (am_nd 116 (am_nd 115 (am_lf (112, .putfield 252, 3)) (am_lf (115, .aload_n 0, 1))) (am_nd 117 (am_lf (116, .iconst 0, 1)) (am_lf (117, .putfield 255, 3)))) (am_nd 123 (am_nd 121 (am_lf (120, .iconst 0, 1)) (am_lf (121, .istore 5, 2))) (am_nd 124 (am_lf (123, .iconst 0, 1)) (am_lf (124, .istore 6, 2)))))))
def am_c199_2 : am_T am_E 5 := (am_nd 156 (am_nd 142 (am_nd 135 (am_nd 130 (am_nd 127 (am_lf (126, .aload_n 0, 1)) (am_lf (127, .getfield 252, 3))) (am_nd 132 (am_lf (130, .iload 4, 2)) (am_lf (132, .if_icmp .ge 201, 3)))) (am_nd 138 (am_nd 137 (am_lf (135, .iload 5, 2)) (am_lf (137, .aload_n 0, 1))) (am_nd 141 (am_lf (138, .getfield 7, 3)) (am_lf (141, .iload_n 1, 1))))) (am_nd 150 (am_nd 146 (am_nd 143 (am_lf (142, .iaload, 1)) (am_lf (143, .if_icmp .ge 7, 3))) (am_nd 147 (am_lf (146, .iconst 1, 1)) (am_lf (147, .goto 4, 3)))) (am_nd 153 (am_nd 151 (am_lf (150, .iconst 0, 1)) (am_lf (151, .istore 7, 2))) (am_nd 155 (am_lf (153, .bipush 6, 2)) (am_lf (155, .iload_n 1, 1)))))) (am_nd 170 (am_nd 162 (am_nd 159 (am_nd 157 (am_lf (156, .imul, 1)) (am_lf (157, .iload 5, 2))) (am_nd 160 (am_lf (159, .iadd, 1)) (am_lf (160, .istore 8, 2)))) (am_nd 167 (am_nd 164 (am_lf (162, .iload 7, 2)) (am_lf (164, .ifCond .eq 45, 3))) (am_nd 169 (am_lf (167, .iload 6, 2)) (am_lf (169, .aload_n 0, 1))))) (am_nd 179 (am_nd 175 (am_nd 173 (am_lf (170, .getfield 13, 3)) (am_lf (173, .iload 8, 2))) (am_nd 176 (am_lf (175, .iaload, 1)) (am_lf (176, .if_icmp .ge 33, 3)))) (am_nd 182 (am_nd 180 (am_lf (179, .aload_n 0, 1)) (am_lf (180, .bipush 32, 2))) (am_nd 184 (am_lf (182, .iload 8, 2)) (am_lf (184, .imul, 1)))))))
def am_c199_3 : am_T am_E 5 := (am_nd 218 (am_nd 200 (am_nd 190 (am_nd 188 (am_nd 186 (am_lf (185, .iconst 4, 1)) (am_lf (186, .iload 6, 2))) (am_nd 189 (am_lf (188, .imul, 1)) (am_lf (189, .iadd, 1)))) (am_nd 195 (am_nd 193 (am_lf (190, .invokevirtual 258, 3)) (am_lf (193, .istore 9, 2))) (am_nd 197 (am_lf (195, .iload 9, 2)) (am_lf (197, .ifCond .le 6, 3))))) (am_nd 209 (am_nd 203 (am_nd 202 (am_lf (200, .iload 9, 2)) (am_lf (202, .ireturn, 1))) (am_nd 206 (am_lf (203, .iinc 6 1, 3)) (am_lf (206, .goto 114, 3)))) (am_nd 214 (am_nd 211 (am_lf (209, .iload 7, 2)) (am_lf (211, .ifCond .eq 15, 3))) (am_nd 215 (am_lf (214, .aload_n 0, 1)) (am_lf (215, .getfield 19, 3)))))) (am_nd 230 (am_nd 223 (am_nd 221 (am_nd 219 (am_lf (218, .iconst 4, 1)) (am_lf (219, .iload 8, 2))) (am_nd 222 (am_lf (221, .imul, 1)) (am_lf (222, .iaload, 1)))) (am_nd 227 (am_nd 226 (am_lf (223, .goto 4, 3)) (am_lf (226, .iconst 2, 1))) (am_nd 229 (am_lf (227, .istore 9, 2)) (am_lf (229, .aload_n 0, 1))))) (am_nd 239 (am_nd 235 (am_nd 233 (am_lf (230, .getfield 96, 3)) (am_lf (233, .iload 7, 2))) (am_nd 238 (am_lf (235, .ifCond .eq 17, 3)) (am_lf (238, .aload_n 0, 1)))) (am_nd 243 (am_nd 242 (am_lf (239, .getfield 19, 3)) (am_lf (242, .iconst 4, 1))) (am_nd 245 (am_lf (243, .iload 8, 2)) (am_lf (245, .imul, 1)))))))
def am_c199_4 : am_T am_E 5 := (am_nd 272 (am_nd 258 (am_nd 252 (am_nd 248 (am_nd 247 (am_lf (246, .iconst 1, 1)) (am_lf (247, .iadd, 1))) (am_nd 249 (am_lf (248, .iaload, 1)) (am_lf (249, .goto 4, 3)))) (am_nd 254 (am_nd 253 (am_lf (252, .iconst 0, 1)) (am_lf (253, .iaload, 1))) (am_nd 256 (am_lf (254, .istore 10, 2)) (am_lf (256, .iload 9, 2))))) (am_nd 264 (am_nd 262 (am_nd 259 (am_lf (258, .iconst 2, 1)) (am_lf (259, .if_icmp .ne 21, 3))) (am_nd 263 (am_lf (262, .aload_n 0, 1)) (am_lf (263, .dup, 1)))) (am_nd 268 (am_nd 267 (am_lf (264, .getfield 252, 3)) (am_lf (267, .iconst 1, 1))) (am_nd 269 (am_lf (268, .iadd, 1)) (am_lf (269, .putfield 252, 3)))))) (am_nd 287 (am_nd 279 (am_nd 275 (am_nd 273 (am_lf (272, .aload_n 0, 1)) (am_lf (273, .iload 10, 2))) (am_nd 278 (am_lf (275, .putfield 255, 3)) (am_lf (278, .iconst 1, 1)))) (am_nd 282 (am_nd 280 (am_lf (279, .ireturn, 1)) (am_lf (280, .iload 9, 2))) (am_nd 285 (am_lf (282, .ifCond .eq 8, 3)) (am_lf (285, .iload 10, 2))))) (am_nd 295 (am_nd 291 (am_nd 290 (am_lf (287, .ifCond .eq 17, 3)) (am_lf (290, .aload_n 0, 1))) (am_nd 294 (am_lf (291, .getfield 19, 3)) (am_lf (294, .iconst 4, 1)))) (am_nd 298 (am_nd 297 (am_lf (295, .iload 8, 2)) (am_lf (297, .imul, 1))) (am_nd 299 (am_lf (298, .iconst 2, 1)) (am_lf (299, .iadd, 1)))))))
def am_c199_5 : am_T am_E 5 := (am_nd 325 (am_nd 313 (am_nd 308 (am_nd 304 (am_nd 301 (am_lf (300, .iaload, 1)) (am_lf (301, .goto 14, 3))) (am_nd 305 (am_lf (304, .aload_n 0, 1)) (am_lf (305, .getfield 19, 3)))) (am_nd 311 (am_nd 309 (am_lf (308, .iconst 4, 1)) (am_lf (309, .iload 8, 2))) (am_nd 312 (am_lf (311, .imul, 1)) (am_lf (312, .iconst 3, 1))))) (am_nd 318 (am_nd 315 (am_nd 314 (am_lf (313, .iadd, 1)) (am_lf (314, .iaload, 1))) (am_nd 317 (am_lf (315, .istore 5, 2)) (am_lf (317, .iconst 0, 1)))) (am_nd 321 (am_nd 320 (am_lf (318, .istore 6, 2)) (am_lf (320, .aload_n 0, 1))) (am_nd 322 (am_lf (321, .dup, 1)) (am_lf (322, .getfield 252, 3)))))) (am_nd 1000000 (am_nd 333 (am_nd 327 (am_nd 326 (am_lf (325, .iconst 1, 1)) (am_lf (326, .iadd, 1))) (am_nd 330 (am_lf (327, .putfield 252, 3)) (am_lf (330, .goto (-204), 3)))) (am_nd 1000000 (am_nd 334 (am_lf (333, .iconst 0, 1)) (am_lf (334, .ireturn, 1))) (am_nd 1000000 (am_lf (334, .ireturn, 1)) (am_lf (334, .ireturn, 1))))) (am_nd 1000000 (am_nd 1000000 (am_nd 1000000 (am_lf (334, .ireturn, 1)) (am_lf (334, .ireturn, 1))) (am_nd 1000000 (am_lf (334, .ireturn, 1)) (am_lf (334, .ireturn, 1)))) (am_nd 1000000 (am_nd 1000000 (am_lf (334, .ireturn, 1)) (am_lf (334, .ireturn, 1))) (am_nd 1000000 (am_lf (334, .ireturn, 1)) (am_lf (334, .ireturn, 1)))))))
def am_c199_6 : am_T am_E 5 := (am_nd 1000000 (am_nd 1000000 (am_nd 1000000 (am_nd 1000000 (am_nd 1000000 (am_lf (334, .ireturn, 1)) (am_lf (334, .ireturn, 1))) (am_nd 1000000 (am_lf (334, .ireturn, 1)) (am_lf (334, .ireturn, 1)))) (am_nd 1000000 (am_nd 1000000 (am_lf (334, .ireturn, 1)) (am_lf (334, .ireturn, 1))) (am_nd 1000000 (am_lf (334, .ireturn, 1)) (am_lf (334, .ireturn, 1))))) (am_nd 1000000 (am_nd 1000000 (am_nd 1000000 (am_lf (334, .ireturn, 1)) (am_lf (334, .ireturn, 1))) (am_nd 1000000 (am_lf (334, .ireturn, 1)) (am_lf (334, .ireturn, 1)))) (am_nd 1000000 (am_nd 1000000 (am_lf (334, .ireturn, 1)) (am_lf (334, .ireturn, 1))) (am_nd 1000000 (am_lf (334, .ireturn, 1)) (am_lf (334, .ireturn, 1)))))) (am_nd 1000000 (am_nd 1000000 (am_nd 1000000 (am_nd 1000000 (am_lf (334, .ireturn, 1)) (am_lf (334, .ireturn, 1))) (am_nd 1000000 (am_lf (334, .ireturn, 1)) (am_lf (334, .ireturn, 1)))) (am_nd 1000000 (am_nd 1000000 (am_lf (334, .ireturn, 1)) (am_lf (334, .ireturn, 1))) (am_nd 1000000 (am_lf (334, .ireturn, 1)) (am_lf (334, .ireturn, 1))))) (am_nd 1000000 (am_nd 1000000 (am_nd 1000000 (am_lf (334, .ireturn, 1)) (am_lf (334, .ireturn, 1))) (am_nd 1000000 (am_lf (334, .ireturn, 1)) (am_lf (334, .ireturn, 1)))) (am_nd 1000000 (am_nd 1000000 (am_lf (334, .ireturn, 1)) (am_lf (334, .ireturn, 1))) (am_nd 1000000 (am_lf (334, .ireturn, 1)) (am_lf (334, .ireturn, 1)))))))
def am_c199_7 : am_T am_E 5 := (am_nd 1000000 (am_nd 1000000 (am_nd 1000000 (am_nd 1000000 (am_nd 1000000 (am_lf (334, .ireturn, 1)) (am_lf (334, .ireturn, 1))) (am_nd 1000000 (am_lf (334, .ireturn, 1)) (am_lf (334, .ireturn, 1)))) (am_nd 1000000 (am_nd 1000000 (am_lf (334, .ireturn, 1)) (am_lf (334, .ireturn, 1))) (am_nd 1000000 (am_lf (334, .ireturn, 1)) (am_lf (334, .ireturn, 1))))) (am_nd 1000000 (am_nd 1000000 (am_nd 1000000 (am_lf (334, .ireturn, 1)) (am_lf (334, .ireturn, 1))) (am_nd 1000000 (am_lf (334, .ireturn, 1)) (am_lf (334, .ireturn, 1)))) (am_nd 1000000 (am_nd 1000000 (am_lf (334, .ireturn, 1)) (am_lf (334, .ireturn, 1))) (am_nd 1000000 (am_lf (334, .ireturn, 1)) (am_lf (334, .ireturn, 1)))))) (am_nd 1000000 (am_nd 1000000 (am_nd 1000000 (am_nd 1000000 (am_lf (334, .ireturn, 1)) (am_lf (334, .ireturn, 1))) (am_nd 1000000 (am_lf (334, .ireturn, 1)) (am_lf (334, .ireturn, 1)))) (am_nd 1000000 (am_nd 1000000 (am_lf (334, .ireturn, 1)) (am_lf (334, .ireturn, 1))) (am_nd 1000000 (am_lf (334, .ireturn, 1)) (am_lf (334, .ireturn, 1))))) (am_nd 1000000 (am_nd 1000000 (am_nd 1000000 (am_lf (334, .ireturn, 1)) (am_lf (334, .ireturn, 1))) (am_nd 1000000 (am_lf (334, .ireturn, 1)) (am_lf (334, .ireturn, 1)))) (am_nd 1000000 (am_nd 1000000 (am_lf (334, .ireturn, 1)) (am_lf (334, .ireturn, 1))) (am_nd 1000000 (am_lf (334, .ireturn, 1)) (am_lf (334, .ireturn, 1)))))))
def am_c199 : am_T am_E 8 := (am_nd 246 (am_nd 126 (am_nd 64 am_c199_0 am_c199_1) (am_nd 185 am_c199_2 am_c199_3)) (am_nd 1000000 (am_nd 300 am_c199_4 am_c199_5) (am_nd 1000000 am_c199_6 am_c199_7)))
def am_c200_0 : am_T am_E 5 := (am_nd 24 (am_nd 12 (am_nd 6 (am_nd 4 (am_nd 1 (am_lf (0, .aload_n 0, 1)) (am_lf (1, .getfield 16, 3))) (am_nd 5 (am_lf (4, .iload_n 1, 1)) (am_lf (5, .iaload, 1)))) (am_nd 8 (am_nd 7 (am_lf (6, .istore_n 2, 1)) (am_lf (7, .aload_n 0, 1))) (am_nd 11 (am_lf (8, .getfield 16, 3)) (am_lf (11, .iload_n 1, 1))))) (am_nd 16 (am_nd 14 (am_nd 13 (am_lf (12, .iconst 1, 1)) (am_lf (13, .iadd, 1))) (am_nd 15 (am_lf (14, .iaload, 1)) (am_lf (15, .istore_n 3, 1)))) (am_nd 20 (am_nd 17 (am_lf (16, .aload_n 0, 1)) (am_lf (17, .getfield 96, 3))) (am_nd 21 (am_lf (20, .aload_n 0, 1)) (am_lf (21, .getfield 16, 3)))))) (am_nd 35 (am_nd 28 (am_nd 26 (am_nd 25 (am_lf (24, .iload_n 1, 1)) (am_lf (25, .iconst 2, 1))) (am_nd 27 (am_lf (26, .iadd, 1)) (am_lf (27, .iaload, 1)))) (am_nd 31 (am_nd 29 (am_lf (28, .iaload, 1)) (am_lf (29, .istore 4, 2))) (am_nd 32 (am_lf (31, .iload_n 2, 1)) (am_lf (32, .invokestatic 126, 3))))) (am_nd 43 (am_nd 39 (am_nd 38 (am_lf (35, .ifCond .eq 19, 3)) (am_lf (38, .aload_n 0, 1))) (am_nd 42 (am_lf (39, .getfield 96, 3)) (am_lf (42, .aload_n 0, 1)))) (am_nd 47 (am_nd 46 (am_lf (43, .getfield 16, 3)) (am_lf (46, .iload_n 1, 1))) (am_nd 48 (am_lf (47, .iconst 3, 1)) (am_lf (48, .iadd, 1)))))))
def am_c200_1 : am_T am_E 5 := (am_nd 78 (am_nd 63 (am_nd 55 (am_nd 51 (am_nd 50 (am_lf (49, .iaload, 1)) (am_lf (50, .iaload, 1))) (am_nd 54 (am_lf (51, .goto 4, 3)) (am_lf (54, .iconst 0, 1)))) (am_nd 58 (am_nd 57 (am_lf (55, .istore 5, 2)) (am_lf (57, .iload_n 2, 1))) (am_nd 60 (am_lf (58, .bipush 7, 2)) (am_lf (60, .if_icmp .ne 10, 3))))) (am_nd 70 (am_nd 68 (am_nd 65 (am_lf (63, .iload 5, 2)) (am_lf (65, .ifCond .ne 5, 3))) (am_nd 69 (am_lf (68, .iconst 2, 1)) (am_lf (69, .ireturn, 1)))) (am_nd 73 (am_nd 71 (am_lf (70, .iload_n 2, 1)) (am_lf (71, .bipush 8, 2))) (am_nd 76 (am_lf (73, .if_icmp .lt 25, 3)) (am_lf (76, .iload 4, 2)))))) (am_nd 96 (am_nd 87 (am_nd 83 (am_nd 80 (am_lf (78, .bipush 8, 2)) (am_lf (80, .invokestatic 108, 3))) (am_nd 86 (am_lf (83, .ifCond .eq 15, 3)) (am_lf (86, .iload_n 2, 1)))) (am_nd 92 (am_nd 89 (am_lf (87, .bipush 8, 2)) (am_lf (89, .if_icmp .ne 7, 3))) (am_nd 93 (am_lf (92, .iconst 3, 1)) (am_lf (93, .goto 4, 3))))) (am_nd 101 (am_nd 98 (am_nd 97 (am_lf (96, .iconst 4, 1)) (am_lf (97, .ireturn, 1))) (am_nd 99 (am_lf (98, .iload_n 2, 1)) (am_lf (99, .bipush 9, 2)))) (am_nd 105 (am_nd 104 (am_lf (101, .if_icmp .ne 15, 3)) (am_lf (104, .aload_n 0, 1))) (am_nd 108 (am_lf (105, .getfield 99, 3)) (am_lf (108, .iload 4, 2)))))))
def am_c200_2 : am_T am_E 5 := (am_nd 137 (am_nd 125 (am_nd 117 (am_nd 113 (am_nd 112 (am_lf (110, .iload 5, 2)) (am_lf (112, .iastore, 1))) (am_nd 116 (am_lf (113, .goto 48, 3)) (am_lf (116, .aload_n 0, 1)))) (am_nd 121 (am_nd 120 (am_lf (117, .getfield 96, 3)) (am_lf (120, .iload_n 3, 1))) (am_nd 122 (am_lf (121, .iload_n 2, 1)) (am_lf (122, .ifCond .ne 14, 3))))) (am_nd 131 (am_nd 129 (am_nd 126 (am_lf (125, .aload_n 0, 1)) (am_lf (126, .getfield 16, 3))) (am_nd 130 (am_lf (129, .iload_n 1, 1)) (am_lf (130, .iconst 3, 1)))) (am_nd 133 (am_nd 132 (am_lf (131, .iadd, 1)) (am_lf (132, .iaload, 1))) (am_nd 136 (am_lf (133, .goto 27, 3)) (am_lf (136, .iload_n 2, 1)))))) (am_nd 153 (am_nd 146 (am_nd 142 (am_nd 139 (am_lf (137, .bipush 8, 2)) (am_lf (139, .if_icmp .ne 13, 3))) (am_nd 143 (am_lf (142, .aload_n 0, 1)) (am_lf (143, .getfield 99, 3)))) (am_nd 149 (am_nd 148 (am_lf (146, .iload 4, 2)) (am_lf (148, .iaload, 1))) (am_nd 152 (am_lf (149, .goto 11, 3)) (am_lf (152, .iload_n 2, 1))))) (am_nd 161 (am_nd 157 (am_nd 155 (am_lf (153, .iload 4, 2)) (am_lf (155, .iload 5, 2))) (am_nd 160 (am_lf (157, .invokestatic 156, 3)) (am_lf (160, .iastore, 1)))) (am_nd 1000000 (am_nd 162 (am_lf (161, .iconst 0, 1)) (am_lf (162, .ireturn, 1))) (am_nd 1000000 (am_lf (162, .ireturn, 1)) (am_lf (162, .ireturn, 1)))))))
def am_c200_3 : am_T am_E 5 := (am_nd 1000000 (am_nd 1000000 (am_nd 1000000 (am_nd 1000000 (am_nd 1000000 (am_lf (162, .ireturn, 1)) (am_lf (162, .ireturn, 1))) (am_nd 1000000 (am_lf (162, .ireturn, 1)) (am_lf (162, .ireturn, 1)))) (am_nd 1000000 (am_nd 1000000 (am_lf (162, .ireturn, 1)) (am_lf (162, .ireturn, 1))) (am_nd 1000000 (am_lf (162, .ireturn, 1)) (am_lf (162, .ireturn, 1))))) (am_nd 1000000 (am_nd 1000000 (am_nd 1000000 (am_lf (162, .ireturn, 1)) (am_lf (162, .ireturn, 1))) (am_nd 1000000 (am_lf (162, .ireturn, 1)) (am_lf (162, .ireturn, 1)))) (am_nd 1000000 (am_nd 1000000 (am_lf (162, .ireturn, 1)) (am_lf (162, .ireturn, 1))) (am_nd 1000000 (am_lf (162, .ireturn, 1)) (am_lf (162, .ireturn, 1)))))) (am_nd 1000000 (am_nd 1000000 (am_nd 1000000 (am_nd 1000000 (am_lf (162, .ireturn, 1)) (am_lf (162, .ireturn, 1))) (am_nd 1000000 (am_lf (162, .ireturn, 1)) (am_lf (162, .ireturn, 1)))) (am_nd 1000000 (am_nd 1000000 (am_lf (162, .ireturn, 1)) (am_lf (162, .ireturn, 1))) (am_nd 1000000 (am_lf (162, .ireturn, 1)) (am_lf (162, .ireturn, 1))))) (am_nd 1000000 (am_nd 1000000 (am_nd 1000000 (am_lf (162, .ireturn, 1)) (am_lf (162, .ireturn, 1))) (am_nd 1000000 (am_lf (162, .ireturn, 1)) (am_lf (162, .ireturn, 1)))) (am_nd 1000000 (am_nd 1000000 (am_lf (162, .ireturn, 1)) (am_lf (162, .ireturn, 1))) (am_nd 1000000 (am_lf (162, .ireturn, 1)) (am_lf (162, .ireturn, 1)))))))
def am_c200 : am_T am_E 7 := (am_nd 110 (am_nd 49 am_c200_0 am_c200_1) (am_nd 1000000 am_c200_2 am_c200_3))
def am_c201 : am_T am_E 3 := (am_nd 6 (am_nd 2 (am_nd 1 (am_lf (0, .aload_n 0, 1)) (am_lf (1, .iconst 0, 1))) (am_nd 5 (am_lf (2, .putfield 105, 3)) (am_lf (5, .aload_n 0, 1)))) (am_nd 1000000 (am_nd 9 (am_lf (6, .getfield 255, 3)) (am_lf (9, .ireturn, 1))) (am_nd 1000000 (am_lf (9, .ireturn, 1)) (am_lf (9, .ireturn, 1)))))
def am_c202 : am_T am_E 5 := (am_nd 33 (am_nd 15 (am_nd 7 (am_nd 2 (am_nd 1 (am_lf (0, .aload_n 0, 1)) (am_lf (1, .iload_n 1, 1))) (am_nd 4 (am_lf (2, .bipush 8, 2)) (am_lf (4, .invokestatic 108, 3)))) (am_nd 11 (am_nd 10 (am_lf (7, .ifCond .eq 7, 3)) (am_lf (10, .iconst 1, 1))) (am_nd 14 (am_lf (11, .goto 4, 3)) (am_lf (14, .iconst 0, 1))))) (am_nd 25 (am_nd 19 (am_nd 18 (am_lf (15, .putfield 105, 3)) (am_lf (18, .aload_n 0, 1))) (am_nd 22 (am_lf (19, .getfield 105, 3)) (am_lf (22, .ifCond .le 7, 3)))) (am_nd 29 (am_nd 26 (am_lf (25, .iconst 0, 1)) (am_lf (26, .goto 9, 3))) (am_nd 30 (am_lf (29, .aload_n 0, 1)) (am_lf (30, .getfield 99, 3)))))) (am_nd 1000000 (am_nd 1000000 (am_nd 35 (am_nd 34 (am_lf (33, .iload_n 1, 1)) (am_lf (34, .iaload, 1))) (am_nd 1000000 (am_lf (35, .ireturn, 1)) (am_lf (35, .ireturn, 1)))) (am_nd 1000000 (am_nd 1000000 (am_lf (35, .ireturn, 1)) (am_lf (35, .ireturn, 1))) (am_nd 1000000 (am_lf (35, .ireturn, 1)) (am_lf (35, .ireturn, 1))))) (am_nd 1000000 (am_nd 1000000 (am_nd 1000000 (am_lf (35, .ireturn, 1)) (am_lf (35, .ireturn, 1))) (am_nd 1000000 (am_lf (35, .ireturn, 1)) (am_lf (35, .ireturn, 1)))) (am_nd 1000000 (am_nd 1000000 (am_lf (35, .ireturn, 1)) (am_lf (35, .ireturn, 1))) (am_nd 1000000 (am_lf (35, .ireturn, 1)) (am_lf (35, .ireturn, 1)))))))
def am_c203 : am_T am_E 3 := (am_nd 6 (am_nd 2 (am_nd 1 (am_lf (0, .aload_n 0, 1)) (am_lf (1, .iconst 0, 1))) (am_nd 5 (am_lf (2, .putfield 105, 3)) (am_lf (5, .aload_n 0, 1)))) (am_nd 1000000 (am_nd 9 (am_lf (6, .getfield 252, 3)) (am_lf (9, .ireturn, 1))) (am_nd 1000000 (am_lf (9, .ireturn, 1)) (am_lf (9, .ireturn, 1)))))
def am_i0 : am_MI := (⟨"PassCheckerLaw", "law", "([I)Z"⟩, code, 7, some .boolean, 2, 1, 14, [], am_at am_c0)
def am_i1 : am_MI := (⟨"PassChecker", "<init>", "()V"⟩, prog_1_method_1_code, 1, none, 1, 1, 0, [], am_at am_c1)
def am_i2 : am_MI := (⟨"PassChecker$Program", "<init>", "()V"⟩, prog_7_method_1_code, 1, none, 1, 1, 1, [], am_at am_c2)
def am_i3 : am_MI := (⟨"PassChecker$Folder", "<init>", "()V"⟩, prog_3_method_1_code, 1, none, 1, 1, 2, [], am_at am_c3)
def am_i4 : am_MI := (⟨"PassChecker$Reuser", "<init>", "()V"⟩, prog_8_method_1_code, 1, none, 1, 1, 3, [], am_at am_c4)
def am_i5 : am_MI := (⟨"PassChecker$Orderer", "<init>", "()V"⟩, prog_5_method_1_code, 1, none, 1, 1, 4, [], am_at am_c5)
def am_i6 : am_MI := (⟨"PassChecker$Checker", "<init>", "()V"⟩, prog_2_method_1_code, 1, none, 1, 1, 5, [], am_at am_c6)
def am_i7 : am_MI := (⟨"PassChecker$Values", "<init>", "()V"⟩, prog_9_method_1_code, 1, none, 1, 1, 6, [], am_at am_c7)
def am_i8 : am_MI := (⟨"PassChecker$Outcome", "<init>", "()V"⟩, prog_6_method_1_code, 1, none, 1, 1, 7, [], am_at am_c8)
def am_i9 : am_MI := (⟨"PassChecker$Machine", "<init>", "()V"⟩, prog_4_method_1_code, 1, none, 1, 1, 8, [], am_at am_c9)
def am_i10 : am_MI := (⟨"PassChecker", "take", "()V"⟩, prog_1_method_7_code, 1, none, 0, 1, 0, [], am_at am_c10)
def am_i11 : am_MI := (⟨"PassChecker$Program", "copyFrom", "(LPassChecker$Program;)V"⟩, prog_7_method_16_code, 2, none, 0, 2, 1, [], am_at am_c11)
def am_i12 : am_MI := (⟨"PassChecker", "returned", "()I"⟩, prog_1_method_15_code, 1, some .int, 0, 1, 0, [], am_at am_c12)
def am_i13 : am_MI := (⟨"PassChecker$Machine", "result", "()I"⟩, prog_4_method_3_code, 1, some .int, 0, 1, 8, [], am_at am_c13)
def am_i14 : am_MI := (⟨"PassChecker", "steps", "()I"⟩, prog_1_method_17_code, 1, some .int, 0, 1, 0, [], am_at am_c14)
def am_i15 : am_MI := (⟨"PassChecker$Machine", "stepsDone", "()I"⟩, prog_4_method_4_code, 1, some .int, 0, 1, 8, [], am_at am_c15)
def am_i16 : am_MI := (⟨"PassCheckerLaw", "block", "(LPassChecker;I[J)I"⟩, method_3_code, 4, some .int, 2, 3, 14, [(0, 9, 12, 10), (0, 9, 15, 11)], am_at am_c16)
def am_i17 : am_MI := (⟨"PassChecker", "block", "(I)I"⟩, prog_1_method_2_code, 3, some .int, 0, 2, 0, [], am_at am_c17)
def am_i18 : am_MI := (⟨"PassChecker", "programOf", "(I)LPassChecker$Program;"⟩, prog_1_method_18_code, 2, some (.object "PassChecker$Program"), 0, 2, 0, [], am_at am_c18)
def am_i19 : am_MI := (⟨"PassChecker$Program", "isFull", "()Z"⟩, prog_7_method_3_code, 1, some .boolean, 0, 1, 1, [], am_at am_c19)
def am_i20 : am_MI := (⟨"PassChecker$Program", "addBlock", "()I"⟩, prog_7_method_12_code, 2, some .int, 0, 1, 1, [], am_at am_c20)
def am_i21 : am_MI := (⟨"PassChecker$Program", "setEnd", "(IIIII)V"⟩, prog_7_method_15_code, 7, none, 0, 6, 1, [], am_at am_c21)
def am_i22 : am_MI := (⟨"PassChecker$Program", "hasBlock", "(I)Z"⟩, prog_7_method_4_code, 2, some .boolean, 0, 2, 1, [], am_at am_c22)
def am_i23 : am_MI := (⟨"PassCheckerLaw", "code", "(LPassChecker;IIIIII[J)I"⟩, method_4_code, 9, some .int, 2, 8, 14, [(0, 18, 21, 10), (0, 18, 25, 12), (0, 18, 29, 11)], am_at am_c23)
def am_i24 : am_MI := (⟨"PassChecker", "code", "(IIIIII)I"⟩, prog_1_method_3_code, 9, some .int, 0, 7, 0, [], am_at am_c24)
def am_i25 : am_MI := (⟨"PassChecker", "requireBlock", "(LPassChecker$Program;I)V"⟩, prog_1_method_19_code, 2, none, 2, 2, 0, [], am_at am_c25)
def am_i26 : am_MI := (⟨"PassChecker", "writes", "(I)Z"⟩, prog_1_method_24_code, 1, some .boolean, 2, 1, 0, [], am_at am_c26)
def am_i27 : am_MI := (⟨"PassChecker", "requireRegisterIf", "(ZI)V"⟩, prog_1_method_20_code, 2, none, 2, 2, 0, [], am_at am_c27)
def am_i28 : am_MI := (⟨"PassChecker", "isRegister", "(I)Z"⟩, prog_1_method_22_code, 1, some .boolean, 2, 1, 0, [], am_at am_c28)
def am_i29 : am_MI := (⟨"PassChecker", "readsA", "(I)Z"⟩, prog_1_method_25_code, 1, some .boolean, 2, 1, 0, [], am_at am_c29)
def am_i30 : am_MI := (⟨"PassChecker", "readsB", "(I)Z"⟩, prog_1_method_26_code, 1, some .boolean, 2, 1, 0, [], am_at am_c30)
def am_i31 : am_MI := (⟨"PassChecker$Program", "lengthOf", "(I)I"⟩, prog_7_method_6_code, 2, some .int, 0, 2, 1, [], am_at am_c31)
def am_i32 : am_MI := (⟨"PassChecker$Program", "addCode", "(IIIII)I"⟩, prog_7_method_13_code, 7, some .int, 0, 6, 1, [], am_at am_c32)
def am_i33 : am_MI := (⟨"PassChecker$Program", "setCode", "(IIIIII)V"⟩, prog_7_method_14_code, 8, none, 0, 7, 1, [], am_at am_c33)
def am_i34 : am_MI := (⟨"PassChecker$Program", "hasCode", "(II)Z"⟩, prog_7_method_5_code, 3, some .boolean, 0, 3, 1, [], am_at am_c34)
def am_i35 : am_MI := (⟨"PassCheckerLaw", "end", "(LPassChecker;IIIIII)I"⟩, method_5_code, 8, some .int, 2, 7, 14, [(0, 13, 16, 10), (0, 13, 20, 12)], am_at am_c35)
def am_i36 : am_MI := (⟨"PassChecker", "end", "(IIIIII)V"⟩, prog_1_method_4_code, 8, none, 0, 7, 0, [], am_at am_c36)
def am_i37 : am_MI := (⟨"PassChecker", "requireGoalIf", "(ZI)V"⟩, prog_1_method_21_code, 2, none, 2, 2, 0, [], am_at am_c37)
def am_i38 : am_MI := (⟨"PassCheckerLaw", "wipe", "(LPassChecker;I)I"⟩, method_6_code, 3, some .int, 2, 2, 14, [(0, 5, 8, 10)], am_at am_c38)
def am_i39 : am_MI := (⟨"PassChecker", "wipe", "(I)V"⟩, prog_1_method_5_code, 3, none, 0, 2, 0, [], am_at am_c39)
def am_i40 : am_MI := (⟨"PassChecker$Program", "clear", "()V"⟩, prog_7_method_11_code, 1, none, 0, 1, 1, [], am_at am_c40)
def am_i41 : am_MI := (⟨"PassCheckerLaw", "pass", "(LPassChecker;I[J)I"⟩, method_7_code, 4, some .int, 2, 3, 14, [(0, 9, 12, 12)], am_at am_c41)
def am_i42 : am_MI := (⟨"PassChecker", "pass", "(I)I"⟩, prog_1_method_6_code, 4, some .int, 0, 2, 0, [], am_at am_c42)
def am_i43 : am_MI := (⟨"PassChecker$Program", "blockCount", "()I"⟩, prog_7_method_2_code, 1, some .int, 0, 1, 1, [], am_at am_c43)
def am_i44 : am_MI := (⟨"PassChecker$Folder", "foldBlock", "(LPassChecker$Program;LPassChecker$Program;I)V"⟩, prog_3_method_2_code, 6, none, 0, 4, 2, [], am_at am_c44)
def am_i45 : am_MI := (⟨"PassChecker$Folder", "forget", "(I)V"⟩, prog_3_method_9_code, 2, none, 0, 2, 2, [], am_at am_c45)
def am_i46 : am_MI := (⟨"PassChecker$Folder", "foldCode", "(LPassChecker$Program;LPassChecker$Program;II)V"⟩, prog_3_method_3_code, 9, none, 0, 5, 2, [], am_at am_c46)
def am_i47 : am_MI := (⟨"PassChecker$Program", "codeAt", "(III)I"⟩, prog_7_method_7_code, 5, some .int, 0, 4, 1, [], am_at am_c47)
def am_i48 : am_MI := (⟨"PassChecker$Folder", "note", "(II)V"⟩, prog_3_method_8_code, 3, none, 0, 3, 2, [], am_at am_c48)
def am_i49 : am_MI := (⟨"PassChecker$Folder", "isKnown", "(I)Z"⟩, prog_3_method_6_code, 2, some .boolean, 0, 2, 2, [], am_at am_c49)
def am_i50 : am_MI := (⟨"PassChecker$Folder", "numberIn", "(I)I"⟩, prog_3_method_7_code, 2, some .int, 0, 2, 2, [], am_at am_c50)
def am_i51 : am_MI := (⟨"PassChecker", "isCalculation", "(I)Z"⟩, prog_1_method_27_code, 1, some .boolean, 2, 1, 0, [], am_at am_c51)
def am_i52 : am_MI := (⟨"PassChecker$Folder", "canCalculate", "(III)Z"⟩, prog_3_method_4_code, 4, some .boolean, 0, 4, 2, [], am_at am_c52)
def am_i53 : am_MI := (⟨"PassChecker", "dividesByZero", "(II)Z"⟩, prog_1_method_28_code, 2, some .boolean, 2, 2, 0, [], am_at am_c53)
def am_i54 : am_MI := (⟨"PassChecker", "calculate", "(III)I"⟩, prog_1_method_29_code, 3, some .int, 2, 3, 0, [], am_at am_c54)
def am_i55 : am_MI := (⟨"PassChecker$Folder", "foldEnd", "(LPassChecker$Program;LPassChecker$Program;I)V"⟩, prog_3_method_5_code, 6, none, 0, 4, 2, [], am_at am_c55)
def am_i56 : am_MI := (⟨"PassChecker$Program", "endAt", "(II)I"⟩, prog_7_method_8_code, 3, some .int, 0, 3, 1, [], am_at am_c56)
def am_i57 : am_MI := (⟨"PassChecker$Reuser", "reuseInBlock", "(LPassChecker$Program;LPassChecker$Program;I)V"⟩, prog_8_method_2_code, 8, none, 0, 4, 3, [], am_at am_c57)
def am_i58 : am_MI := (⟨"PassChecker$Reuser", "findEarlier", "(LPassChecker$Program;II)I"⟩, prog_8_method_3_code, 5, some .int, 0, 4, 3, [], am_at am_c58)
def am_i59 : am_MI := (⟨"PassChecker$Reuser", "isSameWork", "(LPassChecker$Program;III)Z"⟩, prog_8_method_4_code, 5, some .boolean, 0, 5, 3, [], am_at am_c59)
def am_i60 : am_MI := (⟨"PassChecker$Reuser", "stillHolds", "(LPassChecker$Program;III)Z"⟩, prog_8_method_5_code, 9, some .boolean, 0, 5, 3, [], am_at am_c60)
def am_i61 : am_MI := (⟨"PassChecker$Program", "readsAt", "(III)Z"⟩, prog_7_method_10_code, 5, some .boolean, 0, 4, 1, [], am_at am_c61)
def am_i62 : am_MI := (⟨"PassChecker$Program", "writtenAt", "(II)I"⟩, prog_7_method_9_code, 3, some .int, 0, 3, 1, [], am_at am_c62)
def am_i63 : am_MI := (⟨"PassChecker$Orderer", "orderBlock", "(LPassChecker$Program;LPassChecker$Program;I)V"⟩, prog_5_method_2_code, 7, none, 0, 4, 4, [], am_at am_c63)
def am_i64 : am_MI := (⟨"java/lang/Math", "min", "(II)I"⟩, prog_16_method_69_code, 2, some .int, 2, 2, 16, [], am_at am_c64)
def am_i65 : am_MI := (⟨"PassChecker$Orderer", "heightOf", "(LPassChecker$Program;III)I"⟩, prog_5_method_3_code, 7, some .int, 0, 5, 4, [], am_at am_c65)
def am_i66 : am_MI := (⟨"PassChecker$Orderer", "depends", "(LPassChecker$Program;III)Z"⟩, prog_5_method_6_code, 9, some .boolean, 0, 5, 4, [], am_at am_c66)
def am_i67 : am_MI := (⟨"java/lang/Math", "max", "(II)I"⟩, prog_16_method_65_code, 2, some .int, 2, 2, 16, [], am_at am_c67)
def am_i68 : am_MI := (⟨"PassChecker$Orderer", "findNext", "(LPassChecker$Program;II)I"⟩, prog_5_method_4_code, 7, some .int, 0, 4, 4, [], am_at am_c68)
def am_i69 : am_MI := (⟨"PassChecker$Orderer", "isFree", "(LPassChecker$Program;II)Z"⟩, prog_5_method_5_code, 5, some .boolean, 0, 4, 4, [], am_at am_c69)
def am_i70 : am_MI := (⟨"PassChecker$Program", "differencesFrom", "(LPassChecker$Program;)I"⟩, prog_7_method_17_code, 6, some .int, 0, 2, 1, [], am_at am_c70)
def am_i71 : am_MI := (⟨"PassChecker$Program", "hasOtherCode", "(LPassChecker$Program;II)Z"⟩, prog_7_method_18_code, 5, some .boolean, 0, 4, 1, [], am_at am_c71)
def am_i72 : am_MI := (⟨"PassChecker$Program", "hasOtherEnd", "(LPassChecker$Program;I)Z"⟩, prog_7_method_19_code, 4, some .boolean, 0, 3, 1, [], am_at am_c72)
def am_i73 : am_MI := (⟨"PassCheckerLaw", "instruction", "(LPassChecker;IIII[J)I"⟩, method_8_code, 7, some .int, 2, 6, 14, [(0, 14, 17, 10), (0, 14, 21, 12)], am_at am_c73)
def am_i74 : am_MI := (⟨"PassChecker", "instruction", "(IIII)I"⟩, prog_1_method_8_code, 6, some .int, 0, 5, 0, [], am_at am_c74)
def am_i75 : am_MI := (⟨"PassCheckerLaw", "ending", "(LPassChecker;III[J)I"⟩, method_9_code, 6, some .int, 2, 5, 14, [(0, 12, 15, 10), (0, 12, 19, 12)], am_at am_c75)
def am_i76 : am_MI := (⟨"PassChecker", "ending", "(III)I"⟩, prog_1_method_9_code, 5, some .int, 0, 4, 0, [], am_at am_c76)
def am_i77 : am_MI := (⟨"PassCheckerLaw", "check", "(LPassChecker;[J)I"⟩, method_10_code, 3, some .int, 2, 2, 14, [(0, 8, 11, 13)], am_at am_c77)
def am_i78 : am_MI := (⟨"PassChecker", "check", "()I"⟩, prog_1_method_10_code, 4, some .int, 0, 1, 0, [], am_at am_c78)
def am_i79 : am_MI := (⟨"PassChecker$Checker", "begin", "()V"⟩, prog_2_method_2_code, 1, none, 0, 1, 5, [], am_at am_c79)
def am_i80 : am_MI := (⟨"java/util/Arrays", "fill", "([II)V"⟩, prog_22_method_103_code, 4, none, 2, 2, 15, [], am_at am_c80)
def am_i81 : am_MI := (⟨"PassChecker$Checker", "meet", "(II)V"⟩, prog_2_method_15_code, 3, none, 0, 3, 5, [], am_at am_c81)
def am_i82 : am_MI := (⟨"PassChecker$Checker", "refuse", "(III)V"⟩, prog_2_method_16_code, 4, none, 0, 4, 5, [], am_at am_c82)
def am_i83 : am_MI := (⟨"PassChecker$Checker", "isWaiting", "(I)Z"⟩, prog_2_method_3_code, 2, some .boolean, 0, 2, 5, [], am_at am_c83)
def am_i84 : am_MI := (⟨"PassChecker$Checker", "waitingInSource", "(I)I"⟩, prog_2_method_4_code, 2, some .int, 0, 2, 5, [], am_at am_c84)
def am_i85 : am_MI := (⟨"PassChecker$Checker", "partnerOf", "(I)I"⟩, prog_2_method_5_code, 2, some .int, 0, 2, 5, [], am_at am_c85)
def am_i86 : am_MI := (⟨"PassChecker$Checker", "workOut", "(LPassChecker$Program;ILPassChecker$Program;I)V"⟩, prog_2_method_6_code, 5, none, 0, 5, 5, [], am_at am_c86)
def am_i87 : am_MI := (⟨"PassChecker$Values", "begin", "()V"⟩, prog_9_method_2_code, 2, none, 0, 1, 6, [], am_at am_c87)
def am_i88 : am_MI := (⟨"PassChecker$Values", "makeAtom", "(III)I"⟩, prog_9_method_10_code, 6, some .int, 0, 4, 6, [], am_at am_c88)
def am_i89 : am_MI := (⟨"PassChecker$Values", "addDraft", "()I"⟩, prog_9_method_13_code, 3, some .int, 0, 1, 6, [], am_at am_c89)
def am_i90 : am_MI := (⟨"PassChecker$Outcome", "fillFrom", "(LPassChecker$Values;LPassChecker$Program;I)V"⟩, prog_6_method_2_code, 11, none, 0, 4, 7, [], am_at am_c90)
def am_i91 : am_MI := (⟨"PassChecker$Outcome", "valueIn", "(I)I"⟩, prog_6_method_7_code, 2, some .int, 0, 2, 7, [], am_at am_c91)
def am_i92 : am_MI := (⟨"PassChecker$Outcome", "noteEffect", "(LPassChecker$Values;III)V"⟩, prog_6_method_11_code, 5, none, 0, 5, 7, [], am_at am_c92)
def am_i93 : am_MI := (⟨"PassChecker$Outcome", "addEffect", "(III)V"⟩, prog_6_method_16_code, 5, none, 0, 4, 7, [], am_at am_c93)
def am_i94 : am_MI := (⟨"PassChecker$Values", "isNumber", "(I)Z"⟩, prog_9_method_3_code, 2, some .boolean, 0, 2, 6, [], am_at am_c94)
def am_i95 : am_MI := (⟨"PassChecker$Values", "numberOf", "(I)I"⟩, prog_9_method_4_code, 2, some .int, 0, 2, 6, [], am_at am_c95)
def am_i96 : am_MI := (⟨"PassChecker$Values", "cell", "(II)I"⟩, prog_9_method_15_code, 4, some .int, 0, 3, 6, [], am_at am_c96)
def am_i97 : am_MI := (⟨"PassChecker$Outcome", "addEffectOnce", "(III)V"⟩, prog_6_method_15_code, 5, none, 0, 4, 7, [], am_at am_c97)
def am_i98 : am_MI := (⟨"PassChecker$Outcome", "isEffect", "(IIII)Z"⟩, prog_6_method_17_code, 5, some .boolean, 0, 5, 7, [], am_at am_c98)
def am_i99 : am_MI := (⟨"PassChecker", "isWord", "(I)Z"⟩, prog_1_method_23_code, 1, some .boolean, 2, 1, 0, [], am_at am_c99)
def am_i100 : am_MI := (⟨"PassChecker$Values", "makeNumber", "(I)I"⟩, prog_9_method_5_code, 2, some .int, 0, 2, 6, [], am_at am_c100)
def am_i101 : am_MI := (⟨"PassChecker$Values", "keepDraft", "()I"⟩, prog_9_method_12_code, 2, some .int, 0, 1, 6, [], am_at am_c101)
def am_i102 : am_MI := (⟨"PassChecker$Values", "isDraft", "([I)Z"⟩, prog_9_method_14_code, 3, some .boolean, 0, 2, 6, [], am_at am_c102)
def am_i103 : am_MI := (⟨"PassChecker$Outcome", "combine", "(LPassChecker$Values;III)I"⟩, prog_6_method_12_code, 6, some .int, 0, 5, 7, [], am_at am_c103)
def am_i104 : am_MI := (⟨"PassChecker$Values", "makeSum", "(III)I"⟩, prog_9_method_6_code, 5, some .int, 0, 4, 6, [], am_at am_c104)
def am_i105 : am_MI := (⟨"PassChecker$Values", "makeProduct", "(II)I"⟩, prog_9_method_7_code, 6, some .int, 0, 3, 6, [], am_at am_c105)
def am_i106 : am_MI := (⟨"PassChecker$Values", "makeAnd", "(II)I"⟩, prog_9_method_8_code, 3, some .int, 0, 3, 6, [], am_at am_c106)
def am_i107 : am_MI := (⟨"PassChecker$Values", "isThis", "(II)Z"⟩, prog_9_method_11_code, 3, some .boolean, 0, 3, 6, [], am_at am_c107)
def am_i108 : am_MI := (⟨"PassChecker$Values", "makeQuotient", "(II)I"⟩, prog_9_method_9_code, 3, some .int, 0, 3, 6, [], am_at am_c108)
def am_i109 : am_MI := (⟨"PassChecker$Outcome", "write", "(II)V"⟩, prog_6_method_14_code, 3, none, 0, 3, 7, [], am_at am_c109)
def am_i110 : am_MI := (⟨"PassChecker$Outcome", "workOutEnd", "(LPassChecker$Values;LPassChecker$Program;I)V"⟩, prog_6_method_13_code, 5, none, 0, 4, 7, [], am_at am_c110)
def am_i111 : am_MI := (⟨"PassChecker$Checker", "judge", "(II)V"⟩, prog_2_method_7_code, 3, none, 0, 3, 5, [], am_at am_c111)
def am_i112 : am_MI := (⟨"PassChecker$Outcome", "hasEffectsOf", "(LPassChecker$Outcome;)Z"⟩, prog_6_method_8_code, 3, some .boolean, 0, 2, 7, [], am_at am_c112)
def am_i113 : am_MI := (⟨"PassChecker$Outcome", "hasEndOf", "(LPassChecker$Outcome;)Z"⟩, prog_6_method_9_code, 2, some .boolean, 0, 2, 7, [], am_at am_c113)
def am_i114 : am_MI := (⟨"PassChecker$Outcome", "endKind", "()I"⟩, prog_6_method_4_code, 1, some .int, 0, 1, 7, [], am_at am_c114)
def am_i115 : am_MI := (⟨"PassChecker$Outcome", "hasRegistersOf", "(LPassChecker$Outcome;)Z"⟩, prog_6_method_10_code, 3, some .boolean, 0, 2, 7, [], am_at am_c115)
def am_i116 : am_MI := (⟨"PassChecker$Checker", "meetGoals", "()V"⟩, prog_2_method_14_code, 2, none, 0, 1, 5, [], am_at am_c116)
def am_i117 : am_MI := (⟨"PassChecker$Outcome", "goalX", "()I"⟩, prog_6_method_5_code, 1, some .int, 0, 1, 7, [], am_at am_c117)
def am_i118 : am_MI := (⟨"PassChecker$Outcome", "goalY", "()I"⟩, prog_6_method_6_code, 1, some .int, 0, 1, 7, [], am_at am_c118)
def am_i119 : am_MI := (⟨"PassChecker$Checker", "reason", "()I"⟩, prog_2_method_10_code, 1, some .int, 0, 1, 5, [], am_at am_c119)
def am_i120 : am_MI := (⟨"PassChecker$Checker", "pairCount", "()I"⟩, prog_2_method_13_code, 1, some .int, 0, 1, 5, [], am_at am_c120)
def am_i121 : am_MI := (⟨"PassCheckerLaw", "refused", "(LPassChecker;I[J)I"⟩, method_11_code, 4, some .int, 2, 3, 14, [(0, 9, 12, 12)], am_at am_c121)
def am_i122 : am_MI := (⟨"PassChecker", "refused", "(I)I"⟩, prog_1_method_11_code, 2, some .int, 0, 2, 0, [], am_at am_c122)
def am_i123 : am_MI := (⟨"PassChecker$Checker", "refusedInSource", "()I"⟩, prog_2_method_11_code, 1, some .int, 0, 1, 5, [], am_at am_c123)
def am_i124 : am_MI := (⟨"PassChecker$Checker", "refusedInTarget", "()I"⟩, prog_2_method_12_code, 1, some .int, 0, 1, 5, [], am_at am_c124)
def am_i125 : am_MI := (⟨"PassCheckerLaw", "same", "(LPassChecker;IIII[J)I"⟩, method_12_code, 7, some .int, 2, 6, 14, [(0, 21, 24, 10)], am_at am_c125)
def am_i126 : am_MI := (⟨"PassChecker", "same", "(IIII)Z"⟩, prog_1_method_12_code, 5, some .boolean, 0, 5, 0, [], am_at am_c126)
def am_i127 : am_MI := (⟨"PassChecker$Checker", "hasSame", "(II)Z"⟩, prog_2_method_8_code, 3, some .boolean, 0, 3, 5, [], am_at am_c127)
def am_i128 : am_MI := (⟨"PassCheckerLaw", "effects", "(LPassChecker;II[J)I"⟩, method_13_code, 5, some .int, 2, 4, 14, [(0, 10, 13, 10)], am_at am_c128)
def am_i129 : am_MI := (⟨"PassChecker", "effects", "(II)I"⟩, prog_1_method_13_code, 4, some .int, 0, 3, 0, [], am_at am_c129)
def am_i130 : am_MI := (⟨"PassChecker$Checker", "countEffects", "(LPassChecker$Program;I)I"⟩, prog_2_method_9_code, 3, some .int, 0, 3, 5, [], am_at am_c130)
def am_i131 : am_MI := (⟨"PassChecker$Outcome", "countOfEffects", "()I"⟩, prog_6_method_3_code, 1, some .int, 0, 1, 7, [], am_at am_c131)
def am_i132 : am_MI := (⟨"PassCheckerLaw", "run", "(LPassChecker;IIII[J)I"⟩, method_14_code, 7, some .int, 2, 6, 14, [(0, 14, 17, 10), (0, 14, 21, 12)], am_at am_c132)
def am_i133 : am_MI := (⟨"PassChecker", "run", "(IIII)I"⟩, prog_1_method_14_code, 6, some .int, 0, 5, 0, [], am_at am_c133)
def am_i134 : am_MI := (⟨"PassChecker$Machine", "execute", "(LPassChecker$Program;III)I"⟩, prog_4_method_2_code, 7, some .int, 0, 5, 8, [], am_at am_c134)
def am_i135 : am_MI := (⟨"PassChecker$Machine", "begin", "(II)V"⟩, prog_4_method_6_code, 3, none, 0, 3, 8, [], am_at am_c135)
def am_i136 : am_MI := (⟨"PassChecker$Machine", "write", "(II)V"⟩, prog_4_method_11_code, 3, none, 0, 3, 8, [], am_at am_c136)
def am_i137 : am_MI := (⟨"PassChecker$Machine", "doCode", "(LPassChecker$Program;)I"⟩, prog_4_method_7_code, 7, some .int, 0, 2, 8, [], am_at am_c137)
def am_i138 : am_MI := (⟨"PassChecker$Machine", "valueIn", "(I)I"⟩, prog_4_method_10_code, 2, some .int, 0, 2, 8, [], am_at am_c138)
def am_i139 : am_MI := (⟨"PassChecker$Machine", "trapOf", "(III)I"⟩, prog_4_method_8_code, 4, some .int, 0, 4, 8, [], am_at am_c139)
def am_i140 : am_MI := (⟨"PassChecker$Machine", "wordAt", "(I)I"⟩, prog_4_method_5_code, 2, some .int, 0, 2, 8, [], am_at am_c140)
def am_i141 : am_MI := (⟨"PassChecker$Machine", "store", "(II)V"⟩, prog_4_method_12_code, 3, none, 0, 3, 8, [], am_at am_c141)
def am_i142 : am_MI := (⟨"PassChecker$Machine", "doEnd", "(LPassChecker$Program;)I"⟩, prog_4_method_9_code, 4, some .int, 0, 2, 8, [], am_at am_c142)
def am_i143 : am_MI := (⟨"PassCheckerLaw", "word", "(LPassChecker;I[J)I"⟩, method_15_code, 4, some .int, 2, 3, 14, [(0, 9, 12, 10)], am_at am_c143)
def am_i144 : am_MI := (⟨"PassChecker", "word", "(I)I"⟩, prog_1_method_16_code, 2, some .int, 0, 2, 0, [], am_at am_c144)
def am_i145 : am_MI := (⟨"PassCheckerModel", "<init>", "()V"⟩, prog_11_method_1_code, 1, none, 1, 1, 9, [], am_at am_c145)
def am_i146 : am_MI := (⟨"PassCheckerModel", "thrown", "()I"⟩, prog_11_method_2_code, 1, some .int, 0, 1, 9, [], am_at am_c146)
def am_i147 : am_MI := (⟨"PassCheckerModel", "block", "(I)I"⟩, prog_11_method_6_code, 3, some .int, 0, 2, 9, [], am_at am_c147)
def am_i148 : am_MI := (⟨"PassCheckerModel", "outside", "(II)Z"⟩, prog_11_method_4_code, 2, some .boolean, 2, 2, 9, [], am_at am_c148)
def am_i149 : am_MI := (⟨"PassCheckerModel", "setEnd", "(IIIII)V"⟩, prog_11_method_7_code, 6, none, 0, 6, 9, [], am_at am_c149)
def am_i150 : am_MI := (⟨"PassCheckerModel", "changed", "()V"⟩, prog_11_method_5_code, 1, none, 0, 1, 9, [], am_at am_c150)
def am_i151 : am_MI := (⟨"PassCheckerModel", "code", "(IIIIII)I"⟩, prog_11_method_13_code, 8, some .int, 0, 7, 9, [], am_at am_c151)
def am_i152 : am_MI := (⟨"PassCheckerModel", "isBlock", "(II)Z"⟩, prog_11_method_8_code, 3, some .boolean, 0, 3, 9, [], am_at am_c152)
def am_i153 : am_MI := (⟨"PassCheckerModel", "fail", "(I)I"⟩, prog_11_method_3_code, 2, some .int, 0, 2, 9, [], am_at am_c153)
def am_i154 : am_MI := (⟨"PassCheckerModel", "writes", "(I)Z"⟩, prog_11_method_9_code, 1, some .boolean, 2, 1, 9, [], am_at am_c154)
def am_i155 : am_MI := (⟨"PassCheckerModel", "readsA", "(I)Z"⟩, prog_11_method_10_code, 1, some .boolean, 2, 1, 9, [], am_at am_c155)
def am_i156 : am_MI := (⟨"PassCheckerModel", "readsB", "(I)Z"⟩, prog_11_method_11_code, 1, some .boolean, 2, 1, 9, [], am_at am_c156)
def am_i157 : am_MI := (⟨"PassCheckerModel", "put", "(IIIII)V"⟩, prog_11_method_12_code, 6, none, 0, 6, 9, [], am_at am_c157)
def am_i158 : am_MI := (⟨"PassCheckerModel", "end", "(IIIIII)V"⟩, prog_11_method_14_code, 7, none, 0, 7, 9, [], am_at am_c158)
def am_i159 : am_MI := (⟨"PassCheckerModel", "wipe", "(I)V"⟩, prog_11_method_15_code, 2, none, 0, 2, 9, [], am_at am_c159)
def am_i160 : am_MI := (⟨"PassCheckerModel", "take", "()V"⟩, prog_11_method_17_code, 1, none, 0, 1, 9, [], am_at am_c160)
def am_i161 : am_MI := (⟨"PassCheckerModel", "copy", "(II)V"⟩, prog_11_method_16_code, 4, none, 0, 3, 9, [], am_at am_c161)
def am_i162 : am_MI := (⟨"PassCheckerModel", "instruction", "(IIII)I"⟩, prog_11_method_18_code, 5, some .int, 0, 5, 9, [], am_at am_c162)
def am_i163 : am_MI := (⟨"PassCheckerModel", "ending", "(III)I"⟩, prog_11_method_19_code, 4, some .int, 0, 4, 9, [], am_at am_c163)
def am_i164 : am_MI := (⟨"PassCheckerModel", "pass", "(I)I"⟩, prog_11_method_20_code, 4, some .int, 0, 2, 9, [], am_at am_c164)
def am_i165 : am_MI := (⟨"PassCheckerModel", "fold", "(I)V"⟩, prog_11_method_23_code, 10, none, 0, 2, 9, [], am_at am_c165)
def am_i166 : am_MI := (⟨"PassCheckerModel", "reckon", "(III)I"⟩, prog_11_method_22_code, 3, some .int, 2, 3, 9, [], am_at am_c166)
def am_i167 : am_MI := (⟨"PassCheckerModel", "reuse", "(I)V"⟩, prog_11_method_26_code, 6, none, 0, 2, 9, [], am_at am_c167)
def am_i168 : am_MI := (⟨"PassCheckerModel", "serves", "(III)Z"⟩, prog_11_method_25_code, 9, some .boolean, 0, 4, 9, [], am_at am_c168)
def am_i169 : am_MI := (⟨"PassCheckerModel", "writesTo", "(III)Z"⟩, prog_11_method_24_code, 5, some .boolean, 0, 4, 9, [], am_at am_c169)
def am_i170 : am_MI := (⟨"PassCheckerModel", "order", "(I)V"⟩, prog_11_method_30_code, 7, none, 0, 2, 9, [], am_at am_c170)
def am_i171 : am_MI := (⟨"PassCheckerModel", "depends", "(III)Z"⟩, prog_11_method_28_code, 6, some .boolean, 0, 4, 9, [], am_at am_c171)
def am_i172 : am_MI := (⟨"PassCheckerModel", "touches", "(III)Z"⟩, prog_11_method_27_code, 5, some .boolean, 0, 4, 9, [], am_at am_c172)
def am_i173 : am_MI := (⟨"PassCheckerModel", "takes", "(I)I"⟩, prog_11_method_29_code, 1, some .int, 2, 1, 9, [], am_at am_c173)
def am_i174 : am_MI := (⟨"PassCheckerModel", "differences", "(I)I"⟩, prog_11_method_21_code, 9, some .int, 0, 2, 9, [], am_at am_c174)
def am_i175 : am_MI := (⟨"PassCheckerModel", "check", "()I"⟩, prog_11_method_51_code, 2, some .int, 0, 1, 9, [], am_at am_c175)
def am_i176 : am_MI := (⟨"PassCheckerModel", "meet", "(II)V"⟩, prog_11_method_46_code, 4, none, 0, 3, 9, [], am_at am_c176)
def am_i177 : am_MI := (⟨"PassCheckerModel", "look", "(II)I"⟩, prog_11_method_50_code, 3, some .int, 0, 3, 9, [], am_at am_c177)
def am_i178 : am_MI := (⟨"PassCheckerModel", "begin", "()V"⟩, prog_11_method_37_code, 4, none, 0, 1, 9, [], am_at am_c178)
def am_i179 : am_MI := (⟨"PassCheckerModel", "setNumber", "([III)V"⟩, prog_11_method_32_code, 4, none, 2, 3, 9, [], am_at am_c179)
def am_i180 : am_MI := (⟨"PassCheckerModel", "workOut", "(III)V"⟩, prog_11_method_43_code, 7, none, 0, 4, 9, [], am_at am_c180)
def am_i181 : am_MI := (⟨"PassCheckerModel", "perform", "(II)V"⟩, prog_11_method_44_code, 7, none, 0, 3, 9, [], am_at am_c181)
def am_i182 : am_MI := (⟨"PassCheckerModel", "effect", "(II[II[II)V"⟩, prog_11_method_39_code, 8, none, 0, 7, 9, [], am_at am_c182)
def am_i183 : am_MI := (⟨"PassCheckerModel", "move", "([II[II)V"⟩, prog_11_method_31_code, 5, none, 2, 4, 9, [], am_at am_c183)
def am_i184 : am_MI := (⟨"PassCheckerModel", "divide", "(III)V"⟩, prog_11_method_41_code, 5, none, 0, 4, 9, [], am_at am_c184)
def am_i185 : am_MI := (⟨"PassCheckerModel", "isNumber", "([II)Z"⟩, prog_11_method_34_code, 4, some .boolean, 2, 2, 9, [], am_at am_c185)
def am_i186 : am_MI := (⟨"PassCheckerModel", "wasEffect", "(II[II[II)Z"⟩, prog_11_method_40_code, 10, some .boolean, 0, 7, 9, [], am_at am_c186)
def am_i187 : am_MI := (⟨"PassCheckerModel", "areSame", "([II[II)Z"⟩, prog_11_method_33_code, 6, some .boolean, 2, 4, 9, [], am_at am_c187)
def am_i188 : am_MI := (⟨"PassCheckerModel", "atom", "(I[II[II)I"⟩, prog_11_method_35_code, 8, some .int, 0, 6, 9, [], am_at am_c188)
def am_i189 : am_MI := (⟨"PassCheckerModel", "be", "(I)V"⟩, prog_11_method_36_code, 2, none, 0, 2, 9, [], am_at am_c189)
def am_i190 : am_MI := (⟨"PassCheckerModel", "load", "(II)V"⟩, prog_11_method_42_code, 5, none, 0, 3, 9, [], am_at am_c190)
def am_i191 : am_MI := (⟨"PassCheckerModel", "combine", "(III)V"⟩, prog_11_method_38_code, 10, none, 0, 4, 9, [], am_at am_c191)
def am_i192 : am_MI := (⟨"PassCheckerModel", "conclude", "(II)V"⟩, prog_11_method_45_code, 7, none, 0, 3, 9, [], am_at am_c192)
def am_i193 : am_MI := (⟨"PassCheckerModel", "effectsAgree", "()Z"⟩, prog_11_method_47_code, 3, some .boolean, 0, 1, 9, [], am_at am_c193)
def am_i194 : am_MI := (⟨"PassCheckerModel", "endsAgree", "()Z"⟩, prog_11_method_48_code, 1, some .boolean, 0, 1, 9, [], am_at am_c194)
def am_i195 : am_MI := (⟨"PassCheckerModel", "registersAgree", "()Z"⟩, prog_11_method_49_code, 3, some .boolean, 0, 1, 9, [], am_at am_c195)
def am_i196 : am_MI := (⟨"PassCheckerModel", "refused", "(I)I"⟩, prog_11_method_52_code, 2, some .int, 0, 2, 9, [], am_at am_c196)
def am_i197 : am_MI := (⟨"PassCheckerModel", "same", "(IIII)Z"⟩, prog_11_method_53_code, 5, some .boolean, 0, 5, 9, [], am_at am_c197)
def am_i198 : am_MI := (⟨"PassCheckerModel", "effects", "(II)I"⟩, prog_11_method_54_code, 3, some .int, 0, 3, 9, [], am_at am_c198)
def am_i199 : am_MI := (⟨"PassCheckerModel", "run", "(IIII)I"⟩, prog_11_method_55_code, 11, some .int, 0, 5, 9, [], am_at am_c199)
def am_i200 : am_MI := (⟨"PassCheckerModel", "execute", "(I)I"⟩, prog_11_method_56_code, 6, some .int, 0, 2, 9, [], am_at am_c200)
def am_i201 : am_MI := (⟨"PassCheckerModel", "returned", "()I"⟩, prog_11_method_57_code, 1, some .int, 0, 1, 9, [], am_at am_c201)
def am_i202 : am_MI := (⟨"PassCheckerModel", "word", "(I)I"⟩, prog_11_method_58_code, 2, some .int, 0, 2, 9, [], am_at am_c202)
def am_i203 : am_MI := (⟨"PassCheckerModel", "steps", "()I"⟩, prog_11_method_59_code, 1, some .int, 0, 1, 9, [], am_at am_c203)
def am_mt : am_T am_MI 8 := (am_nd 128 (am_nd 64 (am_nd 32 (am_nd 16 (am_nd 8 (am_nd 4 (am_nd 2 (am_nd 1 (am_lf am_i0) (am_lf am_i1)) (am_nd 3 (am_lf am_i2) (am_lf am_i3))) (am_nd 6 (am_nd 5 (am_lf am_i4) (am_lf am_i5)) (am_nd 7 (am_lf am_i6) (am_lf am_i7)))) (am_nd 12 (am_nd 10 (am_nd 9 (am_lf am_i8) (am_lf am_i9)) (am_nd 11 (am_lf am_i10) (am_lf am_i11))) (am_nd 14 (am_nd 13 (am_lf am_i12) (am_lf am_i13)) (am_nd 15 (am_lf am_i14) (am_lf am_i15))))) (am_nd 24 (am_nd 20 (am_nd 18 (am_nd 17 (am_lf am_i16) (am_lf am_i17)) (am_nd 19 (am_lf am_i18) (am_lf am_i19))) (am_nd 22 (am_nd 21 (am_lf am_i20) (am_lf am_i21)) (am_nd 23 (am_lf am_i22) (am_lf am_i23)))) (am_nd 28 (am_nd 26 (am_nd 25 (am_lf am_i24) (am_lf am_i25)) (am_nd 27 (am_lf am_i26) (am_lf am_i27))) (am_nd 30 (am_nd 29 (am_lf am_i28) (am_lf am_i29)) (am_nd 31 (am_lf am_i30) (am_lf am_i31)))))) (am_nd 48 (am_nd 40 (am_nd 36 (am_nd 34 (am_nd 33 (am_lf am_i32) (am_lf am_i33)) (am_nd 35 (am_lf am_i34) (am_lf am_i35))) (am_nd 38 (am_nd 37 (am_lf am_i36) (am_lf am_i37)) (am_nd 39 (am_lf am_i38) (am_lf am_i39)))) (am_nd 44 (am_nd 42 (am_nd 41 (am_lf am_i40) (am_lf am_i41)) (am_nd 43 (am_lf am_i42) (am_lf am_i43))) (am_nd 46 (am_nd 45 (am_lf am_i44) (am_lf am_i45)) (am_nd 47 (am_lf am_i46) (am_lf am_i47))))) (am_nd 56 (am_nd 52 (am_nd 50 (am_nd 49 (am_lf am_i48) (am_lf am_i49)) (am_nd 51 (am_lf am_i50) (am_lf am_i51))) (am_nd 54 (am_nd 53 (am_lf am_i52) (am_lf am_i53)) (am_nd 55 (am_lf am_i54) (am_lf am_i55)))) (am_nd 60 (am_nd 58 (am_nd 57 (am_lf am_i56) (am_lf am_i57)) (am_nd 59 (am_lf am_i58) (am_lf am_i59))) (am_nd 62 (am_nd 61 (am_lf am_i60) (am_lf am_i61)) (am_nd 63 (am_lf am_i62) (am_lf am_i63))))))) (am_nd 96 (am_nd 80 (am_nd 72 (am_nd 68 (am_nd 66 (am_nd 65 (am_lf am_i64) (am_lf am_i65)) (am_nd 67 (am_lf am_i66) (am_lf am_i67))) (am_nd 70 (am_nd 69 (am_lf am_i68) (am_lf am_i69)) (am_nd 71 (am_lf am_i70) (am_lf am_i71)))) (am_nd 76 (am_nd 74 (am_nd 73 (am_lf am_i72) (am_lf am_i73)) (am_nd 75 (am_lf am_i74) (am_lf am_i75))) (am_nd 78 (am_nd 77 (am_lf am_i76) (am_lf am_i77)) (am_nd 79 (am_lf am_i78) (am_lf am_i79))))) (am_nd 88 (am_nd 84 (am_nd 82 (am_nd 81 (am_lf am_i80) (am_lf am_i81)) (am_nd 83 (am_lf am_i82) (am_lf am_i83))) (am_nd 86 (am_nd 85 (am_lf am_i84) (am_lf am_i85)) (am_nd 87 (am_lf am_i86) (am_lf am_i87)))) (am_nd 92 (am_nd 90 (am_nd 89 (am_lf am_i88) (am_lf am_i89)) (am_nd 91 (am_lf am_i90) (am_lf am_i91))) (am_nd 94 (am_nd 93 (am_lf am_i92) (am_lf am_i93)) (am_nd 95 (am_lf am_i94) (am_lf am_i95)))))) (am_nd 112 (am_nd 104 (am_nd 100 (am_nd 98 (am_nd 97 (am_lf am_i96) (am_lf am_i97)) (am_nd 99 (am_lf am_i98) (am_lf am_i99))) (am_nd 102 (am_nd 101 (am_lf am_i100) (am_lf am_i101)) (am_nd 103 (am_lf am_i102) (am_lf am_i103)))) (am_nd 108 (am_nd 106 (am_nd 105 (am_lf am_i104) (am_lf am_i105)) (am_nd 107 (am_lf am_i106) (am_lf am_i107))) (am_nd 110 (am_nd 109 (am_lf am_i108) (am_lf am_i109)) (am_nd 111 (am_lf am_i110) (am_lf am_i111))))) (am_nd 120 (am_nd 116 (am_nd 114 (am_nd 113 (am_lf am_i112) (am_lf am_i113)) (am_nd 115 (am_lf am_i114) (am_lf am_i115))) (am_nd 118 (am_nd 117 (am_lf am_i116) (am_lf am_i117)) (am_nd 119 (am_lf am_i118) (am_lf am_i119)))) (am_nd 124 (am_nd 122 (am_nd 121 (am_lf am_i120) (am_lf am_i121)) (am_nd 123 (am_lf am_i122) (am_lf am_i123))) (am_nd 126 (am_nd 125 (am_lf am_i124) (am_lf am_i125)) (am_nd 127 (am_lf am_i126) (am_lf am_i127)))))))) (am_nd 192 (am_nd 160 (am_nd 144 (am_nd 136 (am_nd 132 (am_nd 130 (am_nd 129 (am_lf am_i128) (am_lf am_i129)) (am_nd 131 (am_lf am_i130) (am_lf am_i131))) (am_nd 134 (am_nd 133 (am_lf am_i132) (am_lf am_i133)) (am_nd 135 (am_lf am_i134) (am_lf am_i135)))) (am_nd 140 (am_nd 138 (am_nd 137 (am_lf am_i136) (am_lf am_i137)) (am_nd 139 (am_lf am_i138) (am_lf am_i139))) (am_nd 142 (am_nd 141 (am_lf am_i140) (am_lf am_i141)) (am_nd 143 (am_lf am_i142) (am_lf am_i143))))) (am_nd 152 (am_nd 148 (am_nd 146 (am_nd 145 (am_lf am_i144) (am_lf am_i145)) (am_nd 147 (am_lf am_i146) (am_lf am_i147))) (am_nd 150 (am_nd 149 (am_lf am_i148) (am_lf am_i149)) (am_nd 151 (am_lf am_i150) (am_lf am_i151)))) (am_nd 156 (am_nd 154 (am_nd 153 (am_lf am_i152) (am_lf am_i153)) (am_nd 155 (am_lf am_i154) (am_lf am_i155))) (am_nd 158 (am_nd 157 (am_lf am_i156) (am_lf am_i157)) (am_nd 159 (am_lf am_i158) (am_lf am_i159)))))) (am_nd 176 (am_nd 168 (am_nd 164 (am_nd 162 (am_nd 161 (am_lf am_i160) (am_lf am_i161)) (am_nd 163 (am_lf am_i162) (am_lf am_i163))) (am_nd 166 (am_nd 165 (am_lf am_i164) (am_lf am_i165)) (am_nd 167 (am_lf am_i166) (am_lf am_i167)))) (am_nd 172 (am_nd 170 (am_nd 169 (am_lf am_i168) (am_lf am_i169)) (am_nd 171 (am_lf am_i170) (am_lf am_i171))) (am_nd 174 (am_nd 173 (am_lf am_i172) (am_lf am_i173)) (am_nd 175 (am_lf am_i174) (am_lf am_i175))))) (am_nd 184 (am_nd 180 (am_nd 178 (am_nd 177 (am_lf am_i176) (am_lf am_i177)) (am_nd 179 (am_lf am_i178) (am_lf am_i179))) (am_nd 182 (am_nd 181 (am_lf am_i180) (am_lf am_i181)) (am_nd 183 (am_lf am_i182) (am_lf am_i183)))) (am_nd 188 (am_nd 186 (am_nd 185 (am_lf am_i184) (am_lf am_i185)) (am_nd 187 (am_lf am_i186) (am_lf am_i187))) (am_nd 190 (am_nd 189 (am_lf am_i188) (am_lf am_i189)) (am_nd 191 (am_lf am_i190) (am_lf am_i191))))))) (am_nd 1000000 (am_nd 1000000 (am_nd 200 (am_nd 196 (am_nd 194 (am_nd 193 (am_lf am_i192) (am_lf am_i193)) (am_nd 195 (am_lf am_i194) (am_lf am_i195))) (am_nd 198 (am_nd 197 (am_lf am_i196) (am_lf am_i197)) (am_nd 199 (am_lf am_i198) (am_lf am_i199)))) (am_nd 1000000 (am_nd 202 (am_nd 201 (am_lf am_i200) (am_lf am_i201)) (am_nd 203 (am_lf am_i202) (am_lf am_i203))) (am_nd 1000000 (am_nd 1000000 (am_lf am_i203) (am_lf am_i203)) (am_nd 1000000 (am_lf am_i203) (am_lf am_i203))))) (am_nd 1000000 (am_nd 1000000 (am_nd 1000000 (am_nd 1000000 (am_lf am_i203) (am_lf am_i203)) (am_nd 1000000 (am_lf am_i203) (am_lf am_i203))) (am_nd 1000000 (am_nd 1000000 (am_lf am_i203) (am_lf am_i203)) (am_nd 1000000 (am_lf am_i203) (am_lf am_i203)))) (am_nd 1000000 (am_nd 1000000 (am_nd 1000000 (am_lf am_i203) (am_lf am_i203)) (am_nd 1000000 (am_lf am_i203) (am_lf am_i203))) (am_nd 1000000 (am_nd 1000000 (am_lf am_i203) (am_lf am_i203)) (am_nd 1000000 (am_lf am_i203) (am_lf am_i203)))))) (am_nd 1000000 (am_nd 1000000 (am_nd 1000000 (am_nd 1000000 (am_nd 1000000 (am_lf am_i203) (am_lf am_i203)) (am_nd 1000000 (am_lf am_i203) (am_lf am_i203))) (am_nd 1000000 (am_nd 1000000 (am_lf am_i203) (am_lf am_i203)) (am_nd 1000000 (am_lf am_i203) (am_lf am_i203)))) (am_nd 1000000 (am_nd 1000000 (am_nd 1000000 (am_lf am_i203) (am_lf am_i203)) (am_nd 1000000 (am_lf am_i203) (am_lf am_i203))) (am_nd 1000000 (am_nd 1000000 (am_lf am_i203) (am_lf am_i203)) (am_nd 1000000 (am_lf am_i203) (am_lf am_i203))))) (am_nd 1000000 (am_nd 1000000 (am_nd 1000000 (am_nd 1000000 (am_lf am_i203) (am_lf am_i203)) (am_nd 1000000 (am_lf am_i203) (am_lf am_i203))) (am_nd 1000000 (am_nd 1000000 (am_lf am_i203) (am_lf am_i203)) (am_nd 1000000 (am_lf am_i203) (am_lf am_i203)))) (am_nd 1000000 (am_nd 1000000 (am_nd 1000000 (am_lf am_i203) (am_lf am_i203)) (am_nd 1000000 (am_lf am_i203) (am_lf am_i203))) (am_nd 1000000 (am_nd 1000000 (am_lf am_i203) (am_lf am_i203)) (am_nd 1000000 (am_lf am_i203) (am_lf am_i203)))))))))
def am_mi (k : Nat) : am_MI := am_get 8 am_mt k
def am_y (k : Nat) : MethodName := (am_mi k).1
def am_b (k : Nat) : ByteArray := (am_mi k).2.1
def am_ml (k : Nat) : Nat := (am_mi k).2.2.1
def am_rt (k : Nat) : Option FieldType := (am_mi k).2.2.2.1
def am_kd (k : Nat) : Nat := (am_mi k).2.2.2.2.1
def am_na (k : Nat) : Nat := (am_mi k).2.2.2.2.2.1
def am_oc (k : Nat) : Nat := (am_mi k).2.2.2.2.2.2.1
def am_hs (k : Nat) : List (Nat × Nat × Nat × Nat) := (am_mi k).2.2.2.2.2.2.2.1
def am_code (k : Nat) : Nat → Option Jvm.ClassFile.Instr := (am_mi k).2.2.2.2.2.2.2.2
def am_F0 : u_T := fun k => match k with
  | 0 => ("PassChecker", "source", "LPassChecker$Program;", true)
  | 1 => ("PassChecker", "target", "LPassChecker$Program;", true)
  | 2 => ("PassChecker", "folder", "LPassChecker$Folder;", true)
  | 3 => ("PassChecker", "reuser", "LPassChecker$Reuser;", true)
  | 4 => ("PassChecker", "orderer", "LPassChecker$Orderer;", true)
  | 5 => ("PassChecker", "checker", "LPassChecker$Checker;", true)
  | 6 => ("PassChecker", "machine", "LPassChecker$Machine;", true)
  | _ => ("PassChecker", "checkHolds", "Z", false)
def am_t0 : Nat → FieldType := fun k => match k with
  | 0 => .object "PassChecker$Program"
  | 1 => .object "PassChecker$Program"
  | 2 => .object "PassChecker$Folder"
  | 3 => .object "PassChecker$Reuser"
  | 4 => .object "PassChecker$Orderer"
  | 5 => .object "PassChecker$Checker"
  | 6 => .object "PassChecker$Machine"
  | _ => .boolean
def am_F1 : u_T := fun k => match k with
  | 0 => ("PassChecker$Program", "codes", "[I", true)
  | 1 => ("PassChecker$Program", "ends", "[I", true)
  | 2 => ("PassChecker$Program", "lengths", "[I", true)
  | _ => ("PassChecker$Program", "blocks", "I", false)
def am_t1 : Nat → FieldType := fun k => match k with
  | 0 => .array .int
  | 1 => .array .int
  | 2 => .array .int
  | _ => .int
def am_F2 : u_T := fun k => match k with
  | 0 => ("PassChecker$Folder", "known", "[Z", true)
  | _ => ("PassChecker$Folder", "numbers", "[I", true)
def am_t2 : Nat → FieldType := fun k => match k with
  | 0 => .array .boolean
  | _ => .array .int
def am_F3 : u_T := fun _ => ("", "", "", false)
def am_t3 : Nat → FieldType := fun _ => .int
def am_F4 : u_T := fun k => match k with
  | 0 => ("PassChecker$Orderer", "heights", "[I", true)
  | _ => ("PassChecker$Orderer", "placed", "[Z", true)
def am_t4 : Nat → FieldType := fun k => match k with
  | 0 => .array .int
  | _ => .array .boolean
def am_F5 : u_T := fun k => match k with
  | 0 => ("PassChecker$Checker", "values", "LPassChecker$Values;", true)
  | 1 => ("PassChecker$Checker", "ofSource", "LPassChecker$Outcome;", true)
  | 2 => ("PassChecker$Checker", "ofTarget", "LPassChecker$Outcome;", true)
  | 3 => ("PassChecker$Checker", "partners", "[I", true)
  | 4 => ("PassChecker$Checker", "arrivals", "[I", true)
  | 5 => ("PassChecker$Checker", "pairs", "I", false)
  | 6 => ("PassChecker$Checker", "reason", "I", false)
  | 7 => ("PassChecker$Checker", "sourceBlock", "I", false)
  | _ => ("PassChecker$Checker", "targetBlock", "I", false)
def am_t5 : Nat → FieldType := fun k => match k with
  | 0 => .object "PassChecker$Values"
  | 1 => .object "PassChecker$Outcome"
  | 2 => .object "PassChecker$Outcome"
  | 3 => .array .int
  | 4 => .array .int
  | 5 => .int
  | 6 => .int
  | 7 => .int
  | _ => .int
def am_F6 : u_T := fun k => match k with
  | 0 => ("PassChecker$Values", "rows", "[[I", true)
  | 1 => ("PassChecker$Values", "areNumbers", "[Z", true)
  | 2 => ("PassChecker$Values", "atomKinds", "[I", true)
  | 3 => ("PassChecker$Values", "atomLefts", "[I", true)
  | 4 => ("PassChecker$Values", "atomRights", "[I", true)
  | 5 => ("PassChecker$Values", "atomValues", "[I", true)
  | 6 => ("PassChecker$Values", "draft", "[I", true)
  | 7 => ("PassChecker$Values", "valueCount", "I", false)
  | _ => ("PassChecker$Values", "atomCount", "I", false)
def am_t6 : Nat → FieldType := fun k => match k with
  | 0 => .array (.array .int)
  | 1 => .array .boolean
  | 2 => .array .int
  | 3 => .array .int
  | 4 => .array .int
  | 5 => .array .int
  | 6 => .array .int
  | 7 => .int
  | _ => .int
def am_F7 : u_T := fun k => match k with
  | 0 => ("PassChecker$Outcome", "registers", "[I", true)
  | 1 => ("PassChecker$Outcome", "effectKinds", "[I", true)
  | 2 => ("PassChecker$Outcome", "effectLefts", "[I", true)
  | 3 => ("PassChecker$Outcome", "effectRights", "[I", true)
  | 4 => ("PassChecker$Outcome", "effectCount", "I", false)
  | 5 => ("PassChecker$Outcome", "stores", "I", false)
  | 6 => ("PassChecker$Outcome", "kind", "I", false)
  | 7 => ("PassChecker$Outcome", "value", "I", false)
  | 8 => ("PassChecker$Outcome", "x", "I", false)
  | _ => ("PassChecker$Outcome", "y", "I", false)
def am_t7 : Nat → FieldType := fun k => match k with
  | 0 => .array .int
  | 1 => .array .int
  | 2 => .array .int
  | 3 => .array .int
  | 4 => .int
  | 5 => .int
  | 6 => .int
  | 7 => .int
  | 8 => .int
  | _ => .int
def am_F8 : u_T := fun k => match k with
  | 0 => ("PassChecker$Machine", "registers", "[I", true)
  | 1 => ("PassChecker$Machine", "words", "[I", true)
  | 2 => ("PassChecker$Machine", "block", "I", false)
  | 3 => ("PassChecker$Machine", "at", "I", false)
  | 4 => ("PassChecker$Machine", "done", "I", false)
  | _ => ("PassChecker$Machine", "result", "I", false)
def am_t8 : Nat → FieldType := fun k => match k with
  | 0 => .array .int
  | 1 => .array .int
  | 2 => .int
  | 3 => .int
  | 4 => .int
  | _ => .int
def am_F9 : u_T := fun k => match k with
  | 0 => ("PassCheckerModel", "code", "I", false)
  | 1 => ("PassCheckerModel", "blocks", "[I", true)
  | 2 => ("PassCheckerModel", "length", "[I", true)
  | 3 => ("PassCheckerModel", "field", "[I", true)
  | 4 => ("PassCheckerModel", "ending", "[I", true)
  | 5 => ("PassCheckerModel", "atoms", "I", false)
  | 6 => ("PassCheckerModel", "kind", "[I", true)
  | 7 => ("PassCheckerModel", "left", "[I", true)
  | 8 => ("PassCheckerModel", "right", "[I", true)
  | 9 => ("PassCheckerModel", "value", "[I", true)
  | 10 => ("PassCheckerModel", "effects", "[I", true)
  | 11 => ("PassCheckerModel", "effectKind", "[I", true)
  | 12 => ("PassCheckerModel", "effectLeft", "[I", true)
  | 13 => ("PassCheckerModel", "effectRight", "[I", true)
  | 14 => ("PassCheckerModel", "work", "[I", true)
  | 15 => ("PassCheckerModel", "stores", "[I", true)
  | 16 => ("PassCheckerModel", "endKind", "[I", true)
  | 17 => ("PassCheckerModel", "endValue", "[I", true)
  | 18 => ("PassCheckerModel", "endX", "[I", true)
  | 19 => ("PassCheckerModel", "endY", "[I", true)
  | 20 => ("PassCheckerModel", "why", "I", false)
  | 21 => ("PassCheckerModel", "whySource", "I", false)
  | 22 => ("PassCheckerModel", "whyTarget", "I", false)
  | 23 => ("PassCheckerModel", "pairSource", "[I", true)
  | 24 => ("PassCheckerModel", "pairTarget", "[I", true)
  | 25 => ("PassCheckerModel", "pairs", "I", false)
  | 26 => ("PassCheckerModel", "partner", "[I", true)
  | 27 => ("PassCheckerModel", "known", "[Z", true)
  | 28 => ("PassCheckerModel", "number", "[I", true)
  | 29 => ("PassCheckerModel", "height", "[I", true)
  | 30 => ("PassCheckerModel", "placed", "[Z", true)
  | 31 => ("PassCheckerModel", "register", "[I", true)
  | 32 => ("PassCheckerModel", "memory", "[I", true)
  | 33 => ("PassCheckerModel", "steps", "I", false)
  | 34 => ("PassCheckerModel", "returned", "I", false)
  | _ => ("PassCheckerModel", "loaded", "[Z", true)
def am_t9 : Nat → FieldType := fun k => match k with
  | 0 => .int
  | 1 => .array .int
  | 2 => .array .int
  | 3 => .array .int
  | 4 => .array .int
  | 5 => .int
  | 6 => .array .int
  | 7 => .array .int
  | 8 => .array .int
  | 9 => .array .int
  | 10 => .array .int
  | 11 => .array .int
  | 12 => .array .int
  | 13 => .array .int
  | 14 => .array .int
  | 15 => .array .int
  | 16 => .array .int
  | 17 => .array .int
  | 18 => .array .int
  | 19 => .array .int
  | 20 => .int
  | 21 => .int
  | 22 => .int
  | 23 => .array .int
  | 24 => .array .int
  | 25 => .int
  | 26 => .array .int
  | 27 => .array .boolean
  | 28 => .array .int
  | 29 => .array .int
  | 30 => .array .boolean
  | 31 => .array .int
  | 32 => .array .int
  | 33 => .int
  | 34 => .int
  | _ => .array .boolean
def am_F10 : u_T := fun _ => ("", "", "", false)
def am_cl : List vw_C := [("PassChecker", am_F0, 8), ("PassChecker$Program", am_F1, 4), ("PassChecker$Folder", am_F2, 2), ("PassChecker$Reuser", am_F3, 0), ("PassChecker$Orderer", am_F4, 2), ("PassChecker$Checker", am_F5, 9), ("PassChecker$Values", am_F6, 9), ("PassChecker$Outcome", am_F7, 10), ("PassChecker$Machine", am_F8, 6), ("PassCheckerModel", am_F9, 36), ("java/lang/IndexOutOfBoundsException", am_F10, 0), ("java/lang/IllegalStateException", am_F10, 0), ("java/lang/IllegalArgumentException", am_F10, 0), ("java/lang/UnsupportedOperationException", am_F10, 0)]
def am_on (k : Nat) : String := if Nat.blt k 17 then am_get 5 ((am_nd 16 (am_nd 8 (am_nd 4 (am_nd 2 (am_nd 1 (am_lf "PassChecker") (am_lf "PassChecker$Program")) (am_nd 3 (am_lf "PassChecker$Folder") (am_lf "PassChecker$Reuser"))) (am_nd 6 (am_nd 5 (am_lf "PassChecker$Orderer") (am_lf "PassChecker$Checker")) (am_nd 7 (am_lf "PassChecker$Values") (am_lf "PassChecker$Outcome")))) (am_nd 12 (am_nd 10 (am_nd 9 (am_lf "PassChecker$Machine") (am_lf "PassCheckerModel")) (am_nd 11 (am_lf "java/lang/IndexOutOfBoundsException") (am_lf "java/lang/IllegalStateException"))) (am_nd 14 (am_nd 13 (am_lf "java/lang/IllegalArgumentException") (am_lf "java/lang/UnsupportedOperationException")) (am_nd 15 (am_lf "PassCheckerLaw") (am_lf "java/util/Arrays"))))) (am_nd 1000000 (am_nd 1000000 (am_nd 1000000 (am_nd 1000000 (am_lf "java/lang/Math") (am_lf "java/lang/Math")) (am_nd 1000000 (am_lf "java/lang/Math") (am_lf "java/lang/Math"))) (am_nd 1000000 (am_nd 1000000 (am_lf "java/lang/Math") (am_lf "java/lang/Math")) (am_nd 1000000 (am_lf "java/lang/Math") (am_lf "java/lang/Math")))) (am_nd 1000000 (am_nd 1000000 (am_nd 1000000 (am_lf "java/lang/Math") (am_lf "java/lang/Math")) (am_nd 1000000 (am_lf "java/lang/Math") (am_lf "java/lang/Math"))) (am_nd 1000000 (am_nd 1000000 (am_lf "java/lang/Math") (am_lf "java/lang/Math")) (am_nd 1000000 (am_lf "java/lang/Math") (am_lf "java/lang/Math")))))) : am_T (String) 5) k else ""
def am_ns (k : Nat) : Nat := if Nat.blt k 14 then am_get 4 ((am_nd 8 (am_nd 4 (am_nd 2 (am_nd 1 (am_lf 8) (am_lf 4)) (am_nd 3 (am_lf 2) (am_lf 0))) (am_nd 6 (am_nd 5 (am_lf 2) (am_lf 9)) (am_nd 7 (am_lf 9) (am_lf 10)))) (am_nd 12 (am_nd 10 (am_nd 9 (am_lf 6) (am_lf 36)) (am_nd 11 (am_lf 6) (am_lf 6))) (am_nd 1000000 (am_nd 13 (am_lf 6) (am_lf 6)) (am_nd 1000000 (am_lf 6) (am_lf 6))))) : am_T (Nat) 4) k else 0
def am_ftys (k : Nat) : Nat → FieldType := if Nat.blt k 10 then am_get 4 ((am_nd 8 (am_nd 4 (am_nd 2 (am_nd 1 (am_lf am_t0) (am_lf am_t1)) (am_nd 3 (am_lf am_t2) (am_lf am_t3))) (am_nd 6 (am_nd 5 (am_lf am_t4) (am_lf am_t5)) (am_nd 7 (am_lf am_t6) (am_lf am_t7)))) (am_nd 1000000 (am_nd 1000000 (am_nd 9 (am_lf am_t8) (am_lf am_t9)) (am_nd 1000000 (am_lf am_t9) (am_lf am_t9))) (am_nd 1000000 (am_nd 1000000 (am_lf am_t9) (am_lf am_t9)) (am_nd 1000000 (am_lf am_t9) (am_lf am_t9))))) : am_T (Nat → FieldType) 4) k else fun _ => .int
def am_fty (ci k : Nat) : FieldType := am_ftys ci k
def am_df (k : Nat) : List Value := if Nat.blt k 10 then am_get 4 ((am_nd 8 (am_nd 4 (am_nd 2 (am_nd 1 (am_lf ([.null, .null, .null, .null, .null, .null, .null, .int 0] : List Value)) (am_lf ([.null, .null, .null, .int 0] : List Value))) (am_nd 3 (am_lf ([.null, .null] : List Value)) (am_lf ([] : List Value)))) (am_nd 6 (am_nd 5 (am_lf ([.null, .null] : List Value)) (am_lf ([.null, .null, .null, .null, .null, .int 0, .int 0, .int 0, .int 0] : List Value))) (am_nd 7 (am_lf ([.null, .null, .null, .null, .null, .null, .null, .int 0, .int 0] : List Value)) (am_lf ([.null, .null, .null, .null, .int 0, .int 0, .int 0, .int 0, .int 0, .int 0] : List Value))))) (am_nd 1000000 (am_nd 1000000 (am_nd 9 (am_lf ([.null, .null, .int 0, .int 0, .int 0, .int 0] : List Value)) (am_lf ([.int 0, .null, .null, .null, .null, .int 0, .null, .null, .null, .null, .null, .null, .null, .null, .null, .null, .null, .null, .null, .null, .int 0, .int 0, .int 0, .null, .null, .int 0, .null, .null, .null, .null, .null, .null, .null, .int 0, .int 0, .null] : List Value))) (am_nd 1000000 (am_lf ([.int 0, .null, .null, .null, .null, .int 0, .null, .null, .null, .null, .null, .null, .null, .null, .null, .null, .null, .null, .null, .null, .int 0, .int 0, .int 0, .null, .null, .int 0, .null, .null, .null, .null, .null, .null, .null, .int 0, .int 0, .null] : List Value)) (am_lf ([.int 0, .null, .null, .null, .null, .int 0, .null, .null, .null, .null, .null, .null, .null, .null, .null, .null, .null, .null, .null, .null, .int 0, .int 0, .int 0, .null, .null, .int 0, .null, .null, .null, .null, .null, .null, .null, .int 0, .int 0, .null] : List Value)))) (am_nd 1000000 (am_nd 1000000 (am_lf ([.int 0, .null, .null, .null, .null, .int 0, .null, .null, .null, .null, .null, .null, .null, .null, .null, .null, .null, .null, .null, .null, .int 0, .int 0, .int 0, .null, .null, .int 0, .null, .null, .null, .null, .null, .null, .null, .int 0, .int 0, .null] : List Value)) (am_lf ([.int 0, .null, .null, .null, .null, .int 0, .null, .null, .null, .null, .null, .null, .null, .null, .null, .null, .null, .null, .null, .null, .int 0, .int 0, .int 0, .null, .null, .int 0, .null, .null, .null, .null, .null, .null, .null, .int 0, .int 0, .null] : List Value))) (am_nd 1000000 (am_lf ([.int 0, .null, .null, .null, .null, .int 0, .null, .null, .null, .null, .null, .null, .null, .null, .null, .null, .null, .null, .null, .null, .int 0, .int 0, .int 0, .null, .null, .int 0, .null, .null, .null, .null, .null, .null, .null, .int 0, .int 0, .null] : List Value)) (am_lf ([.int 0, .null, .null, .null, .null, .int 0, .null, .null, .null, .null, .null, .null, .null, .null, .null, .null, .null, .null, .null, .null, .int 0, .int 0, .int 0, .null, .null, .int 0, .null, .null, .null, .null, .null, .null, .null, .int 0, .int 0, .null] : List Value)))))) : am_T (List Value) 4) k else []
def am_ff (ci k : Nat) : Bool := ((am_cl.getD ci ("", am_F10, 0)).2.1 k).2.2.2
def am_fin (mid ci k : Nat) : Bool := !(am_ff ci k) || (Nat.beq (am_kd mid) 1 && Nat.beq (am_oc mid) ci)
def am_as {β : Type} : List (Nat × β) → Nat → Option β
  | [], _ => none
  | q :: r, x => if Nat.beq q.1 x then some q.2 else am_as r x
theorem am_as_mem {β : Type} : ∀ (l : List (Nat × β)) (x : Nat) (v : β), am_as l x = some v → (x, v) ∈ l
  | [], _, _, h => by cases h
  | q :: r, x, v, h => by
    simp only [am_as] at h
    split at h
    · rename_i hq
      cases h
      rw [← Nat.eq_of_beq_eq_true hq]
      exact List.mem_cons_self
    · exact List.mem_cons_of_mem _ (am_as_mem r x v h)
def am_pf_0 : List (Nat × Nat × Nat) := [(10, 0, 0), (16, 0, 1), (22, 0, 2), (29, 0, 3), (36, 0, 4), (43, 0, 5), (50, 0, 6), (54, 0, 7)]
def am_pf_1 : List (Nat × Nat × Nat) := [(9, 1, 0), (15, 1, 1), (18, 1, 2), (21, 1, 3)]
def am_pf_2 : List (Nat × Nat × Nat) := [(9, 2, 0), (15, 2, 1)]
def am_pf_3 : List (Nat × Nat × Nat) := []
def am_pf_4 : List (Nat × Nat × Nat) := [(9, 4, 0), (15, 4, 1)]
def am_pf_5 : List (Nat × Nat × Nat) := [(12, 5, 0), (21, 5, 1), (25, 5, 2), (28, 5, 3), (32, 5, 4), (35, 5, 5), (39, 5, 6), (42, 5, 7), (45, 5, 8)]
def am_pf_6 : List (Nat × Nat × Nat) := [(13, 6, 0), (16, 6, 1), (20, 6, 2), (24, 6, 3), (27, 6, 4), (30, 6, 5), (33, 6, 6), (36, 6, 7), (40, 6, 8)]
def am_pf_7 : List (Nat × Nat × Nat) := [(9, 7, 0), (15, 7, 1), (18, 7, 2), (21, 7, 3), (24, 7, 4), (28, 7, 5), (31, 7, 6), (34, 7, 7), (37, 7, 8), (40, 7, 9)]
def am_pf_8 : List (Nat × Nat × Nat) := [(9, 8, 0), (15, 8, 1), (18, 8, 2), (22, 8, 3), (25, 8, 4), (28, 8, 5)]
def am_pf_9 : List (Nat × Nat × Nat) := [(105, 9, 0), (7, 9, 1), (13, 9, 2), (16, 9, 3), (19, 9, 4), (176, 9, 5), (22, 9, 6), (25, 9, 7), (28, 9, 8), (31, 9, 9), (34, 9, 10), (37, 9, 11), (40, 9, 12), (43, 9, 13), (46, 9, 14), (49, 9, 15), (52, 9, 16), (55, 9, 17), (58, 9, 18), (61, 9, 19), (64, 9, 20), (68, 9, 21), (71, 9, 22), (74, 9, 23), (77, 9, 24), (226, 9, 25), (80, 9, 26), (83, 9, 27), (87, 9, 28), (90, 9, 29), (93, 9, 30), (96, 9, 31), (99, 9, 32), (252, 9, 33), (255, 9, 34), (102, 9, 35)]
def am_pf_10 : List (Nat × Nat × Nat) := []
def am_pf_11 : List (Nat × Nat × Nat) := []
def am_pf_12 : List (Nat × Nat × Nat) := []
def am_pf_13 : List (Nat × Nat × Nat) := []
def am_pf_14 : List (Nat × Nat × Nat) := []
def am_pf_15 : List (Nat × Nat × Nat) := []
def am_pf_16 : List (Nat × Nat × Nat) := []
def am_pfs (k : Nat) : List (Nat × Nat × Nat) := if Nat.blt k 17 then am_get 5 ((am_nd 16 (am_nd 8 (am_nd 4 (am_nd 2 (am_nd 1 (am_lf am_pf_0) (am_lf am_pf_1)) (am_nd 3 (am_lf am_pf_2) (am_lf am_pf_3))) (am_nd 6 (am_nd 5 (am_lf am_pf_4) (am_lf am_pf_5)) (am_nd 7 (am_lf am_pf_6) (am_lf am_pf_7)))) (am_nd 12 (am_nd 10 (am_nd 9 (am_lf am_pf_8) (am_lf am_pf_9)) (am_nd 11 (am_lf am_pf_10) (am_lf am_pf_11))) (am_nd 14 (am_nd 13 (am_lf am_pf_12) (am_lf am_pf_13)) (am_nd 15 (am_lf am_pf_14) (am_lf am_pf_15))))) (am_nd 1000000 (am_nd 1000000 (am_nd 1000000 (am_nd 1000000 (am_lf am_pf_16) (am_lf am_pf_16)) (am_nd 1000000 (am_lf am_pf_16) (am_lf am_pf_16))) (am_nd 1000000 (am_nd 1000000 (am_lf am_pf_16) (am_lf am_pf_16)) (am_nd 1000000 (am_lf am_pf_16) (am_lf am_pf_16)))) (am_nd 1000000 (am_nd 1000000 (am_nd 1000000 (am_lf am_pf_16) (am_lf am_pf_16)) (am_nd 1000000 (am_lf am_pf_16) (am_lf am_pf_16))) (am_nd 1000000 (am_nd 1000000 (am_lf am_pf_16) (am_lf am_pf_16)) (am_nd 1000000 (am_lf am_pf_16) (am_lf am_pf_16)))))) : am_T (List (Nat × Nat × Nat)) 5) k else []
def am_pf (oc x : Nat) : Option (Nat × Nat) := am_as (am_pfs oc) x
def am_pm_0 : List (Nat × Nat × Nat) := [(1, 1, 0), (9, 0, 2), (21, 0, 3), (28, 0, 4), (35, 0, 5), (42, 0, 6), (49, 0, 9), (124, 0, 11), (223, 0, 13), (234, 0, 15), (58, 0, 18), (62, 0, 19), (73, 0, 20), (77, 0, 25), (239, 0, 22), (86, 0, 26), (90, 0, 27), (205, 0, 28), (94, 0, 29), (97, 0, 30), (100, 0, 31), (106, 0, 32), (112, 0, 37), (115, 0, 21), (119, 0, 40), (128, 0, 43), (131, 0, 44), (135, 0, 57), (138, 0, 63), (141, 0, 70), (145, 0, 34), (156, 0, 47), (162, 0, 56), (166, 0, 79), (169, 0, 83), (172, 0, 84), (175, 0, 85), (178, 0, 86), (182, 0, 111), (186, 0, 119), (194, 0, 120), (197, 0, 123), (200, 0, 124), (210, 0, 127), (213, 0, 130), (219, 0, 134), (226, 0, 99), (231, 0, 140)]
def am_pm_1 : List (Nat × Nat × Nat) := [(3, 1, 0), (58, 2, 0), (46, 0, 21), (29, 0, 22), (25, 0, 31), (50, 0, 33), (54, 0, 34), (33, 0, 47), (40, 0, 29), (43, 0, 30), (37, 0, 26), (64, 0, 71), (68, 0, 72), (72, 0, 56)]
def am_pm_2 : List (Nat × Nat × Nat) := [(3, 1, 0), (19, 0, 45), (81, 0, 28), (23, 0, 31), (29, 0, 46), (37, 0, 47), (41, 0, 48), (45, 0, 49), (49, 0, 50), (52, 0, 33), (56, 0, 51), (59, 0, 52), (69, 0, 53), (63, 0, 54), (66, 0, 26), (33, 0, 55), (73, 0, 56), (77, 0, 21)]
def am_pm_3 : List (Nat × Nat × Nat) := [(3, 1, 0), (9, 0, 31), (15, 0, 47), (19, 0, 51), (23, 0, 58), (33, 0, 59), (37, 0, 60), (40, 0, 61), (44, 0, 62), (29, 0, 33)]
def am_pm_4 : List (Nat × Nat × Nat) := [(3, 1, 0), (19, 0, 31), (25, 0, 64), (31, 0, 65), (47, 0, 66), (39, 0, 47), (61, 0, 62), (64, 0, 61), (51, 0, 67), (35, 0, 68), (57, 0, 69), (43, 0, 33)]
def am_pm_5 : List (Nat × Nat × Nat) := [(3, 1, 0), (11, 0, 7), (20, 0, 8), (48, 0, 80), (54, 0, 81), (69, 0, 82), (58, 0, 87), (61, 0, 90), (65, 0, 112), (73, 0, 113), (76, 0, 114), (80, 0, 115), (83, 0, 116), (93, 0, 117), (96, 0, 118), (86, 0, 91), (90, 0, 131)]
def am_pm_6 : List (Nat × Nat × Nat) := [(5, 1, 0), (43, 0, 88), (51, 0, 80), (81, 0, 89), (88, 2, 0), (47, 0, 96), (57, 0, 101), (84, 0, 102), (61, 0, 94), (65, 0, 64), (70, 0, 67), (73, 0, 95), (77, 0, 107)]
def am_pm_7 : List (Nat × Nat × Nat) := [(3, 1, 0), (43, 0, 31), (49, 0, 47), (53, 0, 91), (81, 0, 28), (56, 0, 92), (89, 0, 93), (93, 0, 94), (96, 0, 95), (99, 0, 97), (85, 0, 98), (102, 0, 99), (60, 0, 100), (65, 0, 103), (105, 0, 51), (108, 0, 53), (112, 0, 54), (115, 0, 104), (118, 0, 105), (121, 0, 106), (124, 0, 88), (127, 0, 108), (69, 0, 62), (73, 0, 109), (77, 0, 110), (130, 0, 56)]
def am_pm_8 : List (Nat × Nat × Nat) := [(3, 1, 0), (31, 0, 135), (52, 0, 80), (58, 0, 136), (88, 0, 28), (35, 0, 31), (41, 0, 137), (61, 0, 47), (65, 0, 138), (68, 0, 139), (80, 0, 53), (48, 0, 99), (71, 0, 140), (74, 0, 141), (77, 0, 54), (45, 0, 142), (84, 0, 56)]
def am_pm_9 : List (Nat × Nat × Nat) := [(1, 1, 0), (108, 0, 148), (112, 0, 149), (116, 0, 150), (129, 0, 152), (132, 0, 153), (119, 0, 154), (123, 0, 155), (126, 0, 156), (136, 0, 157), (139, 0, 161), (143, 0, 165), (156, 0, 166), (147, 0, 167), (164, 0, 168), (160, 0, 169), (150, 0, 170), (170, 0, 171), (167, 0, 172), (173, 0, 173), (153, 0, 174), (245, 0, 176), (248, 0, 177), (229, 0, 178), (187, 0, 179), (232, 0, 180), (210, 0, 181), (206, 0, 182), (183, 0, 183), (216, 0, 184), (191, 0, 185), (202, 0, 186), (179, 0, 187), (195, 0, 188), (199, 0, 189), (220, 0, 190), (223, 0, 191), (213, 0, 192), (235, 0, 193), (239, 0, 194), (242, 0, 195), (258, 0, 200)]
def am_pm_10 : List (Nat × Nat × Nat) := []
def am_pm_11 : List (Nat × Nat × Nat) := []
def am_pm_12 : List (Nat × Nat × Nat) := []
def am_pm_13 : List (Nat × Nat × Nat) := []
def am_pm_14 : List (Nat × Nat × Nat) := [(65, 0, 1), (93, 0, 10), (122, 0, 12), (129, 0, 14), (69, 0, 16), (7, 0, 17), (78, 0, 23), (17, 0, 24), (82, 0, 35), (23, 0, 36), (86, 0, 38), (27, 0, 39), (90, 0, 41), (31, 0, 42), (97, 0, 73), (34, 0, 74), (101, 0, 75), (38, 0, 76), (105, 0, 77), (42, 0, 78), (109, 0, 121), (48, 0, 122), (112, 0, 125), (51, 0, 126), (115, 0, 128), (55, 0, 129), (119, 0, 132), (59, 0, 133), (126, 0, 143), (62, 0, 144), (68, 0, 145), (75, 0, 146), (74, 0, 147), (81, 0, 151), (85, 0, 158), (89, 0, 159), (96, 0, 160), (100, 0, 162), (104, 0, 163), (92, 0, 164), (108, 0, 175), (111, 0, 196), (114, 0, 197), (118, 0, 198), (121, 0, 199), (125, 0, 201), (128, 0, 202), (132, 0, 203)]
def am_pm_15 : List (Nat × Nat × Nat) := []
def am_pm_16 : List (Nat × Nat × Nat) := []
def am_pms (k : Nat) : List (Nat × Nat × Nat) := if Nat.blt k 17 then am_get 5 ((am_nd 16 (am_nd 8 (am_nd 4 (am_nd 2 (am_nd 1 (am_lf am_pm_0) (am_lf am_pm_1)) (am_nd 3 (am_lf am_pm_2) (am_lf am_pm_3))) (am_nd 6 (am_nd 5 (am_lf am_pm_4) (am_lf am_pm_5)) (am_nd 7 (am_lf am_pm_6) (am_lf am_pm_7)))) (am_nd 12 (am_nd 10 (am_nd 9 (am_lf am_pm_8) (am_lf am_pm_9)) (am_nd 11 (am_lf am_pm_10) (am_lf am_pm_11))) (am_nd 14 (am_nd 13 (am_lf am_pm_12) (am_lf am_pm_13)) (am_nd 15 (am_lf am_pm_14) (am_lf am_pm_15))))) (am_nd 1000000 (am_nd 1000000 (am_nd 1000000 (am_nd 1000000 (am_lf am_pm_16) (am_lf am_pm_16)) (am_nd 1000000 (am_lf am_pm_16) (am_lf am_pm_16))) (am_nd 1000000 (am_nd 1000000 (am_lf am_pm_16) (am_lf am_pm_16)) (am_nd 1000000 (am_lf am_pm_16) (am_lf am_pm_16)))) (am_nd 1000000 (am_nd 1000000 (am_nd 1000000 (am_lf am_pm_16) (am_lf am_pm_16)) (am_nd 1000000 (am_lf am_pm_16) (am_lf am_pm_16))) (am_nd 1000000 (am_nd 1000000 (am_lf am_pm_16) (am_lf am_pm_16)) (am_nd 1000000 (am_lf am_pm_16) (am_lf am_pm_16)))))) : am_T (List (Nat × Nat × Nat)) 5) k else []
def am_pm (oc x : Nat) : Option (Nat × Nat) := am_as (am_pms oc) x
def am_pc_0 : List (Nat × Nat) := [(7, 1), (19, 2), (26, 3), (33, 4), (40, 5), (47, 8)]
def am_pc_1 : List (Nat × Nat) := []
def am_pc_2 : List (Nat × Nat) := []
def am_pc_3 : List (Nat × Nat) := []
def am_pc_4 : List (Nat × Nat) := []
def am_pc_5 : List (Nat × Nat) := [(9, 6), (18, 7)]
def am_pc_6 : List (Nat × Nat) := []
def am_pc_7 : List (Nat × Nat) := []
def am_pc_8 : List (Nat × Nat) := []
def am_pc_9 : List (Nat × Nat) := []
def am_pc_10 : List (Nat × Nat) := []
def am_pc_11 : List (Nat × Nat) := []
def am_pc_12 : List (Nat × Nat) := []
def am_pc_13 : List (Nat × Nat) := []
def am_pc_14 : List (Nat × Nat) := [(8, 0), (66, 9)]
def am_pc_15 : List (Nat × Nat) := []
def am_pc_16 : List (Nat × Nat) := []
def am_pcs (k : Nat) : List (Nat × Nat) := if Nat.blt k 17 then am_get 5 ((am_nd 16 (am_nd 8 (am_nd 4 (am_nd 2 (am_nd 1 (am_lf am_pc_0) (am_lf am_pc_1)) (am_nd 3 (am_lf am_pc_2) (am_lf am_pc_3))) (am_nd 6 (am_nd 5 (am_lf am_pc_4) (am_lf am_pc_5)) (am_nd 7 (am_lf am_pc_6) (am_lf am_pc_7)))) (am_nd 12 (am_nd 10 (am_nd 9 (am_lf am_pc_8) (am_lf am_pc_9)) (am_nd 11 (am_lf am_pc_10) (am_lf am_pc_11))) (am_nd 14 (am_nd 13 (am_lf am_pc_12) (am_lf am_pc_13)) (am_nd 15 (am_lf am_pc_14) (am_lf am_pc_15))))) (am_nd 1000000 (am_nd 1000000 (am_nd 1000000 (am_nd 1000000 (am_lf am_pc_16) (am_lf am_pc_16)) (am_nd 1000000 (am_lf am_pc_16) (am_lf am_pc_16))) (am_nd 1000000 (am_nd 1000000 (am_lf am_pc_16) (am_lf am_pc_16)) (am_nd 1000000 (am_lf am_pc_16) (am_lf am_pc_16)))) (am_nd 1000000 (am_nd 1000000 (am_nd 1000000 (am_lf am_pc_16) (am_lf am_pc_16)) (am_nd 1000000 (am_lf am_pc_16) (am_lf am_pc_16))) (am_nd 1000000 (am_nd 1000000 (am_lf am_pc_16) (am_lf am_pc_16)) (am_nd 1000000 (am_lf am_pc_16) (am_lf am_pc_16)))))) : am_T (List (Nat × Nat)) 5) k else []
def am_pc (oc x : Nat) : Option (Nat) := am_as (am_pcs oc) x
def am_pe_0 : List (Nat × Nat) := [(149, 10), (66, 11), (81, 12), (189, 13)]
def am_pe_1 : List (Nat × Nat) := []
def am_pe_2 : List (Nat × Nat) := []
def am_pe_3 : List (Nat × Nat) := []
def am_pe_4 : List (Nat × Nat) := []
def am_pe_5 : List (Nat × Nat) := []
def am_pe_6 : List (Nat × Nat) := []
def am_pe_7 : List (Nat × Nat) := []
def am_pe_8 : List (Nat × Nat) := []
def am_pe_9 : List (Nat × Nat) := []
def am_pe_10 : List (Nat × Nat) := []
def am_pe_11 : List (Nat × Nat) := []
def am_pe_12 : List (Nat × Nat) := []
def am_pe_13 : List (Nat × Nat) := []
def am_pe_14 : List (Nat × Nat) := [(13, 10), (15, 11), (21, 12), (46, 13)]
def am_pe_15 : List (Nat × Nat) := []
def am_pe_16 : List (Nat × Nat) := []
def am_pes (k : Nat) : List (Nat × Nat) := if Nat.blt k 17 then am_get 5 ((am_nd 16 (am_nd 8 (am_nd 4 (am_nd 2 (am_nd 1 (am_lf am_pe_0) (am_lf am_pe_1)) (am_nd 3 (am_lf am_pe_2) (am_lf am_pe_3))) (am_nd 6 (am_nd 5 (am_lf am_pe_4) (am_lf am_pe_5)) (am_nd 7 (am_lf am_pe_6) (am_lf am_pe_7)))) (am_nd 12 (am_nd 10 (am_nd 9 (am_lf am_pe_8) (am_lf am_pe_9)) (am_nd 11 (am_lf am_pe_10) (am_lf am_pe_11))) (am_nd 14 (am_nd 13 (am_lf am_pe_12) (am_lf am_pe_13)) (am_nd 15 (am_lf am_pe_14) (am_lf am_pe_15))))) (am_nd 1000000 (am_nd 1000000 (am_nd 1000000 (am_nd 1000000 (am_lf am_pe_16) (am_lf am_pe_16)) (am_nd 1000000 (am_lf am_pe_16) (am_lf am_pe_16))) (am_nd 1000000 (am_nd 1000000 (am_lf am_pe_16) (am_lf am_pe_16)) (am_nd 1000000 (am_lf am_pe_16) (am_lf am_pe_16)))) (am_nd 1000000 (am_nd 1000000 (am_nd 1000000 (am_lf am_pe_16) (am_lf am_pe_16)) (am_nd 1000000 (am_lf am_pe_16) (am_lf am_pe_16))) (am_nd 1000000 (am_nd 1000000 (am_lf am_pe_16) (am_lf am_pe_16)) (am_nd 1000000 (am_lf am_pe_16) (am_lf am_pe_16)))))) : am_T (List (Nat × Nat)) 5) k else []
def am_pe (oc x : Nat) : Option (Nat) := am_as (am_pes oc) x
def am_ps (_ _ : Nat) : Option Nat := none
def am_ma (oc x : Nat) : Bool := (Nat.beq oc 6 && Nat.beq x 11)
end
section
/-! AN ABSTRACT MACHINE OF ONE'S OWN: cells are a list, references are places in it; what it does, the machine does (30.sound). -/
/-! tags: below 32 an object of that class; 32 + k an array: 0 of int, 1 of long, 2 of boolean, 3 of int[] -/
abbrev am_C : Type := Nat × List Value
abbrev am_H : Type := List am_C
abbrev am_O : Type := Option Value ⊕ Nat
abbrev am_F : Type := Nat × List Value × List Value × am_H
def am_aty : Nat → Option FieldType
  | 32 => some .int
  | 33 => some .long
  | 34 => some .boolean
  | 35 => some (.array .int)
  | _ => none
def am_dv : Nat → Value
  | 0 => .int 0
  | 1 => .long 0
  | 2 => .int 0
  | _ => .null
def am_nty : Jvm.ClassFile.ArrayType → Option Nat
  | .int => some 0
  | .long => some 1
  | .boolean => some 2
  | _ => none
def am_ald (pc : Nat) (L st : List Value) (h : am_H) (t : Nat) : Option am_F := match st with
  | .int j :: .ref a :: r => match h[a]? with
    | some (tg, fs) => if Nat.beq tg (32 + t) then if j < 0 then none else match fs[j.toNatClampNeg]? with
      | some v => some (pc + 1, L, v :: r, h)
      | none => none
      else none
    | none => none
  | _ => none
def am_ast (pc : Nat) (L r : List Value) (h : am_H) (t a : Nat) (j : Int32) (v : Value) : Option am_F := match h[a]? with
  | some (tg, fs) => if Nat.beq tg (32 + t) && Nat.ble 2 a then if j < 0 then none else if Nat.blt j.toNatClampNeg fs.length then some (pc + 1, L, r, h.set a (tg, fs.set j.toNatClampNeg v)) else none
    else none
  | none => none
def am_jmp (pc : Nat) (off : Int) : Nat := ((pc : Int) + off).toNat
/-- what is known of a local variable -/
def am_kn : Value → Bool
  | .int _ => true
  | .ref _ => true
  | _ => false
def am_kns : List Value → Bool
  | [] => true
  | v :: r => am_kn v && am_kns r
/-- the words of an operand stack -/
def am_wt : List Value → Nat
  | [] => 0
  | v :: r => v.category + am_wt r
def am_nw : Option FieldType → Int32 → Bool
  | some .int, _ => true
  | some .boolean, v => v == 0 || v == 1
  | _, _ => false
/-- what may be stored in a field of this type -/
def am_fit : FieldType → Value → Bool
  | .int, .int _ => true
  | .boolean, .int v => v == 0 || v == 1
  | .object _, .ref _ => true
  | .array _, .ref _ => true
  | _, _ => false
def am_vo : Option FieldType → Bool
  | none => true
  | _ => false
def am_ro : Option FieldType → Bool
  | some (.object _) => true
  | some (.array _) => true
  | _ => false
/-- new, dup, ldc, the constructor, athrow -/
def am_thr (cd : Nat → Option Jvm.ClassFile.Instr) (pc : Nat) : Bool := match cd (pc + 3), cd (pc + 4), cd (pc + 6), cd (pc + 9) with
  | some .dup, some (.ldc _), some (.invokespecial _), some .athrow => true
  | _, _, _, _ => false
/-- one instruction that neither calls nor ends -/
def am_step (mid pc : Nat) (L st : List Value) (h : am_H) (i : Jvm.ClassFile.Instr) : Option am_F :=
  match i with
  | .iconst n => some (pc + 1, L, .int (Int32.ofInt n) :: st, h)
  | .bipush n => some (pc + 2, L, .int (Int8.ofInt n).toInt32 :: st, h)
  | .sipush n => some (pc + 3, L, .int (Int16.ofInt n).toInt32 :: st, h)
  | .lconst n => some (pc + 1, L, .long (Int64.ofNat (n : Nat)) :: st, h)
  | .iload_n k => match L[(k : Nat)]? with
    | some (.int x) => some (pc + 1, L, .int x :: st, h)
    | _ => none
  | .iload k => match L[k]? with
    | some (.int x) => some (pc + 2, L, .int x :: st, h)
    | _ => none
  | .aload_n k => match L[(k : Nat)]? with
    | some (.ref x) => some (pc + 1, L, .ref x :: st, h)
    | _ => none
  | .aload k => match L[k]? with
    | some (.ref x) => some (pc + 2, L, .ref x :: st, h)
    | _ => none
  | .istore_n k => match st with
    | .int x :: r => if Nat.blt (k : Nat) L.length then some (pc + 1, L.set (k : Nat) (.int x), r, h) else none
    | _ => none
  | .istore k => match st with
    | .int x :: r => if Nat.blt k L.length then some (pc + 2, L.set k (.int x), r, h) else none
    | _ => none
  | .astore_n k => match st with
    | .ref x :: r => if Nat.blt (k : Nat) L.length then some (pc + 1, L.set (k : Nat) (.ref x), r, h) else none
    | _ => none
  | .astore k => match st with
    | .ref x :: r => if Nat.blt k L.length then some (pc + 2, L.set k (.ref x), r, h) else none
    | _ => none
  | .iinc k n => match L[k]? with
    | some (.int x) => some (pc + 3, L.set k (.int (x + Int32.ofInt n)), st, h)
    | _ => none
  | .iadd => match st with
    | .int y :: .int x :: r => some (pc + 1, L, .int (x + y) :: r, h)
    | _ => none
  | .isub => match st with
    | .int y :: .int x :: r => some (pc + 1, L, .int (x - y) :: r, h)
    | _ => none
  | .imul => match st with
    | .int y :: .int x :: r => some (pc + 1, L, .int (x * y) :: r, h)
    | _ => none
  | .iand => match st with
    | .int y :: .int x :: r => some (pc + 1, L, .int (x &&& y) :: r, h)
    | _ => none
  | .idiv => match st with
    | .int y :: .int x :: r => if y = 0 then none else some (pc + 1, L, .int (x / y) :: r, h)
    | _ => none
  | .i2l => match st with
    | .int x :: r => some (pc + 1, L, .long x.toInt64 :: r, h)
    | _ => none
  | .lcmp => match st with
    | .long y :: .long x :: r => some (pc + 1, L, .int (lg_cmp x y) :: r, h)
    | _ => none
  | .dup => match st with
    | v :: r => if am_kn v then some (pc + 1, L, v :: v :: r, h) else none
    | _ => none
  | .pop => match st with
    | v :: r => if am_kn v then some (pc + 1, L, r, h) else none
    | _ => none
  | .dup_x1 => match st with
    | v :: w :: r => if am_kn v && am_kn w then some (pc + 1, L, v :: w :: v :: r, h) else none
    | _ => none
  | .dup_x2 => match st with
    | v :: w :: u :: r => if am_kn v && (am_kn w && am_kn u) then some (pc + 1, L, v :: w :: u :: v :: r, h) else none
    | _ => none
  | .dup2 => match st with
    | v :: w :: r => if am_kn v && am_kn w then some (pc + 1, L, v :: w :: v :: w :: r, h) else none
    | _ => none
  | .goto o => some (am_jmp pc o, L, st, h)
  | .ifCond c o => match st with
    | .int x :: r => match c with
      | .eq => some (if x = 0 then am_jmp pc o else pc + 3, L, r, h)
      | .ne => some (if x = 0 then pc + 3 else am_jmp pc o, L, r, h)
      | .lt => some (if x < 0 then am_jmp pc o else pc + 3, L, r, h)
      | .ge => some (if 0 ≤ x then am_jmp pc o else pc + 3, L, r, h)
      | .gt => some (if 0 < x then am_jmp pc o else pc + 3, L, r, h)
      | .le => some (if x ≤ 0 then am_jmp pc o else pc + 3, L, r, h)
    | _ => none
  | .if_icmp c o => match st with
    | .int y :: .int x :: r => match c with
      | .eq => some (if x = y then am_jmp pc o else pc + 3, L, r, h)
      | .ne => some (if x = y then pc + 3 else am_jmp pc o, L, r, h)
      | .lt => some (if x < y then am_jmp pc o else pc + 3, L, r, h)
      | .ge => some (if y ≤ x then am_jmp pc o else pc + 3, L, r, h)
      | .gt => some (if y < x then am_jmp pc o else pc + 3, L, r, h)
      | .le => some (if x ≤ y then am_jmp pc o else pc + 3, L, r, h)
    | _ => none
  | .tableswitch d lo hi os => match st with
    | .int x :: r => if x.toInt < lo then some (am_jmp pc d, L, r, h) else if hi < x.toInt then some (am_jmp pc d, L, r, h) else match os[(x.toInt - lo).toNat]? with
      | some o => some (am_jmp pc o, L, r, h)
      | none => none
    | _ => none
  | .lookupswitch d ps => match st with
    | .int x :: r => some (am_jmp pc (Op.lookupswitch.offset ps.toList d x.toInt), L, r, h)
    | _ => none
  | .arraylength => match st with
    | .ref a :: r => match h[a]? with
      | some (tg, fs) => match am_aty tg with
        | some _ => some (pc + 1, L, .int (Int32.ofNat fs.length) :: r, h)
        | none => none
      | none => none
    | _ => none
  | .iaload => am_ald pc L st h 0
  | .baload => am_ald pc L st h 2
  | .laload => am_ald pc L st h 1
  | .aaload => am_ald pc L st h 3
  | .iastore => match st with
    | .int v :: .int j :: .ref a :: r => am_ast pc L r h 0 a j (.int v)
    | _ => none
  | .bastore => match st with
    | .int v :: .int j :: .ref a :: r => am_ast pc L r h 2 a j (.int (v &&& 1))
    | _ => none
  | .lastore => match st with
    | .long v :: .int j :: .ref a :: r => am_ast pc L r h 1 a j (.long v)
    | _ => none
  | .getfield x => match am_pf (am_oc mid) x with
    | some (ci, k) => match st with
      | .ref a :: r => match h[a]? with
        | some (tg, fs) => if Nat.beq tg ci then match fs[k]? with
          | some v => some (pc + 3, L, v :: r, h)
          | none => none
          else none
        | none => none
      | _ => none
    | none => none
  | .putfield x => match am_pf (am_oc mid) x with
    | some (ci, k) => match st with
      | v :: .ref a :: r => match h[a]? with
        | some (tg, fs) => if Nat.beq tg ci && (Nat.ble 2 a && (Nat.blt k fs.length && (am_fit (am_fty ci k) v && am_fin mid ci k))) then some (pc + 3, L, r, h.set a (tg, fs.set k v)) else none
        | none => none
      | _ => none
    | none => none
  | .getstatic x => match am_ps (am_oc mid) x with
    | some q => some (pc + 3, L, .ref q :: st, h)
    | none => none
  | .newarray t => match st with
    | .int n :: r => match am_nty t with
      | some k => if n < 0 then none else if Nat.ble n.toNatClampNeg 100000 then some (pc + 2, L, .ref h.length :: r, h ++ [(32 + k, List.replicate n.toNatClampNeg (am_dv k))]) else none
      | none => none
    | _ => none
  | .multianewarray x dm => match st with
    | .int k :: .int n :: r => if Nat.beq dm 2 && am_ma (am_oc mid) x then if n < 0 then none else if k < 0 then none else if Nat.ble n.toNatClampNeg 1000 && Nat.ble k.toNatClampNeg 1000 then
        some (pc + 4, L, .ref h.length :: r, h ++ ((35, (List.range n.toNatClampNeg).map (fun i => Value.ref (h.length + 1 + i))) :: List.replicate n.toNatClampNeg (32, List.replicate k.toNatClampNeg (.int 0)))) else none
      else none
    | _ => none
  | .new x => match am_pc (am_oc mid) x with
    | some ci => some (pc + 3, L, .ref h.length :: st, h ++ [(ci, am_df ci)])
    | none => none
  | _ => none
/-- the first handler that covers pc and names the class -/
def am_hdl : List (Nat × Nat × Nat × Nat) → Nat → Nat → Option Nat
  | [], _, _ => none
  | (a, b, q, x) :: r, pc, X => if Nat.ble a pc && (Nat.blt pc b && Nat.beq x X) then some q else am_hdl r pc X
/-- some handler covers pc -/
def am_cov : List (Nat × Nat × Nat × Nat) → Nat → Bool
  | [], _ => false
  | (a, b, _, _) :: r, pc => (Nat.ble a pc && Nat.blt pc b) || am_cov r pc
/-- what comes behind a call -/
def am_back (rec : Nat × Nat → Nat → Nat → List Value → List Value → am_H → Option (am_O × am_H)) (d : Nat × Nat) (mid pc : Nat) (L r : List Value) (x : Option (am_O × am_H)) : Option (am_O × am_H) := match x with
  | none => none
  | some (.inl v, h) => rec d mid (pc + 3) L (v.toList ++ r) h
  | some (.inr X, h) => match am_hdl (am_hs mid) pc X with
    | some q => rec d mid q L [.ref (h.length - 1)] h
    | none => if am_cov (am_hs mid) pc then none else some (.inr X, h)
/-- System.arraycopy of ints -/
def am_copy (h : am_H) (n dp : Int32) (b : Nat) (sp : Int32) (a : Nat) : Option am_H := match h[a]? with
  | some (tg, fs) => match h[b]? with
    | some (tg2, gs) => if Nat.beq tg 32 && (Nat.beq tg2 32 && Nat.ble 2 b) then if n < 0 then none else if dp < 0 then none else if sp < 0 then none else
        if Nat.ble (sp.toNatClampNeg + n.toNatClampNeg) fs.length && Nat.ble (dp.toNatClampNeg + n.toNatClampNeg) gs.length then
          some (h.set b (tg2, gs.take dp.toNatClampNeg ++ (fs.drop sp.toNatClampNeg).take n.toNatClampNeg ++ gs.drop (dp.toNatClampNeg + n.toNatClampNeg))) else none
      else none
    | none => none
  | none => none
/-- the receiver is of the class that declares the method -/
def am_rcv (k : Nat) (as : List Value) (h : am_H) : Bool := match am_kd k with
  | 2 => true
  | _ => match as with
    | .ref a :: _ => match h[a]? with
      | some (tg, _) => Nat.beq tg (am_oc k)
      | none => false
    | _ => false
def am_call (rec : Nat × Nat → Nat → Nat → List Value → List Value → am_H → Option (am_O × am_H)) (kd : Nat) (d : Nat × Nat) (mid pc : Nat) (L st : List Value) (h : am_H) (x : Option (Nat × Nat)) : Option (am_O × am_H) := match x with
  | none => none
  | some (0, k) => if Nat.beq (am_kd k) kd && (Nat.ble (am_na k) st.length && (Nat.ble 1 d.1 && (Nat.ble (am_wt (st.drop (am_na k)) + (am_ml k + 11)) d.2 && (am_kns (st.take (am_na k)) && am_rcv k (st.take (am_na k)).reverse h)))) then am_back rec d mid pc L (st.drop (am_na k)) (rec (d.1 - 1, d.2 - (am_wt (st.drop (am_na k)) + (am_ml k + 11))) k 0 ((st.take (am_na k)).reverse ++ List.replicate (am_ml k - am_na k) (.retAddr 0)) [] h) else none
  | some (1, _) => match st with
    | .ref _ :: r => if Nat.beq kd 1 && (Nat.ble 1 d.1 && Nat.ble (am_wt r + 12) d.2) then rec d mid (pc + 3) L r h else none
    | _ => none
  | some (2, _) => match st with
    | .int n :: .int dp :: .ref b :: .int sp :: .ref a :: r => if Nat.beq kd 2 && (Nat.ble 1 d.1 && Nat.ble (am_wt r + 18) d.2) then match am_copy h n dp b sp a with
        | some h' => rec d mid (pc + 3) L r h'
        | none => none
      else none
    | _ => none
  | some _ => none
/-- what calls and what ends -/
def am_ctl (rec : Nat × Nat → Nat → Nat → List Value → List Value → am_H → Option (am_O × am_H)) (d : Nat × Nat) (mid pc : Nat) (L st : List Value) (h : am_H) (i : Jvm.ClassFile.Instr) : Option (am_O × am_H) := match i with
  | .ireturn => match st with
    | [.int v] => if am_nw (am_rt mid) v then some (.inl (some (.int v)), h) else none
    | _ => none
  | .return_ => match st with
    | [] => if am_vo (am_rt mid) then some (.inl none, h) else none
    | _ => none
  | .areturn => match st with
    | [.ref a] => if am_ro (am_rt mid) then some (.inl (some (.ref a)), h) else none
    | _ => none
  | .invokevirtual x => am_call rec 0 d mid pc L st h (am_pm (am_oc mid) x)
  | .invokespecial x => am_call rec 1 d mid pc L st h (am_pm (am_oc mid) x)
  | .invokestatic x => am_call rec 2 d mid pc L st h (am_pm (am_oc mid) x)
  | .new x => match am_pe (am_oc mid) x with
    | some X => if Nat.ble 6 d.1 && (Nat.ble (am_wt st + 82) d.2 && (am_thr (am_code mid) pc && (am_hs mid).isEmpty)) then some (.inr X, h ++ [(X, [])]) else none
    | none => none
  | _ => none
def am_body (rec : Nat × Nat → Nat → Nat → List Value → List Value → am_H → Option (am_O × am_H)) (d : Nat × Nat) (mid pc : Nat) (L st : List Value) (h : am_H) : Option (am_O × am_H) :=
  match am_code mid pc with
  | none => none
  | some i => match am_step mid pc L st h i with
    | some (pc', L', st', h') => rec d mid pc' L' st' h'
    | none => am_ctl rec d mid pc L st h i
def am_run : Nat → Nat × Nat → Nat → Nat → List Value → List Value → am_H → Option (am_O × am_H)
  | 0 => fun _ _ _ _ _ _ => none
  | n + 1 => am_body (am_run n)
end
section
/-! THE WORDS: the tables', what the start says of Throwable's statics, which exceptions are no others, the law's own code -/
def am_exn : List String := ["java/lang/IndexOutOfBoundsException", "java/lang/IllegalStateException", "java/lang/IllegalArgumentException", "java/lang/UnsupportedOperationException"]
def am_nots : List Cond := am_exn.flatMap fun a => (am_exn.filter fun b => !(a == b)).map fun b => Cond.not (Cond.castable a b)
def am_xt : List Cond := [.isRef (.static "java/lang/Throwable" "UNASSIGNED_STACK" "[Ljava/lang/StackTraceElement;"), .isRef (.static "java/lang/Throwable" "SUPPRESSED_SENTINEL" "Ljava/util/List;"), .code x code maxLocals ret] ++ am_nots
def am_tbl : List Cond := lw_tbl ++ am_xt
end
section
/-! THE ABSTRACT MACHINE'S STEPS THAT TOUCH NO CELL ARE THE MACHINE'S -/
def am_rv (ad : Nat → Nat) : Value → Value
  | .ref k => .ref (ad k)
  | v => v
/-- lengths and goals of instructions, as decode has them -/
def am_lenok (pc : Nat) (i : Jvm.ClassFile.Instr) (len : Nat) : Bool := match i with
  | .bipush _ | .iload _ | .aload _ | .istore _ | .astore _ | .ldc _ | .newarray _ => Nat.beq len 2
  | .sipush _ | .iinc _ _ | .getfield _ | .putfield _ | .getstatic _ | .new _ | .invokevirtual _ | .invokespecial _ | .invokestatic _ => Nat.beq len 3
  | .goto o => Nat.beq len 3 && decide (0 ≤ (pc : Int) + o)
  | .ifCond _ o => Nat.beq len 3 && decide (0 ≤ (pc : Int) + o)
  | .if_icmp _ o => Nat.beq len 3 && decide (0 ≤ (pc : Int) + o)
  | .tableswitch d _ _ os => decide (0 ≤ (pc : Int) + d) && os.toList.all (fun o => decide (0 ≤ (pc : Int) + o))
  | .lookupswitch d ps => decide (0 ≤ (pc : Int) + d) && (ps.toList.all (fun o => decide (0 ≤ (pc : Int) + o.2)) && (ps.toList.zip (ps.toList.drop 1)).all (fun (a, next) => a.1 < next.1))
  | .multianewarray _ _ => Nat.beq len 4
  | _ => Nat.beq len 1
def am_L (ad : Nat → Nat) (L : List Value) (nL : Nat) (ls : Array Slot) : Prop :=
  L.length = nL ∧ ∃ lv, lv_has ls nL lv ∧ ∀ (k : Nat) (v : Value), L[k]? = some v → am_kn v = true → (k, am_rv ad v) ∈ lv
theorem am_kn_cat {ad : Nat → Nat} {v : Value} (h : am_kn v = true) : (am_rv ad v).category = 1 := by
  cases v <;> first | rfl | (simp [am_kn] at h)
theorem am_L.get {ad : Nat → Nat} {L : List Value} {nL : Nat} {ls : Array Slot} (h : am_L ad L nL ls) {k : Nat} {v : Value} (hk : L[k]? = some v) (hv : am_kn v = true) : ls[k]? = some (.val (am_rv ad v)) := by
  obtain ⟨-, lv, h1, h2⟩ := h
  exact h1.2.2 (k, am_rv ad v) (h2 k v hk hv)
theorem am_L.put {ad : Nat → Nat} {L : List Value} {nL : Nat} {ls' : Array Slot} {lv : List (Nat × Value)} {k : Nat} {v : Value} (hlen : L.length = nL) (h2 : ∀ (k : Nat) (v : Value), L[k]? = some v → am_kn v = true → (k, am_rv ad v) ∈ lv)
    (h' : lv_has ls' nL ((k, am_rv ad v) :: lv.filter (fun q => !(q.1 == k) && !(q.1 + 1 == k && q.2.category == 2)))) : am_L ad (L.set k v) nL ls' := by
  refine ⟨by simp [hlen], _, h', fun j w hj hw => ?_⟩
  by_cases e : j = k
  · subst e
    have hlt : j < L.length := by
      have := (List.getElem?_eq_some_iff.mp hj).1
      simpa using this
    rw [List.getElem?_set_self hlt] at hj
    cases hj
    exact List.mem_cons_self
  · rw [List.getElem?_set_ne (Ne.symm e)] at hj
    refine List.mem_cons_of_mem _ (List.mem_filter.mpr ⟨h2 j w hj hw, ?_⟩)
    have hc := am_kn_cat (ad := ad) hw
    simp [e, hc]
theorem am_jmp_eq {pc : Nat} {o : Int} (h : 0 ≤ (pc : Int) + o) : (pc : Int) + o = ((am_jmp pc o : Nat) : Int) := by
  unfold am_jmp
  omega
section AMP
variable {p : Program} {l : Launch} {e : Env} {R : Room} {s : State} {m : MethodId} {args : Array Value} {below : List Frame} {meth : Method} {c : Code} {H : Heap} {locs : List Loc} {cells slots : Nat} {Q : State → Prop}
/-- a step of an instruction that touches no cell -/
abbrev am_Ok (p : Program) (l : Launch) (e : Env) (R : Room) (s : State) (m : MethodId) (args : Array Value) (below : List Frame) (meth : Method) (c : Code) (H : Heap) (locs : List Loc) (cells slots : Nat) (Q : State → Prop) (i : Jvm.ClassFile.Instr) : Prop :=
  ∀ (ad : Nat → Nat) (nL mid pc len : Nat) (L st : List Value) (h : am_H) (pc' : Nat) (L' st' : List Value) (h' : am_H) (ls : Array Slot), decode c.code pc = .ok (i, len) → am_lenok pc i len = true → am_step mid pc L st h i = some (pc', L', st', h') → am_L ad L nL ls →
    (h' = h → ∀ ls' : Array Slot, am_L ad L' nL ls' → W p l e R s m args below meth c H locs cells slots Q (F0 m pc' ls' (st'.map (am_rv ad)))) → W p l e R s m args below meth c H locs cells slots Q (F0 m pc ls (st.map (am_rv ad)))
theorem am_k_iconst (hx : p.tables.exec = Jvm.exec) (n : Int) : am_Ok p l e R s m args below meth c H locs cells slots Q (.iconst n) := by
  intro ad nL mid pc len L st h pc' L' st' h' ls hd hn hs hl kk
  obtain rfl : len = 1 := Nat.eq_of_beq_eq_true hn
  cases hs
  exact lv_iconst hx rfl hd rfl (kk rfl ls hl)
theorem am_k_bipush (hx : p.tables.exec = Jvm.exec) (n : Int) : am_Ok p l e R s m args below meth c H locs cells slots Q (.bipush n) := by
  intro ad nL mid pc len L st h pc' L' st' h' ls hd hn hs hl kk
  obtain rfl : len = 2 := Nat.eq_of_beq_eq_true hn
  cases hs
  exact lv_bipush hx rfl hd rfl (kk rfl ls hl)
theorem am_k_sipush (hx : p.tables.exec = Jvm.exec) (n : Int) : am_Ok p l e R s m args below meth c H locs cells slots Q (.sipush n) := by
  intro ad nL mid pc len L st h pc' L' st' h' ls hd hn hs hl kk
  obtain rfl : len = 3 := Nat.eq_of_beq_eq_true hn
  cases hs
  exact lv_sipush hx rfl hd rfl (kk rfl ls hl)
theorem am_k_lconst (hx : p.tables.exec = Jvm.exec) (n : Fin 2) : am_Ok p l e R s m args below meth c H locs cells slots Q (.lconst n) := by
  intro ad nL mid pc len L st h pc' L' st' h' ls hd hn hs hl kk
  obtain rfl : len = 1 := Nat.eq_of_beq_eq_true hn
  cases hs
  exact lv_lconst hx rfl hd rfl (kk rfl ls hl)
theorem am_k_iload_n (hx : p.tables.exec = Jvm.exec) (k : Fin 4) : am_Ok p l e R s m args below meth c H locs cells slots Q (.iload_n k) := by
  intro ad nL mid pc len L st h pc' L' st' h' ls hd hn hs hl kk
  obtain rfl : len = 1 := Nat.eq_of_beq_eq_true hn
  simp only [am_step] at hs
  split at hs
  · rename_i x hk
    cases hs
    exact lv_iload_n hx rfl hd rfl (hl.get hk rfl) (kk rfl ls hl)
  · cases hs
theorem am_k_iload (hx : p.tables.exec = Jvm.exec) (k : Nat) : am_Ok p l e R s m args below meth c H locs cells slots Q (.iload k) := by
  intro ad nL mid pc len L st h pc' L' st' h' ls hd hn hs hl kk
  obtain rfl : len = 2 := Nat.eq_of_beq_eq_true hn
  simp only [am_step] at hs
  split at hs
  · rename_i x hk
    cases hs
    exact lv_iload hx rfl hd (hl.get hk rfl) (kk rfl ls hl)
  · cases hs
theorem am_k_aload_n (hx : p.tables.exec = Jvm.exec) (k : Fin 4) : am_Ok p l e R s m args below meth c H locs cells slots Q (.aload_n k) := by
  intro ad nL mid pc len L st h pc' L' st' h' ls hd hn hs hl kk
  obtain rfl : len = 1 := Nat.eq_of_beq_eq_true hn
  simp only [am_step] at hs
  split at hs
  · rename_i x hk
    cases hs
    exact lv_aload_n hx rfl hd rfl (hl.get hk rfl) (kk rfl ls hl)
  · cases hs
theorem am_k_aload (hx : p.tables.exec = Jvm.exec) (k : Nat) : am_Ok p l e R s m args below meth c H locs cells slots Q (.aload k) := by
  intro ad nL mid pc len L st h pc' L' st' h' ls hd hn hs hl kk
  obtain rfl : len = 2 := Nat.eq_of_beq_eq_true hn
  simp only [am_step] at hs
  split at hs
  · rename_i x hk
    cases hs
    exact lv_aload hx rfl hd (hl.get hk rfl) (kk rfl ls hl)
  · cases hs
theorem am_k_istore_n (hx : p.tables.exec = Jvm.exec) (k : Fin 4) : am_Ok p l e R s m args below meth c H locs cells slots Q (.istore_n k) := by
  intro ad nL mid pc len L st h pc' L' st' h' ls hd hn hs hl kk
  obtain rfl : len = 1 := Nat.eq_of_beq_eq_true hn
  simp only [am_step] at hs
  split at hs
  · rename_i x r
    split at hs
    · rename_i hq
      cases hs
      have hk : k < L.length := Nat.le_of_ble_eq_true hq
      obtain ⟨hlen, lv, h1, h2⟩ := hl
      exact lv_istore_n hx rfl hd rfl h1 (by rw [← hlen]; exact hk) rfl (fun ls' h3 => kk rfl ls' (am_L.put (v := .int x) hlen h2 h3))
    · cases hs
  · cases hs
theorem am_k_istore (hx : p.tables.exec = Jvm.exec) (k : Nat) : am_Ok p l e R s m args below meth c H locs cells slots Q (.istore k) := by
  intro ad nL mid pc len L st h pc' L' st' h' ls hd hn hs hl kk
  obtain rfl : len = 2 := Nat.eq_of_beq_eq_true hn
  simp only [am_step] at hs
  split at hs
  · rename_i x r
    split at hs
    · rename_i hq
      cases hs
      have hk : k < L.length := Nat.le_of_ble_eq_true hq
      obtain ⟨hlen, lv, h1, h2⟩ := hl
      exact lv_istore hx rfl hd h1 (by rw [← hlen]; exact hk) rfl (fun ls' h3 => kk rfl ls' (am_L.put (v := .int x) hlen h2 h3))
    · cases hs
  · cases hs
theorem am_k_astore_n (hx : p.tables.exec = Jvm.exec) (k : Fin 4) : am_Ok p l e R s m args below meth c H locs cells slots Q (.astore_n k) := by
  intro ad nL mid pc len L st h pc' L' st' h' ls hd hn hs hl kk
  obtain rfl : len = 1 := Nat.eq_of_beq_eq_true hn
  simp only [am_step] at hs
  split at hs
  · rename_i x r
    split at hs
    · rename_i hq
      cases hs
      have hk : k < L.length := Nat.le_of_ble_eq_true hq
      obtain ⟨hlen, lv, h1, h2⟩ := hl
      exact lv_astore_n hx rfl hd rfl h1 (by rw [← hlen]; exact hk) rfl (fun ls' h3 => kk rfl ls' (am_L.put (v := .ref x) hlen h2 h3))
    · cases hs
  · cases hs
theorem am_k_astore (hx : p.tables.exec = Jvm.exec) (k : Nat) : am_Ok p l e R s m args below meth c H locs cells slots Q (.astore k) := by
  intro ad nL mid pc len L st h pc' L' st' h' ls hd hn hs hl kk
  obtain rfl : len = 2 := Nat.eq_of_beq_eq_true hn
  simp only [am_step] at hs
  split at hs
  · rename_i x r
    split at hs
    · rename_i hq
      cases hs
      have hk : k < L.length := Nat.le_of_ble_eq_true hq
      obtain ⟨hlen, lv, h1, h2⟩ := hl
      exact lv_astore hx rfl hd h1 (by rw [← hlen]; exact hk) rfl (fun ls' h3 => kk rfl ls' (am_L.put (v := .ref x) hlen h2 h3))
    · cases hs
  · cases hs
theorem am_k_iinc (hx : p.tables.exec = Jvm.exec) (k : Nat) (n : Int) : am_Ok p l e R s m args below meth c H locs cells slots Q (.iinc k n) := by
  intro ad nL mid pc len L st h pc' L' st' h' ls hd hn hs hl kk
  obtain rfl : len = 3 := Nat.eq_of_beq_eq_true hn
  simp only [am_step] at hs
  split at hs
  · rename_i x hk
    cases hs
    obtain ⟨hlen, lv, h1, h2⟩ := hl
    obtain ⟨j, hj⟩ := List.getElem?_of_mem (h2 k _ hk rfl)
    exact lv_iinc hx rfl hd h1 hj rfl (by rw [← hlen]; exact (List.getElem?_eq_some_iff.mp hk).1) rfl (fun ls' h3 => kk rfl ls' (am_L.put (v := .int (x + Int32.ofInt n)) hlen h2 h3))
  · cases hs
theorem am_k_iadd (hx : p.tables.exec = Jvm.exec) : am_Ok p l e R s m args below meth c H locs cells slots Q (.iadd) := by
  intro ad nL mid pc len L st h pc' L' st' h' ls hd hn hs hl kk
  obtain rfl : len = 1 := Nat.eq_of_beq_eq_true hn
  simp only [am_step] at hs
  split at hs
  · cases hs
    exact lv_iadd hx rfl hd (kk rfl ls hl)
  · cases hs
theorem am_k_isub (hx : p.tables.exec = Jvm.exec) : am_Ok p l e R s m args below meth c H locs cells slots Q (.isub) := by
  intro ad nL mid pc len L st h pc' L' st' h' ls hd hn hs hl kk
  obtain rfl : len = 1 := Nat.eq_of_beq_eq_true hn
  simp only [am_step] at hs
  split at hs
  · cases hs
    exact lv_isub hx rfl hd (kk rfl ls hl)
  · cases hs
theorem am_k_imul (hx : p.tables.exec = Jvm.exec) : am_Ok p l e R s m args below meth c H locs cells slots Q (.imul) := by
  intro ad nL mid pc len L st h pc' L' st' h' ls hd hn hs hl kk
  obtain rfl : len = 1 := Nat.eq_of_beq_eq_true hn
  simp only [am_step] at hs
  split at hs
  · cases hs
    exact lv_imul hx rfl hd (kk rfl ls hl)
  · cases hs
theorem am_k_iand (hx : p.tables.exec = Jvm.exec) : am_Ok p l e R s m args below meth c H locs cells slots Q (.iand) := by
  intro ad nL mid pc len L st h pc' L' st' h' ls hd hn hs hl kk
  obtain rfl : len = 1 := Nat.eq_of_beq_eq_true hn
  simp only [am_step] at hs
  split at hs
  · cases hs
    exact lv_iand hx rfl hd (kk rfl ls hl)
  · cases hs
theorem am_k_idiv (hx : p.tables.exec = Jvm.exec) : am_Ok p l e R s m args below meth c H locs cells slots Q (.idiv) := by
  intro ad nL mid pc len L st h pc' L' st' h' ls hd hn hs hl kk
  obtain rfl : len = 1 := Nat.eq_of_beq_eq_true hn
  simp only [am_step] at hs
  split at hs
  · rename_i y x r
    by_cases hy : y = 0
    · rw [if_pos hy] at hs; cases hs
    · rw [if_neg hy] at hs
      cases hs
      exact lv_idiv hx rfl hd hy (kk rfl ls hl)
  · cases hs
theorem am_k_i2l (hx : p.tables.exec = Jvm.exec) : am_Ok p l e R s m args below meth c H locs cells slots Q (.i2l) := by
  intro ad nL mid pc len L st h pc' L' st' h' ls hd hn hs hl kk
  obtain rfl : len = 1 := Nat.eq_of_beq_eq_true hn
  simp only [am_step] at hs
  split at hs
  · cases hs
    exact lv_i2l hx rfl hd rfl (kk rfl ls hl)
  · cases hs
theorem am_k_lcmp (hx : p.tables.exec = Jvm.exec) : am_Ok p l e R s m args below meth c H locs cells slots Q (.lcmp) := by
  intro ad nL mid pc len L st h pc' L' st' h' ls hd hn hs hl kk
  obtain rfl : len = 1 := Nat.eq_of_beq_eq_true hn
  simp only [am_step] at hs
  split at hs
  · cases hs
    exact W.lcmp hx rfl hd (kk rfl ls hl)
  · cases hs
theorem am_k_dup (hx : p.tables.exec = Jvm.exec) : am_Ok p l e R s m args below meth c H locs cells slots Q (.dup) := by
  intro ad nL mid pc len L st h pc' L' st' h' ls hd hn hs hl kk
  obtain rfl : len = 1 := Nat.eq_of_beq_eq_true hn
  simp only [am_step] at hs
  split at hs
  · rename_i v r
    split at hs
    · rename_i hq
      cases hs
      exact lv_dup hx rfl hd (am_kn_cat hq) (kk rfl ls hl)
    · cases hs
  · cases hs
theorem am_k_pop (hx : p.tables.exec = Jvm.exec) : am_Ok p l e R s m args below meth c H locs cells slots Q (.pop) := by
  intro ad nL mid pc len L st h pc' L' st' h' ls hd hn hs hl kk
  obtain rfl : len = 1 := Nat.eq_of_beq_eq_true hn
  simp only [am_step] at hs
  split at hs
  · rename_i v r
    split at hs
    · rename_i hq
      cases hs
      exact lv_pop hx rfl hd (am_kn_cat hq) (kk rfl ls hl)
    · cases hs
  · cases hs
theorem am_k_dup_x1 (hx : p.tables.exec = Jvm.exec) : am_Ok p l e R s m args below meth c H locs cells slots Q (.dup_x1) := by
  intro ad nL mid pc len L st h pc' L' st' h' ls hd hn hs hl kk
  obtain rfl : len = 1 := Nat.eq_of_beq_eq_true hn
  simp only [am_step] at hs
  split at hs
  · rename_i v w r
    split at hs
    · rename_i hq
      cases hs
      simp only [Bool.and_eq_true] at hq
      exact lv_dup_x1 hx rfl hd (am_kn_cat hq.1) (am_kn_cat hq.2) (kk rfl ls hl)
    · cases hs
  · cases hs
theorem am_k_dup_x2 (hx : p.tables.exec = Jvm.exec) : am_Ok p l e R s m args below meth c H locs cells slots Q (.dup_x2) := by
  intro ad nL mid pc len L st h pc' L' st' h' ls hd hn hs hl kk
  obtain rfl : len = 1 := Nat.eq_of_beq_eq_true hn
  simp only [am_step] at hs
  split at hs
  · rename_i v w u r
    split at hs
    · rename_i hq
      cases hs
      simp only [Bool.and_eq_true] at hq
      exact lv_dup_x2 hx rfl hd (am_kn_cat hq.1) (am_kn_cat hq.2.1) (am_kn_cat hq.2.2) (kk rfl ls hl)
    · cases hs
  · cases hs
theorem am_k_dup2 (hx : p.tables.exec = Jvm.exec) : am_Ok p l e R s m args below meth c H locs cells slots Q (.dup2) := by
  intro ad nL mid pc len L st h pc' L' st' h' ls hd hn hs hl kk
  obtain rfl : len = 1 := Nat.eq_of_beq_eq_true hn
  simp only [am_step] at hs
  split at hs
  · rename_i v w r
    split at hs
    · rename_i hq
      cases hs
      simp only [Bool.and_eq_true] at hq
      exact lv_dup2_11 hx rfl hd (am_kn_cat hq.1) (am_kn_cat hq.2) (kk rfl ls hl)
    · cases hs
  · cases hs
theorem am_k_goto (hx : p.tables.exec = Jvm.exec) (o : Int) : am_Ok p l e R s m args below meth c H locs cells slots Q (.goto o) := by
  intro ad nL mid pc len L st h pc' L' st' h' ls hd hn hs hl kk
  simp only [am_lenok, Bool.and_eq_true, decide_eq_true_eq] at hn
  obtain rfl : len = 3 := Nat.eq_of_beq_eq_true hn.1
  cases hs
  exact lv_goto hx rfl hd (am_jmp_eq hn.2) (kk rfl ls hl)
theorem am_k_ifCond (hx : p.tables.exec = Jvm.exec) (b : Jvm.ClassFile.Cond) (o : Int) : am_Ok p l e R s m args below meth c H locs cells slots Q (.ifCond b o) := by
  intro ad nL mid pc len L st h pc' L' st' h' ls hd hn hs hl kk
  simp only [am_lenok, Bool.and_eq_true, decide_eq_true_eq] at hn
  obtain rfl : len = 3 := Nat.eq_of_beq_eq_true hn.1
  have ht := am_jmp_eq hn.2
  simp only [am_step] at hs
  split at hs
  · cases b
    · cases hs
      exact lv_if_eq hx rfl hd ht (fun hc => by have k2 := kk rfl ls hl; rw [if_pos hc] at k2; exact k2) (fun hc => by have k2 := kk rfl ls hl; rw [if_neg hc] at k2; exact k2)
    · cases hs
      exact lv_if_ne hx rfl hd ht (fun hc => by have k2 := kk rfl ls hl; rw [if_neg hc] at k2; exact k2) (fun hc => by have k2 := kk rfl ls hl; rw [if_pos hc] at k2; exact k2)
    · cases hs
      exact lv_if_lt hx rfl hd ht (fun hc => by have k2 := kk rfl ls hl; rw [if_pos hc] at k2; exact k2) (fun hc => by have k2 := kk rfl ls hl; rw [if_neg hc] at k2; exact k2)
    · cases hs
      exact lv_if_ge hx rfl hd ht (fun hc => by have k2 := kk rfl ls hl; rw [if_pos hc] at k2; exact k2) (fun hc => by have k2 := kk rfl ls hl; rw [if_neg hc] at k2; exact k2)
    · cases hs
      exact lv_if_gt hx rfl hd ht (fun hc => by have k2 := kk rfl ls hl; rw [if_pos hc] at k2; exact k2) (fun hc => by have k2 := kk rfl ls hl; rw [if_neg hc] at k2; exact k2)
    · cases hs
      exact lv_if_le hx rfl hd ht (fun hc => by have k2 := kk rfl ls hl; rw [if_pos hc] at k2; exact k2) (fun hc => by have k2 := kk rfl ls hl; rw [if_neg hc] at k2; exact k2)
  · cases hs
theorem am_k_if_icmp (hx : p.tables.exec = Jvm.exec) (b : Jvm.ClassFile.Cond) (o : Int) : am_Ok p l e R s m args below meth c H locs cells slots Q (.if_icmp b o) := by
  intro ad nL mid pc len L st h pc' L' st' h' ls hd hn hs hl kk
  simp only [am_lenok, Bool.and_eq_true, decide_eq_true_eq] at hn
  obtain rfl : len = 3 := Nat.eq_of_beq_eq_true hn.1
  have ht := am_jmp_eq hn.2
  simp only [am_step] at hs
  split at hs
  · cases b
    · cases hs
      exact lv_icmp_eq hx rfl hd ht (fun hc => by have k2 := kk rfl ls hl; rw [if_pos hc] at k2; exact k2) (fun hc => by have k2 := kk rfl ls hl; rw [if_neg hc] at k2; exact k2)
    · cases hs
      exact lv_icmp_ne hx rfl hd ht (fun hc => by have k2 := kk rfl ls hl; rw [if_neg hc] at k2; exact k2) (fun hc => by have k2 := kk rfl ls hl; rw [if_pos hc] at k2; exact k2)
    · cases hs
      exact lv_icmp_lt hx rfl hd ht (fun hc => by have k2 := kk rfl ls hl; rw [if_pos hc] at k2; exact k2) (fun hc => by have k2 := kk rfl ls hl; rw [if_neg hc] at k2; exact k2)
    · cases hs
      exact lv_icmp_ge hx rfl hd ht (fun hc => by have k2 := kk rfl ls hl; rw [if_pos hc] at k2; exact k2) (fun hc => by have k2 := kk rfl ls hl; rw [if_neg hc] at k2; exact k2)
    · cases hs
      exact lv_icmp_gt hx rfl hd ht (fun hc => by have k2 := kk rfl ls hl; rw [if_pos hc] at k2; exact k2) (fun hc => by have k2 := kk rfl ls hl; rw [if_neg hc] at k2; exact k2)
    · cases hs
      exact lv_icmp_le hx rfl hd ht (fun hc => by have k2 := kk rfl ls hl; rw [if_pos hc] at k2; exact k2) (fun hc => by have k2 := kk rfl ls hl; rw [if_neg hc] at k2; exact k2)
  · cases hs
theorem am_k_tableswitch (hx : p.tables.exec = Jvm.exec) (d lo hi : Int) (os : Array Int) : am_Ok p l e R s m args below meth c H locs cells slots Q (.tableswitch d lo hi os) := by
  intro ad nL mid pc len L st h pc' L' st' h' ls hd hn hs hl kk
  simp only [am_lenok, Bool.and_eq_true, decide_eq_true_eq, List.all_eq_true] at hn
  simp only [am_step] at hs
  split at hs
  · rename_i x r
    by_cases h1 : x.toInt < lo
    · rw [if_pos h1] at hs
      cases hs
      exact lv_tableOut hx rfl hd (Or.inl h1) (am_jmp_eq hn.1) (kk rfl ls hl)
    · rw [if_neg h1] at hs
      by_cases h2 : hi < x.toInt
      · rw [if_pos h2] at hs
        cases hs
        exact lv_tableOut hx rfl hd (Or.inr h2) (am_jmp_eq hn.1) (kk rfl ls hl)
      · rw [if_neg h2] at hs
        split at hs
        · rename_i o ho
          cases hs
          exact lv_tableIn hx rfl hd h1 h2 ho (am_jmp_eq (hn.2 o (Array.mem_toList_iff.mpr (Array.mem_of_getElem? ho)))) (kk rfl ls hl)
        · cases hs
  · cases hs
theorem am_lsw {d : Int} {pc : Nat} (x : Int) : ∀ ps : List (Int × Int), 0 ≤ (pc : Int) + d → (∀ o ∈ ps, 0 ≤ (pc : Int) + o.2) → 0 ≤ (pc : Int) + Op.lookupswitch.offset ps d x
  | [], h, _ => by simpa [Op.lookupswitch.offset] using h
  | (a, o) :: r, h, ha => by
    rw [Op.lookupswitch.offset_cons]
    split
    · exact ha (a, o) List.mem_cons_self
    · exact am_lsw x r h (fun q hq => ha q (List.mem_cons_of_mem _ hq))
theorem am_k_lookupswitch (hx : p.tables.exec = Jvm.exec) (d : Int) (ps : Array (Int × Int)) : am_Ok p l e R s m args below meth c H locs cells slots Q (.lookupswitch d ps) := by
  intro ad nL mid pc len L st h pc' L' st' h' ls hd hn hs hl kk
  simp only [am_lenok, Bool.and_eq_true] at hn
  simp only [am_step] at hs
  split at hs
  · rename_i x r
    cases hs
    refine lv_lookup hx rfl hd hn.2.2 rfl (am_jmp_eq (am_lsw _ _ (of_decide_eq_true hn.1) (fun o ho => ?_))) (kk rfl ls hl)
    exact of_decide_eq_true (List.all_eq_true.mp hn.2.1 o ho)
  · cases hs
end AMP
end
section
/-! THE CELLS: what of the heap the abstract machine's cells say -/
def am_isI : Value → Bool
  | .int _ => true
  | _ => false
/-- D: the classes' numbers and slots; S0: the tables; ad: the addresses of the places -/
def am_cell (S0 : State) (D : va_G) (ad : Nat → Nat) (a : Nat) (x : am_C) (H : Heap) : Prop := match am_aty x.1 with
  | some ty => ∃ cell : Cell, H[a]? = some cell ∧ S0.isArrayOf cell ty ∧ cell.vm ≠ .unknown ∧ cell.slots = (x.2.map (am_rv ad)).toArray ∧ (ty = .int → ∀ v ∈ x.2, am_isI v = true)
  | none => ∃ r : vw_C, am_cl[x.1]? = some r ∧ r.2.2 ≤ x.2.length ∧ t_OB a (D.1 x.1) r.2.2 (D.2 x.1) H (vp_V (x.2.map (am_rv ad)))
/-- the addresses: two places of the start, then the cells that were made, in their order -/
def am_ad (base : Nat) (ad : Nat → Nat) : Prop := (∀ k : Nat, ad (k + 2) = base + k) ∧ ad 0 < base ∧ ad 1 < base
def am_P (S0 : State) (D : va_G) (base : Nat) (ad : Nat → Nat) (h : am_H) (H : Heap) : Prop :=
  H.size + 2 = base + h.length ∧ (∀ (k : Nat) (x : am_C), h[k]? = some x → am_cell S0 D ad (ad k) x H) ∧ ∀ a : Nat, a < base → H[a]? = S0.heap[a]?
theorem am_cell.kept {S0 : State} {D : va_G} {ad : Nat → Nat} {a : Nat} {x : am_C} {H H1 : Heap} (h : am_cell S0 D ad a x H) (hq : H1[a]? = H[a]?) : am_cell S0 D ad a x H1 := by
  unfold am_cell at h ⊢
  split at h
  · obtain ⟨cell, h1, h2⟩ := h
    exact ⟨cell, by rw [hq]; exact h1, h2⟩
  · obtain ⟨r, h1, h2, h3⟩ := h
    exact ⟨r, h1, h2, h3.kept hq⟩
theorem am_ad.ge {base : Nat} {ad : Nat → Nat} (h : am_ad base ad) {k : Nat} (hk : 2 ≤ k) : ad k = base + (k - 2) := by
  obtain ⟨j, rfl⟩ : ∃ j, k = j + 2 := ⟨k - 2, by omega⟩
  rw [h.1 j]; simp
theorem am_ad.lt {base : Nat} {ad : Nat → Nat} (h : am_ad base ad) {k : Nat} (hk : ¬ 2 ≤ k) : ad k < base := by
  rcases (show k = 0 ∨ k = 1 by omega) with rfl | rfl
  · exact h.2.1
  · exact h.2.2
theorem am_ad.ne {base : Nat} {ad : Nat → Nat} (h : am_ad base ad) {j k : Nat} (hk : 2 ≤ k) (hjk : j ≠ k) : ad j ≠ ad k := by
  by_cases hj : 2 ≤ j
  · rw [h.ge hj, h.ge hk]; omega
  · have := h.lt hj
    rw [h.ge hk]; omega
theorem am_P.set {S0 : State} {D : va_G} {base : Nat} {ad : Nat → Nat} {h : am_H} {H H1 : Heap} (hP : am_P S0 D base ad h H) (hA : am_ad base ad) {k : Nat} {x : am_C} (hk : 2 ≤ k) (hx : am_cell S0 D ad (ad k) x H1) (hz : H1.size = H.size) (hq : ∀ q, q ≠ ad k → H1[q]? = H[q]?) : am_P S0 D base ad (h.set k x) H1 := by
  refine ⟨by rw [hz, List.length_set]; exact hP.1, fun j y hj => ?_, fun a ha => (hq a (fun e => by rw [e, hA.ge hk] at ha; omega)).trans (hP.2.2 a ha)⟩
  by_cases e : j = k
  · subst e
    have hl : j < h.length := by
      have := (List.getElem?_eq_some_iff.mp hj).1
      simpa using this
    rw [List.getElem?_set_self hl] at hj
    cases hj
    exact hx
  · rw [List.getElem?_set_ne (Ne.symm e)] at hj
    exact (hP.2.1 j y hj).kept (hq _ (hA.ne hk e))
theorem am_P.new {S0 : State} {D : va_G} {base : Nat} {ad : Nat → Nat} {h : am_H} {H : Heap} (hP : am_P S0 D base ad h H) (hA : am_ad base ad) (h2 : 2 ≤ h.length) : ad h.length = H.size := by
  rw [hA.ge h2]
  have := hP.1
  omega
theorem am_P.push {S0 : State} {D : va_G} {base : Nat} {ad : Nat → Nat} {h : am_H} {H H1 : Heap} (hP : am_P S0 D base ad h H) (hA : am_ad base ad) (h2 : 2 ≤ h.length) (hb : base ≤ H.size) {x : am_C} (hx : am_cell S0 D ad (ad h.length) x H1) (hz : H1.size = H.size + 1) (hq : ∀ q, q < H.size → H1[q]? = H[q]?) : am_P S0 D base ad (h ++ [x]) H1 := by
  refine ⟨by rw [hz, List.length_append]; simp; have := hP.1; omega, fun j y hj => ?_, fun a ha => (hq a (Nat.lt_of_lt_of_le ha hb)).trans (hP.2.2 a ha)⟩
  by_cases e : j < h.length
  · rw [List.getElem?_append_left e] at hj
    refine (hP.2.1 j y hj).kept (hq _ ?_)
    by_cases hj2 : 2 ≤ j
    · rw [hA.ge hj2]
      have := hP.1
      omega
    · exact Nat.lt_of_lt_of_le (hA.lt hj2) hb
  · rw [List.getElem?_append_right (by omega)] at hj
    have hl : j - h.length < 1 := (List.getElem?_eq_some_iff.mp hj).1
    obtain rfl : j = h.length := by omega
    rw [Nat.sub_self] at hj
    cases hj
    exact hx
theorem am_rv_map_get {ad : Nat → Nat} {fs : List Value} {k : Nat} {v : Value} (h : fs[k]? = some v) : ((fs.map (am_rv ad)).toArray)[k]? = some (am_rv ad v) := by
  simp [h]
theorem am_arr_set {ad : Nat → Nat} {cell : Cell} {fs : List Value} {k : Nat} {v : Value} (h : cell.slots = (fs.map (am_rv ad)).toArray) : (cell.setSlot k (am_rv ad v)).slots = ((fs.set k v).map (am_rv ad)).toArray := by
  simp [Cell.setSlot, h, List.map_set]
theorem am_int_set {ty : FieldType} {fs : List Value} {k : Nat} {v : Value} (h : ty = .int → ∀ w ∈ fs, am_isI w = true) (hv : ty = .int → am_isI v = true) : ty = .int → ∀ w ∈ fs.set k v, am_isI w = true := fun e w hw => (List.mem_or_eq_of_mem_set hw).elim (h e w) (fun q => by rw [q]; exact hv e)
theorem am_arr_of {S0 : State} {cell : Cell} {ty : FieldType} {k : Nat} {v : Value} (h : S0.isArrayOf cell ty) : S0.isArrayOf (cell.setSlot k v) ty := h
/-- slots of a cell, of cells -/
def am_csz (x : am_C) : Nat := match am_aty x.1 with
  | some _ => x.2.length
  | none => am_ns x.1
def am_sz : am_H → Nat
  | [] => 0
  | x :: r => am_csz x + am_sz r
theorem am_sz_app : ∀ (h g : am_H), am_sz (h ++ g) = am_sz h + am_sz g
  | [], g => by simp [am_sz]
  | x :: r, g => by simp only [List.cons_append, am_sz, am_sz_app r g]; omega
theorem am_sz_set : ∀ (h : am_H) (k : Nat) (x y : am_C), h[k]? = some x → am_csz y = am_csz x → am_sz (h.set k y) = am_sz h
  | [], k, x, y, hk, _ => by simp at hk
  | z :: r, 0, x, y, hk, hs => by
    rw [List.getElem?_cons_zero] at hk
    cases hk
    simp only [List.set_cons_zero, am_sz, hs]
  | z :: r, k + 1, x, y, hk, hs => by
    rw [List.getElem?_cons_succ] at hk
    simp only [List.set_cons_succ, am_sz, am_sz_set r k x y hk hs]
/-- the start: the tables' words, the classes, the addresses -/
def am_Z (S0 : State) (D : va_G) (base : Nat) (ad : Nat → Nat) (A0 : Array Value) : Prop :=
  (∀ w ∈ am_tbl, w.before A0 S0 = true) ∧ va_K D am_cl [] S0 ∧ base = S0.heap.size ∧ am_ad base ad
/-- the handlers with their classes' numbers, and as the class file has them -/
def am_hrel (own : String) : List (Nat × Nat × Nat × Nat) → List (Nat × Nat × Nat × Nat) → Prop
  | [], [] => True
  | u :: r, v :: r' => (u.1 = v.1 ∧ u.2.1 = v.2.1 ∧ u.2.2.1 = v.2.2.1 ∧ v.2.2.2 ≠ 0 ∧ (10 ≤ u.2.2.2 ∧ u.2.2.2 < 14) ∧ ∃ q : vw_C, am_cl[u.2.2.2]? = some q ∧ Cond.classLink own v.2.2.2 q.1 ∈ am_tbl) ∧ am_hrel own r r'
  | _, _ => False
def am_hok (k : Nat) (hh : List (Nat × Nat × Nat × Nat)) : Prop := am_hrel (am_y k).cls (am_hs k) hh
/-- what a walk of a method stands on -/
def am_X (p : Program) (S0 : State) (s : State) (m : MethodId) (meth : Method) (c : Code) (mid : Nat) : Prop :=
  p.tables.exec = Jvm.exec ∧ S0.WarmedH s.vm ∧ s.methodNamed? (am_y mid) = some m ∧ c.code = am_b mid ∧ c.maxLocals = am_ml mid ∧ meth.sig.returnType = am_rt mid ∧ meth.locks = false ∧ s.vm.method? m = some meth ∧ (am_y mid).cls = am_on (am_oc mid) ∧ am_hok mid (c.exceptionTable.toList.map (fun h => (h.startPc, h.endPc, h.handlerPc, h.catchType)))
theorem am_word {S0 : State} {D : va_G} {base : Nat} {ad : Nat → Nat} {A0 : Array Value} {s : State} (hZ : am_Z S0 D base ad A0) (hW : S0.WarmedH s.vm) {w : Cond} (hw : w ∈ am_tbl) (hg : goodWord w = true) (a : Array Value) : w.before a s = true :=
  word_at hW (good_of_word hg) (hZ.1 w hw)
section AMH
variable {p : Program} {l : Launch} {e : Env} {R : Room} {s : State} {m : MethodId} {args : Array Value} {below : List Frame} {meth : Method} {c : Code} {H : Heap} {locs : List Loc} {cells slots : Nat} {Q : State → Prop}
variable {S0 : State} {D : va_G} {base : Nat} {ad : Nat → Nat} {A0 : Array Value}
/-- the array at a place -/
theorem am_P.arr {h : am_H} (hP : am_P S0 D base ad h H) {a tg : Nat} {fs : List Value} (ha : h[a]? = some (tg, fs)) {ty : FieldType} (ht : am_aty tg = some ty) : ∃ cell : Cell, H[ad a]? = some cell ∧ S0.isArrayOf cell ty ∧ cell.vm ≠ .unknown ∧ cell.slots = (fs.map (am_rv ad)).toArray ∧ (ty = .int → ∀ v ∈ fs, am_isI v = true) := by
  have h1 := hP.2.1 a _ ha
  unfold am_cell at h1
  rw [ht] at h1
  exact h1
theorem am_arr_cell {a tg : Nat} {fs : List Value} {ty : FieldType} (ht : am_aty tg = some ty) {cell : Cell} (h1 : H[a]? = some cell) (h2 : S0.isArrayOf cell ty) (h3 : cell.vm ≠ .unknown) (h4 : cell.slots = (fs.map (am_rv ad)).toArray) (h5 : ty = .int → ∀ v ∈ fs, am_isI v = true) : am_cell S0 D ad a (tg, fs) H := by
  unfold am_cell
  rw [ht]
  exact ⟨cell, h1, h2, h3, h4, h5⟩
theorem am_loc {a i : Nat} (h : ∀ q ∈ locs, base ≤ q.base) (ha : base ≤ a) : ∀ q ∈ locs ++ [⟨a, i⟩], base ≤ q.base := t_lc h ha
theorem am_ad.bs (hA : am_ad base ad) {k : Nat} (hk : 2 ≤ k) : base ≤ ad k := by rw [hA.ge hk]; omega
/-- a step of an instruction, cells and all -/
abbrev am_St (p : Program) (l : Launch) (e : Env) (R : Room) (s : State) (m : MethodId) (args : Array Value) (below : List Frame) (meth : Method) (c : Code) (H : Heap) (locs : List Loc) (cells slots : Nat) (Q : State → Prop) (S0 : State) (D : va_G) (base : Nat) (ad : Nat → Nat) (A0 : Array Value) (i : Jvm.ClassFile.Instr) : Prop :=
  ∀ (nL mid pc len : Nat) (L st : List Value) (h : am_H) (pc' : Nat) (L' st' : List Value) (h' : am_H) (ls : Array Slot), am_X p S0 s m meth c mid → am_Z S0 D base ad A0 → decode c.code pc = .ok (i, len) → am_lenok pc i len = true → am_step mid pc L st h i = some (pc', L', st', h') → am_L ad L nL ls → am_P S0 D base ad h H → 2 ≤ h.length → (∀ q ∈ locs, base ≤ q.base) →
    cells + h'.length ≤ R.cells + h.length → slots + am_sz h' ≤ R.slots + am_sz h →
    (∀ (H' : Heap) (locs' : List Loc) (cells' slots' : Nat) (ls' : Array Slot), am_L ad L' nL ls' → am_P S0 D base ad h' H' → h.length ≤ h'.length → (∀ q ∈ locs', base ≤ q.base) → cells' + h.length = cells + h'.length → slots' + am_sz h = slots + am_sz h' → W p l e R s m args below meth c H' locs' cells' slots' Q (F0 m pc' ls' (st'.map (am_rv ad)))) → W p l e R s m args below meth c H locs cells slots Q (F0 m pc ls (st.map (am_rv ad)))
/-- those that touch no cell -/
theorem am_St.pure {i : Jvm.ClassFile.Instr} (h : am_Ok p l e R s m args below meth c H locs cells slots Q i) : am_St p l e R s m args below meth c H locs cells slots Q S0 D base ad A0 i := by
  intro nL mid pc len L st h0 pc' L' st' h' ls hX hZ hd hn hs hl hP h2 hlo hc hz kk
  refine h ad nL mid pc len L st h0 pc' L' st' h' ls hd hn hs hl (fun e ls' hl' => ?_)
  subst e
  exact kk H locs cells slots ls' hl' hP (Nat.le_refl _) hlo rfl rfl
theorem am_k_iaload : am_St p l e R s m args below meth c H locs cells slots Q S0 D base ad A0 (.iaload) := by
  intro nL mid pc len L st h pc' L' st' h' ls hX hZ hd hn hs hl hP h2 hlo hc hz kk
  obtain rfl : len = 1 := Nat.eq_of_beq_eq_true hn
  simp only [am_step, am_ald] at hs
  split at hs
  · rename_i j a r
    split at hs
    · rename_i tg fs ha
      split at hs
      · rename_i hq
        obtain rfl := Nat.eq_of_beq_eq_true hq
        split at hs
        · cases hs
        · rename_i hj
          split at hs
          · rename_i v hv
            cases hs
            obtain ⟨cell, h1, h3, h4, h5, h6⟩ := hP.arr ha (ty := .int) rfl
            have hlt : j.toNatClampNeg < cell.slots.size := by rw [h5]; simpa using (List.getElem?_eq_some_iff.mp hv).1
            exact W.iald hX.1 rfl h1 (State.isArrayOf_alike hX.2.1.alike h3) h4 (fun z => z.elim hj (fun z => by omega)) (by rw [h5]; exact am_rv_map_get hv) rfl rfl hd (kk H locs cells slots ls hl hP (Nat.le_refl _) hlo rfl rfl)
          · cases hs
      · cases hs
    · cases hs
  · cases hs
theorem am_k_baload : am_St p l e R s m args below meth c H locs cells slots Q S0 D base ad A0 (.baload) := by
  intro nL mid pc len L st h pc' L' st' h' ls hX hZ hd hn hs hl hP h2 hlo hc hz kk
  obtain rfl : len = 1 := Nat.eq_of_beq_eq_true hn
  simp only [am_step, am_ald] at hs
  split at hs
  · rename_i j a r
    split at hs
    · rename_i tg fs ha
      split at hs
      · rename_i hq
        obtain rfl := Nat.eq_of_beq_eq_true hq
        split at hs
        · cases hs
        · rename_i hj
          split at hs
          · rename_i v hv
            cases hs
            obtain ⟨cell, h1, h3, h4, h5, h6⟩ := hP.arr ha (ty := .boolean) rfl
            have hlt : j.toNatClampNeg < cell.slots.size := by rw [h5]; simpa using (List.getElem?_eq_some_iff.mp hv).1
            exact W.zald hX.1 rfl h1 (State.isArrayOf_alike hX.2.1.alike h3) h4 (fun z => z.elim hj (fun z => by omega)) (by rw [h5]; exact am_rv_map_get hv) rfl rfl hd (kk H locs cells slots ls hl hP (Nat.le_refl _) hlo rfl rfl)
          · cases hs
      · cases hs
    · cases hs
  · cases hs
theorem am_k_laload : am_St p l e R s m args below meth c H locs cells slots Q S0 D base ad A0 (.laload) := by
  intro nL mid pc len L st h pc' L' st' h' ls hX hZ hd hn hs hl hP h2 hlo hc hz kk
  obtain rfl : len = 1 := Nat.eq_of_beq_eq_true hn
  simp only [am_step, am_ald] at hs
  split at hs
  · rename_i j a r
    split at hs
    · rename_i tg fs ha
      split at hs
      · rename_i hq
        obtain rfl := Nat.eq_of_beq_eq_true hq
        split at hs
        · cases hs
        · rename_i hj
          split at hs
          · rename_i v hv
            cases hs
            obtain ⟨cell, h1, h3, h4, h5, h6⟩ := hP.arr ha (ty := .long) rfl
            have hlt : j.toNatClampNeg < cell.slots.size := by rw [h5]; simpa using (List.getElem?_eq_some_iff.mp hv).1
            exact W.lald hX.1 rfl h1 (State.isArrayOf_alike hX.2.1.alike h3) h4 (fun z => z.elim hj (fun z => by omega)) (by rw [h5]; exact am_rv_map_get hv) rfl rfl hd (kk H locs cells slots ls hl hP (Nat.le_refl _) hlo rfl rfl)
          · cases hs
      · cases hs
    · cases hs
  · cases hs
theorem am_k_aaload : am_St p l e R s m args below meth c H locs cells slots Q S0 D base ad A0 (.aaload) := by
  intro nL mid pc len L st h pc' L' st' h' ls hX hZ hd hn hs hl hP h2 hlo hc hz kk
  obtain rfl : len = 1 := Nat.eq_of_beq_eq_true hn
  simp only [am_step, am_ald] at hs
  split at hs
  · rename_i j a r
    split at hs
    · rename_i tg fs ha
      split at hs
      · rename_i hq
        obtain rfl := Nat.eq_of_beq_eq_true hq
        split at hs
        · cases hs
        · rename_i hj
          split at hs
          · rename_i v hv
            cases hs
            obtain ⟨cell, h1, h3, h4, h5, h6⟩ := hP.arr ha (ty := (.array .int)) rfl
            have hlt : j.toNatClampNeg < cell.slots.size := by rw [h5]; simpa using (List.getElem?_eq_some_iff.mp hv).1
            exact W.aald hX.1 rfl h1 (State.isArrayOf_alike hX.2.1.alike h3) rfl h4 (fun z => z.elim hj (fun z => by omega)) (by rw [h5]; exact am_rv_map_get hv) rfl rfl hd (kk H locs cells slots ls hl hP (Nat.le_refl _) hlo rfl rfl)
          · cases hs
      · cases hs
    · cases hs
  · cases hs
theorem am_k_iastore : am_St p l e R s m args below meth c H locs cells slots Q S0 D base ad A0 (.iastore) := by
  intro nL mid pc len L st h pc' L' st' h' ls hX hZ hd hn hs hl hP h2 hlo hc hz kk
  obtain rfl : len = 1 := Nat.eq_of_beq_eq_true hn
  simp only [am_step, am_ast] at hs
  split at hs
  · rename_i v j a r
    split at hs
    · rename_i tg fs ha
      split at hs
      · rename_i hq
        simp only [Bool.and_eq_true] at hq
        obtain rfl := Nat.eq_of_beq_eq_true hq.1
        have ha2 : 2 ≤ a := Nat.le_of_ble_eq_true hq.2
        split at hs
        · cases hs
        · rename_i hj
          split at hs
          · rename_i hb
            cases hs
            have hlt : j.toNatClampNeg < fs.length := Nat.le_of_ble_eq_true hb
            obtain ⟨cell, h1, h3, h4, h5, h6⟩ := hP.arr ha (ty := .int) rfl
            have hlt' : j.toNatClampNeg < cell.slots.size := by rw [h5]; simpa using hlt
            refine W.iast hX.1 rfl h1 (State.isArrayOf_alike hX.2.1.alike h3) h4 (fun z => z.elim hj (fun z => by omega)) rfl rfl hd (fun H' e1 e2 e3 => ?_)
            refine kk H' _ cells slots ls hl (hP.set hZ.2.2.2 ha2 (am_arr_cell (ty := .int) rfl e1 (am_arr_of h3) h4 (am_arr_set (v := .int v) h5) (am_int_set h6 (fun _ => rfl))) e2 e3) (by simp) (am_loc hlo (hZ.2.2.2.bs ha2)) (by simp) ?_
            rw [am_sz_set h a _ _ ha (by simp [am_csz, am_aty])]
          · cases hs
      · cases hs
    · cases hs
  · cases hs
theorem am_k_bastore : am_St p l e R s m args below meth c H locs cells slots Q S0 D base ad A0 (.bastore) := by
  intro nL mid pc len L st h pc' L' st' h' ls hX hZ hd hn hs hl hP h2 hlo hc hz kk
  obtain rfl : len = 1 := Nat.eq_of_beq_eq_true hn
  simp only [am_step, am_ast] at hs
  split at hs
  · rename_i v j a r
    split at hs
    · rename_i tg fs ha
      split at hs
      · rename_i hq
        simp only [Bool.and_eq_true] at hq
        obtain rfl := Nat.eq_of_beq_eq_true hq.1
        have ha2 : 2 ≤ a := Nat.le_of_ble_eq_true hq.2
        split at hs
        · cases hs
        · rename_i hj
          split at hs
          · rename_i hb
            cases hs
            have hlt : j.toNatClampNeg < fs.length := Nat.le_of_ble_eq_true hb
            obtain ⟨cell, h1, h3, h4, h5, h6⟩ := hP.arr ha (ty := .boolean) rfl
            have hlt' : j.toNatClampNeg < cell.slots.size := by rw [h5]; simpa using hlt
            refine W.zast hX.1 rfl h1 (State.isArrayOf_alike hX.2.1.alike h3) h4 (fun z => z.elim hj (fun z => by omega)) rfl rfl hd (fun H' e1 e2 e3 => ?_)
            refine kk H' _ cells slots ls hl (hP.set hZ.2.2.2 ha2 (am_arr_cell (ty := .boolean) rfl e1 (am_arr_of h3) h4 (am_arr_set (v := .int (v &&& 1)) h5) (am_int_set h6 (fun _ => rfl))) e2 e3) (by simp) (am_loc hlo (hZ.2.2.2.bs ha2)) (by simp) ?_
            rw [am_sz_set h a _ _ ha (by simp [am_csz, am_aty])]
          · cases hs
      · cases hs
    · cases hs
  · cases hs
theorem am_k_lastore : am_St p l e R s m args below meth c H locs cells slots Q S0 D base ad A0 (.lastore) := by
  intro nL mid pc len L st h pc' L' st' h' ls hX hZ hd hn hs hl hP h2 hlo hc hz kk
  obtain rfl : len = 1 := Nat.eq_of_beq_eq_true hn
  simp only [am_step, am_ast] at hs
  split at hs
  · rename_i v j a r
    split at hs
    · rename_i tg fs ha
      split at hs
      · rename_i hq
        simp only [Bool.and_eq_true] at hq
        obtain rfl := Nat.eq_of_beq_eq_true hq.1
        have ha2 : 2 ≤ a := Nat.le_of_ble_eq_true hq.2
        split at hs
        · cases hs
        · rename_i hj
          split at hs
          · rename_i hb
            cases hs
            have hlt : j.toNatClampNeg < fs.length := Nat.le_of_ble_eq_true hb
            obtain ⟨cell, h1, h3, h4, h5, h6⟩ := hP.arr ha (ty := .long) rfl
            have hlt' : j.toNatClampNeg < cell.slots.size := by rw [h5]; simpa using hlt
            refine W.last hX.1 rfl h1 (State.isArrayOf_alike hX.2.1.alike h3) h4 (fun z => z.elim hj (fun z => by omega)) rfl rfl hd (fun H' e1 e2 e3 => ?_)
            refine kk H' _ cells slots ls hl (hP.set hZ.2.2.2 ha2 (am_arr_cell (ty := .long) rfl e1 (am_arr_of h3) h4 (am_arr_set (v := .long v) h5) (am_int_set h6 (fun z => by cases z))) e2 e3) (by simp) (am_loc hlo (hZ.2.2.2.bs ha2)) (by simp) ?_
            rw [am_sz_set h a _ _ ha (by simp [am_csz, am_aty])]
          · cases hs
      · cases hs
    · cases hs
  · cases hs
theorem am_k_arraylength : am_St p l e R s m args below meth c H locs cells slots Q S0 D base ad A0 (.arraylength) := by
  intro nL mid pc len L st h pc' L' st' h' ls hX hZ hd hn hs hl hP h2 hlo hc hz kk
  obtain rfl : len = 1 := Nat.eq_of_beq_eq_true hn
  simp only [am_step] at hs
  split at hs
  · rename_i a r
    split at hs
    · rename_i tg fs ha
      split at hs
      · rename_i ty ht
        cases hs
        obtain ⟨cell, h1, h3, h4, h5, h6⟩ := hP.arr ha ht
        exact W.alen hX.1 rfl h1 (State.isArrayOf_alike hX.2.1.alike h3) (by rw [h5]; simp) rfl rfl hd (kk H locs cells slots ls hl hP (Nat.le_refl _) hlo rfl rfl)
      · cases hs
    · cases hs
  · cases hs
theorem am_rep {ad : Nat → Nat} {v : Value} (hv : am_rv ad v = v) (n : Nat) : Array.replicate n v = ((List.replicate n v).map (am_rv ad)).toArray := by
  rw [List.map_replicate, hv]
  apply Array.ext'
  simp
theorem am_k_newarray (t : Jvm.ClassFile.ArrayType) : am_St p l e R s m args below meth c H locs cells slots Q S0 D base ad A0 (.newarray t) := by
  intro nL mid pc len L st h pc' L' st' h' ls hX hZ hd hn hs hl hP h2 hlo hc hz kk
  obtain rfl : len = 2 := Nat.eq_of_beq_eq_true hn
  simp only [am_step] at hs
  split at hs
  · rename_i n r
    split at hs
    · rename_i k hk
      split at hs
      · cases hs
      · rename_i hneg
        split at hs
        · rename_i hb
          cases hs
          have hn5 : n.toNatClampNeg ≤ 100000 := Nat.le_of_ble_eq_true hb
          have hty : am_aty (32 + k) = some (newarray.typeOf t) ∧ Cond.arrayClass (newarray.typeOf t) ∈ am_tbl ∧ am_dv k = defaultValue (newarray.typeOf t) ∧ am_rv ad (am_dv k) = am_dv k ∧ componentBytes (newarray.typeOf t) ≤ 8 := by
            cases t <;> cases hk <;> exact ⟨rfl, by decide +kernel, rfl, rfl, by decide⟩
          have hl1 : (h ++ [(32 + k, List.replicate n.toNatClampNeg (am_dv k))]).length = h.length + 1 := by simp
          have hl2 : am_sz (h ++ [(32 + k, List.replicate n.toNatClampNeg (am_dv k))]) = am_sz h + n.toNatClampNeg := by
            rw [am_sz_app]
            simp [am_sz, am_csz, hty.1]
          rw [hl1] at hc
          rw [hl2] at hz
          refine W.newa hX.1 rfl (am_word hZ hX.2.1 hty.2.1 rfl _) rfl hd rfl hneg ?_ (by omega) (by omega) (fun cA kA comp g1 g2 g3 => ?_)
          · have := Nat.mul_le_mul hn5 hty.2.2.2.2
            omega
          have hb0 : base ≤ H.size := by have := hP.1; omega
          have hnew := hP.new hZ.2.2.2 h2
          have hof : S0.isArrayOf ({ cls := cA, slots := Array.replicate n.toNatClampNeg (defaultValue (newarray.typeOf t)), vm := .none } : Cell) (newarray.typeOf t) := by
            refine ⟨fun _ q => (by cases q), ?_⟩
            obtain ⟨k3, hk3, he3⟩ := hX.2.1.alike.symm.2.2 _ _ g2
            exact ⟨k3, hk3, comp, by rw [he3]; exact g3⟩
          have kk2 := kk (H.push { cls := cA, slots := Array.replicate n.toNatClampNeg (defaultValue (newarray.typeOf t)), vm := .none }) locs (cells + 1) (slots + n.toNatClampNeg) ls hl
            (hP.push hZ.2.2.2 h2 hb0 (am_arr_cell (cell := { cls := cA, slots := Array.replicate n.toNatClampNeg (defaultValue (newarray.typeOf t)), vm := .none }) hty.1 (by rw [hnew]; simp) hof (fun q => by cases q) (by rw [← hty.2.2.1]; exact am_rep hty.2.2.2.1 _) (fun z v hv => by rw [List.mem_replicate] at hv; rw [hv.2, hty.2.2.1, z]; rfl)) (by simp) (fun q hq => by rw [Array.getElem?_push, if_neg (Nat.ne_of_lt hq)])) (by simp) hlo (by rw [hl1]; omega) (by rw [hl2]; omega)
          rw [List.map_cons, show am_rv ad (.ref h.length) = .ref H.size by simp only [am_rv, hnew]] at kk2
          exact kk2
        · cases hs
    · cases hs
  · cases hs
end AMH
end
section
/-! FIELDS, NEW OBJECTS -/
/-- what the tables say of class ci -/
def am_cok (ci : Nat) (C : String) (T : u_T) (N : Nat) : Prop := am_cl[ci]? = some (C, T, N) ∧ am_aty ci = none ∧ (∀ w ∈ u_ws C T N, w ∈ am_tbl) ∧ (∀ j, j < N → parseFieldDescriptor (T j).2.2.1 = some (am_fty ci j)) ∧ (∀ a, a < N → ∀ b, b < N → a ≠ b → (T a).2.1 ≠ (T b).2.1)
/-- ... of a field's entry of a pool -/
def am_fok (oc x ci k : Nat) : Prop := ∃ (C : String) (T : u_T) (N : Nat), am_cok ci C T N ∧ k < N ∧ Cond.fieldLink (am_on oc) x (T k).1 (T k).2.1 (T k).2.2.1 ∈ am_tbl
/-- who may write a final field -/
def am_fnok (mid ci k : Nat) : Prop := ∀ (C : String) (T : u_T) (N : Nat), am_cl[ci]? = some (C, T, N) → am_fin mid ci k = true → (T k).2.2.2 = false ∨ ((T k).2.2.2 = true ∧ (am_y mid).name = "<init>" ∧ (T k).1 = (am_y mid).cls)
theorem am_lay_good (C : String) (T : u_T) (N : Nat) : ∀ w ∈ u_ws C T N, goodWord w = true := by
  intro w hw
  obtain ⟨k, -, rfl⟩ := List.mem_map.mp hw
  unfold u_lay
  split <;> rfl
theorem am_fit_ok {ty : FieldType} {v : Value} {ad : Nat → Nat} (h : am_fit ty v = true) : narrow ty (am_rv ad v) = am_rv ad v ∧ fits ty (am_rv ad v) = true := by
  cases ty <;> cases v <;> first | exact ⟨rfl, rfl⟩ | (simp [am_fit] at h; done) | skip
  all_goals
    simp only [am_fit, Bool.or_eq_true, beq_iff_eq] at h
    rcases h with rfl | rfl <;> exact ⟨rfl, rfl⟩
theorem am_vpV {ad : Nat → Nat} {fs : List Value} {k : Nat} {v : Value} (h : fs[k]? = some v) : vp_V (fs.map (am_rv ad)) k = am_rv ad v := by
  simp [vp_V, h]
section AMF
variable {p : Program} {l : Launch} {e : Env} {R : Room} {s : State} {m : MethodId} {args : Array Value} {below : List Frame} {meth : Method} {c : Code} {H : Heap} {locs : List Loc} {cells slots : Nat} {Q : State → Prop}
variable {S0 : State} {D : va_G} {base : Nat} {ad : Nat → Nat} {A0 : Array Value}
/-- the object at a place -/
theorem am_P.obj {h : am_H} (hP : am_P S0 D base ad h H) {a ci : Nat} {fs : List Value} (ha : h[a]? = some (ci, fs)) {C : String} {T : u_T} {N : Nat} (hc : am_cok ci C T N) : N ≤ fs.length ∧ t_OB (ad a) (D.1 ci) N (D.2 ci) H (vp_V (fs.map (am_rv ad))) := by
  have h1 := hP.2.1 a _ ha
  unfold am_cell at h1
  rw [hc.2.1] at h1
  obtain ⟨r, r1, r2, r3⟩ := h1
  cases Option.some.inj (r1.symm.trans hc.1)
  exact ⟨r2, r3⟩
theorem am_k_getfield (hF : ∀ oc x ci k : Nat, am_pf oc x = some (ci, k) → am_fok oc x ci k) (x : Nat) : am_St p l e R s m args below meth c H locs cells slots Q S0 D base ad A0 (.getfield x) := by
  intro nL mid pc len L st h pc' L' st' h' ls hX hZ hd hn hs hl hP h2 hlo hc hz kk
  obtain rfl : len = 3 := Nat.eq_of_beq_eq_true hn
  simp only [am_step] at hs
  split at hs
  · rename_i ci k hpf
    split at hs
    · rename_i a r
      split at hs
      · rename_i tg fs ha
        split at hs
        · rename_i hq
          obtain rfl := Nat.eq_of_beq_eq_true hq
          split at hs
          · rename_i v hv
            cases hs
            obtain ⟨C, T, N, hco, hk, hlink⟩ := hF _ _ _ _ hpf
            obtain ⟨hN, cell, q1, q2, q3, q4⟩ := hP.obj ha hco
            obtain ⟨hS, hfc, kC, hkC, hkind⟩ := (va_K.moved hX.2.1.alike hZ.2.1).1 _ _ hco.1
            obtain ⟨cf, kf, fi, f, hi, hsl⟩ := hS k hk
            have hts : ∀ w ∈ u_ws C T N, w.before args s = true := fun w hw => am_word hZ hX.2.1 (hco.2.2.1 w hw) (am_lay_good C T N w hw) args
            have hown := findClass_of_methodNamed hX.2.2.1
            rw [hX.2.2.2.2.2.2.2.2.1] at hown
            have hst := (u_facts hfc hkC (u_lays hts (fun _ z => z) hk) hi).1
            have hsv : cell.slots[f.slot]? = some (am_rv ad v) := by rw [hsl, q4 k hk, am_vpV hv]
            have kk2 := kk H locs cells slots ls hl hP (Nat.le_refl _) hlo rfl rfl
            exact W.getf hX.1 rfl hown (am_word hZ hX.2.1 hlink rfl args) hi hst q1 (by rw [q3]; exact fun z => by cases z) hsv rfl rfl hd kk2
          · cases hs
        · cases hs
      · cases hs
    · cases hs
  · cases hs
theorem am_k_putfield (hF : ∀ oc x ci k : Nat, am_pf oc x = some (ci, k) → am_fok oc x ci k) (hFn : ∀ mid ci k : Nat, am_fnok mid ci k) (x : Nat) : am_St p l e R s m args below meth c H locs cells slots Q S0 D base ad A0 (.putfield x) := by
  intro nL mid pc len L st h pc' L' st' h' ls hX hZ hd hn hs hl hP h2 hlo hc hz kk
  obtain rfl : len = 3 := Nat.eq_of_beq_eq_true hn
  simp only [am_step] at hs
  split at hs
  · rename_i ci k hpf
    split at hs
    · rename_i v a r
      split at hs
      · rename_i tg fs ha
        split at hs
        · rename_i hq
          cases hs
          simp only [Bool.and_eq_true] at hq
          obtain ⟨hq1, hq2, hq3, hq4, hq5⟩ := hq
          obtain rfl := Nat.eq_of_beq_eq_true hq1
          have ha2 : 2 ≤ a := Nat.le_of_ble_eq_true hq2
          have hkl : k < fs.length := Nat.le_of_ble_eq_true hq3
          obtain ⟨C, T, N, hco, hk, hlink⟩ := hF _ _ _ _ hpf
          obtain ⟨hN, cell, q1, q2, q3, q4⟩ := hP.obj ha hco
          have hK := va_K.moved hX.2.1.alike hZ.2.1
          obtain ⟨hS, hfc, kC, hkC, hkind⟩ := hK.1 _ _ hco.1
          obtain ⟨cf, kf, fi, f, hi, hsl⟩ := hS k hk
          have hts : ∀ w ∈ u_ws C T N, w.before args s = true := fun w hw => am_word hZ hX.2.1 (hco.2.2.1 w hw) (am_lay_good C T N w hw) args
          have hap := va_apart (own := (am_y mid).cls) hts (fun _ z => z) (am_fty tg) hco.2.2.2.1 hco.2.2.2.2 hK hco.1
          have hown := findClass_of_methodNamed hX.2.2.1
          have hst := (u_facts hfc hkC (u_lays hts (fun _ z => z) hk) hi).1
          obtain ⟨hf1, hf2⟩ := am_fit_ok (ad := ad) hq4
          have hlt : f.slot < cell.slots.size := by rw [hsl]; exact k2_hasslot (q4 k hk)
          have kk2 : ∀ H' : Heap, H'[ad a]? = some (cell.setSlot f.slot (am_rv ad v)) → H'.size = H.size → (∀ q, q ≠ ad a → H'[q]? = H[q]?) → W p l e R s m args below meth c H' (locs ++ [⟨ad a, f.slot⟩]) cells slots Q (F0 m (pc + 3) ls (st'.map (am_rv ad))) := fun H' e1 e2 e3 => by
            refine kk H' _ cells slots ls hl (hP.set hZ.2.2.2 ha2 ?_ e2 e3) (by simp) (am_loc hlo (hZ.2.2.2.bs ha2)) (by simp) ?_
            · unfold am_cell
              rw [hco.2.1]
              refine ⟨_, hco.1, by simpa using hN, ?_⟩
              rw [hsl] at e1
              refine t_OB.to (V := updV (vp_V (fs.map (am_rv ad))) k (am_rv ad v)) ⟨_, e1, q2, q3, t_set q4 hap hk _⟩ (fun j _ => ?_)
              rw [vp_updV_set (by simpa using hkl), List.map_set]
            · rw [am_sz_set h a _ _ ha (by simp [am_csz, hco.2.1])]
          have hlay := hts _ (u_in_lay hk)
          unfold u_lay at hlay
          rcases hFn mid tg k C T N hco.1 hq5 with hfn | ⟨hfn, hnm, hdc⟩
          · rw [if_neg (by rw [hfn]; decide)] at hlay
            have h6 := u_store hfc hkC hkind hlay hi (hco.2.2.2.1 k hk) hf1 hf2
            exact W.putK hX.1 rfl (f := f) ⟨hown, by rw [hX.2.2.2.2.2.2.2.2.1]; exact am_word hZ hX.2.1 hlink rfl args, ⟨cf, kf, fi, hi⟩, hst⟩ (by rw [q2]; exact h6) q1 q3 hlt rfl rfl hd kk2
          · rw [if_pos hfn] at hlay
            have hcf : m.cls = cf := by
              obtain ⟨_, _, c', _, _, _, -, -, hf', -, -, -, hown2, -⟩ := Cond.laysFinal_spec hlay
              have e1 : c' = cf := by have := hi.symm.trans hf'; simp at this; exact this.1.symm
              rw [hdc] at hown2
              rw [← e1]; exact Option.some.inj (hown.symm.trans hown2)
            have h6 := u_fits hfc hkC hkind (Or.inr hlay) hi (hco.2.2.2.1 k hk) hf1 hf2
            have hmn : meth.name = "<init>" := by rw [(name_of_methodNamed hX.2.2.1 hX.2.2.2.2.2.2.2.1).1]; exact hnm
            exact W.putFinK hX.1 rfl hown (by rw [hX.2.2.2.2.2.2.2.2.1]; exact am_word hZ hX.2.1 hlink rfl args) hi hst hcf hmn (by rw [q2]; exact h6) q1 q3 hlt rfl rfl hd kk2
        · cases hs
      · cases hs
    · cases hs
  · cases hs
/-- ... of a class's entry of a pool -/
def am_nok (oc x ci : Nat) : Prop := ∃ (C : String) (T : u_T) (N : Nat), am_cok ci C T N ∧ Cond.classLink (am_on oc) x C ∈ am_tbl ∧ Cond.instantiable C (am_ns ci) ∈ am_tbl ∧ Cond.initialized C ∈ am_tbl ∧ N ≤ (am_df ci).length ∧ ∀ j, j < N → (am_df ci)[j]? = some (defaultValue (am_fty ci j))
theorem am_rv_df {ad : Nat → Nat} (ty : FieldType) : am_rv ad (defaultValue ty) = defaultValue ty := by cases ty <;> rfl
theorem am_k_new (hF : ∀ oc x ci : Nat, am_pc oc x = some ci → am_nok oc x ci) (x : Nat) : am_St p l e R s m args below meth c H locs cells slots Q S0 D base ad A0 (.new x) := by
  intro nL mid pc len L st h pc' L' st' h' ls hX hZ hd hn hs hl hP h2 hlo hc hz kk
  obtain rfl : len = 3 := Nat.eq_of_beq_eq_true hn
  simp only [am_step] at hs
  split at hs
  · rename_i ci hpc
    cases hs
    obtain ⟨C, T, N, hco, w1, w2, w3, hdl, hdf⟩ := hF _ _ _ hpc
    have hl1 : (h ++ [(ci, am_df ci)]).length = h.length + 1 := by simp
    have hl2 : am_sz (h ++ [(ci, am_df ci)]) = am_sz h + am_ns ci := by
      rw [am_sz_app]
      simp [am_sz, am_csz, hco.2.1]
    rw [hl1] at hc
    rw [hl2] at hz
    have hown := findClass_of_methodNamed hX.2.2.1
    rw [hX.2.2.2.2.2.2.2.2.1] at hown
    refine W.newc hX.1 rfl hown (am_word hZ hX.2.1 w1 rfl args) (am_word hZ hX.2.1 w2 rfl args) (am_word hZ hX.2.1 w3 rfl args) rfl hd (by omega) (by omega) (fun cC kC f1 f2 f3 f4 => ?_)
    have hb0 : base ≤ H.size := by have := hP.1; omega
    have hnew := hP.new hZ.2.2.2 h2
    have hK := va_K.moved hX.2.1.alike hZ.2.1
    have hKn := hK.1 _ _ hco.1
    have hcc : D.1 ci = cC := Option.some.inj (hKn.2.1.symm.trans f1)
    have hts : ∀ w ∈ u_ws C T N, w.before args s = true := fun w hw => am_word hZ hX.2.1 (hco.2.2.1 w hw) (am_lay_good C T N w hw) args
    have hob : t_OB H.size (D.1 ci) N (D.2 ci) (H.push (blank cC kC)) (fun k => defaultValue (am_fty ci k)) := by
      refine u_born (am_fty ci) hts (fun _ z => z) hKn (kC := kC) (by rw [hcc]; exact f2) (by rw [hcc]; simp) hco.2.2.2.1
    have kk2 := kk (H.push (blank cC kC)) locs (cells + 1) (slots + am_ns ci) ls hl
      (hP.push hZ.2.2.2 h2 hb0 (by
        unfold am_cell
        rw [hco.2.1]
        refine ⟨_, hco.1, hdl, ?_⟩
        rw [hnew]
        refine t_OB.to hob (fun j hj => ?_)
        rw [am_vpV (hdf j hj), am_rv_df]) (by simp) (fun q hq => by rw [Array.getElem?_push, if_neg (Nat.ne_of_lt hq)])) (by simp) hlo (by rw [hl1]; omega) (by rw [hl2]; omega)
    rw [List.map_cons, show am_rv ad (.ref h.length) = .ref H.size by simp only [am_rv, hnew]] at kk2
    exact kk2
  · cases hs
end AMF
end
section
/-! RUNS OF THE ABSTRACT MACHINE: more fuel changes nothing; small steps with the callers that wait -/
abbrev am_R : Type := Nat × Nat → Nat → Nat → List Value → List Value → am_H → Option (am_O × am_H)
def am_le (f g : am_R) : Prop := ∀ (d : Nat × Nat) (mid pc : Nat) (L st : List Value) (h : am_H) (r : am_O × am_H), f d mid pc L st h = some r → g d mid pc L st h = some r
theorem am_back_le {f g : am_R} (hfg : am_le f g) {d : Nat × Nat} {mid pc : Nat} {L r : List Value} {x : Option (am_O × am_H)} {y : am_O × am_H} (h : am_back f d mid pc L r x = some y) : am_back g d mid pc L r x = some y := by
  match x, h with
  | none, h => cases h
  | some (.inl v, z), h => exact hfg _ _ _ _ _ _ _ h
  | some (.inr X, z), h =>
    simp only [am_back] at h ⊢
    cases hq : am_hdl (am_hs mid) pc X with
    | none => rw [hq] at h; exact h
    | some q => rw [hq] at h; exact hfg _ _ _ _ _ _ _ h
theorem am_call_le {f g : am_R} (hfg : am_le f g) {kd : Nat} {d : Nat × Nat} {mid pc : Nat} {L st : List Value} {h : am_H} {x : Option (Nat × Nat)} {y : am_O × am_H} (hc : am_call f kd d mid pc L st h x = some y) : am_call g kd d mid pc L st h x = some y := by
  match x, hc with
  | none, hc => cases hc
  | some (0, k), hc =>
    simp only [am_call] at hc ⊢
    split at hc
    · rename_i hq
      rw [if_pos hq]
      cases hz : f (d.1 - 1, d.2 - (am_wt (st.drop (am_na k)) + (am_ml k + 11))) k 0 ((st.take (am_na k)).reverse ++ List.replicate (am_ml k - am_na k) (.retAddr 0)) [] h with
      | none => rw [hz] at hc; cases hc
      | some z =>
        rw [hz] at hc
        rw [hfg _ _ _ _ _ _ _ hz]
        exact am_back_le hfg hc
    · cases hc
  | some (1, k), hc =>
    simp only [am_call] at hc ⊢
    split at hc
    · split at hc
      · rename_i hq
        rw [if_pos hq]
        exact hfg _ _ _ _ _ _ _ hc
      · cases hc
    · cases hc
  | some (2, k), hc =>
    simp only [am_call] at hc ⊢
    split at hc
    · split at hc
      · rename_i hq
        rw [if_pos hq]
        split at hc
        · rename_i hz
          try rw [hz]
          exact hfg _ _ _ _ _ _ _ hc
        · cases hc
      · cases hc
    · cases hc
  | some (n + 3, k), hc => cases hc
theorem am_ctl_le {f g : am_R} (hfg : am_le f g) {d : Nat × Nat} {mid pc : Nat} {L st : List Value} {h : am_H} {i : Jvm.ClassFile.Instr} {y : am_O × am_H} (hc : am_ctl f d mid pc L st h i = some y) : am_ctl g d mid pc L st h i = some y := by
  unfold am_ctl at hc ⊢
  split at hc
  · exact hc
  · exact hc
  · exact hc
  · exact am_call_le hfg hc
  · exact am_call_le hfg hc
  · exact am_call_le hfg hc
  · exact hc
  · cases hc
theorem am_body_le {f g : am_R} (hfg : am_le f g) : am_le (am_body f) (am_body g) := by
  intro d mid pc L st h r hc
  unfold am_body at hc ⊢
  cases hi : am_code mid pc with
  | none => rw [hi] at hc; cases hc
  | some i =>
    rw [hi] at hc
    dsimp only at hc ⊢
    cases hs : am_step mid pc L st h i with
    | none => rw [hs] at hc; exact am_ctl_le hfg hc
    | some q => rw [hs] at hc; exact hfg _ _ _ _ _ _ _ hc
theorem am_run_le1 : ∀ n : Nat, am_le (am_run n) (am_run (n + 1))
  | 0 => fun _ _ _ _ _ _ _ h => by cases h
  | n + 1 => am_body_le (am_run_le1 n)
theorem am_run_le {n : Nat} : ∀ k : Nat, am_le (am_run n) (am_run (n + k))
  | 0 => fun _ _ _ _ _ _ _ h => h
  | k + 1 => fun d mid pc L st h r hr => am_run_le1 (n + k) d mid pc L st h r (am_run_le k d mid pc L st h r hr)
theorem am_run_max {n k : Nat} (h : n ≤ k) : am_le (am_run n) (am_run k) := by
  obtain ⟨j, rfl⟩ := Nat.exists_eq_add_of_le h
  exact am_run_le j
/-- a caller that waits: its depth, its method, the pc of its call, its locals, what is left on its stack -/
abbrev am_K : Type := (Nat × Nat) × Nat × Nat × List Value × List Value
def am_end : List am_K → am_O × am_H → am_O × am_H → Prop
  | [], x, r => x = r
  | q :: K, x, r => ∃ (n : Nat) (y : am_O × am_H), am_back (am_run n) q.1 q.2.1 q.2.2.1 q.2.2.2.1 q.2.2.2.2 (some x) = some y ∧ am_end K y r
/-- a frame that runs, over callers that wait -/
abbrev am_G : Type := am_K × am_H × List am_K
def am_Ev (c : am_G) (r : am_O × am_H) : Prop := ∃ (n : Nat) (x : am_O × am_H), am_run n c.1.1 c.1.2.1 c.1.2.2.1 c.1.2.2.2.1 c.1.2.2.2.2 c.2.1 = some x ∧ am_end c.2.2 x r
/-- what comes of an end, over those that wait -/
def am_pop : List am_K → am_O → am_H → Option am_G
  | [], _, _ => none
  | q :: K, .inl v, h => some ((q.1, q.2.1, q.2.2.1 + 3, q.2.2.2.1, v.toList ++ q.2.2.2.2), h, K)
  | q :: K, .inr X, h => match am_hdl (am_hs q.2.1) q.2.2.1 X with
    | some z => some ((q.1, q.2.1, z, q.2.2.2.1, [.ref (h.length - 1)]), h, K)
    | none => if am_cov (am_hs q.2.1) q.2.2.1 then none else am_pop K (.inr X) h
def am_smc (kd : Nat) (d : Nat × Nat) (mid pc : Nat) (L st : List Value) (h : am_H) (K : List am_K) (x : Option (Nat × Nat)) : Option am_G := match x with
  | none => none
  | some (0, k) => if Nat.beq (am_kd k) kd && (Nat.ble (am_na k) st.length && (Nat.ble 1 d.1 && (Nat.ble (am_wt (st.drop (am_na k)) + (am_ml k + 11)) d.2 && (am_kns (st.take (am_na k)) && am_rcv k (st.take (am_na k)).reverse h)))) then some (((d.1 - 1, d.2 - (am_wt (st.drop (am_na k)) + (am_ml k + 11))), k, 0, (st.take (am_na k)).reverse ++ List.replicate (am_ml k - am_na k) (.retAddr 0), []), h, (d, mid, pc, L, st.drop (am_na k)) :: K) else none
  | some (1, _) => match st with
    | .ref _ :: r => if Nat.beq kd 1 && (Nat.ble 1 d.1 && Nat.ble (am_wt r + 12) d.2) then some ((d, mid, pc + 3, L, r), h, K) else none
    | _ => none
  | some (2, _) => match st with
    | .int n :: .int dp :: .ref b :: .int sp :: .ref a :: r => if Nat.beq kd 2 && (Nat.ble 1 d.1 && Nat.ble (am_wt r + 18) d.2) then match am_copy h n dp b sp a with
        | some h' => some ((d, mid, pc + 3, L, r), h', K)
        | none => none
      else none
    | _ => none
  | some _ => none
def am_smt (d : Nat × Nat) (mid pc : Nat) (L st : List Value) (h : am_H) (K : List am_K) (i : Jvm.ClassFile.Instr) : Option am_G := match i with
  | .ireturn => match st with
    | [.int v] => if am_nw (am_rt mid) v then am_pop K (.inl (some (.int v))) h else none
    | _ => none
  | .return_ => match st with
    | [] => if am_vo (am_rt mid) then am_pop K (.inl none) h else none
    | _ => none
  | .areturn => match st with
    | [.ref a] => if am_ro (am_rt mid) then am_pop K (.inl (some (.ref a))) h else none
    | _ => none
  | .invokevirtual x => am_smc 0 d mid pc L st h K (am_pm (am_oc mid) x)
  | .invokespecial x => am_smc 1 d mid pc L st h K (am_pm (am_oc mid) x)
  | .invokestatic x => am_smc 2 d mid pc L st h K (am_pm (am_oc mid) x)
  | .new x => match am_pe (am_oc mid) x with
    | some X => if Nat.ble 6 d.1 && (Nat.ble (am_wt st + 82) d.2 && (am_thr (am_code mid) pc && (am_hs mid).isEmpty)) then am_pop K (.inr X) (h ++ [(X, [])]) else none
    | none => none
  | _ => none
/-- one small step -/
def am_sm (c : am_G) : Option am_G := match am_code c.1.2.1 c.1.2.2.1 with
  | none => none
  | some i => match am_step c.1.2.1 c.1.2.2.1 c.1.2.2.2.1 c.1.2.2.2.2 c.2.1 i with
    | some f => some ((c.1.1, c.1.2.1, f.1, f.2.1, f.2.2.1), f.2.2.2, c.2.2)
    | none => am_smt c.1.1 c.1.2.1 c.1.2.2.1 c.1.2.2.2.1 c.1.2.2.2.2 c.2.1 c.2.2 i
def am_sms : Nat → am_G → Option am_G
  | 0, c => some c
  | n + 1, c => match am_sm c with
    | some c' => am_sms n c'
    | none => none
theorem am_pop_end : ∀ (K : List am_K) (o : am_O) (h : am_H) (c : am_G) (r : am_O × am_H), am_pop K o h = some c → am_Ev c r → am_end K (o, h) r
  | [], _, _, _, _, hp, _ => by cases hp
  | q :: K, .inl v, h, c, r, hp, he => by
    cases hp
    obtain ⟨n, x, h1, h2⟩ := he
    exact ⟨n, x, h1, h2⟩
  | q :: K, .inr X, h, c, r, hp, he => by
    simp only [am_pop] at hp
    cases hq : am_hdl (am_hs q.2.1) q.2.2.1 X with
    | some z =>
      rw [hq] at hp
      cases hp
      obtain ⟨n, x, h1, h2⟩ := he
      refine ⟨n, x, ?_, h2⟩
      simp only [am_back, hq]
      exact h1
    | none =>
      rw [hq] at hp
      dsimp only at hp
      split at hp
      · cases hp
      · rename_i hc
        refine ⟨0, (.inr X, h), ?_, am_pop_end K _ _ _ _ hp he⟩
        simp only [am_back, hq]
        exact if_neg hc
theorem am_sm_ev {c c' : am_G} {r : am_O × am_H} (hs : am_sm c = some c') (he : am_Ev c' r) : am_Ev c r := by
  obtain ⟨⟨d, mid, pc, L, st⟩, h, K⟩ := c
  simp only [am_sm] at hs
  cases hi : am_code mid pc with
  | none => rw [hi] at hs; cases hs
  | some i =>
    rw [hi] at hs
    dsimp only at hs
    cases hf : am_step mid pc L st h i with
    | some f =>
      rw [hf] at hs
      cases hs
      obtain ⟨n, x, h1, h2⟩ := he
      refine ⟨n + 1, x, ?_, h2⟩
      show am_body (am_run n) d mid pc L st h = some x
      unfold am_body
      rw [hi]
      dsimp only
      rw [hf]
      exact h1
    | none =>
      rw [hf] at hs
      dsimp only at hs
      -- by the kind of the instruction
      have key : ∀ (n : Nat) (x : am_O × am_H), am_ctl (am_run n) d mid pc L st h i = some x → am_run (n + 1) d mid pc L st h = some x := by
        intro n x hx
        show am_body (am_run n) d mid pc L st h = some x
        unfold am_body
        rw [hi]
        dsimp only
        rw [hf]
        exact hx
      have call : ∀ (kd : Nat) (x : Option (Nat × Nat)), am_smc kd d mid pc L st h K x = some c' → ∃ (n : Nat) (y : am_O × am_H), am_call (am_run n) kd d mid pc L st h x = some y ∧ am_end K y r := by
        intro kd x hx
        match x, hx with
        | none, hx => cases hx
        | some (0, k), hx =>
          simp only [am_smc] at hx
          split at hx
          · rename_i hq
            cases hx
            obtain ⟨n, x, h1, n2, y, h2, h3⟩ := he
            refine ⟨max n n2, y, ?_, h3⟩
            simp only [am_call]
            rw [if_pos hq]
            rw [show am_run (max n n2) (d.1 - 1, d.2 - (am_wt (st.drop (am_na k)) + (am_ml k + 11))) k 0 ((st.take (am_na k)).reverse ++ List.replicate (am_ml k - am_na k) (.retAddr 0)) [] h = some x from am_run_max (Nat.le_max_left _ _) _ _ _ _ _ _ _ h1]
            exact am_back_le (am_run_max (Nat.le_max_right n n2)) h2
          · cases hx
        | some (1, k), hx =>
          simp only [am_smc] at hx
          split at hx
          · split at hx
            · rename_i hq
              cases hx
              obtain ⟨n, x, h1, h2⟩ := he
              refine ⟨n, x, ?_, h2⟩
              simp only [am_call]
              rw [if_pos hq]
              exact h1
            · cases hx
          · cases hx
        | some (2, k), hx =>
          simp only [am_smc] at hx
          split at hx
          · split at hx
            · rename_i hq
              split at hx
              · rename_i hz
                cases hx
                obtain ⟨n, x, h1, h2⟩ := he
                refine ⟨n, x, ?_, h2⟩
                simp only [am_call]
                rw [if_pos hq, hz]
                exact h1
              · cases hx
            · cases hx
          · cases hx
        | some (n + 3, k), hx => cases hx
      have wrap : (∃ (n : Nat) (y : am_O × am_H), am_ctl (am_run n) d mid pc L st h i = some y ∧ am_end K y r) → am_Ev ((d, mid, pc, L, st), h, K) r := by
        rintro ⟨n, y, h1, h2⟩
        exact ⟨n + 1, y, key n y h1, h2⟩
      apply wrap
      clear wrap key
      unfold am_smt at hs
      split at hs
      · split at hs
        · split at hs
          · rename_i hq
            exact ⟨0, _, by simp only [am_ctl]; rw [if_pos hq], am_pop_end _ _ _ _ _ hs he⟩
          · cases hs
        · cases hs
      · split at hs
        · split at hs
          · rename_i hq
            exact ⟨0, _, by simp only [am_ctl]; rw [if_pos hq], am_pop_end _ _ _ _ _ hs he⟩
          · cases hs
        · cases hs
      · split at hs
        · split at hs
          · rename_i hq
            exact ⟨0, _, by simp only [am_ctl]; rw [if_pos hq], am_pop_end _ _ _ _ _ hs he⟩
          · cases hs
        · cases hs
      · exact call _ _ hs
      · exact call _ _ hs
      · exact call _ _ hs
      · split at hs
        · rename_i X hX
          split at hs
          · rename_i hq
            exact ⟨0, _, by simp only [am_ctl]; rw [hX]; exact if_pos hq, am_pop_end _ _ _ _ _ hs he⟩
          · cases hs
        · cases hs
      · cases hs
theorem am_sms_ev : ∀ (n : Nat) {c c' : am_G} {r : am_O × am_H}, am_sms n c = some c' → am_Ev c' r → am_Ev c r
  | 0, c, c', r, hs, he => by cases hs; exact he
  | n + 1, c, c', r, hs, he => by
    simp only [am_sms] at hs
    cases hq : am_sm c with
    | none => rw [hq] at hs; cases hs
    | some c2 => rw [hq] at hs; exact am_sm_ev hq (am_sms_ev n hs he)
/-- the last step: an int comes back -/
theorem am_ev_ret {d : Nat × Nat} {mid pc : Nat} {L : List Value} {v : Int32} {h : am_H} (hi : am_code mid pc = some .ireturn) (hn : am_nw (am_rt mid) v = true) : am_Ev ((d, mid, pc, L, [.int v]), h, []) (.inl (some (.int v)), h) := by
  refine ⟨1, _, ?_, rfl⟩
  show am_body (am_run 0) d mid pc L [.int v] h = _
  unfold am_body
  rw [hi]
  show am_ctl _ _ _ _ _ _ _ _ = _
  simp only [am_ctl]
  rw [if_pos hn]
end
section
/-! CALLS: into a method, and out of it, returned or thrown -/
/-- what the tables say of method k -/
def am_mok (k : Nat) : Prop :=
  (Cond.code (am_y k) (am_b k) (am_ml k) (am_rt k) ∈ am_tbl ∧ am_hs k = [] ∨ ∃ hh, Cond.codeWith (am_y k) (am_b k) (am_ml k) (am_rt k) hh ∈ am_tbl ∧ am_hok k hh) ∧ plainFor (am_y k) = true ∧ ((am_y k).cls ≠ "java/lang/invoke/MethodHandle" ∧ (am_y k).cls ≠ "java/lang/invoke/VarHandle") ∧ Cond.initialized (am_y k).cls ∈ am_tbl ∧ (am_y k).cls = am_on (am_oc k)
def am_out (ad : Nat → Nat) (o : am_O) (h' : am_H) (oc : Outcome) : Prop := match o with
  | .inl v => oc = .returned (v.map (am_rv ad))
  | .inr X => oc = .threw (ad (h'.length - 1)) ∧ h'[h'.length - 1]? = some (X, [])
def am_Q (S0 : State) (D : va_G) (base : Nat) (ad : Nat → Nat) (below : List Frame) (s : State) (o : am_O) (h' : am_H) (cells slots : Nat) : State → Prop := fun t =>
  ∃ (oc : Outcome) (L : List Loc), t.status = .running ∧ Ended t below oc ∧ am_out ad o h' oc ∧ s.WarmedH t.vm ∧ s.sameButNew ({ t with vm := s.vm } : State) L cells slots ∧ (∀ q ∈ L, base ≤ q.base) ∧ am_P S0 D base ad h' t.heap
section AMC
variable {p : Program} {l : Launch} {e : Env} {R : Room} {s : State} {m : MethodId} {args : Array Value} {below : List Frame} {meth : Method} {c : Code} {T : State} {locs : List Loc} {cells slots : Nat}
variable {S0 : State} {D : va_G} {base : Nat} {ad : Nat → Nat} {A0 : Array Value}
/-- the method that a name names, by its words -/
theorem am_meth (hZ : am_Z S0 D base ad A0) (hW : S0.WarmedH s.vm) {k : Nat} (hk : am_mok k) : ∃ (mk : MethodId) (mt : Method) (ck : Code), s.methodNamed? (am_y k) = some mk ∧ s.vm.method? mk = some mt ∧ mt.code = some ck ∧ ck.code = am_b k ∧ ck.maxLocals = am_ml k ∧ mt.sig.returnType = am_rt k ∧ mt.locks = false ∧ parseMethodDescriptor (am_y k).desc = some mt.sig ∧
    am_hok k (ck.exceptionTable.toList.map (fun h => (h.startPc, h.endPc, h.handlerPc, h.catchType))) := by
  rcases hk.1 with ⟨hc, hh⟩ | ⟨hh, hc, ho⟩
  · have h := am_word hZ hW hc rfl #[]
    obtain ⟨mk, hn⟩ := Cond.code_named h
    obtain ⟨mt, ck, h1, h2, h3, h4, h5, h6, h7, h8⟩ := Cond.code_spec hn h
    refine ⟨mk, mt, ck, hn, h1, h2, h3, h4, h5, h6, h8, ?_⟩
    have : ck.exceptionTable = #[] := by simpa using h7
    unfold am_hok
    rw [this, hh]
    trivial
  · have h := am_word hZ hW hc rfl #[]
    obtain ⟨mk, mt, ck, hn, h1, h2, h3, h4, h7, h5, h6, h8⟩ := Cond.codeWith_spec h
    exact ⟨mk, mt, ck, hn, h1, h2, h3, h4, h5, h6, h8, by rw [h7]; exact ho⟩
/-- a walk may be said anew from where it stands -/
theorem am_rebase (X : Stand p l e R s m args below meth c T locs cells slots) (hc : cells ≤ R.cells) (hs : slots ≤ R.slots) :
    Stand p l e { R with cells := R.cells - cells, slots := R.slots - slots } (T.setFrames (.invoking m args :: below)) m args below meth c T [] 0 0 := by
  obtain ⟨g₀, hfr⟩ := X.frames_eq
  obtain ⟨t, ht, -⟩ := State.frames_cons hfr
  have hcur : T.cur < T.threads.size := State.cur_lt_of_frames hfr
  have hf : (T.setFrames (.invoking m args :: below)).frames = .invoking m args :: below := State.frames_setFrames _ hcur
  obtain ⟨t2, ht2, -⟩ := State.frames_cons hf
  have hm : (T.setFrames (.invoking m args :: below)).vm.method? m = some meth := X.method'
  refine ⟨X.admits, X.cas, X.clock, hf, ?_, ?_, hm, X.code, X.here, X.tail, State.WarmedH.refl _, by rw [State.stackLimits_setFrames], by rw [State.stackBytes_setFrames], ?_⟩
  · have hr := X.room
    have hr' := X.book
    have h1 := X.heapSize
    have h2 := X.used
    simp only [State.hasRoom, Bool.and_eq_true, decide_eq_true_eq] at hr ⊢
    rw [State.localsInUse_invoking X.frames X.method X.code, X.frames, ← X.limits, ← X.bytes] at hr
    rw [State.localsInUse_invoking hf hm X.code, hf, State.stackLimits_setFrames, State.stackBytes_setFrames]
    refine ⟨⟨⟨hr.1.1.1, ?_⟩, ?_⟩, hr'⟩
    · show T.heap.size + (R.cells - cells) ≤ _
      have := hr.1.1.2
      omega
    · show T.slotsUsed + (R.slots - slots) ≤ _
      have := hr.1.2
      omega
  · have hh := X.hears
    have hcd : ∀ q : MethodId, (T.setFrames (.invoking m args :: below)).code? q = s.code? q := fun q => by
      rw [State.code?_eq, State.code?_eq]
      show (T.vm.method? q).bind _ = _
      rw [X.warmed.alike.method?]
    have hmm : ∀ q : MethodId, (T.setFrames (.invoking m args :: below)).vm.method? q = s.vm.method? q := fun q => X.warmed.alike.method? q
    unfold State.hears at hh ⊢
    simp only [hcd, hmm]
    exact hh
  · have h := (State.sameButNew.refl (T.setFrames (.invoking m args :: below)) ht2).setFrames T.frames (State.cur_lt_of_frames hf)
    rw [State.setFrames_setFrames, State.setFrames_self ht] at h
    exact h
/-- words on statics move with the heap -/
theorem am_stat {s0 U : State} (hv : s0.vm.Alike U.vm) (hh : ∀ (a : Nat) (cell : Cell), s0.heap[a]? = some cell → U.heap[a]? = some cell) {O n d : String} {A A' : Array Value} (h : (Cond.laysStatic O n d).before A s0 = true) : (Cond.laysStatic O n d).before A' U = true := by
  obtain ⟨c, k, i, f, a, cell, hc, hi, hst, ha, hcell, hs, hcls, hlt, hty⟩ := Cond.laysStatic_spec h
  obtain ⟨k', hi', hek⟩ := State.fieldFound?_setVm hv hi
  exact Cond.laysStatic_of (s := U) (by rw [hv.findClass]; exact hc) hi' hst (by rw [hek]; exact ha) (hh _ _ hcell) hs hcls hlt (by rw [hek]; exact hty)
theorem am_statR {s0 U : State} (hv : s0.vm.Alike U.vm) (hh : ∀ (a : Nat) (cell : Cell), s0.heap[a]? = some cell → U.heap[a]? = some cell) {O n d : String} {A A' : Array Value} (h0 : (Cond.laysStatic O n d).before A s0 = true) (h : (Cond.isRef (.static O n d)).before A s0 = true) : (Cond.isRef (.static O n d)).before A' U = true := by
  obtain ⟨c, k, i, f, a, cell, hc, hi, hst, ha, hcell, hs, hcls, hlt, hty⟩ := Cond.laysStatic_spec h0
  obtain ⟨k', hi', hek⟩ := State.fieldFound?_setVm hv hi
  have hi2 : U.fieldFound? O n d = some (c, k', i, f) := hi'
  have ha2 : k'.statics = some a := by rw [hek]; exact ha
  have e0 : (Term.static O n d).eval A s0 none [] s0 = cell.slots[f.slot]? := by
    simp [Term.eval, State.fieldNamed?, hi, hst, ha, hcell, hs]
  have e1 : (Term.static O n d).eval A' U none [] U = cell.slots[f.slot]? := by
    simp [Term.eval, State.fieldNamed?, hi2, hst, ha2, hh _ _ hcell, hs]
  simp only [Cond.before, Cond.holds, Cond.value] at h ⊢
  rw [e1]
  rw [e0] at h
  exact h
/-- the words of the tables wherever a walk stands -/
def am_wd : Cond → Bool
  | .castable .. => true
  | .declares .. => true
  | .laysStatic .. => true
  | .isRef (.static O n d) => decide (Cond.laysStatic O n d ∈ am_tbl)
  | .fieldLinkNest .. => true
  | .methodLinkNest .. => true
  | w => goodWord w
theorem am_wordX (hZ : am_Z S0 D base ad A0) (hW : S0.WarmedH s.vm) (hh : ∀ a : Nat, a < base → s.heap[a]? = S0.heap[a]?) {w : Cond} (hw : w ∈ am_tbl) (hg : am_wd w = true) (a : Array Value) : w.before a s = true := by
  have h0 := hZ.1 w hw
  have hh' : ∀ (a : Nat) (cell : Cell), S0.heap[a]? = some cell → s.heap[a]? = some cell := fun a cell ha => by
    rw [hh a (by rw [hZ.2.2.1]; exact (Array.getElem?_eq_some_iff.mp ha).1)]; exact ha
  unfold am_wd at hg
  split at hg
  · exact va_Nw.use rfl (va_Nw.warmC hW (va_Nw.of rfl h0))
  · exact va_Nw.use rfl (va_Nw.warmD hW (va_Nw.of rfl h0))
  · exact am_stat hW.alike hh' h0
  · exact am_statR hW.alike hh' (hZ.1 _ (of_decide_eq_true hg)) h0
  · exact va_Nw.use rfl (va_Nw.warmF hW (va_Nw.of rfl h0))
  · exact va_Nw.use rfl (va_Nw.warmM hW (va_Nw.of rfl h0))
  · exact am_word hZ hW hw hg a
/-- an invoking instruction comes to its method -/
def am_Ent (p : Program) (l : Launch) (e : Env) (R : Room) (s : State) (m : MethodId) (args : Array Value) (below : List Frame) (meth : Method) (c : Code) (H : Heap) (locs : List Loc) (cells slots k pc : Nat) (ls : Array Slot) (as rest : List Value) : Prop :=
  ∀ T : State, T.heap = H → Stand p l e R s m args below meth c T locs cells slots → ∃ (vm1 : Vm) (mk : MethodId), Stand p l e R s m args below meth c (T.setVm vm1) locs cells slots ∧ s.methodNamed? (am_y k) = some mk ∧
    ∀ target, (∀ acts, Steps p.tables e below (doInvoke e ((T.setVm vm1).setTop (F0 m pc ls rest)) acts mk as.toArray).1 target) → Steps p.tables e below (T.setTop (F0 m pc ls (as.reverse ++ rest))) target
def am_lok (mid x k : Nat) : Prop := Cond.methodLink (am_y mid).cls x (am_y k) ∈ am_tbl ∨ ∃ host, Cond.methodLinkNest (am_y mid).cls x (am_y k) host ∈ am_tbl
theorem am_len {k n : Nat} (h : (parseMethodDescriptor (am_y k).desc).map (fun d => d.parameters.length) = some n) {sig : Jvm.ClassFile.MethodDescriptor} (hs : parseMethodDescriptor (am_y k).desc = some sig) : n = sig.parameters.length := by
  rw [hs] at h
  exact (Option.some.inj h).symm
theorem am_entS (hZ : am_Z S0 D base ad A0) {mid : Nat} (hX : am_X p S0 s m meth c mid) {H : Heap} {k x n pc : Nat} (hk : am_mok k) (hst : Cond.static (am_y k) ∈ am_tbl) (hl : am_lok mid x k) (hn : (parseMethodDescriptor (am_y k).desc).map (fun d => d.parameters.length) = some n) {ls : Array Slot} {as rest : List Value} (has : as.length = n) (hd : decode c.code pc = .ok (.invokestatic x, 3)) :
    am_Ent p l e R s m args below meth c H locs cells slots k pc ls as rest := by
  intro T hT X
  obtain ⟨mk, mt, ck, g1, g2, g3, g4, g5, g6, g7, g8, -⟩ := am_meth hZ hX.2.1 hk
  have hown := findClass_of_methodNamed hX.2.2.1
  obtain ⟨kP, hkP, -⟩ := className_of_methodNamed g1
  have hinit := Cond.initialized_spec (findClass_of_methodNamed g1) hkP (am_word hZ hX.2.1 hk.2.2.2.1 rfl args)
  have hstat := Cond.static_spec g1 g2 (am_word hZ hX.2.1 hst rfl args)
  rcases hl with hl | ⟨host, hl⟩
  · obtain ⟨vm1, X1, st⟩ := X.invokestatic hX.1 hown (am_word hZ hX.2.1 hl rfl args) g1 g2 hstat hkP hinit hk.2.2.1 (g := F0 m pc ls (as.reverse ++ rest)) rfl (argsL := as) (rest := rest) (by rw [has]; exact am_len hn g8) rfl hd
    exact ⟨vm1, mk, X1, g1, st⟩
  · obtain ⟨vm1, X1, st⟩ := X.invokestaticNest hX.1 hown (va_Nw.use rfl (va_Nw.warmM hX.2.1 (va_Nw.of rfl (hZ.1 _ hl)))) g1 g2 hstat hkP hinit hk.2.2.1 (g := F0 m pc ls (as.reverse ++ rest)) rfl (argsL := as) (rest := rest) (by rw [has]; exact am_len hn g8) rfl hd
    exact ⟨vm1, mk, X1, g1, st⟩
theorem am_entV (hZ : am_Z S0 D base ad A0) {mid : Nat} (hX : am_X p S0 s m meth c mid) {H : Heap} {k x n pc : Nat} (hk : am_mok k) (hin : Cond.instanceMethod (am_y k) ∈ am_tbl) (hse : Cond.selects (am_y k).cls (am_y k) (am_y k) ∈ am_tbl) (hl : am_lok mid x k) (hn : (parseMethodDescriptor (am_y k).desc).map (fun d => d.parameters.length) = some n) {ls : Array Slot} {a : Nat} {as rest : List Value} (has : as.length = n)
    {cell : Cell} (hcell : H[a]? = some cell) (hvm : cell.vm = .none) (hcls : s.vm.findClass (am_y k).cls = some cell.cls) (hd : decode c.code pc = .ok (.invokevirtual x, 3)) :
    am_Ent p l e R s m args below meth c H locs cells slots k pc ls (.ref a :: as) rest := by
  intro T hT X
  obtain ⟨mk, mt, ck, g1, g2, g3, g4, g5, g6, g7, g8, -⟩ := am_meth hZ hX.2.1 hk
  have hown := findClass_of_methodNamed hX.2.2.1
  obtain ⟨mk', mt', hn', hm', hst', hab'⟩ := Cond.instanceMethod_spec (am_word hZ hX.2.1 hin rfl args)
  cases Option.some.inj (g1.symm.trans hn')
  cases Option.some.inj (g2.symm.trans hm')
  obtain ⟨c2, r2, m2, q1, q2, q3, q4, kP, hkP, hkPi⟩ := Cond.selects_spec (am_word hZ hX.2.1 hse rfl args)
  cases Option.some.inj (hcls.symm.trans q1)
  cases Option.some.inj ((State.methodFound?_of_named g1 hk.2.2.1).symm.trans q2)
  cases Option.some.inj (g1.symm.trans q3)
  have hsel : selectMethod e.platform s.vm cell.cls mk = .method mk := by rw [Launch.admits_selectMethod X.admits]; exact q4
  have hstk : (F0 m pc ls ((Value.ref a :: as).reverse ++ rest)).stack = as.reverse ++ .ref a :: rest := by simp
  rcases hl with hl | ⟨host, hl⟩
  · obtain ⟨vm1, X1, st⟩ := X.invokevirtual hX.1 hown (am_word hZ hX.2.1 hl rfl args) g1 g2 hst' hkP hkPi hk.2.2.1 (a := a) (cell := cell) (by rw [hT]; exact hcell) (fun z h => by rw [hvm] at h; cases h) hsel g2 hab' hkP hkPi
      (g := F0 m pc ls ((Value.ref a :: as).reverse ++ rest)) rfl (argsL := as) (rest := rest) (by rw [has]; exact am_len hn g8) hstk hd
    exact ⟨vm1, mk, X1, g1, st⟩
  · obtain ⟨vm1, X1, st⟩ := X.invokevirtualNest hX.1 hown (va_Nw.use rfl (va_Nw.warmM hX.2.1 (va_Nw.of rfl (hZ.1 _ hl)))) g1 g2 hst' hkP hkPi hk.2.2.1 (a := a) (cell := cell) (by rw [hT]; exact hcell) (fun z h => by rw [hvm] at h; cases h) hsel g2 hab' hkP hkPi
      (g := F0 m pc ls ((Value.ref a :: as).reverse ++ rest)) rfl (argsL := as) (rest := rest) (by rw [has]; exact am_len hn g8) hstk hd
    exact ⟨vm1, mk, X1, g1, st⟩
theorem am_entI (hZ : am_Z S0 D base ad A0) {mid : Nat} (hX : am_X p S0 s m meth c mid) {H : Heap} {k x n pc : Nat} (hk : am_mok k) (hc : Cond.code (am_y k) (am_b k) (am_ml k) none ∈ am_tbl) (hnm : (am_y k).name = "<init>") (hin : Cond.instanceMethod (am_y k) ∈ am_tbl) (hl : am_lok mid x k) (hn : (parseMethodDescriptor (am_y k).desc).map (fun d => d.parameters.length) = some n) {ls : Array Slot} {a : Nat} {as rest : List Value} (has : as.length = n)
    (hd : decode c.code pc = .ok (.invokespecial x, 3)) :
    am_Ent p l e R s m args below meth c H locs cells slots k pc ls (.ref a :: as) rest := by
  intro T hT X
  have hown := findClass_of_methodNamed hX.2.2.1
  have hpl : e.platform.magicAccessors = ({} : Platform).magicAccessors := by rw [X.admits.platform]
  have hstk : (F0 m pc ls ((Value.ref a :: as).reverse ++ rest)).stack = as.reverse ++ .ref a :: rest := by simp
  rcases hl with hl | ⟨host, hl⟩
  · obtain ⟨mk, mt, ck, kP, vm1, h1, -, -, -, -, -, -, -, hW1, st⟩ := Steps.initColdArgs (e := e) X.here hX.1 X.warmed hpl hown hnm hk.2.2.1 (am_word hZ hX.2.1 hl rfl args) (am_word hZ hX.2.1 hin rfl args) (am_word hZ hX.2.1 hc rfl args) (f := F0 m pc ls ((Value.ref a :: as).reverse ++ rest)) rfl (argsL := as) (rest := rest) (fun sig hs => by rw [has]; exact am_len hn hs) hstk hd
    exact ⟨vm1, mk, X.noted hW1, h1, st⟩
  · obtain ⟨mk, mt, ck, kP, vm1, h1, -, -, -, -, -, -, -, hW1, st⟩ := Steps.initColdArgsNest (e := e) X.here hX.1 X.warmed hpl hown hnm hk.2.2.1 (va_Nw.use rfl (va_Nw.warmM hX.2.1 (va_Nw.of rfl (hZ.1 _ hl)))) (am_word hZ hX.2.1 hin rfl args) (am_word hZ hX.2.1 hc rfl args) (f := F0 m pc ls ((Value.ref a :: as).reverse ++ rest)) rfl (argsL := as) (rest := rest) (fun sig hs => by rw [has]; exact am_len hn hs) hstk hd
    exact ⟨vm1, mk, X.noted hW1, h1, st⟩
end AMC
end
section
/-! THROWING: new, dup, ldc, the constructor with its message, athrow -/
section AMT
variable {p : Program} {l : Launch} {e : Env} {R : Room} {s : State} {m : MethodId} {args : Array Value} {below : List Frame} {meth : Method} {c : Code} {H : Heap} {locs : List Loc} {cells slots : Nat}
variable {S0 : State} {D : va_G} {base : Nat} {ad : Nat → Nat} {A0 : Array Value}
/-- the tables' words at a place that throws: the class X, the pool's entries of new, of the constructor, of the text -/
def am_tok (own X : String) (x ic it : Nat) (tx : String) : Prop :=
  Cond.classLink own x X ∈ am_tbl ∧ Cond.initialized X ∈ am_tbl ∧ Cond.stringRef own it tx ∈ am_tbl ∧ (∀ w ∈ Bundle.ownAtoms own ic X ["java/lang/RuntimeException", "java/lang/Exception"], w ∈ am_tbl ∧ am_wd w = true) ∧ Bundle.fit X = true
theorem am_string (hZ : am_Z S0 D base ad A0) (hW : S0.WarmedH s.vm) {own tx : String} {it : Nat} (h : Cond.stringRef own it tx ∈ am_tbl) : ∃ q : Nat, vk_R own it tx q s := by
  have h0 := hZ.1 _ h
  have h1 := h0
  simp only [Cond.before, Cond.holds, Cond.value] at h1
  cases hc : S0.vm.findClass own with
  | none => simp [hc] at h1
  | some cur =>
    obtain ⟨kk, hk, -⟩ := Vm.findClass_spec hc
    simp only [hc, Option.map_some] at h1
    cases hr : S0.resolvedAt? own it with
    | none => simp [hr] at h1
    | some rr =>
      cases rr with
      | string a =>
        have hr2 : (kk.resolved[it]?).join = some (.string a) := by
          simpa [State.resolvedAt?, hc, hk] using hr
        have he : (Term.string own it).eval A0 S0 none [] S0 = some (.ref a) := by
          simp [Term.eval, hc, hk, hr2]
        exact ⟨a, vk_R.warm hW (vk_R.of (A := A0) h0 he)⟩
      | _ => simp [hr] at h1
theorem am_sbn {fs : List Frame} {u t : State} {L : List Loc} {k n : Nat} (h : (u.setFrames fs).sameButNew t L k n) : u.sameButNew t L k n := by
  obtain ⟨e1, h2⟩ := h
  refine ⟨?_, h2⟩
  rw [State.setFrames_setFrames] at e1
  exact e1
theorem am_throw (htr : e.platform.stackTraces = false) (hZ : am_Z S0 D base ad A0) {mid : Nat} (hX : am_X p S0 s m meth c mid) {X : String} {Xc x ic it : Nat} {tx : String} (hT0 : am_tok (am_y mid).cls X x ic it tx) (hcl : ∃ r : vw_C, am_cl[Xc]? = some r ∧ r.1 = X ∧ r.2.2 = 0) (hat : am_aty Xc = none) (hns : am_ns Xc = 6)
    (hout : c.exceptionTable.toList = []) {h : am_H} (hP : am_P S0 D base ad h H) (h2 : 2 ≤ h.length) (hlo : ∀ q ∈ locs, base ≤ q.base) {pc : Nat} {ls : Array Slot} {st : List Value} (hsize : ls.size = c.maxLocals) (hw : (st.map fun v => v.category).sum + 82 ≤ R.locals)
    (hd0 : decode c.code pc = .ok (.new x, 3)) (hd3 : decode c.code (pc + 3) = .ok (.dup, 1)) (hd4 : decode c.code (pc + 4) = .ok (.ldc it, 2)) (hd6 : decode c.code (pc + 6) = .ok (.invokespecial ic, 3)) (hd9 : decode c.code (pc + 9) = .ok (.athrow, 1))
    (hR : 6 ≤ R.frames) (hc : cells + 1 ≤ R.cells) (hz : slots + 6 ≤ R.slots) :
    W p l e R s m args below meth c H locs cells slots (am_Q S0 D base ad below s (.inr Xc) (h ++ [(Xc, [])]) (cells + 1) (slots + 6)) (F0 m pc ls st) := by
  intro T hT X0
  obtain ⟨t1, t2, t3, t4, t5⟩ := hT0
  have hlk := hX.2.2.2.2.2.2.1
  have X1 := am_rebase X0 (by omega) (by omega)
  have hW1 : S0.WarmedH (T.setFrames (.invoking m args :: below)).vm := State.WarmedH.trans hX.2.1 X0.warmed
  have hold : ∀ a : Nat, a < base → (T.setFrames (.invoking m args :: below)).heap[a]? = S0.heap[a]? := fun a ha => by
    show T.heap[a]? = _
    rw [hT]; exact hP.2.2 a ha
  have hown : (T.setFrames (.invoking m args :: below)).vm.findClass (am_y mid).cls = some m.cls := by
    show T.vm.findClass _ = _
    rw [X0.warmed.alike.findClass]
    exact findClass_of_methodNamed hX.2.2.1
  have word : ∀ w : Cond, w ∈ am_tbl → am_wd w = true → w.before args (T.setFrames (.invoking m args :: below)) = true := fun w h1 h2 => am_wordX hZ hW1 hold h1 h2 args
  obtain ⟨q, hq⟩ := am_string hZ hW1 t3
  have key : W p l e { R with cells := R.cells - cells, slots := R.slots - slots } (T.setFrames (.invoking m args :: below)) m args below meth c H [] 0 0
      (fun t => t.status = .running ∧ Ended t below (.threw H.size) ∧ (T.setFrames (.invoking m args :: below)).WarmedH t.vm ∧ (T.setFrames (.invoking m args :: below)).sameButNew ({ t with vm := (T.setFrames (.invoking m args :: below)).vm } : State) [] 1 6 ∧
        ∃ ce, t.heap[H.size]? = some ce ∧ Bundle.OwnCell args (T.setFrames (.invoking m args :: below)) X H.size (.ref q) ce) (F0 m pc ls st) := by
    refine W.newc hX.1 rfl hown (word _ t1 rfl) (word (.instantiable X 6) (t4 _ (by simp [Bundle.ownAtoms])).1 rfl) (word _ t2 rfl) rfl hd0 (by show 0 + 1 ≤ R.cells - cells; omega) (by show 0 + 6 ≤ R.slots - slots; omega) (fun cC kC f1 f2 f3 f4 => ?_)
    refine lv_dup hX.1 rfl hd3 rfl ?_
    refine va_ldcS hX.1 rfl hown hq hd4 ?_
    intro T3 hT3 X3
    obtain ⟨U, u1, u2, u3, u4, u5, u6⟩ := X3.ctorThrowS hX.1 htr (own := (am_y mid).cls) (cls := X) (names := ["java/lang/RuntimeException", "java/lang/Exception"]) (ic := ic) hown t5 (by decide) (fun w hw => word w (t4 w hw).1 (t4 w hw).2) (fun x hx => by cases hx) f1 f2 (a := H.size)
      (by rw [hT3]; simp [freshCell]) (by show T.heap.size ≤ H.size; rw [hT]; exact Nat.le_refl _) (msg := .ref q) rfl (g := F0 m (pc + 6) ls (.ref q :: .ref H.size :: .ref H.size :: st)) rfl hsize rfl rfl rfl hd6 hd9 (fun x hx => by rw [hout] at hx; cases hx)
      (by show 2 + 3 < R.frames; omega) (by show 2 * 0 + (1 + (st.map fun v => v.category).sum) + (13 * (2 + 1) + 42) ≤ R.locals; omega) hlk
    exact ⟨U, u1, u2, u3, u4, u5, u6⟩
  obtain ⟨t, k1, k2, k3, k4, k5, ce, k6, k7⟩ := key T hT X1
  have hsb : T.sameButNew (t.setVm T.vm) [] 1 6 := am_sbn k5
  have hszT : T.heap.size ≤ t.heap.size ∧ t.heap.size ≤ T.heap.size + 1 := ⟨hsb.2.1, hsb.2.2.1⟩
  have hsz : t.heap.size = H.size + 1 := by
    have := (Array.getElem?_eq_some_iff.mp k6).1
    rw [hT] at hszT
    omega
  have hkeep : ∀ q, q < H.size → t.heap[q]? = H[q]? := fun q hq => by
    have h1 : ∃ cc, H[q]? = some cc := ⟨_, Array.getElem?_eq_getElem hq⟩
    obtain ⟨cc, h1⟩ := h1
    rw [h1]
    exact State.sameButNew.old_cell hsb (by rw [hT]; exact h1)
  have hb0 : base ≤ H.size := by have := hP.1; omega
  have hnew := hP.new hZ.2.2.2 h2
  obtain ⟨r, r1, r2, r3⟩ := hcl
  have hPt : am_P S0 D base ad (h ++ [(Xc, [])]) t.heap := by
    refine hP.push hZ.2.2.2 h2 hb0 ?_ hsz hkeep
    unfold am_cell
    rw [hat]
    refine ⟨r, r1, by rw [r3]; exact Nat.zero_le _, ?_⟩
    rw [hnew]
    refine ⟨ce, k6, ?_, k7.vm, fun k hk => absurd hk (by rw [r3]; exact Nat.not_lt_zero k)⟩
    have h1 := k7.cls
    have h3 := (hZ.2.1.1 Xc r r1).2.1
    rw [r2] at h3
    have h4 : S0.vm.findClass X = some ce.cls := by
      rw [← hW1.alike.findClass]; exact h1
    exact Option.some.inj (h4.symm.trans h3)
  refine ⟨t, k1, .threw H.size, locs, k2, k3, ⟨by simp [hnew], by simp⟩, State.WarmedH.trans X0.warmed k4, ?_, hlo, hPt⟩
  have := X0.same.trans (hsb.setVm s.vm)
  rw [List.append_nil] at this
  exact this
end AMT
end
section
/-! CATCHING: the search through a method's handlers, links made on the way -/
def am_sc (s : State) (pl : Platform) (d : ClassId) (pc : Nat) (thrown : ClassId) : List ExceptionTableEntry → Nat → Prop
  | [], _ => False
  | y :: ys, q => (covers y pc = false ∧ am_sc s pl d pc thrown ys q) ∨ (covers y pc = true ∧ y.catchType ≠ 0 ∧ ∃ c, s.vm.ClassLinks pl d y.catchType c ∧ ((s.vm.assignable thrown c = true ∧ q = y.handlerPc) ∨ (s.vm.assignable thrown c = false ∧ am_sc s pl d pc thrown ys q)))
theorem am_scan {e : Env} {s : State} {f : JFrame} {a : Addr} {cell : Cell} (hobj : ∀ k, cell.vm ≠ .statics k) (hk0 : ∃ k, s.vm.classes[cell.cls]? = some k) {q : Nat} :
    ∀ (es : List ExceptionTableEntry) (S : State), s.WarmedH S.vm → S.heap[a]? = some cell → am_sc s e.platform f.method.cls f.pc cell.cls es q →
      ∃ vm', s.WarmedH vm' ∧ ∀ (Q : Handler → Pre) (E : CtlPost) (d : Bool) (acts : List Action), wp (findHandler.go f a es) Q E e d acts S ↔ Q (.found q) d acts (S.setVm vm')
  | [], _, _, _, h => h.elim
  | y :: ys, S, hW, hcell, h => by
    rcases h with ⟨h1, h2⟩ | ⟨h1, h0, c, hl, h2⟩
    · obtain ⟨vm', g1, g2⟩ := am_scan hobj hk0 ys S hW hcell h2
      exact ⟨vm', g1, fun Q E d acts => (W.findHandler_go_skip h1).trans (g2 Q E d acts)⟩
    · obtain ⟨k0, hk0'⟩ := hk0
      obtain ⟨dk, _, _, kt, hd, _, _, _, _, hkt, _, hopen⟩ := hl.here
      have hW2 := hW.noted hd hopen (State.rightAt_cls hl)
      obtain ⟨k1, hk1, -⟩ := hW2.alike.2.2 _ _ hk0'
      obtain ⟨k2, hk2, -⟩ := hW2.alike.2.2 _ _ hkt
      obtain ⟨ha, ht⟩ := (resolveClass_links e.toSetting (hW.classLinks hl)).op (op := VmOp.resolveClass f.method.cls y.catchType) rfl
      have hx : (decide (y.startPc ≤ f.pc) && decide (f.pc < y.endPc)) = true := h1
      have hasg : (S.vm.noted f.method.cls y.catchType (.cls c)).assignable cell.cls c = s.vm.assignable cell.cls c := by rw [hW2.alike.assignable]
      rcases h2 with ⟨hfit, rfl⟩ | ⟨hno, h2⟩
      · refine ⟨_, hW2, fun Q E d acts => ?_⟩
        rw [hfit] at hasg
        simp [findHandler.go, hx, h0, ha, ht, hcell, hobj, hk1, hk2, hasg, VmOp.dirties, VmOp.acts]
      · rw [hno] at hasg
        obtain ⟨vm', g1, g2⟩ := am_scan hobj ⟨k0, hk0'⟩ ys (S.setVm (S.vm.noted f.method.cls y.catchType (.cls c))) hW2 hcell h2
        refine ⟨vm', g1, fun Q E d acts => ?_⟩
        refine Iff.trans ?_ (g2 Q E d acts)
        simp [findHandler.go, hx, h0, ha, ht, hcell, hobj, hk1, hk2, hasg, VmOp.dirties, VmOp.acts]
theorem am_stepcatch {e : Env} {s : State} {a : Addr} {f : JFrame} {r : List Frame} {pc : Nat} {vm' : Vm} (hfind : ∀ (Q : Handler → Pre) (E : CtlPost) (d : Bool) (acts : List Action), wp (findHandler f a) Q E e d acts s ↔ Q (.found pc) d acts (s.setVm vm')) :
    (stepThrowing e s a (.java f :: r)).Is ((s.setVm vm').setFrames (.java { f with pc := pc, stack := [.ref a] } :: r)) [] := by
  simp only [stepThrowing, searchFrame, vmDo]
  generalize hr : Sem.go _ e false [] s = res
  obtain ⟨as, rfl, ha⟩ := Sem.eq_ok_of hr (a := Handler.found pc) (s' := s.setVm vm') (acts' := []) (by simp [hfind _ _ _ _])
  exact ⟨rfl, ha⟩
section AMX
variable {p : Program} {l : Launch} {e : Env} {R : Room} {s : State} {m : MethodId} {args : Array Value} {below : List Frame} {meth : Method} {c : Code} {T : State} {locs : List Loc} {cells slots : Nat}
theorem am_caught (X : Stand p l e R s m args below meth c T locs cells slots) {a : Addr} {g : JFrame} (hg : g.method = m) {cell : Cell} (hcell : T.heap[a]? = some cell) (hobj : ∀ k, cell.vm ≠ .statics k) (hk0 : ∃ k, s.vm.classes[cell.cls]? = some k) {q : Nat}
    (hsc : am_sc s e.platform m.cls g.pc cell.cls c.exceptionTable.toList q) :
    ∃ vm', Stand p l e R s m args below meth c (T.setVm vm') locs cells slots ∧
      ∀ target, Steps p.tables e below ((T.setVm vm').setTop { g with pc := q, stack := [.ref a] }) target → Steps p.tables e below ((T.setTop g).pushFrame (.throwing a)) target := by
  subst hg
  obtain ⟨vm', hW', hq⟩ := am_scan (e := e) (f := g) hobj hk0 c.exceptionTable.toList ((T.setTop g).pushFrame (.throwing a)) X.warmed hcell hsc
  refine ⟨vm', X.noted hW', fun target hrest => ?_⟩
  have hm : ((T.setTop g).pushFrame (.throwing a)).vm.method? g.method = some meth := X.method'
  obtain ⟨hgo, hw⟩ := X.here.throwing a
  refine Steps.head hgo hw ?_
  rw [stepThread_throwing (frames_entered X.here.top _), (am_stepcatch (s := (T.setTop g).pushFrame (.throwing a)) (vm' := vm') (pc := q) (fun Q E d acts => by rw [W.findHandler_eq hm X.code]; exact hq Q E d acts)).1]
  obtain ⟨g₀, hg⟩ := Option.isSome_iff_exists.mp X.here.top
  obtain ⟨r, hr⟩ := State.topJava?_eq_some.mp hg
  have hr' : (T.setVm vm').frames = .java g₀ :: r := hr
  rw [State.setTop_of_frames _ hr'] at hrest
  rw [State.pushFrame, State.setTop_of_frames _ hr, State.setFrames_setFrames]
  show Steps p.tables e below (((T.setVm vm').setFrames _).setFrames _) target
  rw [State.setFrames_setFrames, hr]
  exact hrest
end AMX
end
section
/-! WHAT THE ABSTRACT MACHINE DOES, THE MACHINE DOES -/
/-- the abstract machine's runs are walks -/
def am_So (p : Program) (l : Launch) (e : Env) (S0 : State) (D : va_G) (base : Nat) (ad : Nat → Nat) (rec : am_R) : Prop :=
  ∀ (d : Nat × Nat) (mid pc : Nat) (L st : List Value) (h : am_H) (o : am_O) (h' : am_H), rec d mid pc L st h = some (o, h') →
  ∀ (R : Room) (s : State) (m : MethodId) (args : Array Value) (below : List Frame) (meth : Method) (c : Code) (H : Heap) (locs : List Loc) (cells slots : Nat) (ls : Array Slot), am_X p S0 s m meth c mid → am_mok mid → (d.1 ≤ R.frames ∧ d.2 ≤ R.locals) → am_L ad L (am_ml mid) ls → am_P S0 D base ad h H → 2 ≤ h.length → (∀ q ∈ locs, base ≤ q.base) →
    cells + h'.length ≤ R.cells + h.length → slots + am_sz h' ≤ R.slots + am_sz h →
    W p l e R s m args below meth c H locs cells slots (am_Q S0 D base ad below s o h' (cells + (h'.length - h.length)) (slots + (am_sz h' - am_sz h))) (F0 m pc ls (st.map (am_rv ad)))
/-- cells are only added -/
def am_gr (rec : am_R) : Prop := ∀ (d : Nat × Nat) (mid pc : Nat) (L st : List Value) (h : am_H) (o : am_O) (h' : am_H), rec d mid pc L st h = some (o, h') → h.length ≤ h'.length ∧ am_sz h ≤ am_sz h'
section AMS
variable {p : Program} {l : Launch} {e : Env} {R : Room} {s : State} {m : MethodId} {args : Array Value} {below : List Frame} {meth : Method} {c : Code} {H : Heap} {locs : List Loc} {cells slots : Nat} {Q : State → Prop}
variable {S0 : State} {D : va_G} {base : Nat} {ad : Nat → Nat} {A0 : Array Value}
theorem am_mq {h : am_H} {v : Option Value} {g : JFrame} (k : W p l e R s m args below meth c H locs cells slots (MQ below (fun _ _ o t => o = .returned (v.map (am_rv ad)) ∧ am_P S0 D base ad h t.heap) args s cells slots (fun q => base ≤ q)) g) : W p l e R s m args below meth c H locs cells slots (am_Q S0 D base ad below s (.inl v) h cells slots) g := by
  intro T hT X
  obtain ⟨t, st, o, h1, h2, ⟨rfl, hP⟩, L, ⟨-, hW, hs⟩, hL⟩ := k T hT X
  exact ⟨t, st, _, L, h1, h2, rfl, hW, hs, hL, hP⟩
theorem am_ireturn {mid : Nat} (hX : am_X p S0 s m meth c mid) {h : am_H} (hP : am_P S0 D base ad h H) (hlo : ∀ q ∈ locs, base ≤ q.base) {pc : Nat} {ls : Array Slot} {v : Int32} (hn : am_nw (am_rt mid) v = true) (hd : decode c.code pc = .ok (.ireturn, 1)) : W p l e R s m args below meth c H locs cells slots (am_Q S0 D base ad below s (.inl (some (.int v))) h cells slots) (F0 m pc ls [.int v]) := by
  have hr := hX.2.2.2.2.2.1
  have hlk := hX.2.2.2.2.2.2.1
  refine am_mq ?_
  cases hq : am_rt mid with
  | none => rw [hq] at hn; cases hn
  | some ty =>
    rw [hq] at hn hr
    refine W.zret hX.1 rfl hr ?_ (fun t ht _ => ⟨rfl, by rw [ht]; exact hP⟩) hlo hd hlk
    cases ty <;> first | rfl | (simp [am_nw] at hn; done) | skip
    simp only [am_nw, Bool.or_eq_true, beq_iff_eq] at hn
    rcases hn with rfl | rfl <;> rfl
theorem am_return {mid : Nat} (hX : am_X p S0 s m meth c mid) {h : am_H} (hP : am_P S0 D base ad h H) (hlo : ∀ q ∈ locs, base ≤ q.base) {pc : Nat} {ls : Array Slot} (hn : am_vo (am_rt mid) = true) (hd : decode c.code pc = .ok (.return_, 1)) : W p l e R s m args below meth c H locs cells slots (am_Q S0 D base ad below s (.inl none) h cells slots) (F0 m pc ls []) := by
  have hr := hX.2.2.2.2.2.1
  have hlk := hX.2.2.2.2.2.2.1
  refine am_mq ?_
  cases hq : am_rt mid with
  | none =>
    rw [hq] at hr
    exact W.vret hX.1 rfl hr (fun t ht _ => ⟨rfl, by rw [ht]; exact hP⟩) hlo hd hlk
  | some ty => rw [hq] at hn; cases hn
theorem am_areturn {mid : Nat} (hX : am_X p S0 s m meth c mid) {h : am_H} (hP : am_P S0 D base ad h H) (hlo : ∀ q ∈ locs, base ≤ q.base) {pc : Nat} {ls : Array Slot} {a : Nat} (hn : am_ro (am_rt mid) = true) (hd : decode c.code pc = .ok (.areturn, 1)) : W p l e R s m args below meth c H locs cells slots (am_Q S0 D base ad below s (.inl (some (.ref a))) h cells slots) (F0 m pc ls [.ref (ad a)]) := by
  have hr := hX.2.2.2.2.2.1
  have hlk := hX.2.2.2.2.2.2.1
  refine am_mq ?_
  cases hq : am_rt mid with
  | none => rw [hq] at hn; cases hn
  | some ty =>
    rw [hq] at hn hr
    refine W.aret hX.1 rfl hr ?_ (Or.inr ⟨_, rfl⟩) (fun t ht _ => ⟨rfl, by rw [ht]; exact hP⟩) hlo hd hlk
    cases ty <;> first | (simp [am_ro] at hn; done) | exact Or.inl ⟨_, rfl⟩ | exact Or.inr ⟨_, rfl⟩
theorem am_wt_eq : ∀ r : List Value, ((r.map (am_rv ad)).map fun v => v.category).sum = am_wt r
  | [] => rfl
  | v :: r => by
    simp only [List.map_cons, List.sum_cons, am_wt, am_wt_eq r]
    cases v <;> rfl
theorem am_args : ∀ (as : List Value) (i k : Nat) (v : Value), am_kns as = true → as[k]? = some v → (i + k, am_rv ad v) ∈ lv_args i (as.map (am_rv ad))
  | [], i, k, v, _, h => by simp at h
  | w :: as, i, k, v, hk, h => by
    simp only [am_kns, Bool.and_eq_true] at hk
    simp only [List.map_cons, lv_args]
    have hc := am_kn_cat (ad := ad) hk.1
    cases k with
    | zero =>
      rw [List.getElem?_cons_zero] at h
      cases h
      exact List.mem_cons_self
    | succ k =>
      rw [List.getElem?_cons_succ] at h
      refine List.mem_cons_of_mem _ ?_
      rw [if_neg (by rw [hc]; decide)]
      have := am_args as (i + 1) k v hk.2 h
      rw [show i + 1 + k = i + (k + 1) by omega] at this
      exact this
theorem am_sl_len : ∀ as : List Value, am_kns as = true → (lg_sl (as.map (am_rv ad))).length = as.length
  | [], _ => rfl
  | w :: as, hk => by
    simp only [am_kns, Bool.and_eq_true] at hk
    have hc := am_kn_cat (ad := ad) hk.1
    have := am_sl_len as hk.2
    simp only [lg_sl, List.map_cons, List.flatMap_cons, hc] at this ⊢
    simp [this]
/-- the locals with which a method begins -/
theorem am_L.entry {as : List Value} {n : Nat} (hk : am_kns as = true) (hn : as.length ≤ n) : am_L ad (as ++ List.replicate (n - as.length) (.retAddr 0)) n ((lg_sl (as.map (am_rv ad)) ++ List.replicate (n - (lg_sl (as.map (am_rv ad))).length) Slot.unset).toArray) := by
  refine ⟨by simp; omega, _, lv_entry (as.map (am_rv ad)) (by rw [am_sl_len as hk]; exact hn), fun k v h hv => ?_⟩
  by_cases hl : k < as.length
  · rw [List.getElem?_append_left hl] at h
    have := am_args (ad := ad) as 0 k v hk h
    rwa [Nat.zero_add] at this
  · rw [List.getElem?_append_right (by omega)] at h
    have := List.mem_of_getElem? h
    rw [List.mem_replicate] at this
    rw [this.2] at hv
    cases hv
theorem am_callW (hZ : am_Z S0 D base ad A0) {rec : am_R} (IH : am_So p l e S0 D base ad rec) {mid : Nat} (hX : am_X p S0 s m meth c mid) {k : Nat} (hk : am_mok k) {pc : Nat} {d : Nat × Nat} {ls : Array Slot} {as r : List Value} {h h1 : am_H} {o1 : am_O} {ig : Jvm.ClassFile.Instr}
    (hent : am_Ent p l e R s m args below meth c H locs cells slots k pc ls (as.map (am_rv ad)) (r.map (am_rv ad))) (hkn : am_kns as = true) (hal : as.length ≤ am_ml k) (hsize : ls.size = c.maxLocals)
    (hR : d.1 ≤ R.frames ∧ d.2 ≤ R.locals) (hd1 : 1 ≤ d.1) (hd2 : am_wt r + (am_ml k + 11) ≤ d.2) (hd : decode c.code pc = .ok (ig, 3)) (hrun : rec (d.1 - 1, d.2 - (am_wt r + (am_ml k + 11))) k 0 (as ++ List.replicate (am_ml k - as.length) (.retAddr 0)) [] h = some (o1, h1)) (hg1 : h.length ≤ h1.length) (hg2 : am_sz h ≤ am_sz h1)
    (hc : cells + h1.length ≤ R.cells + h.length) (hz : slots + am_sz h1 ≤ R.slots + am_sz h) (hP : am_P S0 D base ad h H) (h2 : 2 ≤ h.length) (hlo : ∀ q ∈ locs, base ≤ q.base)
    (kret : ∀ v : Option Value, o1 = .inl v → ∀ (H1 : Heap) (locs1 : List Loc), am_P S0 D base ad h1 H1 → (∀ q ∈ locs1, base ≤ q.base) → W p l e R s m args below meth c H1 locs1 (cells + (h1.length - h.length)) (slots + (am_sz h1 - am_sz h)) Q (F0 m (pc + 3) ls ((v.map (am_rv ad)).toList ++ r.map (am_rv ad))))
    (kthr : ∀ Xc : Nat, o1 = .inr Xc → h1[h1.length - 1]? = some (Xc, []) → ∀ (T1 : State) (locs1 : List Loc), Stand p l e R s m args below meth c T1 locs1 (cells + (h1.length - h.length)) (slots + (am_sz h1 - am_sz h)) → am_P S0 D base ad h1 T1.heap → (∀ q ∈ locs1, base ≤ q.base) → ∃ t, Steps p.tables e below ((T1.setTop (F0 m pc ls (r.map (am_rv ad)))).pushFrame (.throwing (ad (h1.length - 1)))) t ∧ Q t) :
    W p l e R s m args below meth c H locs cells slots Q (F0 m pc ls ((as.map (am_rv ad)).reverse ++ r.map (am_rv ad))) := by
  intro T hT X
  obtain ⟨vm1, mk, X1, hmk, hstep⟩ := hent T hT X
  obtain ⟨mk', mt, ck, g1, g2, g3, g4, g5, g6, g7, g8, g9⟩ := am_meth hZ hX.2.1 hk
  cases Option.some.inj (hmk.symm.trans g1)
  have hW1 : S0.WarmedH (T.setVm vm1).vm := State.WarmedH.trans hX.2.1 X1.warmed
  have hmk1 : (T.setVm vm1).vm.method? mk = some mt := by rw [X1.warmed.alike.method?]; exact g2
  have hpk : (T.setVm vm1).plainMethod mk := State.plainMethod.of_named hk.2.1 (X1.named hmk) hmk1
  have hwt := am_wt_eq (ad := ad) r
  obtain ⟨Y, hin⟩ := X1.into (g := F0 m pc ls (r.map (am_rv ad))) rfl hsize hd (as.map (am_rv ad)).toArray (R' := { frames := R.frames - 1, cells := R.cells - cells, slots := R.slots - slots, locals := R.locals - (am_wt r + (am_ml k + 11)) }) hmk1 g3 g7 hpk
    (by show R.frames - 1 + 1 ≤ _; omega) (by show 2 * 0 + _ + (ck.maxLocals + 11) + (R.locals - (am_wt r + (am_ml k + 11))) ≤ _; rw [hwt, g5]; omega) (by show cells + (R.cells - cells) ≤ _; omega) (by show slots + (R.slots - slots) ≤ _; omega)
  have hXk : am_X p S0 ((T.setVm vm1).calling (F0 m pc ls (r.map (am_rv ad))) mk (as.map (am_rv ad)).toArray) mk mt ck k := by
    exact ⟨hX.1, hW1, X1.named hmk, g4, g5, g6, g7, hmk1, hk.2.2.2.2, g9⟩
  have hI := IH _ k 0 _ [] h o1 h1 hrun { frames := R.frames - 1, cells := R.cells - cells, slots := R.slots - slots, locals := R.locals - (am_wt r + (am_ml k + 11)) } _ mk (as.map (am_rv ad)).toArray (.java (F0 m pc ls (r.map (am_rv ad))) :: below) mt ck H [] 0 0 _ hXk hk
    ⟨by show d.1 - 1 ≤ R.frames - 1; omega, by show d.2 - (am_wt r + (am_ml k + 11)) ≤ R.locals - (am_wt r + (am_ml k + 11)); omega⟩ (am_L.entry (ad := ad) hkn hal) hP h2 (fun q hq => by cases hq) (by show 0 + h1.length ≤ R.cells - cells + h.length; omega) (by show 0 + am_sz h1 ≤ R.slots - slots + am_sz h; omega)
  obtain ⟨t, hst, oc, L, q1, q2, q3, q4, q5, q6, q7⟩ := hI _ (by show T.heap = H; exact hT) Y
  have hst2 : Steps p.tables e below (((T.setVm vm1).setTop (F0 m pc ls (r.map (am_rv ad)))).pushFrame (.java (entryFrame mk (as.map (am_rv ad)).toArray ck.maxLocals)) |>.setTop (entryFrame mk (as.map (am_rv ad)).toArray ck.maxLocals)) t := by
    refine Steps.weaken (mid := [.java (F0 m pc ls (r.map (am_rv ad)))]) ?_
    have he := lg_entry_eq mk (as.map (am_rv ad)) ck.maxLocals
    rw [g5] at he hst ⊢
    rw [he] at hst ⊢
    exact hst
  have hlocs : ∀ q ∈ locs ++ L, base ≤ q.base := t_lL hlo q6
  cases o1 with
  | inl v =>
    cases q3
    obtain ⟨T', X', hW', hs', ht⟩ := X1.outOf (g := F0 m pc ls (r.map (am_rv ad))) rfl hd q2 q4 q5
    rw [Nat.zero_add, Nat.zero_add] at X'
    have hh : t.heap = T'.heap := by rw [ht]; rfl
    obtain ⟨t2, a1, b1⟩ := kret v rfl T'.heap (locs ++ L) (by rw [← hh]; exact q7) hlocs T' rfl X'
    refine ⟨t2, hstep _ (fun acts => ?_), b1⟩
    rw [hin acts]
    refine hst2.trans ?_
    rw [ht]
    exact a1
  | inr Xc =>
    obtain ⟨q3a, q3b⟩ := q3
    subst q3a
    obtain ⟨T', X', hW', hs', ht⟩ := X1.outOfThrown (g := F0 m pc ls (r.map (am_rv ad))) rfl q2 q4 q5
    rw [Nat.zero_add, Nat.zero_add] at X'
    have hh : t.heap = T'.heap := by rw [ht]; exact Stand.throwing_heap T' _ _
    obtain ⟨t2, a1, b1⟩ := kthr Xc rfl q3b T' (locs ++ L) X' (by rw [← hh]; exact q7) hlocs
    refine ⟨t2, hstep _ (fun acts => ?_), b1⟩
    rw [hin acts]
    refine hst2.trans ?_
    rw [ht]
    exact a1
end AMS
end
section
/-! Object's constructor, System.arraycopy of ints -/
section AMO
variable {p : Program} {l : Launch} {e : Env} {R : Room} {s : State} {m : MethodId} {args : Array Value} {below : List Frame} {meth : Method} {c : Code} {H : Heap} {locs : List Loc} {cells slots : Nat} {Q : State → Prop}
variable {S0 : State} {D : va_G} {base : Nat} {ad : Nat → Nat} {A0 : Array Value}
theorem am_objw : Cond.instanceMethod objectInit ∈ am_tbl ∧ Cond.code objectInit ⟨#[0xb1]⟩ 1 none ∈ am_tbl := ⟨by decide +kernel, List.mem_of_getElem? (i := 99) rfl⟩
theorem am_cpyw : Cond.native arraycopyName ∈ am_tbl ∧ Cond.static arraycopyName ∈ am_tbl ∧ Cond.initialized "java/lang/System" ∈ am_tbl := ⟨by decide +kernel, by decide +kernel, by decide +kernel⟩
theorem am_objinit (hZ : am_Z S0 D base ad A0) {mid : Nat} (hX : am_X p S0 s m meth c mid) {x pc : Nat} (hl : Cond.methodLink (am_y mid).cls x objectInit ∈ am_tbl) {ls : Array Slot} (hsize : ls.size = c.maxLocals) {a : Nat} {r : List Value} (hd : decode c.code pc = .ok (.invokespecial x, 3)) (h1 : 1 ≤ R.frames) (h2 : am_wt r + 12 ≤ R.locals)
    (kk : W p l e R s m args below meth c H locs cells slots Q (F0 m (pc + 3) ls (r.map (am_rv ad)))) : W p l e R s m args below meth c H locs cells slots Q (F0 m pc ls (.ref (ad a) :: r.map (am_rv ad))) := by
  have hown := findClass_of_methodNamed hX.2.2.1
  exact W.objInit hX.1 rfl hown (am_word hZ hX.2.1 hl rfl args) (am_word hZ hX.2.1 am_objw.1 rfl args) (am_word hZ hX.2.1 am_objw.2 rfl args) rfl hsize rfl hd h1 (by show 2 * 0 + _ + 12 ≤ _; rw [am_wt_eq]; omega) kk
theorem am_nn {z : Int32} (hz : ¬ z < 0) : z.toInt = (z.toNatClampNeg : Int) := by
  have hz0 : (0 : Int) ≤ z.toInt := by
    have := Int32.not_lt.mp hz
    simpa using Int32.le_iff_toInt_le.mp this
  show z.toInt = ((z.toInt.toNat : Nat) : Int)
  omega
theorem am_copied {fs gs : List Value} {cs cd : Cell} {sp dp n : Nat} (hs : cs.slots = (fs.map (am_rv ad)).toArray) (hd : cd.slots = (gs.map (am_rv ad)).toArray) (h1 : sp + n ≤ fs.length) (h2 : dp + n ≤ gs.length) :
    (cd.storeRun dp (cs.stretch sp n)).slots = ((gs.take dp ++ (fs.drop sp).take n ++ gs.drop (dp + n)).map (am_rv ad)).toArray := by
  have hl : (cs.stretch sp n).length = n := by simp [Cell.stretch]
  have hsz : cd.slots.size = gs.length := by rw [hd]; simp
  apply Array.ext_getElem?
  intro j
  rw [Cell.storeRun_get _ _ _ _ (by rw [hl, hsz]; exact h2), hl]
  have e0 : ∀ L : List Value, ((L.map (am_rv ad)).toArray)[j]? = (L[j]?).map (am_rv ad) := fun L => by simp
  rw [e0]
  by_cases hj : dp ≤ j ∧ j < dp + n
  · rw [if_pos hj]
    have e1 : (gs.take dp ++ (fs.drop sp).take n ++ gs.drop (dp + n))[j]? = fs[sp + (j - dp)]? := by
      rw [List.append_assoc, List.getElem?_append_right (by simp; omega)]
      rw [List.getElem?_append_left (by simp; omega)]
      rw [List.getElem?_take_of_lt (by simp; omega), List.getElem?_drop]
      congr 1
      simp
      omega
    rw [e1]
    unfold Cell.stretch
    rw [List.getElem?_map, List.getElem?_range (by omega)]
    have hlt : sp + (j - dp) < fs.length := by omega
    rw [List.getElem?_eq_getElem hlt]
    simp [hs, hlt]
  · rw [if_neg hj, hd, e0]
    congr 1
    by_cases hjl : j < dp
    · rw [List.append_assoc, List.getElem?_append_left (by simp; omega), List.getElem?_take_of_lt hjl]
    · have hge : dp + n ≤ j := by omega
      rw [List.getElem?_append_right (by simp; omega), List.getElem?_drop]
      congr 1
      simp
      omega
theorem am_arraycopy (hZ : am_Z S0 D base ad A0) {mid : Nat} (hX : am_X p S0 s m meth c mid) {x pc : Nat} (hl : Cond.methodLink (am_y mid).cls x arraycopyName ∈ am_tbl) {ls : Array Slot} (hsize : ls.size = c.maxLocals) {n dp sp : Int32} {a b : Nat} {r : List Value} {h h' : am_H} (hcp : am_copy h n dp b sp a = some h') (hP : am_P S0 D base ad h H) (hlo : ∀ q ∈ locs, base ≤ q.base)
    (hd : decode c.code pc = .ok (.invokestatic x, 3)) (h1 : 1 ≤ R.frames) (h2 : am_wt r + 18 ≤ R.locals)
    (kk : ∀ (H' : Heap) (locs' : List Loc), am_P S0 D base ad h' H' → (∀ q ∈ locs', base ≤ q.base) → h'.length = h.length → am_sz h' = am_sz h → W p l e R s m args below meth c H' locs' cells slots Q (F0 m (pc + 3) ls (r.map (am_rv ad)))) :
    W p l e R s m args below meth c H locs cells slots Q (F0 m pc ls (.int n :: .int dp :: .ref (ad b) :: .int sp :: .ref (ad a) :: r.map (am_rv ad))) := by
  unfold am_copy at hcp
  split at hcp
  · rename_i tg fs ha
    split at hcp
    · rename_i tg2 gs hb
      split at hcp
      · rename_i hq
        simp only [Bool.and_eq_true] at hq
        obtain rfl := Nat.eq_of_beq_eq_true hq.1
        obtain rfl := Nat.eq_of_beq_eq_true hq.2.1
        have hb2 : 2 ≤ b := Nat.le_of_ble_eq_true hq.2.2
        split at hcp
        · cases hcp
        · rename_i hn
          split at hcp
          · cases hcp
          · rename_i hdp
            split at hcp
            · cases hcp
            · rename_i hsp
              split at hcp
              · rename_i hr
                cases hcp
                simp only [Bool.and_eq_true] at hr
                have g1 : sp.toNatClampNeg + n.toNatClampNeg ≤ fs.length := Nat.le_of_ble_eq_true hr.1
                have g2 : dp.toNatClampNeg + n.toNatClampNeg ≤ gs.length := Nat.le_of_ble_eq_true hr.2
                obtain ⟨cs, s1, s2, s3, s4, s5⟩ := hP.arr ha (ty := .int) rfl
                obtain ⟨cd, d1, d2, d3, d4, d5⟩ := hP.arr hb (ty := .int) rfl
                obtain ⟨s2a, ks, s2b, scm, s2c⟩ := State.isArrayOf_alike hX.2.1.alike s2
                obtain ⟨d2a, kd, d2b, dcm, d2c⟩ := State.isArrayOf_alike hX.2.1.alike d2
                have hown := findClass_of_methodNamed hX.2.2.1
                have es : cs.slots.size = fs.length := by rw [s4]; simp
                have ed : cd.slots.size = gs.length := by rw [d4]; simp
                intro T hT X
                have hval : ∀ i, i < n.toNatClampNeg → ∃ z : Int32, cs.slots.getD (sp.toNatClampNeg + i) .null = .int z := fun i hi => by
                  have hlt : sp.toNatClampNeg + i < fs.length := by omega
                  have hI := s5 rfl _ (List.getElem_mem hlt)
                  rw [s4]
                  generalize hv : fs[sp.toNatClampNeg + i] = v at hI
                  cases v with
                  | int z => exact ⟨z, by simp [Array.getD_eq_getD_getElem?, hlt, hv, am_rv]⟩
                  | _ => cases hI
                obtain ⟨vm', X', step⟩ := X.arraycopy hX.1 hown (am_word hZ hX.2.1 hl rfl args) (am_word hZ hX.2.1 am_cpyw.1 rfl args) (am_word hZ hX.2.1 am_cpyw.2.1 rfl args) (am_word hZ hX.2.1 am_cpyw.2.2 rfl args) (src := ad a) (dst := ad b) (cs := cs) (cd := cd) (srcPos := sp) (destPos := dp) (n := n) (by rw [hT]; exact s1) (by rw [hT]; exact d1)
                  s2a d2a s3 d3 s2b d2b s2c d2c rfl hsp hdp hn (by rw [am_nn hsp, am_nn hn, es]; omega) (by rw [am_nn hdp, am_nn hn, ed]; omega)
                  (fun vm₁ _ i hi => by
                    obtain ⟨z, hz⟩ := hval i hi
                    rw [hz]
                    exact ⟨rfl, trivial⟩)
                  (g := F0 m pc ls (.int n :: .int dp :: .ref (ad b) :: .int sp :: .ref (ad a) :: r.map (am_rv ad))) rfl hsize (rest := r.map (am_rv ad)) rfl hd h1 (by show 2 * 0 + _ + (5 + 2 + 11) ≤ _; rw [am_wt_eq]; omega)
                have hf := Cell.storeRun_facts cd dp.toNatClampNeg (cs.stretch sp.toNatClampNeg n.toNatClampNeg)
                have hlt : ad b < H.size := (Array.getElem?_eq_some_iff.mp d1).1
                have hheap : ((T.setVm vm').setCell (ad b) (copied cs cd sp dp n)).heap = H.setIfInBounds (ad b) (copied cs cd sp dp n) := by rw [← hT]; rfl
                have hlen : (gs.take dp.toNatClampNeg ++ (fs.drop sp.toNatClampNeg).take n.toNatClampNeg ++ gs.drop (dp.toNatClampNeg + n.toNatClampNeg)).length = gs.length := by simp; omega
                obtain ⟨t, a1, b1⟩ := kk (H.setIfInBounds (ad b) (copied cs cd sp dp n)) _ (hP.set hZ.2.2.2 hb2 (am_arr_cell (ty := .int) (cell := copied cs cd sp dp n) rfl (by simp [Array.getElem?_setIfInBounds, hlt])
                    ⟨fun k z => d2.1 k (by rw [← hf.2.1]; exact z), by rw [hf.1]; exact d2.2⟩ (by rw [hf.2.1]; exact d3) (am_copied s4 d4 g1 g2) (fun _ v hv => by
                      rcases List.mem_append.mp hv with hv | hv
                      · rcases List.mem_append.mp hv with hv | hv
                        · exact d5 rfl v (List.mem_of_mem_take hv)
                        · exact s5 rfl v (List.mem_of_mem_drop (List.mem_of_mem_take hv))
                      · exact d5 rfl v (List.mem_of_mem_drop hv))) (by simp) (fun q hq => by simp [Array.getElem?_setIfInBounds, Ne.symm hq]))
                  (fun q hq => by
                    rcases List.mem_append.mp hq with h9 | h9
                    · exact hlo q h9
                    · obtain ⟨z, -, hz⟩ := List.mem_map.mp h9
                      rw [← hz]
                      exact hZ.2.2.2.bs hb2) (by simp) (am_sz_set h b _ _ hb (by simp only [am_csz, am_aty]; exact hlen)) _ hheap X'
                exact ⟨t, step t a1, b1⟩
              · cases hcp
      · cases hcp
    · cases hcp
  · cases hcp
end AMO
end
section
/-! new int[n][k]; cells are only added; which exception is no other -/
theorem am_over {u U : State} (hvm : u.vm.Alike U.vm) {A A' : Array Value} (h : (Cond.arrayOver (.array .int)).before A u = true) : (Cond.arrayOver (.array .int)).before A' U = true := by
  simp only [Cond.before, Cond.holds, Cond.value, beq_iff_eq, Option.bind_eq_some_iff, Option.map_eq_some_iff] at h ⊢
  obtain ⟨comp, h1, c, h2, k, h3, h4⟩ := h
  obtain ⟨k', hk', he⟩ := hvm.2.2 _ _ h3
  have hkk : k'.kind = k.kind := by rw [he]
  refine ⟨comp, by rw [hvm.findClass]; exact h1, c, ?_, k', hk', ?_⟩
  · refine (va_idx_bare U.vm comp).symm.trans ?_
    first | rw [hvm.bare_eq] | rw [← hvm.bare_eq]
    exact (va_idx_bare u.vm comp).trans h2
  · rw [hkk]
    simp only [hvm.findClass]
    exact h4
section AMM
variable {p : Program} {l : Launch} {e : Env} {R : Room} {s : State} {m : MethodId} {args : Array Value} {below : List Frame} {meth : Method} {c : Code} {H : Heap} {locs : List Loc} {cells slots : Nat} {Q : State → Prop}
variable {S0 : State} {D : va_G} {base : Nat} {ad : Nat → Nat} {A0 : Array Value}
theorem am_P.pushes {h gs : am_H} {H1 : Heap} (hP : am_P S0 D base ad h H) (hA : am_ad base ad) (h2 : 2 ≤ h.length) (hx : ∀ (j : Nat) (x : am_C), gs[j]? = some x → am_cell S0 D ad (H.size + j) x H1) (hz : H1.size = H.size + gs.length) (hq : ∀ q, q < H.size → H1[q]? = H[q]?) : am_P S0 D base ad (h ++ gs) H1 := by
  have hb : base ≤ H.size := by have := hP.1; omega
  refine ⟨by rw [hz, List.length_append]; have := hP.1; omega, fun j y hj => ?_, fun a ha => (hq a (Nat.lt_of_lt_of_le ha hb)).trans (hP.2.2 a ha)⟩
  by_cases e : j < h.length
  · rw [List.getElem?_append_left e] at hj
    refine (hP.2.1 j y hj).kept (hq _ ?_)
    by_cases hj2 : 2 ≤ j
    · rw [hA.ge hj2]
      have := hP.1
      omega
    · exact Nat.lt_of_lt_of_le (hA.lt hj2) hb
  · rw [List.getElem?_append_right (by omega)] at hj
    have := hx _ _ hj
    rw [hA.ge (show 2 ≤ j by omega)]
    have e2 : base + (j - 2) = H.size + (j - h.length) := by have := hP.1; omega
    rw [e2]
    exact this
theorem am_maw : Cond.arrayOver (.array .int) ∈ am_tbl ∧ Cond.arrayClass .int ∈ am_tbl := ⟨by decide +kernel, by decide +kernel⟩
theorem am_outer {cA : ClassId} {N : Nat} {a0 : Nat} (hA : am_ad base ad) {h0 : Nat} (h2 : 2 ≤ h0) (hh : ad h0 = a0) : ∀ i : Nat, i ≤ N → (Jvm.Free.Multi.outerC cA N a0 i).slots = (((List.range N).map (fun j => if j < i then Value.ref (h0 + 1 + j) else Value.null)).map (am_rv ad)).toArray
  | 0, _ => by
    show Array.replicate N Value.null = _
    apply Array.ext'
    simp [am_rv, List.map_const']
  | i + 1, hi => by
    show ((Jvm.Free.Multi.outerC cA N a0 i).setSlot i (.ref (a0 + 1 + i))).slots = _
    have ih := am_outer (cA := cA) (N := N) hA h2 hh i (by omega)
    have hr : (.ref (a0 + 1 + i) : Value) = am_rv ad (.ref (h0 + 1 + i)) := by
      have e1 := hA.ge h2
      have e2 := hA.ge (show 2 ≤ h0 + 1 + i by omega)
      have e3 : a0 + 1 + i = ad (h0 + 1 + i) := by rw [e2, ← hh, e1]; omega
      show Value.ref _ = Value.ref _
      rw [e3]
    rw [hr, am_arr_set ih]
    congr 2
    apply List.ext_getElem?
    intro j
    rw [List.getElem?_set]
    simp only [List.getElem?_map, List.length_map, List.length_range]
    by_cases hj : j < N
    · rw [List.getElem?_range hj]
      by_cases e : i = j
      · subst e
        simp [hj]
      · by_cases e2 : j < i
        · simp [e, e2, Nat.lt_succ_of_lt e2]
        · simp [e, e2, show ¬ j < i + 1 by omega]
    · have hn : (List.range N)[j]? = none := List.getElem?_eq_none (by rw [List.length_range]; omega)
      simp [hn, show ¬ i = j by omega]
theorem am_k_multi (hF : ∀ oc x : Nat, am_ma oc x = true → Cond.classLink (am_on oc) x "[[I" ∈ am_tbl) (x dm : Nat) : am_St p l e R s m args below meth c H locs cells slots Q S0 D base ad A0 (.multianewarray x dm) := by
  intro nL mid pc len L st h pc' L' st' h' ls hX hZ hd hn hs hl hP h2 hlo hc hz kk
  obtain rfl : len = 4 := Nat.eq_of_beq_eq_true hn
  simp only [am_step] at hs
  split at hs
  · rename_i k n r
    split at hs
    · rename_i hq
      simp only [Bool.and_eq_true] at hq
      obtain rfl := Nat.eq_of_beq_eq_true hq.1
      split at hs
      · cases hs
      · rename_i hn0
        split at hs
        · cases hs
        · rename_i hk0
          split at hs
          · rename_i hb
            simp only [Bool.and_eq_true] at hb
            have hb1 : n.toNatClampNeg ≤ 1000 := Nat.le_of_ble_eq_true hb.1
            have hb2 : k.toNatClampNeg ≤ 1000 := Nat.le_of_ble_eq_true hb.2
            cases hs
            generalize hgs : ((35, (List.range n.toNatClampNeg).map (fun i => Value.ref (h.length + 1 + i))) :: List.replicate n.toNatClampNeg (32, List.replicate k.toNatClampNeg (.int 0)) : am_H) = gs at *
            have hgl : gs.length = 1 + n.toNatClampNeg := by rw [← hgs]; simp; omega
            have hrep : ∀ z : Nat, am_sz (List.replicate z (32, List.replicate k.toNatClampNeg (.int 0))) = z * k.toNatClampNeg := fun z => by
              induction z with
              | zero => simp [am_sz]
              | succ z ih => simp only [List.replicate_succ, am_sz, ih, am_csz, am_aty, List.length_replicate]; rw [Nat.succ_mul]; omega
            have hgz : am_sz gs = n.toNatClampNeg + n.toNatClampNeg * k.toNatClampNeg := by
              rw [← hgs]
              simp only [am_sz, hrep, am_csz, am_aty, List.length_map, List.length_range]
            rw [List.length_append, hgl] at hc
            rw [am_sz_app, hgz] at hz
            have hown := findClass_of_methodNamed hX.2.2.1
            rw [hX.2.2.2.2.2.2.2.2.1] at hown
            intro T hT X
            obtain ⟨vm₁, cA, comp, -, fA, fC, hO, hI, X', step⟩ := X.multianewarray2F hX.1 hown (ty := .int) (am_word hZ hX.2.1 (hF _ _ hq.2) rfl args) (am_over hX.2.1.alike (hZ.1 _ am_maw.1)) (am_word hZ hX.2.1 am_maw.2 rfl args) (g := F0 m pc ls (.int k :: .int n :: r.map (am_rv ad))) rfl hd rfl hn0 hk0 (by omega) (by show k.toNatClampNeg * 4 ≤ _; omega) (by omega) rfl rfl (by omega) (by omega)
            have hTh : (T.setVm vm₁).heap = H := hT
            obtain ⟨f1, f2, -, -⟩ := Jvm.Free.Multi.fill_facts (T.setVm vm₁) cA comp n.toNatClampNeg k.toNatClampNeg (defaultValue .int) n.toNatClampNeg
            rw [hTh] at f1 f2
            have hnew := hP.new hZ.2.2.2 h2
            have hPF : am_P S0 D base ad (h ++ gs) (Jvm.Free.Multi.fill (T.setVm vm₁) cA comp n.toNatClampNeg k.toNatClampNeg (defaultValue .int) n.toNatClampNeg).heap := by
              refine hP.pushes hZ.2.2.2 h2 (fun j y hj => ?_) (by rw [f1, hgl]; omega) (fun q hq => by
                have := Jvm.Free.Multi.fill_old (T.setVm vm₁) cA comp n.toNatClampNeg k.toNatClampNeg (defaultValue .int) (a := q) (by rw [hTh]; exact hq) n.toNatClampNeg
                rw [hTh] at this
                exact this)
              rw [← hgs] at hj
              cases j with
              | zero =>
                rw [List.getElem?_cons_zero] at hj
                cases hj
                refine am_arr_cell (ty := .array .int) rfl f2 (State.isArrayOf_alike hX.2.1.alike.symm (hO _ _ _).1) (hO _ _ _).2 ?_ (fun z => by cases z)
                rw [am_outer hZ.2.2.2 h2 hnew n.toNatClampNeg (Nat.le_refl _)]
                congr 2
                apply List.map_congr_left
                intro j hj
                rw [if_pos (List.mem_range.mp hj)]
              | succ j =>
                rw [List.getElem?_cons_succ] at hj
                have hjl : j < n.toNatClampNeg := by have := (List.getElem?_eq_some_iff.mp hj).1; simpa using this
                have hy := List.mem_of_getElem? hj
                rw [List.mem_replicate] at hy
                obtain rfl := hy.2
                have hin := Jvm.Free.Multi.fill_inner (T.setVm vm₁) cA comp n.toNatClampNeg k.toNatClampNeg (defaultValue .int) n.toNatClampNeg j hjl
                rw [hTh] at hin
                rw [show H.size + (j + 1) = H.size + 1 + j by omega]
                exact am_arr_cell (ty := .int) rfl hin (State.isArrayOf_alike hX.2.1.alike.symm (hI _ _).1) (hI _ _).2 (am_rep rfl _) (fun _ v hv => by rw [List.mem_replicate] at hv; rw [hv.2]; rfl)
            have kk2 := kk _ locs (cells + 1 + n.toNatClampNeg) (slots + n.toNatClampNeg + n.toNatClampNeg * k.toNatClampNeg) ls hl hPF (by simp) hlo (by rw [List.length_append, hgl]; omega) (by rw [am_sz_app, hgz]; omega)
            obtain ⟨t, a1, b1⟩ := kk2 _ rfl X'
            refine ⟨t, step t ?_, b1⟩
            rw [List.map_cons, show am_rv ad (.ref h.length) = .ref T.heap.size by simp only [am_rv, hnew, hT]] at a1
            exact a1
          · cases hs
    · cases hs
  · cases hs
end AMM
end
section
/-! THE ABSTRACT MACHINE IS SOUND -/
def am_ck (oc x k : Nat) : Prop :=
  (Cond.methodLink (am_on oc) x (am_y k) ∈ am_tbl ∨ ∃ host, Cond.methodLinkNest (am_on oc) x (am_y k) host ∈ am_tbl) ∧ am_na k ≤ am_ml k ∧ ∃ np : Nat, (parseMethodDescriptor (am_y k).desc).map (fun d => d.parameters.length) = some np ∧
    ((am_kd k = 2 ∧ Cond.static (am_y k) ∈ am_tbl ∧ am_na k = np) ∨ (am_kd k = 1 ∧ (am_y k).name = "<init>" ∧ Cond.code (am_y k) (am_b k) (am_ml k) none ∈ am_tbl ∧ Cond.instanceMethod (am_y k) ∈ am_tbl ∧ am_na k = np + 1) ∨
      (am_kd k = 0 ∧ Cond.instanceMethod (am_y k) ∈ am_tbl ∧ Cond.selects (am_y k).cls (am_y k) (am_y k) ∈ am_tbl ∧ am_na k = np + 1 ∧ am_aty (am_oc k) = none ∧ ∃ r : vw_C, am_cl[am_oc k]? = some r ∧ r.1 = (am_y k).cls))
/-- what the tables hold, all told -/
def am_Fc : Prop :=
  (∀ (mid pc : Nat) (i : Jvm.ClassFile.Instr), am_code mid pc = some i → ∃ len, decode (am_b mid) pc = .ok (i, len) ∧ am_lenok pc i len = true) ∧
  (∀ oc x ci k : Nat, am_pf oc x = some (ci, k) → am_fok oc x ci k) ∧ (∀ mid ci k : Nat, am_fnok mid ci k) ∧ (∀ oc x ci : Nat, am_pc oc x = some ci → am_nok oc x ci) ∧ (∀ oc x : Nat, am_ma oc x = true → Cond.classLink (am_on oc) x "[[I" ∈ am_tbl) ∧
  (∀ oc x q k : Nat, am_pm oc x = some (q, k) → (q = 0 → am_mok k ∧ am_ck oc x k) ∧ (q = 1 → Cond.methodLink (am_on oc) x objectInit ∈ am_tbl) ∧ (q = 2 → Cond.methodLink (am_on oc) x arraycopyName ∈ am_tbl)) ∧
  (∀ mid pc x X it ic : Nat, am_code mid pc = some (.new x) → am_pe (am_oc mid) x = some X → am_code mid (pc + 4) = some (.ldc it) → am_code mid (pc + 6) = some (.invokespecial ic) → ∃ (Xn tx : String), am_tok (am_y mid).cls Xn x ic it tx ∧ (∃ r : vw_C, am_cl[X]? = some r ∧ r.1 = Xn ∧ r.2.2 = 0) ∧ am_aty X = none ∧ am_ns X = 6) ∧
  (∀ X Y : Nat, 10 ≤ X → X < 14 → 10 ≤ Y → Y < 14 → X ≠ Y → ∀ rX rY : vw_C, am_cl[X]? = some rX → am_cl[Y]? = some rY → Cond.not (.castable rX.1 rY.1) ∈ am_tbl) ∧
  (∀ X : Nat, 10 ≤ X → X < 14 → ∀ rX : vw_C, am_cl[X]? = some rX → Cond.castable rX.1 rX.1 ∈ am_tbl ∧ rX.2.2 = 0 ∧ am_aty X = none)
theorem am_step_gr {mid pc : Nat} {L st : List Value} {h : am_H} {i : Jvm.ClassFile.Instr} {pc' : Nat} {L' st' : List Value} {h' : am_H} (hs : am_step mid pc L st h i = some (pc', L', st', h')) : h.length ≤ h'.length ∧ am_sz h ≤ am_sz h' := by
  unfold am_step at hs
  split at hs
  all_goals (try simp only [am_ald, am_ast] at hs)
  all_goals (repeat' (split at hs))
  all_goals first
    | (cases hs; exact ⟨Nat.le_refl _, Nat.le_refl _⟩)
    | (cases hs; done)
    | (cases hs; exact ⟨by simp, by rw [am_sz_app]; omega⟩)
    | (rename_i ha _ _ _; cases hs; exact ⟨by simp, Nat.le_of_eq (am_sz_set _ _ _ _ ha (by simp [am_csz])).symm⟩)
    | (rename_i ha _; cases hs; exact ⟨by simp, Nat.le_of_eq (am_sz_set _ _ _ _ ha (by simp [am_csz])).symm⟩)
    | skip
end
section
/-! cells are only added; handlers; the theorem -/
theorem am_copy_gr {h h' : am_H} {n dp sp : Int32} {a b : Nat} (hc : am_copy h n dp b sp a = some h') : h.length ≤ h'.length ∧ am_sz h ≤ am_sz h' := by
  unfold am_copy at hc
  split at hc
  · split at hc
    · rename_i tg2 gs hb
      split at hc
      · rename_i hq
        split at hc
        · cases hc
        · split at hc
          · cases hc
          · split at hc
            · cases hc
            · split at hc
              · rename_i hr
                cases hc
                simp only [Bool.and_eq_true] at hr hq
                have g1 := Nat.le_of_ble_eq_true hr.1
                have g2 := Nat.le_of_ble_eq_true hr.2
                obtain rfl := Nat.eq_of_beq_eq_true hq.2.1
                exact ⟨by simp, Nat.le_of_eq (am_sz_set _ _ _ _ hb (by simp [am_csz, am_aty]; omega)).symm⟩
              · cases hc
      · cases hc
    · cases hc
  · cases hc
theorem am_back_gr {rec : am_R} (IH : am_gr rec) {d : Nat × Nat} {mid pc : Nat} {L r : List Value} {o1 o : am_O} {h1 h' : am_H} (hb : am_back rec d mid pc L r (some (o1, h1)) = some (o, h')) : h1.length ≤ h'.length ∧ am_sz h1 ≤ am_sz h' := by
  cases o1 with
  | inl v => exact IH _ _ _ _ _ _ _ _ hb
  | inr X =>
    simp only [am_back] at hb
    split at hb
    · exact IH _ _ _ _ _ _ _ _ hb
    · split at hb
      · cases hb
      · cases hb
        exact ⟨Nat.le_refl _, Nat.le_refl _⟩
theorem am_call_gr {rec : am_R} (IH : am_gr rec) {kd : Nat} {d : Nat × Nat} {mid pc : Nat} {L st : List Value} {h : am_H} {x : Option (Nat × Nat)} {o : am_O} {h' : am_H} (hc : am_call rec kd d mid pc L st h x = some (o, h')) : h.length ≤ h'.length ∧ am_sz h ≤ am_sz h' := by
  match x, hc with
  | none, hc => cases hc
  | some (0, k), hc =>
    simp only [am_call] at hc
    split at hc
    · cases hz : rec (d.1 - 1, d.2 - (am_wt (st.drop (am_na k)) + (am_ml k + 11))) k 0 ((st.take (am_na k)).reverse ++ List.replicate (am_ml k - am_na k) (.retAddr 0)) [] h with
      | none => rw [hz] at hc; cases hc
      | some z =>
        obtain ⟨o1, h1⟩ := z
        rw [hz] at hc
        have g1 := IH _ _ _ _ _ _ _ _ hz
        have g2 := am_back_gr IH hc
        omega
    · cases hc
  | some (1, k), hc =>
    simp only [am_call] at hc
    split at hc
    · split at hc
      · exact IH _ _ _ _ _ _ _ _ hc
      · cases hc
    · cases hc
  | some (2, k), hc =>
    simp only [am_call] at hc
    split at hc
    · split at hc
      · split at hc
        · rename_i hz
          have g1 := am_copy_gr hz
          have g2 := IH _ _ _ _ _ _ _ _ hc
          omega
        · cases hc
      · cases hc
    · cases hc
  | some (n + 3, k), hc => cases hc
theorem am_gr_run : ∀ n : Nat, am_gr (am_run n)
  | 0 => fun _ _ _ _ _ _ _ _ h => by cases h
  | n + 1 => fun d mid pc L st h o h' hr => by
    have IH := am_gr_run n
    have hr : am_body (am_run n) d mid pc L st h = some (o, h') := hr
    unfold am_body at hr
    split at hr
    · cases hr
    · rename_i i hi
      split at hr
      · rename_i pc1 L1 st1 h1 hs
        have g1 := am_step_gr hs
        have g2 := IH _ _ _ _ _ _ _ _ hr
        omega
      · unfold am_ctl at hr
        split at hr
        · split at hr
          · split at hr
            · cases hr; exact ⟨Nat.le_refl _, Nat.le_refl _⟩
            · cases hr
          · cases hr
        · split at hr
          · split at hr
            · cases hr; exact ⟨Nat.le_refl _, Nat.le_refl _⟩
            · cases hr
          · cases hr
        · split at hr
          · split at hr
            · cases hr; exact ⟨Nat.le_refl _, Nat.le_refl _⟩
            · cases hr
          · cases hr
        · exact am_call_gr IH hr
        · exact am_call_gr IH hr
        · exact am_call_gr IH hr
        · split at hr
          · split at hr
            · cases hr
              exact ⟨by simp, by rw [am_sz_app]; omega⟩
            · cases hr
          · cases hr
        · cases hr
/-! handlers -/
theorem am_hcov {own : String} {pc : Nat} : ∀ (hs : List (Nat × Nat × Nat × Nat)) (es : List ExceptionTableEntry), am_hrel own hs (es.map (fun h => (h.startPc, h.endPc, h.handlerPc, h.catchType))) → am_cov hs pc = false → ∀ x ∈ es, covers x pc = false
  | [], [], _, _, x, hx => by cases hx
  | [], _ :: _, h, _, _, _ => h.elim
  | _ :: _, [], h, _, _, _ => h.elim
  | (a, b, q, X) :: r, y :: ys, h, hc, x, hx => by
    obtain ⟨⟨h1, h2, -⟩, h3⟩ := h
    simp only at h1 h2
    simp only [am_cov, Bool.or_eq_false_iff] at hc
    rcases List.mem_cons.mp hx with rfl | hx
    · subst h1 h2
      show (decide (_ ≤ pc) && decide (pc < _)) = false
      have := hc.1
      simp only [Nat.ble_eq, Nat.blt_eq, ← Bool.not_eq_true, Bool.and_eq_true, decide_eq_true_eq] at this ⊢
      exact this
    · exact am_hcov r ys h3 hc.2 x hx
section AMY
variable {p : Program} {l : Launch} {e : Env} {R : Room} {s : State} {m : MethodId} {args : Array Value} {below : List Frame} {meth : Method} {c : Code} {H : Heap} {locs : List Loc} {cells slots : Nat} {Q : State → Prop}
variable {S0 : State} {D : va_G} {base : Nat} {ad : Nat → Nat} {A0 : Array Value}
theorem am_hfind (F : am_Fc) (hZ : am_Z S0 D base ad A0) (hW : S0.WarmedH s.vm) {own : String} {d : ClassId} (hown : s.vm.findClass own = some d) {pl : Platform} (hpl : pl.magicAccessors = ({} : Platform).magicAccessors) {pc X q : Nat} :
    ∀ (hs : List (Nat × Nat × Nat × Nat)) (es : List ExceptionTableEntry), am_hrel own hs (es.map (fun h => (h.startPc, h.endPc, h.handlerPc, h.catchType))) → am_hdl hs pc X = some q → (10 ≤ X ∧ X < 14) ∧ am_sc s pl d pc (D.1 X) es q
  | [], _, _, h2 => by cases h2
  | _ :: _, [], h, _ => h.elim
  | (a, b, q1, Y) :: r, y :: ys, h, h2 => by
    obtain ⟨⟨h1, h3, h4, h5, h6, u, h7, h8⟩, h9⟩ := h
    simp only at h1 h3 h4 h5 h6 h7 h8
    subst h1 h3 h4
    obtain ⟨c', hc', hcl⟩ := Cond.classLink_spec hown (am_word hZ hW h8 rfl #[]) pl hpl
    have hK := (hZ.2.1.1 Y u h7).2.1
    have hcY : c' = D.1 Y := by
      rw [hW.alike.findClass] at hc'
      exact Option.some.inj (hc'.symm.trans hK)
    subst hcY
    simp only [am_hdl] at h2
    by_cases hcv : covers y pc = true
    · have hcv2 : (Nat.ble y.startPc pc && Nat.blt pc y.endPc) = true := by
        simp only [covers, Bool.and_eq_true, decide_eq_true_eq] at hcv
        simp only [Nat.ble_eq, Nat.blt_eq, Bool.and_eq_true]
        exact hcv
      simp only [Bool.and_eq_true] at hcv2
      by_cases hYX : Y = X
      · subst hYX
        rw [if_pos (by simp only [Bool.and_eq_true]; exact ⟨hcv2.1, hcv2.2, Nat.beq_refl Y⟩)] at h2
        cases h2
        refine ⟨h6, Or.inr ⟨hcv, h5, _, hcl, Or.inl ⟨?_, rfl⟩⟩⟩
        obtain ⟨k1, -, -⟩ := F.2.2.2.2.2.2.2.2 Y h6.1 h6.2 u h7
        obtain ⟨c3, c4, hc3, hc4, hasg⟩ := Cond.castable_spec (hZ.1 _ k1)
        rw [hW.alike.assignable]
        cases Option.some.inj (hc3.symm.trans hK)
        cases Option.some.inj (hc4.symm.trans hK)
        exact hasg
      · rw [if_neg (by simp only [Bool.and_eq_true]; rintro ⟨-, -, z⟩; exact hYX (Nat.eq_of_beq_eq_true z))] at h2
        obtain ⟨hX, hsc⟩ := am_hfind F hZ hW hown hpl r ys h9 h2
        refine ⟨hX, Or.inr ⟨hcv, h5, _, hcl, Or.inr ⟨?_, hsc⟩⟩⟩
        have hlt : X < am_cl.length := Nat.lt_of_lt_of_le hX.2 (by decide)
        have hKX := (hZ.2.1.1 X _ (List.getElem?_eq_getElem hlt)).2.1
        have hno := hZ.1 _ (F.2.2.2.2.2.2.2.1 X Y hX.1 hX.2 h6.1 h6.2 (fun z => hYX z.symm) _ _ (List.getElem?_eq_getElem hlt) h7)
        have hv := Cond.holds_not_iff.mp hno
        simp only [Cond.value, hKX, hK] at hv
        rw [hW.alike.assignable]
        exact Option.some.inj hv
    · have hcf : covers y pc = false := by simpa using hcv
      rw [if_neg (by
        simp only [Bool.and_eq_true]
        rintro ⟨z1, z2, -⟩
        apply hcv
        simp only [covers, Bool.and_eq_true, decide_eq_true_eq]
        exact ⟨Nat.le_of_ble_eq_true z1, Nat.le_of_ble_eq_true z2⟩)] at h2
      obtain ⟨hX, hsc⟩ := am_hfind F hZ hW hown hpl r ys h9 h2
      exact ⟨hX, Or.inl ⟨hcf, hsc⟩⟩
end AMY
end
section
/-! THE THEOREM: every run of the abstract machine is a walk of the machine -/
section AMZ
variable {p : Program} {l : Launch} {e : Env} {R : Room} {s : State} {m : MethodId} {args : Array Value} {below : List Frame} {meth : Method} {c : Code} {H : Heap} {locs : List Loc} {cells slots : Nat} {Q : State → Prop}
variable {S0 : State} {D : va_G} {base : Nat} {ad : Nat → Nat} {A0 : Array Value}
theorem am_disp (F : am_Fc) (hx : p.tables.exec = Jvm.exec) (i : Jvm.ClassFile.Instr) : am_St p l e R s m args below meth c H locs cells slots Q S0 D base ad A0 i := by
  cases i
  case iconst n => exact am_St.pure (am_k_iconst hx n)
  case bipush n => exact am_St.pure (am_k_bipush hx n)
  case sipush n => exact am_St.pure (am_k_sipush hx n)
  case lconst n => exact am_St.pure (am_k_lconst hx n)
  case iload_n k => exact am_St.pure (am_k_iload_n hx k)
  case iload k => exact am_St.pure (am_k_iload hx k)
  case aload_n k => exact am_St.pure (am_k_aload_n hx k)
  case aload k => exact am_St.pure (am_k_aload hx k)
  case istore_n k => exact am_St.pure (am_k_istore_n hx k)
  case istore k => exact am_St.pure (am_k_istore hx k)
  case astore_n k => exact am_St.pure (am_k_astore_n hx k)
  case astore k => exact am_St.pure (am_k_astore hx k)
  case iinc k n => exact am_St.pure (am_k_iinc hx k n)
  case iadd => exact am_St.pure (am_k_iadd hx)
  case isub => exact am_St.pure (am_k_isub hx)
  case imul => exact am_St.pure (am_k_imul hx)
  case iand => exact am_St.pure (am_k_iand hx)
  case idiv => exact am_St.pure (am_k_idiv hx)
  case i2l => exact am_St.pure (am_k_i2l hx)
  case lcmp => exact am_St.pure (am_k_lcmp hx)
  case dup => exact am_St.pure (am_k_dup hx)
  case pop => exact am_St.pure (am_k_pop hx)
  case dup_x1 => exact am_St.pure (am_k_dup_x1 hx)
  case dup_x2 => exact am_St.pure (am_k_dup_x2 hx)
  case dup2 => exact am_St.pure (am_k_dup2 hx)
  case goto o => exact am_St.pure (am_k_goto hx o)
  case ifCond b o => exact am_St.pure (am_k_ifCond hx b o)
  case if_icmp b o => exact am_St.pure (am_k_if_icmp hx b o)
  case tableswitch d lo hi os => exact am_St.pure (am_k_tableswitch hx d lo hi os)
  case lookupswitch d ps => exact am_St.pure (am_k_lookupswitch hx d ps)
  case iaload => exact am_k_iaload
  case baload => exact am_k_baload
  case laload => exact am_k_laload
  case aaload => exact am_k_aaload
  case iastore => exact am_k_iastore
  case bastore => exact am_k_bastore
  case lastore => exact am_k_lastore
  case arraylength => exact am_k_arraylength
  case newarray t => exact am_k_newarray t
  case getfield x => exact am_k_getfield F.2.1 x
  case putfield x => exact am_k_putfield F.2.1 F.2.2.1 x
  case new x => exact am_k_new F.2.2.2.1 x
  case multianewarray x d => exact am_k_multi F.2.2.2.2.1 x d
  all_goals
    intro nL mid pc len L st h pc' L' st' h' ls hX hZ hd hn hs hl hP h2 hlo hc hz kk
    simp [am_step, am_ps] at hs
theorem am_kns_app : ∀ (a b : List Value), am_kns (a ++ b) = (am_kns a && am_kns b)
  | [], b => by simp [am_kns]
  | v :: a, b => by simp [am_kns, am_kns_app a b, Bool.and_assoc]
theorem am_kns_rev : ∀ a : List Value, am_kns a = true → am_kns a.reverse = true
  | [], _ => rfl
  | v :: a, h => by
    simp only [am_kns, Bool.and_eq_true] at h
    rw [List.reverse_cons, am_kns_app, am_kns_rev a h.2]
    simp [am_kns, h.1]
theorem am_rcv_inv {k : Nat} {as : List Value} {h : am_H} (hk : am_kd k ≠ 2) (h1 : am_rcv k as h = true) : ∃ (a : Nat) (as' fs : List Value), as = .ref a :: as' ∧ h[a]? = some (am_oc k, fs) := by
  unfold am_rcv at h1
  split at h1
  · rename_i e
    exact absurd e hk
  · split at h1
    · rename_i a as'
      split at h1
      · rename_i tg fs ha
        obtain rfl := Nat.eq_of_beq_eq_true h1
        exact ⟨a, _, fs, rfl, ha⟩
      · cases h1
    · cases h1
theorem am_callS (F : am_Fc) (hZ : am_Z S0 D base ad A0) {rec : am_R} (IH : am_So p l e S0 D base ad rec) (G : am_gr rec) {mid : Nat} (hX : am_X p S0 s m meth c mid) (hmok : am_mok mid) {kd x pc : Nat} {i : Jvm.ClassFile.Instr} (hd : decode c.code pc = .ok (i, 3)) (hik : (kd = 0 ∧ i = .invokevirtual x) ∨ (kd = 1 ∧ i = .invokespecial x) ∨ (kd = 2 ∧ i = .invokestatic x))
    {d : Nat × Nat} {L st : List Value} {h h' : am_H} {o : am_O} (hr : am_call rec kd d mid pc L st h (am_pm (am_oc mid) x) = some (o, h')) (hR : d.1 ≤ R.frames ∧ d.2 ≤ R.locals) {ls : Array Slot} (hl : am_L ad L (am_ml mid) ls) (hP : am_P S0 D base ad h H) (h2 : 2 ≤ h.length) (hlo : ∀ q ∈ locs, base ≤ q.base)
    (hc : cells + h'.length ≤ R.cells + h.length) (hz : slots + am_sz h' ≤ R.slots + am_sz h) :
    W p l e R s m args below meth c H locs cells slots (am_Q S0 D base ad below s o h' (cells + (h'.length - h.length)) (slots + (am_sz h' - am_sz h))) (F0 m pc ls (st.map (am_rv ad))) := by
  have hsize : ls.size = c.maxLocals := by
    obtain ⟨-, lv, h1, -⟩ := hl
    rw [h1.1]; exact hX.2.2.2.2.1.symm
  have hcn := hX.2.2.2.2.2.2.2.2.1
  have hown := findClass_of_methodNamed hX.2.2.1
  cases hq : am_pm (am_oc mid) x with
  | none => rw [hq] at hr; cases hr
  | some qk =>
    obtain ⟨q, k⟩ := qk
    rw [hq] at hr
    obtain ⟨f0, f1, f2⟩ := F.2.2.2.2.2.1 _ _ _ _ hq
    revert hr f0 f1 f2
    match q with
    | 0 =>
      intro hr f0 f1 f2
      obtain ⟨hk, hlk, hml, np, hnp, hkind⟩ := f0 rfl
      simp only [am_call] at hr
      split at hr
      · rename_i hcd
        simp only [Bool.and_eq_true] at hcd
        obtain ⟨c1, c2, c3, c4, c5, c6⟩ := hcd
        have c1 := Nat.eq_of_beq_eq_true c1
        have c2 : am_na k ≤ st.length := Nat.le_of_ble_eq_true c2
        have c3 : 1 ≤ d.1 := Nat.le_of_ble_eq_true c3
        have c4 : am_wt (st.drop (am_na k)) + (am_ml k + 11) ≤ d.2 := Nat.le_of_ble_eq_true c4
        have hst : st = ((st.take (am_na k)).reverse).reverse ++ st.drop (am_na k) := by rw [List.reverse_reverse, List.take_append_drop]
        have hkr : am_kns (st.take (am_na k)).reverse = true := am_kns_rev _ c5
        have hal : ((st.take (am_na k)).reverse).length = am_na k := by simp; omega
        generalize (st.take (am_na k)).reverse = as at *
        generalize st.drop (am_na k) = r at *
        subst hst
        cases hz1 : rec (d.1 - 1, d.2 - (am_wt r + (am_ml k + 11))) k 0 (as ++ List.replicate (am_ml k - am_na k) (.retAddr 0)) [] h with
        | none => rw [hz1] at hr; cases hr
        | some z =>
          obtain ⟨o1, h1⟩ := z
          rw [hz1] at hr
          have g1 := G _ _ _ _ _ _ _ _ hz1
          have g2 := am_back_gr G hr
          have hlok : am_lok mid x k := by unfold am_lok; rw [hcn]; exact hlk
          have hent : am_Ent p l e R s m args below meth c H locs cells slots k pc ls (as.map (am_rv ad)) (r.map (am_rv ad)) := by
            rcases hkind with ⟨e1, e2, e3⟩ | ⟨e1, e2, e3, e4, e5⟩ | ⟨e1, e2, e3, e4, e5, u, e6, e7⟩
            · rcases hik with ⟨i1, i2⟩ | ⟨i1, i2⟩ | ⟨i1, i2⟩
              · omega
              · omega
              · subst i2
                exact am_entS (as := as.map (am_rv ad)) (rest := r.map (am_rv ad)) (k := k) (x := x) (n := np) hZ hX hk e2 hlok hnp (by rw [List.length_map, hal, e3]) hd
            · rcases hik with ⟨i1, i2⟩ | ⟨i1, i2⟩ | ⟨i1, i2⟩
              · omega
              · subst i2
                obtain ⟨a, as', fs, rfl, ha⟩ := am_rcv_inv (by rw [e1]; decide) c6
                simp only [List.length_cons] at hal
                rw [List.map_cons]
                have hlen : (as'.map (am_rv ad)).length = np := by rw [List.length_map]; omega
                exact am_entI (a := ad a) (as := as'.map (am_rv ad)) (rest := r.map (am_rv ad)) (k := k) (x := x) (n := np) hZ hX hk e3 e2 e4 hlok hnp hlen hd
              · omega
            · rcases hik with ⟨i1, i2⟩ | ⟨i1, i2⟩ | ⟨i1, i2⟩
              · subst i2
                obtain ⟨a, as', fs, rfl, ha⟩ := am_rcv_inv (by rw [e1]; decide) c6
                have hcell := hP.2.1 a _ ha
                unfold am_cell at hcell
                rw [e5] at hcell
                obtain ⟨r1, r2, r3, cell, q1, q2, q3, q4⟩ := hcell
                cases Option.some.inj (r2.symm.trans e6)
                have hKc := (va_K.moved hX.2.1.alike hZ.2.1).1 _ _ e6
                simp only [List.length_cons] at hal
                rw [List.map_cons]
                have hlen : (as'.map (am_rv ad)).length = np := by rw [List.length_map]; omega
                have hcls : s.vm.findClass (am_y k).cls = some cell.cls := by rw [q2, ← e7]; exact hKc.2.1
                exact am_entV (a := ad a) (as := as'.map (am_rv ad)) (rest := r.map (am_rv ad)) (k := k) (x := x) (n := np) (cell := cell) hZ hX hk e2 e3 hlok hnp hlen q1 q3 hcls hd
              · omega
              · omega
          rw [List.map_append, List.map_reverse]
          rw [← hal] at hz1
          refine am_callW hZ IH hX hk hent hkr (by rw [hal]; exact hml) hsize hR c3 c4 hd hz1 g1.1 g1.2 (by omega) (by omega) hP h2 hlo ?_ ?_
          · rintro v rfl H1 locs1 hP1 hlo1
            have hr' : rec d mid (pc + 3) L (v.toList ++ r) h1 = some (o, h') := hr
            have hI := IH _ _ _ _ _ _ _ _ hr' R s m args below meth c H1 locs1 (cells + (h1.length - h.length)) (slots + (am_sz h1 - am_sz h)) ls hX hmok hR hl hP1 (by omega) hlo1 (by omega) (by omega)
            rw [show cells + (h'.length - h.length) = cells + (h1.length - h.length) + (h'.length - h1.length) by omega, show slots + (am_sz h' - am_sz h) = slots + (am_sz h1 - am_sz h) + (am_sz h' - am_sz h1) by omega]
            rw [List.map_append] at hI
            cases v <;> exact hI
          · rintro Xc rfl hlast T1 locs1 X1 hP1 hlo1
            have hpl : e.platform.magicAccessors = ({} : Platform).magicAccessors := by rw [X1.admits.platform]
            simp only [am_back] at hr
            split at hr
            · rename_i q hq1
              obtain ⟨hXr, hsc⟩ := am_hfind F hZ hX.2.1 hown hpl (am_hs mid) c.exceptionTable.toList hX.2.2.2.2.2.2.2.2.2 hq1
              have hlt : Xc < am_cl.length := Nat.lt_of_lt_of_le hXr.2 (by decide)
              obtain ⟨-, -, hat⟩ := F.2.2.2.2.2.2.2.2 Xc hXr.1 hXr.2 _ (List.getElem?_eq_getElem hlt)
              have hcell := hP1.2.1 _ _ hlast
              unfold am_cell at hcell
              rw [hat] at hcell
              obtain ⟨r1, r2, r3, cell, q1, q2, q3, q4⟩ := hcell
              have hKc := (va_K.moved hX.2.1.alike hZ.2.1).1 _ _ r2
              obtain ⟨-, kC, hkC, -⟩ := hKc.2
              rw [← q2] at hsc hkC
              obtain ⟨vm', X2, step⟩ := am_caught X1 (g := F0 m pc ls (r.map (am_rv ad))) rfl q1 (fun k z => by rw [q3] at z; cases z) ⟨kC, hkC⟩ hsc
              have hI := IH _ _ _ _ _ _ _ _ hr R s m args below meth c T1.heap locs1 (cells + (h1.length - h.length)) (slots + (am_sz h1 - am_sz h)) ls hX hmok hR hl hP1 (by omega) hlo1 (by omega) (by omega)
              rw [show cells + (h'.length - h.length) = cells + (h1.length - h.length) + (h'.length - h1.length) by omega, show slots + (am_sz h' - am_sz h) = slots + (am_sz h1 - am_sz h) + (am_sz h' - am_sz h1) by omega]
              obtain ⟨t, a1, b1⟩ := hI (T1.setVm vm') rfl X2
              exact ⟨t, step t a1, b1⟩
            · split at hr
              · cases hr
              · rename_i hcv
                cases hr
                have hcv : am_cov (am_hs mid) pc = false := by simpa using hcv
                obtain ⟨k1, k2, k3, k4, k5⟩ := X1.leaveThrown (ad (h'.length - 1)) (g := F0 m pc ls (r.map (am_rv ad))) rfl rfl rfl (am_hcov (am_hs mid) c.exceptionTable.toList hX.2.2.2.2.2.2.2.2.2 hcv) hX.2.2.2.2.2.2.1
                exact ⟨_, k1, _, locs1, k2, k3, ⟨rfl, hlast⟩, k4, k5, hlo1, hP1⟩
      · cases hr
    | 1 =>
      intro hr f0 f1 f2
      simp only [am_call] at hr
      split at hr
      · rename_i a r
        split at hr
        · rename_i hcd
          simp only [Bool.and_eq_true] at hcd
          have c1 := Nat.eq_of_beq_eq_true hcd.1
          have c2 : 1 ≤ d.1 := Nat.le_of_ble_eq_true hcd.2.1
          have c3 : am_wt r + 12 ≤ d.2 := Nat.le_of_ble_eq_true hcd.2.2
          rcases hik with ⟨i1, i2⟩ | ⟨i1, i2⟩ | ⟨i1, i2⟩
          · omega
          · subst i2
            exact am_objinit hZ hX (by rw [hcn]; exact f1 rfl) hsize hd (by omega) (by omega) (IH _ _ _ _ _ _ _ _ hr R s m args below meth c H locs cells slots ls hX hmok hR hl hP h2 hlo hc hz)
          · omega
        · cases hr
      · cases hr
    | 2 =>
      intro hr f0 f1 f2
      simp only [am_call] at hr
      split at hr
      · rename_i n dp b sp a r
        split at hr
        · rename_i hcd
          simp only [Bool.and_eq_true] at hcd
          have c1 := Nat.eq_of_beq_eq_true hcd.1
          have c2 : 1 ≤ d.1 := Nat.le_of_ble_eq_true hcd.2.1
          have c3 : am_wt r + 18 ≤ d.2 := Nat.le_of_ble_eq_true hcd.2.2
          split at hr
          · rename_i h1 hcp
            rcases hik with ⟨i1, i2⟩ | ⟨i1, i2⟩ | ⟨i1, i2⟩
            · omega
            · omega
            · subst i2
              refine am_arraycopy hZ hX (by rw [hcn]; exact f2 rfl) hsize hcp hP hlo hd (by omega) (by omega) (fun H' locs' hP' hlo' e1 e2 => ?_)
              have hI := IH _ _ _ _ _ _ _ _ hr R s m args below meth c H' locs' cells slots ls hX hmok hR hl hP' (by omega) hlo' (by omega) (by omega)
              rw [e1, e2] at hI
              exact hI
          · cases hr
        · cases hr
      · cases hr
    | n + 3 =>
      intro hr f0 f1 f2
      cases hr
theorem am_sound (F : am_Fc) (htr : e.platform.stackTraces = false) (hZ : am_Z S0 D base ad A0) : ∀ n : Nat, am_So p l e S0 D base ad (am_run n)
  | 0 => fun _ _ _ _ _ _ _ _ h => by cases h
  | n + 1 => fun d mid pc L st h o h' hr R s m args below meth c H locs cells slots ls hX hmok hR hl hP h2 hlo hc hz => by
    have IH := am_sound F htr hZ n
    have G := am_gr_run n
    have hr : am_body (am_run n) d mid pc L st h = some (o, h') := hr
    unfold am_body at hr
    split at hr
    · cases hr
    · rename_i i hi
      obtain ⟨len, hdec, hlen⟩ := F.1 mid pc i hi
      have hd : decode c.code pc = .ok (i, len) := by rw [hX.2.2.2.1]; exact hdec
      split at hr
      · rename_i pc1 L1 st1 h1 hs
        have g1 := am_step_gr hs
        have g2 := G _ _ _ _ _ _ _ _ hr
        refine am_disp F hX.1 i (am_ml mid) mid pc len L st h pc1 L1 st1 h1 ls hX hZ hd hlen hs hl hP h2 hlo (by omega) (by omega) (fun H' locs' cells' slots' ls' hl' hP' hle hlo' e1 e2 => ?_)
        rw [show cells + (h'.length - h.length) = cells' + (h'.length - h1.length) by omega, show slots + (am_sz h' - am_sz h) = slots' + (am_sz h' - am_sz h1) by omega]
        exact IH _ _ _ _ _ _ _ _ hr R s m args below meth c H' locs' cells' slots' ls' hX hmok hR hl' hP' (by omega) hlo' (by omega) (by omega)
      · unfold am_ctl at hr
        split at hr
        · split at hr
          · split at hr
            · rename_i hn
              cases hr
              obtain rfl : len = 1 := Nat.eq_of_beq_eq_true hlen
              rw [Nat.sub_self, Nat.sub_self]
              exact am_ireturn hX hP hlo hn hd
            · cases hr
          · cases hr
        · split at hr
          · split at hr
            · rename_i hn
              cases hr
              obtain rfl : len = 1 := Nat.eq_of_beq_eq_true hlen
              rw [Nat.sub_self, Nat.sub_self]
              exact am_return hX hP hlo hn hd
            · cases hr
          · cases hr
        · split at hr
          · split at hr
            · rename_i hn
              cases hr
              obtain rfl : len = 1 := Nat.eq_of_beq_eq_true hlen
              rw [Nat.sub_self, Nat.sub_self]
              exact am_areturn hX hP hlo hn hd
            · cases hr
          · cases hr
        · obtain rfl : len = 3 := Nat.eq_of_beq_eq_true hlen
          exact am_callS F hZ IH G hX hmok hd (Or.inl ⟨rfl, rfl⟩) hr hR hl hP h2 hlo hc hz
        · obtain rfl : len = 3 := Nat.eq_of_beq_eq_true hlen
          exact am_callS F hZ IH G hX hmok hd (Or.inr (Or.inl ⟨rfl, rfl⟩)) hr hR hl hP h2 hlo hc hz
        · obtain rfl : len = 3 := Nat.eq_of_beq_eq_true hlen
          exact am_callS F hZ IH G hX hmok hd (Or.inr (Or.inr ⟨rfl, rfl⟩)) hr hR hl hP h2 hlo hc hz
        · rename_i x hnone
          split at hr
          · rename_i X hpe
            split at hr
            · rename_i hcd
              cases hr
              simp only [Bool.and_eq_true] at hcd
              obtain ⟨c1, c2, c3, c4⟩ := hcd
              have c1 : 6 ≤ d.1 := Nat.le_of_ble_eq_true c1
              have c2 : am_wt st + 82 ≤ d.2 := Nat.le_of_ble_eq_true c2
              obtain rfl : len = 3 := Nat.eq_of_beq_eq_true hlen
              unfold am_thr at c3
              split at c3
              · rename_i it ic t1 t2 t3 t4
                obtain ⟨Xn, tx, hT0, hcl, hat, hns⟩ := F.2.2.2.2.2.2.1 mid pc x X it ic hi hpe t2 t3
                obtain ⟨n1, a1, b1⟩ := F.1 _ _ _ t1
                obtain ⟨n2, a2, b2⟩ := F.1 _ _ _ t2
                obtain ⟨n3, a3, b3⟩ := F.1 _ _ _ t3
                obtain ⟨n4, a4, b4⟩ := F.1 _ _ _ t4
                obtain rfl : n1 = 1 := Nat.eq_of_beq_eq_true b1
                obtain rfl : n2 = 2 := Nat.eq_of_beq_eq_true b2
                obtain rfl : n3 = 3 := Nat.eq_of_beq_eq_true b3
                obtain rfl : n4 = 1 := Nat.eq_of_beq_eq_true b4
                rw [← hX.2.2.2.1] at a1 a2 a3 a4
                have hout : c.exceptionTable.toList = [] := by
                  have hh := hX.2.2.2.2.2.2.2.2.2
                  unfold am_hok at hh
                  rw [List.isEmpty_iff.mp c4] at hh
                  cases hes : c.exceptionTable.toList with
                  | nil => rfl
                  | cons y ys => rw [hes] at hh; exact hh.elim
                have hsize : ls.size = c.maxLocals := by
                  obtain ⟨-, lv, h1, -⟩ := hl
                  rw [h1.1]; exact hX.2.2.2.2.1.symm
                have e1 : (h ++ [(X, [])]).length - h.length = 1 := by simp
                have e2 : am_sz (h ++ [(X, [])]) - am_sz h = 6 := by
                  rw [am_sz_app]
                  simp [am_sz, am_csz, hat, hns]
                rw [e1, e2]
                have e3 : (h ++ [(X, [])]).length = h.length + 1 := by simp
                have e4 : am_sz (h ++ [(X, [])]) = am_sz h + 6 := by
                  rw [am_sz_app]
                  simp [am_sz, am_csz, hat, hns]
                refine am_throw htr hZ hX hT0 hcl hat hns hout hP h2 hlo hsize (by rw [am_wt_eq]; omega) hd a1 a2 a3 a4 (by omega) (by omega) (by omega)
              · cases c3
            · cases hr
          · cases hr
        · cases hr
end AMZ
end
section
/-! FACTS OF THE TABLES, written by wip/tools/gen.py: each by a program that the kernel runs -/
def am_ckc (b : ByteArray) (e : am_E) : Bool := decide (decode b e.1 = .ok (e.2.1, e.2.2)) && am_lenok e.1 e.2.1 e.2.2
theorem am_pc_of {n : Nat} {t : am_T am_E n} {b : ByteArray} (h : am_allT (am_ckc b) n t = true) (pc : Nat) (i : Jvm.ClassFile.Instr) (hi : am_at t pc = some i) : ∃ len, decode b pc = .ok (i, len) ∧ am_lenok pc i len = true := by
  unfold am_at at hi
  split at hi
  · rename_i hq
    have h1 := am_allT_get n t pc h
    cases hi
    have hp := Nat.eq_of_beq_eq_true hq
    unfold am_ckc at h1
    rw [hp] at h1
    simp only [Bool.and_eq_true, decide_eq_true_eq] at h1
    exact ⟨_, h1.1, h1.2⟩
  · cases hi
def am_forT {α : Type} (P : α → Prop) : (n : Nat) → am_T α n → Prop
  | 0, t => P t
  | n + 1, t => am_forT P n (am_u t).2.1 ∧ am_forT P n (am_u t).2.2
theorem am_forT_get {α : Type} {P : α → Prop} : ∀ (n : Nat) (t : am_T α n) (k : Nat), am_forT P n t → P (am_get n t k)
  | 0, _, _, h => h
  | n + 1, t, k, h => by
    simp only [am_get]
    split
    · exact am_forT_get n _ k h.1
    · exact am_forT_get n _ k h.2
/-- the places that throw: the class, the pool's entries of new, constructor, text -/
def am_sites : List (Nat × Nat × Nat × Nat) := [(11, 66, 70, 68), (10, 149, 153, 237), (12, 81, 85, 83), (11, 66, 70, 104), (10, 149, 153, 242), (12, 81, 85, 208), (12, 81, 85, 110), (12, 81, 85, 244), (12, 81, 85, 122), (10, 149, 153, 151), (12, 81, 85, 154), (12, 81, 85, 160), (13, 189, 193, 191), (12, 81, 85, 203), (10, 149, 153, 208), (12, 81, 85, 217), (10, 149, 153, 229)]
def am_tck (cd : Nat → Option Jvm.ClassFile.Instr) (oc : Nat) (e : am_E) : Bool := match e.2.1 with
  | .new x => match am_pe oc x with
    | none => true
    | some X => match cd (e.1 + 4), cd (e.1 + 6) with
      | some (.ldc it), some (.invokespecial ic) => Nat.beq oc 0 && decide ((X, x, ic, it) ∈ am_sites)
      | _, _ => true
  | _ => true
theorem am_allT_nd {α : Type} {f : α → Bool} {n k : Nat} {l r : am_T α n} (h1 : am_allT f n l = true) (h2 : am_allT f n r = true) : am_allT f (n + 1) (am_nd k l r) = true := by
  show (am_allT f n l && am_allT f n r) = true
  rw [h1, h2]
  rfl
/-- what is asked of a method's row -/
def am_PI (I : am_MI) : Prop :=
  (∀ (pc : Nat) (i : Jvm.ClassFile.Instr), I.2.2.2.2.2.2.2.2 pc = some i → ∃ len, decode I.2.1 pc = .ok (i, len) ∧ am_lenok pc i len = true) ∧
  ((Cond.code I.1 I.2.1 I.2.2.1 I.2.2.2.1 ∈ am_tbl ∧ I.2.2.2.2.2.2.2.1 = [] ∨ ∃ hh, Cond.codeWith I.1 I.2.1 I.2.2.1 I.2.2.2.1 hh ∈ am_tbl ∧ am_hrel I.1.cls I.2.2.2.2.2.2.2.1 hh) ∧ plainFor I.1 = true ∧ (I.1.cls ≠ "java/lang/invoke/MethodHandle" ∧ I.1.cls ≠ "java/lang/invoke/VarHandle") ∧ Cond.initialized I.1.cls ∈ am_tbl ∧ I.1.cls = am_on I.2.2.2.2.2.2.1) ∧
  (I.2.2.2.2.1 = 1 → I.1.name = "<init>") ∧
  (∀ pc x X it ic : Nat, I.2.2.2.2.2.2.2.2 pc = some (.new x) → am_pe I.2.2.2.2.2.2.1 x = some X → I.2.2.2.2.2.2.2.2 (pc + 4) = some (.ldc it) → I.2.2.2.2.2.2.2.2 (pc + 6) = some (.invokespecial ic) → I.2.2.2.2.2.2.1 = 0 ∧ (X, x, ic, it) ∈ am_sites)
theorem am_ts_of {n : Nat} {t : am_T am_E n} {oc : Nat} (h : am_allT (am_tck (am_at t) oc) n t = true) (pc x X it ic : Nat) (hi : am_at t pc = some (.new x)) (hp : am_pe oc x = some X) (h4 : am_at t (pc + 4) = some (.ldc it)) (h6 : am_at t (pc + 6) = some (.invokespecial ic)) : oc = 0 ∧ (X, x, ic, it) ∈ am_sites := by
  have h1 := am_allT_get n t pc h
  unfold am_at at hi
  split at hi
  · rename_i hq
    have hpc := Nat.eq_of_beq_eq_true hq
    cases hz : am_get n t pc with
    | mk a b =>
      obtain ⟨b1, b2⟩ := b
      rw [hz] at hi hpc h1
      cases hi
      simp only at hpc
      subst hpc
      simp only [am_tck, hp, h4, h6, Bool.and_eq_true, decide_eq_true_eq] at h1
      exact ⟨Nat.eq_of_beq_eq_true h1.1, h1.2⟩
  · cases hi
end
section
theorem am_co0_0 : am_allT (am_ckc code) 5 am_c0_0 = true := by decide +kernel
theorem am_tc0_0 : am_allT (am_tck (am_at am_c0) 14) 5 am_c0_0 = true := by decide +kernel
theorem am_co0_1 : am_allT (am_ckc code) 5 am_c0_1 = true := by decide +kernel
theorem am_tc0_1 : am_allT (am_tck (am_at am_c0) 14) 5 am_c0_1 = true := by decide +kernel
theorem am_co0_2 : am_allT (am_ckc code) 5 am_c0_2 = true := by decide +kernel
theorem am_tc0_2 : am_allT (am_tck (am_at am_c0) 14) 5 am_c0_2 = true := by decide +kernel
theorem am_co0_3 : am_allT (am_ckc code) 5 am_c0_3 = true := by decide +kernel
theorem am_tc0_3 : am_allT (am_tck (am_at am_c0) 14) 5 am_c0_3 = true := by decide +kernel
theorem am_co0_4 : am_allT (am_ckc code) 5 am_c0_4 = true := by decide +kernel
theorem am_tc0_4 : am_allT (am_tck (am_at am_c0) 14) 5 am_c0_4 = true := by decide +kernel
theorem am_co0_5 : am_allT (am_ckc code) 5 am_c0_5 = true := by decide +kernel
theorem am_tc0_5 : am_allT (am_tck (am_at am_c0) 14) 5 am_c0_5 = true := by decide +kernel
theorem am_co0_6 : am_allT (am_ckc code) 5 am_c0_6 = true := by decide +kernel
theorem am_tc0_6 : am_allT (am_tck (am_at am_c0) 14) 5 am_c0_6 = true := by decide +kernel
theorem am_co0_7 : am_allT (am_ckc code) 5 am_c0_7 = true := by decide +kernel
theorem am_tc0_7 : am_allT (am_tck (am_at am_c0) 14) 5 am_c0_7 = true := by decide +kernel
theorem am_co0_8 : am_allT (am_ckc code) 5 am_c0_8 = true := by decide +kernel
theorem am_tc0_8 : am_allT (am_tck (am_at am_c0) 14) 5 am_c0_8 = true := by decide +kernel
theorem am_co0_9 : am_allT (am_ckc code) 5 am_c0_9 = true := by decide +kernel
theorem am_tc0_9 : am_allT (am_tck (am_at am_c0) 14) 5 am_c0_9 = true := by decide +kernel
theorem am_co0_10 : am_allT (am_ckc code) 5 am_c0_10 = true := by decide +kernel
theorem am_tc0_10 : am_allT (am_tck (am_at am_c0) 14) 5 am_c0_10 = true := by decide +kernel
theorem am_co0_11 : am_allT (am_ckc code) 5 am_c0_11 = true := by decide +kernel
theorem am_tc0_11 : am_allT (am_tck (am_at am_c0) 14) 5 am_c0_11 = true := by decide +kernel
theorem am_co0_12 : am_allT (am_ckc code) 5 am_c0_12 = true := by decide +kernel
theorem am_tc0_12 : am_allT (am_tck (am_at am_c0) 14) 5 am_c0_12 = true := by decide +kernel
theorem am_co0_13 : am_allT (am_ckc code) 5 am_c0_13 = true := by decide +kernel
theorem am_tc0_13 : am_allT (am_tck (am_at am_c0) 14) 5 am_c0_13 = true := by decide +kernel
theorem am_co0_14 : am_allT (am_ckc code) 5 am_c0_14 = true := by decide +kernel
theorem am_tc0_14 : am_allT (am_tck (am_at am_c0) 14) 5 am_c0_14 = true := by decide +kernel
theorem am_co0_15 : am_allT (am_ckc code) 5 am_c0_15 = true := by decide +kernel
theorem am_tc0_15 : am_allT (am_tck (am_at am_c0) 14) 5 am_c0_15 = true := by decide +kernel
theorem am_co0_16 : am_allT (am_ckc code) 5 am_c0_16 = true := by decide +kernel
theorem am_tc0_16 : am_allT (am_tck (am_at am_c0) 14) 5 am_c0_16 = true := by decide +kernel
theorem am_co0_17 : am_allT (am_ckc code) 5 am_c0_17 = true := by decide +kernel
theorem am_tc0_17 : am_allT (am_tck (am_at am_c0) 14) 5 am_c0_17 = true := by decide +kernel
theorem am_co0_18 : am_allT (am_ckc code) 5 am_c0_18 = true := by decide +kernel
theorem am_tc0_18 : am_allT (am_tck (am_at am_c0) 14) 5 am_c0_18 = true := by decide +kernel
theorem am_co0_19 : am_allT (am_ckc code) 5 am_c0_19 = true := by decide +kernel
theorem am_tc0_19 : am_allT (am_tck (am_at am_c0) 14) 5 am_c0_19 = true := by decide +kernel
theorem am_co0_20 : am_allT (am_ckc code) 5 am_c0_20 = true := by decide +kernel
theorem am_tc0_20 : am_allT (am_tck (am_at am_c0) 14) 5 am_c0_20 = true := by decide +kernel
theorem am_co0_21 : am_allT (am_ckc code) 5 am_c0_21 = true := by decide +kernel
theorem am_tc0_21 : am_allT (am_tck (am_at am_c0) 14) 5 am_c0_21 = true := by decide +kernel
theorem am_co0_22 : am_allT (am_ckc code) 5 am_c0_22 = true := by decide +kernel
theorem am_tc0_22 : am_allT (am_tck (am_at am_c0) 14) 5 am_c0_22 = true := by decide +kernel
theorem am_co0_23 : am_allT (am_ckc code) 5 am_c0_23 = true := by decide +kernel
theorem am_tc0_23 : am_allT (am_tck (am_at am_c0) 14) 5 am_c0_23 = true := by decide +kernel
theorem am_co0_24 : am_allT (am_ckc code) 5 am_c0_24 = true := by decide +kernel
theorem am_tc0_24 : am_allT (am_tck (am_at am_c0) 14) 5 am_c0_24 = true := by decide +kernel
theorem am_co0_25 : am_allT (am_ckc code) 5 am_c0_25 = true := by decide +kernel
theorem am_tc0_25 : am_allT (am_tck (am_at am_c0) 14) 5 am_c0_25 = true := by decide +kernel
theorem am_co0_26 : am_allT (am_ckc code) 5 am_c0_26 = true := by decide +kernel
theorem am_tc0_26 : am_allT (am_tck (am_at am_c0) 14) 5 am_c0_26 = true := by decide +kernel
theorem am_co0_27 : am_allT (am_ckc code) 5 am_c0_27 = true := by decide +kernel
theorem am_tc0_27 : am_allT (am_tck (am_at am_c0) 14) 5 am_c0_27 = true := by decide +kernel
theorem am_co0_28 : am_allT (am_ckc code) 5 am_c0_28 = true := by decide +kernel
theorem am_tc0_28 : am_allT (am_tck (am_at am_c0) 14) 5 am_c0_28 = true := by decide +kernel
theorem am_co0_29 : am_allT (am_ckc code) 5 am_c0_29 = true := by decide +kernel
theorem am_tc0_29 : am_allT (am_tck (am_at am_c0) 14) 5 am_c0_29 = true := by decide +kernel
theorem am_co0_30 : am_allT (am_ckc code) 5 am_c0_30 = true := by decide +kernel
theorem am_tc0_30 : am_allT (am_tck (am_at am_c0) 14) 5 am_c0_30 = true := by decide +kernel
theorem am_co0_31 : am_allT (am_ckc code) 5 am_c0_31 = true := by decide +kernel
theorem am_tc0_31 : am_allT (am_tck (am_at am_c0) 14) 5 am_c0_31 = true := by decide +kernel
theorem am_co0 : am_allT (am_ckc code) 10 am_c0 = true := (am_allT_nd (am_allT_nd (am_allT_nd (am_allT_nd (am_allT_nd am_co0_0 am_co0_1) (am_allT_nd am_co0_2 am_co0_3)) (am_allT_nd (am_allT_nd am_co0_4 am_co0_5) (am_allT_nd am_co0_6 am_co0_7))) (am_allT_nd (am_allT_nd (am_allT_nd am_co0_8 am_co0_9) (am_allT_nd am_co0_10 am_co0_11)) (am_allT_nd (am_allT_nd am_co0_12 am_co0_13) (am_allT_nd am_co0_14 am_co0_15)))) (am_allT_nd (am_allT_nd (am_allT_nd (am_allT_nd am_co0_16 am_co0_17) (am_allT_nd am_co0_18 am_co0_19)) (am_allT_nd (am_allT_nd am_co0_20 am_co0_21) (am_allT_nd am_co0_22 am_co0_23))) (am_allT_nd (am_allT_nd (am_allT_nd am_co0_24 am_co0_25) (am_allT_nd am_co0_26 am_co0_27)) (am_allT_nd (am_allT_nd am_co0_28 am_co0_29) (am_allT_nd am_co0_30 am_co0_31)))))
theorem am_tc0 : am_allT (am_tck (am_at am_c0) 14) 10 am_c0 = true := (am_allT_nd (am_allT_nd (am_allT_nd (am_allT_nd (am_allT_nd am_tc0_0 am_tc0_1) (am_allT_nd am_tc0_2 am_tc0_3)) (am_allT_nd (am_allT_nd am_tc0_4 am_tc0_5) (am_allT_nd am_tc0_6 am_tc0_7))) (am_allT_nd (am_allT_nd (am_allT_nd am_tc0_8 am_tc0_9) (am_allT_nd am_tc0_10 am_tc0_11)) (am_allT_nd (am_allT_nd am_tc0_12 am_tc0_13) (am_allT_nd am_tc0_14 am_tc0_15)))) (am_allT_nd (am_allT_nd (am_allT_nd (am_allT_nd am_tc0_16 am_tc0_17) (am_allT_nd am_tc0_18 am_tc0_19)) (am_allT_nd (am_allT_nd am_tc0_20 am_tc0_21) (am_allT_nd am_tc0_22 am_tc0_23))) (am_allT_nd (am_allT_nd (am_allT_nd am_tc0_24 am_tc0_25) (am_allT_nd am_tc0_26 am_tc0_27)) (am_allT_nd (am_allT_nd am_tc0_28 am_tc0_29) (am_allT_nd am_tc0_30 am_tc0_31)))))
set_option maxRecDepth 100000 in
theorem am_p0 : am_PI am_i0 := ⟨am_pc_of am_co0, ⟨Or.inl ⟨(List.mem_of_getElem? (i := 1354) rfl), rfl⟩, by decide +kernel, ⟨by decide +kernel, by decide +kernel⟩, (List.mem_of_getElem? (i := 71) (by decide +kernel)), by decide +kernel⟩, (fun h => absurd h (by decide)), am_ts_of am_tc0⟩
theorem am_co1_0 : am_allT (am_ckc prog_1_method_1_code) 5 am_c1_0 = true := by decide +kernel
theorem am_tc1_0 : am_allT (am_tck (am_at am_c1) 0) 5 am_c1_0 = true := by decide +kernel
theorem am_co1_1 : am_allT (am_ckc prog_1_method_1_code) 5 am_c1_1 = true := by decide +kernel
theorem am_tc1_1 : am_allT (am_tck (am_at am_c1) 0) 5 am_c1_1 = true := by decide +kernel
theorem am_co1 : am_allT (am_ckc prog_1_method_1_code) 6 am_c1 = true := (am_allT_nd am_co1_0 am_co1_1)
theorem am_tc1 : am_allT (am_tck (am_at am_c1) 0) 6 am_c1 = true := (am_allT_nd am_tc1_0 am_tc1_1)
set_option maxRecDepth 100000 in
theorem am_p1 : am_PI am_i1 := ⟨am_pc_of am_co1, ⟨Or.inl ⟨(List.mem_of_getElem? (i := 96) rfl), rfl⟩, by decide +kernel, ⟨by decide +kernel, by decide +kernel⟩, (List.mem_of_getElem? (i := 72) (by decide +kernel)), by decide +kernel⟩, (fun _ => rfl), am_ts_of am_tc1⟩
theorem am_co2 : am_allT (am_ckc prog_7_method_1_code) 5 am_c2 = true := by decide +kernel
theorem am_tc2 : am_allT (am_tck (am_at am_c2) 1) 5 am_c2 = true := by decide +kernel
set_option maxRecDepth 100000 in
theorem am_p2 : am_PI am_i2 := ⟨am_pc_of am_co2, ⟨Or.inl ⟨(List.mem_of_getElem? (i := 104) rfl), rfl⟩, by decide +kernel, ⟨by decide +kernel, by decide +kernel⟩, (List.mem_of_getElem? (i := 73) (by decide +kernel)), by decide +kernel⟩, (fun _ => rfl), am_ts_of am_tc2⟩
theorem am_co3 : am_allT (am_ckc prog_3_method_1_code) 4 am_c3 = true := by decide +kernel
theorem am_tc3 : am_allT (am_tck (am_at am_c3) 2) 4 am_c3 = true := by decide +kernel
set_option maxRecDepth 100000 in
theorem am_p3 : am_PI am_i3 := ⟨am_pc_of am_co3, ⟨Or.inl ⟨(List.mem_of_getElem? (i := 124) rfl), rfl⟩, by decide +kernel, ⟨by decide +kernel, by decide +kernel⟩, (List.mem_of_getElem? (i := 74) (by decide +kernel)), by decide +kernel⟩, (fun _ => rfl), am_ts_of am_tc3⟩
theorem am_co4 : am_allT (am_ckc prog_8_method_1_code) 2 am_c4 = true := by decide +kernel
theorem am_tc4 : am_allT (am_tck (am_at am_c4) 3) 2 am_c4 = true := by decide +kernel
set_option maxRecDepth 100000 in
theorem am_p4 : am_PI am_i4 := ⟨am_pc_of am_co4, ⟨Or.inl ⟨(List.mem_of_getElem? (i := 138) rfl), rfl⟩, by decide +kernel, ⟨by decide +kernel, by decide +kernel⟩, (List.mem_of_getElem? (i := 75) (by decide +kernel)), by decide +kernel⟩, (fun _ => rfl), am_ts_of am_tc4⟩
theorem am_co5 : am_allT (am_ckc prog_5_method_1_code) 4 am_c5 = true := by decide +kernel
theorem am_tc5 : am_allT (am_tck (am_at am_c5) 4) 4 am_c5 = true := by decide +kernel
set_option maxRecDepth 100000 in
theorem am_p5 : am_PI am_i5 := ⟨am_pc_of am_co5, ⟨Or.inl ⟨(List.mem_of_getElem? (i := 145) rfl), rfl⟩, by decide +kernel, ⟨by decide +kernel, by decide +kernel⟩, (List.mem_of_getElem? (i := 76) (by decide +kernel)), by decide +kernel⟩, (fun _ => rfl), am_ts_of am_tc5⟩
theorem am_co6_0 : am_allT (am_ckc prog_2_method_1_code) 5 am_c6_0 = true := by decide +kernel
theorem am_tc6_0 : am_allT (am_tck (am_at am_c6) 5) 5 am_c6_0 = true := by decide +kernel
theorem am_co6_1 : am_allT (am_ckc prog_2_method_1_code) 5 am_c6_1 = true := by decide +kernel
theorem am_tc6_1 : am_allT (am_tck (am_at am_c6) 5) 5 am_c6_1 = true := by decide +kernel
theorem am_co6 : am_allT (am_ckc prog_2_method_1_code) 6 am_c6 = true := (am_allT_nd am_co6_0 am_co6_1)
theorem am_tc6 : am_allT (am_tck (am_at am_c6) 5) 6 am_c6 = true := (am_allT_nd am_tc6_0 am_tc6_1)
set_option maxRecDepth 100000 in
theorem am_p6 : am_PI am_i6 := ⟨am_pc_of am_co6, ⟨Or.inl ⟨(List.mem_of_getElem? (i := 158) rfl), rfl⟩, by decide +kernel, ⟨by decide +kernel, by decide +kernel⟩, (List.mem_of_getElem? (i := 77) (by decide +kernel)), by decide +kernel⟩, (fun _ => rfl), am_ts_of am_tc6⟩
theorem am_co7_0 : am_allT (am_ckc prog_9_method_1_code) 5 am_c7_0 = true := by decide +kernel
theorem am_tc7_0 : am_allT (am_tck (am_at am_c7) 6) 5 am_c7_0 = true := by decide +kernel
theorem am_co7_1 : am_allT (am_ckc prog_9_method_1_code) 5 am_c7_1 = true := by decide +kernel
theorem am_tc7_1 : am_allT (am_tck (am_at am_c7) 6) 5 am_c7_1 = true := by decide +kernel
theorem am_co7 : am_allT (am_ckc prog_9_method_1_code) 6 am_c7 = true := (am_allT_nd am_co7_0 am_co7_1)
theorem am_tc7 : am_allT (am_tck (am_at am_c7) 6) 6 am_c7 = true := (am_allT_nd am_tc7_0 am_tc7_1)
set_option maxRecDepth 100000 in
theorem am_p7 : am_PI am_i7 := ⟨am_pc_of am_co7, ⟨Or.inl ⟨(List.mem_of_getElem? (i := 164) rfl), rfl⟩, by decide +kernel, ⟨by decide +kernel, by decide +kernel⟩, (List.mem_of_getElem? (i := 78) (by decide +kernel)), by decide +kernel⟩, (fun _ => rfl), am_ts_of am_tc7⟩
theorem am_co8_0 : am_allT (am_ckc prog_6_method_1_code) 5 am_c8_0 = true := by decide +kernel
theorem am_tc8_0 : am_allT (am_tck (am_at am_c8) 7) 5 am_c8_0 = true := by decide +kernel
theorem am_co8_1 : am_allT (am_ckc prog_6_method_1_code) 5 am_c8_1 = true := by decide +kernel
theorem am_tc8_1 : am_allT (am_tck (am_at am_c8) 7) 5 am_c8_1 = true := by decide +kernel
theorem am_co8 : am_allT (am_ckc prog_6_method_1_code) 6 am_c8 = true := (am_allT_nd am_co8_0 am_co8_1)
theorem am_tc8 : am_allT (am_tck (am_at am_c8) 7) 6 am_c8 = true := (am_allT_nd am_tc8_0 am_tc8_1)
set_option maxRecDepth 100000 in
theorem am_p8 : am_PI am_i8 := ⟨am_pc_of am_co8, ⟨Or.inl ⟨(List.mem_of_getElem? (i := 200) rfl), rfl⟩, by decide +kernel, ⟨by decide +kernel, by decide +kernel⟩, (List.mem_of_getElem? (i := 79) (by decide +kernel)), by decide +kernel⟩, (fun _ => rfl), am_ts_of am_tc8⟩
theorem am_co9 : am_allT (am_ckc prog_4_method_1_code) 5 am_c9 = true := by decide +kernel
theorem am_tc9 : am_allT (am_tck (am_at am_c9) 8) 5 am_c9 = true := by decide +kernel
set_option maxRecDepth 100000 in
theorem am_p9 : am_PI am_i9 := ⟨am_pc_of am_co9, ⟨Or.inl ⟨(List.mem_of_getElem? (i := 265) rfl), rfl⟩, by decide +kernel, ⟨by decide +kernel, by decide +kernel⟩, (List.mem_of_getElem? (i := 80) (by decide +kernel)), by decide +kernel⟩, (fun _ => rfl), am_ts_of am_tc9⟩
theorem am_co10 : am_allT (am_ckc prog_1_method_7_code) 4 am_c10 = true := by decide +kernel
theorem am_tc10 : am_allT (am_tck (am_at am_c10) 0) 4 am_c10 = true := by decide +kernel
set_option maxRecDepth 100000 in
theorem am_p10 : am_PI am_i10 := ⟨am_pc_of am_co10, ⟨Or.inl ⟨(List.mem_of_getElem? (i := 314) rfl), rfl⟩, by decide +kernel, ⟨by decide +kernel, by decide +kernel⟩, (List.mem_of_getElem? (i := 72) (by decide +kernel)), by decide +kernel⟩, (fun h => absurd h (by decide)), am_ts_of am_tc10⟩
theorem am_co11 : am_allT (am_ckc prog_7_method_16_code) 5 am_c11 = true := by decide +kernel
theorem am_tc11 : am_allT (am_tck (am_at am_c11) 1) 5 am_c11 = true := by decide +kernel
set_option maxRecDepth 100000 in
theorem am_p11 : am_PI am_i11 := ⟨am_pc_of am_co11, ⟨Or.inl ⟨(List.mem_of_getElem? (i := 318) rfl), rfl⟩, by decide +kernel, ⟨by decide +kernel, by decide +kernel⟩, (List.mem_of_getElem? (i := 73) (by decide +kernel)), by decide +kernel⟩, (fun h => absurd h (by decide)), am_ts_of am_tc11⟩
theorem am_co12 : am_allT (am_ckc prog_1_method_15_code) 2 am_c12 = true := by decide +kernel
theorem am_tc12 : am_allT (am_tck (am_at am_c12) 0) 2 am_c12 = true := by decide +kernel
set_option maxRecDepth 100000 in
theorem am_p12 : am_PI am_i12 := ⟨am_pc_of am_co12, ⟨Or.inl ⟨(List.mem_of_getElem? (i := 325) rfl), rfl⟩, by decide +kernel, ⟨by decide +kernel, by decide +kernel⟩, (List.mem_of_getElem? (i := 72) (by decide +kernel)), by decide +kernel⟩, (fun h => absurd h (by decide)), am_ts_of am_tc12⟩
theorem am_co13 : am_allT (am_ckc prog_4_method_3_code) 2 am_c13 = true := by decide +kernel
theorem am_tc13 : am_allT (am_tck (am_at am_c13) 8) 2 am_c13 = true := by decide +kernel
set_option maxRecDepth 100000 in
theorem am_p13 : am_PI am_i13 := ⟨am_pc_of am_co13, ⟨Or.inl ⟨(List.mem_of_getElem? (i := 329) rfl), rfl⟩, by decide +kernel, ⟨by decide +kernel, by decide +kernel⟩, (List.mem_of_getElem? (i := 80) (by decide +kernel)), by decide +kernel⟩, (fun h => absurd h (by decide)), am_ts_of am_tc13⟩
theorem am_co14 : am_allT (am_ckc prog_1_method_17_code) 2 am_c14 = true := by decide +kernel
theorem am_tc14 : am_allT (am_tck (am_at am_c14) 0) 2 am_c14 = true := by decide +kernel
set_option maxRecDepth 100000 in
theorem am_p14 : am_PI am_i14 := ⟨am_pc_of am_co14, ⟨Or.inl ⟨(List.mem_of_getElem? (i := 333) rfl), rfl⟩, by decide +kernel, ⟨by decide +kernel, by decide +kernel⟩, (List.mem_of_getElem? (i := 72) (by decide +kernel)), by decide +kernel⟩, (fun h => absurd h (by decide)), am_ts_of am_tc14⟩
theorem am_co15 : am_allT (am_ckc prog_4_method_4_code) 2 am_c15 = true := by decide +kernel
theorem am_tc15 : am_allT (am_tck (am_at am_c15) 8) 2 am_c15 = true := by decide +kernel
set_option maxRecDepth 100000 in
theorem am_p15 : am_PI am_i15 := ⟨am_pc_of am_co15, ⟨Or.inl ⟨(List.mem_of_getElem? (i := 337) rfl), rfl⟩, by decide +kernel, ⟨by decide +kernel, by decide +kernel⟩, (List.mem_of_getElem? (i := 80) (by decide +kernel)), by decide +kernel⟩, (fun h => absurd h (by decide)), am_ts_of am_tc15⟩
theorem am_co16 : am_allT (am_ckc method_3_code) 4 am_c16 = true := by decide +kernel
theorem am_tc16 : am_allT (am_tck (am_at am_c16) 14) 4 am_c16 = true := by decide +kernel
set_option maxRecDepth 100000 in
theorem am_p16 : am_PI am_i16 := ⟨am_pc_of am_co16, ⟨Or.inr ⟨[(0, 9, 12, 13), (0, 9, 15, 15)], (List.mem_of_getElem? (i := 340) rfl), ⟨⟨rfl, rfl, rfl, by decide, by decide, _, rfl, (List.mem_of_getElem? (i := 341) (by decide +kernel))⟩, ⟨⟨rfl, rfl, rfl, by decide, by decide, _, rfl, (List.mem_of_getElem? (i := 342) (by decide +kernel))⟩, trivial⟩⟩⟩, by decide +kernel, ⟨by decide +kernel, by decide +kernel⟩, (List.mem_of_getElem? (i := 71) (by decide +kernel)), by decide +kernel⟩, (fun h => absurd h (by decide)), am_ts_of am_tc16⟩
theorem am_co17 : am_allT (am_ckc prog_1_method_2_code) 5 am_c17 = true := by decide +kernel
theorem am_tc17 : am_allT (am_tck (am_at am_c17) 0) 5 am_c17 = true := by decide +kernel
set_option maxRecDepth 100000 in
theorem am_p17 : am_PI am_i17 := ⟨am_pc_of am_co17, ⟨Or.inl ⟨(List.mem_of_getElem? (i := 346) rfl), rfl⟩, by decide +kernel, ⟨by decide +kernel, by decide +kernel⟩, (List.mem_of_getElem? (i := 72) (by decide +kernel)), by decide +kernel⟩, (fun h => absurd h (by decide)), am_ts_of am_tc17⟩
theorem am_co18 : am_allT (am_ckc prog_1_method_18_code) 5 am_c18 = true := by decide +kernel
theorem am_tc18 : am_allT (am_tck (am_at am_c18) 0) 5 am_c18 = true := by decide +kernel
set_option maxRecDepth 100000 in
theorem am_p18 : am_PI am_i18 := ⟨am_pc_of am_co18, ⟨Or.inl ⟨(List.mem_of_getElem? (i := 350) rfl), rfl⟩, by decide +kernel, ⟨by decide +kernel, by decide +kernel⟩, (List.mem_of_getElem? (i := 72) (by decide +kernel)), by decide +kernel⟩, (fun h => absurd h (by decide)), am_ts_of am_tc18⟩
theorem am_co19 : am_allT (am_ckc prog_7_method_3_code) 3 am_c19 = true := by decide +kernel
theorem am_tc19 : am_allT (am_tck (am_at am_c19) 1) 3 am_c19 = true := by decide +kernel
set_option maxRecDepth 100000 in
theorem am_p19 : am_PI am_i19 := ⟨am_pc_of am_co19, ⟨Or.inl ⟨(List.mem_of_getElem? (i := 423) rfl), rfl⟩, by decide +kernel, ⟨by decide +kernel, by decide +kernel⟩, (List.mem_of_getElem? (i := 73) (by decide +kernel)), by decide +kernel⟩, (fun h => absurd h (by decide)), am_ts_of am_tc19⟩
theorem am_co20 : am_allT (am_ckc prog_7_method_12_code) 5 am_c20 = true := by decide +kernel
theorem am_tc20 : am_allT (am_tck (am_at am_c20) 1) 5 am_c20 = true := by decide +kernel
set_option maxRecDepth 100000 in
theorem am_p20 : am_PI am_i20 := ⟨am_pc_of am_co20, ⟨Or.inl ⟨(List.mem_of_getElem? (i := 443) rfl), rfl⟩, by decide +kernel, ⟨by decide +kernel, by decide +kernel⟩, (List.mem_of_getElem? (i := 73) (by decide +kernel)), by decide +kernel⟩, (fun h => absurd h (by decide)), am_ts_of am_tc20⟩
theorem am_co21_0 : am_allT (am_ckc prog_7_method_15_code) 5 am_c21_0 = true := by decide +kernel
theorem am_tc21_0 : am_allT (am_tck (am_at am_c21) 1) 5 am_c21_0 = true := by decide +kernel
theorem am_co21_1 : am_allT (am_ckc prog_7_method_15_code) 5 am_c21_1 = true := by decide +kernel
theorem am_tc21_1 : am_allT (am_tck (am_at am_c21) 1) 5 am_c21_1 = true := by decide +kernel
theorem am_co21 : am_allT (am_ckc prog_7_method_15_code) 6 am_c21 = true := (am_allT_nd am_co21_0 am_co21_1)
theorem am_tc21 : am_allT (am_tck (am_at am_c21) 1) 6 am_c21 = true := (am_allT_nd am_tc21_0 am_tc21_1)
set_option maxRecDepth 100000 in
theorem am_p21 : am_PI am_i21 := ⟨am_pc_of am_co21, ⟨Or.inl ⟨(List.mem_of_getElem? (i := 447) rfl), rfl⟩, by decide +kernel, ⟨by decide +kernel, by decide +kernel⟩, (List.mem_of_getElem? (i := 73) (by decide +kernel)), by decide +kernel⟩, (fun h => absurd h (by decide)), am_ts_of am_tc21⟩
theorem am_co22 : am_allT (am_ckc prog_7_method_4_code) 4 am_c22 = true := by decide +kernel
theorem am_tc22 : am_allT (am_tck (am_at am_c22) 1) 4 am_c22 = true := by decide +kernel
set_option maxRecDepth 100000 in
theorem am_p22 : am_PI am_i22 := ⟨am_pc_of am_co22, ⟨Or.inl ⟨(List.mem_of_getElem? (i := 451) rfl), rfl⟩, by decide +kernel, ⟨by decide +kernel, by decide +kernel⟩, (List.mem_of_getElem? (i := 73) (by decide +kernel)), by decide +kernel⟩, (fun h => absurd h (by decide)), am_ts_of am_tc22⟩
theorem am_co23 : am_allT (am_ckc method_4_code) 5 am_c23 = true := by decide +kernel
theorem am_tc23 : am_allT (am_tck (am_at am_c23) 14) 5 am_c23 = true := by decide +kernel
set_option maxRecDepth 100000 in
theorem am_p23 : am_PI am_i23 := ⟨am_pc_of am_co23, ⟨Or.inr ⟨[(0, 18, 21, 13), (0, 18, 25, 21), (0, 18, 29, 15)], (List.mem_of_getElem? (i := 454) rfl), ⟨⟨rfl, rfl, rfl, by decide, by decide, _, rfl, (List.mem_of_getElem? (i := 341) (by decide +kernel))⟩, ⟨⟨rfl, rfl, rfl, by decide, by decide, _, rfl, (List.mem_of_getElem? (i := 455) (by decide +kernel))⟩, ⟨⟨rfl, rfl, rfl, by decide, by decide, _, rfl, (List.mem_of_getElem? (i := 342) (by decide +kernel))⟩, trivial⟩⟩⟩⟩, by decide +kernel, ⟨by decide +kernel, by decide +kernel⟩, (List.mem_of_getElem? (i := 71) (by decide +kernel)), by decide +kernel⟩, (fun h => absurd h (by decide)), am_ts_of am_tc23⟩
theorem am_co24_0 : am_allT (am_ckc prog_1_method_3_code) 5 am_c24_0 = true := by decide +kernel
theorem am_tc24_0 : am_allT (am_tck (am_at am_c24) 0) 5 am_c24_0 = true := by decide +kernel
theorem am_co24_1 : am_allT (am_ckc prog_1_method_3_code) 5 am_c24_1 = true := by decide +kernel
theorem am_tc24_1 : am_allT (am_tck (am_at am_c24) 0) 5 am_c24_1 = true := by decide +kernel
theorem am_co24_2 : am_allT (am_ckc prog_1_method_3_code) 5 am_c24_2 = true := by decide +kernel
theorem am_tc24_2 : am_allT (am_tck (am_at am_c24) 0) 5 am_c24_2 = true := by decide +kernel
theorem am_co24_3 : am_allT (am_ckc prog_1_method_3_code) 5 am_c24_3 = true := by decide +kernel
theorem am_tc24_3 : am_allT (am_tck (am_at am_c24) 0) 5 am_c24_3 = true := by decide +kernel
theorem am_co24 : am_allT (am_ckc prog_1_method_3_code) 7 am_c24 = true := (am_allT_nd (am_allT_nd am_co24_0 am_co24_1) (am_allT_nd am_co24_2 am_co24_3))
theorem am_tc24 : am_allT (am_tck (am_at am_c24) 0) 7 am_c24 = true := (am_allT_nd (am_allT_nd am_tc24_0 am_tc24_1) (am_allT_nd am_tc24_2 am_tc24_3))
set_option maxRecDepth 100000 in
theorem am_p24 : am_PI am_i24 := ⟨am_pc_of am_co24, ⟨Or.inl ⟨(List.mem_of_getElem? (i := 459) rfl), rfl⟩, by decide +kernel, ⟨by decide +kernel, by decide +kernel⟩, (List.mem_of_getElem? (i := 72) (by decide +kernel)), by decide +kernel⟩, (fun h => absurd h (by decide)), am_ts_of am_tc24⟩
theorem am_co25 : am_allT (am_ckc prog_1_method_19_code) 4 am_c25 = true := by decide +kernel
theorem am_tc25 : am_allT (am_tck (am_at am_c25) 0) 4 am_c25 = true := by decide +kernel
set_option maxRecDepth 100000 in
theorem am_p25 : am_PI am_i25 := ⟨am_pc_of am_co25, ⟨Or.inl ⟨(List.mem_of_getElem? (i := 462) rfl), rfl⟩, by decide +kernel, ⟨by decide +kernel, by decide +kernel⟩, (List.mem_of_getElem? (i := 72) (by decide +kernel)), by decide +kernel⟩, (fun h => absurd h (by decide)), am_ts_of am_tc25⟩
theorem am_co26 : am_allT (am_ckc prog_1_method_24_code) 3 am_c26 = true := by decide +kernel
theorem am_tc26 : am_allT (am_tck (am_at am_c26) 0) 3 am_c26 = true := by decide +kernel
set_option maxRecDepth 100000 in
theorem am_p26 : am_PI am_i26 := ⟨am_pc_of am_co26, ⟨Or.inl ⟨(List.mem_of_getElem? (i := 483) rfl), rfl⟩, by decide +kernel, ⟨by decide +kernel, by decide +kernel⟩, (List.mem_of_getElem? (i := 72) (by decide +kernel)), by decide +kernel⟩, (fun h => absurd h (by decide)), am_ts_of am_tc26⟩
theorem am_co27 : am_allT (am_ckc prog_1_method_20_code) 4 am_c27 = true := by decide +kernel
theorem am_tc27 : am_allT (am_tck (am_at am_c27) 0) 4 am_c27 = true := by decide +kernel
set_option maxRecDepth 100000 in
theorem am_p27 : am_PI am_i27 := ⟨am_pc_of am_co27, ⟨Or.inl ⟨(List.mem_of_getElem? (i := 486) rfl), rfl⟩, by decide +kernel, ⟨by decide +kernel, by decide +kernel⟩, (List.mem_of_getElem? (i := 72) (by decide +kernel)), by decide +kernel⟩, (fun h => absurd h (by decide)), am_ts_of am_tc27⟩
theorem am_co28 : am_allT (am_ckc prog_1_method_22_code) 4 am_c28 = true := by decide +kernel
theorem am_tc28 : am_allT (am_tck (am_at am_c28) 0) 4 am_c28 = true := by decide +kernel
set_option maxRecDepth 100000 in
theorem am_p28 : am_PI am_i28 := ⟨am_pc_of am_co28, ⟨Or.inl ⟨(List.mem_of_getElem? (i := 489) rfl), rfl⟩, by decide +kernel, ⟨by decide +kernel, by decide +kernel⟩, (List.mem_of_getElem? (i := 72) (by decide +kernel)), by decide +kernel⟩, (fun h => absurd h (by decide)), am_ts_of am_tc28⟩
theorem am_co29 : am_allT (am_ckc prog_1_method_25_code) 3 am_c29 = true := by decide +kernel
theorem am_tc29 : am_allT (am_tck (am_at am_c29) 0) 3 am_c29 = true := by decide +kernel
set_option maxRecDepth 100000 in
theorem am_p29 : am_PI am_i29 := ⟨am_pc_of am_co29, ⟨Or.inl ⟨(List.mem_of_getElem? (i := 493) rfl), rfl⟩, by decide +kernel, ⟨by decide +kernel, by decide +kernel⟩, (List.mem_of_getElem? (i := 72) (by decide +kernel)), by decide +kernel⟩, (fun h => absurd h (by decide)), am_ts_of am_tc29⟩
theorem am_co30 : am_allT (am_ckc prog_1_method_26_code) 4 am_c30 = true := by decide +kernel
theorem am_tc30 : am_allT (am_tck (am_at am_c30) 0) 4 am_c30 = true := by decide +kernel
set_option maxRecDepth 100000 in
theorem am_p30 : am_PI am_i30 := ⟨am_pc_of am_co30, ⟨Or.inl ⟨(List.mem_of_getElem? (i := 496) rfl), rfl⟩, by decide +kernel, ⟨by decide +kernel, by decide +kernel⟩, (List.mem_of_getElem? (i := 72) (by decide +kernel)), by decide +kernel⟩, (fun h => absurd h (by decide)), am_ts_of am_tc30⟩
theorem am_co31 : am_allT (am_ckc prog_7_method_6_code) 4 am_c31 = true := by decide +kernel
theorem am_tc31 : am_allT (am_tck (am_at am_c31) 1) 4 am_c31 = true := by decide +kernel
set_option maxRecDepth 100000 in
theorem am_p31 : am_PI am_i31 := ⟨am_pc_of am_co31, ⟨Or.inl ⟨(List.mem_of_getElem? (i := 500) rfl), rfl⟩, by decide +kernel, ⟨by decide +kernel, by decide +kernel⟩, (List.mem_of_getElem? (i := 73) (by decide +kernel)), by decide +kernel⟩, (fun h => absurd h (by decide)), am_ts_of am_tc31⟩
theorem am_co32 : am_allT (am_ckc prog_7_method_13_code) 5 am_c32 = true := by decide +kernel
theorem am_tc32 : am_allT (am_tck (am_at am_c32) 1) 5 am_c32 = true := by decide +kernel
set_option maxRecDepth 100000 in
theorem am_p32 : am_PI am_i32 := ⟨am_pc_of am_co32, ⟨Or.inl ⟨(List.mem_of_getElem? (i := 505) rfl), rfl⟩, by decide +kernel, ⟨by decide +kernel, by decide +kernel⟩, (List.mem_of_getElem? (i := 73) (by decide +kernel)), by decide +kernel⟩, (fun h => absurd h (by decide)), am_ts_of am_tc32⟩
theorem am_co33_0 : am_allT (am_ckc prog_7_method_14_code) 5 am_c33_0 = true := by decide +kernel
theorem am_tc33_0 : am_allT (am_tck (am_at am_c33) 1) 5 am_c33_0 = true := by decide +kernel
theorem am_co33_1 : am_allT (am_ckc prog_7_method_14_code) 5 am_c33_1 = true := by decide +kernel
theorem am_tc33_1 : am_allT (am_tck (am_at am_c33) 1) 5 am_c33_1 = true := by decide +kernel
theorem am_co33 : am_allT (am_ckc prog_7_method_14_code) 6 am_c33 = true := (am_allT_nd am_co33_0 am_co33_1)
theorem am_tc33 : am_allT (am_tck (am_at am_c33) 1) 6 am_c33 = true := (am_allT_nd am_tc33_0 am_tc33_1)
set_option maxRecDepth 100000 in
theorem am_p33 : am_PI am_i33 := ⟨am_pc_of am_co33, ⟨Or.inl ⟨(List.mem_of_getElem? (i := 510) rfl), rfl⟩, by decide +kernel, ⟨by decide +kernel, by decide +kernel⟩, (List.mem_of_getElem? (i := 73) (by decide +kernel)), by decide +kernel⟩, (fun h => absurd h (by decide)), am_ts_of am_tc33⟩
end
section
theorem am_co34 : am_allT (am_ckc prog_7_method_5_code) 4 am_c34 = true := by decide +kernel
theorem am_tc34 : am_allT (am_tck (am_at am_c34) 1) 4 am_c34 = true := by decide +kernel
set_option maxRecDepth 100000 in
theorem am_p34 : am_PI am_i34 := ⟨am_pc_of am_co34, ⟨Or.inl ⟨(List.mem_of_getElem? (i := 514) rfl), rfl⟩, by decide +kernel, ⟨by decide +kernel, by decide +kernel⟩, (List.mem_of_getElem? (i := 73) (by decide +kernel)), by decide +kernel⟩, (fun h => absurd h (by decide)), am_ts_of am_tc34⟩
theorem am_co35 : am_allT (am_ckc method_5_code) 5 am_c35 = true := by decide +kernel
theorem am_tc35 : am_allT (am_tck (am_at am_c35) 14) 5 am_c35 = true := by decide +kernel
set_option maxRecDepth 100000 in
theorem am_p35 : am_PI am_i35 := ⟨am_pc_of am_co35, ⟨Or.inr ⟨[(0, 13, 16, 13), (0, 13, 20, 21)], (List.mem_of_getElem? (i := 517) rfl), ⟨⟨rfl, rfl, rfl, by decide, by decide, _, rfl, (List.mem_of_getElem? (i := 341) (by decide +kernel))⟩, ⟨⟨rfl, rfl, rfl, by decide, by decide, _, rfl, (List.mem_of_getElem? (i := 455) (by decide +kernel))⟩, trivial⟩⟩⟩, by decide +kernel, ⟨by decide +kernel, by decide +kernel⟩, (List.mem_of_getElem? (i := 71) (by decide +kernel)), by decide +kernel⟩, (fun h => absurd h (by decide)), am_ts_of am_tc35⟩
theorem am_co36_0 : am_allT (am_ckc prog_1_method_4_code) 5 am_c36_0 = true := by decide +kernel
theorem am_tc36_0 : am_allT (am_tck (am_at am_c36) 0) 5 am_c36_0 = true := by decide +kernel
theorem am_co36_1 : am_allT (am_ckc prog_1_method_4_code) 5 am_c36_1 = true := by decide +kernel
theorem am_tc36_1 : am_allT (am_tck (am_at am_c36) 0) 5 am_c36_1 = true := by decide +kernel
theorem am_co36_2 : am_allT (am_ckc prog_1_method_4_code) 5 am_c36_2 = true := by decide +kernel
theorem am_tc36_2 : am_allT (am_tck (am_at am_c36) 0) 5 am_c36_2 = true := by decide +kernel
theorem am_co36_3 : am_allT (am_ckc prog_1_method_4_code) 5 am_c36_3 = true := by decide +kernel
theorem am_tc36_3 : am_allT (am_tck (am_at am_c36) 0) 5 am_c36_3 = true := by decide +kernel
theorem am_co36 : am_allT (am_ckc prog_1_method_4_code) 7 am_c36 = true := (am_allT_nd (am_allT_nd am_co36_0 am_co36_1) (am_allT_nd am_co36_2 am_co36_3))
theorem am_tc36 : am_allT (am_tck (am_at am_c36) 0) 7 am_c36 = true := (am_allT_nd (am_allT_nd am_tc36_0 am_tc36_1) (am_allT_nd am_tc36_2 am_tc36_3))
set_option maxRecDepth 100000 in
theorem am_p36 : am_PI am_i36 := ⟨am_pc_of am_co36, ⟨Or.inl ⟨(List.mem_of_getElem? (i := 521) rfl), rfl⟩, by decide +kernel, ⟨by decide +kernel, by decide +kernel⟩, (List.mem_of_getElem? (i := 72) (by decide +kernel)), by decide +kernel⟩, (fun h => absurd h (by decide)), am_ts_of am_tc36⟩
theorem am_co37 : am_allT (am_ckc prog_1_method_21_code) 4 am_c37 = true := by decide +kernel
theorem am_tc37 : am_allT (am_tck (am_at am_c37) 0) 4 am_c37 = true := by decide +kernel
set_option maxRecDepth 100000 in
theorem am_p37 : am_PI am_i37 := ⟨am_pc_of am_co37, ⟨Or.inl ⟨(List.mem_of_getElem? (i := 525) rfl), rfl⟩, by decide +kernel, ⟨by decide +kernel, by decide +kernel⟩, (List.mem_of_getElem? (i := 72) (by decide +kernel)), by decide +kernel⟩, (fun h => absurd h (by decide)), am_ts_of am_tc37⟩
theorem am_co38 : am_allT (am_ckc method_6_code) 4 am_c38 = true := by decide +kernel
theorem am_tc38 : am_allT (am_tck (am_at am_c38) 14) 4 am_c38 = true := by decide +kernel
set_option maxRecDepth 100000 in
theorem am_p38 : am_PI am_i38 := ⟨am_pc_of am_co38, ⟨Or.inr ⟨[(0, 5, 8, 13)], (List.mem_of_getElem? (i := 530) rfl), ⟨⟨rfl, rfl, rfl, by decide, by decide, _, rfl, (List.mem_of_getElem? (i := 341) (by decide +kernel))⟩, trivial⟩⟩, by decide +kernel, ⟨by decide +kernel, by decide +kernel⟩, (List.mem_of_getElem? (i := 71) (by decide +kernel)), by decide +kernel⟩, (fun h => absurd h (by decide)), am_ts_of am_tc38⟩
theorem am_co39 : am_allT (am_ckc prog_1_method_5_code) 4 am_c39 = true := by decide +kernel
theorem am_tc39 : am_allT (am_tck (am_at am_c39) 0) 4 am_c39 = true := by decide +kernel
set_option maxRecDepth 100000 in
theorem am_p39 : am_PI am_i39 := ⟨am_pc_of am_co39, ⟨Or.inl ⟨(List.mem_of_getElem? (i := 534) rfl), rfl⟩, by decide +kernel, ⟨by decide +kernel, by decide +kernel⟩, (List.mem_of_getElem? (i := 72) (by decide +kernel)), by decide +kernel⟩, (fun h => absurd h (by decide)), am_ts_of am_tc39⟩
theorem am_co40 : am_allT (am_ckc prog_7_method_11_code) 2 am_c40 = true := by decide +kernel
theorem am_tc40 : am_allT (am_tck (am_at am_c40) 1) 2 am_c40 = true := by decide +kernel
set_option maxRecDepth 100000 in
theorem am_p40 : am_PI am_i40 := ⟨am_pc_of am_co40, ⟨Or.inl ⟨(List.mem_of_getElem? (i := 538) rfl), rfl⟩, by decide +kernel, ⟨by decide +kernel, by decide +kernel⟩, (List.mem_of_getElem? (i := 73) (by decide +kernel)), by decide +kernel⟩, (fun h => absurd h (by decide)), am_ts_of am_tc40⟩
theorem am_co41 : am_allT (am_ckc method_7_code) 4 am_c41 = true := by decide +kernel
theorem am_tc41 : am_allT (am_tck (am_at am_c41) 14) 4 am_c41 = true := by decide +kernel
set_option maxRecDepth 100000 in
theorem am_p41 : am_PI am_i41 := ⟨am_pc_of am_co41, ⟨Or.inr ⟨[(0, 9, 12, 21)], (List.mem_of_getElem? (i := 541) rfl), ⟨⟨rfl, rfl, rfl, by decide, by decide, _, rfl, (List.mem_of_getElem? (i := 455) (by decide +kernel))⟩, trivial⟩⟩, by decide +kernel, ⟨by decide +kernel, by decide +kernel⟩, (List.mem_of_getElem? (i := 71) (by decide +kernel)), by decide +kernel⟩, (fun h => absurd h (by decide)), am_ts_of am_tc41⟩
theorem am_co42_0 : am_allT (am_ckc prog_1_method_6_code) 5 am_c42_0 = true := by decide +kernel
theorem am_tc42_0 : am_allT (am_tck (am_at am_c42) 0) 5 am_c42_0 = true := by decide +kernel
theorem am_co42_1 : am_allT (am_ckc prog_1_method_6_code) 5 am_c42_1 = true := by decide +kernel
theorem am_tc42_1 : am_allT (am_tck (am_at am_c42) 0) 5 am_c42_1 = true := by decide +kernel
theorem am_co42_2 : am_allT (am_ckc prog_1_method_6_code) 5 am_c42_2 = true := by decide +kernel
theorem am_tc42_2 : am_allT (am_tck (am_at am_c42) 0) 5 am_c42_2 = true := by decide +kernel
theorem am_co42_3 : am_allT (am_ckc prog_1_method_6_code) 5 am_c42_3 = true := by decide +kernel
theorem am_tc42_3 : am_allT (am_tck (am_at am_c42) 0) 5 am_c42_3 = true := by decide +kernel
theorem am_co42 : am_allT (am_ckc prog_1_method_6_code) 7 am_c42 = true := (am_allT_nd (am_allT_nd am_co42_0 am_co42_1) (am_allT_nd am_co42_2 am_co42_3))
theorem am_tc42 : am_allT (am_tck (am_at am_c42) 0) 7 am_c42 = true := (am_allT_nd (am_allT_nd am_tc42_0 am_tc42_1) (am_allT_nd am_tc42_2 am_tc42_3))
set_option maxRecDepth 100000 in
theorem am_p42 : am_PI am_i42 := ⟨am_pc_of am_co42, ⟨Or.inl ⟨(List.mem_of_getElem? (i := 545) rfl), rfl⟩, by decide +kernel, ⟨by decide +kernel, by decide +kernel⟩, (List.mem_of_getElem? (i := 72) (by decide +kernel)), by decide +kernel⟩, (fun h => absurd h (by decide)), am_ts_of am_tc42⟩
theorem am_co43 : am_allT (am_ckc prog_7_method_2_code) 2 am_c43 = true := by decide +kernel
theorem am_tc43 : am_allT (am_tck (am_at am_c43) 1) 2 am_c43 = true := by decide +kernel
set_option maxRecDepth 100000 in
theorem am_p43 : am_PI am_i43 := ⟨am_pc_of am_co43, ⟨Or.inl ⟨(List.mem_of_getElem? (i := 550) rfl), rfl⟩, by decide +kernel, ⟨by decide +kernel, by decide +kernel⟩, (List.mem_of_getElem? (i := 73) (by decide +kernel)), by decide +kernel⟩, (fun h => absurd h (by decide)), am_ts_of am_tc43⟩
theorem am_co44_0 : am_allT (am_ckc prog_3_method_2_code) 5 am_c44_0 = true := by decide +kernel
theorem am_tc44_0 : am_allT (am_tck (am_at am_c44) 2) 5 am_c44_0 = true := by decide +kernel
theorem am_co44_1 : am_allT (am_ckc prog_3_method_2_code) 5 am_c44_1 = true := by decide +kernel
theorem am_tc44_1 : am_allT (am_tck (am_at am_c44) 2) 5 am_c44_1 = true := by decide +kernel
theorem am_co44 : am_allT (am_ckc prog_3_method_2_code) 6 am_c44 = true := (am_allT_nd am_co44_0 am_co44_1)
theorem am_tc44 : am_allT (am_tck (am_at am_c44) 2) 6 am_c44 = true := (am_allT_nd am_tc44_0 am_tc44_1)
set_option maxRecDepth 100000 in
theorem am_p44 : am_PI am_i44 := ⟨am_pc_of am_co44, ⟨Or.inl ⟨(List.mem_of_getElem? (i := 554) rfl), rfl⟩, by decide +kernel, ⟨by decide +kernel, by decide +kernel⟩, (List.mem_of_getElem? (i := 74) (by decide +kernel)), by decide +kernel⟩, (fun h => absurd h (by decide)), am_ts_of am_tc44⟩
theorem am_co45 : am_allT (am_ckc prog_3_method_9_code) 4 am_c45 = true := by decide +kernel
theorem am_tc45 : am_allT (am_tck (am_at am_c45) 2) 4 am_c45 = true := by decide +kernel
set_option maxRecDepth 100000 in
theorem am_p45 : am_PI am_i45 := ⟨am_pc_of am_co45, ⟨Or.inl ⟨(List.mem_of_getElem? (i := 558) rfl), rfl⟩, by decide +kernel, ⟨by decide +kernel, by decide +kernel⟩, (List.mem_of_getElem? (i := 74) (by decide +kernel)), by decide +kernel⟩, (fun h => absurd h (by decide)), am_ts_of am_tc45⟩
theorem am_co46_0 : am_allT (am_ckc prog_3_method_3_code) 5 am_c46_0 = true := by decide +kernel
theorem am_tc46_0 : am_allT (am_tck (am_at am_c46) 2) 5 am_c46_0 = true := by decide +kernel
theorem am_co46_1 : am_allT (am_ckc prog_3_method_3_code) 5 am_c46_1 = true := by decide +kernel
theorem am_tc46_1 : am_allT (am_tck (am_at am_c46) 2) 5 am_c46_1 = true := by decide +kernel
theorem am_co46_2 : am_allT (am_ckc prog_3_method_3_code) 5 am_c46_2 = true := by decide +kernel
theorem am_tc46_2 : am_allT (am_tck (am_at am_c46) 2) 5 am_c46_2 = true := by decide +kernel
theorem am_co46_3 : am_allT (am_ckc prog_3_method_3_code) 5 am_c46_3 = true := by decide +kernel
theorem am_tc46_3 : am_allT (am_tck (am_at am_c46) 2) 5 am_c46_3 = true := by decide +kernel
theorem am_co46 : am_allT (am_ckc prog_3_method_3_code) 7 am_c46 = true := (am_allT_nd (am_allT_nd am_co46_0 am_co46_1) (am_allT_nd am_co46_2 am_co46_3))
theorem am_tc46 : am_allT (am_tck (am_at am_c46) 2) 7 am_c46 = true := (am_allT_nd (am_allT_nd am_tc46_0 am_tc46_1) (am_allT_nd am_tc46_2 am_tc46_3))
set_option maxRecDepth 100000 in
theorem am_p46 : am_PI am_i46 := ⟨am_pc_of am_co46, ⟨Or.inl ⟨(List.mem_of_getElem? (i := 564) rfl), rfl⟩, by decide +kernel, ⟨by decide +kernel, by decide +kernel⟩, (List.mem_of_getElem? (i := 74) (by decide +kernel)), by decide +kernel⟩, (fun h => absurd h (by decide)), am_ts_of am_tc46⟩
theorem am_co47_0 : am_allT (am_ckc prog_7_method_7_code) 5 am_c47_0 = true := by decide +kernel
theorem am_tc47_0 : am_allT (am_tck (am_at am_c47) 1) 5 am_c47_0 = true := by decide +kernel
theorem am_co47_1 : am_allT (am_ckc prog_7_method_7_code) 5 am_c47_1 = true := by decide +kernel
theorem am_tc47_1 : am_allT (am_tck (am_at am_c47) 1) 5 am_c47_1 = true := by decide +kernel
theorem am_co47 : am_allT (am_ckc prog_7_method_7_code) 6 am_c47 = true := (am_allT_nd am_co47_0 am_co47_1)
theorem am_tc47 : am_allT (am_tck (am_at am_c47) 1) 6 am_c47 = true := (am_allT_nd am_tc47_0 am_tc47_1)
set_option maxRecDepth 100000 in
theorem am_p47 : am_PI am_i47 := ⟨am_pc_of am_co47, ⟨Or.inl ⟨(List.mem_of_getElem? (i := 568) rfl), rfl⟩, by decide +kernel, ⟨by decide +kernel, by decide +kernel⟩, (List.mem_of_getElem? (i := 73) (by decide +kernel)), by decide +kernel⟩, (fun h => absurd h (by decide)), am_ts_of am_tc47⟩
theorem am_co48 : am_allT (am_ckc prog_3_method_8_code) 4 am_c48 = true := by decide +kernel
theorem am_tc48 : am_allT (am_tck (am_at am_c48) 2) 4 am_c48 = true := by decide +kernel
set_option maxRecDepth 100000 in
theorem am_p48 : am_PI am_i48 := ⟨am_pc_of am_co48, ⟨Or.inl ⟨(List.mem_of_getElem? (i := 572) rfl), rfl⟩, by decide +kernel, ⟨by decide +kernel, by decide +kernel⟩, (List.mem_of_getElem? (i := 74) (by decide +kernel)), by decide +kernel⟩, (fun h => absurd h (by decide)), am_ts_of am_tc48⟩
theorem am_co49 : am_allT (am_ckc prog_3_method_6_code) 4 am_c49 = true := by decide +kernel
theorem am_tc49 : am_allT (am_tck (am_at am_c49) 2) 4 am_c49 = true := by decide +kernel
set_option maxRecDepth 100000 in
theorem am_p49 : am_PI am_i49 := ⟨am_pc_of am_co49, ⟨Or.inl ⟨(List.mem_of_getElem? (i := 576) rfl), rfl⟩, by decide +kernel, ⟨by decide +kernel, by decide +kernel⟩, (List.mem_of_getElem? (i := 74) (by decide +kernel)), by decide +kernel⟩, (fun h => absurd h (by decide)), am_ts_of am_tc49⟩
theorem am_co50 : am_allT (am_ckc prog_3_method_7_code) 4 am_c50 = true := by decide +kernel
theorem am_tc50 : am_allT (am_tck (am_at am_c50) 2) 4 am_c50 = true := by decide +kernel
set_option maxRecDepth 100000 in
theorem am_p50 : am_PI am_i50 := ⟨am_pc_of am_co50, ⟨Or.inl ⟨(List.mem_of_getElem? (i := 580) rfl), rfl⟩, by decide +kernel, ⟨by decide +kernel, by decide +kernel⟩, (List.mem_of_getElem? (i := 74) (by decide +kernel)), by decide +kernel⟩, (fun h => absurd h (by decide)), am_ts_of am_tc50⟩
theorem am_co51 : am_allT (am_ckc prog_1_method_27_code) 4 am_c51 = true := by decide +kernel
theorem am_tc51 : am_allT (am_tck (am_at am_c51) 0) 4 am_c51 = true := by decide +kernel
set_option maxRecDepth 100000 in
theorem am_p51 : am_PI am_i51 := ⟨am_pc_of am_co51, ⟨Or.inl ⟨(List.mem_of_getElem? (i := 584) rfl), rfl⟩, by decide +kernel, ⟨by decide +kernel, by decide +kernel⟩, (List.mem_of_getElem? (i := 72) (by decide +kernel)), by decide +kernel⟩, (fun h => absurd h (by decide)), am_ts_of am_tc51⟩
theorem am_co52 : am_allT (am_ckc prog_3_method_4_code) 5 am_c52 = true := by decide +kernel
theorem am_tc52 : am_allT (am_tck (am_at am_c52) 2) 5 am_c52 = true := by decide +kernel
set_option maxRecDepth 100000 in
theorem am_p52 : am_PI am_i52 := ⟨am_pc_of am_co52, ⟨Or.inl ⟨(List.mem_of_getElem? (i := 588) rfl), rfl⟩, by decide +kernel, ⟨by decide +kernel, by decide +kernel⟩, (List.mem_of_getElem? (i := 74) (by decide +kernel)), by decide +kernel⟩, (fun h => absurd h (by decide)), am_ts_of am_tc52⟩
theorem am_co53 : am_allT (am_ckc prog_1_method_28_code) 4 am_c53 = true := by decide +kernel
theorem am_tc53 : am_allT (am_tck (am_at am_c53) 0) 4 am_c53 = true := by decide +kernel
set_option maxRecDepth 100000 in
theorem am_p53 : am_PI am_i53 := ⟨am_pc_of am_co53, ⟨Or.inl ⟨(List.mem_of_getElem? (i := 591) rfl), rfl⟩, by decide +kernel, ⟨by decide +kernel, by decide +kernel⟩, (List.mem_of_getElem? (i := 72) (by decide +kernel)), by decide +kernel⟩, (fun h => absurd h (by decide)), am_ts_of am_tc53⟩
theorem am_co54_0 : am_allT (am_ckc prog_1_method_29_code) 5 am_c54_0 = true := by decide +kernel
theorem am_tc54_0 : am_allT (am_tck (am_at am_c54) 0) 5 am_c54_0 = true := by decide +kernel
theorem am_co54_1 : am_allT (am_ckc prog_1_method_29_code) 5 am_c54_1 = true := by decide +kernel
theorem am_tc54_1 : am_allT (am_tck (am_at am_c54) 0) 5 am_c54_1 = true := by decide +kernel
theorem am_co54 : am_allT (am_ckc prog_1_method_29_code) 6 am_c54 = true := (am_allT_nd am_co54_0 am_co54_1)
theorem am_tc54 : am_allT (am_tck (am_at am_c54) 0) 6 am_c54 = true := (am_allT_nd am_tc54_0 am_tc54_1)
set_option maxRecDepth 100000 in
theorem am_p54 : am_PI am_i54 := ⟨am_pc_of am_co54, ⟨Or.inl ⟨(List.mem_of_getElem? (i := 594) rfl), rfl⟩, by decide +kernel, ⟨by decide +kernel, by decide +kernel⟩, (List.mem_of_getElem? (i := 72) (by decide +kernel)), by decide +kernel⟩, (fun h => absurd h (by decide)), am_ts_of am_tc54⟩
theorem am_co55_0 : am_allT (am_ckc prog_3_method_5_code) 5 am_c55_0 = true := by decide +kernel
theorem am_tc55_0 : am_allT (am_tck (am_at am_c55) 2) 5 am_c55_0 = true := by decide +kernel
theorem am_co55_1 : am_allT (am_ckc prog_3_method_5_code) 5 am_c55_1 = true := by decide +kernel
theorem am_tc55_1 : am_allT (am_tck (am_at am_c55) 2) 5 am_c55_1 = true := by decide +kernel
theorem am_co55 : am_allT (am_ckc prog_3_method_5_code) 6 am_c55 = true := (am_allT_nd am_co55_0 am_co55_1)
theorem am_tc55 : am_allT (am_tck (am_at am_c55) 2) 6 am_c55 = true := (am_allT_nd am_tc55_0 am_tc55_1)
set_option maxRecDepth 100000 in
theorem am_p55 : am_PI am_i55 := ⟨am_pc_of am_co55, ⟨Or.inl ⟨(List.mem_of_getElem? (i := 599) rfl), rfl⟩, by decide +kernel, ⟨by decide +kernel, by decide +kernel⟩, (List.mem_of_getElem? (i := 74) (by decide +kernel)), by decide +kernel⟩, (fun h => absurd h (by decide)), am_ts_of am_tc55⟩
theorem am_co56 : am_allT (am_ckc prog_7_method_8_code) 5 am_c56 = true := by decide +kernel
theorem am_tc56 : am_allT (am_tck (am_at am_c56) 1) 5 am_c56 = true := by decide +kernel
set_option maxRecDepth 100000 in
theorem am_p56 : am_PI am_i56 := ⟨am_pc_of am_co56, ⟨Or.inl ⟨(List.mem_of_getElem? (i := 603) rfl), rfl⟩, by decide +kernel, ⟨by decide +kernel, by decide +kernel⟩, (List.mem_of_getElem? (i := 73) (by decide +kernel)), by decide +kernel⟩, (fun h => absurd h (by decide)), am_ts_of am_tc56⟩
theorem am_co57_0 : am_allT (am_ckc prog_8_method_2_code) 5 am_c57_0 = true := by decide +kernel
theorem am_tc57_0 : am_allT (am_tck (am_at am_c57) 3) 5 am_c57_0 = true := by decide +kernel
theorem am_co57_1 : am_allT (am_ckc prog_8_method_2_code) 5 am_c57_1 = true := by decide +kernel
theorem am_tc57_1 : am_allT (am_tck (am_at am_c57) 3) 5 am_c57_1 = true := by decide +kernel
theorem am_co57 : am_allT (am_ckc prog_8_method_2_code) 6 am_c57 = true := (am_allT_nd am_co57_0 am_co57_1)
theorem am_tc57 : am_allT (am_tck (am_at am_c57) 3) 6 am_c57 = true := (am_allT_nd am_tc57_0 am_tc57_1)
set_option maxRecDepth 100000 in
theorem am_p57 : am_PI am_i57 := ⟨am_pc_of am_co57, ⟨Or.inl ⟨(List.mem_of_getElem? (i := 608) rfl), rfl⟩, by decide +kernel, ⟨by decide +kernel, by decide +kernel⟩, (List.mem_of_getElem? (i := 75) (by decide +kernel)), by decide +kernel⟩, (fun h => absurd h (by decide)), am_ts_of am_tc57⟩
theorem am_co58 : am_allT (am_ckc prog_8_method_3_code) 5 am_c58 = true := by decide +kernel
theorem am_tc58 : am_allT (am_tck (am_at am_c58) 3) 5 am_c58 = true := by decide +kernel
set_option maxRecDepth 100000 in
theorem am_p58 : am_PI am_i58 := ⟨am_pc_of am_co58, ⟨Or.inl ⟨(List.mem_of_getElem? (i := 615) rfl), rfl⟩, by decide +kernel, ⟨by decide +kernel, by decide +kernel⟩, (List.mem_of_getElem? (i := 75) (by decide +kernel)), by decide +kernel⟩, (fun h => absurd h (by decide)), am_ts_of am_tc58⟩
theorem am_co59_0 : am_allT (am_ckc prog_8_method_4_code) 5 am_c59_0 = true := by decide +kernel
theorem am_tc59_0 : am_allT (am_tck (am_at am_c59) 3) 5 am_c59_0 = true := by decide +kernel
theorem am_co59_1 : am_allT (am_ckc prog_8_method_4_code) 5 am_c59_1 = true := by decide +kernel
theorem am_tc59_1 : am_allT (am_tck (am_at am_c59) 3) 5 am_c59_1 = true := by decide +kernel
theorem am_co59 : am_allT (am_ckc prog_8_method_4_code) 6 am_c59 = true := (am_allT_nd am_co59_0 am_co59_1)
theorem am_tc59 : am_allT (am_tck (am_at am_c59) 3) 6 am_c59 = true := (am_allT_nd am_tc59_0 am_tc59_1)
set_option maxRecDepth 100000 in
theorem am_p59 : am_PI am_i59 := ⟨am_pc_of am_co59, ⟨Or.inl ⟨(List.mem_of_getElem? (i := 619) rfl), rfl⟩, by decide +kernel, ⟨by decide +kernel, by decide +kernel⟩, (List.mem_of_getElem? (i := 75) (by decide +kernel)), by decide +kernel⟩, (fun h => absurd h (by decide)), am_ts_of am_tc59⟩
theorem am_co60_0 : am_allT (am_ckc prog_8_method_5_code) 5 am_c60_0 = true := by decide +kernel
theorem am_tc60_0 : am_allT (am_tck (am_at am_c60) 3) 5 am_c60_0 = true := by decide +kernel
theorem am_co60_1 : am_allT (am_ckc prog_8_method_5_code) 5 am_c60_1 = true := by decide +kernel
theorem am_tc60_1 : am_allT (am_tck (am_at am_c60) 3) 5 am_c60_1 = true := by decide +kernel
theorem am_co60 : am_allT (am_ckc prog_8_method_5_code) 6 am_c60 = true := (am_allT_nd am_co60_0 am_co60_1)
theorem am_tc60 : am_allT (am_tck (am_at am_c60) 3) 6 am_c60 = true := (am_allT_nd am_tc60_0 am_tc60_1)
set_option maxRecDepth 100000 in
theorem am_p60 : am_PI am_i60 := ⟨am_pc_of am_co60, ⟨Or.inl ⟨(List.mem_of_getElem? (i := 623) rfl), rfl⟩, by decide +kernel, ⟨by decide +kernel, by decide +kernel⟩, (List.mem_of_getElem? (i := 75) (by decide +kernel)), by decide +kernel⟩, (fun h => absurd h (by decide)), am_ts_of am_tc60⟩
theorem am_co61 : am_allT (am_ckc prog_7_method_10_code) 5 am_c61 = true := by decide +kernel
theorem am_tc61 : am_allT (am_tck (am_at am_c61) 1) 5 am_c61 = true := by decide +kernel
set_option maxRecDepth 100000 in
theorem am_p61 : am_PI am_i61 := ⟨am_pc_of am_co61, ⟨Or.inl ⟨(List.mem_of_getElem? (i := 627) rfl), rfl⟩, by decide +kernel, ⟨by decide +kernel, by decide +kernel⟩, (List.mem_of_getElem? (i := 73) (by decide +kernel)), by decide +kernel⟩, (fun h => absurd h (by decide)), am_ts_of am_tc61⟩
theorem am_co62 : am_allT (am_ckc prog_7_method_9_code) 4 am_c62 = true := by decide +kernel
theorem am_tc62 : am_allT (am_tck (am_at am_c62) 1) 4 am_c62 = true := by decide +kernel
set_option maxRecDepth 100000 in
theorem am_p62 : am_PI am_i62 := ⟨am_pc_of am_co62, ⟨Or.inl ⟨(List.mem_of_getElem? (i := 634) rfl), rfl⟩, by decide +kernel, ⟨by decide +kernel, by decide +kernel⟩, (List.mem_of_getElem? (i := 73) (by decide +kernel)), by decide +kernel⟩, (fun h => absurd h (by decide)), am_ts_of am_tc62⟩
theorem am_co63_0 : am_allT (am_ckc prog_5_method_2_code) 5 am_c63_0 = true := by decide +kernel
theorem am_tc63_0 : am_allT (am_tck (am_at am_c63) 4) 5 am_c63_0 = true := by decide +kernel
theorem am_co63_1 : am_allT (am_ckc prog_5_method_2_code) 5 am_c63_1 = true := by decide +kernel
theorem am_tc63_1 : am_allT (am_tck (am_at am_c63) 4) 5 am_c63_1 = true := by decide +kernel
theorem am_co63_2 : am_allT (am_ckc prog_5_method_2_code) 5 am_c63_2 = true := by decide +kernel
theorem am_tc63_2 : am_allT (am_tck (am_at am_c63) 4) 5 am_c63_2 = true := by decide +kernel
theorem am_co63_3 : am_allT (am_ckc prog_5_method_2_code) 5 am_c63_3 = true := by decide +kernel
theorem am_tc63_3 : am_allT (am_tck (am_at am_c63) 4) 5 am_c63_3 = true := by decide +kernel
theorem am_co63 : am_allT (am_ckc prog_5_method_2_code) 7 am_c63 = true := (am_allT_nd (am_allT_nd am_co63_0 am_co63_1) (am_allT_nd am_co63_2 am_co63_3))
theorem am_tc63 : am_allT (am_tck (am_at am_c63) 4) 7 am_c63 = true := (am_allT_nd (am_allT_nd am_tc63_0 am_tc63_1) (am_allT_nd am_tc63_2 am_tc63_3))
set_option maxRecDepth 100000 in
theorem am_p63 : am_PI am_i63 := ⟨am_pc_of am_co63, ⟨Or.inl ⟨(List.mem_of_getElem? (i := 640) rfl), rfl⟩, by decide +kernel, ⟨by decide +kernel, by decide +kernel⟩, (List.mem_of_getElem? (i := 76) (by decide +kernel)), by decide +kernel⟩, (fun h => absurd h (by decide)), am_ts_of am_tc63⟩
theorem am_co64 : am_allT (am_ckc prog_16_method_69_code) 3 am_c64 = true := by decide +kernel
theorem am_tc64 : am_allT (am_tck (am_at am_c64) 16) 3 am_c64 = true := by decide +kernel
set_option maxRecDepth 100000 in
theorem am_p64 : am_PI am_i64 := ⟨am_pc_of am_co64, ⟨Or.inl ⟨(List.mem_of_getElem? (i := 644) rfl), rfl⟩, by decide +kernel, ⟨by decide +kernel, by decide +kernel⟩, (List.mem_of_getElem? (i := 89) (by decide +kernel)), by decide +kernel⟩, (fun h => absurd h (by decide)), am_ts_of am_tc64⟩
theorem am_co65_0 : am_allT (am_ckc prog_5_method_3_code) 5 am_c65_0 = true := by decide +kernel
theorem am_tc65_0 : am_allT (am_tck (am_at am_c65) 4) 5 am_c65_0 = true := by decide +kernel
theorem am_co65_1 : am_allT (am_ckc prog_5_method_3_code) 5 am_c65_1 = true := by decide +kernel
theorem am_tc65_1 : am_allT (am_tck (am_at am_c65) 4) 5 am_c65_1 = true := by decide +kernel
theorem am_co65 : am_allT (am_ckc prog_5_method_3_code) 6 am_c65 = true := (am_allT_nd am_co65_0 am_co65_1)
theorem am_tc65 : am_allT (am_tck (am_at am_c65) 4) 6 am_c65 = true := (am_allT_nd am_tc65_0 am_tc65_1)
set_option maxRecDepth 100000 in
theorem am_p65 : am_PI am_i65 := ⟨am_pc_of am_co65, ⟨Or.inl ⟨(List.mem_of_getElem? (i := 648) rfl), rfl⟩, by decide +kernel, ⟨by decide +kernel, by decide +kernel⟩, (List.mem_of_getElem? (i := 76) (by decide +kernel)), by decide +kernel⟩, (fun h => absurd h (by decide)), am_ts_of am_tc65⟩
theorem am_co66_0 : am_allT (am_ckc prog_5_method_6_code) 5 am_c66_0 = true := by decide +kernel
theorem am_tc66_0 : am_allT (am_tck (am_at am_c66) 4) 5 am_c66_0 = true := by decide +kernel
theorem am_co66_1 : am_allT (am_ckc prog_5_method_6_code) 5 am_c66_1 = true := by decide +kernel
theorem am_tc66_1 : am_allT (am_tck (am_at am_c66) 4) 5 am_c66_1 = true := by decide +kernel
theorem am_co66 : am_allT (am_ckc prog_5_method_6_code) 6 am_c66 = true := (am_allT_nd am_co66_0 am_co66_1)
theorem am_tc66 : am_allT (am_tck (am_at am_c66) 4) 6 am_c66 = true := (am_allT_nd am_tc66_0 am_tc66_1)
set_option maxRecDepth 100000 in
theorem am_p66 : am_PI am_i66 := ⟨am_pc_of am_co66, ⟨Or.inl ⟨(List.mem_of_getElem? (i := 652) rfl), rfl⟩, by decide +kernel, ⟨by decide +kernel, by decide +kernel⟩, (List.mem_of_getElem? (i := 76) (by decide +kernel)), by decide +kernel⟩, (fun h => absurd h (by decide)), am_ts_of am_tc66⟩
theorem am_co67 : am_allT (am_ckc prog_16_method_65_code) 3 am_c67 = true := by decide +kernel
theorem am_tc67 : am_allT (am_tck (am_at am_c67) 16) 3 am_c67 = true := by decide +kernel
set_option maxRecDepth 100000 in
theorem am_p67 : am_PI am_i67 := ⟨am_pc_of am_co67, ⟨Or.inl ⟨(List.mem_of_getElem? (i := 658) rfl), rfl⟩, by decide +kernel, ⟨by decide +kernel, by decide +kernel⟩, (List.mem_of_getElem? (i := 89) (by decide +kernel)), by decide +kernel⟩, (fun h => absurd h (by decide)), am_ts_of am_tc67⟩
end
section
theorem am_co68_0 : am_allT (am_ckc prog_5_method_4_code) 5 am_c68_0 = true := by decide +kernel
theorem am_tc68_0 : am_allT (am_tck (am_at am_c68) 4) 5 am_c68_0 = true := by decide +kernel
theorem am_co68_1 : am_allT (am_ckc prog_5_method_4_code) 5 am_c68_1 = true := by decide +kernel
theorem am_tc68_1 : am_allT (am_tck (am_at am_c68) 4) 5 am_c68_1 = true := by decide +kernel
theorem am_co68 : am_allT (am_ckc prog_5_method_4_code) 6 am_c68 = true := (am_allT_nd am_co68_0 am_co68_1)
theorem am_tc68 : am_allT (am_tck (am_at am_c68) 4) 6 am_c68 = true := (am_allT_nd am_tc68_0 am_tc68_1)
set_option maxRecDepth 100000 in
theorem am_p68 : am_PI am_i68 := ⟨am_pc_of am_co68, ⟨Or.inl ⟨(List.mem_of_getElem? (i := 664) rfl), rfl⟩, by decide +kernel, ⟨by decide +kernel, by decide +kernel⟩, (List.mem_of_getElem? (i := 76) (by decide +kernel)), by decide +kernel⟩, (fun h => absurd h (by decide)), am_ts_of am_tc68⟩
theorem am_co69 : am_allT (am_ckc prog_5_method_5_code) 5 am_c69 = true := by decide +kernel
theorem am_tc69 : am_allT (am_tck (am_at am_c69) 4) 5 am_c69 = true := by decide +kernel
set_option maxRecDepth 100000 in
theorem am_p69 : am_PI am_i69 := ⟨am_pc_of am_co69, ⟨Or.inl ⟨(List.mem_of_getElem? (i := 668) rfl), rfl⟩, by decide +kernel, ⟨by decide +kernel, by decide +kernel⟩, (List.mem_of_getElem? (i := 76) (by decide +kernel)), by decide +kernel⟩, (fun h => absurd h (by decide)), am_ts_of am_tc69⟩
theorem am_co70_0 : am_allT (am_ckc prog_7_method_17_code) 5 am_c70_0 = true := by decide +kernel
theorem am_tc70_0 : am_allT (am_tck (am_at am_c70) 1) 5 am_c70_0 = true := by decide +kernel
theorem am_co70_1 : am_allT (am_ckc prog_7_method_17_code) 5 am_c70_1 = true := by decide +kernel
theorem am_tc70_1 : am_allT (am_tck (am_at am_c70) 1) 5 am_c70_1 = true := by decide +kernel
theorem am_co70 : am_allT (am_ckc prog_7_method_17_code) 6 am_c70 = true := (am_allT_nd am_co70_0 am_co70_1)
theorem am_tc70 : am_allT (am_tck (am_at am_c70) 1) 6 am_c70 = true := (am_allT_nd am_tc70_0 am_tc70_1)
set_option maxRecDepth 100000 in
theorem am_p70 : am_PI am_i70 := ⟨am_pc_of am_co70, ⟨Or.inl ⟨(List.mem_of_getElem? (i := 673) rfl), rfl⟩, by decide +kernel, ⟨by decide +kernel, by decide +kernel⟩, (List.mem_of_getElem? (i := 73) (by decide +kernel)), by decide +kernel⟩, (fun h => absurd h (by decide)), am_ts_of am_tc70⟩
theorem am_co71 : am_allT (am_ckc prog_7_method_18_code) 5 am_c71 = true := by decide +kernel
theorem am_tc71 : am_allT (am_tck (am_at am_c71) 1) 5 am_c71 = true := by decide +kernel
set_option maxRecDepth 100000 in
theorem am_p71 : am_PI am_i71 := ⟨am_pc_of am_co71, ⟨Or.inl ⟨(List.mem_of_getElem? (i := 677) rfl), rfl⟩, by decide +kernel, ⟨by decide +kernel, by decide +kernel⟩, (List.mem_of_getElem? (i := 73) (by decide +kernel)), by decide +kernel⟩, (fun h => absurd h (by decide)), am_ts_of am_tc71⟩
theorem am_co72 : am_allT (am_ckc prog_7_method_19_code) 5 am_c72 = true := by decide +kernel
theorem am_tc72 : am_allT (am_tck (am_at am_c72) 1) 5 am_c72 = true := by decide +kernel
set_option maxRecDepth 100000 in
theorem am_p72 : am_PI am_i72 := ⟨am_pc_of am_co72, ⟨Or.inl ⟨(List.mem_of_getElem? (i := 681) rfl), rfl⟩, by decide +kernel, ⟨by decide +kernel, by decide +kernel⟩, (List.mem_of_getElem? (i := 73) (by decide +kernel)), by decide +kernel⟩, (fun h => absurd h (by decide)), am_ts_of am_tc72⟩
theorem am_co73 : am_allT (am_ckc method_8_code) 5 am_c73 = true := by decide +kernel
theorem am_tc73 : am_allT (am_tck (am_at am_c73) 14) 5 am_c73 = true := by decide +kernel
set_option maxRecDepth 100000 in
theorem am_p73 : am_PI am_i73 := ⟨am_pc_of am_co73, ⟨Or.inr ⟨[(0, 14, 17, 13), (0, 14, 21, 21)], (List.mem_of_getElem? (i := 685) rfl), ⟨⟨rfl, rfl, rfl, by decide, by decide, _, rfl, (List.mem_of_getElem? (i := 341) (by decide +kernel))⟩, ⟨⟨rfl, rfl, rfl, by decide, by decide, _, rfl, (List.mem_of_getElem? (i := 455) (by decide +kernel))⟩, trivial⟩⟩⟩, by decide +kernel, ⟨by decide +kernel, by decide +kernel⟩, (List.mem_of_getElem? (i := 71) (by decide +kernel)), by decide +kernel⟩, (fun h => absurd h (by decide)), am_ts_of am_tc73⟩
theorem am_co74 : am_allT (am_ckc prog_1_method_8_code) 5 am_c74 = true := by decide +kernel
theorem am_tc74 : am_allT (am_tck (am_at am_c74) 0) 5 am_c74 = true := by decide +kernel
set_option maxRecDepth 100000 in
theorem am_p74 : am_PI am_i74 := ⟨am_pc_of am_co74, ⟨Or.inl ⟨(List.mem_of_getElem? (i := 689) rfl), rfl⟩, by decide +kernel, ⟨by decide +kernel, by decide +kernel⟩, (List.mem_of_getElem? (i := 72) (by decide +kernel)), by decide +kernel⟩, (fun h => absurd h (by decide)), am_ts_of am_tc74⟩
theorem am_co75 : am_allT (am_ckc method_9_code) 5 am_c75 = true := by decide +kernel
theorem am_tc75 : am_allT (am_tck (am_at am_c75) 14) 5 am_c75 = true := by decide +kernel
set_option maxRecDepth 100000 in
theorem am_p75 : am_PI am_i75 := ⟨am_pc_of am_co75, ⟨Or.inr ⟨[(0, 12, 15, 13), (0, 12, 19, 21)], (List.mem_of_getElem? (i := 696) rfl), ⟨⟨rfl, rfl, rfl, by decide, by decide, _, rfl, (List.mem_of_getElem? (i := 341) (by decide +kernel))⟩, ⟨⟨rfl, rfl, rfl, by decide, by decide, _, rfl, (List.mem_of_getElem? (i := 455) (by decide +kernel))⟩, trivial⟩⟩⟩, by decide +kernel, ⟨by decide +kernel, by decide +kernel⟩, (List.mem_of_getElem? (i := 71) (by decide +kernel)), by decide +kernel⟩, (fun h => absurd h (by decide)), am_ts_of am_tc75⟩
theorem am_co76 : am_allT (am_ckc prog_1_method_9_code) 5 am_c76 = true := by decide +kernel
theorem am_tc76 : am_allT (am_tck (am_at am_c76) 0) 5 am_c76 = true := by decide +kernel
set_option maxRecDepth 100000 in
theorem am_p76 : am_PI am_i76 := ⟨am_pc_of am_co76, ⟨Or.inl ⟨(List.mem_of_getElem? (i := 700) rfl), rfl⟩, by decide +kernel, ⟨by decide +kernel, by decide +kernel⟩, (List.mem_of_getElem? (i := 72) (by decide +kernel)), by decide +kernel⟩, (fun h => absurd h (by decide)), am_ts_of am_tc76⟩
theorem am_co77 : am_allT (am_ckc method_10_code) 4 am_c77 = true := by decide +kernel
theorem am_tc77 : am_allT (am_tck (am_at am_c77) 14) 4 am_c77 = true := by decide +kernel
set_option maxRecDepth 100000 in
theorem am_p77 : am_PI am_i77 := ⟨am_pc_of am_co77, ⟨Or.inr ⟨[(0, 8, 11, 46)], (List.mem_of_getElem? (i := 705) rfl), ⟨⟨rfl, rfl, rfl, by decide, by decide, _, rfl, (List.mem_of_getElem? (i := 706) (by decide +kernel))⟩, trivial⟩⟩, by decide +kernel, ⟨by decide +kernel, by decide +kernel⟩, (List.mem_of_getElem? (i := 71) (by decide +kernel)), by decide +kernel⟩, (fun h => absurd h (by decide)), am_ts_of am_tc77⟩
theorem am_co78_0 : am_allT (am_ckc prog_1_method_10_code) 5 am_c78_0 = true := by decide +kernel
theorem am_tc78_0 : am_allT (am_tck (am_at am_c78) 0) 5 am_c78_0 = true := by decide +kernel
theorem am_co78_1 : am_allT (am_ckc prog_1_method_10_code) 5 am_c78_1 = true := by decide +kernel
theorem am_tc78_1 : am_allT (am_tck (am_at am_c78) 0) 5 am_c78_1 = true := by decide +kernel
theorem am_co78 : am_allT (am_ckc prog_1_method_10_code) 6 am_c78 = true := (am_allT_nd am_co78_0 am_co78_1)
theorem am_tc78 : am_allT (am_tck (am_at am_c78) 0) 6 am_c78 = true := (am_allT_nd am_tc78_0 am_tc78_1)
set_option maxRecDepth 100000 in
theorem am_p78 : am_PI am_i78 := ⟨am_pc_of am_co78, ⟨Or.inl ⟨(List.mem_of_getElem? (i := 710) rfl), rfl⟩, by decide +kernel, ⟨by decide +kernel, by decide +kernel⟩, (List.mem_of_getElem? (i := 72) (by decide +kernel)), by decide +kernel⟩, (fun h => absurd h (by decide)), am_ts_of am_tc78⟩
theorem am_co79 : am_allT (am_ckc prog_2_method_2_code) 5 am_c79 = true := by decide +kernel
theorem am_tc79 : am_allT (am_tck (am_at am_c79) 5) 5 am_c79 = true := by decide +kernel
set_option maxRecDepth 100000 in
theorem am_p79 : am_PI am_i79 := ⟨am_pc_of am_co79, ⟨Or.inl ⟨(List.mem_of_getElem? (i := 714) rfl), rfl⟩, by decide +kernel, ⟨by decide +kernel, by decide +kernel⟩, (List.mem_of_getElem? (i := 77) (by decide +kernel)), by decide +kernel⟩, (fun h => absurd h (by decide)), am_ts_of am_tc79⟩
theorem am_co80 : am_allT (am_ckc prog_22_method_103_code) 4 am_c80 = true := by decide +kernel
theorem am_tc80 : am_allT (am_tck (am_at am_c80) 15) 4 am_c80 = true := by decide +kernel
set_option maxRecDepth 100000 in
theorem am_p80 : am_PI am_i80 := ⟨am_pc_of am_co80, ⟨Or.inl ⟨(List.mem_of_getElem? (i := 717) rfl), rfl⟩, by decide +kernel, ⟨by decide +kernel, by decide +kernel⟩, (List.mem_of_getElem? (i := 90) (by decide +kernel)), by decide +kernel⟩, (fun h => absurd h (by decide)), am_ts_of am_tc80⟩
theorem am_co81_0 : am_allT (am_ckc prog_2_method_15_code) 5 am_c81_0 = true := by decide +kernel
theorem am_tc81_0 : am_allT (am_tck (am_at am_c81) 5) 5 am_c81_0 = true := by decide +kernel
theorem am_co81_1 : am_allT (am_ckc prog_2_method_15_code) 5 am_c81_1 = true := by decide +kernel
theorem am_tc81_1 : am_allT (am_tck (am_at am_c81) 5) 5 am_c81_1 = true := by decide +kernel
theorem am_co81 : am_allT (am_ckc prog_2_method_15_code) 6 am_c81 = true := (am_allT_nd am_co81_0 am_co81_1)
theorem am_tc81 : am_allT (am_tck (am_at am_c81) 5) 6 am_c81 = true := (am_allT_nd am_tc81_0 am_tc81_1)
set_option maxRecDepth 100000 in
theorem am_p81 : am_PI am_i81 := ⟨am_pc_of am_co81, ⟨Or.inl ⟨(List.mem_of_getElem? (i := 721) rfl), rfl⟩, by decide +kernel, ⟨by decide +kernel, by decide +kernel⟩, (List.mem_of_getElem? (i := 77) (by decide +kernel)), by decide +kernel⟩, (fun h => absurd h (by decide)), am_ts_of am_tc81⟩
theorem am_co82 : am_allT (am_ckc prog_2_method_16_code) 4 am_c82 = true := by decide +kernel
theorem am_tc82 : am_allT (am_tck (am_at am_c82) 5) 4 am_c82 = true := by decide +kernel
set_option maxRecDepth 100000 in
theorem am_p82 : am_PI am_i82 := ⟨am_pc_of am_co82, ⟨Or.inl ⟨(List.mem_of_getElem? (i := 725) rfl), rfl⟩, by decide +kernel, ⟨by decide +kernel, by decide +kernel⟩, (List.mem_of_getElem? (i := 77) (by decide +kernel)), by decide +kernel⟩, (fun h => absurd h (by decide)), am_ts_of am_tc82⟩
theorem am_co83 : am_allT (am_ckc prog_2_method_3_code) 4 am_c83 = true := by decide +kernel
theorem am_tc83 : am_allT (am_tck (am_at am_c83) 5) 4 am_c83 = true := by decide +kernel
set_option maxRecDepth 100000 in
theorem am_p83 : am_PI am_i83 := ⟨am_pc_of am_co83, ⟨Or.inl ⟨(List.mem_of_getElem? (i := 729) rfl), rfl⟩, by decide +kernel, ⟨by decide +kernel, by decide +kernel⟩, (List.mem_of_getElem? (i := 77) (by decide +kernel)), by decide +kernel⟩, (fun h => absurd h (by decide)), am_ts_of am_tc83⟩
theorem am_co84 : am_allT (am_ckc prog_2_method_4_code) 4 am_c84 = true := by decide +kernel
theorem am_tc84 : am_allT (am_tck (am_at am_c84) 5) 4 am_c84 = true := by decide +kernel
set_option maxRecDepth 100000 in
theorem am_p84 : am_PI am_i84 := ⟨am_pc_of am_co84, ⟨Or.inl ⟨(List.mem_of_getElem? (i := 733) rfl), rfl⟩, by decide +kernel, ⟨by decide +kernel, by decide +kernel⟩, (List.mem_of_getElem? (i := 77) (by decide +kernel)), by decide +kernel⟩, (fun h => absurd h (by decide)), am_ts_of am_tc84⟩
theorem am_co85 : am_allT (am_ckc prog_2_method_5_code) 4 am_c85 = true := by decide +kernel
theorem am_tc85 : am_allT (am_tck (am_at am_c85) 5) 4 am_c85 = true := by decide +kernel
set_option maxRecDepth 100000 in
theorem am_p85 : am_PI am_i85 := ⟨am_pc_of am_co85, ⟨Or.inl ⟨(List.mem_of_getElem? (i := 737) rfl), rfl⟩, by decide +kernel, ⟨by decide +kernel, by decide +kernel⟩, (List.mem_of_getElem? (i := 77) (by decide +kernel)), by decide +kernel⟩, (fun h => absurd h (by decide)), am_ts_of am_tc85⟩
theorem am_co86 : am_allT (am_ckc prog_2_method_6_code) 5 am_c86 = true := by decide +kernel
theorem am_tc86 : am_allT (am_tck (am_at am_c86) 5) 5 am_c86 = true := by decide +kernel
set_option maxRecDepth 100000 in
theorem am_p86 : am_PI am_i86 := ⟨am_pc_of am_co86, ⟨Or.inl ⟨(List.mem_of_getElem? (i := 741) rfl), rfl⟩, by decide +kernel, ⟨by decide +kernel, by decide +kernel⟩, (List.mem_of_getElem? (i := 77) (by decide +kernel)), by decide +kernel⟩, (fun h => absurd h (by decide)), am_ts_of am_tc86⟩
theorem am_co87 : am_allT (am_ckc prog_9_method_2_code) 5 am_c87 = true := by decide +kernel
theorem am_tc87 : am_allT (am_tck (am_at am_c87) 6) 5 am_c87 = true := by decide +kernel
set_option maxRecDepth 100000 in
theorem am_p87 : am_PI am_i87 := ⟨am_pc_of am_co87, ⟨Or.inl ⟨(List.mem_of_getElem? (i := 745) rfl), rfl⟩, by decide +kernel, ⟨by decide +kernel, by decide +kernel⟩, (List.mem_of_getElem? (i := 78) (by decide +kernel)), by decide +kernel⟩, (fun h => absurd h (by decide)), am_ts_of am_tc87⟩
theorem am_co88_0 : am_allT (am_ckc prog_9_method_10_code) 5 am_c88_0 = true := by decide +kernel
theorem am_tc88_0 : am_allT (am_tck (am_at am_c88) 6) 5 am_c88_0 = true := by decide +kernel
theorem am_co88_1 : am_allT (am_ckc prog_9_method_10_code) 5 am_c88_1 = true := by decide +kernel
theorem am_tc88_1 : am_allT (am_tck (am_at am_c88) 6) 5 am_c88_1 = true := by decide +kernel
theorem am_co88_2 : am_allT (am_ckc prog_9_method_10_code) 5 am_c88_2 = true := by decide +kernel
theorem am_tc88_2 : am_allT (am_tck (am_at am_c88) 6) 5 am_c88_2 = true := by decide +kernel
theorem am_co88_3 : am_allT (am_ckc prog_9_method_10_code) 5 am_c88_3 = true := by decide +kernel
theorem am_tc88_3 : am_allT (am_tck (am_at am_c88) 6) 5 am_c88_3 = true := by decide +kernel
theorem am_co88 : am_allT (am_ckc prog_9_method_10_code) 7 am_c88 = true := (am_allT_nd (am_allT_nd am_co88_0 am_co88_1) (am_allT_nd am_co88_2 am_co88_3))
theorem am_tc88 : am_allT (am_tck (am_at am_c88) 6) 7 am_c88 = true := (am_allT_nd (am_allT_nd am_tc88_0 am_tc88_1) (am_allT_nd am_tc88_2 am_tc88_3))
set_option maxRecDepth 100000 in
theorem am_p88 : am_PI am_i88 := ⟨am_pc_of am_co88, ⟨Or.inl ⟨(List.mem_of_getElem? (i := 749) rfl), rfl⟩, by decide +kernel, ⟨by decide +kernel, by decide +kernel⟩, (List.mem_of_getElem? (i := 78) (by decide +kernel)), by decide +kernel⟩, (fun h => absurd h (by decide)), am_ts_of am_tc88⟩
theorem am_co89_0 : am_allT (am_ckc prog_9_method_13_code) 5 am_c89_0 = true := by decide +kernel
theorem am_tc89_0 : am_allT (am_tck (am_at am_c89) 6) 5 am_c89_0 = true := by decide +kernel
theorem am_co89_1 : am_allT (am_ckc prog_9_method_13_code) 5 am_c89_1 = true := by decide +kernel
theorem am_tc89_1 : am_allT (am_tck (am_at am_c89) 6) 5 am_c89_1 = true := by decide +kernel
theorem am_co89 : am_allT (am_ckc prog_9_method_13_code) 6 am_c89 = true := (am_allT_nd am_co89_0 am_co89_1)
theorem am_tc89 : am_allT (am_tck (am_at am_c89) 6) 6 am_c89 = true := (am_allT_nd am_tc89_0 am_tc89_1)
set_option maxRecDepth 100000 in
theorem am_p89 : am_PI am_i89 := ⟨am_pc_of am_co89, ⟨Or.inl ⟨(List.mem_of_getElem? (i := 754) rfl), rfl⟩, by decide +kernel, ⟨by decide +kernel, by decide +kernel⟩, (List.mem_of_getElem? (i := 78) (by decide +kernel)), by decide +kernel⟩, (fun h => absurd h (by decide)), am_ts_of am_tc89⟩
theorem am_co90_0 : am_allT (am_ckc prog_6_method_2_code) 5 am_c90_0 = true := by decide +kernel
theorem am_tc90_0 : am_allT (am_tck (am_at am_c90) 7) 5 am_c90_0 = true := by decide +kernel
theorem am_co90_1 : am_allT (am_ckc prog_6_method_2_code) 5 am_c90_1 = true := by decide +kernel
theorem am_tc90_1 : am_allT (am_tck (am_at am_c90) 7) 5 am_c90_1 = true := by decide +kernel
theorem am_co90_2 : am_allT (am_ckc prog_6_method_2_code) 5 am_c90_2 = true := by decide +kernel
theorem am_tc90_2 : am_allT (am_tck (am_at am_c90) 7) 5 am_c90_2 = true := by decide +kernel
theorem am_co90_3 : am_allT (am_ckc prog_6_method_2_code) 5 am_c90_3 = true := by decide +kernel
theorem am_tc90_3 : am_allT (am_tck (am_at am_c90) 7) 5 am_c90_3 = true := by decide +kernel
theorem am_co90 : am_allT (am_ckc prog_6_method_2_code) 7 am_c90 = true := (am_allT_nd (am_allT_nd am_co90_0 am_co90_1) (am_allT_nd am_co90_2 am_co90_3))
theorem am_tc90 : am_allT (am_tck (am_at am_c90) 7) 7 am_c90 = true := (am_allT_nd (am_allT_nd am_tc90_0 am_tc90_1) (am_allT_nd am_tc90_2 am_tc90_3))
set_option maxRecDepth 100000 in
theorem am_p90 : am_PI am_i90 := ⟨am_pc_of am_co90, ⟨Or.inl ⟨(List.mem_of_getElem? (i := 759) rfl), rfl⟩, by decide +kernel, ⟨by decide +kernel, by decide +kernel⟩, (List.mem_of_getElem? (i := 79) (by decide +kernel)), by decide +kernel⟩, (fun h => absurd h (by decide)), am_ts_of am_tc90⟩
theorem am_co91 : am_allT (am_ckc prog_6_method_7_code) 4 am_c91 = true := by decide +kernel
theorem am_tc91 : am_allT (am_tck (am_at am_c91) 7) 4 am_c91 = true := by decide +kernel
set_option maxRecDepth 100000 in
theorem am_p91 : am_PI am_i91 := ⟨am_pc_of am_co91, ⟨Or.inl ⟨(List.mem_of_getElem? (i := 765) rfl), rfl⟩, by decide +kernel, ⟨by decide +kernel, by decide +kernel⟩, (List.mem_of_getElem? (i := 79) (by decide +kernel)), by decide +kernel⟩, (fun h => absurd h (by decide)), am_ts_of am_tc91⟩
theorem am_co92_0 : am_allT (am_ckc prog_6_method_11_code) 5 am_c92_0 = true := by decide +kernel
theorem am_tc92_0 : am_allT (am_tck (am_at am_c92) 7) 5 am_c92_0 = true := by decide +kernel
theorem am_co92_1 : am_allT (am_ckc prog_6_method_11_code) 5 am_c92_1 = true := by decide +kernel
theorem am_tc92_1 : am_allT (am_tck (am_at am_c92) 7) 5 am_c92_1 = true := by decide +kernel
theorem am_co92 : am_allT (am_ckc prog_6_method_11_code) 6 am_c92 = true := (am_allT_nd am_co92_0 am_co92_1)
theorem am_tc92 : am_allT (am_tck (am_at am_c92) 7) 6 am_c92 = true := (am_allT_nd am_tc92_0 am_tc92_1)
set_option maxRecDepth 100000 in
theorem am_p92 : am_PI am_i92 := ⟨am_pc_of am_co92, ⟨Or.inl ⟨(List.mem_of_getElem? (i := 770) rfl), rfl⟩, by decide +kernel, ⟨by decide +kernel, by decide +kernel⟩, (List.mem_of_getElem? (i := 79) (by decide +kernel)), by decide +kernel⟩, (fun h => absurd h (by decide)), am_ts_of am_tc92⟩
theorem am_co93 : am_allT (am_ckc prog_6_method_16_code) 5 am_c93 = true := by decide +kernel
theorem am_tc93 : am_allT (am_tck (am_at am_c93) 7) 5 am_c93 = true := by decide +kernel
set_option maxRecDepth 100000 in
theorem am_p93 : am_PI am_i93 := ⟨am_pc_of am_co93, ⟨Or.inl ⟨(List.mem_of_getElem? (i := 774) rfl), rfl⟩, by decide +kernel, ⟨by decide +kernel, by decide +kernel⟩, (List.mem_of_getElem? (i := 79) (by decide +kernel)), by decide +kernel⟩, (fun h => absurd h (by decide)), am_ts_of am_tc93⟩
theorem am_co94 : am_allT (am_ckc prog_9_method_3_code) 4 am_c94 = true := by decide +kernel
theorem am_tc94 : am_allT (am_tck (am_at am_c94) 6) 4 am_c94 = true := by decide +kernel
set_option maxRecDepth 100000 in
theorem am_p94 : am_PI am_i94 := ⟨am_pc_of am_co94, ⟨Or.inl ⟨(List.mem_of_getElem? (i := 778) rfl), rfl⟩, by decide +kernel, ⟨by decide +kernel, by decide +kernel⟩, (List.mem_of_getElem? (i := 78) (by decide +kernel)), by decide +kernel⟩, (fun h => absurd h (by decide)), am_ts_of am_tc94⟩
theorem am_co95 : am_allT (am_ckc prog_9_method_4_code) 3 am_c95 = true := by decide +kernel
theorem am_tc95 : am_allT (am_tck (am_at am_c95) 6) 3 am_c95 = true := by decide +kernel
set_option maxRecDepth 100000 in
theorem am_p95 : am_PI am_i95 := ⟨am_pc_of am_co95, ⟨Or.inl ⟨(List.mem_of_getElem? (i := 782) rfl), rfl⟩, by decide +kernel, ⟨by decide +kernel, by decide +kernel⟩, (List.mem_of_getElem? (i := 78) (by decide +kernel)), by decide +kernel⟩, (fun h => absurd h (by decide)), am_ts_of am_tc95⟩
theorem am_co96 : am_allT (am_ckc prog_9_method_15_code) 5 am_c96 = true := by decide +kernel
theorem am_tc96 : am_allT (am_tck (am_at am_c96) 6) 5 am_c96 = true := by decide +kernel
set_option maxRecDepth 100000 in
theorem am_p96 : am_PI am_i96 := ⟨am_pc_of am_co96, ⟨Or.inl ⟨(List.mem_of_getElem? (i := 786) rfl), rfl⟩, by decide +kernel, ⟨by decide +kernel, by decide +kernel⟩, (List.mem_of_getElem? (i := 78) (by decide +kernel)), by decide +kernel⟩, (fun h => absurd h (by decide)), am_ts_of am_tc96⟩
theorem am_co97 : am_allT (am_ckc prog_6_method_15_code) 5 am_c97 = true := by decide +kernel
theorem am_tc97 : am_allT (am_tck (am_at am_c97) 7) 5 am_c97 = true := by decide +kernel
set_option maxRecDepth 100000 in
theorem am_p97 : am_PI am_i97 := ⟨am_pc_of am_co97, ⟨Or.inl ⟨(List.mem_of_getElem? (i := 790) rfl), rfl⟩, by decide +kernel, ⟨by decide +kernel, by decide +kernel⟩, (List.mem_of_getElem? (i := 79) (by decide +kernel)), by decide +kernel⟩, (fun h => absurd h (by decide)), am_ts_of am_tc97⟩
theorem am_co98 : am_allT (am_ckc prog_6_method_17_code) 5 am_c98 = true := by decide +kernel
theorem am_tc98 : am_allT (am_tck (am_at am_c98) 7) 5 am_c98 = true := by decide +kernel
set_option maxRecDepth 100000 in
theorem am_p98 : am_PI am_i98 := ⟨am_pc_of am_co98, ⟨Or.inl ⟨(List.mem_of_getElem? (i := 794) rfl), rfl⟩, by decide +kernel, ⟨by decide +kernel, by decide +kernel⟩, (List.mem_of_getElem? (i := 79) (by decide +kernel)), by decide +kernel⟩, (fun h => absurd h (by decide)), am_ts_of am_tc98⟩
theorem am_co99 : am_allT (am_ckc prog_1_method_23_code) 4 am_c99 = true := by decide +kernel
theorem am_tc99 : am_allT (am_tck (am_at am_c99) 0) 4 am_c99 = true := by decide +kernel
set_option maxRecDepth 100000 in
theorem am_p99 : am_PI am_i99 := ⟨am_pc_of am_co99, ⟨Or.inl ⟨(List.mem_of_getElem? (i := 797) rfl), rfl⟩, by decide +kernel, ⟨by decide +kernel, by decide +kernel⟩, (List.mem_of_getElem? (i := 72) (by decide +kernel)), by decide +kernel⟩, (fun h => absurd h (by decide)), am_ts_of am_tc99⟩
theorem am_co100 : am_allT (am_ckc prog_9_method_5_code) 4 am_c100 = true := by decide +kernel
theorem am_tc100 : am_allT (am_tck (am_at am_c100) 6) 4 am_c100 = true := by decide +kernel
set_option maxRecDepth 100000 in
theorem am_p100 : am_PI am_i100 := ⟨am_pc_of am_co100, ⟨Or.inl ⟨(List.mem_of_getElem? (i := 801) rfl), rfl⟩, by decide +kernel, ⟨by decide +kernel, by decide +kernel⟩, (List.mem_of_getElem? (i := 78) (by decide +kernel)), by decide +kernel⟩, (fun h => absurd h (by decide)), am_ts_of am_tc100⟩
theorem am_co101 : am_allT (am_ckc prog_9_method_12_code) 5 am_c101 = true := by decide +kernel
theorem am_tc101 : am_allT (am_tck (am_at am_c101) 6) 5 am_c101 = true := by decide +kernel
set_option maxRecDepth 100000 in
theorem am_p101 : am_PI am_i101 := ⟨am_pc_of am_co101, ⟨Or.inl ⟨(List.mem_of_getElem? (i := 805) rfl), rfl⟩, by decide +kernel, ⟨by decide +kernel, by decide +kernel⟩, (List.mem_of_getElem? (i := 78) (by decide +kernel)), by decide +kernel⟩, (fun h => absurd h (by decide)), am_ts_of am_tc101⟩
end
section
theorem am_co102 : am_allT (am_ckc prog_9_method_14_code) 5 am_c102 = true := by decide +kernel
theorem am_tc102 : am_allT (am_tck (am_at am_c102) 6) 5 am_c102 = true := by decide +kernel
set_option maxRecDepth 100000 in
theorem am_p102 : am_PI am_i102 := ⟨am_pc_of am_co102, ⟨Or.inl ⟨(List.mem_of_getElem? (i := 809) rfl), rfl⟩, by decide +kernel, ⟨by decide +kernel, by decide +kernel⟩, (List.mem_of_getElem? (i := 78) (by decide +kernel)), by decide +kernel⟩, (fun h => absurd h (by decide)), am_ts_of am_tc102⟩
theorem am_co103_0 : am_allT (am_ckc prog_6_method_12_code) 5 am_c103_0 = true := by decide +kernel
theorem am_tc103_0 : am_allT (am_tck (am_at am_c103) 7) 5 am_c103_0 = true := by decide +kernel
theorem am_co103_1 : am_allT (am_ckc prog_6_method_12_code) 5 am_c103_1 = true := by decide +kernel
theorem am_tc103_1 : am_allT (am_tck (am_at am_c103) 7) 5 am_c103_1 = true := by decide +kernel
theorem am_co103_2 : am_allT (am_ckc prog_6_method_12_code) 5 am_c103_2 = true := by decide +kernel
theorem am_tc103_2 : am_allT (am_tck (am_at am_c103) 7) 5 am_c103_2 = true := by decide +kernel
theorem am_co103_3 : am_allT (am_ckc prog_6_method_12_code) 5 am_c103_3 = true := by decide +kernel
theorem am_tc103_3 : am_allT (am_tck (am_at am_c103) 7) 5 am_c103_3 = true := by decide +kernel
theorem am_co103 : am_allT (am_ckc prog_6_method_12_code) 7 am_c103 = true := (am_allT_nd (am_allT_nd am_co103_0 am_co103_1) (am_allT_nd am_co103_2 am_co103_3))
theorem am_tc103 : am_allT (am_tck (am_at am_c103) 7) 7 am_c103 = true := (am_allT_nd (am_allT_nd am_tc103_0 am_tc103_1) (am_allT_nd am_tc103_2 am_tc103_3))
set_option maxRecDepth 100000 in
theorem am_p103 : am_PI am_i103 := ⟨am_pc_of am_co103, ⟨Or.inl ⟨(List.mem_of_getElem? (i := 813) rfl), rfl⟩, by decide +kernel, ⟨by decide +kernel, by decide +kernel⟩, (List.mem_of_getElem? (i := 79) (by decide +kernel)), by decide +kernel⟩, (fun h => absurd h (by decide)), am_ts_of am_tc103⟩
theorem am_co104 : am_allT (am_ckc prog_9_method_6_code) 5 am_c104 = true := by decide +kernel
theorem am_tc104 : am_allT (am_tck (am_at am_c104) 6) 5 am_c104 = true := by decide +kernel
set_option maxRecDepth 100000 in
theorem am_p104 : am_PI am_i104 := ⟨am_pc_of am_co104, ⟨Or.inl ⟨(List.mem_of_getElem? (i := 820) rfl), rfl⟩, by decide +kernel, ⟨by decide +kernel, by decide +kernel⟩, (List.mem_of_getElem? (i := 78) (by decide +kernel)), by decide +kernel⟩, (fun h => absurd h (by decide)), am_ts_of am_tc104⟩
theorem am_co105_0 : am_allT (am_ckc prog_9_method_7_code) 5 am_c105_0 = true := by decide +kernel
theorem am_tc105_0 : am_allT (am_tck (am_at am_c105) 6) 5 am_c105_0 = true := by decide +kernel
theorem am_co105_1 : am_allT (am_ckc prog_9_method_7_code) 5 am_c105_1 = true := by decide +kernel
theorem am_tc105_1 : am_allT (am_tck (am_at am_c105) 6) 5 am_c105_1 = true := by decide +kernel
theorem am_co105 : am_allT (am_ckc prog_9_method_7_code) 6 am_c105 = true := (am_allT_nd am_co105_0 am_co105_1)
theorem am_tc105 : am_allT (am_tck (am_at am_c105) 6) 6 am_c105 = true := (am_allT_nd am_tc105_0 am_tc105_1)
set_option maxRecDepth 100000 in
theorem am_p105 : am_PI am_i105 := ⟨am_pc_of am_co105, ⟨Or.inl ⟨(List.mem_of_getElem? (i := 824) rfl), rfl⟩, by decide +kernel, ⟨by decide +kernel, by decide +kernel⟩, (List.mem_of_getElem? (i := 78) (by decide +kernel)), by decide +kernel⟩, (fun h => absurd h (by decide)), am_ts_of am_tc105⟩
theorem am_co106_0 : am_allT (am_ckc prog_9_method_8_code) 5 am_c106_0 = true := by decide +kernel
theorem am_tc106_0 : am_allT (am_tck (am_at am_c106) 6) 5 am_c106_0 = true := by decide +kernel
theorem am_co106_1 : am_allT (am_ckc prog_9_method_8_code) 5 am_c106_1 = true := by decide +kernel
theorem am_tc106_1 : am_allT (am_tck (am_at am_c106) 6) 5 am_c106_1 = true := by decide +kernel
theorem am_co106 : am_allT (am_ckc prog_9_method_8_code) 6 am_c106 = true := (am_allT_nd am_co106_0 am_co106_1)
theorem am_tc106 : am_allT (am_tck (am_at am_c106) 6) 6 am_c106 = true := (am_allT_nd am_tc106_0 am_tc106_1)
set_option maxRecDepth 100000 in
theorem am_p106 : am_PI am_i106 := ⟨am_pc_of am_co106, ⟨Or.inl ⟨(List.mem_of_getElem? (i := 832) rfl), rfl⟩, by decide +kernel, ⟨by decide +kernel, by decide +kernel⟩, (List.mem_of_getElem? (i := 78) (by decide +kernel)), by decide +kernel⟩, (fun h => absurd h (by decide)), am_ts_of am_tc106⟩
theorem am_co107 : am_allT (am_ckc prog_9_method_11_code) 4 am_c107 = true := by decide +kernel
theorem am_tc107 : am_allT (am_tck (am_at am_c107) 6) 4 am_c107 = true := by decide +kernel
set_option maxRecDepth 100000 in
theorem am_p107 : am_PI am_i107 := ⟨am_pc_of am_co107, ⟨Or.inl ⟨(List.mem_of_getElem? (i := 836) rfl), rfl⟩, by decide +kernel, ⟨by decide +kernel, by decide +kernel⟩, (List.mem_of_getElem? (i := 78) (by decide +kernel)), by decide +kernel⟩, (fun h => absurd h (by decide)), am_ts_of am_tc107⟩
theorem am_co108 : am_allT (am_ckc prog_9_method_9_code) 4 am_c108 = true := by decide +kernel
theorem am_tc108 : am_allT (am_tck (am_at am_c108) 6) 4 am_c108 = true := by decide +kernel
set_option maxRecDepth 100000 in
theorem am_p108 : am_PI am_i108 := ⟨am_pc_of am_co108, ⟨Or.inl ⟨(List.mem_of_getElem? (i := 841) rfl), rfl⟩, by decide +kernel, ⟨by decide +kernel, by decide +kernel⟩, (List.mem_of_getElem? (i := 78) (by decide +kernel)), by decide +kernel⟩, (fun h => absurd h (by decide)), am_ts_of am_tc108⟩
theorem am_co109 : am_allT (am_ckc prog_6_method_14_code) 4 am_c109 = true := by decide +kernel
theorem am_tc109 : am_allT (am_tck (am_at am_c109) 7) 4 am_c109 = true := by decide +kernel
set_option maxRecDepth 100000 in
theorem am_p109 : am_PI am_i109 := ⟨am_pc_of am_co109, ⟨Or.inl ⟨(List.mem_of_getElem? (i := 846) rfl), rfl⟩, by decide +kernel, ⟨by decide +kernel, by decide +kernel⟩, (List.mem_of_getElem? (i := 79) (by decide +kernel)), by decide +kernel⟩, (fun h => absurd h (by decide)), am_ts_of am_tc109⟩
theorem am_co110_0 : am_allT (am_ckc prog_6_method_13_code) 5 am_c110_0 = true := by decide +kernel
theorem am_tc110_0 : am_allT (am_tck (am_at am_c110) 7) 5 am_c110_0 = true := by decide +kernel
theorem am_co110_1 : am_allT (am_ckc prog_6_method_13_code) 5 am_c110_1 = true := by decide +kernel
theorem am_tc110_1 : am_allT (am_tck (am_at am_c110) 7) 5 am_c110_1 = true := by decide +kernel
theorem am_co110_2 : am_allT (am_ckc prog_6_method_13_code) 5 am_c110_2 = true := by decide +kernel
theorem am_tc110_2 : am_allT (am_tck (am_at am_c110) 7) 5 am_c110_2 = true := by decide +kernel
theorem am_co110_3 : am_allT (am_ckc prog_6_method_13_code) 5 am_c110_3 = true := by decide +kernel
theorem am_tc110_3 : am_allT (am_tck (am_at am_c110) 7) 5 am_c110_3 = true := by decide +kernel
theorem am_co110 : am_allT (am_ckc prog_6_method_13_code) 7 am_c110 = true := (am_allT_nd (am_allT_nd am_co110_0 am_co110_1) (am_allT_nd am_co110_2 am_co110_3))
theorem am_tc110 : am_allT (am_tck (am_at am_c110) 7) 7 am_c110 = true := (am_allT_nd (am_allT_nd am_tc110_0 am_tc110_1) (am_allT_nd am_tc110_2 am_tc110_3))
set_option maxRecDepth 100000 in
theorem am_p110 : am_PI am_i110 := ⟨am_pc_of am_co110, ⟨Or.inl ⟨(List.mem_of_getElem? (i := 850) rfl), rfl⟩, by decide +kernel, ⟨by decide +kernel, by decide +kernel⟩, (List.mem_of_getElem? (i := 79) (by decide +kernel)), by decide +kernel⟩, (fun h => absurd h (by decide)), am_ts_of am_tc110⟩
theorem am_co111_0 : am_allT (am_ckc prog_2_method_7_code) 5 am_c111_0 = true := by decide +kernel
theorem am_tc111_0 : am_allT (am_tck (am_at am_c111) 5) 5 am_c111_0 = true := by decide +kernel
theorem am_co111_1 : am_allT (am_ckc prog_2_method_7_code) 5 am_c111_1 = true := by decide +kernel
theorem am_tc111_1 : am_allT (am_tck (am_at am_c111) 5) 5 am_c111_1 = true := by decide +kernel
theorem am_co111 : am_allT (am_ckc prog_2_method_7_code) 6 am_c111 = true := (am_allT_nd am_co111_0 am_co111_1)
theorem am_tc111 : am_allT (am_tck (am_at am_c111) 5) 6 am_c111 = true := (am_allT_nd am_tc111_0 am_tc111_1)
set_option maxRecDepth 100000 in
theorem am_p111 : am_PI am_i111 := ⟨am_pc_of am_co111, ⟨Or.inl ⟨(List.mem_of_getElem? (i := 855) rfl), rfl⟩, by decide +kernel, ⟨by decide +kernel, by decide +kernel⟩, (List.mem_of_getElem? (i := 77) (by decide +kernel)), by decide +kernel⟩, (fun h => absurd h (by decide)), am_ts_of am_tc111⟩
theorem am_co112_0 : am_allT (am_ckc prog_6_method_8_code) 5 am_c112_0 = true := by decide +kernel
theorem am_tc112_0 : am_allT (am_tck (am_at am_c112) 7) 5 am_c112_0 = true := by decide +kernel
theorem am_co112_1 : am_allT (am_ckc prog_6_method_8_code) 5 am_c112_1 = true := by decide +kernel
theorem am_tc112_1 : am_allT (am_tck (am_at am_c112) 7) 5 am_c112_1 = true := by decide +kernel
theorem am_co112 : am_allT (am_ckc prog_6_method_8_code) 6 am_c112 = true := (am_allT_nd am_co112_0 am_co112_1)
theorem am_tc112 : am_allT (am_tck (am_at am_c112) 7) 6 am_c112 = true := (am_allT_nd am_tc112_0 am_tc112_1)
set_option maxRecDepth 100000 in
theorem am_p112 : am_PI am_i112 := ⟨am_pc_of am_co112, ⟨Or.inl ⟨(List.mem_of_getElem? (i := 859) rfl), rfl⟩, by decide +kernel, ⟨by decide +kernel, by decide +kernel⟩, (List.mem_of_getElem? (i := 79) (by decide +kernel)), by decide +kernel⟩, (fun h => absurd h (by decide)), am_ts_of am_tc112⟩
theorem am_co113 : am_allT (am_ckc prog_6_method_9_code) 4 am_c113 = true := by decide +kernel
theorem am_tc113 : am_allT (am_tck (am_at am_c113) 7) 4 am_c113 = true := by decide +kernel
set_option maxRecDepth 100000 in
theorem am_p113 : am_PI am_i113 := ⟨am_pc_of am_co113, ⟨Or.inl ⟨(List.mem_of_getElem? (i := 863) rfl), rfl⟩, by decide +kernel, ⟨by decide +kernel, by decide +kernel⟩, (List.mem_of_getElem? (i := 79) (by decide +kernel)), by decide +kernel⟩, (fun h => absurd h (by decide)), am_ts_of am_tc113⟩
theorem am_co114 : am_allT (am_ckc prog_6_method_4_code) 2 am_c114 = true := by decide +kernel
theorem am_tc114 : am_allT (am_tck (am_at am_c114) 7) 2 am_c114 = true := by decide +kernel
set_option maxRecDepth 100000 in
theorem am_p114 : am_PI am_i114 := ⟨am_pc_of am_co114, ⟨Or.inl ⟨(List.mem_of_getElem? (i := 867) rfl), rfl⟩, by decide +kernel, ⟨by decide +kernel, by decide +kernel⟩, (List.mem_of_getElem? (i := 79) (by decide +kernel)), by decide +kernel⟩, (fun h => absurd h (by decide)), am_ts_of am_tc114⟩
theorem am_co115 : am_allT (am_ckc prog_6_method_10_code) 5 am_c115 = true := by decide +kernel
theorem am_tc115 : am_allT (am_tck (am_at am_c115) 7) 5 am_c115 = true := by decide +kernel
set_option maxRecDepth 100000 in
theorem am_p115 : am_PI am_i115 := ⟨am_pc_of am_co115, ⟨Or.inl ⟨(List.mem_of_getElem? (i := 871) rfl), rfl⟩, by decide +kernel, ⟨by decide +kernel, by decide +kernel⟩, (List.mem_of_getElem? (i := 79) (by decide +kernel)), by decide +kernel⟩, (fun h => absurd h (by decide)), am_ts_of am_tc115⟩
theorem am_co116 : am_allT (am_ckc prog_2_method_14_code) 5 am_c116 = true := by decide +kernel
theorem am_tc116 : am_allT (am_tck (am_at am_c116) 5) 5 am_c116 = true := by decide +kernel
set_option maxRecDepth 100000 in
theorem am_p116 : am_PI am_i116 := ⟨am_pc_of am_co116, ⟨Or.inl ⟨(List.mem_of_getElem? (i := 875) rfl), rfl⟩, by decide +kernel, ⟨by decide +kernel, by decide +kernel⟩, (List.mem_of_getElem? (i := 77) (by decide +kernel)), by decide +kernel⟩, (fun h => absurd h (by decide)), am_ts_of am_tc116⟩
theorem am_co117 : am_allT (am_ckc prog_6_method_5_code) 2 am_c117 = true := by decide +kernel
theorem am_tc117 : am_allT (am_tck (am_at am_c117) 7) 2 am_c117 = true := by decide +kernel
set_option maxRecDepth 100000 in
theorem am_p117 : am_PI am_i117 := ⟨am_pc_of am_co117, ⟨Or.inl ⟨(List.mem_of_getElem? (i := 879) rfl), rfl⟩, by decide +kernel, ⟨by decide +kernel, by decide +kernel⟩, (List.mem_of_getElem? (i := 79) (by decide +kernel)), by decide +kernel⟩, (fun h => absurd h (by decide)), am_ts_of am_tc117⟩
theorem am_co118 : am_allT (am_ckc prog_6_method_6_code) 2 am_c118 = true := by decide +kernel
theorem am_tc118 : am_allT (am_tck (am_at am_c118) 7) 2 am_c118 = true := by decide +kernel
set_option maxRecDepth 100000 in
theorem am_p118 : am_PI am_i118 := ⟨am_pc_of am_co118, ⟨Or.inl ⟨(List.mem_of_getElem? (i := 883) rfl), rfl⟩, by decide +kernel, ⟨by decide +kernel, by decide +kernel⟩, (List.mem_of_getElem? (i := 79) (by decide +kernel)), by decide +kernel⟩, (fun h => absurd h (by decide)), am_ts_of am_tc118⟩
theorem am_co119 : am_allT (am_ckc prog_2_method_10_code) 2 am_c119 = true := by decide +kernel
theorem am_tc119 : am_allT (am_tck (am_at am_c119) 5) 2 am_c119 = true := by decide +kernel
set_option maxRecDepth 100000 in
theorem am_p119 : am_PI am_i119 := ⟨am_pc_of am_co119, ⟨Or.inl ⟨(List.mem_of_getElem? (i := 887) rfl), rfl⟩, by decide +kernel, ⟨by decide +kernel, by decide +kernel⟩, (List.mem_of_getElem? (i := 77) (by decide +kernel)), by decide +kernel⟩, (fun h => absurd h (by decide)), am_ts_of am_tc119⟩
theorem am_co120 : am_allT (am_ckc prog_2_method_13_code) 2 am_c120 = true := by decide +kernel
theorem am_tc120 : am_allT (am_tck (am_at am_c120) 5) 2 am_c120 = true := by decide +kernel
set_option maxRecDepth 100000 in
theorem am_p120 : am_PI am_i120 := ⟨am_pc_of am_co120, ⟨Or.inl ⟨(List.mem_of_getElem? (i := 907) rfl), rfl⟩, by decide +kernel, ⟨by decide +kernel, by decide +kernel⟩, (List.mem_of_getElem? (i := 77) (by decide +kernel)), by decide +kernel⟩, (fun h => absurd h (by decide)), am_ts_of am_tc120⟩
theorem am_co121 : am_allT (am_ckc method_11_code) 4 am_c121 = true := by decide +kernel
theorem am_tc121 : am_allT (am_tck (am_at am_c121) 14) 4 am_c121 = true := by decide +kernel
set_option maxRecDepth 100000 in
theorem am_p121 : am_PI am_i121 := ⟨am_pc_of am_co121, ⟨Or.inr ⟨[(0, 9, 12, 21)], (List.mem_of_getElem? (i := 910) rfl), ⟨⟨rfl, rfl, rfl, by decide, by decide, _, rfl, (List.mem_of_getElem? (i := 455) (by decide +kernel))⟩, trivial⟩⟩, by decide +kernel, ⟨by decide +kernel, by decide +kernel⟩, (List.mem_of_getElem? (i := 71) (by decide +kernel)), by decide +kernel⟩, (fun h => absurd h (by decide)), am_ts_of am_tc121⟩
theorem am_co122 : am_allT (am_ckc prog_1_method_11_code) 5 am_c122 = true := by decide +kernel
theorem am_tc122 : am_allT (am_tck (am_at am_c122) 0) 5 am_c122 = true := by decide +kernel
set_option maxRecDepth 100000 in
theorem am_p122 : am_PI am_i122 := ⟨am_pc_of am_co122, ⟨Or.inl ⟨(List.mem_of_getElem? (i := 914) rfl), rfl⟩, by decide +kernel, ⟨by decide +kernel, by decide +kernel⟩, (List.mem_of_getElem? (i := 72) (by decide +kernel)), by decide +kernel⟩, (fun h => absurd h (by decide)), am_ts_of am_tc122⟩
theorem am_co123 : am_allT (am_ckc prog_2_method_11_code) 2 am_c123 = true := by decide +kernel
theorem am_tc123 : am_allT (am_tck (am_at am_c123) 5) 2 am_c123 = true := by decide +kernel
set_option maxRecDepth 100000 in
theorem am_p123 : am_PI am_i123 := ⟨am_pc_of am_co123, ⟨Or.inl ⟨(List.mem_of_getElem? (i := 918) rfl), rfl⟩, by decide +kernel, ⟨by decide +kernel, by decide +kernel⟩, (List.mem_of_getElem? (i := 77) (by decide +kernel)), by decide +kernel⟩, (fun h => absurd h (by decide)), am_ts_of am_tc123⟩
theorem am_co124 : am_allT (am_ckc prog_2_method_12_code) 2 am_c124 = true := by decide +kernel
theorem am_tc124 : am_allT (am_tck (am_at am_c124) 5) 2 am_c124 = true := by decide +kernel
set_option maxRecDepth 100000 in
theorem am_p124 : am_PI am_i124 := ⟨am_pc_of am_co124, ⟨Or.inl ⟨(List.mem_of_getElem? (i := 922) rfl), rfl⟩, by decide +kernel, ⟨by decide +kernel, by decide +kernel⟩, (List.mem_of_getElem? (i := 77) (by decide +kernel)), by decide +kernel⟩, (fun h => absurd h (by decide)), am_ts_of am_tc124⟩
theorem am_co125 : am_allT (am_ckc method_12_code) 5 am_c125 = true := by decide +kernel
theorem am_tc125 : am_allT (am_tck (am_at am_c125) 14) 5 am_c125 = true := by decide +kernel
set_option maxRecDepth 100000 in
theorem am_p125 : am_PI am_i125 := ⟨am_pc_of am_co125, ⟨Or.inr ⟨[(0, 21, 24, 13)], (List.mem_of_getElem? (i := 926) rfl), ⟨⟨rfl, rfl, rfl, by decide, by decide, _, rfl, (List.mem_of_getElem? (i := 341) (by decide +kernel))⟩, trivial⟩⟩, by decide +kernel, ⟨by decide +kernel, by decide +kernel⟩, (List.mem_of_getElem? (i := 71) (by decide +kernel)), by decide +kernel⟩, (fun h => absurd h (by decide)), am_ts_of am_tc125⟩
theorem am_co126_0 : am_allT (am_ckc prog_1_method_12_code) 5 am_c126_0 = true := by decide +kernel
theorem am_tc126_0 : am_allT (am_tck (am_at am_c126) 0) 5 am_c126_0 = true := by decide +kernel
theorem am_co126_1 : am_allT (am_ckc prog_1_method_12_code) 5 am_c126_1 = true := by decide +kernel
theorem am_tc126_1 : am_allT (am_tck (am_at am_c126) 0) 5 am_c126_1 = true := by decide +kernel
theorem am_co126 : am_allT (am_ckc prog_1_method_12_code) 6 am_c126 = true := (am_allT_nd am_co126_0 am_co126_1)
theorem am_tc126 : am_allT (am_tck (am_at am_c126) 0) 6 am_c126 = true := (am_allT_nd am_tc126_0 am_tc126_1)
set_option maxRecDepth 100000 in
theorem am_p126 : am_PI am_i126 := ⟨am_pc_of am_co126, ⟨Or.inl ⟨(List.mem_of_getElem? (i := 930) rfl), rfl⟩, by decide +kernel, ⟨by decide +kernel, by decide +kernel⟩, (List.mem_of_getElem? (i := 72) (by decide +kernel)), by decide +kernel⟩, (fun h => absurd h (by decide)), am_ts_of am_tc126⟩
theorem am_co127 : am_allT (am_ckc prog_2_method_8_code) 4 am_c127 = true := by decide +kernel
theorem am_tc127 : am_allT (am_tck (am_at am_c127) 5) 4 am_c127 = true := by decide +kernel
set_option maxRecDepth 100000 in
theorem am_p127 : am_PI am_i127 := ⟨am_pc_of am_co127, ⟨Or.inl ⟨(List.mem_of_getElem? (i := 934) rfl), rfl⟩, by decide +kernel, ⟨by decide +kernel, by decide +kernel⟩, (List.mem_of_getElem? (i := 77) (by decide +kernel)), by decide +kernel⟩, (fun h => absurd h (by decide)), am_ts_of am_tc127⟩
theorem am_co128 : am_allT (am_ckc method_13_code) 4 am_c128 = true := by decide +kernel
theorem am_tc128 : am_allT (am_tck (am_at am_c128) 14) 4 am_c128 = true := by decide +kernel
set_option maxRecDepth 100000 in
theorem am_p128 : am_PI am_i128 := ⟨am_pc_of am_co128, ⟨Or.inr ⟨[(0, 10, 13, 13)], (List.mem_of_getElem? (i := 938) rfl), ⟨⟨rfl, rfl, rfl, by decide, by decide, _, rfl, (List.mem_of_getElem? (i := 341) (by decide +kernel))⟩, trivial⟩⟩, by decide +kernel, ⟨by decide +kernel, by decide +kernel⟩, (List.mem_of_getElem? (i := 71) (by decide +kernel)), by decide +kernel⟩, (fun h => absurd h (by decide)), am_ts_of am_tc128⟩
theorem am_co129 : am_allT (am_ckc prog_1_method_13_code) 4 am_c129 = true := by decide +kernel
theorem am_tc129 : am_allT (am_tck (am_at am_c129) 0) 4 am_c129 = true := by decide +kernel
set_option maxRecDepth 100000 in
theorem am_p129 : am_PI am_i129 := ⟨am_pc_of am_co129, ⟨Or.inl ⟨(List.mem_of_getElem? (i := 942) rfl), rfl⟩, by decide +kernel, ⟨by decide +kernel, by decide +kernel⟩, (List.mem_of_getElem? (i := 72) (by decide +kernel)), by decide +kernel⟩, (fun h => absurd h (by decide)), am_ts_of am_tc129⟩
theorem am_co130 : am_allT (am_ckc prog_2_method_9_code) 4 am_c130 = true := by decide +kernel
theorem am_tc130 : am_allT (am_tck (am_at am_c130) 5) 4 am_c130 = true := by decide +kernel
set_option maxRecDepth 100000 in
theorem am_p130 : am_PI am_i130 := ⟨am_pc_of am_co130, ⟨Or.inl ⟨(List.mem_of_getElem? (i := 946) rfl), rfl⟩, by decide +kernel, ⟨by decide +kernel, by decide +kernel⟩, (List.mem_of_getElem? (i := 77) (by decide +kernel)), by decide +kernel⟩, (fun h => absurd h (by decide)), am_ts_of am_tc130⟩
theorem am_co131 : am_allT (am_ckc prog_6_method_3_code) 2 am_c131 = true := by decide +kernel
theorem am_tc131 : am_allT (am_tck (am_at am_c131) 7) 2 am_c131 = true := by decide +kernel
set_option maxRecDepth 100000 in
theorem am_p131 : am_PI am_i131 := ⟨am_pc_of am_co131, ⟨Or.inl ⟨(List.mem_of_getElem? (i := 950) rfl), rfl⟩, by decide +kernel, ⟨by decide +kernel, by decide +kernel⟩, (List.mem_of_getElem? (i := 79) (by decide +kernel)), by decide +kernel⟩, (fun h => absurd h (by decide)), am_ts_of am_tc131⟩
theorem am_co132 : am_allT (am_ckc method_14_code) 5 am_c132 = true := by decide +kernel
theorem am_tc132 : am_allT (am_tck (am_at am_c132) 14) 5 am_c132 = true := by decide +kernel
set_option maxRecDepth 100000 in
theorem am_p132 : am_PI am_i132 := ⟨am_pc_of am_co132, ⟨Or.inr ⟨[(0, 14, 17, 13), (0, 14, 21, 21)], (List.mem_of_getElem? (i := 953) rfl), ⟨⟨rfl, rfl, rfl, by decide, by decide, _, rfl, (List.mem_of_getElem? (i := 341) (by decide +kernel))⟩, ⟨⟨rfl, rfl, rfl, by decide, by decide, _, rfl, (List.mem_of_getElem? (i := 455) (by decide +kernel))⟩, trivial⟩⟩⟩, by decide +kernel, ⟨by decide +kernel, by decide +kernel⟩, (List.mem_of_getElem? (i := 71) (by decide +kernel)), by decide +kernel⟩, (fun h => absurd h (by decide)), am_ts_of am_tc132⟩
theorem am_co133 : am_allT (am_ckc prog_1_method_14_code) 5 am_c133 = true := by decide +kernel
theorem am_tc133 : am_allT (am_tck (am_at am_c133) 0) 5 am_c133 = true := by decide +kernel
set_option maxRecDepth 100000 in
theorem am_p133 : am_PI am_i133 := ⟨am_pc_of am_co133, ⟨Or.inl ⟨(List.mem_of_getElem? (i := 957) rfl), rfl⟩, by decide +kernel, ⟨by decide +kernel, by decide +kernel⟩, (List.mem_of_getElem? (i := 72) (by decide +kernel)), by decide +kernel⟩, (fun h => absurd h (by decide)), am_ts_of am_tc133⟩
theorem am_co134 : am_allT (am_ckc prog_4_method_2_code) 5 am_c134 = true := by decide +kernel
theorem am_tc134 : am_allT (am_tck (am_at am_c134) 8) 5 am_c134 = true := by decide +kernel
set_option maxRecDepth 100000 in
theorem am_p134 : am_PI am_i134 := ⟨am_pc_of am_co134, ⟨Or.inl ⟨(List.mem_of_getElem? (i := 962) rfl), rfl⟩, by decide +kernel, ⟨by decide +kernel, by decide +kernel⟩, (List.mem_of_getElem? (i := 80) (by decide +kernel)), by decide +kernel⟩, (fun h => absurd h (by decide)), am_ts_of am_tc134⟩
theorem am_co135 : am_allT (am_ckc prog_4_method_6_code) 5 am_c135 = true := by decide +kernel
theorem am_tc135 : am_allT (am_tck (am_at am_c135) 8) 5 am_c135 = true := by decide +kernel
set_option maxRecDepth 100000 in
theorem am_p135 : am_PI am_i135 := ⟨am_pc_of am_co135, ⟨Or.inl ⟨(List.mem_of_getElem? (i := 966) rfl), rfl⟩, by decide +kernel, ⟨by decide +kernel, by decide +kernel⟩, (List.mem_of_getElem? (i := 80) (by decide +kernel)), by decide +kernel⟩, (fun h => absurd h (by decide)), am_ts_of am_tc135⟩
end
section
theorem am_co136 : am_allT (am_ckc prog_4_method_11_code) 4 am_c136 = true := by decide +kernel
theorem am_tc136 : am_allT (am_tck (am_at am_c136) 8) 4 am_c136 = true := by decide +kernel
set_option maxRecDepth 100000 in
theorem am_p136 : am_PI am_i136 := ⟨am_pc_of am_co136, ⟨Or.inl ⟨(List.mem_of_getElem? (i := 971) rfl), rfl⟩, by decide +kernel, ⟨by decide +kernel, by decide +kernel⟩, (List.mem_of_getElem? (i := 80) (by decide +kernel)), by decide +kernel⟩, (fun h => absurd h (by decide)), am_ts_of am_tc136⟩
theorem am_co137_0 : am_allT (am_ckc prog_4_method_7_code) 5 am_c137_0 = true := by decide +kernel
theorem am_tc137_0 : am_allT (am_tck (am_at am_c137) 8) 5 am_c137_0 = true := by decide +kernel
theorem am_co137_1 : am_allT (am_ckc prog_4_method_7_code) 5 am_c137_1 = true := by decide +kernel
theorem am_tc137_1 : am_allT (am_tck (am_at am_c137) 8) 5 am_c137_1 = true := by decide +kernel
theorem am_co137_2 : am_allT (am_ckc prog_4_method_7_code) 5 am_c137_2 = true := by decide +kernel
theorem am_tc137_2 : am_allT (am_tck (am_at am_c137) 8) 5 am_c137_2 = true := by decide +kernel
theorem am_co137_3 : am_allT (am_ckc prog_4_method_7_code) 5 am_c137_3 = true := by decide +kernel
theorem am_tc137_3 : am_allT (am_tck (am_at am_c137) 8) 5 am_c137_3 = true := by decide +kernel
theorem am_co137 : am_allT (am_ckc prog_4_method_7_code) 7 am_c137 = true := (am_allT_nd (am_allT_nd am_co137_0 am_co137_1) (am_allT_nd am_co137_2 am_co137_3))
theorem am_tc137 : am_allT (am_tck (am_at am_c137) 8) 7 am_c137 = true := (am_allT_nd (am_allT_nd am_tc137_0 am_tc137_1) (am_allT_nd am_tc137_2 am_tc137_3))
set_option maxRecDepth 100000 in
theorem am_p137 : am_PI am_i137 := ⟨am_pc_of am_co137, ⟨Or.inl ⟨(List.mem_of_getElem? (i := 977) rfl), rfl⟩, by decide +kernel, ⟨by decide +kernel, by decide +kernel⟩, (List.mem_of_getElem? (i := 80) (by decide +kernel)), by decide +kernel⟩, (fun h => absurd h (by decide)), am_ts_of am_tc137⟩
theorem am_co138 : am_allT (am_ckc prog_4_method_10_code) 4 am_c138 = true := by decide +kernel
theorem am_tc138 : am_allT (am_tck (am_at am_c138) 8) 4 am_c138 = true := by decide +kernel
set_option maxRecDepth 100000 in
theorem am_p138 : am_PI am_i138 := ⟨am_pc_of am_co138, ⟨Or.inl ⟨(List.mem_of_getElem? (i := 982) rfl), rfl⟩, by decide +kernel, ⟨by decide +kernel, by decide +kernel⟩, (List.mem_of_getElem? (i := 80) (by decide +kernel)), by decide +kernel⟩, (fun h => absurd h (by decide)), am_ts_of am_tc138⟩
theorem am_co139 : am_allT (am_ckc prog_4_method_8_code) 5 am_c139 = true := by decide +kernel
theorem am_tc139 : am_allT (am_tck (am_at am_c139) 8) 5 am_c139 = true := by decide +kernel
set_option maxRecDepth 100000 in
theorem am_p139 : am_PI am_i139 := ⟨am_pc_of am_co139, ⟨Or.inl ⟨(List.mem_of_getElem? (i := 986) rfl), rfl⟩, by decide +kernel, ⟨by decide +kernel, by decide +kernel⟩, (List.mem_of_getElem? (i := 80) (by decide +kernel)), by decide +kernel⟩, (fun h => absurd h (by decide)), am_ts_of am_tc139⟩
theorem am_co140 : am_allT (am_ckc prog_4_method_5_code) 4 am_c140 = true := by decide +kernel
theorem am_tc140 : am_allT (am_tck (am_at am_c140) 8) 4 am_c140 = true := by decide +kernel
set_option maxRecDepth 100000 in
theorem am_p140 : am_PI am_i140 := ⟨am_pc_of am_co140, ⟨Or.inl ⟨(List.mem_of_getElem? (i := 992) rfl), rfl⟩, by decide +kernel, ⟨by decide +kernel, by decide +kernel⟩, (List.mem_of_getElem? (i := 80) (by decide +kernel)), by decide +kernel⟩, (fun h => absurd h (by decide)), am_ts_of am_tc140⟩
theorem am_co141 : am_allT (am_ckc prog_4_method_12_code) 4 am_c141 = true := by decide +kernel
theorem am_tc141 : am_allT (am_tck (am_at am_c141) 8) 4 am_c141 = true := by decide +kernel
set_option maxRecDepth 100000 in
theorem am_p141 : am_PI am_i141 := ⟨am_pc_of am_co141, ⟨Or.inl ⟨(List.mem_of_getElem? (i := 996) rfl), rfl⟩, by decide +kernel, ⟨by decide +kernel, by decide +kernel⟩, (List.mem_of_getElem? (i := 80) (by decide +kernel)), by decide +kernel⟩, (fun h => absurd h (by decide)), am_ts_of am_tc141⟩
theorem am_co142_0 : am_allT (am_ckc prog_4_method_9_code) 5 am_c142_0 = true := by decide +kernel
theorem am_tc142_0 : am_allT (am_tck (am_at am_c142) 8) 5 am_c142_0 = true := by decide +kernel
theorem am_co142_1 : am_allT (am_ckc prog_4_method_9_code) 5 am_c142_1 = true := by decide +kernel
theorem am_tc142_1 : am_allT (am_tck (am_at am_c142) 8) 5 am_c142_1 = true := by decide +kernel
theorem am_co142 : am_allT (am_ckc prog_4_method_9_code) 6 am_c142 = true := (am_allT_nd am_co142_0 am_co142_1)
theorem am_tc142 : am_allT (am_tck (am_at am_c142) 8) 6 am_c142 = true := (am_allT_nd am_tc142_0 am_tc142_1)
set_option maxRecDepth 100000 in
theorem am_p142 : am_PI am_i142 := ⟨am_pc_of am_co142, ⟨Or.inl ⟨(List.mem_of_getElem? (i := 1001) rfl), rfl⟩, by decide +kernel, ⟨by decide +kernel, by decide +kernel⟩, (List.mem_of_getElem? (i := 80) (by decide +kernel)), by decide +kernel⟩, (fun h => absurd h (by decide)), am_ts_of am_tc142⟩
theorem am_co143 : am_allT (am_ckc method_15_code) 4 am_c143 = true := by decide +kernel
theorem am_tc143 : am_allT (am_tck (am_at am_c143) 14) 4 am_c143 = true := by decide +kernel
set_option maxRecDepth 100000 in
theorem am_p143 : am_PI am_i143 := ⟨am_pc_of am_co143, ⟨Or.inr ⟨[(0, 9, 12, 13)], (List.mem_of_getElem? (i := 1005) rfl), ⟨⟨rfl, rfl, rfl, by decide, by decide, _, rfl, (List.mem_of_getElem? (i := 341) (by decide +kernel))⟩, trivial⟩⟩, by decide +kernel, ⟨by decide +kernel, by decide +kernel⟩, (List.mem_of_getElem? (i := 71) (by decide +kernel)), by decide +kernel⟩, (fun h => absurd h (by decide)), am_ts_of am_tc143⟩
theorem am_co144 : am_allT (am_ckc prog_1_method_16_code) 4 am_c144 = true := by decide +kernel
theorem am_tc144 : am_allT (am_tck (am_at am_c144) 0) 4 am_c144 = true := by decide +kernel
set_option maxRecDepth 100000 in
theorem am_p144 : am_PI am_i144 := ⟨am_pc_of am_co144, ⟨Or.inl ⟨(List.mem_of_getElem? (i := 1009) rfl), rfl⟩, by decide +kernel, ⟨by decide +kernel, by decide +kernel⟩, (List.mem_of_getElem? (i := 72) (by decide +kernel)), by decide +kernel⟩, (fun h => absurd h (by decide)), am_ts_of am_tc144⟩
theorem am_co145_0 : am_allT (am_ckc prog_11_method_1_code) 5 am_c145_0 = true := by decide +kernel
theorem am_tc145_0 : am_allT (am_tck (am_at am_c145) 9) 5 am_c145_0 = true := by decide +kernel
theorem am_co145_1 : am_allT (am_ckc prog_11_method_1_code) 5 am_c145_1 = true := by decide +kernel
theorem am_tc145_1 : am_allT (am_tck (am_at am_c145) 9) 5 am_c145_1 = true := by decide +kernel
theorem am_co145_2 : am_allT (am_ckc prog_11_method_1_code) 5 am_c145_2 = true := by decide +kernel
theorem am_tc145_2 : am_allT (am_tck (am_at am_c145) 9) 5 am_c145_2 = true := by decide +kernel
theorem am_co145_3 : am_allT (am_ckc prog_11_method_1_code) 5 am_c145_3 = true := by decide +kernel
theorem am_tc145_3 : am_allT (am_tck (am_at am_c145) 9) 5 am_c145_3 = true := by decide +kernel
theorem am_co145 : am_allT (am_ckc prog_11_method_1_code) 7 am_c145 = true := (am_allT_nd (am_allT_nd am_co145_0 am_co145_1) (am_allT_nd am_co145_2 am_co145_3))
theorem am_tc145 : am_allT (am_tck (am_at am_c145) 9) 7 am_c145 = true := (am_allT_nd (am_allT_nd am_tc145_0 am_tc145_1) (am_allT_nd am_tc145_2 am_tc145_3))
set_option maxRecDepth 100000 in
theorem am_p145 : am_PI am_i145 := ⟨am_pc_of am_co145, ⟨Or.inl ⟨(List.mem_of_getElem? (i := 1017) rfl), rfl⟩, by decide +kernel, ⟨by decide +kernel, by decide +kernel⟩, (List.mem_of_getElem? (i := 81) (by decide +kernel)), by decide +kernel⟩, (fun _ => rfl), am_ts_of am_tc145⟩
theorem am_co146 : am_allT (am_ckc prog_11_method_2_code) 2 am_c146 = true := by decide +kernel
theorem am_tc146 : am_allT (am_tck (am_at am_c146) 9) 2 am_c146 = true := by decide +kernel
set_option maxRecDepth 100000 in
theorem am_p146 : am_PI am_i146 := ⟨am_pc_of am_co146, ⟨Or.inl ⟨(List.mem_of_getElem? (i := 1131) rfl), rfl⟩, by decide +kernel, ⟨by decide +kernel, by decide +kernel⟩, (List.mem_of_getElem? (i := 81) (by decide +kernel)), by decide +kernel⟩, (fun h => absurd h (by decide)), am_ts_of am_tc146⟩
theorem am_co147_0 : am_allT (am_ckc prog_11_method_6_code) 5 am_c147_0 = true := by decide +kernel
theorem am_tc147_0 : am_allT (am_tck (am_at am_c147) 9) 5 am_c147_0 = true := by decide +kernel
theorem am_co147_1 : am_allT (am_ckc prog_11_method_6_code) 5 am_c147_1 = true := by decide +kernel
theorem am_tc147_1 : am_allT (am_tck (am_at am_c147) 9) 5 am_c147_1 = true := by decide +kernel
theorem am_co147 : am_allT (am_ckc prog_11_method_6_code) 6 am_c147 = true := (am_allT_nd am_co147_0 am_co147_1)
theorem am_tc147 : am_allT (am_tck (am_at am_c147) 9) 6 am_c147 = true := (am_allT_nd am_tc147_0 am_tc147_1)
set_option maxRecDepth 100000 in
theorem am_p147 : am_PI am_i147 := ⟨am_pc_of am_co147, ⟨Or.inl ⟨(List.mem_of_getElem? (i := 1135) rfl), rfl⟩, by decide +kernel, ⟨by decide +kernel, by decide +kernel⟩, (List.mem_of_getElem? (i := 81) (by decide +kernel)), by decide +kernel⟩, (fun h => absurd h (by decide)), am_ts_of am_tc147⟩
theorem am_co148 : am_allT (am_ckc prog_11_method_4_code) 4 am_c148 = true := by decide +kernel
theorem am_tc148 : am_allT (am_tck (am_at am_c148) 9) 4 am_c148 = true := by decide +kernel
set_option maxRecDepth 100000 in
theorem am_p148 : am_PI am_i148 := ⟨am_pc_of am_co148, ⟨Or.inl ⟨(List.mem_of_getElem? (i := 1138) rfl), rfl⟩, by decide +kernel, ⟨by decide +kernel, by decide +kernel⟩, (List.mem_of_getElem? (i := 81) (by decide +kernel)), by decide +kernel⟩, (fun h => absurd h (by decide)), am_ts_of am_tc148⟩
theorem am_co149_0 : am_allT (am_ckc prog_11_method_7_code) 5 am_c149_0 = true := by decide +kernel
theorem am_tc149_0 : am_allT (am_tck (am_at am_c149) 9) 5 am_c149_0 = true := by decide +kernel
theorem am_co149_1 : am_allT (am_ckc prog_11_method_7_code) 5 am_c149_1 = true := by decide +kernel
theorem am_tc149_1 : am_allT (am_tck (am_at am_c149) 9) 5 am_c149_1 = true := by decide +kernel
theorem am_co149 : am_allT (am_ckc prog_11_method_7_code) 6 am_c149 = true := (am_allT_nd am_co149_0 am_co149_1)
theorem am_tc149 : am_allT (am_tck (am_at am_c149) 9) 6 am_c149 = true := (am_allT_nd am_tc149_0 am_tc149_1)
set_option maxRecDepth 100000 in
theorem am_p149 : am_PI am_i149 := ⟨am_pc_of am_co149, ⟨Or.inl ⟨(List.mem_of_getElem? (i := 1142) rfl), rfl⟩, by decide +kernel, ⟨by decide +kernel, by decide +kernel⟩, (List.mem_of_getElem? (i := 81) (by decide +kernel)), by decide +kernel⟩, (fun h => absurd h (by decide)), am_ts_of am_tc149⟩
theorem am_co150 : am_allT (am_ckc prog_11_method_5_code) 4 am_c150 = true := by decide +kernel
theorem am_tc150 : am_allT (am_tck (am_at am_c150) 9) 4 am_c150 = true := by decide +kernel
set_option maxRecDepth 100000 in
theorem am_p150 : am_PI am_i150 := ⟨am_pc_of am_co150, ⟨Or.inl ⟨(List.mem_of_getElem? (i := 1146) rfl), rfl⟩, by decide +kernel, ⟨by decide +kernel, by decide +kernel⟩, (List.mem_of_getElem? (i := 81) (by decide +kernel)), by decide +kernel⟩, (fun h => absurd h (by decide)), am_ts_of am_tc150⟩
theorem am_co151_0 : am_allT (am_ckc prog_11_method_13_code) 5 am_c151_0 = true := by decide +kernel
theorem am_tc151_0 : am_allT (am_tck (am_at am_c151) 9) 5 am_c151_0 = true := by decide +kernel
theorem am_co151_1 : am_allT (am_ckc prog_11_method_13_code) 5 am_c151_1 = true := by decide +kernel
theorem am_tc151_1 : am_allT (am_tck (am_at am_c151) 9) 5 am_c151_1 = true := by decide +kernel
theorem am_co151_2 : am_allT (am_ckc prog_11_method_13_code) 5 am_c151_2 = true := by decide +kernel
theorem am_tc151_2 : am_allT (am_tck (am_at am_c151) 9) 5 am_c151_2 = true := by decide +kernel
theorem am_co151_3 : am_allT (am_ckc prog_11_method_13_code) 5 am_c151_3 = true := by decide +kernel
theorem am_tc151_3 : am_allT (am_tck (am_at am_c151) 9) 5 am_c151_3 = true := by decide +kernel
theorem am_co151 : am_allT (am_ckc prog_11_method_13_code) 7 am_c151 = true := (am_allT_nd (am_allT_nd am_co151_0 am_co151_1) (am_allT_nd am_co151_2 am_co151_3))
theorem am_tc151 : am_allT (am_tck (am_at am_c151) 9) 7 am_c151 = true := (am_allT_nd (am_allT_nd am_tc151_0 am_tc151_1) (am_allT_nd am_tc151_2 am_tc151_3))
set_option maxRecDepth 100000 in
theorem am_p151 : am_PI am_i151 := ⟨am_pc_of am_co151, ⟨Or.inl ⟨(List.mem_of_getElem? (i := 1150) rfl), rfl⟩, by decide +kernel, ⟨by decide +kernel, by decide +kernel⟩, (List.mem_of_getElem? (i := 81) (by decide +kernel)), by decide +kernel⟩, (fun h => absurd h (by decide)), am_ts_of am_tc151⟩
theorem am_co152 : am_allT (am_ckc prog_11_method_8_code) 4 am_c152 = true := by decide +kernel
theorem am_tc152 : am_allT (am_tck (am_at am_c152) 9) 4 am_c152 = true := by decide +kernel
set_option maxRecDepth 100000 in
theorem am_p152 : am_PI am_i152 := ⟨am_pc_of am_co152, ⟨Or.inl ⟨(List.mem_of_getElem? (i := 1154) rfl), rfl⟩, by decide +kernel, ⟨by decide +kernel, by decide +kernel⟩, (List.mem_of_getElem? (i := 81) (by decide +kernel)), by decide +kernel⟩, (fun h => absurd h (by decide)), am_ts_of am_tc152⟩
theorem am_co153 : am_allT (am_ckc prog_11_method_3_code) 3 am_c153 = true := by decide +kernel
theorem am_tc153 : am_allT (am_tck (am_at am_c153) 9) 3 am_c153 = true := by decide +kernel
set_option maxRecDepth 100000 in
theorem am_p153 : am_PI am_i153 := ⟨am_pc_of am_co153, ⟨Or.inl ⟨(List.mem_of_getElem? (i := 1158) rfl), rfl⟩, by decide +kernel, ⟨by decide +kernel, by decide +kernel⟩, (List.mem_of_getElem? (i := 81) (by decide +kernel)), by decide +kernel⟩, (fun h => absurd h (by decide)), am_ts_of am_tc153⟩
theorem am_co154 : am_allT (am_ckc prog_11_method_9_code) 3 am_c154 = true := by decide +kernel
theorem am_tc154 : am_allT (am_tck (am_at am_c154) 9) 3 am_c154 = true := by decide +kernel
set_option maxRecDepth 100000 in
theorem am_p154 : am_PI am_i154 := ⟨am_pc_of am_co154, ⟨Or.inl ⟨(List.mem_of_getElem? (i := 1161) rfl), rfl⟩, by decide +kernel, ⟨by decide +kernel, by decide +kernel⟩, (List.mem_of_getElem? (i := 81) (by decide +kernel)), by decide +kernel⟩, (fun h => absurd h (by decide)), am_ts_of am_tc154⟩
theorem am_co155 : am_allT (am_ckc prog_11_method_10_code) 3 am_c155 = true := by decide +kernel
theorem am_tc155 : am_allT (am_tck (am_at am_c155) 9) 3 am_c155 = true := by decide +kernel
set_option maxRecDepth 100000 in
theorem am_p155 : am_PI am_i155 := ⟨am_pc_of am_co155, ⟨Or.inl ⟨(List.mem_of_getElem? (i := 1164) rfl), rfl⟩, by decide +kernel, ⟨by decide +kernel, by decide +kernel⟩, (List.mem_of_getElem? (i := 81) (by decide +kernel)), by decide +kernel⟩, (fun h => absurd h (by decide)), am_ts_of am_tc155⟩
theorem am_co156 : am_allT (am_ckc prog_11_method_11_code) 4 am_c156 = true := by decide +kernel
theorem am_tc156 : am_allT (am_tck (am_at am_c156) 9) 4 am_c156 = true := by decide +kernel
set_option maxRecDepth 100000 in
theorem am_p156 : am_PI am_i156 := ⟨am_pc_of am_co156, ⟨Or.inl ⟨(List.mem_of_getElem? (i := 1167) rfl), rfl⟩, by decide +kernel, ⟨by decide +kernel, by decide +kernel⟩, (List.mem_of_getElem? (i := 81) (by decide +kernel)), by decide +kernel⟩, (fun h => absurd h (by decide)), am_ts_of am_tc156⟩
theorem am_co157_0 : am_allT (am_ckc prog_11_method_12_code) 5 am_c157_0 = true := by decide +kernel
theorem am_tc157_0 : am_allT (am_tck (am_at am_c157) 9) 5 am_c157_0 = true := by decide +kernel
theorem am_co157_1 : am_allT (am_ckc prog_11_method_12_code) 5 am_c157_1 = true := by decide +kernel
theorem am_tc157_1 : am_allT (am_tck (am_at am_c157) 9) 5 am_c157_1 = true := by decide +kernel
theorem am_co157 : am_allT (am_ckc prog_11_method_12_code) 6 am_c157 = true := (am_allT_nd am_co157_0 am_co157_1)
theorem am_tc157 : am_allT (am_tck (am_at am_c157) 9) 6 am_c157 = true := (am_allT_nd am_tc157_0 am_tc157_1)
set_option maxRecDepth 100000 in
theorem am_p157 : am_PI am_i157 := ⟨am_pc_of am_co157, ⟨Or.inl ⟨(List.mem_of_getElem? (i := 1171) rfl), rfl⟩, by decide +kernel, ⟨by decide +kernel, by decide +kernel⟩, (List.mem_of_getElem? (i := 81) (by decide +kernel)), by decide +kernel⟩, (fun h => absurd h (by decide)), am_ts_of am_tc157⟩
theorem am_co158_0 : am_allT (am_ckc prog_11_method_14_code) 5 am_c158_0 = true := by decide +kernel
theorem am_tc158_0 : am_allT (am_tck (am_at am_c158) 9) 5 am_c158_0 = true := by decide +kernel
theorem am_co158_1 : am_allT (am_ckc prog_11_method_14_code) 5 am_c158_1 = true := by decide +kernel
theorem am_tc158_1 : am_allT (am_tck (am_at am_c158) 9) 5 am_c158_1 = true := by decide +kernel
theorem am_co158_2 : am_allT (am_ckc prog_11_method_14_code) 5 am_c158_2 = true := by decide +kernel
theorem am_tc158_2 : am_allT (am_tck (am_at am_c158) 9) 5 am_c158_2 = true := by decide +kernel
theorem am_co158_3 : am_allT (am_ckc prog_11_method_14_code) 5 am_c158_3 = true := by decide +kernel
theorem am_tc158_3 : am_allT (am_tck (am_at am_c158) 9) 5 am_c158_3 = true := by decide +kernel
theorem am_co158 : am_allT (am_ckc prog_11_method_14_code) 7 am_c158 = true := (am_allT_nd (am_allT_nd am_co158_0 am_co158_1) (am_allT_nd am_co158_2 am_co158_3))
theorem am_tc158 : am_allT (am_tck (am_at am_c158) 9) 7 am_c158 = true := (am_allT_nd (am_allT_nd am_tc158_0 am_tc158_1) (am_allT_nd am_tc158_2 am_tc158_3))
set_option maxRecDepth 100000 in
theorem am_p158 : am_PI am_i158 := ⟨am_pc_of am_co158, ⟨Or.inl ⟨(List.mem_of_getElem? (i := 1175) rfl), rfl⟩, by decide +kernel, ⟨by decide +kernel, by decide +kernel⟩, (List.mem_of_getElem? (i := 81) (by decide +kernel)), by decide +kernel⟩, (fun h => absurd h (by decide)), am_ts_of am_tc158⟩
theorem am_co159 : am_allT (am_ckc prog_11_method_15_code) 5 am_c159 = true := by decide +kernel
theorem am_tc159 : am_allT (am_tck (am_at am_c159) 9) 5 am_c159 = true := by decide +kernel
set_option maxRecDepth 100000 in
theorem am_p159 : am_PI am_i159 := ⟨am_pc_of am_co159, ⟨Or.inl ⟨(List.mem_of_getElem? (i := 1179) rfl), rfl⟩, by decide +kernel, ⟨by decide +kernel, by decide +kernel⟩, (List.mem_of_getElem? (i := 81) (by decide +kernel)), by decide +kernel⟩, (fun h => absurd h (by decide)), am_ts_of am_tc159⟩
theorem am_co160 : am_allT (am_ckc prog_11_method_17_code) 4 am_c160 = true := by decide +kernel
theorem am_tc160 : am_allT (am_tck (am_at am_c160) 9) 4 am_c160 = true := by decide +kernel
set_option maxRecDepth 100000 in
theorem am_p160 : am_PI am_i160 := ⟨am_pc_of am_co160, ⟨Or.inl ⟨(List.mem_of_getElem? (i := 1183) rfl), rfl⟩, by decide +kernel, ⟨by decide +kernel, by decide +kernel⟩, (List.mem_of_getElem? (i := 81) (by decide +kernel)), by decide +kernel⟩, (fun h => absurd h (by decide)), am_ts_of am_tc160⟩
theorem am_co161_0 : am_allT (am_ckc prog_11_method_16_code) 5 am_c161_0 = true := by decide +kernel
theorem am_tc161_0 : am_allT (am_tck (am_at am_c161) 9) 5 am_c161_0 = true := by decide +kernel
theorem am_co161_1 : am_allT (am_ckc prog_11_method_16_code) 5 am_c161_1 = true := by decide +kernel
theorem am_tc161_1 : am_allT (am_tck (am_at am_c161) 9) 5 am_c161_1 = true := by decide +kernel
theorem am_co161_2 : am_allT (am_ckc prog_11_method_16_code) 5 am_c161_2 = true := by decide +kernel
theorem am_tc161_2 : am_allT (am_tck (am_at am_c161) 9) 5 am_c161_2 = true := by decide +kernel
theorem am_co161_3 : am_allT (am_ckc prog_11_method_16_code) 5 am_c161_3 = true := by decide +kernel
theorem am_tc161_3 : am_allT (am_tck (am_at am_c161) 9) 5 am_c161_3 = true := by decide +kernel
theorem am_co161 : am_allT (am_ckc prog_11_method_16_code) 7 am_c161 = true := (am_allT_nd (am_allT_nd am_co161_0 am_co161_1) (am_allT_nd am_co161_2 am_co161_3))
theorem am_tc161 : am_allT (am_tck (am_at am_c161) 9) 7 am_c161 = true := (am_allT_nd (am_allT_nd am_tc161_0 am_tc161_1) (am_allT_nd am_tc161_2 am_tc161_3))
set_option maxRecDepth 100000 in
theorem am_p161 : am_PI am_i161 := ⟨am_pc_of am_co161, ⟨Or.inl ⟨(List.mem_of_getElem? (i := 1187) rfl), rfl⟩, by decide +kernel, ⟨by decide +kernel, by decide +kernel⟩, (List.mem_of_getElem? (i := 81) (by decide +kernel)), by decide +kernel⟩, (fun h => absurd h (by decide)), am_ts_of am_tc161⟩
theorem am_co162_0 : am_allT (am_ckc prog_11_method_18_code) 5 am_c162_0 = true := by decide +kernel
theorem am_tc162_0 : am_allT (am_tck (am_at am_c162) 9) 5 am_c162_0 = true := by decide +kernel
theorem am_co162_1 : am_allT (am_ckc prog_11_method_18_code) 5 am_c162_1 = true := by decide +kernel
theorem am_tc162_1 : am_allT (am_tck (am_at am_c162) 9) 5 am_c162_1 = true := by decide +kernel
theorem am_co162 : am_allT (am_ckc prog_11_method_18_code) 6 am_c162 = true := (am_allT_nd am_co162_0 am_co162_1)
theorem am_tc162 : am_allT (am_tck (am_at am_c162) 9) 6 am_c162 = true := (am_allT_nd am_tc162_0 am_tc162_1)
set_option maxRecDepth 100000 in
theorem am_p162 : am_PI am_i162 := ⟨am_pc_of am_co162, ⟨Or.inl ⟨(List.mem_of_getElem? (i := 1191) rfl), rfl⟩, by decide +kernel, ⟨by decide +kernel, by decide +kernel⟩, (List.mem_of_getElem? (i := 81) (by decide +kernel)), by decide +kernel⟩, (fun h => absurd h (by decide)), am_ts_of am_tc162⟩
theorem am_co163_0 : am_allT (am_ckc prog_11_method_19_code) 5 am_c163_0 = true := by decide +kernel
theorem am_tc163_0 : am_allT (am_tck (am_at am_c163) 9) 5 am_c163_0 = true := by decide +kernel
theorem am_co163_1 : am_allT (am_ckc prog_11_method_19_code) 5 am_c163_1 = true := by decide +kernel
theorem am_tc163_1 : am_allT (am_tck (am_at am_c163) 9) 5 am_c163_1 = true := by decide +kernel
theorem am_co163 : am_allT (am_ckc prog_11_method_19_code) 6 am_c163 = true := (am_allT_nd am_co163_0 am_co163_1)
theorem am_tc163 : am_allT (am_tck (am_at am_c163) 9) 6 am_c163 = true := (am_allT_nd am_tc163_0 am_tc163_1)
set_option maxRecDepth 100000 in
theorem am_p163 : am_PI am_i163 := ⟨am_pc_of am_co163, ⟨Or.inl ⟨(List.mem_of_getElem? (i := 1195) rfl), rfl⟩, by decide +kernel, ⟨by decide +kernel, by decide +kernel⟩, (List.mem_of_getElem? (i := 81) (by decide +kernel)), by decide +kernel⟩, (fun h => absurd h (by decide)), am_ts_of am_tc163⟩
theorem am_co164_0 : am_allT (am_ckc prog_11_method_20_code) 5 am_c164_0 = true := by decide +kernel
theorem am_tc164_0 : am_allT (am_tck (am_at am_c164) 9) 5 am_c164_0 = true := by decide +kernel
theorem am_co164_1 : am_allT (am_ckc prog_11_method_20_code) 5 am_c164_1 = true := by decide +kernel
theorem am_tc164_1 : am_allT (am_tck (am_at am_c164) 9) 5 am_c164_1 = true := by decide +kernel
theorem am_co164 : am_allT (am_ckc prog_11_method_20_code) 6 am_c164 = true := (am_allT_nd am_co164_0 am_co164_1)
theorem am_tc164 : am_allT (am_tck (am_at am_c164) 9) 6 am_c164 = true := (am_allT_nd am_tc164_0 am_tc164_1)
set_option maxRecDepth 100000 in
theorem am_p164 : am_PI am_i164 := ⟨am_pc_of am_co164, ⟨Or.inl ⟨(List.mem_of_getElem? (i := 1199) rfl), rfl⟩, by decide +kernel, ⟨by decide +kernel, by decide +kernel⟩, (List.mem_of_getElem? (i := 81) (by decide +kernel)), by decide +kernel⟩, (fun h => absurd h (by decide)), am_ts_of am_tc164⟩
theorem am_co165_0 : am_allT (am_ckc prog_11_method_23_code) 5 am_c165_0 = true := by decide +kernel
theorem am_tc165_0 : am_allT (am_tck (am_at am_c165) 9) 5 am_c165_0 = true := by decide +kernel
theorem am_co165_1 : am_allT (am_ckc prog_11_method_23_code) 5 am_c165_1 = true := by decide +kernel
theorem am_tc165_1 : am_allT (am_tck (am_at am_c165) 9) 5 am_c165_1 = true := by decide +kernel
theorem am_co165_2 : am_allT (am_ckc prog_11_method_23_code) 5 am_c165_2 = true := by decide +kernel
theorem am_tc165_2 : am_allT (am_tck (am_at am_c165) 9) 5 am_c165_2 = true := by decide +kernel
theorem am_co165_3 : am_allT (am_ckc prog_11_method_23_code) 5 am_c165_3 = true := by decide +kernel
theorem am_tc165_3 : am_allT (am_tck (am_at am_c165) 9) 5 am_c165_3 = true := by decide +kernel
theorem am_co165_4 : am_allT (am_ckc prog_11_method_23_code) 5 am_c165_4 = true := by decide +kernel
theorem am_tc165_4 : am_allT (am_tck (am_at am_c165) 9) 5 am_c165_4 = true := by decide +kernel
theorem am_co165_5 : am_allT (am_ckc prog_11_method_23_code) 5 am_c165_5 = true := by decide +kernel
theorem am_tc165_5 : am_allT (am_tck (am_at am_c165) 9) 5 am_c165_5 = true := by decide +kernel
theorem am_co165_6 : am_allT (am_ckc prog_11_method_23_code) 5 am_c165_6 = true := by decide +kernel
theorem am_tc165_6 : am_allT (am_tck (am_at am_c165) 9) 5 am_c165_6 = true := by decide +kernel
theorem am_co165_7 : am_allT (am_ckc prog_11_method_23_code) 5 am_c165_7 = true := by decide +kernel
theorem am_tc165_7 : am_allT (am_tck (am_at am_c165) 9) 5 am_c165_7 = true := by decide +kernel
theorem am_co165 : am_allT (am_ckc prog_11_method_23_code) 8 am_c165 = true := (am_allT_nd (am_allT_nd (am_allT_nd am_co165_0 am_co165_1) (am_allT_nd am_co165_2 am_co165_3)) (am_allT_nd (am_allT_nd am_co165_4 am_co165_5) (am_allT_nd am_co165_6 am_co165_7)))
theorem am_tc165 : am_allT (am_tck (am_at am_c165) 9) 8 am_c165 = true := (am_allT_nd (am_allT_nd (am_allT_nd am_tc165_0 am_tc165_1) (am_allT_nd am_tc165_2 am_tc165_3)) (am_allT_nd (am_allT_nd am_tc165_4 am_tc165_5) (am_allT_nd am_tc165_6 am_tc165_7)))
set_option maxRecDepth 100000 in
theorem am_p165 : am_PI am_i165 := ⟨am_pc_of am_co165, ⟨Or.inl ⟨(List.mem_of_getElem? (i := 1203) rfl), rfl⟩, by decide +kernel, ⟨by decide +kernel, by decide +kernel⟩, (List.mem_of_getElem? (i := 81) (by decide +kernel)), by decide +kernel⟩, (fun h => absurd h (by decide)), am_ts_of am_tc165⟩
theorem am_co166 : am_allT (am_ckc prog_11_method_22_code) 5 am_c166 = true := by decide +kernel
theorem am_tc166 : am_allT (am_tck (am_at am_c166) 9) 5 am_c166 = true := by decide +kernel
set_option maxRecDepth 100000 in
theorem am_p166 : am_PI am_i166 := ⟨am_pc_of am_co166, ⟨Or.inl ⟨(List.mem_of_getElem? (i := 1206) rfl), rfl⟩, by decide +kernel, ⟨by decide +kernel, by decide +kernel⟩, (List.mem_of_getElem? (i := 81) (by decide +kernel)), by decide +kernel⟩, (fun h => absurd h (by decide)), am_ts_of am_tc166⟩
theorem am_co167_0 : am_allT (am_ckc prog_11_method_26_code) 5 am_c167_0 = true := by decide +kernel
theorem am_tc167_0 : am_allT (am_tck (am_at am_c167) 9) 5 am_c167_0 = true := by decide +kernel
theorem am_co167_1 : am_allT (am_ckc prog_11_method_26_code) 5 am_c167_1 = true := by decide +kernel
theorem am_tc167_1 : am_allT (am_tck (am_at am_c167) 9) 5 am_c167_1 = true := by decide +kernel
theorem am_co167_2 : am_allT (am_ckc prog_11_method_26_code) 5 am_c167_2 = true := by decide +kernel
theorem am_tc167_2 : am_allT (am_tck (am_at am_c167) 9) 5 am_c167_2 = true := by decide +kernel
theorem am_co167_3 : am_allT (am_ckc prog_11_method_26_code) 5 am_c167_3 = true := by decide +kernel
theorem am_tc167_3 : am_allT (am_tck (am_at am_c167) 9) 5 am_c167_3 = true := by decide +kernel
theorem am_co167 : am_allT (am_ckc prog_11_method_26_code) 7 am_c167 = true := (am_allT_nd (am_allT_nd am_co167_0 am_co167_1) (am_allT_nd am_co167_2 am_co167_3))
theorem am_tc167 : am_allT (am_tck (am_at am_c167) 9) 7 am_c167 = true := (am_allT_nd (am_allT_nd am_tc167_0 am_tc167_1) (am_allT_nd am_tc167_2 am_tc167_3))
set_option maxRecDepth 100000 in
theorem am_p167 : am_PI am_i167 := ⟨am_pc_of am_co167, ⟨Or.inl ⟨(List.mem_of_getElem? (i := 1210) rfl), rfl⟩, by decide +kernel, ⟨by decide +kernel, by decide +kernel⟩, (List.mem_of_getElem? (i := 81) (by decide +kernel)), by decide +kernel⟩, (fun h => absurd h (by decide)), am_ts_of am_tc167⟩
theorem am_co168_0 : am_allT (am_ckc prog_11_method_25_code) 5 am_c168_0 = true := by decide +kernel
theorem am_tc168_0 : am_allT (am_tck (am_at am_c168) 9) 5 am_c168_0 = true := by decide +kernel
theorem am_co168_1 : am_allT (am_ckc prog_11_method_25_code) 5 am_c168_1 = true := by decide +kernel
theorem am_tc168_1 : am_allT (am_tck (am_at am_c168) 9) 5 am_c168_1 = true := by decide +kernel
theorem am_co168_2 : am_allT (am_ckc prog_11_method_25_code) 5 am_c168_2 = true := by decide +kernel
theorem am_tc168_2 : am_allT (am_tck (am_at am_c168) 9) 5 am_c168_2 = true := by decide +kernel
theorem am_co168_3 : am_allT (am_ckc prog_11_method_25_code) 5 am_c168_3 = true := by decide +kernel
theorem am_tc168_3 : am_allT (am_tck (am_at am_c168) 9) 5 am_c168_3 = true := by decide +kernel
theorem am_co168_4 : am_allT (am_ckc prog_11_method_25_code) 5 am_c168_4 = true := by decide +kernel
theorem am_tc168_4 : am_allT (am_tck (am_at am_c168) 9) 5 am_c168_4 = true := by decide +kernel
theorem am_co168_5 : am_allT (am_ckc prog_11_method_25_code) 5 am_c168_5 = true := by decide +kernel
theorem am_tc168_5 : am_allT (am_tck (am_at am_c168) 9) 5 am_c168_5 = true := by decide +kernel
theorem am_co168_6 : am_allT (am_ckc prog_11_method_25_code) 5 am_c168_6 = true := by decide +kernel
theorem am_tc168_6 : am_allT (am_tck (am_at am_c168) 9) 5 am_c168_6 = true := by decide +kernel
theorem am_co168_7 : am_allT (am_ckc prog_11_method_25_code) 5 am_c168_7 = true := by decide +kernel
theorem am_tc168_7 : am_allT (am_tck (am_at am_c168) 9) 5 am_c168_7 = true := by decide +kernel
theorem am_co168 : am_allT (am_ckc prog_11_method_25_code) 8 am_c168 = true := (am_allT_nd (am_allT_nd (am_allT_nd am_co168_0 am_co168_1) (am_allT_nd am_co168_2 am_co168_3)) (am_allT_nd (am_allT_nd am_co168_4 am_co168_5) (am_allT_nd am_co168_6 am_co168_7)))
theorem am_tc168 : am_allT (am_tck (am_at am_c168) 9) 8 am_c168 = true := (am_allT_nd (am_allT_nd (am_allT_nd am_tc168_0 am_tc168_1) (am_allT_nd am_tc168_2 am_tc168_3)) (am_allT_nd (am_allT_nd am_tc168_4 am_tc168_5) (am_allT_nd am_tc168_6 am_tc168_7)))
set_option maxRecDepth 100000 in
theorem am_p168 : am_PI am_i168 := ⟨am_pc_of am_co168, ⟨Or.inl ⟨(List.mem_of_getElem? (i := 1214) rfl), rfl⟩, by decide +kernel, ⟨by decide +kernel, by decide +kernel⟩, (List.mem_of_getElem? (i := 81) (by decide +kernel)), by decide +kernel⟩, (fun h => absurd h (by decide)), am_ts_of am_tc168⟩
theorem am_co169 : am_allT (am_ckc prog_11_method_24_code) 5 am_c169 = true := by decide +kernel
theorem am_tc169 : am_allT (am_tck (am_at am_c169) 9) 5 am_c169 = true := by decide +kernel
set_option maxRecDepth 100000 in
theorem am_p169 : am_PI am_i169 := ⟨am_pc_of am_co169, ⟨Or.inl ⟨(List.mem_of_getElem? (i := 1218) rfl), rfl⟩, by decide +kernel, ⟨by decide +kernel, by decide +kernel⟩, (List.mem_of_getElem? (i := 81) (by decide +kernel)), by decide +kernel⟩, (fun h => absurd h (by decide)), am_ts_of am_tc169⟩
end
section
theorem am_co170_0 : am_allT (am_ckc prog_11_method_30_code) 5 am_c170_0 = true := by decide +kernel
theorem am_tc170_0 : am_allT (am_tck (am_at am_c170) 9) 5 am_c170_0 = true := by decide +kernel
theorem am_co170_1 : am_allT (am_ckc prog_11_method_30_code) 5 am_c170_1 = true := by decide +kernel
theorem am_tc170_1 : am_allT (am_tck (am_at am_c170) 9) 5 am_c170_1 = true := by decide +kernel
theorem am_co170_2 : am_allT (am_ckc prog_11_method_30_code) 5 am_c170_2 = true := by decide +kernel
theorem am_tc170_2 : am_allT (am_tck (am_at am_c170) 9) 5 am_c170_2 = true := by decide +kernel
theorem am_co170_3 : am_allT (am_ckc prog_11_method_30_code) 5 am_c170_3 = true := by decide +kernel
theorem am_tc170_3 : am_allT (am_tck (am_at am_c170) 9) 5 am_c170_3 = true := by decide +kernel
theorem am_co170_4 : am_allT (am_ckc prog_11_method_30_code) 5 am_c170_4 = true := by decide +kernel
theorem am_tc170_4 : am_allT (am_tck (am_at am_c170) 9) 5 am_c170_4 = true := by decide +kernel
theorem am_co170_5 : am_allT (am_ckc prog_11_method_30_code) 5 am_c170_5 = true := by decide +kernel
theorem am_tc170_5 : am_allT (am_tck (am_at am_c170) 9) 5 am_c170_5 = true := by decide +kernel
theorem am_co170_6 : am_allT (am_ckc prog_11_method_30_code) 5 am_c170_6 = true := by decide +kernel
theorem am_tc170_6 : am_allT (am_tck (am_at am_c170) 9) 5 am_c170_6 = true := by decide +kernel
theorem am_co170_7 : am_allT (am_ckc prog_11_method_30_code) 5 am_c170_7 = true := by decide +kernel
theorem am_tc170_7 : am_allT (am_tck (am_at am_c170) 9) 5 am_c170_7 = true := by decide +kernel
theorem am_co170 : am_allT (am_ckc prog_11_method_30_code) 8 am_c170 = true := (am_allT_nd (am_allT_nd (am_allT_nd am_co170_0 am_co170_1) (am_allT_nd am_co170_2 am_co170_3)) (am_allT_nd (am_allT_nd am_co170_4 am_co170_5) (am_allT_nd am_co170_6 am_co170_7)))
theorem am_tc170 : am_allT (am_tck (am_at am_c170) 9) 8 am_c170 = true := (am_allT_nd (am_allT_nd (am_allT_nd am_tc170_0 am_tc170_1) (am_allT_nd am_tc170_2 am_tc170_3)) (am_allT_nd (am_allT_nd am_tc170_4 am_tc170_5) (am_allT_nd am_tc170_6 am_tc170_7)))
set_option maxRecDepth 100000 in
theorem am_p170 : am_PI am_i170 := ⟨am_pc_of am_co170, ⟨Or.inl ⟨(List.mem_of_getElem? (i := 1222) rfl), rfl⟩, by decide +kernel, ⟨by decide +kernel, by decide +kernel⟩, (List.mem_of_getElem? (i := 81) (by decide +kernel)), by decide +kernel⟩, (fun h => absurd h (by decide)), am_ts_of am_tc170⟩
theorem am_co171_0 : am_allT (am_ckc prog_11_method_28_code) 5 am_c171_0 = true := by decide +kernel
theorem am_tc171_0 : am_allT (am_tck (am_at am_c171) 9) 5 am_c171_0 = true := by decide +kernel
theorem am_co171_1 : am_allT (am_ckc prog_11_method_28_code) 5 am_c171_1 = true := by decide +kernel
theorem am_tc171_1 : am_allT (am_tck (am_at am_c171) 9) 5 am_c171_1 = true := by decide +kernel
theorem am_co171_2 : am_allT (am_ckc prog_11_method_28_code) 5 am_c171_2 = true := by decide +kernel
theorem am_tc171_2 : am_allT (am_tck (am_at am_c171) 9) 5 am_c171_2 = true := by decide +kernel
theorem am_co171_3 : am_allT (am_ckc prog_11_method_28_code) 5 am_c171_3 = true := by decide +kernel
theorem am_tc171_3 : am_allT (am_tck (am_at am_c171) 9) 5 am_c171_3 = true := by decide +kernel
theorem am_co171 : am_allT (am_ckc prog_11_method_28_code) 7 am_c171 = true := (am_allT_nd (am_allT_nd am_co171_0 am_co171_1) (am_allT_nd am_co171_2 am_co171_3))
theorem am_tc171 : am_allT (am_tck (am_at am_c171) 9) 7 am_c171 = true := (am_allT_nd (am_allT_nd am_tc171_0 am_tc171_1) (am_allT_nd am_tc171_2 am_tc171_3))
set_option maxRecDepth 100000 in
theorem am_p171 : am_PI am_i171 := ⟨am_pc_of am_co171, ⟨Or.inl ⟨(List.mem_of_getElem? (i := 1226) rfl), rfl⟩, by decide +kernel, ⟨by decide +kernel, by decide +kernel⟩, (List.mem_of_getElem? (i := 81) (by decide +kernel)), by decide +kernel⟩, (fun h => absurd h (by decide)), am_ts_of am_tc171⟩
theorem am_co172_0 : am_allT (am_ckc prog_11_method_27_code) 5 am_c172_0 = true := by decide +kernel
theorem am_tc172_0 : am_allT (am_tck (am_at am_c172) 9) 5 am_c172_0 = true := by decide +kernel
theorem am_co172_1 : am_allT (am_ckc prog_11_method_27_code) 5 am_c172_1 = true := by decide +kernel
theorem am_tc172_1 : am_allT (am_tck (am_at am_c172) 9) 5 am_c172_1 = true := by decide +kernel
theorem am_co172 : am_allT (am_ckc prog_11_method_27_code) 6 am_c172 = true := (am_allT_nd am_co172_0 am_co172_1)
theorem am_tc172 : am_allT (am_tck (am_at am_c172) 9) 6 am_c172 = true := (am_allT_nd am_tc172_0 am_tc172_1)
set_option maxRecDepth 100000 in
theorem am_p172 : am_PI am_i172 := ⟨am_pc_of am_co172, ⟨Or.inl ⟨(List.mem_of_getElem? (i := 1230) rfl), rfl⟩, by decide +kernel, ⟨by decide +kernel, by decide +kernel⟩, (List.mem_of_getElem? (i := 81) (by decide +kernel)), by decide +kernel⟩, (fun h => absurd h (by decide)), am_ts_of am_tc172⟩
theorem am_co173 : am_allT (am_ckc prog_11_method_29_code) 5 am_c173 = true := by decide +kernel
theorem am_tc173 : am_allT (am_tck (am_at am_c173) 9) 5 am_c173 = true := by decide +kernel
set_option maxRecDepth 100000 in
theorem am_p173 : am_PI am_i173 := ⟨am_pc_of am_co173, ⟨Or.inl ⟨(List.mem_of_getElem? (i := 1233) rfl), rfl⟩, by decide +kernel, ⟨by decide +kernel, by decide +kernel⟩, (List.mem_of_getElem? (i := 81) (by decide +kernel)), by decide +kernel⟩, (fun h => absurd h (by decide)), am_ts_of am_tc173⟩
theorem am_co174_0 : am_allT (am_ckc prog_11_method_21_code) 5 am_c174_0 = true := by decide +kernel
theorem am_tc174_0 : am_allT (am_tck (am_at am_c174) 9) 5 am_c174_0 = true := by decide +kernel
theorem am_co174_1 : am_allT (am_ckc prog_11_method_21_code) 5 am_c174_1 = true := by decide +kernel
theorem am_tc174_1 : am_allT (am_tck (am_at am_c174) 9) 5 am_c174_1 = true := by decide +kernel
theorem am_co174_2 : am_allT (am_ckc prog_11_method_21_code) 5 am_c174_2 = true := by decide +kernel
theorem am_tc174_2 : am_allT (am_tck (am_at am_c174) 9) 5 am_c174_2 = true := by decide +kernel
theorem am_co174_3 : am_allT (am_ckc prog_11_method_21_code) 5 am_c174_3 = true := by decide +kernel
theorem am_tc174_3 : am_allT (am_tck (am_at am_c174) 9) 5 am_c174_3 = true := by decide +kernel
theorem am_co174 : am_allT (am_ckc prog_11_method_21_code) 7 am_c174 = true := (am_allT_nd (am_allT_nd am_co174_0 am_co174_1) (am_allT_nd am_co174_2 am_co174_3))
theorem am_tc174 : am_allT (am_tck (am_at am_c174) 9) 7 am_c174 = true := (am_allT_nd (am_allT_nd am_tc174_0 am_tc174_1) (am_allT_nd am_tc174_2 am_tc174_3))
set_option maxRecDepth 100000 in
theorem am_p174 : am_PI am_i174 := ⟨am_pc_of am_co174, ⟨Or.inl ⟨(List.mem_of_getElem? (i := 1237) rfl), rfl⟩, by decide +kernel, ⟨by decide +kernel, by decide +kernel⟩, (List.mem_of_getElem? (i := 81) (by decide +kernel)), by decide +kernel⟩, (fun h => absurd h (by decide)), am_ts_of am_tc174⟩
theorem am_co175_0 : am_allT (am_ckc prog_11_method_51_code) 5 am_c175_0 = true := by decide +kernel
theorem am_tc175_0 : am_allT (am_tck (am_at am_c175) 9) 5 am_c175_0 = true := by decide +kernel
theorem am_co175_1 : am_allT (am_ckc prog_11_method_51_code) 5 am_c175_1 = true := by decide +kernel
theorem am_tc175_1 : am_allT (am_tck (am_at am_c175) 9) 5 am_c175_1 = true := by decide +kernel
theorem am_co175_2 : am_allT (am_ckc prog_11_method_51_code) 5 am_c175_2 = true := by decide +kernel
theorem am_tc175_2 : am_allT (am_tck (am_at am_c175) 9) 5 am_c175_2 = true := by decide +kernel
theorem am_co175_3 : am_allT (am_ckc prog_11_method_51_code) 5 am_c175_3 = true := by decide +kernel
theorem am_tc175_3 : am_allT (am_tck (am_at am_c175) 9) 5 am_c175_3 = true := by decide +kernel
theorem am_co175 : am_allT (am_ckc prog_11_method_51_code) 7 am_c175 = true := (am_allT_nd (am_allT_nd am_co175_0 am_co175_1) (am_allT_nd am_co175_2 am_co175_3))
theorem am_tc175 : am_allT (am_tck (am_at am_c175) 9) 7 am_c175 = true := (am_allT_nd (am_allT_nd am_tc175_0 am_tc175_1) (am_allT_nd am_tc175_2 am_tc175_3))
set_option maxRecDepth 100000 in
theorem am_p175 : am_PI am_i175 := ⟨am_pc_of am_co175, ⟨Or.inl ⟨(List.mem_of_getElem? (i := 1241) rfl), rfl⟩, by decide +kernel, ⟨by decide +kernel, by decide +kernel⟩, (List.mem_of_getElem? (i := 81) (by decide +kernel)), by decide +kernel⟩, (fun h => absurd h (by decide)), am_ts_of am_tc175⟩
theorem am_co176_0 : am_allT (am_ckc prog_11_method_46_code) 5 am_c176_0 = true := by decide +kernel
theorem am_tc176_0 : am_allT (am_tck (am_at am_c176) 9) 5 am_c176_0 = true := by decide +kernel
theorem am_co176_1 : am_allT (am_ckc prog_11_method_46_code) 5 am_c176_1 = true := by decide +kernel
theorem am_tc176_1 : am_allT (am_tck (am_at am_c176) 9) 5 am_c176_1 = true := by decide +kernel
theorem am_co176 : am_allT (am_ckc prog_11_method_46_code) 6 am_c176 = true := (am_allT_nd am_co176_0 am_co176_1)
theorem am_tc176 : am_allT (am_tck (am_at am_c176) 9) 6 am_c176 = true := (am_allT_nd am_tc176_0 am_tc176_1)
set_option maxRecDepth 100000 in
theorem am_p176 : am_PI am_i176 := ⟨am_pc_of am_co176, ⟨Or.inl ⟨(List.mem_of_getElem? (i := 1245) rfl), rfl⟩, by decide +kernel, ⟨by decide +kernel, by decide +kernel⟩, (List.mem_of_getElem? (i := 81) (by decide +kernel)), by decide +kernel⟩, (fun h => absurd h (by decide)), am_ts_of am_tc176⟩
theorem am_co177_0 : am_allT (am_ckc prog_11_method_50_code) 5 am_c177_0 = true := by decide +kernel
theorem am_tc177_0 : am_allT (am_tck (am_at am_c177) 9) 5 am_c177_0 = true := by decide +kernel
theorem am_co177_1 : am_allT (am_ckc prog_11_method_50_code) 5 am_c177_1 = true := by decide +kernel
theorem am_tc177_1 : am_allT (am_tck (am_at am_c177) 9) 5 am_c177_1 = true := by decide +kernel
theorem am_co177_2 : am_allT (am_ckc prog_11_method_50_code) 5 am_c177_2 = true := by decide +kernel
theorem am_tc177_2 : am_allT (am_tck (am_at am_c177) 9) 5 am_c177_2 = true := by decide +kernel
theorem am_co177_3 : am_allT (am_ckc prog_11_method_50_code) 5 am_c177_3 = true := by decide +kernel
theorem am_tc177_3 : am_allT (am_tck (am_at am_c177) 9) 5 am_c177_3 = true := by decide +kernel
theorem am_co177 : am_allT (am_ckc prog_11_method_50_code) 7 am_c177 = true := (am_allT_nd (am_allT_nd am_co177_0 am_co177_1) (am_allT_nd am_co177_2 am_co177_3))
theorem am_tc177 : am_allT (am_tck (am_at am_c177) 9) 7 am_c177 = true := (am_allT_nd (am_allT_nd am_tc177_0 am_tc177_1) (am_allT_nd am_tc177_2 am_tc177_3))
set_option maxRecDepth 100000 in
theorem am_p177 : am_PI am_i177 := ⟨am_pc_of am_co177, ⟨Or.inl ⟨(List.mem_of_getElem? (i := 1249) rfl), rfl⟩, by decide +kernel, ⟨by decide +kernel, by decide +kernel⟩, (List.mem_of_getElem? (i := 81) (by decide +kernel)), by decide +kernel⟩, (fun h => absurd h (by decide)), am_ts_of am_tc177⟩
theorem am_co178_0 : am_allT (am_ckc prog_11_method_37_code) 5 am_c178_0 = true := by decide +kernel
theorem am_tc178_0 : am_allT (am_tck (am_at am_c178) 9) 5 am_c178_0 = true := by decide +kernel
theorem am_co178_1 : am_allT (am_ckc prog_11_method_37_code) 5 am_c178_1 = true := by decide +kernel
theorem am_tc178_1 : am_allT (am_tck (am_at am_c178) 9) 5 am_c178_1 = true := by decide +kernel
theorem am_co178 : am_allT (am_ckc prog_11_method_37_code) 6 am_c178 = true := (am_allT_nd am_co178_0 am_co178_1)
theorem am_tc178 : am_allT (am_tck (am_at am_c178) 9) 6 am_c178 = true := (am_allT_nd am_tc178_0 am_tc178_1)
set_option maxRecDepth 100000 in
theorem am_p178 : am_PI am_i178 := ⟨am_pc_of am_co178, ⟨Or.inl ⟨(List.mem_of_getElem? (i := 1253) rfl), rfl⟩, by decide +kernel, ⟨by decide +kernel, by decide +kernel⟩, (List.mem_of_getElem? (i := 81) (by decide +kernel)), by decide +kernel⟩, (fun h => absurd h (by decide)), am_ts_of am_tc178⟩
theorem am_co179 : am_allT (am_ckc prog_11_method_32_code) 5 am_c179 = true := by decide +kernel
theorem am_tc179 : am_allT (am_tck (am_at am_c179) 9) 5 am_c179 = true := by decide +kernel
set_option maxRecDepth 100000 in
theorem am_p179 : am_PI am_i179 := ⟨am_pc_of am_co179, ⟨Or.inl ⟨(List.mem_of_getElem? (i := 1256) rfl), rfl⟩, by decide +kernel, ⟨by decide +kernel, by decide +kernel⟩, (List.mem_of_getElem? (i := 81) (by decide +kernel)), by decide +kernel⟩, (fun h => absurd h (by decide)), am_ts_of am_tc179⟩
theorem am_co180_0 : am_allT (am_ckc prog_11_method_43_code) 5 am_c180_0 = true := by decide +kernel
theorem am_tc180_0 : am_allT (am_tck (am_at am_c180) 9) 5 am_c180_0 = true := by decide +kernel
theorem am_co180_1 : am_allT (am_ckc prog_11_method_43_code) 5 am_c180_1 = true := by decide +kernel
theorem am_tc180_1 : am_allT (am_tck (am_at am_c180) 9) 5 am_c180_1 = true := by decide +kernel
theorem am_co180_2 : am_allT (am_ckc prog_11_method_43_code) 5 am_c180_2 = true := by decide +kernel
theorem am_tc180_2 : am_allT (am_tck (am_at am_c180) 9) 5 am_c180_2 = true := by decide +kernel
theorem am_co180_3 : am_allT (am_ckc prog_11_method_43_code) 5 am_c180_3 = true := by decide +kernel
theorem am_tc180_3 : am_allT (am_tck (am_at am_c180) 9) 5 am_c180_3 = true := by decide +kernel
theorem am_co180 : am_allT (am_ckc prog_11_method_43_code) 7 am_c180 = true := (am_allT_nd (am_allT_nd am_co180_0 am_co180_1) (am_allT_nd am_co180_2 am_co180_3))
theorem am_tc180 : am_allT (am_tck (am_at am_c180) 9) 7 am_c180 = true := (am_allT_nd (am_allT_nd am_tc180_0 am_tc180_1) (am_allT_nd am_tc180_2 am_tc180_3))
set_option maxRecDepth 100000 in
theorem am_p180 : am_PI am_i180 := ⟨am_pc_of am_co180, ⟨Or.inl ⟨(List.mem_of_getElem? (i := 1260) rfl), rfl⟩, by decide +kernel, ⟨by decide +kernel, by decide +kernel⟩, (List.mem_of_getElem? (i := 81) (by decide +kernel)), by decide +kernel⟩, (fun h => absurd h (by decide)), am_ts_of am_tc180⟩
theorem am_co181_0 : am_allT (am_ckc prog_11_method_44_code) 5 am_c181_0 = true := by decide +kernel
theorem am_tc181_0 : am_allT (am_tck (am_at am_c181) 9) 5 am_c181_0 = true := by decide +kernel
theorem am_co181_1 : am_allT (am_ckc prog_11_method_44_code) 5 am_c181_1 = true := by decide +kernel
theorem am_tc181_1 : am_allT (am_tck (am_at am_c181) 9) 5 am_c181_1 = true := by decide +kernel
theorem am_co181_2 : am_allT (am_ckc prog_11_method_44_code) 5 am_c181_2 = true := by decide +kernel
theorem am_tc181_2 : am_allT (am_tck (am_at am_c181) 9) 5 am_c181_2 = true := by decide +kernel
theorem am_co181_3 : am_allT (am_ckc prog_11_method_44_code) 5 am_c181_3 = true := by decide +kernel
theorem am_tc181_3 : am_allT (am_tck (am_at am_c181) 9) 5 am_c181_3 = true := by decide +kernel
theorem am_co181 : am_allT (am_ckc prog_11_method_44_code) 7 am_c181 = true := (am_allT_nd (am_allT_nd am_co181_0 am_co181_1) (am_allT_nd am_co181_2 am_co181_3))
theorem am_tc181 : am_allT (am_tck (am_at am_c181) 9) 7 am_c181 = true := (am_allT_nd (am_allT_nd am_tc181_0 am_tc181_1) (am_allT_nd am_tc181_2 am_tc181_3))
set_option maxRecDepth 100000 in
theorem am_p181 : am_PI am_i181 := ⟨am_pc_of am_co181, ⟨Or.inl ⟨(List.mem_of_getElem? (i := 1264) rfl), rfl⟩, by decide +kernel, ⟨by decide +kernel, by decide +kernel⟩, (List.mem_of_getElem? (i := 81) (by decide +kernel)), by decide +kernel⟩, (fun h => absurd h (by decide)), am_ts_of am_tc181⟩
theorem am_co182_0 : am_allT (am_ckc prog_11_method_39_code) 5 am_c182_0 = true := by decide +kernel
theorem am_tc182_0 : am_allT (am_tck (am_at am_c182) 9) 5 am_c182_0 = true := by decide +kernel
theorem am_co182_1 : am_allT (am_ckc prog_11_method_39_code) 5 am_c182_1 = true := by decide +kernel
theorem am_tc182_1 : am_allT (am_tck (am_at am_c182) 9) 5 am_c182_1 = true := by decide +kernel
theorem am_co182 : am_allT (am_ckc prog_11_method_39_code) 6 am_c182 = true := (am_allT_nd am_co182_0 am_co182_1)
theorem am_tc182 : am_allT (am_tck (am_at am_c182) 9) 6 am_c182 = true := (am_allT_nd am_tc182_0 am_tc182_1)
set_option maxRecDepth 100000 in
theorem am_p182 : am_PI am_i182 := ⟨am_pc_of am_co182, ⟨Or.inl ⟨(List.mem_of_getElem? (i := 1268) rfl), rfl⟩, by decide +kernel, ⟨by decide +kernel, by decide +kernel⟩, (List.mem_of_getElem? (i := 81) (by decide +kernel)), by decide +kernel⟩, (fun h => absurd h (by decide)), am_ts_of am_tc182⟩
theorem am_co183 : am_allT (am_ckc prog_11_method_31_code) 5 am_c183 = true := by decide +kernel
theorem am_tc183 : am_allT (am_tck (am_at am_c183) 9) 5 am_c183 = true := by decide +kernel
set_option maxRecDepth 100000 in
theorem am_p183 : am_PI am_i183 := ⟨am_pc_of am_co183, ⟨Or.inl ⟨(List.mem_of_getElem? (i := 1271) rfl), rfl⟩, by decide +kernel, ⟨by decide +kernel, by decide +kernel⟩, (List.mem_of_getElem? (i := 81) (by decide +kernel)), by decide +kernel⟩, (fun h => absurd h (by decide)), am_ts_of am_tc183⟩
theorem am_co184_0 : am_allT (am_ckc prog_11_method_41_code) 5 am_c184_0 = true := by decide +kernel
theorem am_tc184_0 : am_allT (am_tck (am_at am_c184) 9) 5 am_c184_0 = true := by decide +kernel
theorem am_co184_1 : am_allT (am_ckc prog_11_method_41_code) 5 am_c184_1 = true := by decide +kernel
theorem am_tc184_1 : am_allT (am_tck (am_at am_c184) 9) 5 am_c184_1 = true := by decide +kernel
theorem am_co184_2 : am_allT (am_ckc prog_11_method_41_code) 5 am_c184_2 = true := by decide +kernel
theorem am_tc184_2 : am_allT (am_tck (am_at am_c184) 9) 5 am_c184_2 = true := by decide +kernel
theorem am_co184_3 : am_allT (am_ckc prog_11_method_41_code) 5 am_c184_3 = true := by decide +kernel
theorem am_tc184_3 : am_allT (am_tck (am_at am_c184) 9) 5 am_c184_3 = true := by decide +kernel
theorem am_co184 : am_allT (am_ckc prog_11_method_41_code) 7 am_c184 = true := (am_allT_nd (am_allT_nd am_co184_0 am_co184_1) (am_allT_nd am_co184_2 am_co184_3))
theorem am_tc184 : am_allT (am_tck (am_at am_c184) 9) 7 am_c184 = true := (am_allT_nd (am_allT_nd am_tc184_0 am_tc184_1) (am_allT_nd am_tc184_2 am_tc184_3))
set_option maxRecDepth 100000 in
theorem am_p184 : am_PI am_i184 := ⟨am_pc_of am_co184, ⟨Or.inl ⟨(List.mem_of_getElem? (i := 1275) rfl), rfl⟩, by decide +kernel, ⟨by decide +kernel, by decide +kernel⟩, (List.mem_of_getElem? (i := 81) (by decide +kernel)), by decide +kernel⟩, (fun h => absurd h (by decide)), am_ts_of am_tc184⟩
theorem am_co185 : am_allT (am_ckc prog_11_method_34_code) 5 am_c185 = true := by decide +kernel
theorem am_tc185 : am_allT (am_tck (am_at am_c185) 9) 5 am_c185 = true := by decide +kernel
set_option maxRecDepth 100000 in
theorem am_p185 : am_PI am_i185 := ⟨am_pc_of am_co185, ⟨Or.inl ⟨(List.mem_of_getElem? (i := 1278) rfl), rfl⟩, by decide +kernel, ⟨by decide +kernel, by decide +kernel⟩, (List.mem_of_getElem? (i := 81) (by decide +kernel)), by decide +kernel⟩, (fun h => absurd h (by decide)), am_ts_of am_tc185⟩
theorem am_co186_0 : am_allT (am_ckc prog_11_method_40_code) 5 am_c186_0 = true := by decide +kernel
theorem am_tc186_0 : am_allT (am_tck (am_at am_c186) 9) 5 am_c186_0 = true := by decide +kernel
theorem am_co186_1 : am_allT (am_ckc prog_11_method_40_code) 5 am_c186_1 = true := by decide +kernel
theorem am_tc186_1 : am_allT (am_tck (am_at am_c186) 9) 5 am_c186_1 = true := by decide +kernel
theorem am_co186 : am_allT (am_ckc prog_11_method_40_code) 6 am_c186 = true := (am_allT_nd am_co186_0 am_co186_1)
theorem am_tc186 : am_allT (am_tck (am_at am_c186) 9) 6 am_c186 = true := (am_allT_nd am_tc186_0 am_tc186_1)
set_option maxRecDepth 100000 in
theorem am_p186 : am_PI am_i186 := ⟨am_pc_of am_co186, ⟨Or.inl ⟨(List.mem_of_getElem? (i := 1282) rfl), rfl⟩, by decide +kernel, ⟨by decide +kernel, by decide +kernel⟩, (List.mem_of_getElem? (i := 81) (by decide +kernel)), by decide +kernel⟩, (fun h => absurd h (by decide)), am_ts_of am_tc186⟩
theorem am_co187 : am_allT (am_ckc prog_11_method_33_code) 5 am_c187 = true := by decide +kernel
theorem am_tc187 : am_allT (am_tck (am_at am_c187) 9) 5 am_c187 = true := by decide +kernel
set_option maxRecDepth 100000 in
theorem am_p187 : am_PI am_i187 := ⟨am_pc_of am_co187, ⟨Or.inl ⟨(List.mem_of_getElem? (i := 1285) rfl), rfl⟩, by decide +kernel, ⟨by decide +kernel, by decide +kernel⟩, (List.mem_of_getElem? (i := 81) (by decide +kernel)), by decide +kernel⟩, (fun h => absurd h (by decide)), am_ts_of am_tc187⟩
theorem am_co188_0 : am_allT (am_ckc prog_11_method_35_code) 5 am_c188_0 = true := by decide +kernel
theorem am_tc188_0 : am_allT (am_tck (am_at am_c188) 9) 5 am_c188_0 = true := by decide +kernel
theorem am_co188_1 : am_allT (am_ckc prog_11_method_35_code) 5 am_c188_1 = true := by decide +kernel
theorem am_tc188_1 : am_allT (am_tck (am_at am_c188) 9) 5 am_c188_1 = true := by decide +kernel
theorem am_co188_2 : am_allT (am_ckc prog_11_method_35_code) 5 am_c188_2 = true := by decide +kernel
theorem am_tc188_2 : am_allT (am_tck (am_at am_c188) 9) 5 am_c188_2 = true := by decide +kernel
theorem am_co188_3 : am_allT (am_ckc prog_11_method_35_code) 5 am_c188_3 = true := by decide +kernel
theorem am_tc188_3 : am_allT (am_tck (am_at am_c188) 9) 5 am_c188_3 = true := by decide +kernel
theorem am_co188 : am_allT (am_ckc prog_11_method_35_code) 7 am_c188 = true := (am_allT_nd (am_allT_nd am_co188_0 am_co188_1) (am_allT_nd am_co188_2 am_co188_3))
theorem am_tc188 : am_allT (am_tck (am_at am_c188) 9) 7 am_c188 = true := (am_allT_nd (am_allT_nd am_tc188_0 am_tc188_1) (am_allT_nd am_tc188_2 am_tc188_3))
set_option maxRecDepth 100000 in
theorem am_p188 : am_PI am_i188 := ⟨am_pc_of am_co188, ⟨Or.inl ⟨(List.mem_of_getElem? (i := 1289) rfl), rfl⟩, by decide +kernel, ⟨by decide +kernel, by decide +kernel⟩, (List.mem_of_getElem? (i := 81) (by decide +kernel)), by decide +kernel⟩, (fun h => absurd h (by decide)), am_ts_of am_tc188⟩
theorem am_co189 : am_allT (am_ckc prog_11_method_36_code) 4 am_c189 = true := by decide +kernel
theorem am_tc189 : am_allT (am_tck (am_at am_c189) 9) 4 am_c189 = true := by decide +kernel
set_option maxRecDepth 100000 in
theorem am_p189 : am_PI am_i189 := ⟨am_pc_of am_co189, ⟨Or.inl ⟨(List.mem_of_getElem? (i := 1293) rfl), rfl⟩, by decide +kernel, ⟨by decide +kernel, by decide +kernel⟩, (List.mem_of_getElem? (i := 81) (by decide +kernel)), by decide +kernel⟩, (fun h => absurd h (by decide)), am_ts_of am_tc189⟩
theorem am_co190_0 : am_allT (am_ckc prog_11_method_42_code) 5 am_c190_0 = true := by decide +kernel
theorem am_tc190_0 : am_allT (am_tck (am_at am_c190) 9) 5 am_c190_0 = true := by decide +kernel
theorem am_co190_1 : am_allT (am_ckc prog_11_method_42_code) 5 am_c190_1 = true := by decide +kernel
theorem am_tc190_1 : am_allT (am_tck (am_at am_c190) 9) 5 am_c190_1 = true := by decide +kernel
theorem am_co190 : am_allT (am_ckc prog_11_method_42_code) 6 am_c190 = true := (am_allT_nd am_co190_0 am_co190_1)
theorem am_tc190 : am_allT (am_tck (am_at am_c190) 9) 6 am_c190 = true := (am_allT_nd am_tc190_0 am_tc190_1)
set_option maxRecDepth 100000 in
theorem am_p190 : am_PI am_i190 := ⟨am_pc_of am_co190, ⟨Or.inl ⟨(List.mem_of_getElem? (i := 1297) rfl), rfl⟩, by decide +kernel, ⟨by decide +kernel, by decide +kernel⟩, (List.mem_of_getElem? (i := 81) (by decide +kernel)), by decide +kernel⟩, (fun h => absurd h (by decide)), am_ts_of am_tc190⟩
theorem am_co191_0 : am_allT (am_ckc prog_11_method_38_code) 5 am_c191_0 = true := by decide +kernel
theorem am_tc191_0 : am_allT (am_tck (am_at am_c191) 9) 5 am_c191_0 = true := by decide +kernel
theorem am_co191_1 : am_allT (am_ckc prog_11_method_38_code) 5 am_c191_1 = true := by decide +kernel
theorem am_tc191_1 : am_allT (am_tck (am_at am_c191) 9) 5 am_c191_1 = true := by decide +kernel
theorem am_co191_2 : am_allT (am_ckc prog_11_method_38_code) 5 am_c191_2 = true := by decide +kernel
theorem am_tc191_2 : am_allT (am_tck (am_at am_c191) 9) 5 am_c191_2 = true := by decide +kernel
theorem am_co191_3 : am_allT (am_ckc prog_11_method_38_code) 5 am_c191_3 = true := by decide +kernel
theorem am_tc191_3 : am_allT (am_tck (am_at am_c191) 9) 5 am_c191_3 = true := by decide +kernel
theorem am_co191_4 : am_allT (am_ckc prog_11_method_38_code) 5 am_c191_4 = true := by decide +kernel
theorem am_tc191_4 : am_allT (am_tck (am_at am_c191) 9) 5 am_c191_4 = true := by decide +kernel
theorem am_co191_5 : am_allT (am_ckc prog_11_method_38_code) 5 am_c191_5 = true := by decide +kernel
theorem am_tc191_5 : am_allT (am_tck (am_at am_c191) 9) 5 am_c191_5 = true := by decide +kernel
theorem am_co191_6 : am_allT (am_ckc prog_11_method_38_code) 5 am_c191_6 = true := by decide +kernel
theorem am_tc191_6 : am_allT (am_tck (am_at am_c191) 9) 5 am_c191_6 = true := by decide +kernel
theorem am_co191_7 : am_allT (am_ckc prog_11_method_38_code) 5 am_c191_7 = true := by decide +kernel
theorem am_tc191_7 : am_allT (am_tck (am_at am_c191) 9) 5 am_c191_7 = true := by decide +kernel
theorem am_co191 : am_allT (am_ckc prog_11_method_38_code) 8 am_c191 = true := (am_allT_nd (am_allT_nd (am_allT_nd am_co191_0 am_co191_1) (am_allT_nd am_co191_2 am_co191_3)) (am_allT_nd (am_allT_nd am_co191_4 am_co191_5) (am_allT_nd am_co191_6 am_co191_7)))
theorem am_tc191 : am_allT (am_tck (am_at am_c191) 9) 8 am_c191 = true := (am_allT_nd (am_allT_nd (am_allT_nd am_tc191_0 am_tc191_1) (am_allT_nd am_tc191_2 am_tc191_3)) (am_allT_nd (am_allT_nd am_tc191_4 am_tc191_5) (am_allT_nd am_tc191_6 am_tc191_7)))
set_option maxRecDepth 100000 in
theorem am_p191 : am_PI am_i191 := ⟨am_pc_of am_co191, ⟨Or.inl ⟨(List.mem_of_getElem? (i := 1301) rfl), rfl⟩, by decide +kernel, ⟨by decide +kernel, by decide +kernel⟩, (List.mem_of_getElem? (i := 81) (by decide +kernel)), by decide +kernel⟩, (fun h => absurd h (by decide)), am_ts_of am_tc191⟩
theorem am_co192_0 : am_allT (am_ckc prog_11_method_45_code) 5 am_c192_0 = true := by decide +kernel
theorem am_tc192_0 : am_allT (am_tck (am_at am_c192) 9) 5 am_c192_0 = true := by decide +kernel
theorem am_co192_1 : am_allT (am_ckc prog_11_method_45_code) 5 am_c192_1 = true := by decide +kernel
theorem am_tc192_1 : am_allT (am_tck (am_at am_c192) 9) 5 am_c192_1 = true := by decide +kernel
theorem am_co192_2 : am_allT (am_ckc prog_11_method_45_code) 5 am_c192_2 = true := by decide +kernel
theorem am_tc192_2 : am_allT (am_tck (am_at am_c192) 9) 5 am_c192_2 = true := by decide +kernel
theorem am_co192_3 : am_allT (am_ckc prog_11_method_45_code) 5 am_c192_3 = true := by decide +kernel
theorem am_tc192_3 : am_allT (am_tck (am_at am_c192) 9) 5 am_c192_3 = true := by decide +kernel
theorem am_co192 : am_allT (am_ckc prog_11_method_45_code) 7 am_c192 = true := (am_allT_nd (am_allT_nd am_co192_0 am_co192_1) (am_allT_nd am_co192_2 am_co192_3))
theorem am_tc192 : am_allT (am_tck (am_at am_c192) 9) 7 am_c192 = true := (am_allT_nd (am_allT_nd am_tc192_0 am_tc192_1) (am_allT_nd am_tc192_2 am_tc192_3))
set_option maxRecDepth 100000 in
theorem am_p192 : am_PI am_i192 := ⟨am_pc_of am_co192, ⟨Or.inl ⟨(List.mem_of_getElem? (i := 1305) rfl), rfl⟩, by decide +kernel, ⟨by decide +kernel, by decide +kernel⟩, (List.mem_of_getElem? (i := 81) (by decide +kernel)), by decide +kernel⟩, (fun h => absurd h (by decide)), am_ts_of am_tc192⟩
theorem am_co193_0 : am_allT (am_ckc prog_11_method_47_code) 5 am_c193_0 = true := by decide +kernel
theorem am_tc193_0 : am_allT (am_tck (am_at am_c193) 9) 5 am_c193_0 = true := by decide +kernel
theorem am_co193_1 : am_allT (am_ckc prog_11_method_47_code) 5 am_c193_1 = true := by decide +kernel
theorem am_tc193_1 : am_allT (am_tck (am_at am_c193) 9) 5 am_c193_1 = true := by decide +kernel
theorem am_co193_2 : am_allT (am_ckc prog_11_method_47_code) 5 am_c193_2 = true := by decide +kernel
theorem am_tc193_2 : am_allT (am_tck (am_at am_c193) 9) 5 am_c193_2 = true := by decide +kernel
theorem am_co193_3 : am_allT (am_ckc prog_11_method_47_code) 5 am_c193_3 = true := by decide +kernel
theorem am_tc193_3 : am_allT (am_tck (am_at am_c193) 9) 5 am_c193_3 = true := by decide +kernel
theorem am_co193 : am_allT (am_ckc prog_11_method_47_code) 7 am_c193 = true := (am_allT_nd (am_allT_nd am_co193_0 am_co193_1) (am_allT_nd am_co193_2 am_co193_3))
theorem am_tc193 : am_allT (am_tck (am_at am_c193) 9) 7 am_c193 = true := (am_allT_nd (am_allT_nd am_tc193_0 am_tc193_1) (am_allT_nd am_tc193_2 am_tc193_3))
set_option maxRecDepth 100000 in
theorem am_p193 : am_PI am_i193 := ⟨am_pc_of am_co193, ⟨Or.inl ⟨(List.mem_of_getElem? (i := 1309) rfl), rfl⟩, by decide +kernel, ⟨by decide +kernel, by decide +kernel⟩, (List.mem_of_getElem? (i := 81) (by decide +kernel)), by decide +kernel⟩, (fun h => absurd h (by decide)), am_ts_of am_tc193⟩
theorem am_co194_0 : am_allT (am_ckc prog_11_method_48_code) 5 am_c194_0 = true := by decide +kernel
theorem am_tc194_0 : am_allT (am_tck (am_at am_c194) 9) 5 am_c194_0 = true := by decide +kernel
theorem am_co194_1 : am_allT (am_ckc prog_11_method_48_code) 5 am_c194_1 = true := by decide +kernel
theorem am_tc194_1 : am_allT (am_tck (am_at am_c194) 9) 5 am_c194_1 = true := by decide +kernel
theorem am_co194 : am_allT (am_ckc prog_11_method_48_code) 6 am_c194 = true := (am_allT_nd am_co194_0 am_co194_1)
theorem am_tc194 : am_allT (am_tck (am_at am_c194) 9) 6 am_c194 = true := (am_allT_nd am_tc194_0 am_tc194_1)
set_option maxRecDepth 100000 in
theorem am_p194 : am_PI am_i194 := ⟨am_pc_of am_co194, ⟨Or.inl ⟨(List.mem_of_getElem? (i := 1313) rfl), rfl⟩, by decide +kernel, ⟨by decide +kernel, by decide +kernel⟩, (List.mem_of_getElem? (i := 81) (by decide +kernel)), by decide +kernel⟩, (fun h => absurd h (by decide)), am_ts_of am_tc194⟩
theorem am_co195 : am_allT (am_ckc prog_11_method_49_code) 5 am_c195 = true := by decide +kernel
theorem am_tc195 : am_allT (am_tck (am_at am_c195) 9) 5 am_c195 = true := by decide +kernel
set_option maxRecDepth 100000 in
theorem am_p195 : am_PI am_i195 := ⟨am_pc_of am_co195, ⟨Or.inl ⟨(List.mem_of_getElem? (i := 1317) rfl), rfl⟩, by decide +kernel, ⟨by decide +kernel, by decide +kernel⟩, (List.mem_of_getElem? (i := 81) (by decide +kernel)), by decide +kernel⟩, (fun h => absurd h (by decide)), am_ts_of am_tc195⟩
theorem am_co196 : am_allT (am_ckc prog_11_method_52_code) 5 am_c196 = true := by decide +kernel
theorem am_tc196 : am_allT (am_tck (am_at am_c196) 9) 5 am_c196 = true := by decide +kernel
set_option maxRecDepth 100000 in
theorem am_p196 : am_PI am_i196 := ⟨am_pc_of am_co196, ⟨Or.inl ⟨(List.mem_of_getElem? (i := 1321) rfl), rfl⟩, by decide +kernel, ⟨by decide +kernel, by decide +kernel⟩, (List.mem_of_getElem? (i := 81) (by decide +kernel)), by decide +kernel⟩, (fun h => absurd h (by decide)), am_ts_of am_tc196⟩
theorem am_co197_0 : am_allT (am_ckc prog_11_method_53_code) 5 am_c197_0 = true := by decide +kernel
theorem am_tc197_0 : am_allT (am_tck (am_at am_c197) 9) 5 am_c197_0 = true := by decide +kernel
theorem am_co197_1 : am_allT (am_ckc prog_11_method_53_code) 5 am_c197_1 = true := by decide +kernel
theorem am_tc197_1 : am_allT (am_tck (am_at am_c197) 9) 5 am_c197_1 = true := by decide +kernel
theorem am_co197 : am_allT (am_ckc prog_11_method_53_code) 6 am_c197 = true := (am_allT_nd am_co197_0 am_co197_1)
theorem am_tc197 : am_allT (am_tck (am_at am_c197) 9) 6 am_c197 = true := (am_allT_nd am_tc197_0 am_tc197_1)
set_option maxRecDepth 100000 in
theorem am_p197 : am_PI am_i197 := ⟨am_pc_of am_co197, ⟨Or.inl ⟨(List.mem_of_getElem? (i := 1325) rfl), rfl⟩, by decide +kernel, ⟨by decide +kernel, by decide +kernel⟩, (List.mem_of_getElem? (i := 81) (by decide +kernel)), by decide +kernel⟩, (fun h => absurd h (by decide)), am_ts_of am_tc197⟩
theorem am_co198 : am_allT (am_ckc prog_11_method_54_code) 5 am_c198 = true := by decide +kernel
theorem am_tc198 : am_allT (am_tck (am_at am_c198) 9) 5 am_c198 = true := by decide +kernel
set_option maxRecDepth 100000 in
theorem am_p198 : am_PI am_i198 := ⟨am_pc_of am_co198, ⟨Or.inl ⟨(List.mem_of_getElem? (i := 1329) rfl), rfl⟩, by decide +kernel, ⟨by decide +kernel, by decide +kernel⟩, (List.mem_of_getElem? (i := 81) (by decide +kernel)), by decide +kernel⟩, (fun h => absurd h (by decide)), am_ts_of am_tc198⟩
theorem am_co199_0 : am_allT (am_ckc prog_11_method_55_code) 5 am_c199_0 = true := by decide +kernel
theorem am_tc199_0 : am_allT (am_tck (am_at am_c199) 9) 5 am_c199_0 = true := by decide +kernel
theorem am_co199_1 : am_allT (am_ckc prog_11_method_55_code) 5 am_c199_1 = true := by decide +kernel
theorem am_tc199_1 : am_allT (am_tck (am_at am_c199) 9) 5 am_c199_1 = true := by decide +kernel
theorem am_co199_2 : am_allT (am_ckc prog_11_method_55_code) 5 am_c199_2 = true := by decide +kernel
theorem am_tc199_2 : am_allT (am_tck (am_at am_c199) 9) 5 am_c199_2 = true := by decide +kernel
theorem am_co199_3 : am_allT (am_ckc prog_11_method_55_code) 5 am_c199_3 = true := by decide +kernel
theorem am_tc199_3 : am_allT (am_tck (am_at am_c199) 9) 5 am_c199_3 = true := by decide +kernel
theorem am_co199_4 : am_allT (am_ckc prog_11_method_55_code) 5 am_c199_4 = true := by decide +kernel
theorem am_tc199_4 : am_allT (am_tck (am_at am_c199) 9) 5 am_c199_4 = true := by decide +kernel
theorem am_co199_5 : am_allT (am_ckc prog_11_method_55_code) 5 am_c199_5 = true := by decide +kernel
theorem am_tc199_5 : am_allT (am_tck (am_at am_c199) 9) 5 am_c199_5 = true := by decide +kernel
theorem am_co199_6 : am_allT (am_ckc prog_11_method_55_code) 5 am_c199_6 = true := by decide +kernel
theorem am_tc199_6 : am_allT (am_tck (am_at am_c199) 9) 5 am_c199_6 = true := by decide +kernel
theorem am_co199_7 : am_allT (am_ckc prog_11_method_55_code) 5 am_c199_7 = true := by decide +kernel
theorem am_tc199_7 : am_allT (am_tck (am_at am_c199) 9) 5 am_c199_7 = true := by decide +kernel
theorem am_co199 : am_allT (am_ckc prog_11_method_55_code) 8 am_c199 = true := (am_allT_nd (am_allT_nd (am_allT_nd am_co199_0 am_co199_1) (am_allT_nd am_co199_2 am_co199_3)) (am_allT_nd (am_allT_nd am_co199_4 am_co199_5) (am_allT_nd am_co199_6 am_co199_7)))
theorem am_tc199 : am_allT (am_tck (am_at am_c199) 9) 8 am_c199 = true := (am_allT_nd (am_allT_nd (am_allT_nd am_tc199_0 am_tc199_1) (am_allT_nd am_tc199_2 am_tc199_3)) (am_allT_nd (am_allT_nd am_tc199_4 am_tc199_5) (am_allT_nd am_tc199_6 am_tc199_7)))
set_option maxRecDepth 100000 in
theorem am_p199 : am_PI am_i199 := ⟨am_pc_of am_co199, ⟨Or.inl ⟨(List.mem_of_getElem? (i := 1333) rfl), rfl⟩, by decide +kernel, ⟨by decide +kernel, by decide +kernel⟩, (List.mem_of_getElem? (i := 81) (by decide +kernel)), by decide +kernel⟩, (fun h => absurd h (by decide)), am_ts_of am_tc199⟩
theorem am_co200_0 : am_allT (am_ckc prog_11_method_56_code) 5 am_c200_0 = true := by decide +kernel
theorem am_tc200_0 : am_allT (am_tck (am_at am_c200) 9) 5 am_c200_0 = true := by decide +kernel
theorem am_co200_1 : am_allT (am_ckc prog_11_method_56_code) 5 am_c200_1 = true := by decide +kernel
theorem am_tc200_1 : am_allT (am_tck (am_at am_c200) 9) 5 am_c200_1 = true := by decide +kernel
theorem am_co200_2 : am_allT (am_ckc prog_11_method_56_code) 5 am_c200_2 = true := by decide +kernel
theorem am_tc200_2 : am_allT (am_tck (am_at am_c200) 9) 5 am_c200_2 = true := by decide +kernel
theorem am_co200_3 : am_allT (am_ckc prog_11_method_56_code) 5 am_c200_3 = true := by decide +kernel
theorem am_tc200_3 : am_allT (am_tck (am_at am_c200) 9) 5 am_c200_3 = true := by decide +kernel
theorem am_co200 : am_allT (am_ckc prog_11_method_56_code) 7 am_c200 = true := (am_allT_nd (am_allT_nd am_co200_0 am_co200_1) (am_allT_nd am_co200_2 am_co200_3))
theorem am_tc200 : am_allT (am_tck (am_at am_c200) 9) 7 am_c200 = true := (am_allT_nd (am_allT_nd am_tc200_0 am_tc200_1) (am_allT_nd am_tc200_2 am_tc200_3))
set_option maxRecDepth 100000 in
theorem am_p200 : am_PI am_i200 := ⟨am_pc_of am_co200, ⟨Or.inl ⟨(List.mem_of_getElem? (i := 1337) rfl), rfl⟩, by decide +kernel, ⟨by decide +kernel, by decide +kernel⟩, (List.mem_of_getElem? (i := 81) (by decide +kernel)), by decide +kernel⟩, (fun h => absurd h (by decide)), am_ts_of am_tc200⟩
theorem am_co201 : am_allT (am_ckc prog_11_method_57_code) 3 am_c201 = true := by decide +kernel
theorem am_tc201 : am_allT (am_tck (am_at am_c201) 9) 3 am_c201 = true := by decide +kernel
set_option maxRecDepth 100000 in
theorem am_p201 : am_PI am_i201 := ⟨am_pc_of am_co201, ⟨Or.inl ⟨(List.mem_of_getElem? (i := 1341) rfl), rfl⟩, by decide +kernel, ⟨by decide +kernel, by decide +kernel⟩, (List.mem_of_getElem? (i := 81) (by decide +kernel)), by decide +kernel⟩, (fun h => absurd h (by decide)), am_ts_of am_tc201⟩
theorem am_co202 : am_allT (am_ckc prog_11_method_58_code) 5 am_c202 = true := by decide +kernel
theorem am_tc202 : am_allT (am_tck (am_at am_c202) 9) 5 am_c202 = true := by decide +kernel
set_option maxRecDepth 100000 in
theorem am_p202 : am_PI am_i202 := ⟨am_pc_of am_co202, ⟨Or.inl ⟨(List.mem_of_getElem? (i := 1345) rfl), rfl⟩, by decide +kernel, ⟨by decide +kernel, by decide +kernel⟩, (List.mem_of_getElem? (i := 81) (by decide +kernel)), by decide +kernel⟩, (fun h => absurd h (by decide)), am_ts_of am_tc202⟩
theorem am_co203 : am_allT (am_ckc prog_11_method_59_code) 3 am_c203 = true := by decide +kernel
theorem am_tc203 : am_allT (am_tck (am_at am_c203) 9) 3 am_c203 = true := by decide +kernel
set_option maxRecDepth 100000 in
theorem am_p203 : am_PI am_i203 := ⟨am_pc_of am_co203, ⟨Or.inl ⟨(List.mem_of_getElem? (i := 1349) rfl), rfl⟩, by decide +kernel, ⟨by decide +kernel, by decide +kernel⟩, (List.mem_of_getElem? (i := 81) (by decide +kernel)), by decide +kernel⟩, (fun h => absurd h (by decide)), am_ts_of am_tc203⟩
end
section
theorem am_ptree : am_forT am_PI 8 am_mt := ⟨⟨⟨⟨⟨⟨⟨⟨am_p0, am_p1⟩, ⟨am_p2, am_p3⟩⟩, ⟨⟨am_p4, am_p5⟩, ⟨am_p6, am_p7⟩⟩⟩, ⟨⟨⟨am_p8, am_p9⟩, ⟨am_p10, am_p11⟩⟩, ⟨⟨am_p12, am_p13⟩, ⟨am_p14, am_p15⟩⟩⟩⟩, ⟨⟨⟨⟨am_p16, am_p17⟩, ⟨am_p18, am_p19⟩⟩, ⟨⟨am_p20, am_p21⟩, ⟨am_p22, am_p23⟩⟩⟩, ⟨⟨⟨am_p24, am_p25⟩, ⟨am_p26, am_p27⟩⟩, ⟨⟨am_p28, am_p29⟩, ⟨am_p30, am_p31⟩⟩⟩⟩⟩, ⟨⟨⟨⟨⟨am_p32, am_p33⟩, ⟨am_p34, am_p35⟩⟩, ⟨⟨am_p36, am_p37⟩, ⟨am_p38, am_p39⟩⟩⟩, ⟨⟨⟨am_p40, am_p41⟩, ⟨am_p42, am_p43⟩⟩, ⟨⟨am_p44, am_p45⟩, ⟨am_p46, am_p47⟩⟩⟩⟩, ⟨⟨⟨⟨am_p48, am_p49⟩, ⟨am_p50, am_p51⟩⟩, ⟨⟨am_p52, am_p53⟩, ⟨am_p54, am_p55⟩⟩⟩, ⟨⟨⟨am_p56, am_p57⟩, ⟨am_p58, am_p59⟩⟩, ⟨⟨am_p60, am_p61⟩, ⟨am_p62, am_p63⟩⟩⟩⟩⟩⟩, ⟨⟨⟨⟨⟨⟨am_p64, am_p65⟩, ⟨am_p66, am_p67⟩⟩, ⟨⟨am_p68, am_p69⟩, ⟨am_p70, am_p71⟩⟩⟩, ⟨⟨⟨am_p72, am_p73⟩, ⟨am_p74, am_p75⟩⟩, ⟨⟨am_p76, am_p77⟩, ⟨am_p78, am_p79⟩⟩⟩⟩, ⟨⟨⟨⟨am_p80, am_p81⟩, ⟨am_p82, am_p83⟩⟩, ⟨⟨am_p84, am_p85⟩, ⟨am_p86, am_p87⟩⟩⟩, ⟨⟨⟨am_p88, am_p89⟩, ⟨am_p90, am_p91⟩⟩, ⟨⟨am_p92, am_p93⟩, ⟨am_p94, am_p95⟩⟩⟩⟩⟩, ⟨⟨⟨⟨⟨am_p96, am_p97⟩, ⟨am_p98, am_p99⟩⟩, ⟨⟨am_p100, am_p101⟩, ⟨am_p102, am_p103⟩⟩⟩, ⟨⟨⟨am_p104, am_p105⟩, ⟨am_p106, am_p107⟩⟩, ⟨⟨am_p108, am_p109⟩, ⟨am_p110, am_p111⟩⟩⟩⟩, ⟨⟨⟨⟨am_p112, am_p113⟩, ⟨am_p114, am_p115⟩⟩, ⟨⟨am_p116, am_p117⟩, ⟨am_p118, am_p119⟩⟩⟩, ⟨⟨⟨am_p120, am_p121⟩, ⟨am_p122, am_p123⟩⟩, ⟨⟨am_p124, am_p125⟩, ⟨am_p126, am_p127⟩⟩⟩⟩⟩⟩⟩, ⟨⟨⟨⟨⟨⟨⟨am_p128, am_p129⟩, ⟨am_p130, am_p131⟩⟩, ⟨⟨am_p132, am_p133⟩, ⟨am_p134, am_p135⟩⟩⟩, ⟨⟨⟨am_p136, am_p137⟩, ⟨am_p138, am_p139⟩⟩, ⟨⟨am_p140, am_p141⟩, ⟨am_p142, am_p143⟩⟩⟩⟩, ⟨⟨⟨⟨am_p144, am_p145⟩, ⟨am_p146, am_p147⟩⟩, ⟨⟨am_p148, am_p149⟩, ⟨am_p150, am_p151⟩⟩⟩, ⟨⟨⟨am_p152, am_p153⟩, ⟨am_p154, am_p155⟩⟩, ⟨⟨am_p156, am_p157⟩, ⟨am_p158, am_p159⟩⟩⟩⟩⟩, ⟨⟨⟨⟨⟨am_p160, am_p161⟩, ⟨am_p162, am_p163⟩⟩, ⟨⟨am_p164, am_p165⟩, ⟨am_p166, am_p167⟩⟩⟩, ⟨⟨⟨am_p168, am_p169⟩, ⟨am_p170, am_p171⟩⟩, ⟨⟨am_p172, am_p173⟩, ⟨am_p174, am_p175⟩⟩⟩⟩, ⟨⟨⟨⟨am_p176, am_p177⟩, ⟨am_p178, am_p179⟩⟩, ⟨⟨am_p180, am_p181⟩, ⟨am_p182, am_p183⟩⟩⟩, ⟨⟨⟨am_p184, am_p185⟩, ⟨am_p186, am_p187⟩⟩, ⟨⟨am_p188, am_p189⟩, ⟨am_p190, am_p191⟩⟩⟩⟩⟩⟩, ⟨⟨⟨⟨⟨⟨am_p192, am_p193⟩, ⟨am_p194, am_p195⟩⟩, ⟨⟨am_p196, am_p197⟩, ⟨am_p198, am_p199⟩⟩⟩, ⟨⟨⟨am_p200, am_p201⟩, ⟨am_p202, am_p203⟩⟩, ⟨⟨am_p203, am_p203⟩, ⟨am_p203, am_p203⟩⟩⟩⟩, ⟨⟨⟨⟨am_p203, am_p203⟩, ⟨am_p203, am_p203⟩⟩, ⟨⟨am_p203, am_p203⟩, ⟨am_p203, am_p203⟩⟩⟩, ⟨⟨⟨am_p203, am_p203⟩, ⟨am_p203, am_p203⟩⟩, ⟨⟨am_p203, am_p203⟩, ⟨am_p203, am_p203⟩⟩⟩⟩⟩, ⟨⟨⟨⟨⟨am_p203, am_p203⟩, ⟨am_p203, am_p203⟩⟩, ⟨⟨am_p203, am_p203⟩, ⟨am_p203, am_p203⟩⟩⟩, ⟨⟨⟨am_p203, am_p203⟩, ⟨am_p203, am_p203⟩⟩, ⟨⟨am_p203, am_p203⟩, ⟨am_p203, am_p203⟩⟩⟩⟩, ⟨⟨⟨⟨am_p203, am_p203⟩, ⟨am_p203, am_p203⟩⟩, ⟨⟨am_p203, am_p203⟩, ⟨am_p203, am_p203⟩⟩⟩, ⟨⟨⟨am_p203, am_p203⟩, ⟨am_p203, am_p203⟩⟩, ⟨⟨am_p203, am_p203⟩, ⟨am_p203, am_p203⟩⟩⟩⟩⟩⟩⟩⟩
theorem am_pall (k : Nat) : am_PI (am_mi k) := am_forT_get 8 am_mt k am_ptree
theorem am_mok_all (k : Nat) : am_mok k := (am_pall k).2.1
end
