-- ===== PART A: goes FIRST, ahead of the names: the tables' words, and 'selects' of the private methods out of them =====
/-- a private method of a class that the tables say can be made, by its rows of tables_1 -/
def lw_okq (q : MethodName × Nat) : Prop := (q.1.cls ≠ "java/lang/invoke/MethodHandle" ∧ q.1.cls ≠ "java/lang/invoke/VarHandle") ∧ Cond.instantiable q.1.cls q.2 ∈ tables_1 ∧ Cond.privateMethod q.1 ∈ tables_1 ∧ Cond.instanceMethod q.1 ∈ tables_1
theorem lw_p0 : lw_okq (⟨"ProgramDesk$Tokens", "lengthen", "(C)V"⟩, 5) := ⟨⟨by decide +kernel, by decide +kernel⟩, List.mem_of_getElem? (i := 103) (by decide +kernel), List.mem_of_getElem? (i := 459) (by decide +kernel), List.mem_of_getElem? (i := 460) (by decide +kernel)⟩
theorem lw_p1 : lw_okq (⟨"ProgramDesk$Tokens", "begin", "(IIC)V"⟩, 5) := ⟨⟨by decide +kernel, by decide +kernel⟩, List.mem_of_getElem? (i := 103) (by decide +kernel), List.mem_of_getElem? (i := 463) (by decide +kernel), List.mem_of_getElem? (i := 464) (by decide +kernel)⟩
theorem lw_p2 : lw_okq (⟨"ProgramDesk$Tokens", "settleKind", "(I)V"⟩, 5) := ⟨⟨by decide +kernel, by decide +kernel⟩, List.mem_of_getElem? (i := 103) (by decide +kernel), List.mem_of_getElem? (i := 467) (by decide +kernel), List.mem_of_getElem? (i := 468) (by decide +kernel)⟩
theorem lw_p3 : lw_okq (⟨"ProgramDesk$Draft", "splitParts", "()V"⟩, 12) := ⟨⟨by decide +kernel, by decide +kernel⟩, List.mem_of_getElem? (i := 78) (by decide +kernel), List.mem_of_getElem? (i := 478) (by decide +kernel), List.mem_of_getElem? (i := 479) (by decide +kernel)⟩
theorem lw_p4 : lw_okq (⟨"ProgramDesk$Grammar", "takeName", "(I)Z"⟩, 10) := ⟨⟨by decide +kernel, by decide +kernel⟩, List.mem_of_getElem? (i := 232) (by decide +kernel), List.mem_of_getElem? (i := 491) (by decide +kernel), List.mem_of_getElem? (i := 492) (by decide +kernel)⟩
theorem lw_p5 : lw_okq (⟨"ProgramDesk$Grammar", "readParameters", "()I"⟩, 10) := ⟨⟨by decide +kernel, by decide +kernel⟩, List.mem_of_getElem? (i := 232) (by decide +kernel), List.mem_of_getElem? (i := 495) (by decide +kernel), List.mem_of_getElem? (i := 496) (by decide +kernel)⟩
theorem lw_p6 : lw_okq (⟨"ProgramDesk$Grammar", "takeSign", "(C)Z"⟩, 10) := ⟨⟨by decide +kernel, by decide +kernel⟩, List.mem_of_getElem? (i := 232) (by decide +kernel), List.mem_of_getElem? (i := 499) (by decide +kernel), List.mem_of_getElem? (i := 500) (by decide +kernel)⟩
theorem lw_p7 : lw_okq (⟨"ProgramDesk$Grammar", "openBlock", "(ZI)Z"⟩, 10) := ⟨⟨by decide +kernel, by decide +kernel⟩, List.mem_of_getElem? (i := 232) (by decide +kernel), List.mem_of_getElem? (i := 503) (by decide +kernel), List.mem_of_getElem? (i := 504) (by decide +kernel)⟩
theorem lw_p8 : lw_okq (⟨"ProgramDesk$Grammar", "readStatement", "()Z"⟩, 10) := ⟨⟨by decide +kernel, by decide +kernel⟩, List.mem_of_getElem? (i := 232) (by decide +kernel), List.mem_of_getElem? (i := 511) (by decide +kernel), List.mem_of_getElem? (i := 512) (by decide +kernel)⟩
theorem lw_p9 : lw_okq (⟨"ProgramDesk$Grammar", "closeBlock", "()V"⟩, 10) := ⟨⟨by decide +kernel, by decide +kernel⟩, List.mem_of_getElem? (i := 232) (by decide +kernel), List.mem_of_getElem? (i := 515) (by decide +kernel), List.mem_of_getElem? (i := 516) (by decide +kernel)⟩
theorem lw_p10 : lw_okq (⟨"ProgramDesk$Grammar", "readStore", "(I)Z"⟩, 10) := ⟨⟨by decide +kernel, by decide +kernel⟩, List.mem_of_getElem? (i := 232) (by decide +kernel), List.mem_of_getElem? (i := 523) (by decide +kernel), List.mem_of_getElem? (i := 524) (by decide +kernel)⟩
theorem lw_p11 : lw_okq (⟨"ProgramDesk$Grammar", "readExpression", "(I)Z"⟩, 10) := ⟨⟨by decide +kernel, by decide +kernel⟩, List.mem_of_getElem? (i := 232) (by decide +kernel), List.mem_of_getElem? (i := 527) (by decide +kernel), List.mem_of_getElem? (i := 528) (by decide +kernel)⟩
theorem lw_p12 : lw_okq (⟨"ProgramDesk$Grammar", "readSum", "(I)Z"⟩, 10) := ⟨⟨by decide +kernel, by decide +kernel⟩, List.mem_of_getElem? (i := 232) (by decide +kernel), List.mem_of_getElem? (i := 531) (by decide +kernel), List.mem_of_getElem? (i := 532) (by decide +kernel)⟩
theorem lw_p13 : lw_okq (⟨"ProgramDesk$Grammar", "readTerm", "(I)Z"⟩, 10) := ⟨⟨by decide +kernel, by decide +kernel⟩, List.mem_of_getElem? (i := 232) (by decide +kernel), List.mem_of_getElem? (i := 535) (by decide +kernel), List.mem_of_getElem? (i := 536) (by decide +kernel)⟩
theorem lw_p14 : lw_okq (⟨"ProgramDesk$Grammar", "readFactor", "(I)Z"⟩, 10) := ⟨⟨by decide +kernel, by decide +kernel⟩, List.mem_of_getElem? (i := 232) (by decide +kernel), List.mem_of_getElem? (i := 539) (by decide +kernel), List.mem_of_getElem? (i := 540) (by decide +kernel)⟩
theorem lw_p15 : lw_okq (⟨"ProgramDesk$Grammar", "readCall", "(II)Z"⟩, 10) := ⟨⟨by decide +kernel, by decide +kernel⟩, List.mem_of_getElem? (i := 232) (by decide +kernel), List.mem_of_getElem? (i := 543) (by decide +kernel), List.mem_of_getElem? (i := 544) (by decide +kernel)⟩
def lw_privs_1 : List (MethodName × Nat) := [(⟨"ProgramDesk$Tokens", "lengthen", "(C)V"⟩, 5), (⟨"ProgramDesk$Tokens", "begin", "(IIC)V"⟩, 5), (⟨"ProgramDesk$Tokens", "settleKind", "(I)V"⟩, 5), (⟨"ProgramDesk$Draft", "splitParts", "()V"⟩, 12), (⟨"ProgramDesk$Grammar", "takeName", "(I)Z"⟩, 10), (⟨"ProgramDesk$Grammar", "readParameters", "()I"⟩, 10), (⟨"ProgramDesk$Grammar", "takeSign", "(C)Z"⟩, 10), (⟨"ProgramDesk$Grammar", "openBlock", "(ZI)Z"⟩, 10), (⟨"ProgramDesk$Grammar", "readStatement", "()Z"⟩, 10), (⟨"ProgramDesk$Grammar", "closeBlock", "()V"⟩, 10), (⟨"ProgramDesk$Grammar", "readStore", "(I)Z"⟩, 10), (⟨"ProgramDesk$Grammar", "readExpression", "(I)Z"⟩, 10), (⟨"ProgramDesk$Grammar", "readSum", "(I)Z"⟩, 10), (⟨"ProgramDesk$Grammar", "readTerm", "(I)Z"⟩, 10), (⟨"ProgramDesk$Grammar", "readFactor", "(I)Z"⟩, 10), (⟨"ProgramDesk$Grammar", "readCall", "(II)Z"⟩, 10)]
theorem lw_r1 : ∀ q ∈ lw_privs_1, lw_okq q := List.forall_mem_cons.mpr ⟨lw_p0, List.forall_mem_cons.mpr ⟨lw_p1, List.forall_mem_cons.mpr ⟨lw_p2, List.forall_mem_cons.mpr ⟨lw_p3, List.forall_mem_cons.mpr ⟨lw_p4, List.forall_mem_cons.mpr ⟨lw_p5, List.forall_mem_cons.mpr ⟨lw_p6, List.forall_mem_cons.mpr ⟨lw_p7, List.forall_mem_cons.mpr ⟨lw_p8, List.forall_mem_cons.mpr ⟨lw_p9, List.forall_mem_cons.mpr ⟨lw_p10, List.forall_mem_cons.mpr ⟨lw_p11, List.forall_mem_cons.mpr ⟨lw_p12, List.forall_mem_cons.mpr ⟨lw_p13, List.forall_mem_cons.mpr ⟨lw_p14, List.forall_mem_cons.mpr ⟨lw_p15, fun _ h => absurd h List.not_mem_nil⟩⟩⟩⟩⟩⟩⟩⟩⟩⟩⟩⟩⟩⟩⟩⟩
theorem lw_p16 : lw_okq (⟨"ProgramDesk$Grammar", "readUse", "(I)Z"⟩, 10) := ⟨⟨by decide +kernel, by decide +kernel⟩, List.mem_of_getElem? (i := 232) (by decide +kernel), List.mem_of_getElem? (i := 547) (by decide +kernel), List.mem_of_getElem? (i := 548) (by decide +kernel)⟩
theorem lw_p17 : lw_okq (⟨"ProgramDesk$Draft", "brokenPlace", "(I)I"⟩, 12) := ⟨⟨by decide +kernel, by decide +kernel⟩, List.mem_of_getElem? (i := 78) (by decide +kernel), List.mem_of_getElem? (i := 555) (by decide +kernel), List.mem_of_getElem? (i := 556) (by decide +kernel)⟩
theorem lw_p18 : lw_okq (⟨"ProgramDesk$Draft", "judgePart", "(I)V"⟩, 12) := ⟨⟨by decide +kernel, by decide +kernel⟩, List.mem_of_getElem? (i := 78) (by decide +kernel), List.mem_of_getElem? (i := 559) (by decide +kernel), List.mem_of_getElem? (i := 560) (by decide +kernel)⟩
theorem lw_p19 : lw_okq (⟨"ProgramDesk$Draft", "addFault", "(II)V"⟩, 12) := ⟨⟨by decide +kernel, by decide +kernel⟩, List.mem_of_getElem? (i := 78) (by decide +kernel), List.mem_of_getElem? (i := 563) (by decide +kernel), List.mem_of_getElem? (i := 564) (by decide +kernel)⟩
theorem lw_p20 : lw_okq (⟨"ProgramDesk$Names", "bindOr", "(III)V"⟩, 9) := ⟨⟨by decide +kernel, by decide +kernel⟩, List.mem_of_getElem? (i := 167) (by decide +kernel), List.mem_of_getElem? (i := 579) (by decide +kernel), List.mem_of_getElem? (i := 580) (by decide +kernel)⟩
theorem lw_p21 : lw_okq (⟨"ProgramDesk$Names", "isDeclaredBefore", "(II)Z"⟩, 9) := ⟨⟨by decide +kernel, by decide +kernel⟩, List.mem_of_getElem? (i := 167) (by decide +kernel), List.mem_of_getElem? (i := 583) (by decide +kernel), List.mem_of_getElem? (i := 584) (by decide +kernel)⟩
theorem lw_p22 : lw_okq (⟨"ProgramDesk$Names", "declares", "(II)Z"⟩, 9) := ⟨⟨by decide +kernel, by decide +kernel⟩, List.mem_of_getElem? (i := 167) (by decide +kernel), List.mem_of_getElem? (i := 587) (by decide +kernel), List.mem_of_getElem? (i := 588) (by decide +kernel)⟩
theorem lw_p23 : lw_okq (⟨"ProgramDesk$Names", "bindCall", "(I)V"⟩, 9) := ⟨⟨by decide +kernel, by decide +kernel⟩, List.mem_of_getElem? (i := 167) (by decide +kernel), List.mem_of_getElem? (i := 595) (by decide +kernel), List.mem_of_getElem? (i := 596) (by decide +kernel)⟩
theorem lw_p24 : lw_okq (⟨"java/lang/Throwable", "fillInStackTrace", "(I)Ljava/lang/Throwable;"⟩, 6) := ⟨⟨by decide +kernel, by decide +kernel⟩, List.mem_of_getElem? (i := 655) (by decide +kernel), List.mem_of_getElem? (i := 653) (by decide +kernel), List.mem_of_getElem? (i := 654) (by decide +kernel)⟩
theorem lw_p25 : lw_okq (⟨"ProgramDesk", "acceptTrial", "()V"⟩, 3) := ⟨⟨by decide +kernel, by decide +kernel⟩, List.mem_of_getElem? (i := 26) (by decide +kernel), List.mem_of_getElem? (i := 824) (by decide +kernel), List.mem_of_getElem? (i := 825) (by decide +kernel)⟩
theorem lw_p26 : lw_okq (⟨"ProgramDesk$Names", "standsOn", "(II)Z"⟩, 9) := ⟨⟨by decide +kernel, by decide +kernel⟩, List.mem_of_getElem? (i := 167) (by decide +kernel), List.mem_of_getElem? (i := 851) (by decide +kernel), List.mem_of_getElem? (i := 852) (by decide +kernel)⟩
theorem lw_p27 : lw_okq (⟨"ProgramDesk$Names", "keepsMeaningAt", "(II)Z"⟩, 9) := ⟨⟨by decide +kernel, by decide +kernel⟩, List.mem_of_getElem? (i := 167) (by decide +kernel), List.mem_of_getElem? (i := 859) (by decide +kernel), List.mem_of_getElem? (i := 860) (by decide +kernel)⟩
theorem lw_p28 : lw_okq (⟨"ProgramDesk$Machine", "push", "(I)V"⟩, 11) := ⟨⟨by decide +kernel, by decide +kernel⟩, List.mem_of_getElem? (i := 34) (by decide +kernel), List.mem_of_getElem? (i := 886) (by decide +kernel), List.mem_of_getElem? (i := 887) (by decide +kernel)⟩
theorem lw_p29 : lw_okq (⟨"ProgramDesk$Machine", "begin", "(LProgramDesk$Functions;I)V"⟩, 11) := ⟨⟨by decide +kernel, by decide +kernel⟩, List.mem_of_getElem? (i := 34) (by decide +kernel), List.mem_of_getElem? (i := 890) (by decide +kernel), List.mem_of_getElem? (i := 891) (by decide +kernel)⟩
theorem lw_p30 : lw_okq (⟨"ProgramDesk$Machine", "countOne", "()V"⟩, 11) := ⟨⟨by decide +kernel, by decide +kernel⟩, List.mem_of_getElem? (i := 34) (by decide +kernel), List.mem_of_getElem? (i := 894) (by decide +kernel), List.mem_of_getElem? (i := 895) (by decide +kernel)⟩
theorem lw_p31 : lw_okq (⟨"ProgramDesk$Machine", "slot", "(I)I"⟩, 11) := ⟨⟨by decide +kernel, by decide +kernel⟩, List.mem_of_getElem? (i := 34) (by decide +kernel), List.mem_of_getElem? (i := 898) (by decide +kernel), List.mem_of_getElem? (i := 899) (by decide +kernel)⟩
def lw_privs_2 : List (MethodName × Nat) := [(⟨"ProgramDesk$Grammar", "readUse", "(I)Z"⟩, 10), (⟨"ProgramDesk$Draft", "brokenPlace", "(I)I"⟩, 12), (⟨"ProgramDesk$Draft", "judgePart", "(I)V"⟩, 12), (⟨"ProgramDesk$Draft", "addFault", "(II)V"⟩, 12), (⟨"ProgramDesk$Names", "bindOr", "(III)V"⟩, 9), (⟨"ProgramDesk$Names", "isDeclaredBefore", "(II)Z"⟩, 9), (⟨"ProgramDesk$Names", "declares", "(II)Z"⟩, 9), (⟨"ProgramDesk$Names", "bindCall", "(I)V"⟩, 9), (⟨"java/lang/Throwable", "fillInStackTrace", "(I)Ljava/lang/Throwable;"⟩, 6), (⟨"ProgramDesk", "acceptTrial", "()V"⟩, 3), (⟨"ProgramDesk$Names", "standsOn", "(II)Z"⟩, 9), (⟨"ProgramDesk$Names", "keepsMeaningAt", "(II)Z"⟩, 9), (⟨"ProgramDesk$Machine", "push", "(I)V"⟩, 11), (⟨"ProgramDesk$Machine", "begin", "(LProgramDesk$Functions;I)V"⟩, 11), (⟨"ProgramDesk$Machine", "countOne", "()V"⟩, 11), (⟨"ProgramDesk$Machine", "slot", "(I)I"⟩, 11)]
theorem lw_r2 : ∀ q ∈ lw_privs_2, lw_okq q := List.forall_mem_cons.mpr ⟨lw_p16, List.forall_mem_cons.mpr ⟨lw_p17, List.forall_mem_cons.mpr ⟨lw_p18, List.forall_mem_cons.mpr ⟨lw_p19, List.forall_mem_cons.mpr ⟨lw_p20, List.forall_mem_cons.mpr ⟨lw_p21, List.forall_mem_cons.mpr ⟨lw_p22, List.forall_mem_cons.mpr ⟨lw_p23, List.forall_mem_cons.mpr ⟨lw_p24, List.forall_mem_cons.mpr ⟨lw_p25, List.forall_mem_cons.mpr ⟨lw_p26, List.forall_mem_cons.mpr ⟨lw_p27, List.forall_mem_cons.mpr ⟨lw_p28, List.forall_mem_cons.mpr ⟨lw_p29, List.forall_mem_cons.mpr ⟨lw_p30, List.forall_mem_cons.mpr ⟨lw_p31, fun _ h => absurd h List.not_mem_nil⟩⟩⟩⟩⟩⟩⟩⟩⟩⟩⟩⟩⟩⟩⟩⟩
theorem lw_p32 : lw_okq (⟨"ProgramDesk$Machine", "pop", "()I"⟩, 11) := ⟨⟨by decide +kernel, by decide +kernel⟩, List.mem_of_getElem? (i := 34) (by decide +kernel), List.mem_of_getElem? (i := 902) (by decide +kernel), List.mem_of_getElem? (i := 903) (by decide +kernel)⟩
theorem lw_p33 : lw_okq (⟨"ProgramDesk$Machine", "advance", "(LProgramDesk$Draft;II)V"⟩, 11) := ⟨⟨by decide +kernel, by decide +kernel⟩, List.mem_of_getElem? (i := 34) (by decide +kernel), List.mem_of_getElem? (i := 907) (by decide +kernel), List.mem_of_getElem? (i := 908) (by decide +kernel)⟩
theorem lw_p34 : lw_okq (⟨"ProgramDesk$Machine", "keep", "(I)V"⟩, 11) := ⟨⟨by decide +kernel, by decide +kernel⟩, List.mem_of_getElem? (i := 34) (by decide +kernel), List.mem_of_getElem? (i := 912) (by decide +kernel), List.mem_of_getElem? (i := 913) (by decide +kernel)⟩
theorem lw_p35 : lw_okq (⟨"ProgramDesk$Machine", "end", "(I)V"⟩, 11) := ⟨⟨by decide +kernel, by decide +kernel⟩, List.mem_of_getElem? (i := 34) (by decide +kernel), List.mem_of_getElem? (i := 916) (by decide +kernel), List.mem_of_getElem? (i := 917) (by decide +kernel)⟩
theorem lw_p36 : lw_okq (⟨"ProgramDesk$Machine", "combine", "(I)V"⟩, 11) := ⟨⟨by decide +kernel, by decide +kernel⟩, List.mem_of_getElem? (i := 34) (by decide +kernel), List.mem_of_getElem? (i := 920) (by decide +kernel), List.mem_of_getElem? (i := 921) (by decide +kernel)⟩
theorem lw_p37 : lw_okq (⟨"ProgramDeskModel", "analyse", "()V"⟩, 54) := ⟨⟨by decide +kernel, by decide +kernel⟩, List.mem_of_getElem? (i := 931) (by decide +kernel), List.mem_of_getElem? (i := 1148) (by decide +kernel), List.mem_of_getElem? (i := 1149) (by decide +kernel)⟩
theorem lw_p38 : lw_okq (⟨"ProgramDeskModel", "scan", "()V"⟩, 54) := ⟨⟨by decide +kernel, by decide +kernel⟩, List.mem_of_getElem? (i := 931) (by decide +kernel), List.mem_of_getElem? (i := 1152) (by decide +kernel), List.mem_of_getElem? (i := 1153) (by decide +kernel)⟩
theorem lw_p39 : lw_okq (⟨"ProgramDeskModel", "behindRun", "(IZ)I"⟩, 54) := ⟨⟨by decide +kernel, by decide +kernel⟩, List.mem_of_getElem? (i := 931) (by decide +kernel), List.mem_of_getElem? (i := 1159) (by decide +kernel), List.mem_of_getElem? (i := 1160) (by decide +kernel)⟩
theorem lw_p40 : lw_okq (⟨"ProgramDeskModel", "makeToken", "(II)V"⟩, 54) := ⟨⟨by decide +kernel, by decide +kernel⟩, List.mem_of_getElem? (i := 931) (by decide +kernel), List.mem_of_getElem? (i := 1166) (by decide +kernel), List.mem_of_getElem? (i := 1167) (by decide +kernel)⟩
theorem lw_p41 : lw_okq (⟨"ProgramDeskModel", "keyword", "(J)I"⟩, 54) := ⟨⟨by decide +kernel, by decide +kernel⟩, List.mem_of_getElem? (i := 931) (by decide +kernel), List.mem_of_getElem? (i := 1170) (by decide +kernel), List.mem_of_getElem? (i := 1171) (by decide +kernel)⟩
theorem lw_p42 : lw_okq (⟨"ProgramDeskModel", "isFn", "(I)Z"⟩, 54) := ⟨⟨by decide +kernel, by decide +kernel⟩, List.mem_of_getElem? (i := 931) (by decide +kernel), List.mem_of_getElem? (i := 1179) (by decide +kernel), List.mem_of_getElem? (i := 1180) (by decide +kernel)⟩
theorem lw_p43 : lw_okq (⟨"ProgramDeskModel", "readPart", "(I)V"⟩, 54) := ⟨⟨by decide +kernel, by decide +kernel⟩, List.mem_of_getElem? (i := 931) (by decide +kernel), List.mem_of_getElem? (i := 1183) (by decide +kernel), List.mem_of_getElem? (i := 1184) (by decide +kernel)⟩
theorem lw_p44 : lw_okq (⟨"ProgramDeskModel", "step", "(II)Z"⟩, 54) := ⟨⟨by decide +kernel, by decide +kernel⟩, List.mem_of_getElem? (i := 931) (by decide +kernel), List.mem_of_getElem? (i := 1187) (by decide +kernel), List.mem_of_getElem? (i := 1188) (by decide +kernel)⟩
theorem lw_p45 : lw_okq (⟨"ProgramDeskModel", "head", "(II)Z"⟩, 54) := ⟨⟨by decide +kernel, by decide +kernel⟩, List.mem_of_getElem? (i := 931) (by decide +kernel), List.mem_of_getElem? (i := 1191) (by decide +kernel), List.mem_of_getElem? (i := 1192) (by decide +kernel)⟩
theorem lw_p46 : lw_okq (⟨"ProgramDeskModel", "goesTo", "(I)Z"⟩, 54) := ⟨⟨by decide +kernel, by decide +kernel⟩, List.mem_of_getElem? (i := 931) (by decide +kernel), List.mem_of_getElem? (i := 1195) (by decide +kernel), List.mem_of_getElem? (i := 1196) (by decide +kernel)⟩
theorem lw_p47 : lw_okq (⟨"ProgramDeskModel", "is", "(II)Z"⟩, 54) := ⟨⟨by decide +kernel, by decide +kernel⟩, List.mem_of_getElem? (i := 931) (by decide +kernel), List.mem_of_getElem? (i := 1199) (by decide +kernel), List.mem_of_getElem? (i := 1200) (by decide +kernel)⟩
def lw_privs_3 : List (MethodName × Nat) := [(⟨"ProgramDesk$Machine", "pop", "()I"⟩, 11), (⟨"ProgramDesk$Machine", "advance", "(LProgramDesk$Draft;II)V"⟩, 11), (⟨"ProgramDesk$Machine", "keep", "(I)V"⟩, 11), (⟨"ProgramDesk$Machine", "end", "(I)V"⟩, 11), (⟨"ProgramDesk$Machine", "combine", "(I)V"⟩, 11), (⟨"ProgramDeskModel", "analyse", "()V"⟩, 54), (⟨"ProgramDeskModel", "scan", "()V"⟩, 54), (⟨"ProgramDeskModel", "behindRun", "(IZ)I"⟩, 54), (⟨"ProgramDeskModel", "makeToken", "(II)V"⟩, 54), (⟨"ProgramDeskModel", "keyword", "(J)I"⟩, 54), (⟨"ProgramDeskModel", "isFn", "(I)Z"⟩, 54), (⟨"ProgramDeskModel", "readPart", "(I)V"⟩, 54), (⟨"ProgramDeskModel", "step", "(II)Z"⟩, 54), (⟨"ProgramDeskModel", "head", "(II)Z"⟩, 54), (⟨"ProgramDeskModel", "goesTo", "(I)Z"⟩, 54), (⟨"ProgramDeskModel", "is", "(II)Z"⟩, 54)]
theorem lw_r3 : ∀ q ∈ lw_privs_3, lw_okq q := List.forall_mem_cons.mpr ⟨lw_p32, List.forall_mem_cons.mpr ⟨lw_p33, List.forall_mem_cons.mpr ⟨lw_p34, List.forall_mem_cons.mpr ⟨lw_p35, List.forall_mem_cons.mpr ⟨lw_p36, List.forall_mem_cons.mpr ⟨lw_p37, List.forall_mem_cons.mpr ⟨lw_p38, List.forall_mem_cons.mpr ⟨lw_p39, List.forall_mem_cons.mpr ⟨lw_p40, List.forall_mem_cons.mpr ⟨lw_p41, List.forall_mem_cons.mpr ⟨lw_p42, List.forall_mem_cons.mpr ⟨lw_p43, List.forall_mem_cons.mpr ⟨lw_p44, List.forall_mem_cons.mpr ⟨lw_p45, List.forall_mem_cons.mpr ⟨lw_p46, List.forall_mem_cons.mpr ⟨lw_p47, fun _ h => absurd h List.not_mem_nil⟩⟩⟩⟩⟩⟩⟩⟩⟩⟩⟩⟩⟩⟩⟩⟩
theorem lw_p48 : lw_okq (⟨"ProgramDeskModel", "openBlock", "(I)Z"⟩, 54) := ⟨⟨by decide +kernel, by decide +kernel⟩, List.mem_of_getElem? (i := 931) (by decide +kernel), List.mem_of_getElem? (i := 1203) (by decide +kernel), List.mem_of_getElem? (i := 1204) (by decide +kernel)⟩
theorem lw_p49 : lw_okq (⟨"ProgramDeskModel", "statement", "(I)Z"⟩, 54) := ⟨⟨by decide +kernel, by decide +kernel⟩, List.mem_of_getElem? (i := 931) (by decide +kernel), List.mem_of_getElem? (i := 1207) (by decide +kernel), List.mem_of_getElem? (i := 1208) (by decide +kernel)⟩
theorem lw_p50 : lw_okq (⟨"ProgramDeskModel", "closeBlock", "(I)Z"⟩, 54) := ⟨⟨by decide +kernel, by decide +kernel⟩, List.mem_of_getElem? (i := 931) (by decide +kernel), List.mem_of_getElem? (i := 1211) (by decide +kernel), List.mem_of_getElem? (i := 1212) (by decide +kernel)⟩
theorem lw_p51 : lw_okq (⟨"ProgramDeskModel", "expression", "(I)Z"⟩, 54) := ⟨⟨by decide +kernel, by decide +kernel⟩, List.mem_of_getElem? (i := 931) (by decide +kernel), List.mem_of_getElem? (i := 1215) (by decide +kernel), List.mem_of_getElem? (i := 1216) (by decide +kernel)⟩
theorem lw_p52 : lw_okq (⟨"ProgramDeskModel", "operand", "(I)Z"⟩, 54) := ⟨⟨by decide +kernel, by decide +kernel⟩, List.mem_of_getElem? (i := 931) (by decide +kernel), List.mem_of_getElem? (i := 1219) (by decide +kernel), List.mem_of_getElem? (i := 1220) (by decide +kernel)⟩
theorem lw_p53 : lw_okq (⟨"ProgramDeskModel", "closeFrame", "()Z"⟩, 54) := ⟨⟨by decide +kernel, by decide +kernel⟩, List.mem_of_getElem? (i := 931) (by decide +kernel), List.mem_of_getElem? (i := 1223) (by decide +kernel), List.mem_of_getElem? (i := 1224) (by decide +kernel)⟩
theorem lw_p54 : lw_okq (⟨"ProgramDeskModel", "openFrame", "(I)Z"⟩, 54) := ⟨⟨by decide +kernel, by decide +kernel⟩, List.mem_of_getElem? (i := 931) (by decide +kernel), List.mem_of_getElem? (i := 1227) (by decide +kernel), List.mem_of_getElem? (i := 1228) (by decide +kernel)⟩
theorem lw_p55 : lw_okq (⟨"ProgramDeskModel", "operator", "(I)Z"⟩, 54) := ⟨⟨by decide +kernel, by decide +kernel⟩, List.mem_of_getElem? (i := 931) (by decide +kernel), List.mem_of_getElem? (i := 1231) (by decide +kernel), List.mem_of_getElem? (i := 1232) (by decide +kernel)⟩
theorem lw_p56 : lw_okq (⟨"ProgramDeskModel", "note", "(II)V"⟩, 54) := ⟨⟨by decide +kernel, by decide +kernel⟩, List.mem_of_getElem? (i := 931) (by decide +kernel), List.mem_of_getElem? (i := 1235) (by decide +kernel), List.mem_of_getElem? (i := 1236) (by decide +kernel)⟩
theorem lw_p57 : lw_okq (⟨"ProgramDeskModel", "bind", "()V"⟩, 54) := ⟨⟨by decide +kernel, by decide +kernel⟩, List.mem_of_getElem? (i := 931) (by decide +kernel), List.mem_of_getElem? (i := 1239) (by decide +kernel), List.mem_of_getElem? (i := 1240) (by decide +kernel)⟩
theorem lw_p58 : lw_okq (⟨"ProgramDeskModel", "isRepeated", "(I)Z"⟩, 54) := ⟨⟨by decide +kernel, by decide +kernel⟩, List.mem_of_getElem? (i := 931) (by decide +kernel), List.mem_of_getElem? (i := 1243) (by decide +kernel), List.mem_of_getElem? (i := 1244) (by decide +kernel)⟩
theorem lw_p59 : lw_okq (⟨"ProgramDeskModel", "meaning", "(JI)I"⟩, 54) := ⟨⟨by decide +kernel, by decide +kernel⟩, List.mem_of_getElem? (i := 931) (by decide +kernel), List.mem_of_getElem? (i := 1247) (by decide +kernel), List.mem_of_getElem? (i := 1248) (by decide +kernel)⟩
theorem lw_p60 : lw_okq (⟨"ProgramDeskModel", "functionNamed", "(J)I"⟩, 54) := ⟨⟨by decide +kernel, by decide +kernel⟩, List.mem_of_getElem? (i := 931) (by decide +kernel), List.mem_of_getElem? (i := 1251) (by decide +kernel), List.mem_of_getElem? (i := 1252) (by decide +kernel)⟩
theorem lw_p61 : lw_okq (⟨"ProgramDeskModel", "partOf", "(I)I"⟩, 54) := ⟨⟨by decide +kernel, by decide +kernel⟩, List.mem_of_getElem? (i := 931) (by decide +kernel), List.mem_of_getElem? (i := 1255) (by decide +kernel), List.mem_of_getElem? (i := 1256) (by decide +kernel)⟩
theorem lw_p62 : lw_okq (⟨"ProgramDeskModel", "fails", "(I)I"⟩, 54) := ⟨⟨by decide +kernel, by decide +kernel⟩, List.mem_of_getElem? (i := 931) (by decide +kernel), List.mem_of_getElem? (i := 1263) (by decide +kernel), List.mem_of_getElem? (i := 1264) (by decide +kernel)⟩
theorem lw_p63 : lw_okq (⟨"ProgramDeskModel", "boundAt", "(I)I"⟩, 54) := ⟨⟨by decide +kernel, by decide +kernel⟩, List.mem_of_getElem? (i := 931) (by decide +kernel), List.mem_of_getElem? (i := 1279) (by decide +kernel), List.mem_of_getElem? (i := 1280) (by decide +kernel)⟩
def lw_privs_4 : List (MethodName × Nat) := [(⟨"ProgramDeskModel", "openBlock", "(I)Z"⟩, 54), (⟨"ProgramDeskModel", "statement", "(I)Z"⟩, 54), (⟨"ProgramDeskModel", "closeBlock", "(I)Z"⟩, 54), (⟨"ProgramDeskModel", "expression", "(I)Z"⟩, 54), (⟨"ProgramDeskModel", "operand", "(I)Z"⟩, 54), (⟨"ProgramDeskModel", "closeFrame", "()Z"⟩, 54), (⟨"ProgramDeskModel", "openFrame", "(I)Z"⟩, 54), (⟨"ProgramDeskModel", "operator", "(I)Z"⟩, 54), (⟨"ProgramDeskModel", "note", "(II)V"⟩, 54), (⟨"ProgramDeskModel", "bind", "()V"⟩, 54), (⟨"ProgramDeskModel", "isRepeated", "(I)Z"⟩, 54), (⟨"ProgramDeskModel", "meaning", "(JI)I"⟩, 54), (⟨"ProgramDeskModel", "functionNamed", "(J)I"⟩, 54), (⟨"ProgramDeskModel", "partOf", "(I)I"⟩, 54), (⟨"ProgramDeskModel", "fails", "(I)I"⟩, 54), (⟨"ProgramDeskModel", "boundAt", "(I)I"⟩, 54)]
theorem lw_r4 : ∀ q ∈ lw_privs_4, lw_okq q := List.forall_mem_cons.mpr ⟨lw_p48, List.forall_mem_cons.mpr ⟨lw_p49, List.forall_mem_cons.mpr ⟨lw_p50, List.forall_mem_cons.mpr ⟨lw_p51, List.forall_mem_cons.mpr ⟨lw_p52, List.forall_mem_cons.mpr ⟨lw_p53, List.forall_mem_cons.mpr ⟨lw_p54, List.forall_mem_cons.mpr ⟨lw_p55, List.forall_mem_cons.mpr ⟨lw_p56, List.forall_mem_cons.mpr ⟨lw_p57, List.forall_mem_cons.mpr ⟨lw_p58, List.forall_mem_cons.mpr ⟨lw_p59, List.forall_mem_cons.mpr ⟨lw_p60, List.forall_mem_cons.mpr ⟨lw_p61, List.forall_mem_cons.mpr ⟨lw_p62, List.forall_mem_cons.mpr ⟨lw_p63, fun _ h => absurd h List.not_mem_nil⟩⟩⟩⟩⟩⟩⟩⟩⟩⟩⟩⟩⟩⟩⟩⟩
theorem lw_p64 : lw_okq (⟨"ProgramDeskModel", "keep", "()V"⟩, 54) := ⟨⟨by decide +kernel, by decide +kernel⟩, List.mem_of_getElem? (i := 931) (by decide +kernel), List.mem_of_getElem? (i := 1291) (by decide +kernel), List.mem_of_getElem? (i := 1292) (by decide +kernel)⟩
theorem lw_p65 : lw_okq (⟨"ProgramDeskModel", "spell", "(IJI)V"⟩, 54) := ⟨⟨by decide +kernel, by decide +kernel⟩, List.mem_of_getElem? (i := 931) (by decide +kernel), List.mem_of_getElem? (i := 1295) (by decide +kernel), List.mem_of_getElem? (i := 1296) (by decide +kernel)⟩
theorem lw_p66 : lw_okq (⟨"ProgramDeskModel", "becomeFresh", "(I)V"⟩, 54) := ⟨⟨by decide +kernel, by decide +kernel⟩, List.mem_of_getElem? (i := 931) (by decide +kernel), List.mem_of_getElem? (i := 1299) (by decide +kernel), List.mem_of_getElem? (i := 1300) (by decide +kernel)⟩
theorem lw_p67 : lw_okq (⟨"ProgramDeskModel", "takeBack", "(I)I"⟩, 54) := ⟨⟨by decide +kernel, by decide +kernel⟩, List.mem_of_getElem? (i := 931) (by decide +kernel), List.mem_of_getElem? (i := 1303) (by decide +kernel), List.mem_of_getElem? (i := 1304) (by decide +kernel)⟩
theorem lw_p68 : lw_okq (⟨"ProgramDeskModel", "isHeld", "(III)Z"⟩, 54) := ⟨⟨by decide +kernel, by decide +kernel⟩, List.mem_of_getElem? (i := 931) (by decide +kernel), List.mem_of_getElem? (i := 1311) (by decide +kernel), List.mem_of_getElem? (i := 1312) (by decide +kernel)⟩
theorem lw_p69 : lw_okq (⟨"ProgramDeskModel", "unfold", "(III)V"⟩, 54) := ⟨⟨by decide +kernel, by decide +kernel⟩, List.mem_of_getElem? (i := 931) (by decide +kernel), List.mem_of_getElem? (i := 1315) (by decide +kernel), List.mem_of_getElem? (i := 1316) (by decide +kernel)⟩
theorem lw_p70 : lw_okq (⟨"ProgramDeskModel", "function", "(I)V"⟩, 54) := ⟨⟨by decide +kernel, by decide +kernel⟩, List.mem_of_getElem? (i := 931) (by decide +kernel), List.mem_of_getElem? (i := 1323) (by decide +kernel), List.mem_of_getElem? (i := 1324) (by decide +kernel)⟩
theorem lw_p71 : lw_okq (⟨"ProgramDeskModel", "emit", "(II)V"⟩, 54) := ⟨⟨by decide +kernel, by decide +kernel⟩, List.mem_of_getElem? (i := 931) (by decide +kernel), List.mem_of_getElem? (i := 1327) (by decide +kernel), List.mem_of_getElem? (i := 1328) (by decide +kernel)⟩
theorem lw_p72 : lw_okq (⟨"ProgramDeskModel", "compile", "(I)I"⟩, 54) := ⟨⟨by decide +kernel, by decide +kernel⟩, List.mem_of_getElem? (i := 931) (by decide +kernel), List.mem_of_getElem? (i := 1331) (by decide +kernel), List.mem_of_getElem? (i := 1332) (by decide +kernel)⟩
theorem lw_p73 : lw_okq (⟨"ProgramDeskModel", "queue", "(II)V"⟩, 54) := ⟨⟨by decide +kernel, by decide +kernel⟩, List.mem_of_getElem? (i := 931) (by decide +kernel), List.mem_of_getElem? (i := 1335) (by decide +kernel), List.mem_of_getElem? (i := 1336) (by decide +kernel)⟩
theorem lw_p74 : lw_okq (⟨"ProgramDeskModel", "settle", "(I)V"⟩, 54) := ⟨⟨by decide +kernel, by decide +kernel⟩, List.mem_of_getElem? (i := 931) (by decide +kernel), List.mem_of_getElem? (i := 1339) (by decide +kernel), List.mem_of_getElem? (i := 1340) (by decide +kernel)⟩
theorem lw_p75 : lw_okq (⟨"ProgramDeskModel", "execute", "(II)I"⟩, 54) := ⟨⟨by decide +kernel, by decide +kernel⟩, List.mem_of_getElem? (i := 931) (by decide +kernel), List.mem_of_getElem? (i := 1346) (by decide +kernel), List.mem_of_getElem? (i := 1347) (by decide +kernel)⟩
theorem lw_p76 : lw_okq (⟨"ProgramDeskModel", "push", "(I)V"⟩, 54) := ⟨⟨by decide +kernel, by decide +kernel⟩, List.mem_of_getElem? (i := 931) (by decide +kernel), List.mem_of_getElem? (i := 1350) (by decide +kernel), List.mem_of_getElem? (i := 1351) (by decide +kernel)⟩
theorem lw_p77 : lw_okq (⟨"ProgramDeskModel", "enter", "(II)I"⟩, 54) := ⟨⟨by decide +kernel, by decide +kernel⟩, List.mem_of_getElem? (i := 931) (by decide +kernel), List.mem_of_getElem? (i := 1354) (by decide +kernel), List.mem_of_getElem? (i := 1355) (by decide +kernel)⟩
theorem lw_p78 : lw_okq (⟨"ProgramDeskModel", "uncounted", "(II)I"⟩, 54) := ⟨⟨by decide +kernel, by decide +kernel⟩, List.mem_of_getElem? (i := 931) (by decide +kernel), List.mem_of_getElem? (i := 1358) (by decide +kernel), List.mem_of_getElem? (i := 1359) (by decide +kernel)⟩
theorem lw_p79 : lw_okq (⟨"ProgramDeskModel", "pop", "()I"⟩, 54) := ⟨⟨by decide +kernel, by decide +kernel⟩, List.mem_of_getElem? (i := 931) (by decide +kernel), List.mem_of_getElem? (i := 1362) (by decide +kernel), List.mem_of_getElem? (i := 1363) (by decide +kernel)⟩
def lw_privs_5 : List (MethodName × Nat) := [(⟨"ProgramDeskModel", "keep", "()V"⟩, 54), (⟨"ProgramDeskModel", "spell", "(IJI)V"⟩, 54), (⟨"ProgramDeskModel", "becomeFresh", "(I)V"⟩, 54), (⟨"ProgramDeskModel", "takeBack", "(I)I"⟩, 54), (⟨"ProgramDeskModel", "isHeld", "(III)Z"⟩, 54), (⟨"ProgramDeskModel", "unfold", "(III)V"⟩, 54), (⟨"ProgramDeskModel", "function", "(I)V"⟩, 54), (⟨"ProgramDeskModel", "emit", "(II)V"⟩, 54), (⟨"ProgramDeskModel", "compile", "(I)I"⟩, 54), (⟨"ProgramDeskModel", "queue", "(II)V"⟩, 54), (⟨"ProgramDeskModel", "settle", "(I)V"⟩, 54), (⟨"ProgramDeskModel", "execute", "(II)I"⟩, 54), (⟨"ProgramDeskModel", "push", "(I)V"⟩, 54), (⟨"ProgramDeskModel", "enter", "(II)I"⟩, 54), (⟨"ProgramDeskModel", "uncounted", "(II)I"⟩, 54), (⟨"ProgramDeskModel", "pop", "()I"⟩, 54)]
theorem lw_r5 : ∀ q ∈ lw_privs_5, lw_okq q := List.forall_mem_cons.mpr ⟨lw_p64, List.forall_mem_cons.mpr ⟨lw_p65, List.forall_mem_cons.mpr ⟨lw_p66, List.forall_mem_cons.mpr ⟨lw_p67, List.forall_mem_cons.mpr ⟨lw_p68, List.forall_mem_cons.mpr ⟨lw_p69, List.forall_mem_cons.mpr ⟨lw_p70, List.forall_mem_cons.mpr ⟨lw_p71, List.forall_mem_cons.mpr ⟨lw_p72, List.forall_mem_cons.mpr ⟨lw_p73, List.forall_mem_cons.mpr ⟨lw_p74, List.forall_mem_cons.mpr ⟨lw_p75, List.forall_mem_cons.mpr ⟨lw_p76, List.forall_mem_cons.mpr ⟨lw_p77, List.forall_mem_cons.mpr ⟨lw_p78, List.forall_mem_cons.mpr ⟨lw_p79, fun _ h => absurd h List.not_mem_nil⟩⟩⟩⟩⟩⟩⟩⟩⟩⟩⟩⟩⟩⟩⟩⟩
theorem lw_p80 : lw_okq (⟨"ProgramDeskModel", "reckon", "(I)V"⟩, 54) := ⟨⟨by decide +kernel, by decide +kernel⟩, List.mem_of_getElem? (i := 931) (by decide +kernel), List.mem_of_getElem? (i := 1366) (by decide +kernel), List.mem_of_getElem? (i := 1367) (by decide +kernel)⟩
theorem lw_p81 : lw_okq (⟨"ProgramDeskModel", "counts", "(Z)I"⟩, 54) := ⟨⟨by decide +kernel, by decide +kernel⟩, List.mem_of_getElem? (i := 931) (by decide +kernel), List.mem_of_getElem? (i := 1370) (by decide +kernel), List.mem_of_getElem? (i := 1371) (by decide +kernel)⟩
def lw_privs_6 : List (MethodName × Nat) := [(⟨"ProgramDeskModel", "reckon", "(I)V"⟩, 54), (⟨"ProgramDeskModel", "counts", "(Z)I"⟩, 54)]
theorem lw_r6 : ∀ q ∈ lw_privs_6, lw_okq q := List.forall_mem_cons.mpr ⟨lw_p80, List.forall_mem_cons.mpr ⟨lw_p81, fun _ h => absurd h List.not_mem_nil⟩⟩
def lw_privs : List (MethodName × Nat) := lw_privs_1 ++ (lw_privs_2 ++ (lw_privs_3 ++ (lw_privs_4 ++ (lw_privs_5 ++ (lw_privs_6)))))
def lw_tbl : List Cond := k2_sels lw_privs ++ tables_1
theorem lw_privs_ok : ∀ q ∈ lw_privs, lw_okq q := by
  show ∀ q ∈ lw_privs_1 ++ (lw_privs_2 ++ (lw_privs_3 ++ (lw_privs_4 ++ (lw_privs_5 ++ (lw_privs_6))))), lw_okq q
  exact List.forall_mem_append.mpr ⟨lw_r1, List.forall_mem_append.mpr ⟨lw_r2, List.forall_mem_append.mpr ⟨lw_r3, List.forall_mem_append.mpr ⟨lw_r4, List.forall_mem_append.mpr ⟨lw_r5, lw_r6⟩⟩⟩⟩⟩
def wsG : List Cond := lw_tbl.filter goodWord
theorem wsG_good : ∀ w ∈ wsG, goodWord w = true := fun w h => (List.mem_filter.mp h).2
theorem tw_ {w : Cond} (n : Nat) (h : tables_1[n]? = some w) (hg : goodWord w = true) : w ∈ wsG := List.mem_filter.mpr ⟨List.mem_append_right _ (List.mem_of_getElem? h), hg⟩
theorem sw_ {q : MethodName × Nat} (h : q ∈ lw_privs) (hg : goodWord (Cond.selects q.1.cls q.1 q.1) = true) : Cond.selects q.1.cls q.1 q.1 ∈ wsG := List.mem_filter.mpr ⟨List.mem_append_left _ (List.mem_map.mpr ⟨q, h, rfl⟩), hg⟩
theorem tc_1 {w : Cond} (n : Nat) (h0 : tables_1_1[n]? = some w) (hg : goodWord w = true) : w ∈ wsG := by
  have h := List.mem_of_getElem? h0
  exact List.mem_filter.mpr ⟨List.mem_append_right _ (List.mem_append_left _ h), hg⟩
theorem tc_2 {w : Cond} (n : Nat) (h0 : tables_1_2[n]? = some w) (hg : goodWord w = true) : w ∈ wsG := by
  have h := List.mem_of_getElem? h0
  exact List.mem_filter.mpr ⟨List.mem_append_right _ (List.mem_append_right _ (List.mem_append_left _ h)), hg⟩
theorem tc_3 {w : Cond} (n : Nat) (h0 : tables_1_3[n]? = some w) (hg : goodWord w = true) : w ∈ wsG := by
  have h := List.mem_of_getElem? h0
  exact List.mem_filter.mpr ⟨List.mem_append_right _ (List.mem_append_right _ (List.mem_append_right _ (List.mem_append_left _ h))), hg⟩
theorem tc_4 {w : Cond} (n : Nat) (h0 : tables_1_4[n]? = some w) (hg : goodWord w = true) : w ∈ wsG := by
  have h := List.mem_of_getElem? h0
  exact List.mem_filter.mpr ⟨List.mem_append_right _ (List.mem_append_right _ (List.mem_append_right _ (List.mem_append_right _ (List.mem_append_left _ h)))), hg⟩
theorem tc_5 {w : Cond} (n : Nat) (h0 : tables_1_5[n]? = some w) (hg : goodWord w = true) : w ∈ wsG := by
  have h := List.mem_of_getElem? h0
  exact List.mem_filter.mpr ⟨List.mem_append_right _ (List.mem_append_right _ (List.mem_append_right _ (List.mem_append_right _ (List.mem_append_right _ (List.mem_append_left _ h))))), hg⟩
theorem tc_6 {w : Cond} (n : Nat) (h0 : tables_1_6[n]? = some w) (hg : goodWord w = true) : w ∈ wsG := by
  have h := List.mem_of_getElem? h0
  exact List.mem_filter.mpr ⟨List.mem_append_right _ (List.mem_append_right _ (List.mem_append_right _ (List.mem_append_right _ (List.mem_append_right _ (List.mem_append_right _ (h)))))), hg⟩
theorem tw0 : (Cond.initialized "ProgramDeskLaw") ∈ wsG := tc_1 0 rfl rfl
theorem tw1 : (Cond.initialized "ProgramDesk") ∈ wsG := tc_1 1 rfl rfl
theorem tw2 : (Cond.initialized "ProgramDesk$Machine") ∈ wsG := tc_1 2 rfl rfl
theorem tw3 : (Cond.initialized "ProgramDesk$Draft") ∈ wsG := tc_1 3 rfl rfl
theorem tw4 : (Cond.initialized "ProgramDesk$Text") ∈ wsG := tc_1 4 rfl rfl
theorem tw5 : (Cond.initialized "ProgramDesk$Tokens") ∈ wsG := tc_1 5 rfl rfl
theorem tw6 : (Cond.initialized "ProgramDesk$Functions") ∈ wsG := tc_1 6 rfl rfl
theorem tw7 : (Cond.initialized "ProgramDesk$Names") ∈ wsG := tc_1 7 rfl rfl
theorem tw8 : (Cond.initialized "ProgramDesk$Code") ∈ wsG := tc_1 8 rfl rfl
theorem tw9 : (Cond.initialized "ProgramDesk$Grammar") ∈ wsG := tc_1 9 rfl rfl
theorem tw10 : (Cond.initialized "ProgramDeskModel") ∈ wsG := tc_1 10 rfl rfl
theorem tw11 : (Cond.initialized "java/lang/Throwable") ∈ wsG := tc_1 11 rfl rfl
theorem tw12 : (Cond.initialized "java/lang/Exception") ∈ wsG := tc_1 12 rfl rfl
theorem tw13 : (Cond.initialized "java/lang/RuntimeException") ∈ wsG := tc_1 13 rfl rfl
theorem tw14 : (Cond.initialized "java/lang/IllegalArgumentException") ∈ wsG := tc_1 14 rfl rfl
theorem tw15 : (Cond.initialized "java/lang/IndexOutOfBoundsException") ∈ wsG := tc_1 15 rfl rfl
theorem tw16 : (Cond.initialized "java/lang/IllegalStateException") ∈ wsG := tc_1 16 rfl rfl
theorem tw17 : (Cond.initialized "java/lang/String") ∈ wsG := tc_1 17 rfl rfl
theorem tw18 : (Cond.initialized "java/lang/StringLatin1") ∈ wsG := tc_1 18 rfl rfl
theorem tw19 : (Cond.initialized "java/lang/Math") ∈ wsG := tc_1 19 rfl rfl
theorem tw20 : (Cond.initialized "java/lang/StringUTF16") ∈ wsG := tc_1 20 rfl rfl
theorem tw21 : (Cond.initialized "jdk/internal/util/Preconditions") ∈ wsG := tc_1 21 rfl rfl
theorem tw22 : (Cond.initialized "java/lang/Character") ∈ wsG := tc_1 22 rfl rfl
theorem tw23 : (Cond.initialized "java/util/NoSuchElementException") ∈ wsG := tc_1 23 rfl rfl
theorem tw24 : (Cond.initialized "java/lang/UnsupportedOperationException") ∈ wsG := tc_1 24 rfl rfl
theorem tw25 : (Cond.classLink "ProgramDeskLaw" 8 "ProgramDesk") ∈ wsG := tc_1 25 rfl rfl
theorem tw26 : (Cond.instantiable "ProgramDesk" 3) ∈ wsG := tc_1 26 rfl rfl
theorem tw27 : (Cond.methodLink "ProgramDeskLaw" 55 ({ cls := "ProgramDesk", name := "<init>", desc := "()V" } : Jvm.MethodName)) ∈ wsG := tc_1 27 rfl rfl
theorem tw28 : (Cond.instanceMethod ({ cls := "ProgramDesk", name := "<init>", desc := "()V" } : Jvm.MethodName)) ∈ wsG := tc_1 28 rfl rfl
theorem tw29 : (Cond.code ({ cls := "ProgramDesk", name := "<init>", desc := "()V" } : Jvm.MethodName) prog_1_method_1_code 1 (Option.none : Option Jvm.ClassFile.FieldType)) ∈ wsG := tc_1 29 rfl rfl
theorem tw30 : (Cond.methodLink "ProgramDesk" 1 ({ cls := "java/lang/Object", name := "<init>", desc := "()V" } : Jvm.MethodName)) ∈ wsG := tc_1 30 rfl rfl
theorem tw31 : (Cond.instanceMethod ({ cls := "java/lang/Object", name := "<init>", desc := "()V" } : Jvm.MethodName)) ∈ wsG := tc_1 31 rfl rfl
theorem tw32 : (Cond.code ({ cls := "java/lang/Object", name := "<init>", desc := "()V" } : Jvm.MethodName) object_method_1_code 1 (Option.none : Option Jvm.ClassFile.FieldType)) ∈ wsG := tc_1 32 rfl rfl
theorem tw33 : (Cond.classLink "ProgramDesk" 7 "ProgramDesk$Machine") ∈ wsG := tc_1 33 rfl rfl
theorem tw34 : (Cond.instantiable "ProgramDesk$Machine" 11) ∈ wsG := tc_1 34 rfl rfl
theorem tw36 : (Cond.instanceMethod ({ cls := "ProgramDesk$Machine", name := "<init>", desc := "()V" } : Jvm.MethodName)) ∈ wsG := tc_1 36 rfl rfl
theorem tw37 : (Cond.code ({ cls := "ProgramDesk$Machine", name := "<init>", desc := "()V" } : Jvm.MethodName) prog_6_method_1_code 1 (Option.none : Option Jvm.ClassFile.FieldType)) ∈ wsG := tc_1 37 rfl rfl
theorem tw38 : (Cond.methodLink "ProgramDesk$Machine" 3 ({ cls := "java/lang/Object", name := "<init>", desc := "()V" } : Jvm.MethodName)) ∈ wsG := tc_1 38 rfl rfl
theorem tw39 : (Cond.fieldLink "ProgramDesk$Machine" 11 "ProgramDesk$Machine" "kept" "[I") ∈ wsG := tc_1 39 rfl rfl
theorem tw40 : (Cond.fieldLink "ProgramDesk" 187 "ProgramDesk$Machine" "kept" "[I") ∈ wsG := tc_1 40 rfl rfl
theorem tw41 : (Cond.fieldLink "ProgramDesk$Machine" 24 "ProgramDesk$Machine" "printed" "I") ∈ wsG := tc_1 41 rfl rfl
theorem tw42 : (Cond.fieldLink "ProgramDesk" 181 "ProgramDesk$Machine" "printed" "I") ∈ wsG := tc_1 42 rfl rfl
theorem tw43 : (Cond.fieldLink "ProgramDesk$Machine" 28 "ProgramDesk$Machine" "given" "I") ∈ wsG := tc_1 43 rfl rfl
theorem tw44 : (Cond.fieldLink "ProgramDesk" 184 "ProgramDesk$Machine" "given" "I") ∈ wsG := tc_1 44 rfl rfl
theorem tw45 : (Cond.fieldLink "ProgramDesk$Machine" 15 "ProgramDesk$Machine" "variables" "[I") ∈ wsG := tc_1 45 rfl rfl
theorem tw46 : (Cond.fieldLink "ProgramDesk$Machine" 18 "ProgramDesk$Machine" "stack" "[I") ∈ wsG := tc_1 46 rfl rfl
theorem tw47 : (Cond.fieldLink "ProgramDesk$Machine" 31 "ProgramDesk$Machine" "height" "I") ∈ wsG := tc_1 47 rfl rfl
theorem tw48 : (Cond.fieldLink "ProgramDesk$Machine" 21 "ProgramDesk$Machine" "back" "[I") ∈ wsG := tc_1 48 rfl rfl
theorem tw49 : (Cond.fieldLink "ProgramDesk$Machine" 34 "ProgramDesk$Machine" "open" "I") ∈ wsG := tc_1 49 rfl rfl
theorem tw50 : (Cond.fieldLink "ProgramDesk$Machine" 37 "ProgramDesk$Machine" "counted" "I") ∈ wsG := tc_1 50 rfl rfl
theorem tw51 : (Cond.fieldLink "ProgramDesk$Machine" 63 "ProgramDesk$Machine" "at" "I") ∈ wsG := tc_1 51 rfl rfl
theorem tw52 : (Cond.fieldLink "ProgramDesk$Machine" 40 "ProgramDesk$Machine" "outcome" "I") ∈ wsG := tc_1 52 rfl rfl
theorem tw75 : (Cond.superclass "ProgramDesk$Machine" "java/lang/Object") ∈ wsG := tc_1 75 rfl rfl
theorem tw76 : (Cond.arrayClass Jvm.ClassFile.FieldType.int) ∈ wsG := tc_1 76 rfl rfl
theorem tw77 : (Cond.classLink "ProgramDesk" 16 "ProgramDesk$Draft") ∈ wsG := tc_1 77 rfl rfl
theorem tw78 : (Cond.instantiable "ProgramDesk$Draft" 12) ∈ wsG := tc_1 78 rfl rfl
theorem tw80 : (Cond.instanceMethod ({ cls := "ProgramDesk$Draft", name := "<init>", desc := "()V" } : Jvm.MethodName)) ∈ wsG := tc_1 80 rfl rfl
theorem tw81 : (Cond.code ({ cls := "ProgramDesk$Draft", name := "<init>", desc := "()V" } : Jvm.MethodName) prog_3_method_1_code 1 (Option.none : Option Jvm.ClassFile.FieldType)) ∈ wsG := tc_1 81 rfl rfl
theorem tw82 : (Cond.methodLink "ProgramDesk$Draft" 3 ({ cls := "java/lang/Object", name := "<init>", desc := "()V" } : Jvm.MethodName)) ∈ wsG := tc_1 82 rfl rfl
theorem tw83 : (Cond.classLink "ProgramDesk$Draft" 9 "ProgramDesk$Text") ∈ wsG := tc_1 83 rfl rfl
theorem tw84 : (Cond.instantiable "ProgramDesk$Text" 2) ∈ wsG := tc_1 84 rfl rfl
theorem tw86 : (Cond.instanceMethod ({ cls := "ProgramDesk$Text", name := "<init>", desc := "()V" } : Jvm.MethodName)) ∈ wsG := tc_1 86 rfl rfl
theorem tw87 : (Cond.code ({ cls := "ProgramDesk$Text", name := "<init>", desc := "()V" } : Jvm.MethodName) prog_8_method_1_code 1 (Option.none : Option Jvm.ClassFile.FieldType)) ∈ wsG := tc_1 87 rfl rfl
theorem tw88 : (Cond.methodLink "ProgramDesk$Text" 3 ({ cls := "java/lang/Object", name := "<init>", desc := "()V" } : Jvm.MethodName)) ∈ wsG := tc_1 88 rfl rfl
theorem tw89 : (Cond.fieldLink "ProgramDesk$Text" 9 "ProgramDesk$Text" "letters" "[C") ∈ wsG := tc_1 89 rfl rfl
theorem tw90 : (Cond.fieldLink "ProgramDesk$Tokens" 33 "ProgramDesk$Text" "letters" "[C") ∈ wsG := tc_1 90 rfl rfl
theorem tw91 : (Cond.fieldLink "ProgramDesk" 77 "ProgramDesk$Text" "letters" "[C") ∈ wsG := tc_1 91 rfl rfl
theorem tw92 : (Cond.fieldLink "ProgramDesk$Text" 15 "ProgramDesk$Text" "size" "I") ∈ wsG := tc_1 92 rfl rfl
theorem tw93 : (Cond.fieldLink "ProgramDesk$Tokens" 28 "ProgramDesk$Text" "size" "I") ∈ wsG := tc_1 93 rfl rfl
theorem tw94 : (Cond.fieldLink "ProgramDesk" 34 "ProgramDesk$Text" "size" "I") ∈ wsG := tc_1 94 rfl rfl
theorem tw95 : (Cond.fieldLink "ProgramDesk$Draft" 142 "ProgramDesk$Text" "size" "I") ∈ wsG := tc_1 95 rfl rfl
theorem tw100 : (Cond.superclass "ProgramDesk$Text" "java/lang/Object") ∈ wsG := tc_1 100 rfl rfl
theorem tw101 : (Cond.arrayClass Jvm.ClassFile.FieldType.char) ∈ wsG := tc_1 101 rfl rfl
theorem tw102 : (Cond.classLink "ProgramDesk$Draft" 18 "ProgramDesk$Tokens") ∈ wsG := tc_1 102 rfl rfl
theorem tw103 : (Cond.instantiable "ProgramDesk$Tokens" 5) ∈ wsG := tc_1 103 rfl rfl
theorem tw105 : (Cond.instanceMethod ({ cls := "ProgramDesk$Tokens", name := "<init>", desc := "()V" } : Jvm.MethodName)) ∈ wsG := tc_1 105 rfl rfl
theorem tw106 : (Cond.code ({ cls := "ProgramDesk$Tokens", name := "<init>", desc := "()V" } : Jvm.MethodName) prog_9_method_1_code 1 (Option.none : Option Jvm.ClassFile.FieldType)) ∈ wsG := tc_1 106 rfl rfl
theorem tw107 : (Cond.methodLink "ProgramDesk$Tokens" 3 ({ cls := "java/lang/Object", name := "<init>", desc := "()V" } : Jvm.MethodName)) ∈ wsG := tc_1 107 rfl rfl
theorem tw108 : (Cond.fieldLink "ProgramDesk$Tokens" 9 "ProgramDesk$Tokens" "kind" "[I") ∈ wsG := tc_1 108 rfl rfl
theorem tw109 : (Cond.fieldLink "ProgramDesk$Grammar" 100 "ProgramDesk$Tokens" "kind" "[I") ∈ wsG := tc_1 109 rfl rfl
theorem tw110 : (Cond.fieldLink "ProgramDesk" 96 "ProgramDesk$Tokens" "kind" "[I") ∈ wsG := tc_1 110 rfl rfl
theorem tw111 : (Cond.fieldLink "ProgramDesk$Tokens" 15 "ProgramDesk$Tokens" "sense" "[I") ∈ wsG := tc_1 111 rfl rfl
theorem tw112 : (Cond.fieldLink "ProgramDesk$Functions" 29 "ProgramDesk$Tokens" "sense" "[I") ∈ wsG := tc_1 112 rfl rfl
theorem tw113 : (Cond.fieldLink "ProgramDesk$Names" 61 "ProgramDesk$Tokens" "sense" "[I") ∈ wsG := tc_1 113 rfl rfl
theorem tw114 : (Cond.fieldLink "ProgramDesk$Machine" 106 "ProgramDesk$Tokens" "sense" "[I") ∈ wsG := tc_1 114 rfl rfl
theorem tw115 : (Cond.fieldLink "ProgramDesk$Grammar" 106 "ProgramDesk$Tokens" "sense" "[I") ∈ wsG := tc_1 115 rfl rfl
theorem tw116 : (Cond.fieldLink "ProgramDesk" 130 "ProgramDesk$Tokens" "sense" "[I") ∈ wsG := tc_1 116 rfl rfl
theorem tw117 : (Cond.fieldLink "ProgramDesk$Tokens" 18 "ProgramDesk$Tokens" "start" "[I") ∈ wsG := tc_1 117 rfl rfl
theorem tw118 : (Cond.fieldLink "ProgramDesk$Draft" 114 "ProgramDesk$Tokens" "start" "[I") ∈ wsG := tc_1 118 rfl rfl
theorem tw119 : (Cond.fieldLink "ProgramDesk" 99 "ProgramDesk$Tokens" "start" "[I") ∈ wsG := tc_1 119 rfl rfl
theorem tw120 : (Cond.fieldLink "ProgramDesk$Tokens" 21 "ProgramDesk$Tokens" "end" "[I") ∈ wsG := tc_1 120 rfl rfl
theorem tw121 : (Cond.fieldLink "ProgramDesk$Draft" 117 "ProgramDesk$Tokens" "end" "[I") ∈ wsG := tc_1 121 rfl rfl
theorem tw122 : (Cond.fieldLink "ProgramDesk" 102 "ProgramDesk$Tokens" "end" "[I") ∈ wsG := tc_1 122 rfl rfl
theorem tw123 : (Cond.fieldLink "ProgramDesk$Tokens" 24 "ProgramDesk$Tokens" "count" "I") ∈ wsG := tc_1 123 rfl rfl
theorem tw124 : (Cond.fieldLink "ProgramDesk$Names" 41 "ProgramDesk$Tokens" "count" "I") ∈ wsG := tc_1 124 rfl rfl
theorem tw125 : (Cond.fieldLink "ProgramDesk$Draft" 106 "ProgramDesk$Tokens" "count" "I") ∈ wsG := tc_1 125 rfl rfl
theorem tw126 : (Cond.fieldLink "ProgramDesk" 88 "ProgramDesk$Tokens" "count" "I") ∈ wsG := tc_1 126 rfl rfl
theorem tw137 : (Cond.superclass "ProgramDesk$Tokens" "java/lang/Object") ∈ wsG := tc_1 137 rfl rfl
theorem tw138 : (Cond.classLink "ProgramDesk$Draft" 25 "ProgramDesk$Functions") ∈ wsG := tc_1 138 rfl rfl
theorem tw139 : (Cond.instantiable "ProgramDesk$Functions" 5) ∈ wsG := tc_1 139 rfl rfl
theorem tw140 : (Cond.methodLink "ProgramDesk$Draft" 27 ({ cls := "ProgramDesk$Functions", name := "<init>", desc := "(LProgramDesk$Tokens;)V" } : Jvm.MethodName)) ∈ wsG := tc_1 140 rfl rfl
theorem tw141 : (Cond.instanceMethod ({ cls := "ProgramDesk$Functions", name := "<init>", desc := "(LProgramDesk$Tokens;)V" } : Jvm.MethodName)) ∈ wsG := tc_1 141 rfl rfl
theorem tw142 : (Cond.code ({ cls := "ProgramDesk$Functions", name := "<init>", desc := "(LProgramDesk$Tokens;)V" } : Jvm.MethodName) prog_4_method_1_code 2 (Option.none : Option Jvm.ClassFile.FieldType)) ∈ wsG := tc_1 142 rfl rfl
theorem tw143 : (Cond.methodLink "ProgramDesk$Functions" 3 ({ cls := "java/lang/Object", name := "<init>", desc := "()V" } : Jvm.MethodName)) ∈ wsG := tc_1 143 rfl rfl
theorem tw144 : (Cond.fieldLink "ProgramDesk$Functions" 11 "ProgramDesk$Functions" "name" "[I") ∈ wsG := tc_1 144 rfl rfl
theorem tw145 : (Cond.fieldLink "ProgramDesk$Names" 76 "ProgramDesk$Functions" "name" "[I") ∈ wsG := tc_1 145 rfl rfl
theorem tw146 : (Cond.fieldLink "ProgramDesk$Machine" 126 "ProgramDesk$Functions" "name" "[I") ∈ wsG := tc_1 146 rfl rfl
theorem tw147 : (Cond.fieldLink "ProgramDesk$Functions" 15 "ProgramDesk$Functions" "parameters" "[I") ∈ wsG := tc_1 147 rfl rfl
theorem tw148 : (Cond.fieldLink "ProgramDesk$Machine" 49 "ProgramDesk$Functions" "parameters" "[I") ∈ wsG := tc_1 148 rfl rfl
theorem tw149 : (Cond.fieldLink "ProgramDesk$Names" 79 "ProgramDesk$Functions" "parameters" "[I") ∈ wsG := tc_1 149 rfl rfl
theorem tw150 : (Cond.fieldLink "ProgramDesk$Functions" 18 "ProgramDesk$Functions" "entry" "[I") ∈ wsG := tc_1 150 rfl rfl
theorem tw151 : (Cond.fieldLink "ProgramDesk$Machine" 129 "ProgramDesk$Functions" "entry" "[I") ∈ wsG := tc_1 151 rfl rfl
theorem tw152 : (Cond.fieldLink "ProgramDesk$Functions" 25 "ProgramDesk$Functions" "count" "I") ∈ wsG := tc_1 152 rfl rfl
theorem tw153 : (Cond.fieldLink "ProgramDesk$Draft" 80 "ProgramDesk$Functions" "count" "I") ∈ wsG := tc_1 153 rfl rfl
theorem tw154 : (Cond.fieldLink "ProgramDesk$Functions" 21 "ProgramDesk$Functions" "tokens" "LProgramDesk$Tokens;") ∈ wsG := tc_1 154 rfl rfl
theorem tw165 : (Cond.superclass "ProgramDesk$Functions" "java/lang/Object") ∈ wsG := tc_1 165 rfl rfl
theorem tw166 : (Cond.classLink "ProgramDesk$Draft" 34 "ProgramDesk$Names") ∈ wsG := tc_1 166 rfl rfl
theorem tw167 : (Cond.instantiable "ProgramDesk$Names" 9) ∈ wsG := tc_1 167 rfl rfl
theorem tw168 : (Cond.methodLink "ProgramDesk$Draft" 36 ({ cls := "ProgramDesk$Names", name := "<init>", desc := "(LProgramDesk$Tokens;LProgramDesk$Functions;)V" } : Jvm.MethodName)) ∈ wsG := tc_1 168 rfl rfl
theorem tw169 : (Cond.instanceMethod ({ cls := "ProgramDesk$Names", name := "<init>", desc := "(LProgramDesk$Tokens;LProgramDesk$Functions;)V" } : Jvm.MethodName)) ∈ wsG := tc_1 169 rfl rfl
theorem tw170 : (Cond.code ({ cls := "ProgramDesk$Names", name := "<init>", desc := "(LProgramDesk$Tokens;LProgramDesk$Functions;)V" } : Jvm.MethodName) prog_7_method_1_code 3 (Option.none : Option Jvm.ClassFile.FieldType)) ∈ wsG := tc_1 170 rfl rfl
theorem tw171 : (Cond.methodLink "ProgramDesk$Names" 3 ({ cls := "java/lang/Object", name := "<init>", desc := "()V" } : Jvm.MethodName)) ∈ wsG := tc_1 171 rfl rfl
theorem tw172 : (Cond.fieldLink "ProgramDesk$Names" 9 "ProgramDesk$Names" "role" "[I") ∈ wsG := tc_1 172 rfl rfl
theorem tw173 : (Cond.fieldLink "ProgramDesk$Grammar" 132 "ProgramDesk$Names" "role" "[I") ∈ wsG := tc_1 173 rfl rfl
theorem tw174 : (Cond.fieldLink "ProgramDesk" 147 "ProgramDesk$Names" "role" "[I") ∈ wsG := tc_1 174 rfl rfl
theorem tw175 : (Cond.fieldLink "ProgramDesk$Names" 15 "ProgramDesk$Names" "bound" "[I") ∈ wsG := tc_1 175 rfl rfl
theorem tw176 : (Cond.fieldLink "ProgramDesk$Machine" 89 "ProgramDesk$Names" "bound" "[I") ∈ wsG := tc_1 176 rfl rfl
theorem tw177 : (Cond.fieldLink "ProgramDesk$Draft" 133 "ProgramDesk$Names" "bound" "[I") ∈ wsG := tc_1 177 rfl rfl
theorem tw178 : (Cond.fieldLink "ProgramDesk" 109 "ProgramDesk$Names" "bound" "[I") ∈ wsG := tc_1 178 rfl rfl
theorem tw179 : (Cond.fieldLink "ProgramDesk$Names" 18 "ProgramDesk$Names" "wrong" "[I") ∈ wsG := tc_1 179 rfl rfl
theorem tw180 : (Cond.fieldLink "ProgramDesk$Draft" 127 "ProgramDesk$Names" "wrong" "[I") ∈ wsG := tc_1 180 rfl rfl
theorem tw181 : (Cond.fieldLink "ProgramDesk$Names" 21 "ProgramDesk$Names" "scope" "[I") ∈ wsG := tc_1 181 rfl rfl
theorem tw182 : (Cond.fieldLink "ProgramDesk$Grammar" 91 "ProgramDesk$Names" "scope" "[I") ∈ wsG := tc_1 182 rfl rfl
theorem tw183 : (Cond.fieldLink "ProgramDesk$Names" 24 "ProgramDesk$Names" "from" "[I") ∈ wsG := tc_1 183 rfl rfl
theorem tw184 : (Cond.fieldLink "ProgramDesk$Grammar" 94 "ProgramDesk$Names" "from" "[I") ∈ wsG := tc_1 184 rfl rfl
theorem tw185 : (Cond.fieldLink "ProgramDesk$Names" 27 "ProgramDesk$Names" "until" "[I") ∈ wsG := tc_1 185 rfl rfl
theorem tw186 : (Cond.fieldLink "ProgramDesk$Grammar" 88 "ProgramDesk$Names" "until" "[I") ∈ wsG := tc_1 186 rfl rfl
theorem tw187 : (Cond.fieldLink "ProgramDesk$Names" 30 "ProgramDesk$Names" "sent" "[I") ∈ wsG := tc_1 187 rfl rfl
theorem tw188 : (Cond.fieldLink "ProgramDesk$Grammar" 135 "ProgramDesk$Names" "sent" "[I") ∈ wsG := tc_1 188 rfl rfl
theorem tw189 : (Cond.fieldLink "ProgramDesk$Names" 33 "ProgramDesk$Names" "tokens" "LProgramDesk$Tokens;") ∈ wsG := tc_1 189 rfl rfl
theorem tw190 : (Cond.fieldLink "ProgramDesk$Names" 37 "ProgramDesk$Names" "functions" "LProgramDesk$Functions;") ∈ wsG := tc_1 190 rfl rfl
theorem tw209 : (Cond.superclass "ProgramDesk$Names" "java/lang/Object") ∈ wsG := tc_1 209 rfl rfl
theorem tw210 : (Cond.classLink "ProgramDesk$Draft" 43 "ProgramDesk$Code") ∈ wsG := tc_1 210 rfl rfl
theorem tw211 : (Cond.instantiable "ProgramDesk$Code" 3) ∈ wsG := tc_1 211 rfl rfl
theorem tw213 : (Cond.instanceMethod ({ cls := "ProgramDesk$Code", name := "<init>", desc := "()V" } : Jvm.MethodName)) ∈ wsG := tc_1 213 rfl rfl
theorem tw214 : (Cond.code ({ cls := "ProgramDesk$Code", name := "<init>", desc := "()V" } : Jvm.MethodName) prog_2_method_1_code 1 (Option.none : Option Jvm.ClassFile.FieldType)) ∈ wsG := tc_1 214 rfl rfl
theorem tw215 : (Cond.methodLink "ProgramDesk$Code" 3 ({ cls := "java/lang/Object", name := "<init>", desc := "()V" } : Jvm.MethodName)) ∈ wsG := tc_1 215 rfl rfl
theorem tw216 : (Cond.fieldLink "ProgramDesk$Code" 9 "ProgramDesk$Code" "operation" "[I") ∈ wsG := tc_1 216 rfl rfl
theorem tw217 : (Cond.fieldLink "ProgramDesk$Machine" 75 "ProgramDesk$Code" "operation" "[I") ∈ wsG := tc_1 217 rfl rfl
theorem tw218 : (Cond.fieldLink "ProgramDesk$Code" 15 "ProgramDesk$Code" "operand" "[I") ∈ wsG := tc_1 218 rfl rfl
theorem tw219 : (Cond.fieldLink "ProgramDesk$Machine" 78 "ProgramDesk$Code" "operand" "[I") ∈ wsG := tc_1 219 rfl rfl
theorem tw220 : (Cond.fieldLink "ProgramDesk$Code" 18 "ProgramDesk$Code" "count" "I") ∈ wsG := tc_1 220 rfl rfl
theorem tw221 : (Cond.fieldLink "ProgramDesk$Grammar" 47 "ProgramDesk$Code" "count" "I") ∈ wsG := tc_1 221 rfl rfl
theorem tw222 : (Cond.fieldLink "ProgramDesk$Draft" 84 "ProgramDesk$Code" "count" "I") ∈ wsG := tc_1 222 rfl rfl
theorem tw223 : (Cond.fieldLink "ProgramDesk$Machine" 70 "ProgramDesk$Code" "count" "I") ∈ wsG := tc_1 223 rfl rfl
theorem tw230 : (Cond.superclass "ProgramDesk$Code" "java/lang/Object") ∈ wsG := tc_1 230 rfl rfl
theorem tw231 : (Cond.classLink "ProgramDesk$Draft" 50 "ProgramDesk$Grammar") ∈ wsG := tc_1 231 rfl rfl
theorem tw232 : (Cond.instantiable "ProgramDesk$Grammar" 10) ∈ wsG := tc_1 232 rfl rfl
theorem tw233 : (Cond.methodLink "ProgramDesk$Draft" 52 ({ cls := "ProgramDesk$Grammar", name := "<init>", desc := "(LProgramDesk$Tokens;LProgramDesk$Names;LProgramDesk$Functions;LProgramDesk$Code;)V" } : Jvm.MethodName)) ∈ wsG := tc_1 233 rfl rfl
theorem tw234 : (Cond.instanceMethod ({ cls := "ProgramDesk$Grammar", name := "<init>", desc := "(LProgramDesk$Tokens;LProgramDesk$Names;LProgramDesk$Functions;LProgramDesk$Code;)V" } : Jvm.MethodName)) ∈ wsG := tc_1 234 rfl rfl
theorem tw235 : (Cond.code ({ cls := "ProgramDesk$Grammar", name := "<init>", desc := "(LProgramDesk$Tokens;LProgramDesk$Names;LProgramDesk$Functions;LProgramDesk$Code;)V" } : Jvm.MethodName) prog_5_method_1_code 5 (Option.none : Option Jvm.ClassFile.FieldType)) ∈ wsG := tc_1 235 rfl rfl
theorem tw236 : (Cond.methodLink "ProgramDesk$Grammar" 3 ({ cls := "java/lang/Object", name := "<init>", desc := "()V" } : Jvm.MethodName)) ∈ wsG := tc_1 236 rfl rfl
theorem tw237 : (Cond.fieldLink "ProgramDesk$Grammar" 37 "ProgramDesk$Grammar" "next" "I") ∈ wsG := tc_1 237 rfl rfl
theorem tw238 : (Cond.fieldLink "ProgramDesk$Draft" 111 "ProgramDesk$Grammar" "next" "I") ∈ wsG := tc_1 238 rfl rfl
theorem tw239 : (Cond.fieldLink "ProgramDesk$Grammar" 41 "ProgramDesk$Grammar" "limit" "I") ∈ wsG := tc_1 239 rfl rfl
theorem tw240 : (Cond.fieldLink "ProgramDesk$Grammar" 44 "ProgramDesk$Grammar" "blocks" "I") ∈ wsG := tc_2 0 rfl rfl
theorem tw241 : (Cond.fieldLink "ProgramDesk$Grammar" 11 "ProgramDesk$Grammar" "opener" "[I") ∈ wsG := tc_2 1 rfl rfl
theorem tw242 : (Cond.fieldLink "ProgramDesk$Grammar" 15 "ProgramDesk$Grammar" "test" "[I") ∈ wsG := tc_2 2 rfl rfl
theorem tw243 : (Cond.fieldLink "ProgramDesk$Grammar" 18 "ProgramDesk$Grammar" "again" "[I") ∈ wsG := tc_2 3 rfl rfl
theorem tw244 : (Cond.fieldLink "ProgramDesk$Grammar" 21 "ProgramDesk$Grammar" "tokens" "LProgramDesk$Tokens;") ∈ wsG := tc_2 4 rfl rfl
theorem tw245 : (Cond.fieldLink "ProgramDesk$Grammar" 25 "ProgramDesk$Grammar" "names" "LProgramDesk$Names;") ∈ wsG := tc_2 5 rfl rfl
theorem tw246 : (Cond.fieldLink "ProgramDesk$Grammar" 29 "ProgramDesk$Grammar" "functions" "LProgramDesk$Functions;") ∈ wsG := tc_2 6 rfl rfl
theorem tw247 : (Cond.fieldLink "ProgramDesk$Grammar" 33 "ProgramDesk$Grammar" "code" "LProgramDesk$Code;") ∈ wsG := tc_2 7 rfl rfl
theorem tw268 : (Cond.superclass "ProgramDesk$Grammar" "java/lang/Object") ∈ wsG := tc_2 28 rfl rfl
theorem tw269 : (Cond.fieldLink "ProgramDesk$Draft" 12 "ProgramDesk$Draft" "text" "LProgramDesk$Text;") ∈ wsG := tc_2 29 rfl rfl
theorem tw270 : (Cond.fieldLink "ProgramDesk" 30 "ProgramDesk$Draft" "text" "LProgramDesk$Text;") ∈ wsG := tc_2 30 rfl rfl
theorem tw271 : (Cond.fieldLink "ProgramDesk$Draft" 21 "ProgramDesk$Draft" "tokens" "LProgramDesk$Tokens;") ∈ wsG := tc_2 31 rfl rfl
theorem tw272 : (Cond.fieldLink "ProgramDesk$Machine" 102 "ProgramDesk$Draft" "tokens" "LProgramDesk$Tokens;") ∈ wsG := tc_2 32 rfl rfl
theorem tw273 : (Cond.fieldLink "ProgramDesk" 84 "ProgramDesk$Draft" "tokens" "LProgramDesk$Tokens;") ∈ wsG := tc_2 33 rfl rfl
theorem tw274 : (Cond.fieldLink "ProgramDesk$Draft" 30 "ProgramDesk$Draft" "functions" "LProgramDesk$Functions;") ∈ wsG := tc_2 34 rfl rfl
theorem tw275 : (Cond.fieldLink "ProgramDesk$Machine" 43 "ProgramDesk$Draft" "functions" "LProgramDesk$Functions;") ∈ wsG := tc_2 35 rfl rfl
theorem tw276 : (Cond.fieldLink "ProgramDesk" 168 "ProgramDesk$Draft" "functions" "LProgramDesk$Functions;") ∈ wsG := tc_2 36 rfl rfl
theorem tw277 : (Cond.fieldLink "ProgramDesk$Draft" 39 "ProgramDesk$Draft" "names" "LProgramDesk$Names;") ∈ wsG := tc_2 37 rfl rfl
theorem tw278 : (Cond.fieldLink "ProgramDesk$Machine" 85 "ProgramDesk$Draft" "names" "LProgramDesk$Names;") ∈ wsG := tc_2 38 rfl rfl
theorem tw279 : (Cond.fieldLink "ProgramDesk" 105 "ProgramDesk$Draft" "names" "LProgramDesk$Names;") ∈ wsG := tc_2 39 rfl rfl
theorem tw280 : (Cond.fieldLink "ProgramDesk$Draft" 46 "ProgramDesk$Draft" "code" "LProgramDesk$Code;") ∈ wsG := tc_2 40 rfl rfl
theorem tw281 : (Cond.fieldLink "ProgramDesk$Machine" 66 "ProgramDesk$Draft" "code" "LProgramDesk$Code;") ∈ wsG := tc_2 41 rfl rfl
theorem tw282 : (Cond.fieldLink "ProgramDesk$Draft" 55 "ProgramDesk$Draft" "grammar" "LProgramDesk$Grammar;") ∈ wsG := tc_2 42 rfl rfl
theorem tw283 : (Cond.fieldLink "ProgramDesk$Draft" 59 "ProgramDesk$Draft" "part" "[I") ∈ wsG := tc_2 43 rfl rfl
theorem tw284 : (Cond.fieldLink "ProgramDesk$Draft" 63 "ProgramDesk$Draft" "broken" "[I") ∈ wsG := tc_2 44 rfl rfl
theorem tw285 : (Cond.fieldLink "ProgramDesk$Draft" 88 "ProgramDesk$Draft" "parts" "I") ∈ wsG := tc_2 45 rfl rfl
theorem tw286 : (Cond.fieldLink "ProgramDesk$Draft" 66 "ProgramDesk$Draft" "faultRow" "[I") ∈ wsG := tc_2 46 rfl rfl
theorem tw287 : (Cond.fieldLink "ProgramDesk" 117 "ProgramDesk$Draft" "faultRow" "[I") ∈ wsG := tc_2 47 rfl rfl
theorem tw288 : (Cond.fieldLink "ProgramDesk$Draft" 99 "ProgramDesk$Draft" "faultCount" "I") ∈ wsG := tc_2 48 rfl rfl
theorem tw289 : (Cond.fieldLink "ProgramDesk" 114 "ProgramDesk$Draft" "faultCount" "I") ∈ wsG := tc_2 49 rfl rfl
theorem tw290 : (Cond.fieldLink "ProgramDesk$Draft" 69 "ProgramDesk$Draft" "fresh" "Z") ∈ wsG := tc_2 50 rfl rfl
theorem tw291 : (Cond.fieldLink "ProgramDesk" 44 "ProgramDesk$Draft" "fresh" "Z") ∈ wsG := tc_2 51 rfl rfl
theorem tw316 : (Cond.superclass "ProgramDesk$Draft" "java/lang/Object") ∈ wsG := tc_2 76 rfl rfl
theorem tw317 : (Cond.fieldLink "ProgramDesk" 10 "ProgramDesk" "machine" "LProgramDesk$Machine;") ∈ wsG := tc_2 77 rfl rfl
theorem tw318 : (Cond.fieldLink "ProgramDesk" 19 "ProgramDesk" "draft" "LProgramDesk$Draft;") ∈ wsG := tc_2 78 rfl rfl
theorem tw319 : (Cond.fieldLink "ProgramDesk" 23 "ProgramDesk" "trial" "LProgramDesk$Draft;") ∈ wsG := tc_2 79 rfl rfl
theorem tw326 : (Cond.superclass "ProgramDesk" "java/lang/Object") ∈ wsG := tc_2 86 rfl rfl
theorem tw327 : (Cond.methodLink "ProgramDeskLaw" 59 ({ cls := "ProgramDesk", name := "type", desc := "(C)Z" } : Jvm.MethodName)) ∈ wsG := tc_2 87 rfl rfl
theorem tw328 : (Cond.instanceMethod ({ cls := "ProgramDesk", name := "type", desc := "(C)Z" } : Jvm.MethodName)) ∈ wsG := tc_2 88 rfl rfl
theorem tw329 : (Cond.selects "ProgramDesk" ({ cls := "ProgramDesk", name := "type", desc := "(C)Z" } : Jvm.MethodName) ({ cls := "ProgramDesk", name := "type", desc := "(C)Z" } : Jvm.MethodName)) ∈ wsG := tc_2 89 rfl rfl
theorem tw330 : (Cond.code ({ cls := "ProgramDesk", name := "type", desc := "(C)Z" } : Jvm.MethodName) prog_1_method_2_code 2 (Option.some Jvm.ClassFile.FieldType.boolean)) ∈ wsG := tc_2 90 rfl rfl
theorem tw331 : (Cond.methodLink "ProgramDesk" 26 ({ cls := "ProgramDesk", name := "isAllowed", desc := "(C)Z" } : Jvm.MethodName)) ∈ wsG := tc_2 91 rfl rfl
theorem tw332 : (Cond.static ({ cls := "ProgramDesk", name := "isAllowed", desc := "(C)Z" } : Jvm.MethodName)) ∈ wsG := tc_2 92 rfl rfl
theorem tw333 : (Cond.code ({ cls := "ProgramDesk", name := "isAllowed", desc := "(C)Z" } : Jvm.MethodName) prog_1_method_18_code 1 (Option.some Jvm.ClassFile.FieldType.boolean)) ∈ wsG := tc_2 93 rfl rfl
theorem tw334 : (Cond.methodLink "ProgramDesk" 40 ({ cls := "ProgramDesk$Text", name := "add", desc := "(C)V" } : Jvm.MethodName)) ∈ wsG := tc_2 94 rfl rfl
theorem tw335 : (Cond.instanceMethod ({ cls := "ProgramDesk$Text", name := "add", desc := "(C)V" } : Jvm.MethodName)) ∈ wsG := tc_2 95 rfl rfl
theorem tw336 : (Cond.selects "ProgramDesk$Text" ({ cls := "ProgramDesk$Text", name := "add", desc := "(C)V" } : Jvm.MethodName) ({ cls := "ProgramDesk$Text", name := "add", desc := "(C)V" } : Jvm.MethodName)) ∈ wsG := tc_2 96 rfl rfl
theorem tw337 : (Cond.code ({ cls := "ProgramDesk$Text", name := "add", desc := "(C)V" } : Jvm.MethodName) prog_8_method_2_code 2 (Option.none : Option Jvm.ClassFile.FieldType)) ∈ wsG := tc_2 97 rfl rfl
theorem tw338 : (Cond.methodLink "ProgramDeskLaw" 64 ({ cls := "ProgramDesk", name := "word", desc := "(I)Z" } : Jvm.MethodName)) ∈ wsG := tc_2 98 rfl rfl
theorem tw339 : (Cond.instanceMethod ({ cls := "ProgramDesk", name := "word", desc := "(I)Z" } : Jvm.MethodName)) ∈ wsG := tc_2 99 rfl rfl
theorem tw340 : (Cond.selects "ProgramDesk" ({ cls := "ProgramDesk", name := "word", desc := "(I)Z" } : Jvm.MethodName) ({ cls := "ProgramDesk", name := "word", desc := "(I)Z" } : Jvm.MethodName)) ∈ wsG := tc_2 100 rfl rfl
theorem tw341 : (Cond.code ({ cls := "ProgramDesk", name := "word", desc := "(I)Z" } : Jvm.MethodName) prog_1_method_3_code 2 (Option.some Jvm.ClassFile.FieldType.boolean)) ∈ wsG := tc_2 101 rfl rfl
theorem tw342 : (Cond.fieldLink "ProgramDesk" 48 "ProgramDesk" "WORDS" "[I") ∈ wsG := tc_2 102 rfl rfl
theorem tw344 : (Cond.methodLink "ProgramDesk" 52 ({ cls := "ProgramDesk", name := "lettersIn", desc := "(I)I" } : Jvm.MethodName)) ∈ wsG := tc_2 104 rfl rfl
theorem tw345 : (Cond.static ({ cls := "ProgramDesk", name := "lettersIn", desc := "(I)I" } : Jvm.MethodName)) ∈ wsG := tc_2 105 rfl rfl
theorem tw346 : (Cond.code ({ cls := "ProgramDesk", name := "lettersIn", desc := "(I)I" } : Jvm.MethodName) prog_1_method_20_code 3 (Option.some Jvm.ClassFile.FieldType.int)) ∈ wsG := tc_2 106 rfl rfl
theorem tw347 : (Cond.methodLink "ProgramDesk" 56 ({ cls := "ProgramDesk$Text", name := "addName", desc := "(I)V" } : Jvm.MethodName)) ∈ wsG := tc_2 107 rfl rfl
theorem tw348 : (Cond.instanceMethod ({ cls := "ProgramDesk$Text", name := "addName", desc := "(I)V" } : Jvm.MethodName)) ∈ wsG := tc_2 108 rfl rfl
theorem tw349 : (Cond.selects "ProgramDesk$Text" ({ cls := "ProgramDesk$Text", name := "addName", desc := "(I)V" } : Jvm.MethodName) ({ cls := "ProgramDesk$Text", name := "addName", desc := "(I)V" } : Jvm.MethodName)) ∈ wsG := tc_2 109 rfl rfl
theorem tw350 : (Cond.code ({ cls := "ProgramDesk$Text", name := "addName", desc := "(I)V" } : Jvm.MethodName) prog_8_method_3_code 3 (Option.none : Option Jvm.ClassFile.FieldType)) ∈ wsG := tc_2 110 rfl rfl
theorem tw351 : (Cond.methodLink "ProgramDesk$Text" 19 ({ cls := "ProgramDesk$Text", name := "add", desc := "(C)V" } : Jvm.MethodName)) ∈ wsG := tc_2 111 rfl rfl
theorem tw352 : (Cond.methodLink "ProgramDeskLaw" 83 ({ cls := "ProgramDesk", name := "length", desc := "()I" } : Jvm.MethodName)) ∈ wsG := tc_2 112 rfl rfl
theorem tw353 : (Cond.instanceMethod ({ cls := "ProgramDesk", name := "length", desc := "()I" } : Jvm.MethodName)) ∈ wsG := tc_2 113 rfl rfl
theorem tw354 : (Cond.selects "ProgramDesk" ({ cls := "ProgramDesk", name := "length", desc := "()I" } : Jvm.MethodName) ({ cls := "ProgramDesk", name := "length", desc := "()I" } : Jvm.MethodName)) ∈ wsG := tc_2 114 rfl rfl
theorem tw355 : (Cond.code ({ cls := "ProgramDesk", name := "length", desc := "()I" } : Jvm.MethodName) prog_1_method_6_code 1 (Option.some Jvm.ClassFile.FieldType.int)) ∈ wsG := tc_2 115 rfl rfl
theorem tw356 : (Cond.methodLink "ProgramDeskLaw" 91 ({ cls := "ProgramDesk", name := "tokens", desc := "()I" } : Jvm.MethodName)) ∈ wsG := tc_2 116 rfl rfl
theorem tw357 : (Cond.instanceMethod ({ cls := "ProgramDesk", name := "tokens", desc := "()I" } : Jvm.MethodName)) ∈ wsG := tc_2 117 rfl rfl
theorem tw358 : (Cond.selects "ProgramDesk" ({ cls := "ProgramDesk", name := "tokens", desc := "()I" } : Jvm.MethodName) ({ cls := "ProgramDesk", name := "tokens", desc := "()I" } : Jvm.MethodName)) ∈ wsG := tc_2 118 rfl rfl
theorem tw359 : (Cond.code ({ cls := "ProgramDesk", name := "tokens", desc := "()I" } : Jvm.MethodName) prog_1_method_8_code 1 (Option.some Jvm.ClassFile.FieldType.int)) ∈ wsG := tc_2 119 rfl rfl
theorem tw360 : (Cond.methodLink "ProgramDesk" 81 ({ cls := "ProgramDesk$Draft", name := "refresh", desc := "()V" } : Jvm.MethodName)) ∈ wsG := tc_2 120 rfl rfl
theorem tw361 : (Cond.instanceMethod ({ cls := "ProgramDesk$Draft", name := "refresh", desc := "()V" } : Jvm.MethodName)) ∈ wsG := tc_2 121 rfl rfl
theorem tw362 : (Cond.selects "ProgramDesk$Draft" ({ cls := "ProgramDesk$Draft", name := "refresh", desc := "()V" } : Jvm.MethodName) ({ cls := "ProgramDesk$Draft", name := "refresh", desc := "()V" } : Jvm.MethodName)) ∈ wsG := tc_2 122 rfl rfl
theorem tw363 : (Cond.code ({ cls := "ProgramDesk$Draft", name := "refresh", desc := "()V" } : Jvm.MethodName) prog_3_method_2_code 3 (Option.none : Option Jvm.ClassFile.FieldType)) ∈ wsG := tc_2 123 rfl rfl
theorem tw364 : (Cond.methodLink "ProgramDesk$Draft" 73 ({ cls := "ProgramDesk$Tokens", name := "readFrom", desc := "(LProgramDesk$Text;)V" } : Jvm.MethodName)) ∈ wsG := tc_2 124 rfl rfl
theorem tw365 : (Cond.instanceMethod ({ cls := "ProgramDesk$Tokens", name := "readFrom", desc := "(LProgramDesk$Text;)V" } : Jvm.MethodName)) ∈ wsG := tc_2 125 rfl rfl
theorem tw366 : (Cond.selects "ProgramDesk$Tokens" ({ cls := "ProgramDesk$Tokens", name := "readFrom", desc := "(LProgramDesk$Text;)V" } : Jvm.MethodName) ({ cls := "ProgramDesk$Tokens", name := "readFrom", desc := "(LProgramDesk$Text;)V" } : Jvm.MethodName)) ∈ wsG := tc_2 126 rfl rfl
theorem tw367 : (Cond.code ({ cls := "ProgramDesk$Tokens", name := "readFrom", desc := "(LProgramDesk$Text;)V" } : Jvm.MethodName) prog_9_method_2_code 6 (Option.none : Option Jvm.ClassFile.FieldType)) ∈ wsG := tc_2 127 rfl rfl
theorem tw368 : (Cond.methodLink "ProgramDesk$Tokens" 37 ({ cls := "ProgramDesk$Tokens", name := "groupOf", desc := "(C)I" } : Jvm.MethodName)) ∈ wsG := tc_2 128 rfl rfl
theorem tw369 : (Cond.static ({ cls := "ProgramDesk$Tokens", name := "groupOf", desc := "(C)I" } : Jvm.MethodName)) ∈ wsG := tc_2 129 rfl rfl
theorem tw370 : (Cond.code ({ cls := "ProgramDesk$Tokens", name := "groupOf", desc := "(C)I" } : Jvm.MethodName) prog_9_method_5_code 1 (Option.some Jvm.ClassFile.FieldType.int)) ∈ wsG := tc_2 130 rfl rfl
theorem tw372 : (Cond.methodLink "ProgramDesk$Tokens" 55 ({ cls := "java/lang/String", name := "indexOf", desc := "(I)I" } : Jvm.MethodName)) ∈ wsG := tc_2 132 rfl rfl
theorem tw373 : (Cond.instanceMethod ({ cls := "java/lang/String", name := "indexOf", desc := "(I)I" } : Jvm.MethodName)) ∈ wsG := tc_2 133 rfl rfl
theorem tw374 : (Cond.selects "java/lang/String" ({ cls := "java/lang/String", name := "indexOf", desc := "(I)I" } : Jvm.MethodName) ({ cls := "java/lang/String", name := "indexOf", desc := "(I)I" } : Jvm.MethodName)) ∈ wsG := tc_2 134 rfl rfl
theorem tw375 : (Cond.code ({ cls := "java/lang/String", name := "indexOf", desc := "(I)I" } : Jvm.MethodName) prog_19_method_79_code 2 (Option.some Jvm.ClassFile.FieldType.int)) ∈ wsG := tc_2 135 rfl rfl
theorem tw376 : (Cond.methodLink "java/lang/String" 633 ({ cls := "java/lang/String", name := "indexOf", desc := "(II)I" } : Jvm.MethodName)) ∈ wsG := tc_2 136 rfl rfl
theorem tw377 : (Cond.instanceMethod ({ cls := "java/lang/String", name := "indexOf", desc := "(II)I" } : Jvm.MethodName)) ∈ wsG := tc_2 137 rfl rfl
theorem tw378 : (Cond.selects "java/lang/String" ({ cls := "java/lang/String", name := "indexOf", desc := "(II)I" } : Jvm.MethodName) ({ cls := "java/lang/String", name := "indexOf", desc := "(II)I" } : Jvm.MethodName)) ∈ wsG := tc_2 138 rfl rfl
theorem tw379 : (Cond.code ({ cls := "java/lang/String", name := "indexOf", desc := "(II)I" } : Jvm.MethodName) prog_19_method_80_code 3 (Option.some Jvm.ClassFile.FieldType.int)) ∈ wsG := tc_2 139 rfl rfl
theorem tw380 : (Cond.methodLink "java/lang/String" 492 ({ cls := "java/lang/String", name := "isLatin1", desc := "()Z" } : Jvm.MethodName)) ∈ wsG := tc_2 140 rfl rfl
theorem tw381 : (Cond.instanceMethod ({ cls := "java/lang/String", name := "isLatin1", desc := "()Z" } : Jvm.MethodName)) ∈ wsG := tc_2 141 rfl rfl
theorem tw382 : (Cond.selects "java/lang/String" ({ cls := "java/lang/String", name := "isLatin1", desc := "()Z" } : Jvm.MethodName) ({ cls := "java/lang/String", name := "isLatin1", desc := "()Z" } : Jvm.MethodName)) ∈ wsG := tc_2 142 rfl rfl
theorem tw383 : (Cond.code ({ cls := "java/lang/String", name := "isLatin1", desc := "()Z" } : Jvm.MethodName) prog_19_method_154_code 1 (Option.some Jvm.ClassFile.FieldType.boolean)) ∈ wsG := tc_2 143 rfl rfl
theorem tw384 : (Cond.fieldLink "java/lang/String" 38 "java/lang/String" "COMPACT_STRINGS" "Z") ∈ wsG := tc_2 144 rfl rfl
theorem tw386 : (Cond.methodLink "java/lang/String" 505 ({ cls := "java/lang/String", name := "length", desc := "()I" } : Jvm.MethodName)) ∈ wsG := tc_2 146 rfl rfl
theorem tw387 : (Cond.instanceMethod ({ cls := "java/lang/String", name := "length", desc := "()I" } : Jvm.MethodName)) ∈ wsG := tc_2 147 rfl rfl
theorem tw388 : (Cond.selects "java/lang/String" ({ cls := "java/lang/String", name := "length", desc := "()I" } : Jvm.MethodName) ({ cls := "java/lang/String", name := "length", desc := "()I" } : Jvm.MethodName)) ∈ wsG := tc_2 148 rfl rfl
theorem tw389 : (Cond.code ({ cls := "java/lang/String", name := "length", desc := "()I" } : Jvm.MethodName) prog_19_method_54_code 1 (Option.some Jvm.ClassFile.FieldType.int)) ∈ wsG := tc_2 149 rfl rfl
theorem tw390 : (Cond.methodLink "java/lang/String" 335 ({ cls := "java/lang/String", name := "coder", desc := "()B" } : Jvm.MethodName)) ∈ wsG := tc_2 150 rfl rfl
theorem tw391 : (Cond.instanceMethod ({ cls := "java/lang/String", name := "coder", desc := "()B" } : Jvm.MethodName)) ∈ wsG := tc_2 151 rfl rfl
theorem tw392 : (Cond.selects "java/lang/String" ({ cls := "java/lang/String", name := "coder", desc := "()B" } : Jvm.MethodName) ({ cls := "java/lang/String", name := "coder", desc := "()B" } : Jvm.MethodName)) ∈ wsG := tc_2 152 rfl rfl
theorem tw393 : (Cond.code ({ cls := "java/lang/String", name := "coder", desc := "()B" } : Jvm.MethodName) prog_19_method_152_code 1 (Option.some Jvm.ClassFile.FieldType.byte)) ∈ wsG := tc_2 153 rfl rfl
theorem tw394 : (Cond.methodLink "java/lang/String" 637 ({ cls := "java/lang/StringLatin1", name := "indexOf", desc := "([BIII)I" } : Jvm.MethodName)) ∈ wsG := tc_2 154 rfl rfl
theorem tw395 : (Cond.static ({ cls := "java/lang/StringLatin1", name := "indexOf", desc := "([BIII)I" } : Jvm.MethodName)) ∈ wsG := tc_2 155 rfl rfl
theorem tw396 : (Cond.code ({ cls := "java/lang/StringLatin1", name := "indexOf", desc := "([BIII)I" } : Jvm.MethodName) prog_20_method_22_code 4 (Option.some Jvm.ClassFile.FieldType.int)) ∈ wsG := tc_2 156 rfl rfl
theorem tw397 : (Cond.methodLink "java/lang/StringLatin1" 88 ({ cls := "java/lang/StringLatin1", name := "canEncode", desc := "(I)Z" } : Jvm.MethodName)) ∈ wsG := tc_2 157 rfl rfl
theorem tw398 : (Cond.static ({ cls := "java/lang/StringLatin1", name := "canEncode", desc := "(I)Z" } : Jvm.MethodName)) ∈ wsG := tc_2 158 rfl rfl
theorem tw399 : (Cond.code ({ cls := "java/lang/StringLatin1", name := "canEncode", desc := "(I)Z" } : Jvm.MethodName) prog_20_method_4_code 1 (Option.some Jvm.ClassFile.FieldType.boolean)) ∈ wsG := tc_2 159 rfl rfl
theorem tw400 : (Cond.methodLink "java/lang/StringLatin1" 92 ({ cls := "java/lang/Math", name := "max", desc := "(II)I" } : Jvm.MethodName)) ∈ wsG := tc_2 160 rfl rfl
theorem tw401 : (Cond.static ({ cls := "java/lang/Math", name := "max", desc := "(II)I" } : Jvm.MethodName)) ∈ wsG := tc_2 161 rfl rfl
theorem tw402 : (Cond.code ({ cls := "java/lang/Math", name := "max", desc := "(II)I" } : Jvm.MethodName) prog_17_method_65_code 2 (Option.some Jvm.ClassFile.FieldType.int)) ∈ wsG := tc_2 162 rfl rfl
theorem tw403 : (Cond.methodLink "java/lang/StringLatin1" 38 ({ cls := "java/lang/Math", name := "min", desc := "(II)I" } : Jvm.MethodName)) ∈ wsG := tc_2 163 rfl rfl
theorem tw404 : (Cond.static ({ cls := "java/lang/Math", name := "min", desc := "(II)I" } : Jvm.MethodName)) ∈ wsG := tc_2 164 rfl rfl
theorem tw405 : (Cond.code ({ cls := "java/lang/Math", name := "min", desc := "(II)I" } : Jvm.MethodName) prog_17_method_69_code 2 (Option.some Jvm.ClassFile.FieldType.int)) ∈ wsG := tc_2 165 rfl rfl
theorem tw406 : (Cond.methodLink "java/lang/StringLatin1" 95 ({ cls := "java/lang/StringLatin1", name := "indexOfChar", desc := "([BIII)I" } : Jvm.MethodName)) ∈ wsG := tc_2 166 rfl rfl
theorem tw407 : (Cond.static ({ cls := "java/lang/StringLatin1", name := "indexOfChar", desc := "([BIII)I" } : Jvm.MethodName)) ∈ wsG := tc_2 167 rfl rfl
theorem tw408 : (Cond.code ({ cls := "java/lang/StringLatin1", name := "indexOfChar", desc := "([BIII)I" } : Jvm.MethodName) prog_20_method_23_code 6 (Option.some Jvm.ClassFile.FieldType.int)) ∈ wsG := tc_2 168 rfl rfl
theorem tw409 : (Cond.methodLink "java/lang/String" 640 ({ cls := "java/lang/StringUTF16", name := "indexOf", desc := "([BIII)I" } : Jvm.MethodName)) ∈ wsG := tc_2 169 rfl rfl
theorem tw410 : (Cond.static ({ cls := "java/lang/StringUTF16", name := "indexOf", desc := "([BIII)I" } : Jvm.MethodName)) ∈ wsG := tc_2 170 rfl rfl
theorem tw411 : (Cond.code ({ cls := "java/lang/StringUTF16", name := "indexOf", desc := "([BIII)I" } : Jvm.MethodName) prog_21_method_40_code 4 (Option.some Jvm.ClassFile.FieldType.int)) ∈ wsG := tc_2 171 rfl rfl
theorem tw412 : (Cond.methodLink "java/lang/StringUTF16" 224 ({ cls := "java/lang/Math", name := "max", desc := "(II)I" } : Jvm.MethodName)) ∈ wsG := tc_2 172 rfl rfl
theorem tw413 : (Cond.methodLink "java/lang/StringUTF16" 183 ({ cls := "java/lang/Math", name := "min", desc := "(II)I" } : Jvm.MethodName)) ∈ wsG := tc_2 173 rfl rfl
theorem tw414 : (Cond.constant "java/lang/StringUTF16" 227 65536) ∈ wsG := tc_2 174 rfl rfl
theorem tw415 : (Cond.methodLink "java/lang/StringUTF16" 228 ({ cls := "java/lang/StringUTF16", name := "indexOfChar", desc := "([BIII)I" } : Jvm.MethodName)) ∈ wsG := tc_2 175 rfl rfl
theorem tw416 : (Cond.static ({ cls := "java/lang/StringUTF16", name := "indexOfChar", desc := "([BIII)I" } : Jvm.MethodName)) ∈ wsG := tc_2 176 rfl rfl
theorem tw417 : (Cond.code ({ cls := "java/lang/StringUTF16", name := "indexOfChar", desc := "([BIII)I" } : Jvm.MethodName) prog_21_method_47_code 4 (Option.some Jvm.ClassFile.FieldType.int)) ∈ wsG := tc_2 177 rfl rfl
theorem tw418 : (Cond.methodLink "java/lang/StringUTF16" 96 ({ cls := "java/lang/StringUTF16", name := "checkBoundsBeginEnd", desc := "(II[B)V" } : Jvm.MethodName)) ∈ wsG := tc_2 178 rfl rfl
theorem tw419 : (Cond.static ({ cls := "java/lang/StringUTF16", name := "checkBoundsBeginEnd", desc := "(II[B)V" } : Jvm.MethodName)) ∈ wsG := tc_2 179 rfl rfl
theorem tw420 : (Cond.code ({ cls := "java/lang/StringUTF16", name := "checkBoundsBeginEnd", desc := "(II[B)V" } : Jvm.MethodName) prog_21_method_93_code 3 (Option.none : Option Jvm.ClassFile.FieldType)) ∈ wsG := tc_2 180 rfl rfl
theorem tw421 : (Cond.methodLink "java/lang/StringUTF16" 48 ({ cls := "java/lang/StringUTF16", name := "length", desc := "([B)I" } : Jvm.MethodName)) ∈ wsG := tc_2 181 rfl rfl
theorem tw422 : (Cond.static ({ cls := "java/lang/StringUTF16", name := "length", desc := "([B)I" } : Jvm.MethodName)) ∈ wsG := tc_2 182 rfl rfl
theorem tw423 : (Cond.code ({ cls := "java/lang/StringUTF16", name := "length", desc := "([B)I" } : Jvm.MethodName) prog_21_method_6_code 1 (Option.some Jvm.ClassFile.FieldType.int)) ∈ wsG := tc_2 183 rfl rfl
theorem tw424 : (Cond.methodLink "java/lang/StringUTF16" 241 ({ cls := "java/lang/String", name := "checkBoundsBeginEnd", desc := "(III)V" } : Jvm.MethodName)) ∈ wsG := tc_2 184 rfl rfl
theorem tw425 : (Cond.static ({ cls := "java/lang/String", name := "checkBoundsBeginEnd", desc := "(III)V" } : Jvm.MethodName)) ∈ wsG := tc_2 185 rfl rfl
theorem tw426 : (Cond.code ({ cls := "java/lang/String", name := "checkBoundsBeginEnd", desc := "(III)V" } : Jvm.MethodName) prog_19_method_158_code 3 (Option.none : Option Jvm.ClassFile.FieldType)) ∈ wsG := tc_2 186 rfl rfl
theorem tw427 : (Cond.fieldLink "java/lang/String" 1053 "jdk/internal/util/Preconditions" "SIOOBE_FORMATTER" "Ljava/util/function/BiFunction;") ∈ wsG := tc_2 187 rfl rfl
theorem tw429 : (Cond.methodLink "java/lang/String" 1062 ({ cls := "jdk/internal/util/Preconditions", name := "checkFromToIndex", desc := "(IIILjava/util/function/BiFunction;)I" } : Jvm.MethodName)) ∈ wsG := tc_2 189 rfl rfl
theorem tw430 : (Cond.static ({ cls := "jdk/internal/util/Preconditions", name := "checkFromToIndex", desc := "(IIILjava/util/function/BiFunction;)I" } : Jvm.MethodName)) ∈ wsG := tc_2 190 rfl rfl
theorem tw431 : (Cond.code ({ cls := "jdk/internal/util/Preconditions", name := "checkFromToIndex", desc := "(IIILjava/util/function/BiFunction;)I" } : Jvm.MethodName) prog_25_method_12_code 4 (Option.some Jvm.ClassFile.FieldType.int)) ∈ wsG := tc_2 191 rfl rfl
theorem tw432 : (Cond.methodLink "java/lang/StringUTF16" 244 ({ cls := "java/lang/StringUTF16", name := "indexOfCharUnsafe", desc := "([BIII)I" } : Jvm.MethodName)) ∈ wsG := tc_2 192 rfl rfl
theorem tw433 : (Cond.static ({ cls := "java/lang/StringUTF16", name := "indexOfCharUnsafe", desc := "([BIII)I" } : Jvm.MethodName)) ∈ wsG := tc_2 193 rfl rfl
theorem tw434 : (Cond.code ({ cls := "java/lang/StringUTF16", name := "indexOfCharUnsafe", desc := "([BIII)I" } : Jvm.MethodName) prog_21_method_48_code 5 (Option.some Jvm.ClassFile.FieldType.int)) ∈ wsG := tc_2 194 rfl rfl
theorem tw435 : (Cond.methodLink "java/lang/StringUTF16" 71 ({ cls := "java/lang/StringUTF16", name := "getChar", desc := "([BI)C" } : Jvm.MethodName)) ∈ wsG := tc_2 195 rfl rfl
theorem tw436 : (Cond.static ({ cls := "java/lang/StringUTF16", name := "getChar", desc := "([BI)C" } : Jvm.MethodName)) ∈ wsG := tc_2 196 rfl rfl
theorem tw437 : (Cond.code ({ cls := "java/lang/StringUTF16", name := "getChar", desc := "([BI)C" } : Jvm.MethodName) prog_21_method_5_code 2 (Option.some Jvm.ClassFile.FieldType.char)) ∈ wsG := tc_2 197 rfl rfl
theorem tw438 : (Cond.fieldLink "java/lang/StringUTF16" 44 "java/lang/StringUTF16" "$assertionsDisabled" "Z") ∈ wsG := tc_2 198 rfl rfl
theorem tw440 : (Cond.fieldLink "java/lang/StringUTF16" 59 "java/lang/StringUTF16" "HI_BYTE_SHIFT" "I") ∈ wsG := tc_2 200 rfl rfl
theorem tw442 : (Cond.fieldLink "java/lang/StringUTF16" 63 "java/lang/StringUTF16" "LO_BYTE_SHIFT" "I") ∈ wsG := tc_2 202 rfl rfl
theorem tw444 : (Cond.methodLink "java/lang/StringUTF16" 232 ({ cls := "java/lang/StringUTF16", name := "indexOfSupplementary", desc := "([BIII)I" } : Jvm.MethodName)) ∈ wsG := tc_2 204 rfl rfl
theorem tw445 : (Cond.static ({ cls := "java/lang/StringUTF16", name := "indexOfSupplementary", desc := "([BIII)I" } : Jvm.MethodName)) ∈ wsG := tc_2 205 rfl rfl
theorem tw446 : (Cond.code ({ cls := "java/lang/StringUTF16", name := "indexOfSupplementary", desc := "([BIII)I" } : Jvm.MethodName) prog_21_method_49_code 7 (Option.some Jvm.ClassFile.FieldType.int)) ∈ wsG := tc_2 206 rfl rfl
theorem tw447 : (Cond.methodLink "java/lang/StringUTF16" 164 ({ cls := "java/lang/Character", name := "isValidCodePoint", desc := "(I)Z" } : Jvm.MethodName)) ∈ wsG := tc_2 207 rfl rfl
theorem tw448 : (Cond.static ({ cls := "java/lang/Character", name := "isValidCodePoint", desc := "(I)Z" } : Jvm.MethodName)) ∈ wsG := tc_2 208 rfl rfl
theorem tw449 : (Cond.code ({ cls := "java/lang/Character", name := "isValidCodePoint", desc := "(I)Z" } : Jvm.MethodName) prog_12_method_11_code 2 (Option.some Jvm.ClassFile.FieldType.boolean)) ∈ wsG := tc_2 209 rfl rfl
theorem tw450 : (Cond.methodLink "java/lang/StringUTF16" 157 ({ cls := "java/lang/Character", name := "highSurrogate", desc := "(I)C" } : Jvm.MethodName)) ∈ wsG := tc_2 210 rfl rfl
theorem tw451 : (Cond.static ({ cls := "java/lang/Character", name := "highSurrogate", desc := "(I)C" } : Jvm.MethodName)) ∈ wsG := tc_2 211 rfl rfl
theorem tw452 : (Cond.code ({ cls := "java/lang/Character", name := "highSurrogate", desc := "(I)C" } : Jvm.MethodName) prog_12_method_28_code 1 (Option.some Jvm.ClassFile.FieldType.char)) ∈ wsG := tc_2 212 rfl rfl
theorem tw453 : (Cond.constant "java/lang/Character" 110 55232) ∈ wsG := tc_2 213 rfl rfl
theorem tw454 : (Cond.methodLink "java/lang/StringUTF16" 161 ({ cls := "java/lang/Character", name := "lowSurrogate", desc := "(I)C" } : Jvm.MethodName)) ∈ wsG := tc_2 214 rfl rfl
theorem tw455 : (Cond.static ({ cls := "java/lang/Character", name := "lowSurrogate", desc := "(I)C" } : Jvm.MethodName)) ∈ wsG := tc_2 215 rfl rfl
theorem tw456 : (Cond.code ({ cls := "java/lang/Character", name := "lowSurrogate", desc := "(I)C" } : Jvm.MethodName) prog_12_method_29_code 1 (Option.some Jvm.ClassFile.FieldType.char)) ∈ wsG := tc_2 216 rfl rfl
theorem tw457 : (Cond.constant "java/lang/Character" 76 56320) ∈ wsG := tc_2 217 rfl rfl
theorem tw458 : (Cond.methodLink "ProgramDesk$Tokens" 41 ({ cls := "ProgramDesk$Tokens", name := "lengthen", desc := "(C)V" } : Jvm.MethodName)) ∈ wsG := tc_2 218 rfl rfl
theorem tw460 : (Cond.instanceMethod ({ cls := "ProgramDesk$Tokens", name := "lengthen", desc := "(C)V" } : Jvm.MethodName)) ∈ wsG := tc_2 220 rfl rfl
theorem tw461 : (Cond.code ({ cls := "ProgramDesk$Tokens", name := "lengthen", desc := "(C)V" } : Jvm.MethodName) prog_9_method_7_code 4 (Option.none : Option Jvm.ClassFile.FieldType)) ∈ wsG := tc_2 221 rfl rfl
theorem tw462 : (Cond.methodLink "ProgramDesk$Tokens" 45 ({ cls := "ProgramDesk$Tokens", name := "begin", desc := "(IIC)V" } : Jvm.MethodName)) ∈ wsG := tc_2 222 rfl rfl
theorem tw464 : (Cond.instanceMethod ({ cls := "ProgramDesk$Tokens", name := "begin", desc := "(IIC)V" } : Jvm.MethodName)) ∈ wsG := tc_2 224 rfl rfl
theorem tw465 : (Cond.code ({ cls := "ProgramDesk$Tokens", name := "begin", desc := "(IIC)V" } : Jvm.MethodName) prog_9_method_6_code 4 (Option.none : Option Jvm.ClassFile.FieldType)) ∈ wsG := tc_2 225 rfl rfl
theorem tw466 : (Cond.methodLink "ProgramDesk$Tokens" 49 ({ cls := "ProgramDesk$Tokens", name := "settleKind", desc := "(I)V" } : Jvm.MethodName)) ∈ wsG := tc_2 226 rfl rfl
theorem tw468 : (Cond.instanceMethod ({ cls := "ProgramDesk$Tokens", name := "settleKind", desc := "(I)V" } : Jvm.MethodName)) ∈ wsG := tc_2 228 rfl rfl
theorem tw469 : (Cond.code ({ cls := "ProgramDesk$Tokens", name := "settleKind", desc := "(I)V" } : Jvm.MethodName) prog_9_method_8_code 3 (Option.none : Option Jvm.ClassFile.FieldType)) ∈ wsG := tc_2 229 rfl rfl
theorem tw471 : (Cond.static ({ cls := "ProgramDesk", name := "keyword", desc := "(I)I" } : Jvm.MethodName)) ∈ wsG := tc_2 231 rfl rfl
theorem tw472 : (Cond.code ({ cls := "ProgramDesk", name := "keyword", desc := "(I)I" } : Jvm.MethodName) prog_1_method_21_code 2 (Option.some Jvm.ClassFile.FieldType.int)) ∈ wsG := tc_2 232 rfl rfl
theorem tw473 : (Cond.methodLink "ProgramDesk$Draft" 77 ({ cls := "ProgramDesk$Names", name := "clear", desc := "()V" } : Jvm.MethodName)) ∈ wsG := tc_2 233 rfl rfl
theorem tw474 : (Cond.instanceMethod ({ cls := "ProgramDesk$Names", name := "clear", desc := "()V" } : Jvm.MethodName)) ∈ wsG := tc_2 234 rfl rfl
theorem tw475 : (Cond.selects "ProgramDesk$Names" ({ cls := "ProgramDesk$Names", name := "clear", desc := "()V" } : Jvm.MethodName) ({ cls := "ProgramDesk$Names", name := "clear", desc := "()V" } : Jvm.MethodName)) ∈ wsG := tc_2 235 rfl rfl
theorem tw476 : (Cond.code ({ cls := "ProgramDesk$Names", name := "clear", desc := "()V" } : Jvm.MethodName) prog_7_method_2_code 2 (Option.none : Option Jvm.ClassFile.FieldType)) ∈ wsG := tc_2 236 rfl rfl
theorem tw477 : (Cond.methodLink "ProgramDesk$Draft" 85 ({ cls := "ProgramDesk$Draft", name := "splitParts", desc := "()V" } : Jvm.MethodName)) ∈ wsG := tc_2 237 rfl rfl
theorem tw479 : (Cond.instanceMethod ({ cls := "ProgramDesk$Draft", name := "splitParts", desc := "()V" } : Jvm.MethodName)) ∈ wsG := tc_2 239 rfl rfl
theorem tw480 : (Cond.code ({ cls := "ProgramDesk$Draft", name := "splitParts", desc := "()V" } : Jvm.MethodName) prog_3_method_3_code 2 (Option.none : Option Jvm.ClassFile.FieldType)) ∈ wsG := tc_3 0 rfl rfl
theorem tw481 : (Cond.methodLink "ProgramDesk$Draft" 107 ({ cls := "ProgramDesk$Tokens", name := "isFn", desc := "(I)Z" } : Jvm.MethodName)) ∈ wsG := tc_3 1 rfl rfl
theorem tw482 : (Cond.instanceMethod ({ cls := "ProgramDesk$Tokens", name := "isFn", desc := "(I)Z" } : Jvm.MethodName)) ∈ wsG := tc_3 2 rfl rfl
theorem tw483 : (Cond.selects "ProgramDesk$Tokens" ({ cls := "ProgramDesk$Tokens", name := "isFn", desc := "(I)Z" } : Jvm.MethodName) ({ cls := "ProgramDesk$Tokens", name := "isFn", desc := "(I)Z" } : Jvm.MethodName)) ∈ wsG := tc_3 3 rfl rfl
theorem tw484 : (Cond.code ({ cls := "ProgramDesk$Tokens", name := "isFn", desc := "(I)Z" } : Jvm.MethodName) prog_9_method_4_code 2 (Option.some Jvm.ClassFile.FieldType.boolean)) ∈ wsG := tc_3 4 rfl rfl
theorem tw485 : (Cond.methodLink "ProgramDesk$Draft" 91 ({ cls := "ProgramDesk$Grammar", name := "readFunction", desc := "(II)Z" } : Jvm.MethodName)) ∈ wsG := tc_3 5 rfl rfl
theorem tw486 : (Cond.instanceMethod ({ cls := "ProgramDesk$Grammar", name := "readFunction", desc := "(II)Z" } : Jvm.MethodName)) ∈ wsG := tc_3 6 rfl rfl
theorem tw487 : (Cond.selects "ProgramDesk$Grammar" ({ cls := "ProgramDesk$Grammar", name := "readFunction", desc := "(II)Z" } : Jvm.MethodName) ({ cls := "ProgramDesk$Grammar", name := "readFunction", desc := "(II)Z" } : Jvm.MethodName)) ∈ wsG := tc_3 7 rfl rfl
theorem tw488 : (Cond.code ({ cls := "ProgramDesk$Grammar", name := "readFunction", desc := "(II)Z" } : Jvm.MethodName) prog_5_method_2_code 6 (Option.some Jvm.ClassFile.FieldType.boolean)) ∈ wsG := tc_3 8 rfl rfl
theorem tw489 : (Cond.methodLink "ProgramDesk$Grammar" 52 ({ cls := "ProgramDesk$Tokens", name := "isFn", desc := "(I)Z" } : Jvm.MethodName)) ∈ wsG := tc_3 9 rfl rfl
theorem tw490 : (Cond.methodLink "ProgramDesk$Grammar" 60 ({ cls := "ProgramDesk$Grammar", name := "takeName", desc := "(I)Z" } : Jvm.MethodName)) ∈ wsG := tc_3 10 rfl rfl
theorem tw492 : (Cond.instanceMethod ({ cls := "ProgramDesk$Grammar", name := "takeName", desc := "(I)Z" } : Jvm.MethodName)) ∈ wsG := tc_3 12 rfl rfl
theorem tw493 : (Cond.code ({ cls := "ProgramDesk$Grammar", name := "takeName", desc := "(I)Z" } : Jvm.MethodName) prog_5_method_15_code 2 (Option.some Jvm.ClassFile.FieldType.boolean)) ∈ wsG := tc_3 13 rfl rfl
theorem tw494 : (Cond.methodLink "ProgramDesk$Grammar" 63 ({ cls := "ProgramDesk$Grammar", name := "readParameters", desc := "()I" } : Jvm.MethodName)) ∈ wsG := tc_3 14 rfl rfl
theorem tw496 : (Cond.instanceMethod ({ cls := "ProgramDesk$Grammar", name := "readParameters", desc := "()I" } : Jvm.MethodName)) ∈ wsG := tc_3 16 rfl rfl
theorem tw497 : (Cond.code ({ cls := "ProgramDesk$Grammar", name := "readParameters", desc := "()I" } : Jvm.MethodName) prog_5_method_3_code 4 (Option.some Jvm.ClassFile.FieldType.int)) ∈ wsG := tc_3 17 rfl rfl
theorem tw498 : (Cond.methodLink "ProgramDesk$Grammar" 84 ({ cls := "ProgramDesk$Grammar", name := "takeSign", desc := "(C)Z" } : Jvm.MethodName)) ∈ wsG := tc_3 18 rfl rfl
theorem tw500 : (Cond.instanceMethod ({ cls := "ProgramDesk$Grammar", name := "takeSign", desc := "(C)Z" } : Jvm.MethodName)) ∈ wsG := tc_3 20 rfl rfl
theorem tw501 : (Cond.code ({ cls := "ProgramDesk$Grammar", name := "takeSign", desc := "(C)Z" } : Jvm.MethodName) prog_5_method_14_code 2 (Option.some Jvm.ClassFile.FieldType.boolean)) ∈ wsG := tc_3 21 rfl rfl
theorem tw502 : (Cond.methodLink "ProgramDesk$Grammar" 67 ({ cls := "ProgramDesk$Grammar", name := "openBlock", desc := "(ZI)Z" } : Jvm.MethodName)) ∈ wsG := tc_3 22 rfl rfl
theorem tw504 : (Cond.instanceMethod ({ cls := "ProgramDesk$Grammar", name := "openBlock", desc := "(ZI)Z" } : Jvm.MethodName)) ∈ wsG := tc_3 24 rfl rfl
theorem tw505 : (Cond.code ({ cls := "ProgramDesk$Grammar", name := "openBlock", desc := "(ZI)Z" } : Jvm.MethodName) prog_5_method_7_code 3 (Option.some Jvm.ClassFile.FieldType.boolean)) ∈ wsG := tc_3 25 rfl rfl
theorem tw506 : (Cond.methodLink "ProgramDesk$Grammar" 75 ({ cls := "ProgramDesk$Code", name := "add", desc := "(II)V" } : Jvm.MethodName)) ∈ wsG := tc_3 26 rfl rfl
theorem tw507 : (Cond.instanceMethod ({ cls := "ProgramDesk$Code", name := "add", desc := "(II)V" } : Jvm.MethodName)) ∈ wsG := tc_3 27 rfl rfl
theorem tw508 : (Cond.selects "ProgramDesk$Code" ({ cls := "ProgramDesk$Code", name := "add", desc := "(II)V" } : Jvm.MethodName) ({ cls := "ProgramDesk$Code", name := "add", desc := "(II)V" } : Jvm.MethodName)) ∈ wsG := tc_3 28 rfl rfl
theorem tw509 : (Cond.code ({ cls := "ProgramDesk$Code", name := "add", desc := "(II)V" } : Jvm.MethodName) prog_2_method_2_code 3 (Option.none : Option Jvm.ClassFile.FieldType)) ∈ wsG := tc_3 29 rfl rfl
theorem tw510 : (Cond.methodLink "ProgramDesk$Grammar" 71 ({ cls := "ProgramDesk$Grammar", name := "readStatement", desc := "()Z" } : Jvm.MethodName)) ∈ wsG := tc_3 30 rfl rfl
theorem tw512 : (Cond.instanceMethod ({ cls := "ProgramDesk$Grammar", name := "readStatement", desc := "()Z" } : Jvm.MethodName)) ∈ wsG := tc_3 32 rfl rfl
theorem tw513 : (Cond.code ({ cls := "ProgramDesk$Grammar", name := "readStatement", desc := "()Z" } : Jvm.MethodName) prog_5_method_4_code 3 (Option.some Jvm.ClassFile.FieldType.boolean)) ∈ wsG := tc_3 33 rfl rfl
theorem tw514 : (Cond.methodLink "ProgramDesk$Grammar" 97 ({ cls := "ProgramDesk$Grammar", name := "closeBlock", desc := "()V" } : Jvm.MethodName)) ∈ wsG := tc_3 34 rfl rfl
theorem tw516 : (Cond.instanceMethod ({ cls := "ProgramDesk$Grammar", name := "closeBlock", desc := "()V" } : Jvm.MethodName)) ∈ wsG := tc_3 36 rfl rfl
theorem tw517 : (Cond.code ({ cls := "ProgramDesk$Grammar", name := "closeBlock", desc := "()V" } : Jvm.MethodName) prog_5_method_8_code 1 (Option.none : Option Jvm.ClassFile.FieldType)) ∈ wsG := tc_3 37 rfl rfl
theorem tw518 : (Cond.methodLink "ProgramDesk$Grammar" 115 ({ cls := "ProgramDesk$Code", name := "aimHere", desc := "(I)V" } : Jvm.MethodName)) ∈ wsG := tc_3 38 rfl rfl
theorem tw519 : (Cond.instanceMethod ({ cls := "ProgramDesk$Code", name := "aimHere", desc := "(I)V" } : Jvm.MethodName)) ∈ wsG := tc_3 39 rfl rfl
theorem tw520 : (Cond.selects "ProgramDesk$Code" ({ cls := "ProgramDesk$Code", name := "aimHere", desc := "(I)V" } : Jvm.MethodName) ({ cls := "ProgramDesk$Code", name := "aimHere", desc := "(I)V" } : Jvm.MethodName)) ∈ wsG := tc_3 40 rfl rfl
theorem tw521 : (Cond.code ({ cls := "ProgramDesk$Code", name := "aimHere", desc := "(I)V" } : Jvm.MethodName) prog_2_method_3_code 2 (Option.none : Option Jvm.ClassFile.FieldType)) ∈ wsG := tc_3 41 rfl rfl
theorem tw522 : (Cond.methodLink "ProgramDesk$Grammar" 103 ({ cls := "ProgramDesk$Grammar", name := "readStore", desc := "(I)Z" } : Jvm.MethodName)) ∈ wsG := tc_3 42 rfl rfl
theorem tw524 : (Cond.instanceMethod ({ cls := "ProgramDesk$Grammar", name := "readStore", desc := "(I)Z" } : Jvm.MethodName)) ∈ wsG := tc_3 44 rfl rfl
theorem tw525 : (Cond.code ({ cls := "ProgramDesk$Grammar", name := "readStore", desc := "(I)Z" } : Jvm.MethodName) prog_5_method_5_code 3 (Option.some Jvm.ClassFile.FieldType.boolean)) ∈ wsG := tc_3 45 rfl rfl
theorem tw526 : (Cond.methodLink "ProgramDesk$Grammar" 109 ({ cls := "ProgramDesk$Grammar", name := "readExpression", desc := "(I)Z" } : Jvm.MethodName)) ∈ wsG := tc_3 46 rfl rfl
theorem tw528 : (Cond.instanceMethod ({ cls := "ProgramDesk$Grammar", name := "readExpression", desc := "(I)Z" } : Jvm.MethodName)) ∈ wsG := tc_3 48 rfl rfl
theorem tw529 : (Cond.code ({ cls := "ProgramDesk$Grammar", name := "readExpression", desc := "(I)Z" } : Jvm.MethodName) prog_5_method_9_code 2 (Option.some Jvm.ClassFile.FieldType.boolean)) ∈ wsG := tc_3 49 rfl rfl
theorem tw530 : (Cond.methodLink "ProgramDesk$Grammar" 119 ({ cls := "ProgramDesk$Grammar", name := "readSum", desc := "(I)Z" } : Jvm.MethodName)) ∈ wsG := tc_3 50 rfl rfl
theorem tw532 : (Cond.instanceMethod ({ cls := "ProgramDesk$Grammar", name := "readSum", desc := "(I)Z" } : Jvm.MethodName)) ∈ wsG := tc_3 52 rfl rfl
theorem tw533 : (Cond.code ({ cls := "ProgramDesk$Grammar", name := "readSum", desc := "(I)Z" } : Jvm.MethodName) prog_5_method_10_code 4 (Option.some Jvm.ClassFile.FieldType.boolean)) ∈ wsG := tc_3 53 rfl rfl
theorem tw534 : (Cond.methodLink "ProgramDesk$Grammar" 122 ({ cls := "ProgramDesk$Grammar", name := "readTerm", desc := "(I)Z" } : Jvm.MethodName)) ∈ wsG := tc_3 54 rfl rfl
theorem tw536 : (Cond.instanceMethod ({ cls := "ProgramDesk$Grammar", name := "readTerm", desc := "(I)Z" } : Jvm.MethodName)) ∈ wsG := tc_3 56 rfl rfl
theorem tw537 : (Cond.code ({ cls := "ProgramDesk$Grammar", name := "readTerm", desc := "(I)Z" } : Jvm.MethodName) prog_5_method_11_code 3 (Option.some Jvm.ClassFile.FieldType.boolean)) ∈ wsG := tc_3 57 rfl rfl
theorem tw538 : (Cond.methodLink "ProgramDesk$Grammar" 125 ({ cls := "ProgramDesk$Grammar", name := "readFactor", desc := "(I)Z" } : Jvm.MethodName)) ∈ wsG := tc_3 58 rfl rfl
theorem tw540 : (Cond.instanceMethod ({ cls := "ProgramDesk$Grammar", name := "readFactor", desc := "(I)Z" } : Jvm.MethodName)) ∈ wsG := tc_3 60 rfl rfl
theorem tw541 : (Cond.code ({ cls := "ProgramDesk$Grammar", name := "readFactor", desc := "(I)Z" } : Jvm.MethodName) prog_5_method_12_code 4 (Option.some Jvm.ClassFile.FieldType.boolean)) ∈ wsG := tc_3 61 rfl rfl
theorem tw542 : (Cond.methodLink "ProgramDesk$Grammar" 128 ({ cls := "ProgramDesk$Grammar", name := "readCall", desc := "(II)Z" } : Jvm.MethodName)) ∈ wsG := tc_3 62 rfl rfl
theorem tw544 : (Cond.instanceMethod ({ cls := "ProgramDesk$Grammar", name := "readCall", desc := "(II)Z" } : Jvm.MethodName)) ∈ wsG := tc_3 64 rfl rfl
theorem tw545 : (Cond.code ({ cls := "ProgramDesk$Grammar", name := "readCall", desc := "(II)Z" } : Jvm.MethodName) prog_5_method_13_code 5 (Option.some Jvm.ClassFile.FieldType.boolean)) ∈ wsG := tc_3 65 rfl rfl
theorem tw546 : (Cond.methodLink "ProgramDesk$Grammar" 112 ({ cls := "ProgramDesk$Grammar", name := "readUse", desc := "(I)Z" } : Jvm.MethodName)) ∈ wsG := tc_3 66 rfl rfl
theorem tw548 : (Cond.instanceMethod ({ cls := "ProgramDesk$Grammar", name := "readUse", desc := "(I)Z" } : Jvm.MethodName)) ∈ wsG := tc_3 68 rfl rfl
theorem tw549 : (Cond.code ({ cls := "ProgramDesk$Grammar", name := "readUse", desc := "(I)Z" } : Jvm.MethodName) prog_5_method_6_code 2 (Option.some Jvm.ClassFile.FieldType.boolean)) ∈ wsG := tc_3 69 rfl rfl
theorem tw550 : (Cond.methodLink "ProgramDesk$Grammar" 79 ({ cls := "ProgramDesk$Functions", name := "add", desc := "(III)V" } : Jvm.MethodName)) ∈ wsG := tc_3 70 rfl rfl
theorem tw551 : (Cond.instanceMethod ({ cls := "ProgramDesk$Functions", name := "add", desc := "(III)V" } : Jvm.MethodName)) ∈ wsG := tc_3 71 rfl rfl
theorem tw552 : (Cond.selects "ProgramDesk$Functions" ({ cls := "ProgramDesk$Functions", name := "add", desc := "(III)V" } : Jvm.MethodName) ({ cls := "ProgramDesk$Functions", name := "add", desc := "(III)V" } : Jvm.MethodName)) ∈ wsG := tc_3 72 rfl rfl
theorem tw553 : (Cond.code ({ cls := "ProgramDesk$Functions", name := "add", desc := "(III)V" } : Jvm.MethodName) prog_4_method_2_code 4 (Option.none : Option Jvm.ClassFile.FieldType)) ∈ wsG := tc_3 73 rfl rfl
theorem tw554 : (Cond.methodLink "ProgramDesk$Draft" 95 ({ cls := "ProgramDesk$Draft", name := "brokenPlace", desc := "(I)I" } : Jvm.MethodName)) ∈ wsG := tc_3 74 rfl rfl
theorem tw556 : (Cond.instanceMethod ({ cls := "ProgramDesk$Draft", name := "brokenPlace", desc := "(I)I" } : Jvm.MethodName)) ∈ wsG := tc_3 76 rfl rfl
theorem tw557 : (Cond.code ({ cls := "ProgramDesk$Draft", name := "brokenPlace", desc := "(I)I" } : Jvm.MethodName) prog_3_method_4_code 2 (Option.some Jvm.ClassFile.FieldType.int)) ∈ wsG := tc_3 77 rfl rfl
theorem tw558 : (Cond.methodLink "ProgramDesk$Draft" 102 ({ cls := "ProgramDesk$Draft", name := "judgePart", desc := "(I)V" } : Jvm.MethodName)) ∈ wsG := tc_3 78 rfl rfl
theorem tw560 : (Cond.instanceMethod ({ cls := "ProgramDesk$Draft", name := "judgePart", desc := "(I)V" } : Jvm.MethodName)) ∈ wsG := tc_3 80 rfl rfl
theorem tw561 : (Cond.code ({ cls := "ProgramDesk$Draft", name := "judgePart", desc := "(I)V" } : Jvm.MethodName) prog_3_method_5_code 3 (Option.none : Option Jvm.ClassFile.FieldType)) ∈ wsG := tc_3 81 rfl rfl
theorem tw562 : (Cond.methodLink "ProgramDesk$Draft" 120 ({ cls := "ProgramDesk$Draft", name := "addFault", desc := "(II)V" } : Jvm.MethodName)) ∈ wsG := tc_3 82 rfl rfl
theorem tw564 : (Cond.instanceMethod ({ cls := "ProgramDesk$Draft", name := "addFault", desc := "(II)V" } : Jvm.MethodName)) ∈ wsG := tc_3 84 rfl rfl
theorem tw565 : (Cond.code ({ cls := "ProgramDesk$Draft", name := "addFault", desc := "(II)V" } : Jvm.MethodName) prog_3_method_6_code 3 (Option.none : Option Jvm.ClassFile.FieldType)) ∈ wsG := tc_3 85 rfl rfl
theorem tw566 : (Cond.methodLink "ProgramDesk$Draft" 124 ({ cls := "ProgramDesk$Names", name := "bind", desc := "(II)V" } : Jvm.MethodName)) ∈ wsG := tc_3 86 rfl rfl
theorem tw567 : (Cond.instanceMethod ({ cls := "ProgramDesk$Names", name := "bind", desc := "(II)V" } : Jvm.MethodName)) ∈ wsG := tc_3 87 rfl rfl
theorem tw568 : (Cond.selects "ProgramDesk$Names" ({ cls := "ProgramDesk$Names", name := "bind", desc := "(II)V" } : Jvm.MethodName) ({ cls := "ProgramDesk$Names", name := "bind", desc := "(II)V" } : Jvm.MethodName)) ∈ wsG := tc_3 88 rfl rfl
theorem tw569 : (Cond.code ({ cls := "ProgramDesk$Names", name := "bind", desc := "(II)V" } : Jvm.MethodName) prog_7_method_3_code 4 (Option.none : Option Jvm.ClassFile.FieldType)) ∈ wsG := tc_3 89 rfl rfl
theorem tw570 : (Cond.methodLink "ProgramDesk$Names" 47 ({ cls := "ProgramDesk$Functions", name := "isFirst", desc := "(I)Z" } : Jvm.MethodName)) ∈ wsG := tc_3 90 rfl rfl
theorem tw571 : (Cond.instanceMethod ({ cls := "ProgramDesk$Functions", name := "isFirst", desc := "(I)Z" } : Jvm.MethodName)) ∈ wsG := tc_3 91 rfl rfl
theorem tw572 : (Cond.selects "ProgramDesk$Functions" ({ cls := "ProgramDesk$Functions", name := "isFirst", desc := "(I)Z" } : Jvm.MethodName) ({ cls := "ProgramDesk$Functions", name := "isFirst", desc := "(I)Z" } : Jvm.MethodName)) ∈ wsG := tc_3 92 rfl rfl
theorem tw573 : (Cond.code ({ cls := "ProgramDesk$Functions", name := "isFirst", desc := "(I)Z" } : Jvm.MethodName) prog_4_method_4_code 3 (Option.some Jvm.ClassFile.FieldType.boolean)) ∈ wsG := tc_3 93 rfl rfl
theorem tw574 : (Cond.methodLink "ProgramDesk$Functions" 34 ({ cls := "ProgramDesk$Functions", name := "find", desc := "(I)I" } : Jvm.MethodName)) ∈ wsG := tc_3 94 rfl rfl
theorem tw575 : (Cond.instanceMethod ({ cls := "ProgramDesk$Functions", name := "find", desc := "(I)I" } : Jvm.MethodName)) ∈ wsG := tc_3 95 rfl rfl
theorem tw576 : (Cond.selects "ProgramDesk$Functions" ({ cls := "ProgramDesk$Functions", name := "find", desc := "(I)I" } : Jvm.MethodName) ({ cls := "ProgramDesk$Functions", name := "find", desc := "(I)I" } : Jvm.MethodName)) ∈ wsG := tc_3 96 rfl rfl
theorem tw577 : (Cond.code ({ cls := "ProgramDesk$Functions", name := "find", desc := "(I)I" } : Jvm.MethodName) prog_4_method_3_code 3 (Option.some Jvm.ClassFile.FieldType.int)) ∈ wsG := tc_3 97 rfl rfl
theorem tw578 : (Cond.methodLink "ProgramDesk$Names" 53 ({ cls := "ProgramDesk$Names", name := "bindOr", desc := "(III)V" } : Jvm.MethodName)) ∈ wsG := tc_3 98 rfl rfl
theorem tw580 : (Cond.instanceMethod ({ cls := "ProgramDesk$Names", name := "bindOr", desc := "(III)V" } : Jvm.MethodName)) ∈ wsG := tc_3 100 rfl rfl
theorem tw581 : (Cond.code ({ cls := "ProgramDesk$Names", name := "bindOr", desc := "(III)V" } : Jvm.MethodName) prog_7_method_4_code 4 (Option.none : Option Jvm.ClassFile.FieldType)) ∈ wsG := tc_3 101 rfl rfl
theorem tw582 : (Cond.methodLink "ProgramDesk$Names" 57 ({ cls := "ProgramDesk$Names", name := "isDeclaredBefore", desc := "(II)Z" } : Jvm.MethodName)) ∈ wsG := tc_3 102 rfl rfl
theorem tw584 : (Cond.instanceMethod ({ cls := "ProgramDesk$Names", name := "isDeclaredBefore", desc := "(II)Z" } : Jvm.MethodName)) ∈ wsG := tc_3 104 rfl rfl
theorem tw585 : (Cond.code ({ cls := "ProgramDesk$Names", name := "isDeclaredBefore", desc := "(II)Z" } : Jvm.MethodName) prog_7_method_6_code 4 (Option.some Jvm.ClassFile.FieldType.boolean)) ∈ wsG := tc_3 105 rfl rfl
theorem tw586 : (Cond.methodLink "ProgramDesk$Names" 82 ({ cls := "ProgramDesk$Names", name := "declares", desc := "(II)Z" } : Jvm.MethodName)) ∈ wsG := tc_3 106 rfl rfl
theorem tw588 : (Cond.instanceMethod ({ cls := "ProgramDesk$Names", name := "declares", desc := "(II)Z" } : Jvm.MethodName)) ∈ wsG := tc_3 108 rfl rfl
theorem tw589 : (Cond.code ({ cls := "ProgramDesk$Names", name := "declares", desc := "(II)Z" } : Jvm.MethodName) prog_7_method_7_code 3 (Option.some Jvm.ClassFile.FieldType.boolean)) ∈ wsG := tc_3 109 rfl rfl
theorem tw590 : (Cond.methodLink "ProgramDesk$Names" 64 ({ cls := "ProgramDesk$Names", name := "meaning", desc := "(II)I" } : Jvm.MethodName)) ∈ wsG := tc_3 110 rfl rfl
theorem tw591 : (Cond.instanceMethod ({ cls := "ProgramDesk$Names", name := "meaning", desc := "(II)I" } : Jvm.MethodName)) ∈ wsG := tc_3 111 rfl rfl
theorem tw592 : (Cond.selects "ProgramDesk$Names" ({ cls := "ProgramDesk$Names", name := "meaning", desc := "(II)I" } : Jvm.MethodName) ({ cls := "ProgramDesk$Names", name := "meaning", desc := "(II)I" } : Jvm.MethodName)) ∈ wsG := tc_3 112 rfl rfl
theorem tw593 : (Cond.code ({ cls := "ProgramDesk$Names", name := "meaning", desc := "(II)I" } : Jvm.MethodName) prog_7_method_8_code 4 (Option.some Jvm.ClassFile.FieldType.int)) ∈ wsG := tc_3 113 rfl rfl
theorem tw594 : (Cond.methodLink "ProgramDesk$Names" 68 ({ cls := "ProgramDesk$Names", name := "bindCall", desc := "(I)V" } : Jvm.MethodName)) ∈ wsG := tc_3 114 rfl rfl
theorem tw596 : (Cond.instanceMethod ({ cls := "ProgramDesk$Names", name := "bindCall", desc := "(I)V" } : Jvm.MethodName)) ∈ wsG := tc_3 116 rfl rfl
theorem tw597 : (Cond.code ({ cls := "ProgramDesk$Names", name := "bindCall", desc := "(I)V" } : Jvm.MethodName) prog_7_method_5_code 3 (Option.none : Option Jvm.ClassFile.FieldType)) ∈ wsG := tc_3 117 rfl rfl
theorem tw598 : (Cond.methodLink "ProgramDesk$Names" 72 ({ cls := "ProgramDesk$Functions", name := "find", desc := "(I)I" } : Jvm.MethodName)) ∈ wsG := tc_3 118 rfl rfl
theorem tw599 : (Cond.arrayClass Jvm.ClassFile.FieldType.byte) ∈ wsG := tc_3 119 rfl rfl
theorem tw600 : (Cond.methodLink "ProgramDeskLaw" 99 ({ cls := "ProgramDesk", name := "faults", desc := "()I" } : Jvm.MethodName)) ∈ wsG := tc_3 120 rfl rfl
theorem tw601 : (Cond.instanceMethod ({ cls := "ProgramDesk", name := "faults", desc := "()I" } : Jvm.MethodName)) ∈ wsG := tc_3 121 rfl rfl
theorem tw602 : (Cond.selects "ProgramDesk" ({ cls := "ProgramDesk", name := "faults", desc := "()I" } : Jvm.MethodName) ({ cls := "ProgramDesk", name := "faults", desc := "()I" } : Jvm.MethodName)) ∈ wsG := tc_3 122 rfl rfl
theorem tw603 : (Cond.code ({ cls := "ProgramDesk", name := "faults", desc := "()I" } : Jvm.MethodName) prog_1_method_10_code 1 (Option.some Jvm.ClassFile.FieldType.int)) ∈ wsG := tc_3 123 rfl rfl
theorem tw604 : (Cond.methodLink "ProgramDeskLaw" 69 ({ cls := "ProgramDeskLaw", name := "insert", desc := "(LProgramDesk;IC)I" } : Jvm.MethodName)) ∈ wsG := tc_3 124 rfl rfl
theorem tw605 : (Cond.static ({ cls := "ProgramDeskLaw", name := "insert", desc := "(LProgramDesk;IC)I" } : Jvm.MethodName)) ∈ wsG := tc_3 125 rfl rfl
theorem tw606 : (Cond.codeWith ({ cls := "ProgramDeskLaw", name := "insert", desc := "(LProgramDesk;IC)I" } : Jvm.MethodName) method_3_code 4 (Option.some Jvm.ClassFile.FieldType.int) [(0, 6, 9, 13), (0, 6, 12, 15), (0, 6, 15, 17)]) ∈ wsG := tc_3 126 rfl rfl
theorem tw607 : (Cond.classLink "ProgramDeskLaw" 13 "java/lang/IllegalArgumentException") ∈ wsG := tc_3 127 rfl rfl
theorem tw608 : (Cond.classLink "ProgramDeskLaw" 15 "java/lang/IndexOutOfBoundsException") ∈ wsG := tc_3 128 rfl rfl
theorem tw609 : (Cond.classLink "ProgramDeskLaw" 17 "java/lang/IllegalStateException") ∈ wsG := tc_3 129 rfl rfl
theorem tw610 : (Cond.methodLink "ProgramDeskLaw" 7 ({ cls := "ProgramDesk", name := "insert", desc := "(IC)V" } : Jvm.MethodName)) ∈ wsG := tc_3 130 rfl rfl
theorem tw611 : (Cond.instanceMethod ({ cls := "ProgramDesk", name := "insert", desc := "(IC)V" } : Jvm.MethodName)) ∈ wsG := tc_3 131 rfl rfl
theorem tw612 : (Cond.selects "ProgramDesk" ({ cls := "ProgramDesk", name := "insert", desc := "(IC)V" } : Jvm.MethodName) ({ cls := "ProgramDesk", name := "insert", desc := "(IC)V" } : Jvm.MethodName)) ∈ wsG := tc_3 132 rfl rfl
theorem tw613 : (Cond.code ({ cls := "ProgramDesk", name := "insert", desc := "(IC)V" } : Jvm.MethodName) prog_1_method_4_code 3 (Option.none : Option Jvm.ClassFile.FieldType)) ∈ wsG := tc_3 133 rfl rfl
theorem tw614 : (Cond.classLink "ProgramDesk" 60 "java/lang/IllegalArgumentException") ∈ wsG := tc_3 134 rfl rfl
theorem tw615 : (Cond.instantiable "java/lang/IllegalArgumentException" 6) ∈ wsG := tc_3 135 rfl rfl
theorem tw623 : (Cond.selects "java/lang/IllegalArgumentException" ({ cls := "java/lang/Throwable", name := "fillInStackTrace", desc := "(I)Ljava/lang/Throwable;" } : Jvm.MethodName) ({ cls := "java/lang/Throwable", name := "fillInStackTrace", desc := "(I)Ljava/lang/Throwable;" } : Jvm.MethodName)) ∈ wsG := tc_3 143 rfl rfl
theorem tw624 : (Cond.selects "java/lang/IllegalArgumentException" ({ cls := "java/lang/Throwable", name := "fillInStackTrace", desc := "()Ljava/lang/Throwable;" } : Jvm.MethodName) ({ cls := "java/lang/Throwable", name := "fillInStackTrace", desc := "()Ljava/lang/Throwable;" } : Jvm.MethodName)) ∈ wsG := tc_3 144 rfl rfl
theorem tw625 : (Cond.lays "java/lang/IllegalArgumentException" "java/lang/Throwable" "cause" "Ljava/lang/Throwable;") ∈ wsG := tc_3 145 rfl rfl
theorem tw626 : (Cond.lays "java/lang/Throwable" "java/lang/Throwable" "cause" "Ljava/lang/Throwable;") ∈ wsG := tc_3 146 rfl rfl
theorem tw627 : (Cond.lays "java/lang/IllegalArgumentException" "java/lang/Throwable" "stackTrace" "[Ljava/lang/StackTraceElement;") ∈ wsG := tc_3 147 rfl rfl
theorem tw628 : (Cond.lays "java/lang/Throwable" "java/lang/Throwable" "stackTrace" "[Ljava/lang/StackTraceElement;") ∈ wsG := tc_3 148 rfl rfl
theorem tw629 : (Cond.lays "java/lang/IllegalArgumentException" "java/lang/Throwable" "suppressedExceptions" "Ljava/util/List;") ∈ wsG := tc_3 149 rfl rfl
theorem tw630 : (Cond.lays "java/lang/Throwable" "java/lang/Throwable" "suppressedExceptions" "Ljava/util/List;") ∈ wsG := tc_3 150 rfl rfl
theorem tw631 : (Cond.lays "java/lang/IllegalArgumentException" "java/lang/Throwable" "detailMessage" "Ljava/lang/String;") ∈ wsG := tc_3 151 rfl rfl
theorem tw632 : (Cond.lays "java/lang/Throwable" "java/lang/Throwable" "detailMessage" "Ljava/lang/String;") ∈ wsG := tc_3 152 rfl rfl
theorem tw633 : (Cond.lays "java/lang/IllegalArgumentException" "java/lang/Throwable" "backtrace" "Ljava/lang/Object;") ∈ wsG := tc_3 153 rfl rfl
theorem tw634 : (Cond.lays "java/lang/Throwable" "java/lang/Throwable" "backtrace" "Ljava/lang/Object;") ∈ wsG := tc_3 154 rfl rfl
theorem tw635 : (Cond.fieldLink "java/lang/Throwable" 198 "java/lang/Throwable" "backtrace" "Ljava/lang/Object;") ∈ wsG := tc_3 155 rfl rfl
theorem tw636 : (Cond.superclass "java/lang/Throwable" "java/lang/Object") ∈ wsG := tc_3 156 rfl rfl
theorem tw637 : (Cond.instanceMethod ({ cls := "java/lang/Throwable", name := "<init>", desc := "()V" } : Jvm.MethodName)) ∈ wsG := tc_3 157 rfl rfl
theorem tw638 : (Cond.code ({ cls := "java/lang/Throwable", name := "<init>", desc := "()V" } : Jvm.MethodName) prog_22_method_1_code 1 (Option.none : Option Jvm.ClassFile.FieldType)) ∈ wsG := tc_3 158 rfl rfl
theorem tw639 : (Cond.methodLink "java/lang/Throwable" 1 ({ cls := "java/lang/Object", name := "<init>", desc := "()V" } : Jvm.MethodName)) ∈ wsG := tc_3 159 rfl rfl
theorem tw640 : (Cond.fieldLink "java/lang/Throwable" 13 "java/lang/Throwable" "UNASSIGNED_STACK" "[Ljava/lang/StackTraceElement;") ∈ wsG := tc_3 160 rfl rfl
theorem tw642 : (Cond.fieldLink "java/lang/Throwable" 20 "java/lang/Throwable" "SUPPRESSED_SENTINEL" "Ljava/util/List;") ∈ wsG := tc_3 162 rfl rfl
theorem tw644 : (Cond.methodLink "java/lang/Throwable" 27 ({ cls := "java/lang/Throwable", name := "fillInStackTrace", desc := "()Ljava/lang/Throwable;" } : Jvm.MethodName)) ∈ wsG := tc_3 164 rfl rfl
theorem tw645 : (Cond.instanceMethod ({ cls := "java/lang/Throwable", name := "fillInStackTrace", desc := "()Ljava/lang/Throwable;" } : Jvm.MethodName)) ∈ wsG := tc_3 165 rfl rfl
theorem tw647 : (Cond.selects "java/lang/IllegalStateException" ({ cls := "java/lang/Throwable", name := "fillInStackTrace", desc := "()Ljava/lang/Throwable;" } : Jvm.MethodName) ({ cls := "java/lang/Throwable", name := "fillInStackTrace", desc := "()Ljava/lang/Throwable;" } : Jvm.MethodName)) ∈ wsG := tc_3 167 rfl rfl
theorem tw648 : (Cond.selects "java/lang/IndexOutOfBoundsException" ({ cls := "java/lang/Throwable", name := "fillInStackTrace", desc := "()Ljava/lang/Throwable;" } : Jvm.MethodName) ({ cls := "java/lang/Throwable", name := "fillInStackTrace", desc := "()Ljava/lang/Throwable;" } : Jvm.MethodName)) ∈ wsG := tc_3 168 rfl rfl
theorem tw649 : (Cond.selects "java/lang/UnsupportedOperationException" ({ cls := "java/lang/Throwable", name := "fillInStackTrace", desc := "()Ljava/lang/Throwable;" } : Jvm.MethodName) ({ cls := "java/lang/Throwable", name := "fillInStackTrace", desc := "()Ljava/lang/Throwable;" } : Jvm.MethodName)) ∈ wsG := tc_3 169 rfl rfl
theorem tw650 : (Cond.selects "java/util/NoSuchElementException" ({ cls := "java/lang/Throwable", name := "fillInStackTrace", desc := "()Ljava/lang/Throwable;" } : Jvm.MethodName) ({ cls := "java/lang/Throwable", name := "fillInStackTrace", desc := "()Ljava/lang/Throwable;" } : Jvm.MethodName)) ∈ wsG := tc_3 170 rfl rfl
theorem tw651 : (Cond.codeSync ({ cls := "java/lang/Throwable", name := "fillInStackTrace", desc := "()Ljava/lang/Throwable;" } : Jvm.MethodName) prog_22_method_18_code 1 (Option.some (Jvm.ClassFile.FieldType.object "java/lang/Throwable"))) ∈ wsG := tc_3 171 rfl rfl
theorem tw652 : (Cond.methodLink "java/lang/Throwable" 202 ({ cls := "java/lang/Throwable", name := "fillInStackTrace", desc := "(I)Ljava/lang/Throwable;" } : Jvm.MethodName)) ∈ wsG := tc_3 172 rfl rfl
theorem tw654 : (Cond.instanceMethod ({ cls := "java/lang/Throwable", name := "fillInStackTrace", desc := "(I)Ljava/lang/Throwable;" } : Jvm.MethodName)) ∈ wsG := tc_3 174 rfl rfl
theorem tw655 : (Cond.instantiable "java/lang/Throwable" 6) ∈ wsG := tc_3 175 rfl rfl
theorem tw656 : (Cond.native ({ cls := "java/lang/Throwable", name := "fillInStackTrace", desc := "(I)Ljava/lang/Throwable;" } : Jvm.MethodName)) ∈ wsG := tc_3 176 rfl rfl
theorem tw657 : (Cond.methodLink "ProgramDesk" 62 ({ cls := "java/lang/IllegalArgumentException", name := "<init>", desc := "()V" } : Jvm.MethodName)) ∈ wsG := tc_3 177 rfl rfl
theorem tw658 : (Cond.instanceMethod ({ cls := "java/lang/IllegalArgumentException", name := "<init>", desc := "()V" } : Jvm.MethodName)) ∈ wsG := tc_3 178 rfl rfl
theorem tw659 : (Cond.code ({ cls := "java/lang/IllegalArgumentException", name := "<init>", desc := "()V" } : Jvm.MethodName) prog_14_method_1_code 1 (Option.none : Option Jvm.ClassFile.FieldType)) ∈ wsG := tc_3 179 rfl rfl
theorem tw660 : (Cond.methodLink "java/lang/IllegalArgumentException" 1 ({ cls := "java/lang/RuntimeException", name := "<init>", desc := "()V" } : Jvm.MethodName)) ∈ wsG := tc_3 180 rfl rfl
theorem tw661 : (Cond.instanceMethod ({ cls := "java/lang/RuntimeException", name := "<init>", desc := "()V" } : Jvm.MethodName)) ∈ wsG := tc_3 181 rfl rfl
theorem tw662 : (Cond.code ({ cls := "java/lang/RuntimeException", name := "<init>", desc := "()V" } : Jvm.MethodName) prog_18_method_1_code 1 (Option.none : Option Jvm.ClassFile.FieldType)) ∈ wsG := tc_3 182 rfl rfl
theorem tw663 : (Cond.methodLink "java/lang/RuntimeException" 1 ({ cls := "java/lang/Exception", name := "<init>", desc := "()V" } : Jvm.MethodName)) ∈ wsG := tc_3 183 rfl rfl
theorem tw664 : (Cond.instanceMethod ({ cls := "java/lang/Exception", name := "<init>", desc := "()V" } : Jvm.MethodName)) ∈ wsG := tc_3 184 rfl rfl
theorem tw665 : (Cond.code ({ cls := "java/lang/Exception", name := "<init>", desc := "()V" } : Jvm.MethodName) prog_13_method_1_code 1 (Option.none : Option Jvm.ClassFile.FieldType)) ∈ wsG := tc_3 185 rfl rfl
theorem tw666 : (Cond.methodLink "java/lang/Exception" 1 ({ cls := "java/lang/Throwable", name := "<init>", desc := "()V" } : Jvm.MethodName)) ∈ wsG := tc_3 186 rfl rfl
theorem tw667 : (Cond.fieldLink "java/lang/Throwable" 198 "java/lang/Throwable" "backtrace" "Ljava/lang/Object;") ∈ wsG := tc_3 187 rfl rfl
theorem tw668 : (Cond.fieldLink "java/lang/Throwable" 7 "java/lang/Throwable" "cause" "Ljava/lang/Throwable;") ∈ wsG := tc_3 188 rfl rfl
theorem tw669 : (Cond.fieldLink "java/lang/Throwable" 17 "java/lang/Throwable" "stackTrace" "[Ljava/lang/StackTraceElement;") ∈ wsG := tc_3 189 rfl rfl
theorem tw670 : (Cond.fieldLink "java/lang/Throwable" 24 "java/lang/Throwable" "suppressedExceptions" "Ljava/util/List;") ∈ wsG := tc_3 190 rfl rfl
theorem tw675 : (Cond.lays "java/lang/IllegalArgumentException" "java/lang/Throwable" "depth" "I") ∈ wsG := tc_3 195 rfl rfl
theorem tw678 : (Cond.superclass "java/lang/IllegalArgumentException" "java/lang/RuntimeException") ∈ wsG := tc_3 198 rfl rfl
theorem tw679 : (Cond.classLink "ProgramDesk" 63 "java/lang/IndexOutOfBoundsException") ∈ wsG := tc_3 199 rfl rfl
theorem tw680 : (Cond.instantiable "java/lang/IndexOutOfBoundsException" 6) ∈ wsG := tc_3 200 rfl rfl
theorem tw682 : (Cond.selects "java/lang/IndexOutOfBoundsException" ({ cls := "java/lang/Throwable", name := "fillInStackTrace", desc := "(I)Ljava/lang/Throwable;" } : Jvm.MethodName) ({ cls := "java/lang/Throwable", name := "fillInStackTrace", desc := "(I)Ljava/lang/Throwable;" } : Jvm.MethodName)) ∈ wsG := tc_3 202 rfl rfl
theorem tw683 : (Cond.lays "java/lang/IndexOutOfBoundsException" "java/lang/Throwable" "cause" "Ljava/lang/Throwable;") ∈ wsG := tc_3 203 rfl rfl
theorem tw684 : (Cond.lays "java/lang/IndexOutOfBoundsException" "java/lang/Throwable" "stackTrace" "[Ljava/lang/StackTraceElement;") ∈ wsG := tc_3 204 rfl rfl
theorem tw685 : (Cond.lays "java/lang/IndexOutOfBoundsException" "java/lang/Throwable" "suppressedExceptions" "Ljava/util/List;") ∈ wsG := tc_3 205 rfl rfl
theorem tw686 : (Cond.lays "java/lang/IndexOutOfBoundsException" "java/lang/Throwable" "detailMessage" "Ljava/lang/String;") ∈ wsG := tc_3 206 rfl rfl
theorem tw687 : (Cond.lays "java/lang/IndexOutOfBoundsException" "java/lang/Throwable" "backtrace" "Ljava/lang/Object;") ∈ wsG := tc_3 207 rfl rfl
theorem tw688 : (Cond.methodLink "ProgramDesk" 65 ({ cls := "java/lang/IndexOutOfBoundsException", name := "<init>", desc := "()V" } : Jvm.MethodName)) ∈ wsG := tc_3 208 rfl rfl
theorem tw689 : (Cond.instanceMethod ({ cls := "java/lang/IndexOutOfBoundsException", name := "<init>", desc := "()V" } : Jvm.MethodName)) ∈ wsG := tc_3 209 rfl rfl
theorem tw690 : (Cond.code ({ cls := "java/lang/IndexOutOfBoundsException", name := "<init>", desc := "()V" } : Jvm.MethodName) prog_16_method_1_code 1 (Option.none : Option Jvm.ClassFile.FieldType)) ∈ wsG := tc_3 210 rfl rfl
theorem tw691 : (Cond.methodLink "java/lang/IndexOutOfBoundsException" 1 ({ cls := "java/lang/RuntimeException", name := "<init>", desc := "()V" } : Jvm.MethodName)) ∈ wsG := tc_3 211 rfl rfl
theorem tw692 : (Cond.lays "java/lang/IndexOutOfBoundsException" "java/lang/Throwable" "depth" "I") ∈ wsG := tc_3 212 rfl rfl
theorem tw693 : (Cond.superclass "java/lang/IndexOutOfBoundsException" "java/lang/RuntimeException") ∈ wsG := tc_3 213 rfl rfl
theorem tw694 : (Cond.classLink "ProgramDesk" 66 "java/lang/IllegalStateException") ∈ wsG := tc_3 214 rfl rfl
theorem tw695 : (Cond.instantiable "java/lang/IllegalStateException" 6) ∈ wsG := tc_3 215 rfl rfl
theorem tw697 : (Cond.selects "java/lang/IllegalStateException" ({ cls := "java/lang/Throwable", name := "fillInStackTrace", desc := "(I)Ljava/lang/Throwable;" } : Jvm.MethodName) ({ cls := "java/lang/Throwable", name := "fillInStackTrace", desc := "(I)Ljava/lang/Throwable;" } : Jvm.MethodName)) ∈ wsG := tc_3 217 rfl rfl
theorem tw698 : (Cond.lays "java/lang/IllegalStateException" "java/lang/Throwable" "cause" "Ljava/lang/Throwable;") ∈ wsG := tc_3 218 rfl rfl
theorem tw699 : (Cond.lays "java/lang/IllegalStateException" "java/lang/Throwable" "stackTrace" "[Ljava/lang/StackTraceElement;") ∈ wsG := tc_3 219 rfl rfl
theorem tw700 : (Cond.lays "java/lang/IllegalStateException" "java/lang/Throwable" "suppressedExceptions" "Ljava/util/List;") ∈ wsG := tc_3 220 rfl rfl
theorem tw701 : (Cond.lays "java/lang/IllegalStateException" "java/lang/Throwable" "detailMessage" "Ljava/lang/String;") ∈ wsG := tc_3 221 rfl rfl
theorem tw702 : (Cond.lays "java/lang/IllegalStateException" "java/lang/Throwable" "backtrace" "Ljava/lang/Object;") ∈ wsG := tc_3 222 rfl rfl
theorem tw703 : (Cond.methodLink "ProgramDesk" 68 ({ cls := "java/lang/IllegalStateException", name := "<init>", desc := "()V" } : Jvm.MethodName)) ∈ wsG := tc_3 223 rfl rfl
theorem tw704 : (Cond.instanceMethod ({ cls := "java/lang/IllegalStateException", name := "<init>", desc := "()V" } : Jvm.MethodName)) ∈ wsG := tc_3 224 rfl rfl
theorem tw705 : (Cond.code ({ cls := "java/lang/IllegalStateException", name := "<init>", desc := "()V" } : Jvm.MethodName) prog_15_method_1_code 1 (Option.none : Option Jvm.ClassFile.FieldType)) ∈ wsG := tc_3 225 rfl rfl
theorem tw706 : (Cond.methodLink "java/lang/IllegalStateException" 1 ({ cls := "java/lang/RuntimeException", name := "<init>", desc := "()V" } : Jvm.MethodName)) ∈ wsG := tc_3 226 rfl rfl
theorem tw707 : (Cond.lays "java/lang/IllegalStateException" "java/lang/Throwable" "depth" "I") ∈ wsG := tc_3 227 rfl rfl
theorem tw708 : (Cond.superclass "java/lang/IllegalStateException" "java/lang/RuntimeException") ∈ wsG := tc_3 228 rfl rfl
theorem tw709 : (Cond.methodLink "ProgramDesk" 69 ({ cls := "ProgramDesk$Text", name := "putBefore", desc := "(IC)V" } : Jvm.MethodName)) ∈ wsG := tc_3 229 rfl rfl
theorem tw710 : (Cond.instanceMethod ({ cls := "ProgramDesk$Text", name := "putBefore", desc := "(IC)V" } : Jvm.MethodName)) ∈ wsG := tc_3 230 rfl rfl
theorem tw711 : (Cond.selects "ProgramDesk$Text" ({ cls := "ProgramDesk$Text", name := "putBefore", desc := "(IC)V" } : Jvm.MethodName) ({ cls := "ProgramDesk$Text", name := "putBefore", desc := "(IC)V" } : Jvm.MethodName)) ∈ wsG := tc_3 231 rfl rfl
theorem tw712 : (Cond.code ({ cls := "ProgramDesk$Text", name := "putBefore", desc := "(IC)V" } : Jvm.MethodName) prog_8_method_5_code 4 (Option.none : Option Jvm.ClassFile.FieldType)) ∈ wsG := tc_3 232 rfl rfl
theorem tw713 : (Cond.methodLink "ProgramDeskLaw" 79 ({ cls := "ProgramDeskLaw", name := "remove", desc := "(LProgramDesk;II)I" } : Jvm.MethodName)) ∈ wsG := tc_3 233 rfl rfl
theorem tw714 : (Cond.static ({ cls := "ProgramDeskLaw", name := "remove", desc := "(LProgramDesk;II)I" } : Jvm.MethodName)) ∈ wsG := tc_3 234 rfl rfl
theorem tw715 : (Cond.codeWith ({ cls := "ProgramDeskLaw", name := "remove", desc := "(LProgramDesk;II)I" } : Jvm.MethodName) method_4_code 4 (Option.some Jvm.ClassFile.FieldType.int) [(0, 6, 9, 13), (0, 6, 12, 15)]) ∈ wsG := tc_3 235 rfl rfl
theorem tw716 : (Cond.methodLink "ProgramDeskLaw" 19 ({ cls := "ProgramDesk", name := "remove", desc := "(II)V" } : Jvm.MethodName)) ∈ wsG := tc_3 236 rfl rfl
theorem tw717 : (Cond.instanceMethod ({ cls := "ProgramDesk", name := "remove", desc := "(II)V" } : Jvm.MethodName)) ∈ wsG := tc_3 237 rfl rfl
theorem tw718 : (Cond.selects "ProgramDesk" ({ cls := "ProgramDesk", name := "remove", desc := "(II)V" } : Jvm.MethodName) ({ cls := "ProgramDesk", name := "remove", desc := "(II)V" } : Jvm.MethodName)) ∈ wsG := tc_3 238 rfl rfl
theorem tw719 : (Cond.code ({ cls := "ProgramDesk", name := "remove", desc := "(II)V" } : Jvm.MethodName) prog_1_method_5_code 3 (Option.none : Option Jvm.ClassFile.FieldType)) ∈ wsG := tc_3 239 rfl rfl
theorem tw720 : (Cond.methodLink "ProgramDesk" 73 ({ cls := "ProgramDesk$Text", name := "takeOut", desc := "(II)V" } : Jvm.MethodName)) ∈ wsG := tc_4 0 rfl rfl
theorem tw721 : (Cond.instanceMethod ({ cls := "ProgramDesk$Text", name := "takeOut", desc := "(II)V" } : Jvm.MethodName)) ∈ wsG := tc_4 1 rfl rfl
theorem tw722 : (Cond.selects "ProgramDesk$Text" ({ cls := "ProgramDesk$Text", name := "takeOut", desc := "(II)V" } : Jvm.MethodName) ({ cls := "ProgramDesk$Text", name := "takeOut", desc := "(II)V" } : Jvm.MethodName)) ∈ wsG := tc_4 2 rfl rfl
theorem tw723 : (Cond.code ({ cls := "ProgramDesk$Text", name := "takeOut", desc := "(II)V" } : Jvm.MethodName) prog_8_method_6_code 4 (Option.none : Option Jvm.ClassFile.FieldType)) ∈ wsG := tc_4 3 rfl rfl
theorem tw724 : (Cond.methodLink "ProgramDeskLaw" 87 ({ cls := "ProgramDeskLaw", name := "letter", desc := "(LProgramDesk;I[J)I" } : Jvm.MethodName)) ∈ wsG := tc_4 4 rfl rfl
theorem tw725 : (Cond.static ({ cls := "ProgramDeskLaw", name := "letter", desc := "(LProgramDesk;I[J)I" } : Jvm.MethodName)) ∈ wsG := tc_4 5 rfl rfl
theorem tw726 : (Cond.codeWith ({ cls := "ProgramDeskLaw", name := "letter", desc := "(LProgramDesk;I[J)I" } : Jvm.MethodName) method_5_code 4 (Option.some Jvm.ClassFile.FieldType.int) [(0, 9, 12, 15)]) ∈ wsG := tc_4 6 rfl rfl
theorem tw727 : (Cond.methodLink "ProgramDeskLaw" 23 ({ cls := "ProgramDesk", name := "letter", desc := "(I)C" } : Jvm.MethodName)) ∈ wsG := tc_4 7 rfl rfl
theorem tw728 : (Cond.instanceMethod ({ cls := "ProgramDesk", name := "letter", desc := "(I)C" } : Jvm.MethodName)) ∈ wsG := tc_4 8 rfl rfl
theorem tw729 : (Cond.selects "ProgramDesk" ({ cls := "ProgramDesk", name := "letter", desc := "(I)C" } : Jvm.MethodName) ({ cls := "ProgramDesk", name := "letter", desc := "(I)C" } : Jvm.MethodName)) ∈ wsG := tc_4 9 rfl rfl
theorem tw730 : (Cond.code ({ cls := "ProgramDesk", name := "letter", desc := "(I)C" } : Jvm.MethodName) prog_1_method_7_code 2 (Option.some Jvm.ClassFile.FieldType.char)) ∈ wsG := tc_4 10 rfl rfl
theorem tw731 : (Cond.methodLink "ProgramDeskLaw" 95 ({ cls := "ProgramDeskLaw", name := "token", desc := "(LProgramDesk;II[J)I" } : Jvm.MethodName)) ∈ wsG := tc_4 11 rfl rfl
theorem tw732 : (Cond.static ({ cls := "ProgramDeskLaw", name := "token", desc := "(LProgramDesk;II[J)I" } : Jvm.MethodName)) ∈ wsG := tc_4 12 rfl rfl
theorem tw733 : (Cond.codeWith ({ cls := "ProgramDeskLaw", name := "token", desc := "(LProgramDesk;II[J)I" } : Jvm.MethodName) method_6_code 5 (Option.some Jvm.ClassFile.FieldType.int) [(0, 10, 13, 13), (0, 10, 17, 31)]) ∈ wsG := tc_4 13 rfl rfl
theorem tw734 : (Cond.classLink "ProgramDeskLaw" 31 "java/util/NoSuchElementException") ∈ wsG := tc_4 14 rfl rfl
theorem tw735 : (Cond.methodLink "ProgramDeskLaw" 27 ({ cls := "ProgramDesk", name := "token", desc := "(II)I" } : Jvm.MethodName)) ∈ wsG := tc_4 15 rfl rfl
theorem tw736 : (Cond.instanceMethod ({ cls := "ProgramDesk", name := "token", desc := "(II)I" } : Jvm.MethodName)) ∈ wsG := tc_4 16 rfl rfl
theorem tw737 : (Cond.selects "ProgramDesk" ({ cls := "ProgramDesk", name := "token", desc := "(II)I" } : Jvm.MethodName) ({ cls := "ProgramDesk", name := "token", desc := "(II)I" } : Jvm.MethodName)) ∈ wsG := tc_4 17 rfl rfl
theorem tw738 : (Cond.code ({ cls := "ProgramDesk", name := "token", desc := "(II)I" } : Jvm.MethodName) prog_1_method_9_code 3 (Option.some Jvm.ClassFile.FieldType.int)) ∈ wsG := tc_4 18 rfl rfl
theorem tw739 : (Cond.classLink "ProgramDesk" 93 "java/util/NoSuchElementException") ∈ wsG := tc_4 19 rfl rfl
theorem tw740 : (Cond.instantiable "java/util/NoSuchElementException" 6) ∈ wsG := tc_4 20 rfl rfl
theorem tw742 : (Cond.selects "java/util/NoSuchElementException" ({ cls := "java/lang/Throwable", name := "fillInStackTrace", desc := "(I)Ljava/lang/Throwable;" } : Jvm.MethodName) ({ cls := "java/lang/Throwable", name := "fillInStackTrace", desc := "(I)Ljava/lang/Throwable;" } : Jvm.MethodName)) ∈ wsG := tc_4 22 rfl rfl
theorem tw743 : (Cond.lays "java/util/NoSuchElementException" "java/lang/Throwable" "cause" "Ljava/lang/Throwable;") ∈ wsG := tc_4 23 rfl rfl
theorem tw744 : (Cond.lays "java/util/NoSuchElementException" "java/lang/Throwable" "stackTrace" "[Ljava/lang/StackTraceElement;") ∈ wsG := tc_4 24 rfl rfl
theorem tw745 : (Cond.lays "java/util/NoSuchElementException" "java/lang/Throwable" "suppressedExceptions" "Ljava/util/List;") ∈ wsG := tc_4 25 rfl rfl
theorem tw746 : (Cond.lays "java/util/NoSuchElementException" "java/lang/Throwable" "detailMessage" "Ljava/lang/String;") ∈ wsG := tc_4 26 rfl rfl
theorem tw747 : (Cond.lays "java/util/NoSuchElementException" "java/lang/Throwable" "backtrace" "Ljava/lang/Object;") ∈ wsG := tc_4 27 rfl rfl
theorem tw748 : (Cond.methodLink "ProgramDesk" 95 ({ cls := "java/util/NoSuchElementException", name := "<init>", desc := "()V" } : Jvm.MethodName)) ∈ wsG := tc_4 28 rfl rfl
theorem tw749 : (Cond.instanceMethod ({ cls := "java/util/NoSuchElementException", name := "<init>", desc := "()V" } : Jvm.MethodName)) ∈ wsG := tc_4 29 rfl rfl
theorem tw750 : (Cond.code ({ cls := "java/util/NoSuchElementException", name := "<init>", desc := "()V" } : Jvm.MethodName) prog_24_method_1_code 1 (Option.none : Option Jvm.ClassFile.FieldType)) ∈ wsG := tc_4 30 rfl rfl
theorem tw751 : (Cond.methodLink "java/util/NoSuchElementException" 1 ({ cls := "java/lang/RuntimeException", name := "<init>", desc := "()V" } : Jvm.MethodName)) ∈ wsG := tc_4 31 rfl rfl
theorem tw752 : (Cond.lays "java/util/NoSuchElementException" "java/lang/Throwable" "depth" "I") ∈ wsG := tc_4 32 rfl rfl
theorem tw753 : (Cond.superclass "java/util/NoSuchElementException" "java/lang/RuntimeException") ∈ wsG := tc_4 33 rfl rfl
theorem tw754 : (Cond.methodLink "ProgramDeskLaw" 103 ({ cls := "ProgramDeskLaw", name := "fault", desc := "(LProgramDesk;I[J)I" } : Jvm.MethodName)) ∈ wsG := tc_4 34 rfl rfl
theorem tw755 : (Cond.static ({ cls := "ProgramDeskLaw", name := "fault", desc := "(LProgramDesk;I[J)I" } : Jvm.MethodName)) ∈ wsG := tc_4 35 rfl rfl
theorem tw756 : (Cond.codeWith ({ cls := "ProgramDeskLaw", name := "fault", desc := "(LProgramDesk;I[J)I" } : Jvm.MethodName) method_7_code 4 (Option.some Jvm.ClassFile.FieldType.int) [(0, 9, 12, 31)]) ∈ wsG := tc_4 36 rfl rfl
theorem tw757 : (Cond.methodLink "ProgramDeskLaw" 33 ({ cls := "ProgramDesk", name := "fault", desc := "(I)I" } : Jvm.MethodName)) ∈ wsG := tc_4 37 rfl rfl
theorem tw758 : (Cond.instanceMethod ({ cls := "ProgramDesk", name := "fault", desc := "(I)I" } : Jvm.MethodName)) ∈ wsG := tc_4 38 rfl rfl
theorem tw759 : (Cond.selects "ProgramDesk" ({ cls := "ProgramDesk", name := "fault", desc := "(I)I" } : Jvm.MethodName) ({ cls := "ProgramDesk", name := "fault", desc := "(I)I" } : Jvm.MethodName)) ∈ wsG := tc_4 39 rfl rfl
theorem tw760 : (Cond.code ({ cls := "ProgramDesk", name := "fault", desc := "(I)I" } : Jvm.MethodName) prog_1_method_11_code 2 (Option.some Jvm.ClassFile.FieldType.int)) ∈ wsG := tc_4 40 rfl rfl
theorem tw761 : (Cond.methodLink "ProgramDeskLaw" 106 ({ cls := "ProgramDeskLaw", name := "reference", desc := "(LProgramDesk;II[J)I" } : Jvm.MethodName)) ∈ wsG := tc_4 41 rfl rfl
theorem tw762 : (Cond.static ({ cls := "ProgramDeskLaw", name := "reference", desc := "(LProgramDesk;II[J)I" } : Jvm.MethodName)) ∈ wsG := tc_4 42 rfl rfl
theorem tw763 : (Cond.codeWith ({ cls := "ProgramDeskLaw", name := "reference", desc := "(LProgramDesk;II[J)I" } : Jvm.MethodName) method_8_code 5 (Option.some Jvm.ClassFile.FieldType.int) [(0, 10, 13, 31)]) ∈ wsG := tc_4 43 rfl rfl
theorem tw764 : (Cond.methodLink "ProgramDeskLaw" 37 ({ cls := "ProgramDesk", name := "reference", desc := "(II)I" } : Jvm.MethodName)) ∈ wsG := tc_4 44 rfl rfl
theorem tw765 : (Cond.instanceMethod ({ cls := "ProgramDesk", name := "reference", desc := "(II)I" } : Jvm.MethodName)) ∈ wsG := tc_4 45 rfl rfl
theorem tw766 : (Cond.selects "ProgramDesk" ({ cls := "ProgramDesk", name := "reference", desc := "(II)I" } : Jvm.MethodName) ({ cls := "ProgramDesk", name := "reference", desc := "(II)I" } : Jvm.MethodName)) ∈ wsG := tc_4 46 rfl rfl
theorem tw767 : (Cond.code ({ cls := "ProgramDesk", name := "reference", desc := "(II)I" } : Jvm.MethodName) prog_1_method_12_code 6 (Option.some Jvm.ClassFile.FieldType.int)) ∈ wsG := tc_4 47 rfl rfl
theorem tw768 : (Cond.methodLink "ProgramDesk" 120 ({ cls := "ProgramDesk$Draft", name := "declarationAt", desc := "(I)I" } : Jvm.MethodName)) ∈ wsG := tc_4 48 rfl rfl
theorem tw769 : (Cond.instanceMethod ({ cls := "ProgramDesk$Draft", name := "declarationAt", desc := "(I)I" } : Jvm.MethodName)) ∈ wsG := tc_4 49 rfl rfl
theorem tw770 : (Cond.selects "ProgramDesk$Draft" ({ cls := "ProgramDesk$Draft", name := "declarationAt", desc := "(I)I" } : Jvm.MethodName) ({ cls := "ProgramDesk$Draft", name := "declarationAt", desc := "(I)I" } : Jvm.MethodName)) ∈ wsG := tc_4 50 rfl rfl
theorem tw771 : (Cond.code ({ cls := "ProgramDesk$Draft", name := "declarationAt", desc := "(I)I" } : Jvm.MethodName) prog_3_method_7_code 3 (Option.some Jvm.ClassFile.FieldType.int)) ∈ wsG := tc_4 51 rfl rfl
theorem tw772 : (Cond.methodLink "ProgramDesk$Draft" 130 ({ cls := "ProgramDesk$Tokens", name := "at", desc := "(I)I" } : Jvm.MethodName)) ∈ wsG := tc_4 52 rfl rfl
theorem tw773 : (Cond.instanceMethod ({ cls := "ProgramDesk$Tokens", name := "at", desc := "(I)I" } : Jvm.MethodName)) ∈ wsG := tc_4 53 rfl rfl
theorem tw774 : (Cond.selects "ProgramDesk$Tokens" ({ cls := "ProgramDesk$Tokens", name := "at", desc := "(I)I" } : Jvm.MethodName) ({ cls := "ProgramDesk$Tokens", name := "at", desc := "(I)I" } : Jvm.MethodName)) ∈ wsG := tc_4 54 rfl rfl
theorem tw775 : (Cond.code ({ cls := "ProgramDesk$Tokens", name := "at", desc := "(I)I" } : Jvm.MethodName) prog_9_method_3_code 3 (Option.some Jvm.ClassFile.FieldType.int)) ∈ wsG := tc_4 55 rfl rfl
theorem tw776 : (Cond.methodLink "ProgramDeskLaw" 111 ({ cls := "ProgramDeskLaw", name := "rename", desc := "(LProgramDesk;IJ[J)I" } : Jvm.MethodName)) ∈ wsG := tc_4 56 rfl rfl
theorem tw777 : (Cond.static ({ cls := "ProgramDeskLaw", name := "rename", desc := "(LProgramDesk;IJ[J)I" } : Jvm.MethodName)) ∈ wsG := tc_4 57 rfl rfl
theorem tw778 : (Cond.codeWith ({ cls := "ProgramDeskLaw", name := "rename", desc := "(LProgramDesk;IJ[J)I" } : Jvm.MethodName) method_9_code 6 (Option.some Jvm.ClassFile.FieldType.int) [(0, 11, 14, 13), (0, 11, 18, 17), (0, 11, 22, 31), (0, 11, 26, 44)]) ∈ wsG := tc_4 58 rfl rfl
theorem tw779 : (Cond.classLink "ProgramDeskLaw" 44 "java/lang/UnsupportedOperationException") ∈ wsG := tc_4 59 rfl rfl
theorem tw780 : (Cond.methodLink "ProgramDeskLaw" 40 ({ cls := "ProgramDesk", name := "rename", desc := "(IJ)I" } : Jvm.MethodName)) ∈ wsG := tc_4 60 rfl rfl
theorem tw781 : (Cond.instanceMethod ({ cls := "ProgramDesk", name := "rename", desc := "(IJ)I" } : Jvm.MethodName)) ∈ wsG := tc_4 61 rfl rfl
theorem tw782 : (Cond.selects "ProgramDesk" ({ cls := "ProgramDesk", name := "rename", desc := "(IJ)I" } : Jvm.MethodName) ({ cls := "ProgramDesk", name := "rename", desc := "(IJ)I" } : Jvm.MethodName)) ∈ wsG := tc_4 62 rfl rfl
theorem tw783 : (Cond.code ({ cls := "ProgramDesk", name := "rename", desc := "(IJ)I" } : Jvm.MethodName) prog_1_method_13_code 7 (Option.some Jvm.ClassFile.FieldType.int)) ∈ wsG := tc_4 63 rfl rfl
theorem tw784 : (Cond.methodLink "ProgramDesk" 123 ({ cls := "ProgramDesk", name := "isName", desc := "(J)Z" } : Jvm.MethodName)) ∈ wsG := tc_4 64 rfl rfl
theorem tw785 : (Cond.static ({ cls := "ProgramDesk", name := "isName", desc := "(J)Z" } : Jvm.MethodName)) ∈ wsG := tc_4 65 rfl rfl
theorem tw786 : (Cond.code ({ cls := "ProgramDesk", name := "isName", desc := "(J)Z" } : Jvm.MethodName) prog_1_method_19_code 4 (Option.some Jvm.ClassFile.FieldType.boolean)) ∈ wsG := tc_4 66 rfl rfl
theorem tw787 : (Cond.constantLong "ProgramDesk" 190 1073741824) ∈ wsG := tc_4 67 rfl rfl
theorem tw788 : (Cond.methodLink "ProgramDesk" 192 ({ cls := "ProgramDesk", name := "keyword", desc := "(I)I" } : Jvm.MethodName)) ∈ wsG := tc_4 68 rfl rfl
theorem tw789 : (Cond.methodLink "ProgramDesk" 127 ({ cls := "ProgramDesk$Draft", name := "referencesOf", desc := "(I)I" } : Jvm.MethodName)) ∈ wsG := tc_4 69 rfl rfl
theorem tw790 : (Cond.instanceMethod ({ cls := "ProgramDesk$Draft", name := "referencesOf", desc := "(I)I" } : Jvm.MethodName)) ∈ wsG := tc_4 70 rfl rfl
theorem tw791 : (Cond.selects "ProgramDesk$Draft" ({ cls := "ProgramDesk$Draft", name := "referencesOf", desc := "(I)I" } : Jvm.MethodName) ({ cls := "ProgramDesk$Draft", name := "referencesOf", desc := "(I)I" } : Jvm.MethodName)) ∈ wsG := tc_4 71 rfl rfl
theorem tw792 : (Cond.code ({ cls := "ProgramDesk$Draft", name := "referencesOf", desc := "(I)I" } : Jvm.MethodName) prog_3_method_8_code 4 (Option.some Jvm.ClassFile.FieldType.int)) ∈ wsG := tc_4 72 rfl rfl
theorem tw793 : (Cond.methodLink "ProgramDesk" 133 ({ cls := "ProgramDesk$Draft", name := "copyRenamed", desc := "(LProgramDesk$Draft;II)V" } : Jvm.MethodName)) ∈ wsG := tc_4 73 rfl rfl
theorem tw794 : (Cond.instanceMethod ({ cls := "ProgramDesk$Draft", name := "copyRenamed", desc := "(LProgramDesk$Draft;II)V" } : Jvm.MethodName)) ∈ wsG := tc_4 74 rfl rfl
theorem tw795 : (Cond.selects "ProgramDesk$Draft" ({ cls := "ProgramDesk$Draft", name := "copyRenamed", desc := "(LProgramDesk$Draft;II)V" } : Jvm.MethodName) ({ cls := "ProgramDesk$Draft", name := "copyRenamed", desc := "(LProgramDesk$Draft;II)V" } : Jvm.MethodName)) ∈ wsG := tc_4 75 rfl rfl
theorem tw796 : (Cond.code ({ cls := "ProgramDesk$Draft", name := "copyRenamed", desc := "(LProgramDesk$Draft;II)V" } : Jvm.MethodName) prog_3_method_10_code 6 (Option.none : Option Jvm.ClassFile.FieldType)) ∈ wsG := tc_4 76 rfl rfl
theorem tw797 : (Cond.methodLink "ProgramDesk$Draft" 145 ({ cls := "ProgramDesk$Text", name := "addPiece", desc := "(LProgramDesk$Text;II)V" } : Jvm.MethodName)) ∈ wsG := tc_4 77 rfl rfl
theorem tw798 : (Cond.instanceMethod ({ cls := "ProgramDesk$Text", name := "addPiece", desc := "(LProgramDesk$Text;II)V" } : Jvm.MethodName)) ∈ wsG := tc_4 78 rfl rfl
theorem tw799 : (Cond.selects "ProgramDesk$Text" ({ cls := "ProgramDesk$Text", name := "addPiece", desc := "(LProgramDesk$Text;II)V" } : Jvm.MethodName) ({ cls := "ProgramDesk$Text", name := "addPiece", desc := "(LProgramDesk$Text;II)V" } : Jvm.MethodName)) ∈ wsG := tc_4 79 rfl rfl
theorem tw800 : (Cond.code ({ cls := "ProgramDesk$Text", name := "addPiece", desc := "(LProgramDesk$Text;II)V" } : Jvm.MethodName) prog_8_method_4_code 5 (Option.none : Option Jvm.ClassFile.FieldType)) ∈ wsG := tc_4 80 rfl rfl
theorem tw801 : (Cond.methodLink "ProgramDesk$Draft" 149 ({ cls := "ProgramDesk$Text", name := "addName", desc := "(I)V" } : Jvm.MethodName)) ∈ wsG := tc_4 81 rfl rfl
theorem tw802 : (Cond.methodLink "ProgramDesk" 137 ({ cls := "ProgramDesk$Draft", name := "meansTheSameAs", desc := "(LProgramDesk$Draft;)Z" } : Jvm.MethodName)) ∈ wsG := tc_4 82 rfl rfl
theorem tw803 : (Cond.instanceMethod ({ cls := "ProgramDesk$Draft", name := "meansTheSameAs", desc := "(LProgramDesk$Draft;)Z" } : Jvm.MethodName)) ∈ wsG := tc_4 83 rfl rfl
theorem tw804 : (Cond.selects "ProgramDesk$Draft" ({ cls := "ProgramDesk$Draft", name := "meansTheSameAs", desc := "(LProgramDesk$Draft;)Z" } : Jvm.MethodName) ({ cls := "ProgramDesk$Draft", name := "meansTheSameAs", desc := "(LProgramDesk$Draft;)Z" } : Jvm.MethodName)) ∈ wsG := tc_4 84 rfl rfl
theorem tw805 : (Cond.code ({ cls := "ProgramDesk$Draft", name := "meansTheSameAs", desc := "(LProgramDesk$Draft;)Z" } : Jvm.MethodName) prog_3_method_9_code 3 (Option.some Jvm.ClassFile.FieldType.boolean)) ∈ wsG := tc_4 85 rfl rfl
theorem tw807 : (Cond.methodLink "ProgramDesk$Draft" 139 ({ cls := "ProgramDesk$Functions", name := "find", desc := "(I)I" } : Jvm.MethodName)) ∈ wsG := tc_4 87 rfl rfl
theorem tw808 : (Cond.classLink "ProgramDesk" 141 "java/lang/UnsupportedOperationException") ∈ wsG := tc_4 88 rfl rfl
theorem tw809 : (Cond.instantiable "java/lang/UnsupportedOperationException" 6) ∈ wsG := tc_4 89 rfl rfl
theorem tw811 : (Cond.selects "java/lang/UnsupportedOperationException" ({ cls := "java/lang/Throwable", name := "fillInStackTrace", desc := "(I)Ljava/lang/Throwable;" } : Jvm.MethodName) ({ cls := "java/lang/Throwable", name := "fillInStackTrace", desc := "(I)Ljava/lang/Throwable;" } : Jvm.MethodName)) ∈ wsG := tc_4 91 rfl rfl
theorem tw812 : (Cond.lays "java/lang/UnsupportedOperationException" "java/lang/Throwable" "cause" "Ljava/lang/Throwable;") ∈ wsG := tc_4 92 rfl rfl
theorem tw813 : (Cond.lays "java/lang/UnsupportedOperationException" "java/lang/Throwable" "stackTrace" "[Ljava/lang/StackTraceElement;") ∈ wsG := tc_4 93 rfl rfl
theorem tw814 : (Cond.lays "java/lang/UnsupportedOperationException" "java/lang/Throwable" "suppressedExceptions" "Ljava/util/List;") ∈ wsG := tc_4 94 rfl rfl
theorem tw815 : (Cond.lays "java/lang/UnsupportedOperationException" "java/lang/Throwable" "detailMessage" "Ljava/lang/String;") ∈ wsG := tc_4 95 rfl rfl
theorem tw816 : (Cond.lays "java/lang/UnsupportedOperationException" "java/lang/Throwable" "backtrace" "Ljava/lang/Object;") ∈ wsG := tc_4 96 rfl rfl
theorem tw817 : (Cond.methodLink "ProgramDesk" 143 ({ cls := "java/lang/UnsupportedOperationException", name := "<init>", desc := "()V" } : Jvm.MethodName)) ∈ wsG := tc_4 97 rfl rfl
theorem tw818 : (Cond.instanceMethod ({ cls := "java/lang/UnsupportedOperationException", name := "<init>", desc := "()V" } : Jvm.MethodName)) ∈ wsG := tc_4 98 rfl rfl
theorem tw819 : (Cond.code ({ cls := "java/lang/UnsupportedOperationException", name := "<init>", desc := "()V" } : Jvm.MethodName) prog_23_method_1_code 1 (Option.none : Option Jvm.ClassFile.FieldType)) ∈ wsG := tc_4 99 rfl rfl
theorem tw820 : (Cond.methodLink "java/lang/UnsupportedOperationException" 1 ({ cls := "java/lang/RuntimeException", name := "<init>", desc := "()V" } : Jvm.MethodName)) ∈ wsG := tc_4 100 rfl rfl
theorem tw821 : (Cond.lays "java/lang/UnsupportedOperationException" "java/lang/Throwable" "depth" "I") ∈ wsG := tc_4 101 rfl rfl
theorem tw822 : (Cond.superclass "java/lang/UnsupportedOperationException" "java/lang/RuntimeException") ∈ wsG := tc_4 102 rfl rfl
theorem tw823 : (Cond.methodLink "ProgramDesk" 144 ({ cls := "ProgramDesk", name := "acceptTrial", desc := "()V" } : Jvm.MethodName)) ∈ wsG := tc_4 103 rfl rfl
theorem tw825 : (Cond.instanceMethod ({ cls := "ProgramDesk", name := "acceptTrial", desc := "()V" } : Jvm.MethodName)) ∈ wsG := tc_4 105 rfl rfl
theorem tw826 : (Cond.code ({ cls := "ProgramDesk", name := "acceptTrial", desc := "()V" } : Jvm.MethodName) prog_1_method_17_code 2 (Option.none : Option Jvm.ClassFile.FieldType)) ∈ wsG := tc_4 106 rfl rfl
theorem tw827 : (Cond.methodLink "ProgramDeskLaw" 115 ({ cls := "ProgramDeskLaw", name := "inline", desc := "(LProgramDesk;I[J)I" } : Jvm.MethodName)) ∈ wsG := tc_4 107 rfl rfl
theorem tw828 : (Cond.static ({ cls := "ProgramDeskLaw", name := "inline", desc := "(LProgramDesk;I[J)I" } : Jvm.MethodName)) ∈ wsG := tc_4 108 rfl rfl
theorem tw829 : (Cond.codeWith ({ cls := "ProgramDeskLaw", name := "inline", desc := "(LProgramDesk;I[J)I" } : Jvm.MethodName) method_10_code 4 (Option.some Jvm.ClassFile.FieldType.int) [(0, 9, 12, 17), (0, 9, 15, 31), (0, 9, 18, 44)]) ∈ wsG := tc_4 109 rfl rfl
theorem tw830 : (Cond.methodLink "ProgramDeskLaw" 46 ({ cls := "ProgramDesk", name := "inline", desc := "(I)I" } : Jvm.MethodName)) ∈ wsG := tc_4 110 rfl rfl
theorem tw831 : (Cond.instanceMethod ({ cls := "ProgramDesk", name := "inline", desc := "(I)I" } : Jvm.MethodName)) ∈ wsG := tc_4 111 rfl rfl
theorem tw832 : (Cond.selects "ProgramDesk" ({ cls := "ProgramDesk", name := "inline", desc := "(I)I" } : Jvm.MethodName) ({ cls := "ProgramDesk", name := "inline", desc := "(I)I" } : Jvm.MethodName)) ∈ wsG := tc_4 112 rfl rfl
theorem tw833 : (Cond.code ({ cls := "ProgramDesk", name := "inline", desc := "(I)I" } : Jvm.MethodName) prog_1_method_14_code 4 (Option.some Jvm.ClassFile.FieldType.int)) ∈ wsG := tc_4 113 rfl rfl
theorem tw834 : (Cond.methodLink "ProgramDesk" 150 ({ cls := "ProgramDesk$Names", name := "hasCall", desc := "(I)Z" } : Jvm.MethodName)) ∈ wsG := tc_4 114 rfl rfl
theorem tw835 : (Cond.instanceMethod ({ cls := "ProgramDesk$Names", name := "hasCall", desc := "(I)Z" } : Jvm.MethodName)) ∈ wsG := tc_4 115 rfl rfl
theorem tw836 : (Cond.selects "ProgramDesk$Names" ({ cls := "ProgramDesk$Names", name := "hasCall", desc := "(I)Z" } : Jvm.MethodName) ({ cls := "ProgramDesk$Names", name := "hasCall", desc := "(I)Z" } : Jvm.MethodName)) ∈ wsG := tc_4 116 rfl rfl
theorem tw837 : (Cond.code ({ cls := "ProgramDesk$Names", name := "hasCall", desc := "(I)Z" } : Jvm.MethodName) prog_7_method_11_code 3 (Option.some Jvm.ClassFile.FieldType.boolean)) ∈ wsG := tc_4 117 rfl rfl
theorem tw838 : (Cond.methodLink "ProgramDesk$Names" 85 ({ cls := "ProgramDesk$Names", name := "firstOfExpression", desc := "(I)I" } : Jvm.MethodName)) ∈ wsG := tc_4 118 rfl rfl
theorem tw839 : (Cond.instanceMethod ({ cls := "ProgramDesk$Names", name := "firstOfExpression", desc := "(I)I" } : Jvm.MethodName)) ∈ wsG := tc_4 119 rfl rfl
theorem tw840 : (Cond.selects "ProgramDesk$Names" ({ cls := "ProgramDesk$Names", name := "firstOfExpression", desc := "(I)I" } : Jvm.MethodName) ({ cls := "ProgramDesk$Names", name := "firstOfExpression", desc := "(I)I" } : Jvm.MethodName)) ∈ wsG := tc_4 120 rfl rfl
theorem tw841 : (Cond.code ({ cls := "ProgramDesk$Names", name := "firstOfExpression", desc := "(I)I" } : Jvm.MethodName) prog_7_method_9_code 2 (Option.some Jvm.ClassFile.FieldType.int)) ∈ wsG := tc_4 121 rfl rfl
theorem tw842 : (Cond.methodLink "ProgramDesk$Names" 88 ({ cls := "ProgramDesk$Names", name := "semicolonOf", desc := "(I)I" } : Jvm.MethodName)) ∈ wsG := tc_4 122 rfl rfl
theorem tw843 : (Cond.instanceMethod ({ cls := "ProgramDesk$Names", name := "semicolonOf", desc := "(I)I" } : Jvm.MethodName)) ∈ wsG := tc_4 123 rfl rfl
theorem tw844 : (Cond.selects "ProgramDesk$Names" ({ cls := "ProgramDesk$Names", name := "semicolonOf", desc := "(I)I" } : Jvm.MethodName) ({ cls := "ProgramDesk$Names", name := "semicolonOf", desc := "(I)I" } : Jvm.MethodName)) ∈ wsG := tc_4 124 rfl rfl
theorem tw845 : (Cond.code ({ cls := "ProgramDesk$Names", name := "semicolonOf", desc := "(I)I" } : Jvm.MethodName) prog_7_method_10_code 2 (Option.some Jvm.ClassFile.FieldType.int)) ∈ wsG := tc_4 125 rfl rfl
theorem tw846 : (Cond.methodLink "ProgramDesk" 154 ({ cls := "ProgramDesk$Names", name := "isOvertaken", desc := "(I)Z" } : Jvm.MethodName)) ∈ wsG := tc_4 126 rfl rfl
theorem tw847 : (Cond.instanceMethod ({ cls := "ProgramDesk$Names", name := "isOvertaken", desc := "(I)Z" } : Jvm.MethodName)) ∈ wsG := tc_4 127 rfl rfl
theorem tw848 : (Cond.selects "ProgramDesk$Names" ({ cls := "ProgramDesk$Names", name := "isOvertaken", desc := "(I)Z" } : Jvm.MethodName) ({ cls := "ProgramDesk$Names", name := "isOvertaken", desc := "(I)Z" } : Jvm.MethodName)) ∈ wsG := tc_4 128 rfl rfl
theorem tw849 : (Cond.code ({ cls := "ProgramDesk$Names", name := "isOvertaken", desc := "(I)Z" } : Jvm.MethodName) prog_7_method_12_code 3 (Option.some Jvm.ClassFile.FieldType.boolean)) ∈ wsG := tc_4 129 rfl rfl
theorem tw850 : (Cond.methodLink "ProgramDesk$Names" 91 ({ cls := "ProgramDesk$Names", name := "standsOn", desc := "(II)Z" } : Jvm.MethodName)) ∈ wsG := tc_4 130 rfl rfl
theorem tw852 : (Cond.instanceMethod ({ cls := "ProgramDesk$Names", name := "standsOn", desc := "(II)Z" } : Jvm.MethodName)) ∈ wsG := tc_4 132 rfl rfl
theorem tw853 : (Cond.code ({ cls := "ProgramDesk$Names", name := "standsOn", desc := "(II)Z" } : Jvm.MethodName) prog_7_method_13_code 4 (Option.some Jvm.ClassFile.FieldType.boolean)) ∈ wsG := tc_4 133 rfl rfl
theorem tw854 : (Cond.methodLink "ProgramDesk" 157 ({ cls := "ProgramDesk$Names", name := "losesMeaning", desc := "(I)Z" } : Jvm.MethodName)) ∈ wsG := tc_4 134 rfl rfl
theorem tw855 : (Cond.instanceMethod ({ cls := "ProgramDesk$Names", name := "losesMeaning", desc := "(I)Z" } : Jvm.MethodName)) ∈ wsG := tc_4 135 rfl rfl
theorem tw856 : (Cond.selects "ProgramDesk$Names" ({ cls := "ProgramDesk$Names", name := "losesMeaning", desc := "(I)Z" } : Jvm.MethodName) ({ cls := "ProgramDesk$Names", name := "losesMeaning", desc := "(I)Z" } : Jvm.MethodName)) ∈ wsG := tc_4 136 rfl rfl
theorem tw857 : (Cond.code ({ cls := "ProgramDesk$Names", name := "losesMeaning", desc := "(I)Z" } : Jvm.MethodName) prog_7_method_14_code 3 (Option.some Jvm.ClassFile.FieldType.boolean)) ∈ wsG := tc_4 137 rfl rfl
theorem tw858 : (Cond.methodLink "ProgramDesk$Names" 94 ({ cls := "ProgramDesk$Names", name := "keepsMeaningAt", desc := "(II)Z" } : Jvm.MethodName)) ∈ wsG := tc_4 138 rfl rfl
theorem tw860 : (Cond.instanceMethod ({ cls := "ProgramDesk$Names", name := "keepsMeaningAt", desc := "(II)Z" } : Jvm.MethodName)) ∈ wsG := tc_4 140 rfl rfl
theorem tw861 : (Cond.code ({ cls := "ProgramDesk$Names", name := "keepsMeaningAt", desc := "(II)Z" } : Jvm.MethodName) prog_7_method_15_code 4 (Option.some Jvm.ClassFile.FieldType.boolean)) ∈ wsG := tc_4 141 rfl rfl
theorem tw862 : (Cond.methodLink "ProgramDesk" 160 ({ cls := "ProgramDesk$Draft", name := "sizeInlined", desc := "(II)I" } : Jvm.MethodName)) ∈ wsG := tc_4 142 rfl rfl
theorem tw863 : (Cond.instanceMethod ({ cls := "ProgramDesk$Draft", name := "sizeInlined", desc := "(II)I" } : Jvm.MethodName)) ∈ wsG := tc_4 143 rfl rfl
theorem tw864 : (Cond.selects "ProgramDesk$Draft" ({ cls := "ProgramDesk$Draft", name := "sizeInlined", desc := "(II)I" } : Jvm.MethodName) ({ cls := "ProgramDesk$Draft", name := "sizeInlined", desc := "(II)I" } : Jvm.MethodName)) ∈ wsG := tc_4 144 rfl rfl
theorem tw865 : (Cond.code ({ cls := "ProgramDesk$Draft", name := "sizeInlined", desc := "(II)I" } : Jvm.MethodName) prog_3_method_11_code 7 (Option.some Jvm.ClassFile.FieldType.int)) ∈ wsG := tc_4 145 rfl rfl
theorem tw866 : (Cond.methodLink "ProgramDesk$Draft" 152 ({ cls := "ProgramDesk$Names", name := "semicolonOf", desc := "(I)I" } : Jvm.MethodName)) ∈ wsG := tc_4 146 rfl rfl
theorem tw867 : (Cond.methodLink "ProgramDesk$Draft" 155 ({ cls := "ProgramDesk$Names", name := "firstOfExpression", desc := "(I)I" } : Jvm.MethodName)) ∈ wsG := tc_4 147 rfl rfl
theorem tw868 : (Cond.methodLink "ProgramDesk" 164 ({ cls := "ProgramDesk$Draft", name := "copyInlined", desc := "(LProgramDesk$Draft;I)V" } : Jvm.MethodName)) ∈ wsG := tc_4 148 rfl rfl
theorem tw869 : (Cond.instanceMethod ({ cls := "ProgramDesk$Draft", name := "copyInlined", desc := "(LProgramDesk$Draft;I)V" } : Jvm.MethodName)) ∈ wsG := tc_4 149 rfl rfl
theorem tw870 : (Cond.selects "ProgramDesk$Draft" ({ cls := "ProgramDesk$Draft", name := "copyInlined", desc := "(LProgramDesk$Draft;I)V" } : Jvm.MethodName) ({ cls := "ProgramDesk$Draft", name := "copyInlined", desc := "(LProgramDesk$Draft;I)V" } : Jvm.MethodName)) ∈ wsG := tc_4 150 rfl rfl
theorem tw871 : (Cond.code ({ cls := "ProgramDesk$Draft", name := "copyInlined", desc := "(LProgramDesk$Draft;I)V" } : Jvm.MethodName) prog_3_method_12_code 8 (Option.none : Option Jvm.ClassFile.FieldType)) ∈ wsG := tc_4 151 rfl rfl
theorem tw872 : (Cond.methodLink "ProgramDesk$Draft" 158 ({ cls := "ProgramDesk$Text", name := "add", desc := "(C)V" } : Jvm.MethodName)) ∈ wsG := tc_4 152 rfl rfl
theorem tw873 : (Cond.methodLink "ProgramDeskLaw" 118 ({ cls := "ProgramDeskLaw", name := "run", desc := "(LProgramDesk;I[J)I" } : Jvm.MethodName)) ∈ wsG := tc_4 153 rfl rfl
theorem tw874 : (Cond.static ({ cls := "ProgramDeskLaw", name := "run", desc := "(LProgramDesk;I[J)I" } : Jvm.MethodName)) ∈ wsG := tc_4 154 rfl rfl
theorem tw875 : (Cond.codeWith ({ cls := "ProgramDeskLaw", name := "run", desc := "(LProgramDesk;I[J)I" } : Jvm.MethodName) method_11_code 4 (Option.some Jvm.ClassFile.FieldType.int) [(0, 9, 12, 17), (0, 9, 15, 31)]) ∈ wsG := tc_4 155 rfl rfl
theorem tw876 : (Cond.methodLink "ProgramDeskLaw" 49 ({ cls := "ProgramDesk", name := "run", desc := "(I)I" } : Jvm.MethodName)) ∈ wsG := tc_4 156 rfl rfl
theorem tw877 : (Cond.instanceMethod ({ cls := "ProgramDesk", name := "run", desc := "(I)I" } : Jvm.MethodName)) ∈ wsG := tc_4 157 rfl rfl
theorem tw878 : (Cond.selects "ProgramDesk" ({ cls := "ProgramDesk", name := "run", desc := "(I)I" } : Jvm.MethodName) ({ cls := "ProgramDesk", name := "run", desc := "(I)I" } : Jvm.MethodName)) ∈ wsG := tc_4 158 rfl rfl
theorem tw879 : (Cond.code ({ cls := "ProgramDesk", name := "run", desc := "(I)I" } : Jvm.MethodName) prog_1_method_15_code 3 (Option.some Jvm.ClassFile.FieldType.int)) ∈ wsG := tc_4 159 rfl rfl
theorem tw880 : (Cond.methodLink "ProgramDesk" 172 ({ cls := "ProgramDesk$Functions", name := "find", desc := "(I)I" } : Jvm.MethodName)) ∈ wsG := tc_4 160 rfl rfl
theorem tw881 : (Cond.methodLink "ProgramDesk" 177 ({ cls := "ProgramDesk$Machine", name := "perform", desc := "(LProgramDesk$Draft;II)I" } : Jvm.MethodName)) ∈ wsG := tc_4 161 rfl rfl
theorem tw882 : (Cond.instanceMethod ({ cls := "ProgramDesk$Machine", name := "perform", desc := "(LProgramDesk$Draft;II)I" } : Jvm.MethodName)) ∈ wsG := tc_4 162 rfl rfl
theorem tw883 : (Cond.selects "ProgramDesk$Machine" ({ cls := "ProgramDesk$Machine", name := "perform", desc := "(LProgramDesk$Draft;II)I" } : Jvm.MethodName) ({ cls := "ProgramDesk$Machine", name := "perform", desc := "(LProgramDesk$Draft;II)I" } : Jvm.MethodName)) ∈ wsG := tc_4 163 rfl rfl
theorem tw884 : (Cond.code ({ cls := "ProgramDesk$Machine", name := "perform", desc := "(LProgramDesk$Draft;II)I" } : Jvm.MethodName) prog_6_method_2_code 5 (Option.some Jvm.ClassFile.FieldType.int)) ∈ wsG := tc_4 164 rfl rfl
theorem tw885 : (Cond.methodLink "ProgramDesk$Machine" 54 ({ cls := "ProgramDesk$Machine", name := "push", desc := "(I)V" } : Jvm.MethodName)) ∈ wsG := tc_4 165 rfl rfl
theorem tw887 : (Cond.instanceMethod ({ cls := "ProgramDesk$Machine", name := "push", desc := "(I)V" } : Jvm.MethodName)) ∈ wsG := tc_4 167 rfl rfl
theorem tw888 : (Cond.code ({ cls := "ProgramDesk$Machine", name := "push", desc := "(I)V" } : Jvm.MethodName) prog_6_method_10_code 2 (Option.none : Option Jvm.ClassFile.FieldType)) ∈ wsG := tc_4 168 rfl rfl
theorem tw889 : (Cond.methodLink "ProgramDesk$Machine" 58 ({ cls := "ProgramDesk$Machine", name := "begin", desc := "(LProgramDesk$Functions;I)V" } : Jvm.MethodName)) ∈ wsG := tc_4 169 rfl rfl
theorem tw891 : (Cond.instanceMethod ({ cls := "ProgramDesk$Machine", name := "begin", desc := "(LProgramDesk$Functions;I)V" } : Jvm.MethodName)) ∈ wsG := tc_4 171 rfl rfl
theorem tw892 : (Cond.code ({ cls := "ProgramDesk$Machine", name := "begin", desc := "(LProgramDesk$Functions;I)V" } : Jvm.MethodName) prog_6_method_5_code 4 (Option.none : Option Jvm.ClassFile.FieldType)) ∈ wsG := tc_4 172 rfl rfl
theorem tw893 : (Cond.methodLink "ProgramDesk$Machine" 114 ({ cls := "ProgramDesk$Machine", name := "countOne", desc := "()V" } : Jvm.MethodName)) ∈ wsG := tc_4 173 rfl rfl
theorem tw895 : (Cond.instanceMethod ({ cls := "ProgramDesk$Machine", name := "countOne", desc := "()V" } : Jvm.MethodName)) ∈ wsG := tc_4 175 rfl rfl
theorem tw896 : (Cond.code ({ cls := "ProgramDesk$Machine", name := "countOne", desc := "()V" } : Jvm.MethodName) prog_6_method_7_code 1 (Option.none : Option Jvm.ClassFile.FieldType)) ∈ wsG := tc_4 176 rfl rfl
theorem tw897 : (Cond.methodLink "ProgramDesk$Machine" 94 ({ cls := "ProgramDesk$Machine", name := "slot", desc := "(I)I" } : Jvm.MethodName)) ∈ wsG := tc_4 177 rfl rfl
theorem tw899 : (Cond.instanceMethod ({ cls := "ProgramDesk$Machine", name := "slot", desc := "(I)I" } : Jvm.MethodName)) ∈ wsG := tc_4 179 rfl rfl
theorem tw900 : (Cond.code ({ cls := "ProgramDesk$Machine", name := "slot", desc := "(I)I" } : Jvm.MethodName) prog_6_method_9_code 2 (Option.some Jvm.ClassFile.FieldType.int)) ∈ wsG := tc_4 180 rfl rfl
theorem tw901 : (Cond.methodLink "ProgramDesk$Machine" 98 ({ cls := "ProgramDesk$Machine", name := "pop", desc := "()I" } : Jvm.MethodName)) ∈ wsG := tc_4 181 rfl rfl
theorem tw903 : (Cond.instanceMethod ({ cls := "ProgramDesk$Machine", name := "pop", desc := "()I" } : Jvm.MethodName)) ∈ wsG := tc_4 183 rfl rfl
theorem tw904 : (Cond.code ({ cls := "ProgramDesk$Machine", name := "pop", desc := "()I" } : Jvm.MethodName) prog_6_method_11_code 1 (Option.some Jvm.ClassFile.FieldType.int)) ∈ wsG := tc_4 184 rfl rfl
theorem tw905 : (Cond.constant "ProgramDesk$Machine" 62 1000000) ∈ wsG := tc_4 185 rfl rfl
theorem tw906 : (Cond.methodLink "ProgramDesk$Machine" 81 ({ cls := "ProgramDesk$Machine", name := "advance", desc := "(LProgramDesk$Draft;II)V" } : Jvm.MethodName)) ∈ wsG := tc_4 186 rfl rfl
theorem tw908 : (Cond.instanceMethod ({ cls := "ProgramDesk$Machine", name := "advance", desc := "(LProgramDesk$Draft;II)V" } : Jvm.MethodName)) ∈ wsG := tc_4 188 rfl rfl
theorem tw909 : (Cond.code ({ cls := "ProgramDesk$Machine", name := "advance", desc := "(LProgramDesk$Draft;II)V" } : Jvm.MethodName) prog_6_method_3_code 4 (Option.none : Option Jvm.ClassFile.FieldType)) ∈ wsG := tc_4 189 rfl rfl
theorem tw910 : (Cond.methodLink "ProgramDesk$Machine" 111 ({ cls := "ProgramDesk$Functions", name := "find", desc := "(I)I" } : Jvm.MethodName)) ∈ wsG := tc_4 190 rfl rfl
theorem tw911 : (Cond.methodLink "ProgramDesk$Machine" 117 ({ cls := "ProgramDesk$Machine", name := "keep", desc := "(I)V" } : Jvm.MethodName)) ∈ wsG := tc_4 191 rfl rfl
theorem tw913 : (Cond.instanceMethod ({ cls := "ProgramDesk$Machine", name := "keep", desc := "(I)V" } : Jvm.MethodName)) ∈ wsG := tc_4 193 rfl rfl
theorem tw914 : (Cond.code ({ cls := "ProgramDesk$Machine", name := "keep", desc := "(I)V" } : Jvm.MethodName) prog_6_method_8_code 2 (Option.none : Option Jvm.ClassFile.FieldType)) ∈ wsG := tc_4 194 rfl rfl
theorem tw915 : (Cond.methodLink "ProgramDesk$Machine" 120 ({ cls := "ProgramDesk$Machine", name := "end", desc := "(I)V" } : Jvm.MethodName)) ∈ wsG := tc_4 195 rfl rfl
theorem tw917 : (Cond.instanceMethod ({ cls := "ProgramDesk$Machine", name := "end", desc := "(I)V" } : Jvm.MethodName)) ∈ wsG := tc_4 197 rfl rfl
theorem tw918 : (Cond.code ({ cls := "ProgramDesk$Machine", name := "end", desc := "(I)V" } : Jvm.MethodName) prog_6_method_6_code 2 (Option.none : Option Jvm.ClassFile.FieldType)) ∈ wsG := tc_4 198 rfl rfl
theorem tw919 : (Cond.methodLink "ProgramDesk$Machine" 123 ({ cls := "ProgramDesk$Machine", name := "combine", desc := "(I)V" } : Jvm.MethodName)) ∈ wsG := tc_4 199 rfl rfl
theorem tw921 : (Cond.instanceMethod ({ cls := "ProgramDesk$Machine", name := "combine", desc := "(I)V" } : Jvm.MethodName)) ∈ wsG := tc_4 201 rfl rfl
theorem tw922 : (Cond.code ({ cls := "ProgramDesk$Machine", name := "combine", desc := "(I)V" } : Jvm.MethodName) prog_6_method_4_code 4 (Option.none : Option Jvm.ClassFile.FieldType)) ∈ wsG := tc_4 202 rfl rfl
theorem tw923 : (Cond.methodLink "ProgramDeskLaw" 121 ({ cls := "ProgramDeskLaw", name := "output", desc := "(LProgramDesk;I[J)I" } : Jvm.MethodName)) ∈ wsG := tc_4 203 rfl rfl
theorem tw924 : (Cond.static ({ cls := "ProgramDeskLaw", name := "output", desc := "(LProgramDesk;I[J)I" } : Jvm.MethodName)) ∈ wsG := tc_4 204 rfl rfl
theorem tw925 : (Cond.codeWith ({ cls := "ProgramDeskLaw", name := "output", desc := "(LProgramDesk;I[J)I" } : Jvm.MethodName) method_12_code 4 (Option.some Jvm.ClassFile.FieldType.int) [(0, 9, 12, 31)]) ∈ wsG := tc_4 205 rfl rfl
theorem tw926 : (Cond.methodLink "ProgramDeskLaw" 52 ({ cls := "ProgramDesk", name := "output", desc := "(I)I" } : Jvm.MethodName)) ∈ wsG := tc_4 206 rfl rfl
theorem tw927 : (Cond.instanceMethod ({ cls := "ProgramDesk", name := "output", desc := "(I)I" } : Jvm.MethodName)) ∈ wsG := tc_4 207 rfl rfl
theorem tw928 : (Cond.selects "ProgramDesk" ({ cls := "ProgramDesk", name := "output", desc := "(I)I" } : Jvm.MethodName) ({ cls := "ProgramDesk", name := "output", desc := "(I)I" } : Jvm.MethodName)) ∈ wsG := tc_4 208 rfl rfl
theorem tw929 : (Cond.code ({ cls := "ProgramDesk", name := "output", desc := "(I)I" } : Jvm.MethodName) prog_1_method_16_code 2 (Option.some Jvm.ClassFile.FieldType.int)) ∈ wsG := tc_4 209 rfl rfl
theorem tw930 : (Cond.classLink "ProgramDeskLaw" 56 "ProgramDeskModel") ∈ wsG := tc_4 210 rfl rfl
theorem tw931 : (Cond.instantiable "ProgramDeskModel" 54) ∈ wsG := tc_4 211 rfl rfl
theorem tw932 : (Cond.methodLink "ProgramDeskLaw" 58 ({ cls := "ProgramDeskModel", name := "<init>", desc := "()V" } : Jvm.MethodName)) ∈ wsG := tc_4 212 rfl rfl
theorem tw933 : (Cond.instanceMethod ({ cls := "ProgramDeskModel", name := "<init>", desc := "()V" } : Jvm.MethodName)) ∈ wsG := tc_4 213 rfl rfl
theorem tw934 : (Cond.code ({ cls := "ProgramDeskModel", name := "<init>", desc := "()V" } : Jvm.MethodName) prog_11_method_1_code 1 (Option.none : Option Jvm.ClassFile.FieldType)) ∈ wsG := tc_4 214 rfl rfl
theorem tw935 : (Cond.methodLink "ProgramDeskModel" 1 ({ cls := "java/lang/Object", name := "<init>", desc := "()V" } : Jvm.MethodName)) ∈ wsG := tc_4 215 rfl rfl
theorem tw936 : (Cond.constantLong "ProgramDeskModel" 7 454) ∈ wsG := tc_4 216 rfl rfl
theorem tw937 : (Cond.constantLong "ProgramDeskModel" 9 20652) ∈ wsG := tc_4 217 rfl rfl
theorem tw938 : (Cond.constantLong "ProgramDeskModel" 11 201) ∈ wsG := tc_4 218 rfl rfl
theorem tw939 : (Cond.constantLong "ProgramDeskModel" 13 5645591) ∈ wsG := tc_4 219 rfl rfl
theorem tw940 : (Cond.constantLong "ProgramDeskModel" 15 21440080) ∈ wsG := tc_4 220 rfl rfl
theorem tw941 : (Cond.constantLong "ProgramDeskModel" 17 489345202) ∈ wsG := tc_4 221 rfl rfl
theorem tw942 : (Cond.fieldLink "ProgramDeskModel" 19 "ProgramDeskModel" "keywords" "[J") ∈ wsG := tc_4 222 rfl rfl
theorem tw943 : (Cond.fieldLink "ProgramDeskModel" 132 "ProgramDeskModel" "code" "I") ∈ wsG := tc_4 223 rfl rfl
theorem tw944 : (Cond.fieldLink "ProgramDeskModel" 25 "ProgramDeskModel" "text" "[I") ∈ wsG := tc_4 224 rfl rfl
theorem tw945 : (Cond.fieldLink "ProgramDeskModel" 140 "ProgramDeskModel" "length" "I") ∈ wsG := tc_4 225 rfl rfl
theorem tw946 : (Cond.fieldLink "ProgramDeskModel" 29 "ProgramDeskModel" "old" "[I") ∈ wsG := tc_4 226 rfl rfl
theorem tw947 : (Cond.fieldLink "ProgramDeskModel" 276 "ProgramDeskModel" "oldLength" "I") ∈ wsG := tc_4 227 rfl rfl
theorem tw948 : (Cond.fieldLink "ProgramDeskModel" 32 "ProgramDeskModel" "fresh" "[I") ∈ wsG := tc_4 228 rfl rfl
theorem tw949 : (Cond.fieldLink "ProgramDeskModel" 157 "ProgramDeskModel" "tokens" "I") ∈ wsG := tc_4 229 rfl rfl
theorem tw950 : (Cond.fieldLink "ProgramDeskModel" 35 "ProgramDeskModel" "kind" "[I") ∈ wsG := tc_4 230 rfl rfl
theorem tw951 : (Cond.fieldLink "ProgramDeskModel" 38 "ProgramDeskModel" "from" "[I") ∈ wsG := tc_4 231 rfl rfl
theorem tw952 : (Cond.fieldLink "ProgramDeskModel" 41 "ProgramDeskModel" "to" "[I") ∈ wsG := tc_4 232 rfl rfl
theorem tw953 : (Cond.fieldLink "ProgramDeskModel" 44 "ProgramDeskModel" "word" "[J") ∈ wsG := tc_4 233 rfl rfl
theorem tw954 : (Cond.fieldLink "ProgramDeskModel" 47 "ProgramDeskModel" "role" "[I") ∈ wsG := tc_4 234 rfl rfl
theorem tw955 : (Cond.fieldLink "ProgramDeskModel" 50 "ProgramDeskModel" "bound" "[I") ∈ wsG := tc_4 235 rfl rfl
theorem tw956 : (Cond.fieldLink "ProgramDeskModel" 53 "ProgramDeskModel" "before" "[I") ∈ wsG := tc_4 236 rfl rfl
theorem tw957 : (Cond.fieldLink "ProgramDeskModel" 56 "ProgramDeskModel" "given" "[I") ∈ wsG := tc_4 237 rfl rfl
theorem tw958 : (Cond.fieldLink "ProgramDeskModel" 59 "ProgramDeskModel" "scope" "[I") ∈ wsG := tc_4 238 rfl rfl
theorem tw959 : (Cond.fieldLink "ProgramDeskModel" 62 "ProgramDeskModel" "since" "[I") ∈ wsG := tc_4 239 rfl rfl
theorem tw960 : (Cond.fieldLink "ProgramDeskModel" 65 "ProgramDeskModel" "until" "[I") ∈ wsG := tc_5 0 rfl rfl
theorem tw961 : (Cond.fieldLink "ProgramDeskModel" 237 "ProgramDeskModel" "parts" "I") ∈ wsG := tc_5 1 rfl rfl
theorem tw962 : (Cond.fieldLink "ProgramDeskModel" 68 "ProgramDeskModel" "first" "[I") ∈ wsG := tc_5 2 rfl rfl
theorem tw963 : (Cond.fieldLink "ProgramDeskModel" 71 "ProgramDeskModel" "behind" "[I") ∈ wsG := tc_5 3 rfl rfl
theorem tw964 : (Cond.fieldLink "ProgramDeskModel" 74 "ProgramDeskModel" "broken" "[I") ∈ wsG := tc_5 4 rfl rfl
theorem tw965 : (Cond.fieldLink "ProgramDeskModel" 77 "ProgramDeskModel" "parameters" "[I") ∈ wsG := tc_5 5 rfl rfl
theorem tw966 : (Cond.fieldLink "ProgramDeskModel" 234 "ProgramDeskModel" "faults" "I") ∈ wsG := tc_5 6 rfl rfl
theorem tw967 : (Cond.fieldLink "ProgramDeskModel" 80 "ProgramDeskModel" "fault" "[I") ∈ wsG := tc_5 7 rfl rfl
theorem tw968 : (Cond.fieldLink "ProgramDeskModel" 178 "ProgramDeskModel" "state" "I") ∈ wsG := tc_5 8 rfl rfl
theorem tw969 : (Cond.fieldLink "ProgramDeskModel" 181 "ProgramDeskModel" "blocks" "I") ∈ wsG := tc_5 9 rfl rfl
theorem tw970 : (Cond.fieldLink "ProgramDeskModel" 83 "ProgramDeskModel" "opened" "[I") ∈ wsG := tc_5 10 rfl rfl
theorem tw971 : (Cond.fieldLink "ProgramDeskModel" 190 "ProgramDeskModel" "frames" "I") ∈ wsG := tc_5 11 rfl rfl
theorem tw972 : (Cond.fieldLink "ProgramDeskModel" 86 "ProgramDeskModel" "caller" "[I") ∈ wsG := tc_5 12 rfl rfl
theorem tw973 : (Cond.fieldLink "ProgramDeskModel" 89 "ProgramDeskModel" "less" "[Z") ∈ wsG := tc_5 13 rfl rfl
theorem tw974 : (Cond.fieldLink "ProgramDeskModel" 187 "ProgramDeskModel" "ending" "I") ∈ wsG := tc_5 14 rfl rfl
theorem tw975 : (Cond.fieldLink "ProgramDeskModel" 200 "ProgramDeskModel" "letName" "I") ∈ wsG := tc_5 15 rfl rfl
theorem tw976 : (Cond.fieldLink "ProgramDeskModel" 306 "ProgramDeskModel" "size" "I") ∈ wsG := tc_5 16 rfl rfl
theorem tw977 : (Cond.fieldLink "ProgramDeskModel" 93 "ProgramDeskModel" "does" "[I") ∈ wsG := tc_5 17 rfl rfl
theorem tw978 : (Cond.fieldLink "ProgramDeskModel" 96 "ProgramDeskModel" "with" "[I") ∈ wsG := tc_5 18 rfl rfl
theorem tw979 : (Cond.fieldLink "ProgramDeskModel" 99 "ProgramDeskModel" "entry" "[I") ∈ wsG := tc_5 19 rfl rfl
theorem tw980 : (Cond.fieldLink "ProgramDeskModel" 102 "ProgramDeskModel" "slot" "[I") ∈ wsG := tc_5 20 rfl rfl
theorem tw981 : (Cond.fieldLink "ProgramDeskModel" 309 "ProgramDeskModel" "waiting" "I") ∈ wsG := tc_5 21 rfl rfl
theorem tw982 : (Cond.fieldLink "ProgramDeskModel" 105 "ProgramDeskModel" "wait" "[I") ∈ wsG := tc_5 22 rfl rfl
theorem tw983 : (Cond.fieldLink "ProgramDeskModel" 108 "ProgramDeskModel" "waitFor" "[I") ∈ wsG := tc_5 23 rfl rfl
theorem tw984 : (Cond.fieldLink "ProgramDeskModel" 111 "ProgramDeskModel" "blockKind" "[I") ∈ wsG := tc_5 24 rfl rfl
theorem tw985 : (Cond.fieldLink "ProgramDeskModel" 114 "ProgramDeskModel" "patch" "[I") ∈ wsG := tc_5 25 rfl rfl
theorem tw986 : (Cond.fieldLink "ProgramDeskModel" 117 "ProgramDeskModel" "again" "[I") ∈ wsG := tc_5 26 rfl rfl
theorem tw987 : (Cond.fieldLink "ProgramDeskModel" 120 "ProgramDeskModel" "local" "[I") ∈ wsG := tc_5 27 rfl rfl
theorem tw988 : (Cond.fieldLink "ProgramDeskModel" 123 "ProgramDeskModel" "back" "[I") ∈ wsG := tc_5 28 rfl rfl
theorem tw989 : (Cond.fieldLink "ProgramDeskModel" 126 "ProgramDeskModel" "stack" "[I") ∈ wsG := tc_5 29 rfl rfl
theorem tw990 : (Cond.fieldLink "ProgramDeskModel" 327 "ProgramDeskModel" "top" "I") ∈ wsG := tc_5 30 rfl rfl
theorem tw991 : (Cond.fieldLink "ProgramDeskModel" 330 "ProgramDeskModel" "depth" "I") ∈ wsG := tc_5 31 rfl rfl
theorem tw992 : (Cond.fieldLink "ProgramDeskModel" 333 "ProgramDeskModel" "counted" "I") ∈ wsG := tc_5 32 rfl rfl
theorem tw993 : (Cond.fieldLink "ProgramDeskModel" 343 "ProgramDeskModel" "printed" "I") ∈ wsG := tc_5 33 rfl rfl
theorem tw994 : (Cond.fieldLink "ProgramDeskModel" 129 "ProgramDeskModel" "shown" "[I") ∈ wsG := tc_5 34 rfl rfl
theorem tw995 : (Cond.fieldLink "ProgramDeskModel" 346 "ProgramDeskModel" "result" "I") ∈ wsG := tc_5 35 rfl rfl
theorem tw1104 : (Cond.superclass "ProgramDeskModel" "java/lang/Object") ∈ wsG := tc_5 144 rfl rfl
theorem tw1105 : (Cond.arrayClass Jvm.ClassFile.FieldType.long) ∈ wsG := tc_5 145 rfl rfl
theorem tw1106 : (Cond.arrayClass Jvm.ClassFile.FieldType.boolean) ∈ wsG := tc_5 146 rfl rfl
theorem tw1107 : (Cond.methodLink "ProgramDeskLaw" 75 ({ cls := "ProgramDeskModel", name := "thrown", desc := "()I" } : Jvm.MethodName)) ∈ wsG := tc_5 147 rfl rfl
theorem tw1108 : (Cond.instanceMethod ({ cls := "ProgramDeskModel", name := "thrown", desc := "()I" } : Jvm.MethodName)) ∈ wsG := tc_5 148 rfl rfl
theorem tw1109 : (Cond.selects "ProgramDeskModel" ({ cls := "ProgramDeskModel", name := "thrown", desc := "()I" } : Jvm.MethodName) ({ cls := "ProgramDeskModel", name := "thrown", desc := "()I" } : Jvm.MethodName)) ∈ wsG := tc_5 149 rfl rfl
theorem tw1110 : (Cond.code ({ cls := "ProgramDeskModel", name := "thrown", desc := "()I" } : Jvm.MethodName) prog_11_method_2_code 1 (Option.some Jvm.ClassFile.FieldType.int)) ∈ wsG := tc_5 150 rfl rfl
theorem tw1111 : (Cond.methodLink "ProgramDeskLaw" 63 ({ cls := "ProgramDeskModel", name := "type", desc := "(C)Z" } : Jvm.MethodName)) ∈ wsG := tc_5 151 rfl rfl
theorem tw1112 : (Cond.instanceMethod ({ cls := "ProgramDeskModel", name := "type", desc := "(C)Z" } : Jvm.MethodName)) ∈ wsG := tc_5 152 rfl rfl
theorem tw1113 : (Cond.selects "ProgramDeskModel" ({ cls := "ProgramDeskModel", name := "type", desc := "(C)Z" } : Jvm.MethodName) ({ cls := "ProgramDeskModel", name := "type", desc := "(C)Z" } : Jvm.MethodName)) ∈ wsG := tc_5 153 rfl rfl
theorem tw1114 : (Cond.code ({ cls := "ProgramDeskModel", name := "type", desc := "(C)Z" } : Jvm.MethodName) prog_11_method_7_code 2 (Option.some Jvm.ClassFile.FieldType.boolean)) ∈ wsG := tc_5 154 rfl rfl
theorem tw1115 : (Cond.methodLink "ProgramDeskModel" 136 ({ cls := "ProgramDeskModel", name := "isChar", desc := "(I)Z" } : Jvm.MethodName)) ∈ wsG := tc_5 155 rfl rfl
theorem tw1116 : (Cond.static ({ cls := "ProgramDeskModel", name := "isChar", desc := "(I)Z" } : Jvm.MethodName)) ∈ wsG := tc_5 156 rfl rfl
theorem tw1117 : (Cond.code ({ cls := "ProgramDeskModel", name := "isChar", desc := "(I)Z" } : Jvm.MethodName) prog_11_method_4_code 1 (Option.some Jvm.ClassFile.FieldType.boolean)) ∈ wsG := tc_5 157 rfl rfl
theorem tw1118 : (Cond.methodLink "ProgramDeskLaw" 68 ({ cls := "ProgramDeskModel", name := "word", desc := "(I)Z" } : Jvm.MethodName)) ∈ wsG := tc_5 158 rfl rfl
theorem tw1119 : (Cond.instanceMethod ({ cls := "ProgramDeskModel", name := "word", desc := "(I)Z" } : Jvm.MethodName)) ∈ wsG := tc_5 159 rfl rfl
theorem tw1120 : (Cond.selects "ProgramDeskModel" ({ cls := "ProgramDeskModel", name := "word", desc := "(I)Z" } : Jvm.MethodName) ({ cls := "ProgramDeskModel", name := "word", desc := "(I)Z" } : Jvm.MethodName)) ∈ wsG := tc_5 160 rfl rfl
theorem tw1121 : (Cond.code ({ cls := "ProgramDeskModel", name := "word", desc := "(I)Z" } : Jvm.MethodName) prog_11_method_9_code 6 (Option.some Jvm.ClassFile.FieldType.boolean)) ∈ wsG := tc_5 161 rfl rfl
theorem tw1122 : (Cond.constantLong "ProgramDeskModel" 143 468013) ∈ wsG := tc_5 162 rfl rfl
theorem tw1123 : (Cond.methodLink "ProgramDeskModel" 145 ({ cls := "ProgramDeskModel", name := "letters", desc := "(J)I" } : Jvm.MethodName)) ∈ wsG := tc_5 163 rfl rfl
theorem tw1124 : (Cond.static ({ cls := "ProgramDeskModel", name := "letters", desc := "(J)I" } : Jvm.MethodName)) ∈ wsG := tc_5 164 rfl rfl
theorem tw1125 : (Cond.code ({ cls := "ProgramDeskModel", name := "letters", desc := "(J)I" } : Jvm.MethodName) prog_11_method_8_code 3 (Option.some Jvm.ClassFile.FieldType.int)) ∈ wsG := tc_5 165 rfl rfl
theorem tw1126 : (Cond.constantLong "ProgramDeskModel" 149 31) ∈ wsG := tc_5 166 rfl rfl
theorem tw1127 : (Cond.methodLink "ProgramDeskLaw" 74 ({ cls := "ProgramDeskModel", name := "insert", desc := "(IC)V" } : Jvm.MethodName)) ∈ wsG := tc_5 167 rfl rfl
theorem tw1128 : (Cond.instanceMethod ({ cls := "ProgramDeskModel", name := "insert", desc := "(IC)V" } : Jvm.MethodName)) ∈ wsG := tc_5 168 rfl rfl
theorem tw1129 : (Cond.selects "ProgramDeskModel" ({ cls := "ProgramDeskModel", name := "insert", desc := "(IC)V" } : Jvm.MethodName) ({ cls := "ProgramDeskModel", name := "insert", desc := "(IC)V" } : Jvm.MethodName)) ∈ wsG := tc_5 169 rfl rfl
theorem tw1130 : (Cond.code ({ cls := "ProgramDeskModel", name := "insert", desc := "(IC)V" } : Jvm.MethodName) prog_11_method_10_code 4 (Option.none : Option Jvm.ClassFile.FieldType)) ∈ wsG := tc_5 170 rfl rfl
theorem tw1131 : (Cond.methodLink "ProgramDeskLaw" 82 ({ cls := "ProgramDeskModel", name := "remove", desc := "(II)V" } : Jvm.MethodName)) ∈ wsG := tc_5 171 rfl rfl
theorem tw1132 : (Cond.instanceMethod ({ cls := "ProgramDeskModel", name := "remove", desc := "(II)V" } : Jvm.MethodName)) ∈ wsG := tc_5 172 rfl rfl
theorem tw1133 : (Cond.selects "ProgramDeskModel" ({ cls := "ProgramDeskModel", name := "remove", desc := "(II)V" } : Jvm.MethodName) ({ cls := "ProgramDeskModel", name := "remove", desc := "(II)V" } : Jvm.MethodName)) ∈ wsG := tc_5 173 rfl rfl
theorem tw1134 : (Cond.code ({ cls := "ProgramDeskModel", name := "remove", desc := "(II)V" } : Jvm.MethodName) prog_11_method_11_code 4 (Option.none : Option Jvm.ClassFile.FieldType)) ∈ wsG := tc_5 174 rfl rfl
theorem tw1135 : (Cond.methodLink "ProgramDeskLaw" 86 ({ cls := "ProgramDeskModel", name := "length", desc := "()I" } : Jvm.MethodName)) ∈ wsG := tc_5 175 rfl rfl
theorem tw1136 : (Cond.instanceMethod ({ cls := "ProgramDeskModel", name := "length", desc := "()I" } : Jvm.MethodName)) ∈ wsG := tc_5 176 rfl rfl
theorem tw1137 : (Cond.selects "ProgramDeskModel" ({ cls := "ProgramDeskModel", name := "length", desc := "()I" } : Jvm.MethodName) ({ cls := "ProgramDeskModel", name := "length", desc := "()I" } : Jvm.MethodName)) ∈ wsG := tc_5 177 rfl rfl
theorem tw1138 : (Cond.code ({ cls := "ProgramDeskModel", name := "length", desc := "()I" } : Jvm.MethodName) prog_11_method_12_code 1 (Option.some Jvm.ClassFile.FieldType.int)) ∈ wsG := tc_5 178 rfl rfl
theorem tw1139 : (Cond.methodLink "ProgramDeskLaw" 90 ({ cls := "ProgramDeskModel", name := "letter", desc := "(I)C" } : Jvm.MethodName)) ∈ wsG := tc_5 179 rfl rfl
theorem tw1140 : (Cond.instanceMethod ({ cls := "ProgramDeskModel", name := "letter", desc := "(I)C" } : Jvm.MethodName)) ∈ wsG := tc_5 180 rfl rfl
theorem tw1141 : (Cond.selects "ProgramDeskModel" ({ cls := "ProgramDeskModel", name := "letter", desc := "(I)C" } : Jvm.MethodName) ({ cls := "ProgramDeskModel", name := "letter", desc := "(I)C" } : Jvm.MethodName)) ∈ wsG := tc_5 181 rfl rfl
theorem tw1142 : (Cond.code ({ cls := "ProgramDeskModel", name := "letter", desc := "(I)C" } : Jvm.MethodName) prog_11_method_13_code 2 (Option.some Jvm.ClassFile.FieldType.char)) ∈ wsG := tc_5 182 rfl rfl
theorem tw1143 : (Cond.methodLink "ProgramDeskLaw" 94 ({ cls := "ProgramDeskModel", name := "tokens", desc := "()I" } : Jvm.MethodName)) ∈ wsG := tc_5 183 rfl rfl
theorem tw1144 : (Cond.instanceMethod ({ cls := "ProgramDeskModel", name := "tokens", desc := "()I" } : Jvm.MethodName)) ∈ wsG := tc_5 184 rfl rfl
theorem tw1145 : (Cond.selects "ProgramDeskModel" ({ cls := "ProgramDeskModel", name := "tokens", desc := "()I" } : Jvm.MethodName) ({ cls := "ProgramDeskModel", name := "tokens", desc := "()I" } : Jvm.MethodName)) ∈ wsG := tc_5 185 rfl rfl
theorem tw1146 : (Cond.code ({ cls := "ProgramDeskModel", name := "tokens", desc := "()I" } : Jvm.MethodName) prog_11_method_40_code 1 (Option.some Jvm.ClassFile.FieldType.int)) ∈ wsG := tc_5 186 rfl rfl
theorem tw1147 : (Cond.methodLink "ProgramDeskModel" 267 ({ cls := "ProgramDeskModel", name := "analyse", desc := "()V" } : Jvm.MethodName)) ∈ wsG := tc_5 187 rfl rfl
theorem tw1149 : (Cond.instanceMethod ({ cls := "ProgramDeskModel", name := "analyse", desc := "()V" } : Jvm.MethodName)) ∈ wsG := tc_5 189 rfl rfl
theorem tw1150 : (Cond.code ({ cls := "ProgramDeskModel", name := "analyse", desc := "()V" } : Jvm.MethodName) prog_11_method_39_code 2 (Option.none : Option Jvm.ClassFile.FieldType)) ∈ wsG := tc_5 190 rfl rfl
theorem tw1151 : (Cond.methodLink "ProgramDeskModel" 257 ({ cls := "ProgramDeskModel", name := "scan", desc := "()V" } : Jvm.MethodName)) ∈ wsG := tc_5 191 rfl rfl
theorem tw1153 : (Cond.instanceMethod ({ cls := "ProgramDeskModel", name := "scan", desc := "()V" } : Jvm.MethodName)) ∈ wsG := tc_5 193 rfl rfl
theorem tw1154 : (Cond.code ({ cls := "ProgramDeskModel", name := "scan", desc := "()V" } : Jvm.MethodName) prog_11_method_17_code 4 (Option.none : Option Jvm.ClassFile.FieldType)) ∈ wsG := tc_5 194 rfl rfl
theorem tw1155 : (Cond.methodLink "ProgramDeskModel" 151 ({ cls := "ProgramDeskModel", name := "isLetter", desc := "(I)Z" } : Jvm.MethodName)) ∈ wsG := tc_5 195 rfl rfl
theorem tw1156 : (Cond.static ({ cls := "ProgramDeskModel", name := "isLetter", desc := "(I)Z" } : Jvm.MethodName)) ∈ wsG := tc_5 196 rfl rfl
theorem tw1157 : (Cond.code ({ cls := "ProgramDeskModel", name := "isLetter", desc := "(I)Z" } : Jvm.MethodName) prog_11_method_5_code 1 (Option.some Jvm.ClassFile.FieldType.boolean)) ∈ wsG := tc_5 197 rfl rfl
theorem tw1158 : (Cond.methodLink "ProgramDeskModel" 160 ({ cls := "ProgramDeskModel", name := "behindRun", desc := "(IZ)I" } : Jvm.MethodName)) ∈ wsG := tc_5 198 rfl rfl
theorem tw1160 : (Cond.instanceMethod ({ cls := "ProgramDeskModel", name := "behindRun", desc := "(IZ)I" } : Jvm.MethodName)) ∈ wsG := tc_5 200 rfl rfl
theorem tw1161 : (Cond.code ({ cls := "ProgramDeskModel", name := "behindRun", desc := "(IZ)I" } : Jvm.MethodName) prog_11_method_15_code 4 (Option.some Jvm.ClassFile.FieldType.int)) ∈ wsG := tc_5 201 rfl rfl
theorem tw1162 : (Cond.methodLink "ProgramDeskModel" 154 ({ cls := "ProgramDeskModel", name := "isDigit", desc := "(I)Z" } : Jvm.MethodName)) ∈ wsG := tc_5 202 rfl rfl
theorem tw1163 : (Cond.static ({ cls := "ProgramDeskModel", name := "isDigit", desc := "(I)Z" } : Jvm.MethodName)) ∈ wsG := tc_5 203 rfl rfl
theorem tw1164 : (Cond.code ({ cls := "ProgramDeskModel", name := "isDigit", desc := "(I)Z" } : Jvm.MethodName) prog_11_method_6_code 1 (Option.some Jvm.ClassFile.FieldType.boolean)) ∈ wsG := tc_5 204 rfl rfl
theorem tw1165 : (Cond.methodLink "ProgramDeskModel" 164 ({ cls := "ProgramDeskModel", name := "makeToken", desc := "(II)V" } : Jvm.MethodName)) ∈ wsG := tc_5 205 rfl rfl
theorem tw1167 : (Cond.instanceMethod ({ cls := "ProgramDeskModel", name := "makeToken", desc := "(II)V" } : Jvm.MethodName)) ∈ wsG := tc_5 207 rfl rfl
theorem tw1168 : (Cond.code ({ cls := "ProgramDeskModel", name := "makeToken", desc := "(II)V" } : Jvm.MethodName) prog_11_method_18_code 7 (Option.none : Option Jvm.ClassFile.FieldType)) ∈ wsG := tc_5 208 rfl rfl
theorem tw1169 : (Cond.methodLink "ProgramDeskModel" 168 ({ cls := "ProgramDeskModel", name := "keyword", desc := "(J)I" } : Jvm.MethodName)) ∈ wsG := tc_5 209 rfl rfl
theorem tw1171 : (Cond.instanceMethod ({ cls := "ProgramDeskModel", name := "keyword", desc := "(J)I" } : Jvm.MethodName)) ∈ wsG := tc_5 211 rfl rfl
theorem tw1172 : (Cond.code ({ cls := "ProgramDeskModel", name := "keyword", desc := "(J)I" } : Jvm.MethodName) prog_11_method_16_code 4 (Option.some Jvm.ClassFile.FieldType.int)) ∈ wsG := tc_5 212 rfl rfl
theorem tw1173 : (Cond.constantLong "ProgramDeskModel" 171 10) ∈ wsG := tc_5 213 rfl rfl
theorem tw1174 : (Cond.constantLong "ProgramDeskModel" 173 48) ∈ wsG := tc_5 214 rfl rfl
theorem tw1175 : (Cond.methodLink "ProgramDeskModel" 175 ({ cls := "ProgramDeskModel", name := "isSign", desc := "(I)Z" } : Jvm.MethodName)) ∈ wsG := tc_5 215 rfl rfl
theorem tw1176 : (Cond.static ({ cls := "ProgramDeskModel", name := "isSign", desc := "(I)Z" } : Jvm.MethodName)) ∈ wsG := tc_5 216 rfl rfl
theorem tw1177 : (Cond.code ({ cls := "ProgramDeskModel", name := "isSign", desc := "(I)Z" } : Jvm.MethodName) prog_11_method_14_code 1 (Option.some Jvm.ClassFile.FieldType.boolean)) ∈ wsG := tc_5 217 rfl rfl
theorem tw1178 : (Cond.methodLink "ProgramDeskModel" 228 ({ cls := "ProgramDeskModel", name := "isFn", desc := "(I)Z" } : Jvm.MethodName)) ∈ wsG := tc_5 218 rfl rfl
theorem tw1180 : (Cond.instanceMethod ({ cls := "ProgramDeskModel", name := "isFn", desc := "(I)Z" } : Jvm.MethodName)) ∈ wsG := tc_5 220 rfl rfl
theorem tw1181 : (Cond.code ({ cls := "ProgramDeskModel", name := "isFn", desc := "(I)Z" } : Jvm.MethodName) prog_11_method_20_code 2 (Option.some Jvm.ClassFile.FieldType.boolean)) ∈ wsG := tc_5 221 rfl rfl
theorem tw1182 : (Cond.methodLink "ProgramDeskModel" 260 ({ cls := "ProgramDeskModel", name := "readPart", desc := "(I)V" } : Jvm.MethodName)) ∈ wsG := tc_5 222 rfl rfl
theorem tw1184 : (Cond.instanceMethod ({ cls := "ProgramDeskModel", name := "readPart", desc := "(I)V" } : Jvm.MethodName)) ∈ wsG := tc_5 224 rfl rfl
theorem tw1185 : (Cond.code ({ cls := "ProgramDeskModel", name := "readPart", desc := "(I)V" } : Jvm.MethodName) prog_11_method_32_code 4 (Option.none : Option Jvm.ClassFile.FieldType)) ∈ wsG := tc_5 225 rfl rfl
theorem tw1186 : (Cond.methodLink "ProgramDeskModel" 231 ({ cls := "ProgramDeskModel", name := "step", desc := "(II)Z" } : Jvm.MethodName)) ∈ wsG := tc_5 226 rfl rfl
theorem tw1188 : (Cond.instanceMethod ({ cls := "ProgramDeskModel", name := "step", desc := "(II)Z" } : Jvm.MethodName)) ∈ wsG := tc_5 228 rfl rfl
theorem tw1189 : (Cond.code ({ cls := "ProgramDeskModel", name := "step", desc := "(II)Z" } : Jvm.MethodName) prog_11_method_31_code 3 (Option.some Jvm.ClassFile.FieldType.boolean)) ∈ wsG := tc_5 229 rfl rfl
theorem tw1190 : (Cond.methodLink "ProgramDeskModel" 216 ({ cls := "ProgramDeskModel", name := "head", desc := "(II)Z" } : Jvm.MethodName)) ∈ wsG := tc_5 230 rfl rfl
theorem tw1192 : (Cond.instanceMethod ({ cls := "ProgramDeskModel", name := "head", desc := "(II)Z" } : Jvm.MethodName)) ∈ wsG := tc_5 232 rfl rfl
theorem tw1193 : (Cond.code ({ cls := "ProgramDeskModel", name := "head", desc := "(II)Z" } : Jvm.MethodName) prog_11_method_26_code 4 (Option.some Jvm.ClassFile.FieldType.boolean)) ∈ wsG := tc_5 233 rfl rfl
theorem tw1194 : (Cond.methodLink "ProgramDeskModel" 184 ({ cls := "ProgramDeskModel", name := "goesTo", desc := "(I)Z" } : Jvm.MethodName)) ∈ wsG := tc_5 234 rfl rfl
theorem tw1196 : (Cond.instanceMethod ({ cls := "ProgramDeskModel", name := "goesTo", desc := "(I)Z" } : Jvm.MethodName)) ∈ wsG := tc_5 236 rfl rfl
theorem tw1197 : (Cond.code ({ cls := "ProgramDeskModel", name := "goesTo", desc := "(I)Z" } : Jvm.MethodName) prog_11_method_21_code 2 (Option.some Jvm.ClassFile.FieldType.boolean)) ∈ wsG := tc_5 237 rfl rfl
theorem tw1198 : (Cond.methodLink "ProgramDeskModel" 193 ({ cls := "ProgramDeskModel", name := "is", desc := "(II)Z" } : Jvm.MethodName)) ∈ wsG := tc_5 238 rfl rfl
theorem tw1200 : (Cond.instanceMethod ({ cls := "ProgramDeskModel", name := "is", desc := "(II)Z" } : Jvm.MethodName)) ∈ wsG := tc_6 0 rfl rfl
theorem tw1201 : (Cond.code ({ cls := "ProgramDeskModel", name := "is", desc := "(II)Z" } : Jvm.MethodName) prog_11_method_19_code 3 (Option.some Jvm.ClassFile.FieldType.boolean)) ∈ wsG := tc_6 1 rfl rfl
theorem tw1202 : (Cond.methodLink "ProgramDeskModel" 197 ({ cls := "ProgramDeskModel", name := "openBlock", desc := "(I)Z" } : Jvm.MethodName)) ∈ wsG := tc_6 2 rfl rfl
theorem tw1204 : (Cond.instanceMethod ({ cls := "ProgramDeskModel", name := "openBlock", desc := "(I)Z" } : Jvm.MethodName)) ∈ wsG := tc_6 4 rfl rfl
theorem tw1205 : (Cond.code ({ cls := "ProgramDeskModel", name := "openBlock", desc := "(I)Z" } : Jvm.MethodName) prog_11_method_22_code 2 (Option.some Jvm.ClassFile.FieldType.boolean)) ∈ wsG := tc_6 5 rfl rfl
theorem tw1206 : (Cond.methodLink "ProgramDeskModel" 219 ({ cls := "ProgramDeskModel", name := "statement", desc := "(I)Z" } : Jvm.MethodName)) ∈ wsG := tc_6 6 rfl rfl
theorem tw1208 : (Cond.instanceMethod ({ cls := "ProgramDeskModel", name := "statement", desc := "(I)Z" } : Jvm.MethodName)) ∈ wsG := tc_6 8 rfl rfl
theorem tw1209 : (Cond.code ({ cls := "ProgramDeskModel", name := "statement", desc := "(I)Z" } : Jvm.MethodName) prog_11_method_27_code 3 (Option.some Jvm.ClassFile.FieldType.boolean)) ∈ wsG := tc_6 9 rfl rfl
theorem tw1210 : (Cond.methodLink "ProgramDeskModel" 203 ({ cls := "ProgramDeskModel", name := "closeBlock", desc := "(I)Z" } : Jvm.MethodName)) ∈ wsG := tc_6 10 rfl rfl
theorem tw1212 : (Cond.instanceMethod ({ cls := "ProgramDeskModel", name := "closeBlock", desc := "(I)Z" } : Jvm.MethodName)) ∈ wsG := tc_6 12 rfl rfl
theorem tw1213 : (Cond.code ({ cls := "ProgramDeskModel", name := "closeBlock", desc := "(I)Z" } : Jvm.MethodName) prog_11_method_23_code 4 (Option.some Jvm.ClassFile.FieldType.boolean)) ∈ wsG := tc_6 13 rfl rfl
theorem tw1214 : (Cond.methodLink "ProgramDeskModel" 206 ({ cls := "ProgramDeskModel", name := "expression", desc := "(I)Z" } : Jvm.MethodName)) ∈ wsG := tc_6 14 rfl rfl
theorem tw1216 : (Cond.instanceMethod ({ cls := "ProgramDeskModel", name := "expression", desc := "(I)Z" } : Jvm.MethodName)) ∈ wsG := tc_6 16 rfl rfl
theorem tw1217 : (Cond.code ({ cls := "ProgramDeskModel", name := "expression", desc := "(I)Z" } : Jvm.MethodName) prog_11_method_24_code 2 (Option.some Jvm.ClassFile.FieldType.boolean)) ∈ wsG := tc_6 17 rfl rfl
theorem tw1218 : (Cond.methodLink "ProgramDeskModel" 222 ({ cls := "ProgramDeskModel", name := "operand", desc := "(I)Z" } : Jvm.MethodName)) ∈ wsG := tc_6 18 rfl rfl
theorem tw1220 : (Cond.instanceMethod ({ cls := "ProgramDeskModel", name := "operand", desc := "(I)Z" } : Jvm.MethodName)) ∈ wsG := tc_6 20 rfl rfl
theorem tw1221 : (Cond.code ({ cls := "ProgramDeskModel", name := "operand", desc := "(I)Z" } : Jvm.MethodName) prog_11_method_28_code 2 (Option.some Jvm.ClassFile.FieldType.boolean)) ∈ wsG := tc_6 21 rfl rfl
theorem tw1222 : (Cond.methodLink "ProgramDeskModel" 209 ({ cls := "ProgramDeskModel", name := "closeFrame", desc := "()Z" } : Jvm.MethodName)) ∈ wsG := tc_6 22 rfl rfl
theorem tw1224 : (Cond.instanceMethod ({ cls := "ProgramDeskModel", name := "closeFrame", desc := "()Z" } : Jvm.MethodName)) ∈ wsG := tc_6 24 rfl rfl
theorem tw1225 : (Cond.code ({ cls := "ProgramDeskModel", name := "closeFrame", desc := "()Z" } : Jvm.MethodName) prog_11_method_29_code 1 (Option.some Jvm.ClassFile.FieldType.boolean)) ∈ wsG := tc_6 25 rfl rfl
theorem tw1226 : (Cond.methodLink "ProgramDeskModel" 213 ({ cls := "ProgramDeskModel", name := "openFrame", desc := "(I)Z" } : Jvm.MethodName)) ∈ wsG := tc_6 26 rfl rfl
theorem tw1228 : (Cond.instanceMethod ({ cls := "ProgramDeskModel", name := "openFrame", desc := "(I)Z" } : Jvm.MethodName)) ∈ wsG := tc_6 28 rfl rfl
theorem tw1229 : (Cond.code ({ cls := "ProgramDeskModel", name := "openFrame", desc := "(I)Z" } : Jvm.MethodName) prog_11_method_25_code 2 (Option.some Jvm.ClassFile.FieldType.boolean)) ∈ wsG := tc_6 29 rfl rfl
theorem tw1230 : (Cond.methodLink "ProgramDeskModel" 225 ({ cls := "ProgramDeskModel", name := "operator", desc := "(I)Z" } : Jvm.MethodName)) ∈ wsG := tc_6 30 rfl rfl
theorem tw1232 : (Cond.instanceMethod ({ cls := "ProgramDeskModel", name := "operator", desc := "(I)Z" } : Jvm.MethodName)) ∈ wsG := tc_6 32 rfl rfl
theorem tw1233 : (Cond.code ({ cls := "ProgramDeskModel", name := "operator", desc := "(I)Z" } : Jvm.MethodName) prog_11_method_30_code 3 (Option.some Jvm.ClassFile.FieldType.boolean)) ∈ wsG := tc_6 33 rfl rfl
theorem tw1234 : (Cond.methodLink "ProgramDeskModel" 243 ({ cls := "ProgramDeskModel", name := "note", desc := "(II)V" } : Jvm.MethodName)) ∈ wsG := tc_6 34 rfl rfl
theorem tw1236 : (Cond.instanceMethod ({ cls := "ProgramDeskModel", name := "note", desc := "(II)V" } : Jvm.MethodName)) ∈ wsG := tc_6 36 rfl rfl
theorem tw1237 : (Cond.code ({ cls := "ProgramDeskModel", name := "note", desc := "(II)V" } : Jvm.MethodName) prog_11_method_33_code 5 (Option.none : Option Jvm.ClassFile.FieldType)) ∈ wsG := tc_6 37 rfl rfl
theorem tw1238 : (Cond.methodLink "ProgramDeskModel" 264 ({ cls := "ProgramDeskModel", name := "bind", desc := "()V" } : Jvm.MethodName)) ∈ wsG := tc_6 38 rfl rfl
theorem tw1240 : (Cond.instanceMethod ({ cls := "ProgramDeskModel", name := "bind", desc := "()V" } : Jvm.MethodName)) ∈ wsG := tc_6 40 rfl rfl
theorem tw1241 : (Cond.code ({ cls := "ProgramDeskModel", name := "bind", desc := "()V" } : Jvm.MethodName) prog_11_method_38_code 2 (Option.none : Option Jvm.ClassFile.FieldType)) ∈ wsG := tc_6 41 rfl rfl
theorem tw1242 : (Cond.methodLink "ProgramDeskModel" 240 ({ cls := "ProgramDeskModel", name := "isRepeated", desc := "(I)Z" } : Jvm.MethodName)) ∈ wsG := tc_6 42 rfl rfl
theorem tw1244 : (Cond.instanceMethod ({ cls := "ProgramDeskModel", name := "isRepeated", desc := "(I)Z" } : Jvm.MethodName)) ∈ wsG := tc_6 44 rfl rfl
theorem tw1245 : (Cond.code ({ cls := "ProgramDeskModel", name := "isRepeated", desc := "(I)Z" } : Jvm.MethodName) prog_11_method_34_code 5 (Option.some Jvm.ClassFile.FieldType.boolean)) ∈ wsG := tc_6 45 rfl rfl
theorem tw1246 : (Cond.methodLink "ProgramDeskModel" 246 ({ cls := "ProgramDeskModel", name := "meaning", desc := "(JI)I" } : Jvm.MethodName)) ∈ wsG := tc_6 46 rfl rfl
theorem tw1248 : (Cond.instanceMethod ({ cls := "ProgramDeskModel", name := "meaning", desc := "(JI)I" } : Jvm.MethodName)) ∈ wsG := tc_6 48 rfl rfl
theorem tw1249 : (Cond.code ({ cls := "ProgramDeskModel", name := "meaning", desc := "(JI)I" } : Jvm.MethodName) prog_11_method_35_code 7 (Option.some Jvm.ClassFile.FieldType.int)) ∈ wsG := tc_6 49 rfl rfl
theorem tw1250 : (Cond.methodLink "ProgramDeskModel" 250 ({ cls := "ProgramDeskModel", name := "functionNamed", desc := "(J)I" } : Jvm.MethodName)) ∈ wsG := tc_6 50 rfl rfl
theorem tw1252 : (Cond.instanceMethod ({ cls := "ProgramDeskModel", name := "functionNamed", desc := "(J)I" } : Jvm.MethodName)) ∈ wsG := tc_6 52 rfl rfl
theorem tw1253 : (Cond.code ({ cls := "ProgramDeskModel", name := "functionNamed", desc := "(J)I" } : Jvm.MethodName) prog_11_method_36_code 4 (Option.some Jvm.ClassFile.FieldType.int)) ∈ wsG := tc_6 53 rfl rfl
theorem tw1254 : (Cond.methodLink "ProgramDeskModel" 253 ({ cls := "ProgramDeskModel", name := "partOf", desc := "(I)I" } : Jvm.MethodName)) ∈ wsG := tc_6 54 rfl rfl
theorem tw1256 : (Cond.instanceMethod ({ cls := "ProgramDeskModel", name := "partOf", desc := "(I)I" } : Jvm.MethodName)) ∈ wsG := tc_6 56 rfl rfl
theorem tw1257 : (Cond.code ({ cls := "ProgramDeskModel", name := "partOf", desc := "(I)I" } : Jvm.MethodName) prog_11_method_37_code 3 (Option.some Jvm.ClassFile.FieldType.int)) ∈ wsG := tc_6 57 rfl rfl
theorem tw1258 : (Cond.methodLink "ProgramDeskLaw" 98 ({ cls := "ProgramDeskModel", name := "token", desc := "(II)I" } : Jvm.MethodName)) ∈ wsG := tc_6 58 rfl rfl
theorem tw1259 : (Cond.instanceMethod ({ cls := "ProgramDeskModel", name := "token", desc := "(II)I" } : Jvm.MethodName)) ∈ wsG := tc_6 59 rfl rfl
theorem tw1260 : (Cond.selects "ProgramDeskModel" ({ cls := "ProgramDeskModel", name := "token", desc := "(II)I" } : Jvm.MethodName) ({ cls := "ProgramDeskModel", name := "token", desc := "(II)I" } : Jvm.MethodName)) ∈ wsG := tc_6 60 rfl rfl
theorem tw1261 : (Cond.code ({ cls := "ProgramDeskModel", name := "token", desc := "(II)I" } : Jvm.MethodName) prog_11_method_41_code 3 (Option.some Jvm.ClassFile.FieldType.int)) ∈ wsG := tc_6 61 rfl rfl
theorem tw1262 : (Cond.methodLink "ProgramDeskModel" 270 ({ cls := "ProgramDeskModel", name := "fails", desc := "(I)I" } : Jvm.MethodName)) ∈ wsG := tc_6 62 rfl rfl
theorem tw1264 : (Cond.instanceMethod ({ cls := "ProgramDeskModel", name := "fails", desc := "(I)I" } : Jvm.MethodName)) ∈ wsG := tc_6 64 rfl rfl
theorem tw1265 : (Cond.code ({ cls := "ProgramDeskModel", name := "fails", desc := "(I)I" } : Jvm.MethodName) prog_11_method_3_code 2 (Option.some Jvm.ClassFile.FieldType.int)) ∈ wsG := tc_6 65 rfl rfl
theorem tw1266 : (Cond.methodLink "ProgramDeskLaw" 102 ({ cls := "ProgramDeskModel", name := "faults", desc := "()I" } : Jvm.MethodName)) ∈ wsG := tc_6 66 rfl rfl
theorem tw1267 : (Cond.instanceMethod ({ cls := "ProgramDeskModel", name := "faults", desc := "()I" } : Jvm.MethodName)) ∈ wsG := tc_6 67 rfl rfl
theorem tw1268 : (Cond.selects "ProgramDeskModel" ({ cls := "ProgramDeskModel", name := "faults", desc := "()I" } : Jvm.MethodName) ({ cls := "ProgramDeskModel", name := "faults", desc := "()I" } : Jvm.MethodName)) ∈ wsG := tc_6 68 rfl rfl
theorem tw1269 : (Cond.code ({ cls := "ProgramDeskModel", name := "faults", desc := "()I" } : Jvm.MethodName) prog_11_method_42_code 1 (Option.some Jvm.ClassFile.FieldType.int)) ∈ wsG := tc_6 69 rfl rfl
theorem tw1270 : (Cond.methodLink "ProgramDeskLaw" 105 ({ cls := "ProgramDeskModel", name := "fault", desc := "(I)I" } : Jvm.MethodName)) ∈ wsG := tc_6 70 rfl rfl
theorem tw1271 : (Cond.instanceMethod ({ cls := "ProgramDeskModel", name := "fault", desc := "(I)I" } : Jvm.MethodName)) ∈ wsG := tc_6 71 rfl rfl
theorem tw1272 : (Cond.selects "ProgramDeskModel" ({ cls := "ProgramDeskModel", name := "fault", desc := "(I)I" } : Jvm.MethodName) ({ cls := "ProgramDeskModel", name := "fault", desc := "(I)I" } : Jvm.MethodName)) ∈ wsG := tc_6 72 rfl rfl
theorem tw1273 : (Cond.code ({ cls := "ProgramDeskModel", name := "fault", desc := "(I)I" } : Jvm.MethodName) prog_11_method_43_code 2 (Option.some Jvm.ClassFile.FieldType.int)) ∈ wsG := tc_6 73 rfl rfl
theorem tw1274 : (Cond.methodLink "ProgramDeskLaw" 108 ({ cls := "ProgramDeskModel", name := "reference", desc := "(II)I" } : Jvm.MethodName)) ∈ wsG := tc_6 74 rfl rfl
theorem tw1275 : (Cond.instanceMethod ({ cls := "ProgramDeskModel", name := "reference", desc := "(II)I" } : Jvm.MethodName)) ∈ wsG := tc_6 75 rfl rfl
theorem tw1276 : (Cond.selects "ProgramDeskModel" ({ cls := "ProgramDeskModel", name := "reference", desc := "(II)I" } : Jvm.MethodName) ({ cls := "ProgramDeskModel", name := "reference", desc := "(II)I" } : Jvm.MethodName)) ∈ wsG := tc_6 76 rfl rfl
theorem tw1277 : (Cond.code ({ cls := "ProgramDeskModel", name := "reference", desc := "(II)I" } : Jvm.MethodName) prog_11_method_45_code 6 (Option.some Jvm.ClassFile.FieldType.int)) ∈ wsG := tc_6 77 rfl rfl
theorem tw1278 : (Cond.methodLink "ProgramDeskModel" 273 ({ cls := "ProgramDeskModel", name := "boundAt", desc := "(I)I" } : Jvm.MethodName)) ∈ wsG := tc_6 78 rfl rfl
theorem tw1280 : (Cond.instanceMethod ({ cls := "ProgramDeskModel", name := "boundAt", desc := "(I)I" } : Jvm.MethodName)) ∈ wsG := tc_6 80 rfl rfl
theorem tw1281 : (Cond.code ({ cls := "ProgramDeskModel", name := "boundAt", desc := "(I)I" } : Jvm.MethodName) prog_11_method_44_code 3 (Option.some Jvm.ClassFile.FieldType.int)) ∈ wsG := tc_6 81 rfl rfl
theorem tw1282 : (Cond.methodLink "ProgramDeskLaw" 114 ({ cls := "ProgramDeskModel", name := "rename", desc := "(IJ)I" } : Jvm.MethodName)) ∈ wsG := tc_6 82 rfl rfl
theorem tw1283 : (Cond.instanceMethod ({ cls := "ProgramDeskModel", name := "rename", desc := "(IJ)I" } : Jvm.MethodName)) ∈ wsG := tc_6 83 rfl rfl
theorem tw1284 : (Cond.selects "ProgramDeskModel" ({ cls := "ProgramDeskModel", name := "rename", desc := "(IJ)I" } : Jvm.MethodName) ({ cls := "ProgramDeskModel", name := "rename", desc := "(IJ)I" } : Jvm.MethodName)) ∈ wsG := tc_6 84 rfl rfl
theorem tw1285 : (Cond.code ({ cls := "ProgramDeskModel", name := "rename", desc := "(IJ)I" } : Jvm.MethodName) prog_11_method_50_code 12 (Option.some Jvm.ClassFile.FieldType.int)) ∈ wsG := tc_6 85 rfl rfl
theorem tw1286 : (Cond.methodLink "ProgramDeskModel" 281 ({ cls := "ProgramDeskModel", name := "isWord", desc := "(J)Z" } : Jvm.MethodName)) ∈ wsG := tc_6 86 rfl rfl
theorem tw1287 : (Cond.static ({ cls := "ProgramDeskModel", name := "isWord", desc := "(J)Z" } : Jvm.MethodName)) ∈ wsG := tc_6 87 rfl rfl
theorem tw1288 : (Cond.code ({ cls := "ProgramDeskModel", name := "isWord", desc := "(J)Z" } : Jvm.MethodName) prog_11_method_49_code 5 (Option.some Jvm.ClassFile.FieldType.boolean)) ∈ wsG := tc_6 88 rfl rfl
theorem tw1289 : (Cond.constantLong "ProgramDeskModel" 279 26) ∈ wsG := tc_6 89 rfl rfl
theorem tw1290 : (Cond.methodLink "ProgramDeskModel" 285 ({ cls := "ProgramDeskModel", name := "keep", desc := "()V" } : Jvm.MethodName)) ∈ wsG := tc_6 90 rfl rfl
theorem tw1292 : (Cond.instanceMethod ({ cls := "ProgramDeskModel", name := "keep", desc := "()V" } : Jvm.MethodName)) ∈ wsG := tc_6 92 rfl rfl
theorem tw1293 : (Cond.code ({ cls := "ProgramDeskModel", name := "keep", desc := "()V" } : Jvm.MethodName) prog_11_method_46_code 2 (Option.none : Option Jvm.ClassFile.FieldType)) ∈ wsG := tc_6 93 rfl rfl
theorem tw1294 : (Cond.methodLink "ProgramDeskModel" 288 ({ cls := "ProgramDeskModel", name := "spell", desc := "(IJI)V" } : Jvm.MethodName)) ∈ wsG := tc_6 94 rfl rfl
theorem tw1296 : (Cond.instanceMethod ({ cls := "ProgramDeskModel", name := "spell", desc := "(IJI)V" } : Jvm.MethodName)) ∈ wsG := tc_6 96 rfl rfl
theorem tw1297 : (Cond.code ({ cls := "ProgramDeskModel", name := "spell", desc := "(IJI)V" } : Jvm.MethodName) prog_11_method_51_code 9 (Option.none : Option Jvm.ClassFile.FieldType)) ∈ wsG := tc_6 97 rfl rfl
theorem tw1298 : (Cond.methodLink "ProgramDeskModel" 295 ({ cls := "ProgramDeskModel", name := "becomeFresh", desc := "(I)V" } : Jvm.MethodName)) ∈ wsG := tc_6 98 rfl rfl
theorem tw1300 : (Cond.instanceMethod ({ cls := "ProgramDeskModel", name := "becomeFresh", desc := "(I)V" } : Jvm.MethodName)) ∈ wsG := tc_6 100 rfl rfl
theorem tw1301 : (Cond.code ({ cls := "ProgramDeskModel", name := "becomeFresh", desc := "(I)V" } : Jvm.MethodName) prog_11_method_48_code 3 (Option.none : Option Jvm.ClassFile.FieldType)) ∈ wsG := tc_6 101 rfl rfl
theorem tw1302 : (Cond.methodLink "ProgramDeskModel" 292 ({ cls := "ProgramDeskModel", name := "takeBack", desc := "(I)I" } : Jvm.MethodName)) ∈ wsG := tc_6 102 rfl rfl
theorem tw1304 : (Cond.instanceMethod ({ cls := "ProgramDeskModel", name := "takeBack", desc := "(I)I" } : Jvm.MethodName)) ∈ wsG := tc_6 104 rfl rfl
theorem tw1305 : (Cond.code ({ cls := "ProgramDeskModel", name := "takeBack", desc := "(I)I" } : Jvm.MethodName) prog_11_method_47_code 3 (Option.some Jvm.ClassFile.FieldType.int)) ∈ wsG := tc_6 105 rfl rfl
theorem tw1306 : (Cond.methodLink "ProgramDeskLaw" 117 ({ cls := "ProgramDeskModel", name := "inline", desc := "(I)I" } : Jvm.MethodName)) ∈ wsG := tc_6 106 rfl rfl
theorem tw1307 : (Cond.instanceMethod ({ cls := "ProgramDeskModel", name := "inline", desc := "(I)I" } : Jvm.MethodName)) ∈ wsG := tc_6 107 rfl rfl
theorem tw1308 : (Cond.selects "ProgramDeskModel" ({ cls := "ProgramDeskModel", name := "inline", desc := "(I)I" } : Jvm.MethodName) ({ cls := "ProgramDeskModel", name := "inline", desc := "(I)I" } : Jvm.MethodName)) ∈ wsG := tc_6 108 rfl rfl
theorem tw1309 : (Cond.code ({ cls := "ProgramDeskModel", name := "inline", desc := "(I)I" } : Jvm.MethodName) prog_11_method_53_code 9 (Option.some Jvm.ClassFile.FieldType.int)) ∈ wsG := tc_6 109 rfl rfl
theorem tw1310 : (Cond.methodLink "ProgramDeskModel" 298 ({ cls := "ProgramDeskModel", name := "isHeld", desc := "(III)Z" } : Jvm.MethodName)) ∈ wsG := tc_6 110 rfl rfl
theorem tw1312 : (Cond.instanceMethod ({ cls := "ProgramDeskModel", name := "isHeld", desc := "(III)Z" } : Jvm.MethodName)) ∈ wsG := tc_6 112 rfl rfl
theorem tw1313 : (Cond.code ({ cls := "ProgramDeskModel", name := "isHeld", desc := "(III)Z" } : Jvm.MethodName) prog_11_method_52_code 7 (Option.some Jvm.ClassFile.FieldType.boolean)) ∈ wsG := tc_6 113 rfl rfl
theorem tw1314 : (Cond.methodLink "ProgramDeskModel" 302 ({ cls := "ProgramDeskModel", name := "unfold", desc := "(III)V" } : Jvm.MethodName)) ∈ wsG := tc_6 114 rfl rfl
theorem tw1316 : (Cond.instanceMethod ({ cls := "ProgramDeskModel", name := "unfold", desc := "(III)V" } : Jvm.MethodName)) ∈ wsG := tc_6 116 rfl rfl
theorem tw1317 : (Cond.code ({ cls := "ProgramDeskModel", name := "unfold", desc := "(III)V" } : Jvm.MethodName) prog_11_method_54_code 8 (Option.none : Option Jvm.ClassFile.FieldType)) ∈ wsG := tc_6 117 rfl rfl
theorem tw1318 : (Cond.methodLink "ProgramDeskLaw" 120 ({ cls := "ProgramDeskModel", name := "run", desc := "(I)I" } : Jvm.MethodName)) ∈ wsG := tc_6 118 rfl rfl
theorem tw1319 : (Cond.instanceMethod ({ cls := "ProgramDeskModel", name := "run", desc := "(I)I" } : Jvm.MethodName)) ∈ wsG := tc_6 119 rfl rfl
theorem tw1320 : (Cond.selects "ProgramDeskModel" ({ cls := "ProgramDeskModel", name := "run", desc := "(I)I" } : Jvm.MethodName) ({ cls := "ProgramDeskModel", name := "run", desc := "(I)I" } : Jvm.MethodName)) ∈ wsG := tc_6 120 rfl rfl
theorem tw1321 : (Cond.code ({ cls := "ProgramDeskModel", name := "run", desc := "(I)I" } : Jvm.MethodName) prog_11_method_68_code 4 (Option.some Jvm.ClassFile.FieldType.int)) ∈ wsG := tc_6 121 rfl rfl
theorem tw1322 : (Cond.methodLink "ProgramDeskModel" 363 ({ cls := "ProgramDeskModel", name := "function", desc := "(I)V" } : Jvm.MethodName)) ∈ wsG := tc_6 122 rfl rfl
theorem tw1324 : (Cond.instanceMethod ({ cls := "ProgramDeskModel", name := "function", desc := "(I)V" } : Jvm.MethodName)) ∈ wsG := tc_6 124 rfl rfl
theorem tw1325 : (Cond.code ({ cls := "ProgramDeskModel", name := "function", desc := "(I)V" } : Jvm.MethodName) prog_11_method_60_code 7 (Option.none : Option Jvm.ClassFile.FieldType)) ∈ wsG := tc_6 125 rfl rfl
theorem tw1326 : (Cond.methodLink "ProgramDeskModel" 315 ({ cls := "ProgramDeskModel", name := "emit", desc := "(II)V" } : Jvm.MethodName)) ∈ wsG := tc_6 126 rfl rfl
theorem tw1328 : (Cond.instanceMethod ({ cls := "ProgramDeskModel", name := "emit", desc := "(II)V" } : Jvm.MethodName)) ∈ wsG := tc_6 128 rfl rfl
theorem tw1329 : (Cond.code ({ cls := "ProgramDeskModel", name := "emit", desc := "(II)V" } : Jvm.MethodName) prog_11_method_55_code 3 (Option.none : Option Jvm.ClassFile.FieldType)) ∈ wsG := tc_6 129 rfl rfl
theorem tw1330 : (Cond.methodLink "ProgramDeskModel" 324 ({ cls := "ProgramDeskModel", name := "compile", desc := "(I)I" } : Jvm.MethodName)) ∈ wsG := tc_6 130 rfl rfl
theorem tw1332 : (Cond.instanceMethod ({ cls := "ProgramDeskModel", name := "compile", desc := "(I)I" } : Jvm.MethodName)) ∈ wsG := tc_6 132 rfl rfl
theorem tw1333 : (Cond.code ({ cls := "ProgramDeskModel", name := "compile", desc := "(I)I" } : Jvm.MethodName) prog_11_method_59_code 5 (Option.some Jvm.ClassFile.FieldType.int)) ∈ wsG := tc_6 133 rfl rfl
theorem tw1334 : (Cond.methodLink "ProgramDeskModel" 318 ({ cls := "ProgramDeskModel", name := "queue", desc := "(II)V" } : Jvm.MethodName)) ∈ wsG := tc_6 134 rfl rfl
theorem tw1336 : (Cond.instanceMethod ({ cls := "ProgramDeskModel", name := "queue", desc := "(II)V" } : Jvm.MethodName)) ∈ wsG := tc_6 136 rfl rfl
theorem tw1337 : (Cond.code ({ cls := "ProgramDeskModel", name := "queue", desc := "(II)V" } : Jvm.MethodName) prog_11_method_58_code 3 (Option.none : Option Jvm.ClassFile.FieldType)) ∈ wsG := tc_6 137 rfl rfl
theorem tw1338 : (Cond.methodLink "ProgramDeskModel" 321 ({ cls := "ProgramDeskModel", name := "settle", desc := "(I)V" } : Jvm.MethodName)) ∈ wsG := tc_6 138 rfl rfl
theorem tw1340 : (Cond.instanceMethod ({ cls := "ProgramDeskModel", name := "settle", desc := "(I)V" } : Jvm.MethodName)) ∈ wsG := tc_6 140 rfl rfl
theorem tw1341 : (Cond.code ({ cls := "ProgramDeskModel", name := "settle", desc := "(I)V" } : Jvm.MethodName) prog_11_method_57_code 2 (Option.none : Option Jvm.ClassFile.FieldType)) ∈ wsG := tc_6 141 rfl rfl
theorem tw1342 : (Cond.methodLink "ProgramDeskModel" 312 ({ cls := "ProgramDeskModel", name := "rank", desc := "(I)I" } : Jvm.MethodName)) ∈ wsG := tc_6 142 rfl rfl
theorem tw1343 : (Cond.static ({ cls := "ProgramDeskModel", name := "rank", desc := "(I)I" } : Jvm.MethodName)) ∈ wsG := tc_6 143 rfl rfl
theorem tw1344 : (Cond.code ({ cls := "ProgramDeskModel", name := "rank", desc := "(I)I" } : Jvm.MethodName) prog_11_method_56_code 1 (Option.some Jvm.ClassFile.FieldType.int)) ∈ wsG := tc_6 144 rfl rfl
theorem tw1345 : (Cond.methodLink "ProgramDeskModel" 366 ({ cls := "ProgramDeskModel", name := "execute", desc := "(II)I" } : Jvm.MethodName)) ∈ wsG := tc_6 145 rfl rfl
theorem tw1347 : (Cond.instanceMethod ({ cls := "ProgramDeskModel", name := "execute", desc := "(II)I" } : Jvm.MethodName)) ∈ wsG := tc_6 147 rfl rfl
theorem tw1348 : (Cond.code ({ cls := "ProgramDeskModel", name := "execute", desc := "(II)I" } : Jvm.MethodName) prog_11_method_65_code 7 (Option.some Jvm.ClassFile.FieldType.int)) ∈ wsG := tc_6 148 rfl rfl
theorem tw1349 : (Cond.methodLink "ProgramDeskModel" 340 ({ cls := "ProgramDeskModel", name := "push", desc := "(I)V" } : Jvm.MethodName)) ∈ wsG := tc_6 149 rfl rfl
theorem tw1351 : (Cond.instanceMethod ({ cls := "ProgramDeskModel", name := "push", desc := "(I)V" } : Jvm.MethodName)) ∈ wsG := tc_6 151 rfl rfl
theorem tw1352 : (Cond.code ({ cls := "ProgramDeskModel", name := "push", desc := "(I)V" } : Jvm.MethodName) prog_11_method_62_code 2 (Option.none : Option Jvm.ClassFile.FieldType)) ∈ wsG := tc_6 152 rfl rfl
theorem tw1353 : (Cond.methodLink "ProgramDeskModel" 349 ({ cls := "ProgramDeskModel", name := "enter", desc := "(II)I" } : Jvm.MethodName)) ∈ wsG := tc_6 153 rfl rfl
theorem tw1355 : (Cond.instanceMethod ({ cls := "ProgramDeskModel", name := "enter", desc := "(II)I" } : Jvm.MethodName)) ∈ wsG := tc_6 155 rfl rfl
theorem tw1356 : (Cond.code ({ cls := "ProgramDeskModel", name := "enter", desc := "(II)I" } : Jvm.MethodName) prog_11_method_66_code 3 (Option.some Jvm.ClassFile.FieldType.int)) ∈ wsG := tc_6 156 rfl rfl
theorem tw1357 : (Cond.methodLink "ProgramDeskModel" 360 ({ cls := "ProgramDeskModel", name := "uncounted", desc := "(II)I" } : Jvm.MethodName)) ∈ wsG := tc_6 157 rfl rfl
theorem tw1359 : (Cond.instanceMethod ({ cls := "ProgramDeskModel", name := "uncounted", desc := "(II)I" } : Jvm.MethodName)) ∈ wsG := tc_6 159 rfl rfl
theorem tw1360 : (Cond.code ({ cls := "ProgramDeskModel", name := "uncounted", desc := "(II)I" } : Jvm.MethodName) prog_11_method_67_code 4 (Option.some Jvm.ClassFile.FieldType.int)) ∈ wsG := tc_6 160 rfl rfl
theorem tw1361 : (Cond.methodLink "ProgramDeskModel" 336 ({ cls := "ProgramDeskModel", name := "pop", desc := "()I" } : Jvm.MethodName)) ∈ wsG := tc_6 161 rfl rfl
theorem tw1363 : (Cond.instanceMethod ({ cls := "ProgramDeskModel", name := "pop", desc := "()I" } : Jvm.MethodName)) ∈ wsG := tc_6 163 rfl rfl
theorem tw1364 : (Cond.code ({ cls := "ProgramDeskModel", name := "pop", desc := "()I" } : Jvm.MethodName) prog_11_method_61_code 1 (Option.some Jvm.ClassFile.FieldType.int)) ∈ wsG := tc_6 164 rfl rfl
theorem tw1365 : (Cond.methodLink "ProgramDeskModel" 353 ({ cls := "ProgramDeskModel", name := "reckon", desc := "(I)V" } : Jvm.MethodName)) ∈ wsG := tc_6 165 rfl rfl
theorem tw1367 : (Cond.instanceMethod ({ cls := "ProgramDeskModel", name := "reckon", desc := "(I)V" } : Jvm.MethodName)) ∈ wsG := tc_6 167 rfl rfl
theorem tw1368 : (Cond.code ({ cls := "ProgramDeskModel", name := "reckon", desc := "(I)V" } : Jvm.MethodName) prog_11_method_64_code 4 (Option.none : Option Jvm.ClassFile.FieldType)) ∈ wsG := tc_6 168 rfl rfl
theorem tw1369 : (Cond.methodLink "ProgramDeskModel" 356 ({ cls := "ProgramDeskModel", name := "counts", desc := "(Z)I" } : Jvm.MethodName)) ∈ wsG := tc_6 169 rfl rfl
theorem tw1371 : (Cond.instanceMethod ({ cls := "ProgramDeskModel", name := "counts", desc := "(Z)I" } : Jvm.MethodName)) ∈ wsG := tc_6 171 rfl rfl
theorem tw1372 : (Cond.code ({ cls := "ProgramDeskModel", name := "counts", desc := "(Z)I" } : Jvm.MethodName) prog_11_method_63_code 2 (Option.some Jvm.ClassFile.FieldType.int)) ∈ wsG := tc_6 172 rfl rfl
theorem tw1373 : (Cond.methodLink "ProgramDeskLaw" 123 ({ cls := "ProgramDeskModel", name := "output", desc := "(I)I" } : Jvm.MethodName)) ∈ wsG := tc_6 173 rfl rfl
theorem tw1374 : (Cond.instanceMethod ({ cls := "ProgramDeskModel", name := "output", desc := "(I)I" } : Jvm.MethodName)) ∈ wsG := tc_6 174 rfl rfl
theorem tw1375 : (Cond.selects "ProgramDeskModel" ({ cls := "ProgramDeskModel", name := "output", desc := "(I)I" } : Jvm.MethodName) ({ cls := "ProgramDeskModel", name := "output", desc := "(I)I" } : Jvm.MethodName)) ∈ wsG := tc_6 175 rfl rfl
theorem tw1376 : (Cond.code ({ cls := "ProgramDeskModel", name := "output", desc := "(I)I" } : Jvm.MethodName) prog_11_method_69_code 2 (Option.some Jvm.ClassFile.FieldType.int)) ∈ wsG := tc_6 176 rfl rfl
theorem tw1377 : (Cond.constantLong "ProgramDeskLaw" 109 4294967295) ∈ wsG := tc_6 177 rfl rfl
theorem tw1379 : (Cond.fieldLink "java/lang/String" 15 "java/lang/String" "coder" "B") ∈ wsG := tc_6 179 rfl rfl
theorem tw1380 : (Cond.fieldLink "java/lang/String" 9 "java/lang/String" "value" "[B") ∈ wsG := tc_6 180 rfl rfl
def TCd : u_T := fun k => match k with
  | 0 => ("ProgramDesk$Code", "operation", "[I", true)
  | 1 => ("ProgramDesk$Code", "operand", "[I", true)
  | _ => ("ProgramDesk$Code", "count", "I", false)
def TDr : u_T := fun k => match k with
  | 0 => ("ProgramDesk$Draft", "text", "LProgramDesk$Text;", true)
  | 1 => ("ProgramDesk$Draft", "tokens", "LProgramDesk$Tokens;", true)
  | 2 => ("ProgramDesk$Draft", "functions", "LProgramDesk$Functions;", true)
  | 3 => ("ProgramDesk$Draft", "names", "LProgramDesk$Names;", true)
  | 4 => ("ProgramDesk$Draft", "code", "LProgramDesk$Code;", true)
  | 5 => ("ProgramDesk$Draft", "grammar", "LProgramDesk$Grammar;", true)
  | 6 => ("ProgramDesk$Draft", "part", "[I", true)
  | 7 => ("ProgramDesk$Draft", "broken", "[I", true)
  | 8 => ("ProgramDesk$Draft", "parts", "I", false)
  | 9 => ("ProgramDesk$Draft", "faultRow", "[I", true)
  | 10 => ("ProgramDesk$Draft", "faultCount", "I", false)
  | _ => ("ProgramDesk$Draft", "fresh", "Z", false)
def TFn : u_T := fun k => match k with
  | 0 => ("ProgramDesk$Functions", "name", "[I", true)
  | 1 => ("ProgramDesk$Functions", "parameters", "[I", true)
  | 2 => ("ProgramDesk$Functions", "entry", "[I", true)
  | 3 => ("ProgramDesk$Functions", "count", "I", false)
  | _ => ("ProgramDesk$Functions", "tokens", "LProgramDesk$Tokens;", true)
def TGr : u_T := fun k => match k with
  | 0 => ("ProgramDesk$Grammar", "next", "I", false)
  | 1 => ("ProgramDesk$Grammar", "limit", "I", false)
  | 2 => ("ProgramDesk$Grammar", "blocks", "I", false)
  | 3 => ("ProgramDesk$Grammar", "opener", "[I", true)
  | 4 => ("ProgramDesk$Grammar", "test", "[I", true)
  | 5 => ("ProgramDesk$Grammar", "again", "[I", true)
  | 6 => ("ProgramDesk$Grammar", "tokens", "LProgramDesk$Tokens;", true)
  | 7 => ("ProgramDesk$Grammar", "names", "LProgramDesk$Names;", true)
  | 8 => ("ProgramDesk$Grammar", "functions", "LProgramDesk$Functions;", true)
  | _ => ("ProgramDesk$Grammar", "code", "LProgramDesk$Code;", true)
def TMa : u_T := fun k => match k with
  | 0 => ("ProgramDesk$Machine", "kept", "[I", true)
  | 1 => ("ProgramDesk$Machine", "printed", "I", false)
  | 2 => ("ProgramDesk$Machine", "given", "I", false)
  | 3 => ("ProgramDesk$Machine", "variables", "[I", true)
  | 4 => ("ProgramDesk$Machine", "stack", "[I", true)
  | 5 => ("ProgramDesk$Machine", "height", "I", false)
  | 6 => ("ProgramDesk$Machine", "back", "[I", true)
  | 7 => ("ProgramDesk$Machine", "open", "I", false)
  | 8 => ("ProgramDesk$Machine", "counted", "I", false)
  | 9 => ("ProgramDesk$Machine", "at", "I", false)
  | _ => ("ProgramDesk$Machine", "outcome", "I", false)
def TNa : u_T := fun k => match k with
  | 0 => ("ProgramDesk$Names", "role", "[I", true)
  | 1 => ("ProgramDesk$Names", "bound", "[I", true)
  | 2 => ("ProgramDesk$Names", "wrong", "[I", true)
  | 3 => ("ProgramDesk$Names", "scope", "[I", true)
  | 4 => ("ProgramDesk$Names", "from", "[I", true)
  | 5 => ("ProgramDesk$Names", "until", "[I", true)
  | 6 => ("ProgramDesk$Names", "sent", "[I", true)
  | 7 => ("ProgramDesk$Names", "tokens", "LProgramDesk$Tokens;", true)
  | _ => ("ProgramDesk$Names", "functions", "LProgramDesk$Functions;", true)
def TTe : u_T := fun k => match k with
  | 0 => ("ProgramDesk$Text", "letters", "[C", true)
  | _ => ("ProgramDesk$Text", "size", "I", false)
def TTo : u_T := fun k => match k with
  | 0 => ("ProgramDesk$Tokens", "kind", "[I", true)
  | 1 => ("ProgramDesk$Tokens", "sense", "[I", true)
  | 2 => ("ProgramDesk$Tokens", "start", "[I", true)
  | 3 => ("ProgramDesk$Tokens", "end", "[I", true)
  | _ => ("ProgramDesk$Tokens", "count", "I", false)
def TX : u_T := fun k => match k with
  | 0 => ("ProgramDesk", "machine", "LProgramDesk$Machine;", true)
  | 1 => ("ProgramDesk", "draft", "LProgramDesk$Draft;", false)
  | _ => ("ProgramDesk", "trial", "LProgramDesk$Draft;", false)
def TMo : u_T := fun k => match k with
  | 0 => ("ProgramDeskModel", "keywords", "[J", true)
  | 1 => ("ProgramDeskModel", "code", "I", false)
  | 2 => ("ProgramDeskModel", "text", "[I", true)
  | 3 => ("ProgramDeskModel", "length", "I", false)
  | 4 => ("ProgramDeskModel", "old", "[I", true)
  | 5 => ("ProgramDeskModel", "oldLength", "I", false)
  | 6 => ("ProgramDeskModel", "fresh", "[I", true)
  | 7 => ("ProgramDeskModel", "tokens", "I", false)
  | 8 => ("ProgramDeskModel", "kind", "[I", true)
  | 9 => ("ProgramDeskModel", "from", "[I", true)
  | 10 => ("ProgramDeskModel", "to", "[I", true)
  | 11 => ("ProgramDeskModel", "word", "[J", true)
  | 12 => ("ProgramDeskModel", "role", "[I", true)
  | 13 => ("ProgramDeskModel", "bound", "[I", true)
  | 14 => ("ProgramDeskModel", "before", "[I", true)
  | 15 => ("ProgramDeskModel", "given", "[I", true)
  | 16 => ("ProgramDeskModel", "scope", "[I", true)
  | 17 => ("ProgramDeskModel", "since", "[I", true)
  | 18 => ("ProgramDeskModel", "until", "[I", true)
  | 19 => ("ProgramDeskModel", "parts", "I", false)
  | 20 => ("ProgramDeskModel", "first", "[I", true)
  | 21 => ("ProgramDeskModel", "behind", "[I", true)
  | 22 => ("ProgramDeskModel", "broken", "[I", true)
  | 23 => ("ProgramDeskModel", "parameters", "[I", true)
  | 24 => ("ProgramDeskModel", "faults", "I", false)
  | 25 => ("ProgramDeskModel", "fault", "[I", true)
  | 26 => ("ProgramDeskModel", "state", "I", false)
  | 27 => ("ProgramDeskModel", "blocks", "I", false)
  | 28 => ("ProgramDeskModel", "opened", "[I", true)
  | 29 => ("ProgramDeskModel", "frames", "I", false)
  | 30 => ("ProgramDeskModel", "caller", "[I", true)
  | 31 => ("ProgramDeskModel", "less", "[Z", true)
  | 32 => ("ProgramDeskModel", "ending", "I", false)
  | 33 => ("ProgramDeskModel", "letName", "I", false)
  | 34 => ("ProgramDeskModel", "size", "I", false)
  | 35 => ("ProgramDeskModel", "does", "[I", true)
  | 36 => ("ProgramDeskModel", "with", "[I", true)
  | 37 => ("ProgramDeskModel", "entry", "[I", true)
  | 38 => ("ProgramDeskModel", "slot", "[I", true)
  | 39 => ("ProgramDeskModel", "waiting", "I", false)
  | 40 => ("ProgramDeskModel", "wait", "[I", true)
  | 41 => ("ProgramDeskModel", "waitFor", "[I", true)
  | 42 => ("ProgramDeskModel", "blockKind", "[I", true)
  | 43 => ("ProgramDeskModel", "patch", "[I", true)
  | 44 => ("ProgramDeskModel", "again", "[I", true)
  | 45 => ("ProgramDeskModel", "local", "[I", true)
  | 46 => ("ProgramDeskModel", "back", "[I", true)
  | 47 => ("ProgramDeskModel", "stack", "[I", true)
  | 48 => ("ProgramDeskModel", "top", "I", false)
  | 49 => ("ProgramDeskModel", "depth", "I", false)
  | 50 => ("ProgramDeskModel", "counted", "I", false)
  | 51 => ("ProgramDeskModel", "printed", "I", false)
  | 52 => ("ProgramDeskModel", "shown", "[I", true)
  | _ => ("ProgramDeskModel", "result", "I", false)
def classes : List vw_C := [("ProgramDesk$Code", TCd, 3), ("ProgramDesk$Draft", TDr, 12), ("ProgramDesk$Functions", TFn, 5), ("ProgramDesk$Grammar", TGr, 10), ("ProgramDesk$Machine", TMa, 11), ("ProgramDesk$Names", TNa, 9), ("ProgramDesk$Text", TTe, 2), ("ProgramDesk$Tokens", TTo, 5), ("ProgramDesk", TX, 3), ("ProgramDeskModel", TMo, 54)]
theorem clsOwn : ∀ q ∈ classes, ∀ k, k < q.2.2 → (q.2.1 k).1 = q.1 := by decide +kernel
theorem tw224 : (Cond.laysFinal "ProgramDesk$Code" "ProgramDesk$Code" "operation" "[I") ∈ wsG := tc_1 224 rfl rfl
theorem tw226 : (Cond.laysFinal "ProgramDesk$Code" "ProgramDesk$Code" "operand" "[I") ∈ wsG := tc_1 226 rfl rfl
theorem tw228 : (Cond.lays "ProgramDesk$Code" "ProgramDesk$Code" "count" "I") ∈ wsG := tc_1 228 rfl rfl
theorem lays_Cd : ∀ k, k < 3 → u_lay "ProgramDesk$Code" TCd k ∈ wsG
  | 0, _ => tw224
  | 1, _ => tw226
  | 2, _ => tw228
  | k + 3, h => absurd h (by omega)
theorem tw292 : (Cond.laysFinal "ProgramDesk$Draft" "ProgramDesk$Draft" "text" "LProgramDesk$Text;") ∈ wsG := tc_2 52 rfl rfl
theorem tw294 : (Cond.laysFinal "ProgramDesk$Draft" "ProgramDesk$Draft" "tokens" "LProgramDesk$Tokens;") ∈ wsG := tc_2 54 rfl rfl
theorem tw296 : (Cond.laysFinal "ProgramDesk$Draft" "ProgramDesk$Draft" "functions" "LProgramDesk$Functions;") ∈ wsG := tc_2 56 rfl rfl
theorem tw298 : (Cond.laysFinal "ProgramDesk$Draft" "ProgramDesk$Draft" "names" "LProgramDesk$Names;") ∈ wsG := tc_2 58 rfl rfl
theorem tw300 : (Cond.laysFinal "ProgramDesk$Draft" "ProgramDesk$Draft" "code" "LProgramDesk$Code;") ∈ wsG := tc_2 60 rfl rfl
theorem tw302 : (Cond.laysFinal "ProgramDesk$Draft" "ProgramDesk$Draft" "grammar" "LProgramDesk$Grammar;") ∈ wsG := tc_2 62 rfl rfl
theorem tw304 : (Cond.laysFinal "ProgramDesk$Draft" "ProgramDesk$Draft" "part" "[I") ∈ wsG := tc_2 64 rfl rfl
theorem tw306 : (Cond.laysFinal "ProgramDesk$Draft" "ProgramDesk$Draft" "broken" "[I") ∈ wsG := tc_2 66 rfl rfl
theorem tw308 : (Cond.lays "ProgramDesk$Draft" "ProgramDesk$Draft" "parts" "I") ∈ wsG := tc_2 68 rfl rfl
theorem tw310 : (Cond.laysFinal "ProgramDesk$Draft" "ProgramDesk$Draft" "faultRow" "[I") ∈ wsG := tc_2 70 rfl rfl
theorem tw312 : (Cond.lays "ProgramDesk$Draft" "ProgramDesk$Draft" "faultCount" "I") ∈ wsG := tc_2 72 rfl rfl
theorem tw314 : (Cond.lays "ProgramDesk$Draft" "ProgramDesk$Draft" "fresh" "Z") ∈ wsG := tc_2 74 rfl rfl
theorem lays_Dr : ∀ k, k < 12 → u_lay "ProgramDesk$Draft" TDr k ∈ wsG
  | 0, _ => tw292
  | 1, _ => tw294
  | 2, _ => tw296
  | 3, _ => tw298
  | 4, _ => tw300
  | 5, _ => tw302
  | 6, _ => tw304
  | 7, _ => tw306
  | 8, _ => tw308
  | 9, _ => tw310
  | 10, _ => tw312
  | 11, _ => tw314
  | k + 12, h => absurd h (by omega)
theorem tw155 : (Cond.laysFinal "ProgramDesk$Functions" "ProgramDesk$Functions" "name" "[I") ∈ wsG := tc_1 155 rfl rfl
theorem tw157 : (Cond.laysFinal "ProgramDesk$Functions" "ProgramDesk$Functions" "parameters" "[I") ∈ wsG := tc_1 157 rfl rfl
theorem tw159 : (Cond.laysFinal "ProgramDesk$Functions" "ProgramDesk$Functions" "entry" "[I") ∈ wsG := tc_1 159 rfl rfl
theorem tw161 : (Cond.lays "ProgramDesk$Functions" "ProgramDesk$Functions" "count" "I") ∈ wsG := tc_1 161 rfl rfl
theorem tw163 : (Cond.laysFinal "ProgramDesk$Functions" "ProgramDesk$Functions" "tokens" "LProgramDesk$Tokens;") ∈ wsG := tc_1 163 rfl rfl
theorem lays_Fn : ∀ k, k < 5 → u_lay "ProgramDesk$Functions" TFn k ∈ wsG
  | 0, _ => tw155
  | 1, _ => tw157
  | 2, _ => tw159
  | 3, _ => tw161
  | 4, _ => tw163
  | k + 5, h => absurd h (by omega)
theorem tw248 : (Cond.lays "ProgramDesk$Grammar" "ProgramDesk$Grammar" "next" "I") ∈ wsG := tc_2 8 rfl rfl
theorem tw250 : (Cond.lays "ProgramDesk$Grammar" "ProgramDesk$Grammar" "limit" "I") ∈ wsG := tc_2 10 rfl rfl
theorem tw252 : (Cond.lays "ProgramDesk$Grammar" "ProgramDesk$Grammar" "blocks" "I") ∈ wsG := tc_2 12 rfl rfl
theorem tw254 : (Cond.laysFinal "ProgramDesk$Grammar" "ProgramDesk$Grammar" "opener" "[I") ∈ wsG := tc_2 14 rfl rfl
theorem tw256 : (Cond.laysFinal "ProgramDesk$Grammar" "ProgramDesk$Grammar" "test" "[I") ∈ wsG := tc_2 16 rfl rfl
theorem tw258 : (Cond.laysFinal "ProgramDesk$Grammar" "ProgramDesk$Grammar" "again" "[I") ∈ wsG := tc_2 18 rfl rfl
theorem tw260 : (Cond.laysFinal "ProgramDesk$Grammar" "ProgramDesk$Grammar" "tokens" "LProgramDesk$Tokens;") ∈ wsG := tc_2 20 rfl rfl
theorem tw262 : (Cond.laysFinal "ProgramDesk$Grammar" "ProgramDesk$Grammar" "names" "LProgramDesk$Names;") ∈ wsG := tc_2 22 rfl rfl
theorem tw264 : (Cond.laysFinal "ProgramDesk$Grammar" "ProgramDesk$Grammar" "functions" "LProgramDesk$Functions;") ∈ wsG := tc_2 24 rfl rfl
theorem tw266 : (Cond.laysFinal "ProgramDesk$Grammar" "ProgramDesk$Grammar" "code" "LProgramDesk$Code;") ∈ wsG := tc_2 26 rfl rfl
theorem lays_Gr : ∀ k, k < 10 → u_lay "ProgramDesk$Grammar" TGr k ∈ wsG
  | 0, _ => tw248
  | 1, _ => tw250
  | 2, _ => tw252
  | 3, _ => tw254
  | 4, _ => tw256
  | 5, _ => tw258
  | 6, _ => tw260
  | 7, _ => tw262
  | 8, _ => tw264
  | 9, _ => tw266
  | k + 10, h => absurd h (by omega)
theorem tw53 : (Cond.laysFinal "ProgramDesk$Machine" "ProgramDesk$Machine" "kept" "[I") ∈ wsG := tc_1 53 rfl rfl
theorem tw55 : (Cond.lays "ProgramDesk$Machine" "ProgramDesk$Machine" "printed" "I") ∈ wsG := tc_1 55 rfl rfl
theorem tw57 : (Cond.lays "ProgramDesk$Machine" "ProgramDesk$Machine" "given" "I") ∈ wsG := tc_1 57 rfl rfl
theorem tw59 : (Cond.laysFinal "ProgramDesk$Machine" "ProgramDesk$Machine" "variables" "[I") ∈ wsG := tc_1 59 rfl rfl
theorem tw61 : (Cond.laysFinal "ProgramDesk$Machine" "ProgramDesk$Machine" "stack" "[I") ∈ wsG := tc_1 61 rfl rfl
theorem tw63 : (Cond.lays "ProgramDesk$Machine" "ProgramDesk$Machine" "height" "I") ∈ wsG := tc_1 63 rfl rfl
theorem tw65 : (Cond.laysFinal "ProgramDesk$Machine" "ProgramDesk$Machine" "back" "[I") ∈ wsG := tc_1 65 rfl rfl
theorem tw67 : (Cond.lays "ProgramDesk$Machine" "ProgramDesk$Machine" "open" "I") ∈ wsG := tc_1 67 rfl rfl
theorem tw69 : (Cond.lays "ProgramDesk$Machine" "ProgramDesk$Machine" "counted" "I") ∈ wsG := tc_1 69 rfl rfl
theorem tw71 : (Cond.lays "ProgramDesk$Machine" "ProgramDesk$Machine" "at" "I") ∈ wsG := tc_1 71 rfl rfl
theorem tw73 : (Cond.lays "ProgramDesk$Machine" "ProgramDesk$Machine" "outcome" "I") ∈ wsG := tc_1 73 rfl rfl
theorem lays_Ma : ∀ k, k < 11 → u_lay "ProgramDesk$Machine" TMa k ∈ wsG
  | 0, _ => tw53
  | 1, _ => tw55
  | 2, _ => tw57
  | 3, _ => tw59
  | 4, _ => tw61
  | 5, _ => tw63
  | 6, _ => tw65
  | 7, _ => tw67
  | 8, _ => tw69
  | 9, _ => tw71
  | 10, _ => tw73
  | k + 11, h => absurd h (by omega)
theorem tw191 : (Cond.laysFinal "ProgramDesk$Names" "ProgramDesk$Names" "role" "[I") ∈ wsG := tc_1 191 rfl rfl
theorem tw193 : (Cond.laysFinal "ProgramDesk$Names" "ProgramDesk$Names" "bound" "[I") ∈ wsG := tc_1 193 rfl rfl
theorem tw195 : (Cond.laysFinal "ProgramDesk$Names" "ProgramDesk$Names" "wrong" "[I") ∈ wsG := tc_1 195 rfl rfl
theorem tw197 : (Cond.laysFinal "ProgramDesk$Names" "ProgramDesk$Names" "scope" "[I") ∈ wsG := tc_1 197 rfl rfl
theorem tw199 : (Cond.laysFinal "ProgramDesk$Names" "ProgramDesk$Names" "from" "[I") ∈ wsG := tc_1 199 rfl rfl
theorem tw201 : (Cond.laysFinal "ProgramDesk$Names" "ProgramDesk$Names" "until" "[I") ∈ wsG := tc_1 201 rfl rfl
theorem tw203 : (Cond.laysFinal "ProgramDesk$Names" "ProgramDesk$Names" "sent" "[I") ∈ wsG := tc_1 203 rfl rfl
theorem tw205 : (Cond.laysFinal "ProgramDesk$Names" "ProgramDesk$Names" "tokens" "LProgramDesk$Tokens;") ∈ wsG := tc_1 205 rfl rfl
theorem tw207 : (Cond.laysFinal "ProgramDesk$Names" "ProgramDesk$Names" "functions" "LProgramDesk$Functions;") ∈ wsG := tc_1 207 rfl rfl
theorem lays_Na : ∀ k, k < 9 → u_lay "ProgramDesk$Names" TNa k ∈ wsG
  | 0, _ => tw191
  | 1, _ => tw193
  | 2, _ => tw195
  | 3, _ => tw197
  | 4, _ => tw199
  | 5, _ => tw201
  | 6, _ => tw203
  | 7, _ => tw205
  | 8, _ => tw207
  | k + 9, h => absurd h (by omega)
theorem tw96 : (Cond.laysFinal "ProgramDesk$Text" "ProgramDesk$Text" "letters" "[C") ∈ wsG := tc_1 96 rfl rfl
theorem tw98 : (Cond.lays "ProgramDesk$Text" "ProgramDesk$Text" "size" "I") ∈ wsG := tc_1 98 rfl rfl
theorem lays_Te : ∀ k, k < 2 → u_lay "ProgramDesk$Text" TTe k ∈ wsG
  | 0, _ => tw96
  | 1, _ => tw98
  | k + 2, h => absurd h (by omega)
theorem tw127 : (Cond.laysFinal "ProgramDesk$Tokens" "ProgramDesk$Tokens" "kind" "[I") ∈ wsG := tc_1 127 rfl rfl
theorem tw129 : (Cond.laysFinal "ProgramDesk$Tokens" "ProgramDesk$Tokens" "sense" "[I") ∈ wsG := tc_1 129 rfl rfl
theorem tw131 : (Cond.laysFinal "ProgramDesk$Tokens" "ProgramDesk$Tokens" "start" "[I") ∈ wsG := tc_1 131 rfl rfl
theorem tw133 : (Cond.laysFinal "ProgramDesk$Tokens" "ProgramDesk$Tokens" "end" "[I") ∈ wsG := tc_1 133 rfl rfl
theorem tw135 : (Cond.lays "ProgramDesk$Tokens" "ProgramDesk$Tokens" "count" "I") ∈ wsG := tc_1 135 rfl rfl
theorem lays_To : ∀ k, k < 5 → u_lay "ProgramDesk$Tokens" TTo k ∈ wsG
  | 0, _ => tw127
  | 1, _ => tw129
  | 2, _ => tw131
  | 3, _ => tw133
  | 4, _ => tw135
  | k + 5, h => absurd h (by omega)
theorem tw320 : (Cond.laysFinal "ProgramDesk" "ProgramDesk" "machine" "LProgramDesk$Machine;") ∈ wsG := tc_2 80 rfl rfl
theorem tw322 : (Cond.lays "ProgramDesk" "ProgramDesk" "draft" "LProgramDesk$Draft;") ∈ wsG := tc_2 82 rfl rfl
theorem tw324 : (Cond.lays "ProgramDesk" "ProgramDesk" "trial" "LProgramDesk$Draft;") ∈ wsG := tc_2 84 rfl rfl
theorem lays_X : ∀ k, k < 3 → u_lay "ProgramDesk" TX k ∈ wsG
  | 0, _ => tw320
  | 1, _ => tw322
  | 2, _ => tw324
  | k + 3, h => absurd h (by omega)
theorem tw996 : (Cond.laysFinal "ProgramDeskModel" "ProgramDeskModel" "keywords" "[J") ∈ wsG := tc_5 36 rfl rfl
theorem tw998 : (Cond.lays "ProgramDeskModel" "ProgramDeskModel" "code" "I") ∈ wsG := tc_5 38 rfl rfl
theorem tw1000 : (Cond.laysFinal "ProgramDeskModel" "ProgramDeskModel" "text" "[I") ∈ wsG := tc_5 40 rfl rfl
theorem tw1002 : (Cond.lays "ProgramDeskModel" "ProgramDeskModel" "length" "I") ∈ wsG := tc_5 42 rfl rfl
theorem tw1004 : (Cond.laysFinal "ProgramDeskModel" "ProgramDeskModel" "old" "[I") ∈ wsG := tc_5 44 rfl rfl
theorem tw1006 : (Cond.lays "ProgramDeskModel" "ProgramDeskModel" "oldLength" "I") ∈ wsG := tc_5 46 rfl rfl
theorem tw1008 : (Cond.laysFinal "ProgramDeskModel" "ProgramDeskModel" "fresh" "[I") ∈ wsG := tc_5 48 rfl rfl
theorem tw1010 : (Cond.lays "ProgramDeskModel" "ProgramDeskModel" "tokens" "I") ∈ wsG := tc_5 50 rfl rfl
theorem tw1012 : (Cond.laysFinal "ProgramDeskModel" "ProgramDeskModel" "kind" "[I") ∈ wsG := tc_5 52 rfl rfl
theorem tw1014 : (Cond.laysFinal "ProgramDeskModel" "ProgramDeskModel" "from" "[I") ∈ wsG := tc_5 54 rfl rfl
theorem tw1016 : (Cond.laysFinal "ProgramDeskModel" "ProgramDeskModel" "to" "[I") ∈ wsG := tc_5 56 rfl rfl
theorem tw1018 : (Cond.laysFinal "ProgramDeskModel" "ProgramDeskModel" "word" "[J") ∈ wsG := tc_5 58 rfl rfl
theorem tw1020 : (Cond.laysFinal "ProgramDeskModel" "ProgramDeskModel" "role" "[I") ∈ wsG := tc_5 60 rfl rfl
theorem tw1022 : (Cond.laysFinal "ProgramDeskModel" "ProgramDeskModel" "bound" "[I") ∈ wsG := tc_5 62 rfl rfl
theorem tw1024 : (Cond.laysFinal "ProgramDeskModel" "ProgramDeskModel" "before" "[I") ∈ wsG := tc_5 64 rfl rfl
theorem tw1026 : (Cond.laysFinal "ProgramDeskModel" "ProgramDeskModel" "given" "[I") ∈ wsG := tc_5 66 rfl rfl
theorem tw1028 : (Cond.laysFinal "ProgramDeskModel" "ProgramDeskModel" "scope" "[I") ∈ wsG := tc_5 68 rfl rfl
theorem tw1030 : (Cond.laysFinal "ProgramDeskModel" "ProgramDeskModel" "since" "[I") ∈ wsG := tc_5 70 rfl rfl
theorem tw1032 : (Cond.laysFinal "ProgramDeskModel" "ProgramDeskModel" "until" "[I") ∈ wsG := tc_5 72 rfl rfl
theorem tw1034 : (Cond.lays "ProgramDeskModel" "ProgramDeskModel" "parts" "I") ∈ wsG := tc_5 74 rfl rfl
theorem tw1036 : (Cond.laysFinal "ProgramDeskModel" "ProgramDeskModel" "first" "[I") ∈ wsG := tc_5 76 rfl rfl
theorem tw1038 : (Cond.laysFinal "ProgramDeskModel" "ProgramDeskModel" "behind" "[I") ∈ wsG := tc_5 78 rfl rfl
theorem tw1040 : (Cond.laysFinal "ProgramDeskModel" "ProgramDeskModel" "broken" "[I") ∈ wsG := tc_5 80 rfl rfl
theorem tw1042 : (Cond.laysFinal "ProgramDeskModel" "ProgramDeskModel" "parameters" "[I") ∈ wsG := tc_5 82 rfl rfl
theorem tw1044 : (Cond.lays "ProgramDeskModel" "ProgramDeskModel" "faults" "I") ∈ wsG := tc_5 84 rfl rfl
theorem tw1046 : (Cond.laysFinal "ProgramDeskModel" "ProgramDeskModel" "fault" "[I") ∈ wsG := tc_5 86 rfl rfl
theorem tw1048 : (Cond.lays "ProgramDeskModel" "ProgramDeskModel" "state" "I") ∈ wsG := tc_5 88 rfl rfl
theorem tw1050 : (Cond.lays "ProgramDeskModel" "ProgramDeskModel" "blocks" "I") ∈ wsG := tc_5 90 rfl rfl
theorem tw1052 : (Cond.laysFinal "ProgramDeskModel" "ProgramDeskModel" "opened" "[I") ∈ wsG := tc_5 92 rfl rfl
theorem tw1054 : (Cond.lays "ProgramDeskModel" "ProgramDeskModel" "frames" "I") ∈ wsG := tc_5 94 rfl rfl
theorem tw1056 : (Cond.laysFinal "ProgramDeskModel" "ProgramDeskModel" "caller" "[I") ∈ wsG := tc_5 96 rfl rfl
theorem tw1058 : (Cond.laysFinal "ProgramDeskModel" "ProgramDeskModel" "less" "[Z") ∈ wsG := tc_5 98 rfl rfl
theorem tw1060 : (Cond.lays "ProgramDeskModel" "ProgramDeskModel" "ending" "I") ∈ wsG := tc_5 100 rfl rfl
theorem tw1062 : (Cond.lays "ProgramDeskModel" "ProgramDeskModel" "letName" "I") ∈ wsG := tc_5 102 rfl rfl
theorem tw1064 : (Cond.lays "ProgramDeskModel" "ProgramDeskModel" "size" "I") ∈ wsG := tc_5 104 rfl rfl
theorem tw1066 : (Cond.laysFinal "ProgramDeskModel" "ProgramDeskModel" "does" "[I") ∈ wsG := tc_5 106 rfl rfl
theorem tw1068 : (Cond.laysFinal "ProgramDeskModel" "ProgramDeskModel" "with" "[I") ∈ wsG := tc_5 108 rfl rfl
theorem tw1070 : (Cond.laysFinal "ProgramDeskModel" "ProgramDeskModel" "entry" "[I") ∈ wsG := tc_5 110 rfl rfl
theorem tw1072 : (Cond.laysFinal "ProgramDeskModel" "ProgramDeskModel" "slot" "[I") ∈ wsG := tc_5 112 rfl rfl
theorem tw1074 : (Cond.lays "ProgramDeskModel" "ProgramDeskModel" "waiting" "I") ∈ wsG := tc_5 114 rfl rfl
theorem tw1076 : (Cond.laysFinal "ProgramDeskModel" "ProgramDeskModel" "wait" "[I") ∈ wsG := tc_5 116 rfl rfl
theorem tw1078 : (Cond.laysFinal "ProgramDeskModel" "ProgramDeskModel" "waitFor" "[I") ∈ wsG := tc_5 118 rfl rfl
theorem tw1080 : (Cond.laysFinal "ProgramDeskModel" "ProgramDeskModel" "blockKind" "[I") ∈ wsG := tc_5 120 rfl rfl
theorem tw1082 : (Cond.laysFinal "ProgramDeskModel" "ProgramDeskModel" "patch" "[I") ∈ wsG := tc_5 122 rfl rfl
theorem tw1084 : (Cond.laysFinal "ProgramDeskModel" "ProgramDeskModel" "again" "[I") ∈ wsG := tc_5 124 rfl rfl
theorem tw1086 : (Cond.laysFinal "ProgramDeskModel" "ProgramDeskModel" "local" "[I") ∈ wsG := tc_5 126 rfl rfl
theorem tw1088 : (Cond.laysFinal "ProgramDeskModel" "ProgramDeskModel" "back" "[I") ∈ wsG := tc_5 128 rfl rfl
theorem tw1090 : (Cond.laysFinal "ProgramDeskModel" "ProgramDeskModel" "stack" "[I") ∈ wsG := tc_5 130 rfl rfl
theorem tw1092 : (Cond.lays "ProgramDeskModel" "ProgramDeskModel" "top" "I") ∈ wsG := tc_5 132 rfl rfl
theorem tw1094 : (Cond.lays "ProgramDeskModel" "ProgramDeskModel" "depth" "I") ∈ wsG := tc_5 134 rfl rfl
theorem tw1096 : (Cond.lays "ProgramDeskModel" "ProgramDeskModel" "counted" "I") ∈ wsG := tc_5 136 rfl rfl
theorem tw1098 : (Cond.lays "ProgramDeskModel" "ProgramDeskModel" "printed" "I") ∈ wsG := tc_5 138 rfl rfl
theorem tw1100 : (Cond.laysFinal "ProgramDeskModel" "ProgramDeskModel" "shown" "[I") ∈ wsG := tc_5 140 rfl rfl
theorem tw1102 : (Cond.lays "ProgramDeskModel" "ProgramDeskModel" "result" "I") ∈ wsG := tc_5 142 rfl rfl
theorem lays_Mo : ∀ k, k < 54 → u_lay "ProgramDeskModel" TMo k ∈ wsG
  | 0, _ => tw996
  | 1, _ => tw998
  | 2, _ => tw1000
  | 3, _ => tw1002
  | 4, _ => tw1004
  | 5, _ => tw1006
  | 6, _ => tw1008
  | 7, _ => tw1010
  | 8, _ => tw1012
  | 9, _ => tw1014
  | 10, _ => tw1016
  | 11, _ => tw1018
  | 12, _ => tw1020
  | 13, _ => tw1022
  | 14, _ => tw1024
  | 15, _ => tw1026
  | 16, _ => tw1028
  | 17, _ => tw1030
  | 18, _ => tw1032
  | 19, _ => tw1034
  | 20, _ => tw1036
  | 21, _ => tw1038
  | 22, _ => tw1040
  | 23, _ => tw1042
  | 24, _ => tw1044
  | 25, _ => tw1046
  | 26, _ => tw1048
  | 27, _ => tw1050
  | 28, _ => tw1052
  | 29, _ => tw1054
  | 30, _ => tw1056
  | 31, _ => tw1058
  | 32, _ => tw1060
  | 33, _ => tw1062
  | 34, _ => tw1064
  | 35, _ => tw1066
  | 36, _ => tw1068
  | 37, _ => tw1070
  | 38, _ => tw1072
  | 39, _ => tw1074
  | 40, _ => tw1076
  | 41, _ => tw1078
  | 42, _ => tw1080
  | 43, _ => tw1082
  | 44, _ => tw1084
  | 45, _ => tw1086
  | 46, _ => tw1088
  | 47, _ => tw1090
  | 48, _ => tw1092
  | 49, _ => tw1094
  | 50, _ => tw1096
  | 51, _ => tw1098
  | 52, _ => tw1100
  | 53, _ => tw1102
  | k + 54, h => absurd h (by omega)
theorem clsIn : ∀ q ∈ classes, ∀ w ∈ u_ws q.1 q.2.1 q.2.2, w ∈ wsG := by
  intro q hq w hw
  obtain ⟨k, hk, rfl⟩ := List.mem_map.mp hw
  have hk := List.mem_range.mp hk
  simp only [classes, List.mem_cons, List.not_mem_nil, or_false] at hq
  rcases hq with rfl | rfl | rfl | rfl | rfl | rfl | rfl | rfl | rfl | rfl
  · exact lays_Cd k hk
  · exact lays_Dr k hk
  · exact lays_Fn k hk
  · exact lays_Gr k hk
  · exact lays_Ma k hk
  · exact lays_Na k hk
  · exact lays_Te k hk
  · exact lays_To k hk
  · exact lays_X k hk
  · exact lays_Mo k hk
theorem clsTy : ∀ q ∈ classes, ∀ k, k < q.2.2 → parseFieldDescriptor (q.2.1 k).2.2.1 = some ((parseFieldDescriptor (q.2.1 k).2.2.1).getD .int) := by decide +kernel
theorem clsNm : ∀ q ∈ classes, ∀ a, a < q.2.2 → ∀ b, b < q.2.2 → a ≠ b → (q.2.1 a).2.1 ≠ (q.2.1 b).2.1 := by decide +kernel
def tabW : Nat → Int32 := fun j => ([454, 20652, 201, 5645591, 21440080, 489345202, 468013] : List Int32).getD j 0
theorem mm {α : Type} {l : List α} {x : α} (n : Nat) (h : l[n]? = some x) : x ∈ l := List.mem_of_getElem? h
