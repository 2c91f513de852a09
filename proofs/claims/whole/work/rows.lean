section
-- ===== PART A: goes FIRST, ahead of the names: the tables' words, and 'selects' of the private methods out of them =====
/-- a private method of a class that the tables say can be made, by its rows of tables_1 -/
def lw_okq (q : MethodName × Nat) : Prop := (q.1.cls ≠ "java/lang/invoke/MethodHandle" ∧ q.1.cls ≠ "java/lang/invoke/VarHandle") ∧ Cond.instantiable q.1.cls q.2 ∈ tables_1 ∧ Cond.privateMethod q.1 ∈ tables_1 ∧ Cond.instanceMethod q.1 ∈ tables_1
theorem lw_p0 : lw_okq (⟨"java/lang/Throwable", "fillInStackTrace", "(I)Ljava/lang/Throwable;"⟩, 6) := ⟨⟨by decide +kernel, by decide +kernel⟩, List.mem_of_getElem? (i := 409) (by decide +kernel), List.mem_of_getElem? (i := 407) (by decide +kernel), List.mem_of_getElem? (i := 408) (by decide +kernel)⟩
theorem lw_p1 : lw_okq (⟨"SharedChoices$Search", "openNextWindow", "()V"⟩, 15) := ⟨⟨by decide +kernel, by decide +kernel⟩, List.mem_of_getElem? (i := 55) (by decide +kernel), List.mem_of_getElem? (i := 574) (by decide +kernel), List.mem_of_getElem? (i := 575) (by decide +kernel)⟩
theorem lw_p2 : lw_okq (⟨"SharedChoices$Search", "comesToValue", "()Z"⟩, 15) := ⟨⟨by decide +kernel, by decide +kernel⟩, List.mem_of_getElem? (i := 55) (by decide +kernel), List.mem_of_getElem? (i := 595) (by decide +kernel), List.mem_of_getElem? (i := 596) (by decide +kernel)⟩
theorem lw_p3 : lw_okq (⟨"SharedChoices$Search", "mostDecisions", "()I"⟩, 15) := ⟨⟨by decide +kernel, by decide +kernel⟩, List.mem_of_getElem? (i := 55) (by decide +kernel), List.mem_of_getElem? (i := 602) (by decide +kernel), List.mem_of_getElem? (i := 603) (by decide +kernel)⟩
theorem lw_p4 : lw_okq (⟨"SharedChoices$Way", "begin", "()V"⟩, 12) := ⟨⟨by decide +kernel, by decide +kernel⟩, List.mem_of_getElem? (i := 121) (by decide +kernel), List.mem_of_getElem? (i := 619) (by decide +kernel), List.mem_of_getElem? (i := 620) (by decide +kernel)⟩
theorem lw_p5 : lw_okq (⟨"SharedChoices$Work", "tellInFull", "(II)I"⟩, 10) := ⟨⟨by decide +kernel, by decide +kernel⟩, List.mem_of_getElem? (i := 115) (by decide +kernel), List.mem_of_getElem? (i := 627) (by decide +kernel), List.mem_of_getElem? (i := 628) (by decide +kernel)⟩
theorem lw_p6 : lw_okq (⟨"SharedChoices$Work", "valueOf", "(II)I"⟩, 10) := ⟨⟨by decide +kernel, by decide +kernel⟩, List.mem_of_getElem? (i := 115) (by decide +kernel), List.mem_of_getElem? (i := 631) (by decide +kernel), List.mem_of_getElem? (i := 632) (by decide +kernel)⟩
theorem lw_p7 : lw_okq (⟨"SharedChoices$Work", "homeOf", "(I)LSharedChoices$Way;"⟩, 10) := ⟨⟨by decide +kernel, by decide +kernel⟩, List.mem_of_getElem? (i := 115) (by decide +kernel), List.mem_of_getElem? (i := 635) (by decide +kernel), List.mem_of_getElem? (i := 636) (by decide +kernel)⟩
theorem lw_p8 : lw_okq (⟨"SharedChoices$Work", "take", "(IJI)I"⟩, 10) := ⟨⟨by decide +kernel, by decide +kernel⟩, List.mem_of_getElem? (i := 115) (by decide +kernel), List.mem_of_getElem? (i := 664) (by decide +kernel), List.mem_of_getElem? (i := 665) (by decide +kernel)⟩
theorem lw_p9 : lw_okq (⟨"SharedChoices$Work", "workOut", "(I)I"⟩, 10) := ⟨⟨by decide +kernel, by decide +kernel⟩, List.mem_of_getElem? (i := 115) (by decide +kernel), List.mem_of_getElem? (i := 668) (by decide +kernel), List.mem_of_getElem? (i := 669) (by decide +kernel)⟩
theorem lw_p10 : lw_okq (⟨"SharedChoices$Work", "takeNumber", "(J)I"⟩, 10) := ⟨⟨by decide +kernel, by decide +kernel⟩, List.mem_of_getElem? (i := 115) (by decide +kernel), List.mem_of_getElem? (i := 677) (by decide +kernel), List.mem_of_getElem? (i := 678) (by decide +kernel)⟩
theorem lw_p11 : lw_okq (⟨"SharedChoices$Work", "workChoice", "(I)I"⟩, 10) := ⟨⟨by decide +kernel, by decide +kernel⟩, List.mem_of_getElem? (i := 115) (by decide +kernel), List.mem_of_getElem? (i := 681) (by decide +kernel), List.mem_of_getElem? (i := 682) (by decide +kernel)⟩
theorem lw_p12 : lw_okq (⟨"SharedChoices$Work", "workPart", "(IZ)I"⟩, 10) := ⟨⟨by decide +kernel, by decide +kernel⟩, List.mem_of_getElem? (i := 115) (by decide +kernel), List.mem_of_getElem? (i := 691) (by decide +kernel), List.mem_of_getElem? (i := 692) (by decide +kernel)⟩
theorem lw_p13 : lw_okq (⟨"SharedChoices$Work", "workOp", "(I)I"⟩, 10) := ⟨⟨by decide +kernel, by decide +kernel⟩, List.mem_of_getElem? (i := 115) (by decide +kernel), List.mem_of_getElem? (i := 695) (by decide +kernel), List.mem_of_getElem? (i := 696) (by decide +kernel)⟩
theorem lw_p14 : lw_okq (⟨"SharedChoices$Work", "reckon", "(IJJ)I"⟩, 10) := ⟨⟨by decide +kernel, by decide +kernel⟩, List.mem_of_getElem? (i := 115) (by decide +kernel), List.mem_of_getElem? (i := 700) (by decide +kernel), List.mem_of_getElem? (i := 701) (by decide +kernel)⟩
theorem lw_p15 : lw_okq (⟨"SharedChoices$Work", "workWhen", "(I)I"⟩, 10) := ⟨⟨by decide +kernel, by decide +kernel⟩, List.mem_of_getElem? (i := 115) (by decide +kernel), List.mem_of_getElem? (i := 704) (by decide +kernel), List.mem_of_getElem? (i := 705) (by decide +kernel)⟩
def lw_privs_1 : List (MethodName × Nat) := [(⟨"java/lang/Throwable", "fillInStackTrace", "(I)Ljava/lang/Throwable;"⟩, 6), (⟨"SharedChoices$Search", "openNextWindow", "()V"⟩, 15), (⟨"SharedChoices$Search", "comesToValue", "()Z"⟩, 15), (⟨"SharedChoices$Search", "mostDecisions", "()I"⟩, 15), (⟨"SharedChoices$Way", "begin", "()V"⟩, 12), (⟨"SharedChoices$Work", "tellInFull", "(II)I"⟩, 10), (⟨"SharedChoices$Work", "valueOf", "(II)I"⟩, 10), (⟨"SharedChoices$Work", "homeOf", "(I)LSharedChoices$Way;"⟩, 10), (⟨"SharedChoices$Work", "take", "(IJI)I"⟩, 10), (⟨"SharedChoices$Work", "workOut", "(I)I"⟩, 10), (⟨"SharedChoices$Work", "takeNumber", "(J)I"⟩, 10), (⟨"SharedChoices$Work", "workChoice", "(I)I"⟩, 10), (⟨"SharedChoices$Work", "workPart", "(IZ)I"⟩, 10), (⟨"SharedChoices$Work", "workOp", "(I)I"⟩, 10), (⟨"SharedChoices$Work", "reckon", "(IJJ)I"⟩, 10), (⟨"SharedChoices$Work", "workWhen", "(I)I"⟩, 10)]
theorem lw_r1 : ∀ q ∈ lw_privs_1, lw_okq q := List.forall_mem_cons.mpr ⟨lw_p0, List.forall_mem_cons.mpr ⟨lw_p1, List.forall_mem_cons.mpr ⟨lw_p2, List.forall_mem_cons.mpr ⟨lw_p3, List.forall_mem_cons.mpr ⟨lw_p4, List.forall_mem_cons.mpr ⟨lw_p5, List.forall_mem_cons.mpr ⟨lw_p6, List.forall_mem_cons.mpr ⟨lw_p7, List.forall_mem_cons.mpr ⟨lw_p8, List.forall_mem_cons.mpr ⟨lw_p9, List.forall_mem_cons.mpr ⟨lw_p10, List.forall_mem_cons.mpr ⟨lw_p11, List.forall_mem_cons.mpr ⟨lw_p12, List.forall_mem_cons.mpr ⟨lw_p13, List.forall_mem_cons.mpr ⟨lw_p14, List.forall_mem_cons.mpr ⟨lw_p15, fun _ h => absurd h List.not_mem_nil⟩⟩⟩⟩⟩⟩⟩⟩⟩⟩⟩⟩⟩⟩⟩⟩
theorem lw_p16 : lw_okq (⟨"SharedChoices$Work", "workSet", "(I)I"⟩, 10) := ⟨⟨by decide +kernel, by decide +kernel⟩, List.mem_of_getElem? (i := 115) (by decide +kernel), List.mem_of_getElem? (i := 708) (by decide +kernel), List.mem_of_getElem? (i := 709) (by decide +kernel)⟩
theorem lw_p17 : lw_okq (⟨"SharedChoices$Work", "goWaysOfSet", "(ILSharedChoices$Way;I)I"⟩, 10) := ⟨⟨by decide +kernel, by decide +kernel⟩, List.mem_of_getElem? (i := 115) (by decide +kernel), List.mem_of_getElem? (i := 717) (by decide +kernel), List.mem_of_getElem? (i := 718) (by decide +kernel)⟩
theorem lw_p18 : lw_okq (⟨"SharedChoices$Tokens", "makeRoom", "(I)Z"⟩, 4) := ⟨⟨by decide +kernel, by decide +kernel⟩, List.mem_of_getElem? (i := 67) (by decide +kernel), List.mem_of_getElem? (i := 729) (by decide +kernel), List.mem_of_getElem? (i := 730) (by decide +kernel)⟩
theorem lw_p19 : lw_okq (⟨"SharedChoices$Work", "takeList", "(LSharedChoices$Tokens;)I"⟩, 10) := ⟨⟨by decide +kernel, by decide +kernel⟩, List.mem_of_getElem? (i := 115) (by decide +kernel), List.mem_of_getElem? (i := 783) (by decide +kernel), List.mem_of_getElem? (i := 784) (by decide +kernel)⟩
theorem lw_p20 : lw_okq (⟨"SharedChoices$Work", "workFold", "(I)I"⟩, 10) := ⟨⟨by decide +kernel, by decide +kernel⟩, List.mem_of_getElem? (i := 115) (by decide +kernel), List.mem_of_getElem? (i := 792) (by decide +kernel), List.mem_of_getElem? (i := 793) (by decide +kernel)⟩
theorem lw_p21 : lw_okq (⟨"SharedChoices$Work", "foldNumbers", "(III)I"⟩, 10) := ⟨⟨by decide +kernel, by decide +kernel⟩, List.mem_of_getElem? (i := 115) (by decide +kernel), List.mem_of_getElem? (i := 800) (by decide +kernel), List.mem_of_getElem? (i := 801) (by decide +kernel)⟩
theorem lw_p22 : lw_okq (⟨"SharedChoices$Search", "putOtherAlternatives", "(JI)V"⟩, 15) := ⟨⟨by decide +kernel, by decide +kernel⟩, List.mem_of_getElem? (i := 55) (by decide +kernel), List.mem_of_getElem? (i := 834) (by decide +kernel), List.mem_of_getElem? (i := 835) (by decide +kernel)⟩
theorem lw_p23 : lw_okq (⟨"SharedChoices$Search", "endsAsValue", "(IJ)Z"⟩, 15) := ⟨⟨by decide +kernel, by decide +kernel⟩, List.mem_of_getElem? (i := 55) (by decide +kernel), List.mem_of_getElem? (i := 838) (by decide +kernel), List.mem_of_getElem? (i := 839) (by decide +kernel)⟩
theorem lw_p24 : lw_okq (⟨"SharedChoices$Search", "stopAtDecision", "(JI)V"⟩, 15) := ⟨⟨by decide +kernel, by decide +kernel⟩, List.mem_of_getElem? (i := 55) (by decide +kernel), List.mem_of_getElem? (i := 857) (by decide +kernel), List.mem_of_getElem? (i := 858) (by decide +kernel)⟩
theorem lw_p25 : lw_okq (⟨"SharedChoicesModel", "make", "(IJIII)I"⟩, 53) := ⟨⟨by decide +kernel, by decide +kernel⟩, List.mem_of_getElem? (i := 872) (by decide +kernel), List.mem_of_getElem? (i := 1048) (by decide +kernel), List.mem_of_getElem? (i := 1049) (by decide +kernel)⟩
theorem lw_p26 : lw_okq (⟨"SharedChoicesModel", "isNode", "(I)Z"⟩, 53) := ⟨⟨by decide +kernel, by decide +kernel⟩, List.mem_of_getElem? (i := 872) (by decide +kernel), List.mem_of_getElem? (i := 1056) (by decide +kernel), List.mem_of_getElem? (i := 1057) (by decide +kernel)⟩
theorem lw_p27 : lw_okq (⟨"SharedChoicesModel", "refused", "(Z)Z"⟩, 53) := ⟨⟨by decide +kernel, by decide +kernel⟩, List.mem_of_getElem? (i := 872) (by decide +kernel), List.mem_of_getElem? (i := 1060) (by decide +kernel), List.mem_of_getElem? (i := 1061) (by decide +kernel)⟩
theorem lw_p28 : lw_okq (⟨"SharedChoicesModel", "forget", "()V"⟩, 53) := ⟨⟨by decide +kernel, by decide +kernel⟩, List.mem_of_getElem? (i := 872) (by decide +kernel), List.mem_of_getElem? (i := 1096) (by decide +kernel), List.mem_of_getElem? (i := 1097) (by decide +kernel)⟩
theorem lw_p29 : lw_okq (⟨"SharedChoicesModel", "fetch", "()I"⟩, 53) := ⟨⟨by decide +kernel, by decide +kernel⟩, List.mem_of_getElem? (i := 872) (by decide +kernel), List.mem_of_getElem? (i := 1112) (by decide +kernel), List.mem_of_getElem? (i := 1113) (by decide +kernel)⟩
theorem lw_p30 : lw_okq (⟨"SharedChoicesModel", "go", "(I)V"⟩, 53) := ⟨⟨by decide +kernel, by decide +kernel⟩, List.mem_of_getElem? (i := 872) (by decide +kernel), List.mem_of_getElem? (i := 1116) (by decide +kernel), List.mem_of_getElem? (i := 1117) (by decide +kernel)⟩
theorem lw_p31 : lw_okq (⟨"SharedChoicesModel", "beginWay", "()V"⟩, 53) := ⟨⟨by decide +kernel, by decide +kernel⟩, List.mem_of_getElem? (i := 872) (by decide +kernel), List.mem_of_getElem? (i := 1120) (by decide +kernel), List.mem_of_getElem? (i := 1121) (by decide +kernel)⟩
def lw_privs_2 : List (MethodName × Nat) := [(⟨"SharedChoices$Work", "workSet", "(I)I"⟩, 10), (⟨"SharedChoices$Work", "goWaysOfSet", "(ILSharedChoices$Way;I)I"⟩, 10), (⟨"SharedChoices$Tokens", "makeRoom", "(I)Z"⟩, 4), (⟨"SharedChoices$Work", "takeList", "(LSharedChoices$Tokens;)I"⟩, 10), (⟨"SharedChoices$Work", "workFold", "(I)I"⟩, 10), (⟨"SharedChoices$Work", "foldNumbers", "(III)I"⟩, 10), (⟨"SharedChoices$Search", "putOtherAlternatives", "(JI)V"⟩, 15), (⟨"SharedChoices$Search", "endsAsValue", "(IJ)Z"⟩, 15), (⟨"SharedChoices$Search", "stopAtDecision", "(JI)V"⟩, 15), (⟨"SharedChoicesModel", "make", "(IJIII)I"⟩, 53), (⟨"SharedChoicesModel", "isNode", "(I)Z"⟩, 53), (⟨"SharedChoicesModel", "refused", "(Z)Z"⟩, 53), (⟨"SharedChoicesModel", "forget", "()V"⟩, 53), (⟨"SharedChoicesModel", "fetch", "()I"⟩, 53), (⟨"SharedChoicesModel", "go", "(I)V"⟩, 53), (⟨"SharedChoicesModel", "beginWay", "()V"⟩, 53)]
theorem lw_r2 : ∀ q ∈ lw_privs_2, lw_okq q := List.forall_mem_cons.mpr ⟨lw_p16, List.forall_mem_cons.mpr ⟨lw_p17, List.forall_mem_cons.mpr ⟨lw_p18, List.forall_mem_cons.mpr ⟨lw_p19, List.forall_mem_cons.mpr ⟨lw_p20, List.forall_mem_cons.mpr ⟨lw_p21, List.forall_mem_cons.mpr ⟨lw_p22, List.forall_mem_cons.mpr ⟨lw_p23, List.forall_mem_cons.mpr ⟨lw_p24, List.forall_mem_cons.mpr ⟨lw_p25, List.forall_mem_cons.mpr ⟨lw_p26, List.forall_mem_cons.mpr ⟨lw_p27, List.forall_mem_cons.mpr ⟨lw_p28, List.forall_mem_cons.mpr ⟨lw_p29, List.forall_mem_cons.mpr ⟨lw_p30, List.forall_mem_cons.mpr ⟨lw_p31, fun _ h => absurd h List.not_mem_nil⟩⟩⟩⟩⟩⟩⟩⟩⟩⟩⟩⟩⟩⟩⟩⟩
theorem lw_p32 : lw_okq (⟨"SharedChoicesModel", "tellFull", "(I)V"⟩, 53) := ⟨⟨by decide +kernel, by decide +kernel⟩, List.mem_of_getElem? (i := 872) (by decide +kernel), List.mem_of_getElem? (i := 1124) (by decide +kernel), List.mem_of_getElem? (i := 1125) (by decide +kernel)⟩
theorem lw_p33 : lw_okq (⟨"SharedChoicesModel", "need", "(I)V"⟩, 53) := ⟨⟨by decide +kernel, by decide +kernel⟩, List.mem_of_getElem? (i := 872) (by decide +kernel), List.mem_of_getElem? (i := 1128) (by decide +kernel), List.mem_of_getElem? (i := 1129) (by decide +kernel)⟩
theorem lw_p34 : lw_okq (⟨"SharedChoicesModel", "levelOf", "(I)I"⟩, 53) := ⟨⟨by decide +kernel, by decide +kernel⟩, List.mem_of_getElem? (i := 872) (by decide +kernel), List.mem_of_getElem? (i := 1132) (by decide +kernel), List.mem_of_getElem? (i := 1133) (by decide +kernel)⟩
theorem lw_p35 : lw_okq (⟨"SharedChoicesModel", "workOut", "(I)V"⟩, 53) := ⟨⟨by decide +kernel, by decide +kernel⟩, List.mem_of_getElem? (i := 872) (by decide +kernel), List.mem_of_getElem? (i := 1136) (by decide +kernel), List.mem_of_getElem? (i := 1137) (by decide +kernel)⟩
theorem lw_p36 : lw_okq (⟨"SharedChoicesModel", "tell", "(IJ)V"⟩, 53) := ⟨⟨by decide +kernel, by decide +kernel⟩, List.mem_of_getElem? (i := 872) (by decide +kernel), List.mem_of_getElem? (i := 1140) (by decide +kernel), List.mem_of_getElem? (i := 1141) (by decide +kernel)⟩
theorem lw_p37 : lw_okq (⟨"SharedChoicesModel", "choose", "(II)V"⟩, 53) := ⟨⟨by decide +kernel, by decide +kernel⟩, List.mem_of_getElem? (i := 872) (by decide +kernel), List.mem_of_getElem? (i := 1144) (by decide +kernel), List.mem_of_getElem? (i := 1145) (by decide +kernel)⟩
theorem lw_p38 : lw_okq (⟨"SharedChoicesModel", "take", "(II)V"⟩, 53) := ⟨⟨by decide +kernel, by decide +kernel⟩, List.mem_of_getElem? (i := 872) (by decide +kernel), List.mem_of_getElem? (i := 1148) (by decide +kernel), List.mem_of_getElem? (i := 1149) (by decide +kernel)⟩
theorem lw_p39 : lw_okq (⟨"SharedChoicesModel", "cellOf", "(I)I"⟩, 53) := ⟨⟨by decide +kernel, by decide +kernel⟩, List.mem_of_getElem? (i := 872) (by decide +kernel), List.mem_of_getElem? (i := 1152) (by decide +kernel), List.mem_of_getElem? (i := 1153) (by decide +kernel)⟩
theorem lw_p40 : lw_okq (⟨"SharedChoicesModel", "needAs", "(II)V"⟩, 53) := ⟨⟨by decide +kernel, by decide +kernel⟩, List.mem_of_getElem? (i := 872) (by decide +kernel), List.mem_of_getElem? (i := 1156) (by decide +kernel), List.mem_of_getElem? (i := 1157) (by decide +kernel)⟩
theorem lw_p41 : lw_okq (⟨"SharedChoicesModel", "reckon", "(II)V"⟩, 53) := ⟨⟨by decide +kernel, by decide +kernel⟩, List.mem_of_getElem? (i := 872) (by decide +kernel), List.mem_of_getElem? (i := 1160) (by decide +kernel), List.mem_of_getElem? (i := 1161) (by decide +kernel)⟩
theorem lw_p42 : lw_okq (⟨"SharedChoicesModel", "goAll", "(II)V"⟩, 53) := ⟨⟨by decide +kernel, by decide +kernel⟩, List.mem_of_getElem? (i := 872) (by decide +kernel), List.mem_of_getElem? (i := 1164) (by decide +kernel), List.mem_of_getElem? (i := 1165) (by decide +kernel)⟩
theorem lw_p43 : lw_okq (⟨"SharedChoicesModel", "collect", "()V"⟩, 53) := ⟨⟨by decide +kernel, by decide +kernel⟩, List.mem_of_getElem? (i := 872) (by decide +kernel), List.mem_of_getElem? (i := 1168) (by decide +kernel), List.mem_of_getElem? (i := 1169) (by decide +kernel)⟩
theorem lw_p44 : lw_okq (⟨"SharedChoicesModel", "nextWay", "()Z"⟩, 53) := ⟨⟨by decide +kernel, by decide +kernel⟩, List.mem_of_getElem? (i := 872) (by decide +kernel), List.mem_of_getElem? (i := 1172) (by decide +kernel), List.mem_of_getElem? (i := 1173) (by decide +kernel)⟩
theorem lw_p45 : lw_okq (⟨"SharedChoicesModel", "keep", "(IJ)V"⟩, 53) := ⟨⟨by decide +kernel, by decide +kernel⟩, List.mem_of_getElem? (i := 872) (by decide +kernel), List.mem_of_getElem? (i := 1176) (by decide +kernel), List.mem_of_getElem? (i := 1177) (by decide +kernel)⟩
theorem lw_p46 : lw_okq (⟨"SharedChoicesModel", "lay", "(IJ)V"⟩, 53) := ⟨⟨by decide +kernel, by decide +kernel⟩, List.mem_of_getElem? (i := 872) (by decide +kernel), List.mem_of_getElem? (i := 1180) (by decide +kernel), List.mem_of_getElem? (i := 1181) (by decide +kernel)⟩
theorem lw_p47 : lw_okq (⟨"SharedChoicesModel", "foldUp", "(II)V"⟩, 53) := ⟨⟨by decide +kernel, by decide +kernel⟩, List.mem_of_getElem? (i := 872) (by decide +kernel), List.mem_of_getElem? (i := 1184) (by decide +kernel), List.mem_of_getElem? (i := 1185) (by decide +kernel)⟩
def lw_privs_3 : List (MethodName × Nat) := [(⟨"SharedChoicesModel", "tellFull", "(I)V"⟩, 53), (⟨"SharedChoicesModel", "need", "(I)V"⟩, 53), (⟨"SharedChoicesModel", "levelOf", "(I)I"⟩, 53), (⟨"SharedChoicesModel", "workOut", "(I)V"⟩, 53), (⟨"SharedChoicesModel", "tell", "(IJ)V"⟩, 53), (⟨"SharedChoicesModel", "choose", "(II)V"⟩, 53), (⟨"SharedChoicesModel", "take", "(II)V"⟩, 53), (⟨"SharedChoicesModel", "cellOf", "(I)I"⟩, 53), (⟨"SharedChoicesModel", "needAs", "(II)V"⟩, 53), (⟨"SharedChoicesModel", "reckon", "(II)V"⟩, 53), (⟨"SharedChoicesModel", "goAll", "(II)V"⟩, 53), (⟨"SharedChoicesModel", "collect", "()V"⟩, 53), (⟨"SharedChoicesModel", "nextWay", "()Z"⟩, 53), (⟨"SharedChoicesModel", "keep", "(IJ)V"⟩, 53), (⟨"SharedChoicesModel", "lay", "(IJ)V"⟩, 53), (⟨"SharedChoicesModel", "foldUp", "(II)V"⟩, 53)]
theorem lw_r3 : ∀ q ∈ lw_privs_3, lw_okq q := List.forall_mem_cons.mpr ⟨lw_p32, List.forall_mem_cons.mpr ⟨lw_p33, List.forall_mem_cons.mpr ⟨lw_p34, List.forall_mem_cons.mpr ⟨lw_p35, List.forall_mem_cons.mpr ⟨lw_p36, List.forall_mem_cons.mpr ⟨lw_p37, List.forall_mem_cons.mpr ⟨lw_p38, List.forall_mem_cons.mpr ⟨lw_p39, List.forall_mem_cons.mpr ⟨lw_p40, List.forall_mem_cons.mpr ⟨lw_p41, List.forall_mem_cons.mpr ⟨lw_p42, List.forall_mem_cons.mpr ⟨lw_p43, List.forall_mem_cons.mpr ⟨lw_p44, List.forall_mem_cons.mpr ⟨lw_p45, List.forall_mem_cons.mpr ⟨lw_p46, List.forall_mem_cons.mpr ⟨lw_p47, fun _ h => absurd h List.not_mem_nil⟩⟩⟩⟩⟩⟩⟩⟩⟩⟩⟩⟩⟩⟩⟩⟩
theorem lw_p48 : lw_okq (⟨"SharedChoicesModel", "token", "(IJ)V"⟩, 53) := ⟨⟨by decide +kernel, by decide +kernel⟩, List.mem_of_getElem? (i := 872) (by decide +kernel), List.mem_of_getElem? (i := 1188) (by decide +kernel), List.mem_of_getElem? (i := 1189) (by decide +kernel)⟩
theorem lw_p49 : lw_okq (⟨"SharedChoicesModel", "behind", "(I)I"⟩, 53) := ⟨⟨by decide +kernel, by decide +kernel⟩, List.mem_of_getElem? (i := 872) (by decide +kernel), List.mem_of_getElem? (i := 1192) (by decide +kernel), List.mem_of_getElem? (i := 1193) (by decide +kernel)⟩
theorem lw_p50 : lw_okq (⟨"SharedChoicesModel", "decide", "(I)V"⟩, 53) := ⟨⟨by decide +kernel, by decide +kernel⟩, List.mem_of_getElem? (i := 872) (by decide +kernel), List.mem_of_getElem? (i := 1198) (by decide +kernel), List.mem_of_getElem? (i := 1199) (by decide +kernel)⟩
theorem lw_p51 : lw_okq (⟨"SharedChoicesModel", "copy", "([IIII)V"⟩, 53) := ⟨⟨by decide +kernel, by decide +kernel⟩, List.mem_of_getElem? (i := 872) (by decide +kernel), List.mem_of_getElem? (i := 1202) (by decide +kernel), List.mem_of_getElem? (i := 1203) (by decide +kernel)⟩
theorem lw_p52 : lw_okq (⟨"SharedChoicesModel", "ends", "(I)Z"⟩, 53) := ⟨⟨by decide +kernel, by decide +kernel⟩, List.mem_of_getElem? (i := 872) (by decide +kernel), List.mem_of_getElem? (i := 1206) (by decide +kernel), List.mem_of_getElem? (i := 1207) (by decide +kernel)⟩
def lw_privs_4 : List (MethodName × Nat) := [(⟨"SharedChoicesModel", "token", "(IJ)V"⟩, 53), (⟨"SharedChoicesModel", "behind", "(I)I"⟩, 53), (⟨"SharedChoicesModel", "decide", "(I)V"⟩, 53), (⟨"SharedChoicesModel", "copy", "([IIII)V"⟩, 53), (⟨"SharedChoicesModel", "ends", "(I)Z"⟩, 53)]
theorem lw_r4 : ∀ q ∈ lw_privs_4, lw_okq q := List.forall_mem_cons.mpr ⟨lw_p48, List.forall_mem_cons.mpr ⟨lw_p49, List.forall_mem_cons.mpr ⟨lw_p50, List.forall_mem_cons.mpr ⟨lw_p51, List.forall_mem_cons.mpr ⟨lw_p52, fun _ h => absurd h List.not_mem_nil⟩⟩⟩⟩⟩
def lw_privs : List (MethodName × Nat) := lw_privs_1 ++ (lw_privs_2 ++ (lw_privs_3 ++ (lw_privs_4)))
def lw_tbl : List Cond := k2_sels lw_privs ++ tables_1
theorem lw_privs_ok : ∀ q ∈ lw_privs, lw_okq q := by
  show ∀ q ∈ lw_privs_1 ++ (lw_privs_2 ++ (lw_privs_3 ++ (lw_privs_4))), lw_okq q
  exact List.forall_mem_append.mpr ⟨lw_r1, List.forall_mem_append.mpr ⟨lw_r2, List.forall_mem_append.mpr ⟨lw_r3, lw_r4⟩⟩⟩
end
section
/-! ===== BEGIN words of one list among another's, by their places ===== -/
theorem goodIn_r {big : List Cond} (ws : List Cond) (ps : List Nat) (hp : ws = ps.filterMap (fun i => big[i]?)) (h : ws.all goodWord = true) : GoodIn big ws := by
  intro w hw
  have h1 := List.all_eq_true.mp h w hw
  rw [hp] at hw
  obtain ⟨i, -, hi⟩ := List.mem_filterMap.mp hw
  have hm : w ∈ big := by first | exact List.mem_of_getElem? hi | exact List.getElem?_mem hi
  exact ⟨hm, good_of_word h1⟩
theorem goodIn_app {big a b : List Cond} (ha : GoodIn big a) (hb : GoodIn big b) : GoodIn big (a ++ b) := fun w h => (List.mem_append.mp h).elim (ha w) (hb w)
theorem goodIn_ca {big a b : List Cond} {c : Cond} (ha : GoodIn big (c :: a)) (hb : GoodIn big b) : GoodIn big (c :: (a ++ b)) := fun w h => (List.mem_cons.mp h).elim (fun e => ha w (List.mem_cons.mpr (Or.inl e))) (fun h => (List.mem_append.mp h).elim (fun h => ha w (List.mem_cons.mpr (Or.inr h))) (hb w))
theorem goodIn_sub {big ws : List Cond} (hm : ∀ w ∈ ws, w ∈ big) (h : ws.all goodWord = true) : GoodIn big ws := fun w hw => ⟨hm w hw, good_of_word (List.all_eq_true.mp h w hw)⟩
/-! ===== END ===== -/

/-! ===== BEGIN exceptions that leave a method, and their catching by the caller (launches without stack traces) ===== -/
section VXA
/-! The laws vx_back, vx_callV, vx_callS, vx_callSW, vx_throw0, vx_throwS follow proofs of the library, with one case more: JvmDerived/Free/Laws.lean (Back.of_free), Shelf42/LK1.lean (callV, callS), Shelf/KitTraced.lean (throwNew0V, throwNewS). -/
/-- where a method has thrown q: the class by its name, the cell, what was written, the world -/
def vx_T (XC : String → State → State → Prop) (st : State) (q : Addr) (t : State) (mc ms : Nat) (free : Addr → Prop) : Prop :=
  ∃ (E : String) (ce : Cell) (L : List Loc), XC E st t ∧ t.heap[q]? = some ce ∧ ce.vm = .none ∧ st.vm.findClass E = some ce.cls ∧ st.WarmedH t.vm ∧ st.sameButNew ({ t with vm := st.vm } : State) L mc ms ∧ ∀ z ∈ L, free z.base
def vx_Q (Qc : Array Value → State → Outcome → State → Prop) (XC : String → State → State → Prop) (mc ms : Nat) (free : Addr → Prop) : Array Value → State → Outcome → State → Prop := fun a st o t =>
  (Qc a st o t ∧ ∃ L, FrameEnd st o t L mc ms ∧ ∀ q ∈ L, free q.base) ∨ ∃ q, o = .threw q ∧ vx_T XC st q t mc ms free
/-- a callee that returns or throws -/
def vx_Met (l : Launch) (y : MethodName) (ws : List Cond) (rm : Room) (Pc : Array Value → State → Prop) (Qc : Array Value → State → Outcome → State → Prop) (XC : String → State → State → Prop) (mc ms : Nat) (free : Addr → Prop) : Prop :=
  MetFree l y (headSpec ws rm) Pc (fun _ _ _ _ _ => True) (vx_Q Qc XC mc ms free)
def vx_Post (XC : String → State → State → Prop) (mc ms : Nat) (free : Addr → Prop) : Pt → Array Value → Addr → Pt → Prop := fun A a q B =>
  ∃ (g : JFrame) (mk : MethodId) (t : State) (L : List Loc) (E : String) (ce : Cell), B.U.heap = t.heap ∧ B.U.vm = t.vm ∧ XC E (A.U.calling g mk a) t ∧ t.heap[q]? = some ce ∧ ce.vm = .none ∧ A.U.vm.findClass E = some ce.cls ∧ B.locs = A.locs ++ L ∧ (∀ z ∈ L, free z.base) ∧ B.cells = A.cells + mc ∧ B.slots = A.slots + ms
def vx_Back (l : Launch) (R : Room) (p : Program) (e : Env) (below : List Frame) (s : State) (sargs : Array Value) (y : MethodName) (len W9 : Nat)
    (Pre : Pt → Array Value → Prop) (Post : Pt → Array Value → Option Value → Pt → Prop) (PostX : Pt → Array Value → Addr → Pt → Prop) : Prop :=
  ∀ (m : MethodId) (meth : Method) (c : Code) (A : Pt) (g : JFrame) (ig : Instr) (mk : MethodId) (a : Array Value),
    Stand p l e R s m sargs below meth c A.U A.locs A.cells A.slots → g.method = m → g.locals.size = c.maxLocals → decode c.code g.pc = .ok (ig, len) →
    2 * g.monitorRoom + (g.stack.map fun v => v.category).sum ≤ W9 → A.U.methodNamed? y = some mk → Pre A a →
    (∃ (v : Option Value) (B : Pt), Stand p l e R s m sargs below meth c B.U B.locs B.cells B.slots ∧ Post A a v B ∧
      Steps p.tables e below (doInvoke e (A.U.setTop g) [] mk a).1 (B.U.setTop { g with pc := g.pc + len, stack := v.toList ++ g.stack })) ∨
    (∃ (q : Addr) (B : Pt), Stand p l e R s m sargs below meth c B.U B.locs B.cells B.slots ∧ PostX A a q B ∧
      Steps p.tables e below (doInvoke e (A.U.setTop g) [] mk a).1 ((B.U.setTop g).pushFrame (.throwing q)))
section Payer
variable {l : Launch} {R : Room} {p : Program} {e : Env} {below : List Frame} {s : State} {sargs : Array Value} {y : MethodName} {len W9 : Nat}
theorem vx_back {ws : List Cond} {rm : Room} {Pc : Array Value → State → Prop} {Qc : Array Value → State → Outcome → State → Prop} {XC : String → State → State → Prop} {mc ms : Nat} {free : Addr → Prop} {bytes : ByteArray} {maxL : Nat} {ret : Option FieldType}
    (hM : vx_Met l y ws rm Pc Qc XC mc ms free) (hblind : FrameBlind Pc) (hrc : rm.cells = mc) (hrs : rm.slots = ms)
    (hframes : rm.frames + 1 ≤ R.frames) (hlocals : W9 + (maxL + 11) + rm.locals ≤ R.locals)
    (hws : ∀ w ∈ ws, ∀ a' U, s.WarmedH U.vm → w.before a' U = true) (hcode : Cond.code y bytes maxL ret ∈ ws) (hinit : ∀ a' U, s.WarmedH U.vm → (Cond.initialized y.cls).before a' U = true) :
    vx_Back l R p e below s sargs y len W9 (PreOf R mc ms Pc) (PostOf Qc mc ms free) (vx_Post XC mc ms free) := by
  intro m meth c A g ig mk a X hg hsize hdg hW hn hp
  have h1 : (headSpec ws rm).pre.before a A.U = true := atoms_intro fun w hw => hws w hw _ _ X.warmed
  have h2 : (Cond.code y bytes maxL ret).before a A.U = true := hws _ hcode _ _ X.warmed
  have h3 : (Cond.initialized y.cls).before a A.U = true := hinit _ _ X.warmed
  have h4 : A.cells + (headSpec ws rm).room.cells ≤ R.cells := by rw [show (headSpec ws rm).room.cells = mc from hrc]; exact hp.1
  have h5 : A.slots + (headSpec ws rm).room.slots ≤ R.slots := by rw [show (headSpec ws rm).room.slots = ms from hrs]; exact hp.2.1
  have hPc : Pc a (A.U.calling g mk a) := hblind _ _ _ _ hp.2.2
  obtain ⟨U, Ls, c0, s0⟩ := A
  dsimp only [Pt.U, Pt.locs, Pt.cells, Pt.slots] at h1 h2 h3 h4 h5 X hn hPc ⊢
  obtain ⟨methY, cY, hmY, hcY, -, hlY, -, -, -, -⟩ := Cond.code_spec hn h2
  obtain ⟨kY, hkY, -⟩ := className_of_methodNamed hn
  have hinitY : kY.init = .initialized := Cond.initialized_spec (findClass_of_methodNamed hn) hkY h3
  have h : At U g.method c below := by rw [hg]; exact X.here
  have hlocals9 : W9 + (maxL + 11) + (headSpec ws rm).room.locals ≤ R.locals := hlocals
  have happ : (headSpec ws rm).appliesLoose y e.platform (U.calling g mk a) = true :=
    Spec.appliesLoose_calling (g := g) h hdg hn hkY hinitY
      (X.room_calling (g := g) (R' := (headSpec ws rm).room) hsize hmY hcY hframes (by rw [hlY]; omega) h4 h5) h1
  obtain ⟨mid, hmid⟩ := h.above
  have hfr : (U.setTop g).frames = (.java g :: mid) ++ below := by rw [State.frames_setTop' g h.top, hmid]; rfl
  obtain ⟨o, s₂, hsteps, -, hend, hq⟩ := Steps.callFree hM p X.admits X.cas X.clock (acts := []) hfr happ hPc trivial
  have hq' : vx_Q Qc XC mc ms free a (U.calling g mk a) o s₂ := hq
  rw [State.frames_setTop' g h.top] at hend
  obtain ⟨g₀, hg0⟩ := Option.isSome_iff_exists.mp h.top
  obtain ⟨r, hr⟩ := State.topJava?_eq_some.mp hg0
  have hr' : (({ U with heap := s₂.heap, slotsUsed := s₂.slotsUsed } : State).setVm s₂.vm).frames = .java g₀ :: r := hr
  rcases hq' with ⟨hqc, L, hfe, hL⟩ | ⟨q, rfl, E, ce, L, hx, hce, hcv, hcl, hW₂, hsm, hL⟩
  · obtain ⟨⟨v, rfl⟩, hW₂, e2, q2, q3, q4, q5, q6⟩ := id hfe
    have e3 : s₂ = ({ (U.calling g mk a).setFrames s₂.frames with heap := s₂.heap, slotsUsed := s₂.slotsUsed } : State).setVm s₂.vm := by
      have : s₂ = ({ s₂ with vm := (U.calling g mk a).vm } : State).setVm s₂.vm := rfl
      rw [e2] at this
      exact this
    obtain ⟨c₂, i₂, len₂, hc₂, hd₂, hf₂⟩ := hend
    have hW' : U.WarmedH s₂.vm := hW₂
    have hcc : c₂ = c := by
      have h1 : s₂.code? g.method = U.code? g.method := by
        rw [State.code?_eq, State.code?_eq, hW'.alike.method?]
      exact Option.some.inj (hc₂.symm.trans (h1.trans h.code))
    subst hcc
    have hlen : len₂ = len := by rw [hdg] at hd₂; cases hd₂; rfl
    subst hlen
    have hs₂ : s₂ = (({ U with heap := s₂.heap, slotsUsed := s₂.slotsUsed } : State).setVm s₂.vm).setTop { g with pc := g.pc + len₂, stack := v.toList ++ g.stack } := by
      refine e3.trans ?_
      rw [hf₂, State.calling_eq h.top, State.setFrames_setFrames, State.setTop_of_frames _ hr', hr]
      rfl
    have hsame : U.sameButNew ({ U with heap := s₂.heap, slotsUsed := s₂.slotsUsed } : State) L mc ms := by
      refine ⟨?_, q2, q3, q4, q5, q6⟩
      obtain ⟨t, ht, -⟩ := State.frames_cons hr
      show ({ U with heap := s₂.heap, slotsUsed := s₂.slotsUsed } : State) = { U.setFrames U.frames with heap := s₂.heap, slotsUsed := s₂.slotsUsed }
      rw [State.setFrames_self ht]
    subst hg
    refine Or.inl ⟨v, ⟨(({ U with heap := s₂.heap, slotsUsed := s₂.slotsUsed } : State).setVm s₂.vm), Ls ++ L, c0 + mc, s0 + ms⟩,
      ⟨X.admits, X.cas, X.clock, X.frames, X.room, X.hears, X.method, X.code, (X.here.setHeapUsed s₂.heap s₂.slotsUsed).setVm hW'.alike, X.tail, State.WarmedH.trans X.warmed hW', X.limits, X.bytes, X.same.trans (hsame.setVm s.vm)⟩,
      ⟨g, mk, s₂, L, rfl, rfl, hqc, rfl, hL, rfl, rfl⟩, ?_⟩
    show Steps p.tables e below _ ((({ U with heap := s₂.heap, slotsUsed := s₂.slotsUsed } : State).setVm s₂.vm).setTop { g with pc := g.pc + len₂, stack := v.toList ++ g.stack })
    rw [← hs₂]
    exact hsteps
  · obtain ⟨e2, q2, q3, q4, q5, q6⟩ := id hsm
    have e3 : s₂ = ({ (U.calling g mk a).setFrames s₂.frames with heap := s₂.heap, slotsUsed := s₂.slotsUsed } : State).setVm s₂.vm := by
      have : s₂ = ({ s₂ with vm := (U.calling g mk a).vm } : State).setVm s₂.vm := rfl
      rw [e2] at this
      exact this
    have hf₂ : s₂.frames = .throwing q :: .java g :: U.frames.tail := hend
    have hW' : U.WarmedH s₂.vm := hW₂
    have hs₂ : s₂ = ((({ U with heap := s₂.heap, slotsUsed := s₂.slotsUsed } : State).setVm s₂.vm).setTop g).pushFrame (.throwing q) := by
      refine e3.trans ?_
      rw [hf₂, State.calling_eq h.top, State.setFrames_setFrames, State.pushFrame, State.frames_setTop _ hr', State.setTop_of_frames _ hr', State.setFrames_setFrames, hr]
      rfl
    have hsame : U.sameButNew ({ U with heap := s₂.heap, slotsUsed := s₂.slotsUsed } : State) L mc ms := by
      refine ⟨?_, q2, q3, q4, q5, q6⟩
      obtain ⟨t, ht, -⟩ := State.frames_cons hr
      show ({ U with heap := s₂.heap, slotsUsed := s₂.slotsUsed } : State) = { U.setFrames U.frames with heap := s₂.heap, slotsUsed := s₂.slotsUsed }
      rw [State.setFrames_self ht]
    subst hg
    refine Or.inr ⟨q, ⟨(({ U with heap := s₂.heap, slotsUsed := s₂.slotsUsed } : State).setVm s₂.vm), Ls ++ L, c0 + mc, s0 + ms⟩,
      ⟨X.admits, X.cas, X.clock, X.frames, X.room, X.hears, X.method, X.code, (X.here.setHeapUsed s₂.heap s₂.slotsUsed).setVm hW'.alike, X.tail, State.WarmedH.trans X.warmed hW', X.limits, X.bytes, X.same.trans (hsame.setVm s.vm)⟩,
      ⟨g, mk, s₂, L, E, ce, rfl, rfl, hx, hce, hcv, hcl, rfl, hL, rfl, rfl⟩, ?_⟩
    show Steps p.tables e below _ (((({ U with heap := s₂.heap, slotsUsed := s₂.slotsUsed } : State).setVm s₂.vm).setTop g).pushFrame (.throwing q))
    rw [← hs₂]
    exact hsteps
end Payer
section Calls
variable {p : Program} {l : Launch} {e : Env} {R : Room} {s : State} {m : MethodId} {args : Array Value} {below : List Frame} {meth : Method} {c : Code} {T : State} {locs : List Loc} {cells slots : Nat}
theorem vx_callV (X : Stand p l e R s m args below meth c T locs cells slots) (hexec : p.tables.exec = Jvm.exec) {own C : String} {index : Nat} {y : MethodName} {bytes : ByteArray} {maxL : Nat} {ret : Option FieldType}
    (hown : s.vm.findClass own = some m.cls) (hlink : (Cond.methodLink own index y).before args s = true) (hinst : (Cond.instanceMethod y).before args s = true) (hsel : (Cond.selects C y y).before args s = true)
    (hcode : (Cond.code y bytes maxL ret).before args s = true) (hy : y.cls ≠ "java/lang/invoke/MethodHandle" ∧ y.cls ≠ "java/lang/invoke/VarHandle")
    {W9 : Nat} {Pre : Pt → Array Value → Prop} {Post : Pt → Array Value → Option Value → Pt → Prop} {PostX : Pt → Array Value → Addr → Pt → Prop} (hK : vx_Back l R p e below s args y 3 W9 Pre Post PostX)
    {b : Addr} {cellB : Cell} (hcell : T.heap[b]? = some cellB) (hobj : cellB.vm.isStatics = false) (hcls : s.vm.findClass C = some cellB.cls)
    {g : JFrame} (hg : g.method = m) (hsize : g.locals.size = c.maxLocals) {argsL rest : List Value} (hlen : ∀ sig, parseMethodDescriptor y.desc = some sig → argsL.length = sig.parameters.length)
    (hstack : g.stack = argsL.reverse ++ .ref b :: rest) (hW : 2 * g.monitorRoom + (rest.map fun v => v.category).sum ≤ W9) (hdg : decode c.code g.pc = .ok (.invokevirtual index, 3))
    (hpre : ∀ vm₁, s.WarmedH vm₁ → Pre ⟨T.setVm vm₁, locs, cells, slots⟩ (Value.ref b :: argsL).toArray) :
    (∃ (v : Option Value) (vm₁ : Vm) (B : Pt), s.WarmedH vm₁ ∧ Stand p l e R s m args below meth c B.U B.locs B.cells B.slots ∧ Post ⟨T.setVm vm₁, locs, cells, slots⟩ (Value.ref b :: argsL).toArray v B ∧
      ∀ target, Steps p.tables e below (B.U.setTop { g with pc := g.pc + 3, stack := v.toList ++ rest }) target → Steps p.tables e below (T.setTop g) target) ∨
    (∃ (q : Addr) (vm₁ : Vm) (B : Pt), s.WarmedH vm₁ ∧ Stand p l e R s m args below meth c B.U B.locs B.cells B.slots ∧ PostX ⟨T.setVm vm₁, locs, cells, slots⟩ (Value.ref b :: argsL).toArray q B ∧
      Steps p.tables e below (T.setTop g) ((B.U.setTop { g with stack := rest }).pushFrame (.throwing q))) := by
  obtain ⟨mk, methM, hnamed, hmethM, hstM, habM⟩ := Cond.instanceMethod_spec hinst
  obtain ⟨methM', cM, hmethM', -, -, -, -, -, -, hsigM⟩ := Cond.code_spec hnamed hcode
  cases hmethM.symm.trans hmethM'
  obtain ⟨c2, r2, m2, q1, q2, q3, q4, kP, hkP, hkPi⟩ := Cond.selects_spec hsel
  cases hcls.symm.trans q1
  cases (State.methodFound?_of_named hnamed hy).symm.trans q2
  cases hnamed.symm.trans q3
  have hselP : selectMethod e.platform s.vm cellB.cls mk = .method mk := by rw [Launch.admits_selectMethod X.admits]; exact q4
  obtain ⟨vm₁, X₁, hstep₁⟩ := X.invokevirtual hexec hown hlink hnamed hmethM hstM hkP hkPi hy (a := b) (cell := cellB) hcell
    (fun z h => by rw [h] at hobj; cases hobj) hselP hmethM habM hkP hkPi (g := g) hg (argsL := argsL) (rest := rest) (hlen _ hsigM) hstack hdg
  rcases hK m meth c ⟨T.setVm vm₁, locs, cells, slots⟩ { g with stack := rest } (.invokevirtual index) mk (Value.ref b :: argsL).toArray X₁ hg hsize hdg hW (X₁.named hnamed) (hpre vm₁ X₁.warmed) with ⟨v, B, X', hpost, hsteps⟩ | ⟨q, B, X', hpost, hsteps⟩
  · exact Or.inl ⟨v, vm₁, B, X₁.warmed, X', hpost, fun target h => hstep₁ _ fun acts => by rw [doInvoke_state]; exact hsteps.trans h⟩
  · exact Or.inr ⟨q, vm₁, B, X₁.warmed, X', hpost, hstep₁ _ fun acts => by rw [doInvoke_state]; exact hsteps⟩
theorem vx_callS (X : Stand p l e R s m args below meth c T locs cells slots) (hexec : p.tables.exec = Jvm.exec) {own : String} {index : Nat} {y : MethodName} {bytes : ByteArray} {maxL : Nat} {ret : Option FieldType}
    (hown : s.vm.findClass own = some m.cls) (hlink : (Cond.methodLink own index y).before args s = true) (hstat : (Cond.static y).before args s = true) (hinit : (Cond.initialized y.cls).before args s = true)
    (hcode : (Cond.code y bytes maxL ret).before args s = true) (hy : y.cls ≠ "java/lang/invoke/MethodHandle" ∧ y.cls ≠ "java/lang/invoke/VarHandle")
    {W9 : Nat} {Pre : Pt → Array Value → Prop} {Post : Pt → Array Value → Option Value → Pt → Prop} {PostX : Pt → Array Value → Addr → Pt → Prop} (hK : vx_Back l R p e below s args y 3 W9 Pre Post PostX)
    {g : JFrame} (hg : g.method = m) (hsize : g.locals.size = c.maxLocals) {argsL rest : List Value} (hlen : ∀ sig, parseMethodDescriptor y.desc = some sig → argsL.length = sig.parameters.length)
    (hstack : g.stack = argsL.reverse ++ rest) (hW : 2 * g.monitorRoom + (rest.map fun v => v.category).sum ≤ W9) (hdg : decode c.code g.pc = .ok (.invokestatic index, 3))
    (hpre : ∀ vm₁, s.WarmedH vm₁ → Pre ⟨T.setVm vm₁, locs, cells, slots⟩ argsL.toArray) :
    (∃ (v : Option Value) (vm₁ : Vm) (B : Pt), s.WarmedH vm₁ ∧ Stand p l e R s m args below meth c B.U B.locs B.cells B.slots ∧ Post ⟨T.setVm vm₁, locs, cells, slots⟩ argsL.toArray v B ∧
      ∀ target, Steps p.tables e below (B.U.setTop { g with pc := g.pc + 3, stack := v.toList ++ rest }) target → Steps p.tables e below (T.setTop g) target) ∨
    (∃ (q : Addr) (vm₁ : Vm) (B : Pt), s.WarmedH vm₁ ∧ Stand p l e R s m args below meth c B.U B.locs B.cells B.slots ∧ PostX ⟨T.setVm vm₁, locs, cells, slots⟩ argsL.toArray q B ∧
      Steps p.tables e below (T.setTop g) ((B.U.setTop { g with stack := rest }).pushFrame (.throwing q))) := by
  obtain ⟨mk, hnamed⟩ := Cond.code_named hcode
  obtain ⟨methM, cM, hmethM, -, -, -, -, -, -, hsigM⟩ := Cond.code_spec hnamed hcode
  have hstatic : methM.isStatic = true := Cond.static_spec hnamed hmethM hstat
  obtain ⟨kP, hkP, -⟩ := className_of_methodNamed hnamed
  have hinitP : kP.init = .initialized := Cond.initialized_spec (findClass_of_methodNamed hnamed) hkP hinit
  obtain ⟨vm₁, X₁, hstep₁⟩ := X.invokestatic hexec hown hlink hnamed hmethM hstatic hkP hinitP hy (g := g) hg (argsL := argsL) (rest := rest) (hlen _ hsigM) hstack hdg
  rcases hK m meth c ⟨T.setVm vm₁, locs, cells, slots⟩ { g with stack := rest } (.invokestatic index) mk argsL.toArray X₁ hg hsize hdg hW (X₁.named hnamed) (hpre vm₁ X₁.warmed) with ⟨v, B, X', hpost, hsteps⟩ | ⟨q, B, X', hpost, hsteps⟩
  · exact Or.inl ⟨v, vm₁, B, X₁.warmed, X', hpost, fun target h => hstep₁ _ fun acts => by rw [doInvoke_state]; exact hsteps.trans h⟩
  · exact Or.inr ⟨q, vm₁, B, X₁.warmed, X', hpost, hstep₁ _ fun acts => by rw [doInvoke_state]; exact hsteps⟩
end Calls
theorem vx_cls {s : State} {T : State} {vm₁ : Vm} {E : String} {k : ClassId} (hW : s.WarmedH vm₁) (h : (T.setVm vm₁).vm.findClass E = some k) : s.vm.findClass E = some k := by
  have h1 : vm₁.findClass E = some k := h
  rw [hW.alike.findClass] at h1
  exact h1
/-- the method's frame g, with q thrown over it -/
def vx_W (p : Program) (l : Launch) (e : Env) (R : Room) (s : State) (m : MethodId) (args : Array Value) (below : List Frame) (meth : Method) (c : Code) (H : Heap) (locs : List Loc) (cells slots : Nat) (Q : State → Prop) (g : JFrame) (q : Addr) : Prop :=
  ∀ T : State, T.heap = H → Stand p l e R s m args below meth c T locs cells slots → ∃ t, Steps p.tables e below ((T.setTop g).pushFrame (.throwing q)) t ∧ Q t
def vx_Run (p : Program) (l : Launch) (e : Env) (R : Room) (s : State) (m : MethodId) (args : Array Value) (below : List Frame) (meth : Method) (c : Code) (H : Heap) (locs : List Loc) (cells slots mc ms : Nat) (g : JFrame) (rest : List Value) (Qa : State → Outcome → State → Prop) (XC : String → State → State → Prop) (free : Addr → Prop) : Prop :=
  ∀ T : State, T.heap = H → Stand p l e R s m args below meth c T locs cells slots →
    (∃ (v : Option Value) (st₀ t T' : State) (L : List Loc), st₀.heap = H ∧ Stand p l e R s m args below meth c T' (locs ++ L) (cells + mc) (slots + ms) ∧ (∀ q ∈ L, free q.base) ∧ T'.heap = t.heap ∧ T'.vm = t.vm ∧ Qa st₀ (.returned v) t ∧
      Goes p e below T g T' { g with pc := g.pc + 3, stack := v.toList ++ rest }) ∨
    (∃ (q : Addr) (st₀ t T' : State) (L : List Loc) (E : String) (ce : Cell), st₀.heap = H ∧ Stand p l e R s m args below meth c T' (locs ++ L) (cells + mc) (slots + ms) ∧ (∀ z ∈ L, free z.base) ∧ T'.heap = t.heap ∧ T'.vm = t.vm ∧ XC E st₀ t ∧ t.heap[q]? = some ce ∧ ce.vm = .none ∧ s.vm.findClass E = some ce.cls ∧
      Steps p.tables e below (T.setTop g) ((T'.setTop { g with stack := rest }).pushFrame (.throwing q)))
def vx_X {S : Type} (px : S → Prop) (B : String → S → State → Prop) (A : Nat → Prop) : String → State → State → Prop := fun E st t => ∃ u : S, px u ∧ B E u t ∧ va_F A st t
section Runs
variable {p : Program} {l : Launch} {e : Env} {R : Room} {s : State} {m : MethodId} {args : Array Value} {below : List Frame} {meth : Method} {c : Code} {H : Heap} {locs : List Loc} {cells slots : Nat}
variable {y : MethodName} {bytes cc : ByteArray} {maxL nL mc ms n index : Nat} {ret : Option FieldType} {ws : List Cond} {rm : Room} {Pc : Array Value → State → Prop} {Qc : Array Value → State → Outcome → State → Prop} {XC : String → State → State → Prop} {free : Addr → Prop} {Ts : List Cond} {own C : String} {b : Addr} {As rest : List Value} {g : JFrame}
theorem vx_callBack (cb : CallB R s args own index y bytes maxL ret ws rm mc ms n) (hM : vx_Met l y ws rm Pc Qc XC mc ms free) (hbl : FrameBlind Pc) : vx_Back l R p e below s args y 3 8 (PreOf R mc ms Pc) (PostOf Qc mc ms free) (vx_Post XC mc ms free) := by
  obtain ⟨hrc, hrs, hfr, hlo, hws, hcw, -, hini, -⟩ := cb
  exact vx_back (bytes := bytes) (maxL := maxL) (ret := ret) hM hbl hrc hrs hfr hlo hws hcw (fun a' U hW => word_at hW (Or.inl (by first | rfl | simp [Cond.onTables, Cond.keeps, Cond.steady])) hini)
theorem vx_runV (S : CallFix p m c cc nL s args Ts own) (hM : vx_Met l y ws rm Pc Qc XC mc ms free) (cw : CallW R s args own C index y bytes maxL ret ws rm mc ms n) (hp : PreV s H C b Pc As)
    (hg : g.method = m) (hn : As.length = n) (hsize : g.locals.size = nL) (hstack : g.stack = As.reverse ++ .ref b :: rest) (hW : 2 * g.monitorRoom + (rest.map fun v => v.category).sum ≤ 8) (hdg : decode cc g.pc = .ok (.invokevirtual index, 3)) (hf : cells + mc ≤ R.cells ∧ slots + ms ≤ R.slots) :
    vx_Run p l e R s m args below meth c H locs cells slots mc ms g rest (Qc (Value.ref b :: As).toArray) XC free := by
  have hK : vx_Back l R p e below s args y 3 8 (PreOf R mc ms Pc) (PostOf Qc mc ms free) (vx_Post XC mc ms free) := vx_callBack cw.1 hM hp.1
  obtain ⟨⟨-, -, -, -, -, -, hcode, -, hy, hlen, hl⟩, hin, hse⟩ := cw
  obtain ⟨hx, hb, hml, ho, -⟩ := S
  obtain ⟨-, ⟨cellB, hcB, hoB, hclB⟩, hPc⟩ := hp
  intro T hT X
  rcases vx_callV X hx (C := C) (bytes := bytes) (maxL := maxL) (ret := ret) ho hl hin hse hcode hy hK (by rw [hT]; exact hcB) hoB hclB hg (hsize.trans hml.symm) (argsL := As) (rest := rest) (fun sig h => hn.trans (hlen sig h)) hstack hW (by rw [hb]; exact hdg)
    (fun vm₁ hW₁ => ⟨hf.1, hf.2, hPc (T.setVm vm₁) hT hW₁⟩) with ⟨v, vm₁, ⟨U', l2, c2, s2⟩, hW₁, X', ⟨g', mk, t, L, e1, e2, hq, h1, hL, h2, h3⟩, st⟩ | ⟨q, vm₁, ⟨U', l2, c2, s2⟩, hW₁, X', ⟨g', mk, t, L, E, ce, e1, e2, hq, hce, hcv, hcl, h1, hL, h2, h3⟩, st⟩
  · dsimp only [Pt.U, Pt.locs, Pt.cells, Pt.slots] at X' e1 e2 h1 h2 h3 st
    subst h1; subst h2; subst h3
    exact Or.inl ⟨v, (T.setVm vm₁).calling g' mk (Value.ref b :: As).toArray, t, U', L, hT, X', hL, e1, e2, hq, st⟩
  · dsimp only [Pt.U, Pt.locs, Pt.cells, Pt.slots] at X' e1 e2 h1 h2 h3 st hcl
    subst h1; subst h2; subst h3
    exact Or.inr ⟨q, (T.setVm vm₁).calling g' mk (Value.ref b :: As).toArray, t, U', L, E, ce, hT, X', hL, e1, e2, hq, hce, hcv, vx_cls hW₁ hcl, st⟩
theorem vx_runS (S : CallFix p m c cc nL s args Ts own) (hM : vx_Met l y ws rm Pc Qc XC mc ms free) (cw : CallB R s args own index y bytes maxL ret ws rm mc ms n ∧ (Cond.static y).before args s = true) (hp : PreS s H Pc As)
    (hg : g.method = m) (hn : As.length = n) (hsize : g.locals.size = nL) (hstack : g.stack = As.reverse ++ rest) (hW : 2 * g.monitorRoom + (rest.map fun v => v.category).sum ≤ 8) (hdg : decode cc g.pc = .ok (.invokestatic index, 3)) (hf : cells + mc ≤ R.cells ∧ slots + ms ≤ R.slots) :
    vx_Run p l e R s m args below meth c H locs cells slots mc ms g rest (Qc As.toArray) XC free := by
  have hK : vx_Back l R p e below s args y 3 8 (PreOf R mc ms Pc) (PostOf Qc mc ms free) (vx_Post XC mc ms free) := vx_callBack cw.1 hM hp.1
  obtain ⟨⟨-, -, -, -, -, -, hcode, hini, hy, hlen, hl⟩, hstt⟩ := cw
  obtain ⟨hx, hb, hml, ho, -⟩ := S
  intro T hT X
  rcases vx_callS X hx (bytes := bytes) (maxL := maxL) (ret := ret) ho hl hstt hini hcode hy hK hg (hsize.trans hml.symm) (argsL := As) (rest := rest) (fun sig h => hn.trans (hlen sig h)) hstack hW (by rw [hb]; exact hdg)
    (fun vm₁ hW₁ => ⟨hf.1, hf.2, hp.2 (T.setVm vm₁) hT hW₁⟩) with ⟨v, vm₁, ⟨U', l2, c2, s2⟩, hW₁, X', ⟨g', mk, t, L, e1, e2, hq, h1, hL, h2, h3⟩, st⟩ | ⟨q, vm₁, ⟨U', l2, c2, s2⟩, hW₁, X', ⟨g', mk, t, L, E, ce, e1, e2, hq, hce, hcv, hcl, h1, hL, h2, h3⟩, st⟩
  · dsimp only [Pt.U, Pt.locs, Pt.cells, Pt.slots] at X' e1 e2 h1 h2 h3 st
    subst h1; subst h2; subst h3
    exact Or.inl ⟨v, (T.setVm vm₁).calling g' mk As.toArray, t, U', L, hT, X', hL, e1, e2, hq, st⟩
  · dsimp only [Pt.U, Pt.locs, Pt.cells, Pt.slots] at X' e1 e2 h1 h2 h3 st hcl
    subst h1; subst h2; subst h3
    exact Or.inr ⟨q, (T.setVm vm₁).calling g' mk As.toArray, t, U', L, E, ce, hT, X', hL, e1, e2, hq, hce, hcv, vx_cls hW₁ hcl, st⟩
end Runs
section Rows
variable {p : Program} {l : Launch} {e : Env} {R : Room} {s : State} {m : MethodId} {args : Array Value} {below : List Frame} {meth : Method} {c : Code} {H : Heap} {locs : List Loc} {cells slots : Nat} {Q : State → Prop}
variable {mc ms : Nat} {free : Addr → Prop} {A0 A1 : Nat → Prop} {H0 : Heap} {a : Array Value} {pc : Nat} {ls : Array Slot} {st0 rest : List Value}
theorem vx_keep {st₀ t T' : State} {L : List Loc} (h0 : st₀.heap = H) (e1 : T'.heap = t.heap) (hS : va_S A0 H0 H locs) (hA : ∀ q, q < H.size → A1 q → A0 q) (hf : ∀ q, free q → A0 q) (hL : ∀ q ∈ L, free q.base) (hF : va_F A1 st₀ t) :
    H.size ≤ T'.heap.size ∧ (∀ q : Nat, q < H.size → ¬ A1 q → T'.heap[q]? = H[q]?) ∧ va_S A0 H0 T'.heap (locs ++ L) := by
  obtain ⟨hz, hk⟩ := hF
  rw [h0] at hz hk
  exact ⟨by rw [e1]; exact hz, fun q h1 h2 => by rw [e1]; exact hk q h1 h2,
    ⟨Nat.le_trans hS.1 (by rw [e1]; exact hz), fun q h1 h2 => by rw [e1, hk q (Nat.lt_of_lt_of_le h1 hS.1) (fun z => h2 (hA q (Nat.lt_of_lt_of_le h1 hS.1) z))]; exact hS.2.1 q h1 h2, fun q hq => by
      rcases List.mem_append.mp hq with h | h
      · exact hS.2.2 q h
      · exact hf _ (hL q h)⟩⟩
theorem vx_calli {S SX : Type} {post : Int32 → S → Prop} {px : SX → Prop} {B : S → State → Prop} {BX : String → SX → State → Prop} {AX : Nat → Prop} (hr : vx_Run p l e R s m args below meth c H locs cells slots mc ms (F0 m pc ls st0) rest (va_Qi post B A1 a) (vx_X px BX AX) free) (hS : va_S A0 H0 H locs) (hA : ∀ q, q < H.size → A1 q → A0 q) (hf : ∀ q, free q → A0 q) (hAX : ∀ q, q < H.size → AX q → A0 q)
    (kx : ∀ (E : String) (ce : Cell) (q9 : Addr) (u : SX) (t : State) (H1 : Heap) (locs1 : List Loc), t.heap = H1 → s.vm.Alike t.vm → px u → BX E u t → H.size ≤ H1.size → (∀ q : Nat, q < H.size → ¬ AX q → H1[q]? = H[q]?) → va_S A0 H0 H1 locs1 → H1[q9]? = some ce → ce.vm = .none → s.vm.findClass E = some ce.cls → vx_W p l e R s m args below meth c H1 locs1 (cells + mc) (slots + ms) Q (F0 m pc ls rest) q9)
    (kk : ∀ (r : Int32) (u : S) (t : State) (H1 : Heap) (locs1 : List Loc), t.heap = H1 → s.vm.Alike t.vm → post r u → B u t → H.size ≤ H1.size → (∀ q : Nat, q < H.size → ¬ A1 q → H1[q]? = H[q]?) → va_S A0 H0 H1 locs1 → W p l e R s m args below meth c H1 locs1 (cells + mc) (slots + ms) Q (F0 m (pc + 3) ls (.int r :: rest))) : W p l e R s m args below meth c H locs cells slots Q (F0 m pc ls st0) := by
  intro T hT X
  rcases hr T hT X with ⟨v, st₀, t, T', L, h0, X', hL, e1, e2, ⟨⟨r, u, hv, hp, hb⟩, hF⟩, st⟩ | ⟨q, st₀, t, T', L, E, ce, h0, X', hL, e1, e2, ⟨u, hp, hb, hF⟩, hce, hcv, hcl, st⟩
  · cases hv
    obtain ⟨k1, k2, k3⟩ := vx_keep h0 e1 hS hA hf hL hF
    obtain ⟨t2, a1, b1⟩ := kk r u t T'.heap (locs ++ L) e1.symm (by rw [← e2]; exact X'.warmed.alike) hp hb k1 k2 k3 T' rfl X'
    exact ⟨t2, st t2 a1, b1⟩
  · obtain ⟨k1, k2, k3⟩ := vx_keep h0 e1 hS hAX hf hL hF
    obtain ⟨t2, a1, b1⟩ := kx E ce q u t T'.heap (locs ++ L) e1.symm (by rw [← e2]; exact X'.warmed.alike) hp hb k1 k2 k3 (by rw [e1]; exact hce) hcv hcl T' rfl X'
    exact ⟨t2, st.trans a1, b1⟩
theorem vx_calll {S SX : Type} {post : Int64 → S → Prop} {px : SX → Prop} {B : S → State → Prop} {BX : String → SX → State → Prop} {AX : Nat → Prop} (hr : vx_Run p l e R s m args below meth c H locs cells slots mc ms (F0 m pc ls st0) rest (va_Ql post B A1 a) (vx_X px BX AX) free) (hS : va_S A0 H0 H locs) (hA : ∀ q, q < H.size → A1 q → A0 q) (hf : ∀ q, free q → A0 q) (hAX : ∀ q, q < H.size → AX q → A0 q)
    (kx : ∀ (E : String) (ce : Cell) (q9 : Addr) (u : SX) (t : State) (H1 : Heap) (locs1 : List Loc), t.heap = H1 → s.vm.Alike t.vm → px u → BX E u t → H.size ≤ H1.size → (∀ q : Nat, q < H.size → ¬ AX q → H1[q]? = H[q]?) → va_S A0 H0 H1 locs1 → H1[q9]? = some ce → ce.vm = .none → s.vm.findClass E = some ce.cls → vx_W p l e R s m args below meth c H1 locs1 (cells + mc) (slots + ms) Q (F0 m pc ls rest) q9)
    (kk : ∀ (r : Int64) (u : S) (t : State) (H1 : Heap) (locs1 : List Loc), t.heap = H1 → s.vm.Alike t.vm → post r u → B u t → H.size ≤ H1.size → (∀ q : Nat, q < H.size → ¬ A1 q → H1[q]? = H[q]?) → va_S A0 H0 H1 locs1 → W p l e R s m args below meth c H1 locs1 (cells + mc) (slots + ms) Q (F0 m (pc + 3) ls (.long r :: rest))) : W p l e R s m args below meth c H locs cells slots Q (F0 m pc ls st0) := by
  intro T hT X
  rcases hr T hT X with ⟨v, st₀, t, T', L, h0, X', hL, e1, e2, ⟨⟨r, u, hv, hp, hb⟩, hF⟩, st⟩ | ⟨q, st₀, t, T', L, E, ce, h0, X', hL, e1, e2, ⟨u, hp, hb, hF⟩, hce, hcv, hcl, st⟩
  · cases hv
    obtain ⟨k1, k2, k3⟩ := vx_keep h0 e1 hS hA hf hL hF
    obtain ⟨t2, a1, b1⟩ := kk r u t T'.heap (locs ++ L) e1.symm (by rw [← e2]; exact X'.warmed.alike) hp hb k1 k2 k3 T' rfl X'
    exact ⟨t2, st t2 a1, b1⟩
  · obtain ⟨k1, k2, k3⟩ := vx_keep h0 e1 hS hAX hf hL hF
    obtain ⟨t2, a1, b1⟩ := kx E ce q u t T'.heap (locs ++ L) e1.symm (by rw [← e2]; exact X'.warmed.alike) hp hb k1 k2 k3 (by rw [e1]; exact hce) hcv hcl T' rfl X'
    exact ⟨t2, st.trans a1, b1⟩
theorem vx_callf {S SX : Type} {post : UInt32 → S → Prop} {px : SX → Prop} {B : S → State → Prop} {BX : String → SX → State → Prop} {AX : Nat → Prop} (hr : vx_Run p l e R s m args below meth c H locs cells slots mc ms (F0 m pc ls st0) rest (va_Qf post B A1 a) (vx_X px BX AX) free) (hS : va_S A0 H0 H locs) (hA : ∀ q, q < H.size → A1 q → A0 q) (hf : ∀ q, free q → A0 q) (hAX : ∀ q, q < H.size → AX q → A0 q)
    (kx : ∀ (E : String) (ce : Cell) (q9 : Addr) (u : SX) (t : State) (H1 : Heap) (locs1 : List Loc), t.heap = H1 → s.vm.Alike t.vm → px u → BX E u t → H.size ≤ H1.size → (∀ q : Nat, q < H.size → ¬ AX q → H1[q]? = H[q]?) → va_S A0 H0 H1 locs1 → H1[q9]? = some ce → ce.vm = .none → s.vm.findClass E = some ce.cls → vx_W p l e R s m args below meth c H1 locs1 (cells + mc) (slots + ms) Q (F0 m pc ls rest) q9)
    (kk : ∀ (r : UInt32) (u : S) (t : State) (H1 : Heap) (locs1 : List Loc), t.heap = H1 → s.vm.Alike t.vm → post r u → B u t → H.size ≤ H1.size → (∀ q : Nat, q < H.size → ¬ A1 q → H1[q]? = H[q]?) → va_S A0 H0 H1 locs1 → W p l e R s m args below meth c H1 locs1 (cells + mc) (slots + ms) Q (F0 m (pc + 3) ls (.float r :: rest))) : W p l e R s m args below meth c H locs cells slots Q (F0 m pc ls st0) := by
  intro T hT X
  rcases hr T hT X with ⟨v, st₀, t, T', L, h0, X', hL, e1, e2, ⟨⟨r, u, hv, hp, hb⟩, hF⟩, st⟩ | ⟨q, st₀, t, T', L, E, ce, h0, X', hL, e1, e2, ⟨u, hp, hb, hF⟩, hce, hcv, hcl, st⟩
  · cases hv
    obtain ⟨k1, k2, k3⟩ := vx_keep h0 e1 hS hA hf hL hF
    obtain ⟨t2, a1, b1⟩ := kk r u t T'.heap (locs ++ L) e1.symm (by rw [← e2]; exact X'.warmed.alike) hp hb k1 k2 k3 T' rfl X'
    exact ⟨t2, st t2 a1, b1⟩
  · obtain ⟨k1, k2, k3⟩ := vx_keep h0 e1 hS hAX hf hL hF
    obtain ⟨t2, a1, b1⟩ := kx E ce q u t T'.heap (locs ++ L) e1.symm (by rw [← e2]; exact X'.warmed.alike) hp hb k1 k2 k3 (by rw [e1]; exact hce) hcv hcl T' rfl X'
    exact ⟨t2, st.trans a1, b1⟩
theorem vx_calld {S SX : Type} {post : UInt64 → S → Prop} {px : SX → Prop} {B : S → State → Prop} {BX : String → SX → State → Prop} {AX : Nat → Prop} (hr : vx_Run p l e R s m args below meth c H locs cells slots mc ms (F0 m pc ls st0) rest (va_Qd post B A1 a) (vx_X px BX AX) free) (hS : va_S A0 H0 H locs) (hA : ∀ q, q < H.size → A1 q → A0 q) (hf : ∀ q, free q → A0 q) (hAX : ∀ q, q < H.size → AX q → A0 q)
    (kx : ∀ (E : String) (ce : Cell) (q9 : Addr) (u : SX) (t : State) (H1 : Heap) (locs1 : List Loc), t.heap = H1 → s.vm.Alike t.vm → px u → BX E u t → H.size ≤ H1.size → (∀ q : Nat, q < H.size → ¬ AX q → H1[q]? = H[q]?) → va_S A0 H0 H1 locs1 → H1[q9]? = some ce → ce.vm = .none → s.vm.findClass E = some ce.cls → vx_W p l e R s m args below meth c H1 locs1 (cells + mc) (slots + ms) Q (F0 m pc ls rest) q9)
    (kk : ∀ (r : UInt64) (u : S) (t : State) (H1 : Heap) (locs1 : List Loc), t.heap = H1 → s.vm.Alike t.vm → post r u → B u t → H.size ≤ H1.size → (∀ q : Nat, q < H.size → ¬ A1 q → H1[q]? = H[q]?) → va_S A0 H0 H1 locs1 → W p l e R s m args below meth c H1 locs1 (cells + mc) (slots + ms) Q (F0 m (pc + 3) ls (.double r :: rest))) : W p l e R s m args below meth c H locs cells slots Q (F0 m pc ls st0) := by
  intro T hT X
  rcases hr T hT X with ⟨v, st₀, t, T', L, h0, X', hL, e1, e2, ⟨⟨r, u, hv, hp, hb⟩, hF⟩, st⟩ | ⟨q, st₀, t, T', L, E, ce, h0, X', hL, e1, e2, ⟨u, hp, hb, hF⟩, hce, hcv, hcl, st⟩
  · cases hv
    obtain ⟨k1, k2, k3⟩ := vx_keep h0 e1 hS hA hf hL hF
    obtain ⟨t2, a1, b1⟩ := kk r u t T'.heap (locs ++ L) e1.symm (by rw [← e2]; exact X'.warmed.alike) hp hb k1 k2 k3 T' rfl X'
    exact ⟨t2, st t2 a1, b1⟩
  · obtain ⟨k1, k2, k3⟩ := vx_keep h0 e1 hS hAX hf hL hF
    obtain ⟨t2, a1, b1⟩ := kx E ce q u t T'.heap (locs ++ L) e1.symm (by rw [← e2]; exact X'.warmed.alike) hp hb k1 k2 k3 (by rw [e1]; exact hce) hcv hcl T' rfl X'
    exact ⟨t2, st.trans a1, b1⟩
theorem vx_callv {S SX : Type} {post : S → Prop} {px : SX → Prop} {B : S → State → Prop} {BX : String → SX → State → Prop} {AX : Nat → Prop} (hr : vx_Run p l e R s m args below meth c H locs cells slots mc ms (F0 m pc ls st0) rest (va_Qv post B A1 a) (vx_X px BX AX) free) (hS : va_S A0 H0 H locs) (hA : ∀ q, q < H.size → A1 q → A0 q) (hf : ∀ q, free q → A0 q) (hAX : ∀ q, q < H.size → AX q → A0 q)
    (kx : ∀ (E : String) (ce : Cell) (q9 : Addr) (u : SX) (t : State) (H1 : Heap) (locs1 : List Loc), t.heap = H1 → s.vm.Alike t.vm → px u → BX E u t → H.size ≤ H1.size → (∀ q : Nat, q < H.size → ¬ AX q → H1[q]? = H[q]?) → va_S A0 H0 H1 locs1 → H1[q9]? = some ce → ce.vm = .none → s.vm.findClass E = some ce.cls → vx_W p l e R s m args below meth c H1 locs1 (cells + mc) (slots + ms) Q (F0 m pc ls rest) q9)
    (kk : ∀ (u : S) (t : State) (H1 : Heap) (locs1 : List Loc), t.heap = H1 → s.vm.Alike t.vm → post u → B u t → H.size ≤ H1.size → (∀ q : Nat, q < H.size → ¬ A1 q → H1[q]? = H[q]?) → va_S A0 H0 H1 locs1 → W p l e R s m args below meth c H1 locs1 (cells + mc) (slots + ms) Q (F0 m (pc + 3) ls (rest))) : W p l e R s m args below meth c H locs cells slots Q (F0 m pc ls st0) := by
  intro T hT X
  rcases hr T hT X with ⟨v, st₀, t, T', L, h0, X', hL, e1, e2, ⟨⟨u, hv, hp, hb⟩, hF⟩, st⟩ | ⟨q, st₀, t, T', L, E, ce, h0, X', hL, e1, e2, ⟨u, hp, hb, hF⟩, hce, hcv, hcl, st⟩
  · cases hv
    obtain ⟨k1, k2, k3⟩ := vx_keep h0 e1 hS hA hf hL hF
    obtain ⟨t2, a1, b1⟩ := kk u t T'.heap (locs ++ L) e1.symm (by rw [← e2]; exact X'.warmed.alike) hp hb k1 k2 k3 T' rfl X'
    exact ⟨t2, st t2 a1, b1⟩
  · obtain ⟨k1, k2, k3⟩ := vx_keep h0 e1 hS hAX hf hL hF
    obtain ⟨t2, a1, b1⟩ := kx E ce q u t T'.heap (locs ++ L) e1.symm (by rw [← e2]; exact X'.warmed.alike) hp hb k1 k2 k3 (by rw [e1]; exact hce) hcv hcl T' rfl X'
    exact ⟨t2, st.trans a1, b1⟩
/-- caught by the row x of this method's table; the rows ahead don't take it -/
theorem vx_catch {own name : String} {E : String} {ce : Cell} {q : Addr} (hown : s.vm.findClass own = some m.cls) (pre : List ExceptionTableEntry) (x : ExceptionTableEntry) (suf : List ExceptionTableEntry) (hsplit : c.exceptionTable.toList = pre ++ x :: suf)
    (hpass : ∀ z ∈ pre, covers z pc = false ∨ (z.catchType ≠ 0 ∧ ∃ nm : String, (Cond.classLink own z.catchType nm).before args s = true ∧ va_Nc E nm s)) (hx : covers x pc = true) (h0 : x.catchType ≠ 0)
    (hlink : (Cond.classLink own x.catchType name).before args s = true) (hcast : (Cond.castable E name).before args s = true) (hcell : H[q]? = some ce) (hv : ce.vm = .none) (hcl : s.vm.findClass E = some ce.cls)
    (kk : W p l e R s m args below meth c H locs cells slots Q (F0 m x.handlerPc ls [.ref q])) : vx_W p l e R s m args below meth c H locs cells slots Q (F0 m pc ls rest) q := by
  intro T hT X
  have hpl : e.platform.magicAccessors = ({} : Platform).magicAccessors := by rw [X.admits.platform]
  obtain ⟨c3, c4, hc3, hc4, hasg⟩ := Cond.castable_spec hcast
  cases Option.some.inj (hc3.symm.trans hcl)
  obtain ⟨c5, hc5, hcl5⟩ := Cond.classLink_spec hown hlink e.platform hpl
  cases Option.some.inj (hc4.symm.trans hc5)
  obtain ⟨vm', X', st⟩ := Jvm.Stand.thenCaughtThrough X q (g := F0 m pc ls rest) rfl (Steps.refl _) (by rw [hT]; exact hcell) (by rw [hv]; rfl) (by obtain ⟨k9, h9, -⟩ := Vm.findClass_spec hcl; exact ⟨k9, h9⟩) pre x suf hsplit
    (fun z hz => by
      rcases hpass z hz with h | ⟨hz0, nm, hl1, hn1⟩
      · exact Or.inl h
      · obtain ⟨c6, hc6, hcl6⟩ := Cond.classLink_spec hown hl1 e.platform hpl
        obtain ⟨a8, b8, h1, h2, h3⟩ := hn1
        cases Option.some.inj (h1.symm.trans hcl)
        cases Option.some.inj (h2.symm.trans hc6)
        exact Or.inr ⟨hz0, _, hcl6, h3⟩) hx (Or.inr ⟨h0, c4, hcl5, hasg⟩)
  obtain ⟨t, a1, b1⟩ := kk (T.setVm vm') hT X'
  exact ⟨t, st.trans a1, b1⟩
end Rows
section Ends
variable {p : Program} {l : Launch} {e : Env} {R : Room} {s : State} {m : MethodId} {args : Array Value} {below : List Frame} {meth : Method} {c : Code} {H : Heap} {locs : List Loc} {cells slots : Nat} {Q : State → Prop}
variable {mc ms : Nat} {free : Addr → Prop} {A0 A1 : Nat → Prop} {H0 : Heap} {a : Array Value} {ls : Array Slot} {st0 rest : List Value}
variable {Qc : Array Value → State → Outcome → State → Prop} {XC : String → State → State → Prop}
/-- what a body that may throw owes at its end -/
def vx_MQ (below : List Frame) (Qc : Array Value → State → Outcome → State → Prop) (XC : String → State → State → Prop) (a : Array Value) (s : State) (mc ms : Nat) (free : Addr → Prop) : State → Prop := fun t =>
  ∃ o, t.status = .running ∧ Ended t below o ∧ vx_Q Qc XC mc ms free a s o t
theorem vx_ret {g : JFrame} {mc ms : Nat} (k : W p l e R s m args below meth c H locs cells slots (MQ below Qc args s mc ms free) g) : W p l e R s m args below meth c H locs cells slots (vx_MQ below Qc XC args s mc ms free) g := by
  intro T hT X
  obtain ⟨t, a1, o, b1, b2, b3, b4⟩ := k T hT X
  exact ⟨t, a1, o, b1, b2, Or.inl ⟨b3, b4⟩⟩
/-- not caught here: it goes on to the caller -/
theorem vx_widen {g : JFrame} {q : Addr} {k n : Nat} (h1 : cells ≤ k) (h2 : slots ≤ n) (kk : vx_W p l e R s m args below meth c H locs k n Q g q) : vx_W p l e R s m args below meth c H locs cells slots Q g q := fun T hT X => kk T hT (stand_widen X h1 h2)
theorem vx_out {pc : Nat} {E : String} {ce : Cell} {q : Addr} {mc ms : Nat} (hout : ∀ x ∈ c.exceptionTable.toList, covers x pc = false) (hlocks : meth.locks = false) (hcell : H[q]? = some ce) (hv : ce.vm = .none) (hcl : s.vm.findClass E = some ce.cls)
    (hx : ∀ t : State, t.heap = H → s.vm.Alike t.vm → XC E s t) (hf : ∀ z ∈ locs, free z.base) (hc : cells ≤ mc) (hs : slots ≤ ms) :
    vx_W p l e R s m args below meth c H locs cells slots (vx_MQ below Qc XC args s mc ms free) (F0 m pc ls rest) q := by
  intro T hT X
  obtain ⟨st1, hrun, hend, hW, hsm⟩ := X.leaveThrown q (g := F0 m pc ls rest) rfl rfl rfl hout hlocks
  have hcell9 : (T.setFrames (.throwing q :: below)).heap[q]? = some ce := by
    show T.heap[q]? = some ce
    rw [hT]; exact hcell
  exact ⟨_, st1, .threw q, hrun, hend, Or.inr ⟨q, rfl, E, ce, locs, hx _ hT hW.alike, hcell9, hv, hcl, hW, hsm.mono hc hs, hf⟩⟩
theorem vx_frame {U : State} {k n : Nat} (h : s.sameButNew ({ U with vm := s.vm } : State) locs k n) : s.heap.size ≤ U.heap.size ∧ ∀ q : Nat, q < s.heap.size → (∀ z ∈ locs, z.base ≠ q) → U.heap[q]? = s.heap[q]? := by
  obtain ⟨-, h2, -, -, -, h6⟩ := h
  refine ⟨h2, fun q hq hz => ?_⟩
  obtain ⟨c9, e1, e2, e3, e4⟩ := h6 q _ (Array.getElem?_eq_getElem hq)
  have hs : c9.slots = (s.heap[q]).slots := Array.ext_getElem? fun i => e4 i fun hm => hz _ hm rfl
  have h9 : c9 = s.heap[q] := by
    rw [hs] at e2
    exact e2
  have e5 : U.heap[q]? = some c9 := e1
  rw [e5, h9, Array.getElem?_eq_getElem hq]
/-- the words of a throw but the four that speak of the heap -/
def vx_no (w : Cond) : Bool := decide (w ≠ .isRef (.static Bundle.tN "UNASSIGNED_STACK" Bundle.steD)) && decide (w ≠ .isRef (.static Bundle.tN "SUPPRESSED_SENTINEL" Bundle.listD)) && decide (w ≠ .laysStatic Bundle.tN "UNASSIGNED_STACK" Bundle.steD) && decide (w ≠ .laysStatic Bundle.tN "SUPPRESSED_SENTINEL" Bundle.listD)
def vx_at0 (own : String) (ic : Nat) (X : String) (names : List String) : List Cond := (Bundle.ownAtoms0 own ic X names).filter vx_no
def vx_atS (own : String) (ic : Nat) (X : String) (names : List String) : List Cond := (Bundle.ownAtoms own ic X names).filter vx_no
/-- a word that the tables alone decide, or a good one -/
def vx_ot (w : Cond) : Bool := w.onTables || goodWord w
theorem vx_ot_at {args a' : Array Value} {s U : State} {w : Cond} (hW : s.WarmedH U.vm) (hvm : s.vm = U.vm) (hg : vx_ot w = true) (h : w.before args s = true) : w.before a' U = true := by
  simp only [vx_ot, Bool.or_eq_true] at hg
  rcases hg with hg | hg
  · exact va_tabs hg hvm h
  · exact word_at hW (good_of_word hg) h
/-- a list's words: the good ones out of the method's own list, the others by premises of their own -/
theorem vx_hat {args : Array Value} {s : State} {L B : List Cond} (h1 : ∀ w ∈ L.filter goodWord, w.before args s = true) (h2 : ∀ w ∈ L.filter (fun w => !goodWord w), w ∈ B) (h3 : ∀ w ∈ B, w.before args s = true) : ∀ w ∈ L, w.before args s = true := by
  intro w hw
  by_cases g : goodWord w = true
  · exact h1 w (List.mem_filter.mpr ⟨hw, g⟩)
  · refine h3 w (h2 w (List.mem_filter.mpr ⟨hw, ?_⟩))
    show (!goodWord w) = true
    cases hgw : goodWord w
    · rfl
    · exact absurd hgw g
theorem vx_c {args : Array Value} {s : State} {w : Cond} {B : List Cond} (h : w.before args s = true) (t : ∀ w ∈ B, w.before args s = true) : ∀ w' ∈ w :: B, w'.before args s = true := fun w' h' => (List.mem_cons.mp h').elim (fun e => by rw [e]; exact h) (t w')
theorem vx_n {args : Array Value} {s : State} : ∀ w ∈ ([] : List Cond), w.before args s = true := fun _ h => nomatch h
theorem vx_own {args : Array Value} {s : State} {L : List Cond} (h1 : ∀ w ∈ L.filter vx_no, w.before args s = true)
    (hU : (Cond.isRef (.static Bundle.tN "UNASSIGNED_STACK" Bundle.steD)).before args s = true) (hN : (Cond.isRef (.static Bundle.tN "SUPPRESSED_SENTINEL" Bundle.listD)).before args s = true)
    (lU : (Cond.laysStatic Bundle.tN "UNASSIGNED_STACK" Bundle.steD).before args s = true) (lN : (Cond.laysStatic Bundle.tN "SUPPRESSED_SENTINEL" Bundle.listD).before args s = true) : ∀ w ∈ L, w.before args s = true := by
  intro w hw
  by_cases e1 : w = .isRef (.static Bundle.tN "UNASSIGNED_STACK" Bundle.steD)
  · rw [e1]; exact hU
  · by_cases e2 : w = .isRef (.static Bundle.tN "SUPPRESSED_SENTINEL" Bundle.listD)
    · rw [e2]; exact hN
    · by_cases e3 : w = .laysStatic Bundle.tN "UNASSIGNED_STACK" Bundle.steD
      · rw [e3]; exact lU
      · by_cases e4 : w = .laysStatic Bundle.tN "SUPPRESSED_SENTINEL" Bundle.listD
        · rw [e4]; exact lN
        · exact h1 w (List.mem_filter.mpr ⟨hw, by unfold vx_no; rw [decide_eq_true e1, decide_eq_true e2, decide_eq_true e3, decide_eq_true e4]; rfl⟩)
/-- where a static field lies, its class's statics cell in H -/
def vx_L (C n d : String) (A : Nat → Prop) (U : State) (H : Heap) : Prop := ∃ (c : ClassId) (k : Class) (i : Nat) (f : Field) (a : Nat) (cell : Cell), U.vm.findClass C = some c ∧ U.fieldFound? C n d = some (c, k, i, f) ∧ f.isStatic = true ∧ k.statics = some a ∧ H[a]? = some cell ∧ cell.vm.isStatics = true ∧ cell.cls = c ∧ f.slot < cell.slots.size ∧ k.staticTypes[f.slot]? = some f.type ∧ ¬ A a
theorem vx_L.moved {C n d : String} {A : Nat → Prop} {u U : State} {H : Heap} (hvm : u.vm.Alike U.vm) (h : vx_L C n d A u H) : vx_L C n d A U H := by
  obtain ⟨c, k, i, f, a, cell, h1, h2, h3, h4, h5, h6, h7, h8, h9, h10⟩ := h
  obtain ⟨k', hi', he⟩ := State.fieldFound?_setVm hvm h2
  exact ⟨c, k', i, f, a, cell, by rw [hvm.findClass]; exact h1, hi', h3, by rw [he]; exact h4, h5, h6, h7, h8, by rw [he]; exact h9, h10⟩
theorem vx_L.kept {C n d : String} {A : Nat → Prop} {U : State} {H H1 : Heap} (h : vx_L C n d A U H) (hq : ∀ a : Nat, a < H.size → ¬ A a → H1[a]? = H[a]?) : vx_L C n d A U H1 := by
  obtain ⟨c, k, i, f, a, cell, h1, h2, h3, h4, h5, h6, h7, h8, h9, h10⟩ := h
  exact ⟨c, k, i, f, a, cell, h1, h2, h3, h4, by rw [hq a (Array.getElem?_eq_some_iff.mp h5).1 h10]; exact h5, h6, h7, h8, h9, h10⟩
theorem vx_L.narrow {C n d : String} {A B : Nat → Prop} {U : State} {H : Heap} (h : vx_L C n d A U H) (hAB : ∀ q, B q → A q) : vx_L C n d B U H := by
  obtain ⟨c, k, i, f, a, cell, h1, h2, h3, h4, h5, h6, h7, h8, h9, h10⟩ := h
  exact ⟨c, k, i, f, a, cell, h1, h2, h3, h4, h5, h6, h7, h8, h9, fun z => h10 (hAB _ z)⟩
theorem vx_L.word {C n d : String} {A : Nat → Prop} {s : State} {args : Array Value} (h : vx_L C n d A s s.heap) : (Cond.laysStatic C n d).before args s = true := by
  obtain ⟨c, k, i, f, a, cell, h1, h2, h3, h4, h5, h6, h7, h8, h9, -⟩ := h
  show (Cond.laysStatic C n d).holds args s none s [] = true
  exact Cond.laysStatic_of h1 h2 h3 h4 h5 h6 h7 h8 h9
/-- .. and what it holds: null or some reference -/
def vx_Zq (C n d : String) (A : Nat → Prop) (U : State) (H : Heap) : Prop := va_Zq C n d A U H ∧ vx_L C n d A U H
theorem vx_Zq.moved {C n d : String} {A : Nat → Prop} {u U : State} {H : Heap} (hvm : u.vm.Alike U.vm) (h : vx_Zq C n d A u H) : vx_Zq C n d A U H := ⟨va_Zq.moved hvm h.1, vx_L.moved hvm h.2⟩
theorem vx_Zq.kept {C n d : String} {A : Nat → Prop} {U : State} {H H1 : Heap} (h : vx_Zq C n d A U H) (hq : ∀ a : Nat, a < H.size → ¬ A a → H1[a]? = H[a]?) : vx_Zq C n d A U H1 := ⟨va_Zq.kept h.1 hq, vx_L.kept h.2 hq⟩
theorem vx_Zq.narrow {C n d : String} {A B : Nat → Prop} {U : State} {H : Heap} (h : vx_Zq C n d A U H) (hAB : ∀ q, B q → A q) : vx_Zq C n d B U H := ⟨va_Zq.narrow h.1 hAB, vx_L.narrow h.2 hAB⟩
theorem vx_Zqof {args : Array Value} {s : State} {C n d : String} {A : Nat → Prop} (hl : (Cond.laysStatic C n d).before args s = true) (hini : (Cond.initialized C).before args s = true) (h : (Cond.isRef (.static C n d)).before args s = true) (hA : ∀ a : Nat, a < s.heap.size → ¬ A a) : vx_Zq C n d A s s.heap := by
  refine ⟨va_Zqof hl hini h hA, ?_⟩
  obtain ⟨c, k, i, f, a, cell, h1, h2, h3, h4, h5, h6, h7, h8, h9⟩ := Cond.laysStatic_spec hl
  exact ⟨c, k, i, f, a, cell, h1, h2, h3, h4, h5, h6, h7, h8, h9, hA a (Array.getElem?_eq_some_iff.mp h5).1⟩
theorem vx_isRef {C n d : String} {v : Value} {A : Nat → Prop} {s : State} {args : Array Value} (h : va_Z C n d v A s s.heap) (hv : v.isRef = true) : (Cond.isRef (.static C n d)).before args s = true := by
  obtain ⟨cf, kf, fi, f, a, cell, h1, h2, h3, h4, h5, h6, h7, -⟩ := h
  have he : (Term.static C n d).eval args s none [] s = some v := by
    simp [Term.eval, State.fieldNamed?, h1, h2, h4, h5, h6, h7]
  simp only [Cond.before, Cond.holds, Cond.value, he]
  cases v <;> simp_all [Value.isRef]
theorem vx_isRefq {C n d : String} {A : Nat → Prop} {s : State} {args : Array Value} (h : va_Zq C n d A s s.heap) : (Cond.isRef (.static C n d)).before args s = true := by
  rcases h with h | ⟨t, h⟩
  · exact vx_isRef h rfl
  · exact vx_isRef h rfl
/-- the same frame, seen from here: as if the method were called anew in this heap -/
theorem vx_rebase {T : State} (X : Stand p l e R s m args below meth c T locs cells slots) {R' : Room} (hf : R'.frames ≤ R.frames) (hl : R'.locals ≤ R.locals) (hc : cells + R'.cells ≤ R.cells) (hs : slots + R'.slots ≤ R.slots) :
    Stand p l e R' ((T.setVm s.vm).setFrames (.invoking m args :: below)) m args below meth c T [] 0 0 := by
  have htop : (T.setVm s.vm).topJava?.isSome := X.here.top
  have hF : ((T.setVm s.vm).setFrames (.invoking m args :: below)).frames = .invoking m args :: below := State.frames_setFrames _ (State.cur_lt_of_top htop)
  obtain ⟨g₀, hg0⟩ := Option.isSome_iff_exists.mp htop
  obtain ⟨r, hr⟩ := State.topJava?_eq_some.mp hg0
  have hl9 : e.platform.stackLimits (T.setVm s.vm).me = e.platform.stackLimits s.me := X.limits
  have hb9 : (T.setVm s.vm).me.stackBytes = s.me.stackBytes := X.bytes
  refine ⟨X.admits, X.cas, X.clock, hF, ?_, X.hears, X.method, X.code, X.here, X.tail, X.warmed, ?_, ?_, ?_⟩
  · have h := X.room
    have hU : ((T.setVm s.vm).setFrames (.invoking m args :: below)).localsInUse = s.localsInUse := by
      rw [State.localsInUse_invoking hF (meth := meth) (c := c) X.method X.code, State.localsInUse_invoking X.frames X.method X.code]
    simp only [State.hasRoom, Bool.and_eq_true, decide_eq_true_eq] at h ⊢
    obtain ⟨⟨⟨⟨h1, h2, h3, h4, h5, h6⟩, h7⟩, h8⟩, h9⟩ := h
    rw [X.frames, List.length_cons] at h2 h3
    have q1 := X.heapSize
    have q2 := X.used
    simp only [hF, hU, List.length_cons, State.stackLimits_setFrames, State.stackBytes_setFrames, hl9, hb9]
    refine ⟨⟨⟨⟨by omega, by omega, by omega, by omega, by omega, h6⟩, ?_⟩, ?_⟩, X.book⟩
    · show T.heap.size + R'.cells ≤ e.platform.maxCells
      omega
    · show T.slotsUsed + R'.slots ≤ e.platform.maxSlots
      omega
  · rw [State.stackLimits_setFrames]; rfl
  · rw [State.stackBytes_setFrames]; rfl
  · refine ⟨?_, Nat.le_refl _, Nat.le_refl _, ?_, ?_, fun a c9 h9 => ⟨c9, h9, rfl, rfl, fun _ _ => rfl⟩⟩
    · obtain ⟨t, ht, -⟩ := State.frames_cons hr
      show T.setVm s.vm = { ((T.setVm s.vm).setFrames (.invoking m args :: below)).setFrames (T.setVm s.vm).frames with heap := T.heap, slotsUsed := T.slotsUsed }
      rw [State.setFrames_setFrames, State.setFrames_self ht]
      rfl
    · show T.slotsUsed = T.slotsUsed + ((T.heap.toList.drop T.heap.size).map (·.slots.size)).sum
      rw [List.drop_eq_nil_of_le (Nat.le_of_eq Array.length_toList)]
      rfl
    · show ((T.heap.toList.drop T.heap.size).map (·.slots.size)).sum ≤ 0
      rw [List.drop_eq_nil_of_le (Nat.le_of_eq Array.length_toList)]
      exact Nat.le_refl _
/-- 'throw new E()': new; dup; invokespecial; athrow -/
theorem vx_throw0 {cc : ByteArray} {pc : Nat} (hexec : p.tables.exec = Jvm.exec) (hb : c.code = cc) (hl : l.stackTraces = false) {own cls : String} {names : List String} {ik ic mc ms : Nat} {A : Nat → Prop}
    (hown : s.vm.findClass own = some m.cls) (hcls : Bundle.fit cls = true) (hnames : ∀ n ∈ names, Bundle.fit n = true)
    (hk : (Cond.classLink own ik cls).before args s = true) (hini : (Cond.initialized cls).before args s = true) (hat : ∀ w ∈ vx_at0 own ic cls names, w.before args s = true)
    (hgood : ∀ w ∈ Cond.classLink own ik cls :: Cond.initialized cls :: vx_at0 own ic cls names, vx_ot w = true)
    (hU : vx_Zq Bundle.tN "UNASSIGNED_STACK" Bundle.steD A s s.heap) (hN : vx_Zq Bundle.tN "SUPPRESSED_SENTINEL" Bundle.listD A s s.heap) (hS : va_S A s.heap H locs) (hsize : ls.size = c.maxLocals)
    (d0 : decode cc pc = .ok (.new ik, 3)) (d3 : decode cc (pc + 3) = .ok (.dup, 1)) (d4 : decode cc (pc + 4) = .ok (.invokespecial ic, 3)) (d7 : decode cc (pc + 7) = .ok (.athrow, 1))
    (hout : ∀ x ∈ c.exceptionTable.toList, covers x (pc + 7) = false)
    (hRframes : names.length + 3 < R.frames) (hRlocals : (rest.map fun v => v.category).sum + (13 * (names.length + 1) + 42) ≤ R.locals) (hRcells : cells + 1 ≤ R.cells) (hRslots : slots + 6 ≤ R.slots) (hlocks : meth.locks = false)
    (hx : ∀ t : State, s.vm.Alike t.vm → H.size ≤ t.heap.size → (∀ q : Nat, q < H.size → t.heap[q]? = H[q]?) → XC cls s t)
    (hf : ∀ z ∈ locs, free z.base) (hc : cells + 1 ≤ mc) (hs : slots + 6 ≤ ms) :
    W p l e R s m args below meth c H locs cells slots (vx_MQ below Qc XC args s mc ms free) (F0 m pc ls rest) := by
  intro T hT X
  have htr : e.platform.stackTraces = false := (show e.platform.stackTraces = l.stackTraces by rw [X.admits.platform]).trans hl
  have Y := vx_rebase X (R' := { frames := R.frames, locals := R.locals, cells := 1, slots := 6 }) (Nat.le_refl _) (Nat.le_refl _) hRcells hRslots
  obtain ⟨s', hA⟩ : ∃ z, z = (T.setVm s.vm).setFrames (.invoking m args :: below) := ⟨_, rfl⟩
  rw [← hA] at Y
  have hvm : s'.vm = s.vm := by rw [hA]; rfl
  have hhp : s'.heap = H := by rw [hA]; exact hT
  have hW0 : s.WarmedH s'.vm := by rw [hvm]; exact State.WarmedH.refl s
  have hat' : ∀ w ∈ vx_at0 own ic cls names, w.before args s' = true := fun w hw => vx_ot_at hW0 hvm.symm (hgood w (List.mem_cons_of_mem _ (List.mem_cons_of_mem _ hw))) (hat w hw)
  have hk' : (Cond.classLink own ik cls).before args s' = true := vx_ot_at hW0 hvm.symm (hgood _ List.mem_cons_self) hk
  have hini' : (Cond.initialized cls).before args s' = true := vx_ot_at hW0 hvm.symm (hgood _ (List.mem_cons_of_mem _ List.mem_cons_self)) hini
  have hU' : vx_Zq Bundle.tN "UNASSIGNED_STACK" Bundle.steD A s' s'.heap := by rw [hhp]; exact vx_Zq.moved hW0.alike (hU.kept hS.2.1)
  have hN' : vx_Zq Bundle.tN "SUPPRESSED_SENTINEL" Bundle.listD A s' s'.heap := by rw [hhp]; exact vx_Zq.moved hW0.alike (hN.kept hS.2.1)
  have h : ∀ w ∈ Bundle.ownAtoms0 own ic cls names, w.before args s' = true := vx_own hat' (vx_isRefq hU'.1) (vx_isRefq hN'.1) hU'.2.word hN'.2.word
  have hown' : s'.vm.findClass own = some m.cls := by rw [hvm]; exact hown
  have hins : (Cond.instantiable cls 6).before args s' = true := h _ (by simp [Bundle.ownAtoms0])
  obtain ⟨vm₁, cX, kX, hfX, hkX, -, -, X₁, st1⟩ := Y.newCold hexec (own := own) (C := cls) (index := ik) (n := 6) hown' hk' hins hini'
    (g := F0 m pc ls rest) rfl (by rw [hb]; exact d0) (Nat.le_refl _) (Nat.le_refl _)
  generalize hT1 : (T.setVm vm₁).pushCell { cls := cX, slots := kX.instanceTypes.map defaultValue, vm := .none } = T1 at X₁ st1
  have hcat : (Value.ref T.heap.size).category = 1 := rfl
  have hcellA : T1.heap[T.heap.size]? = some (freshCell cX kX) := by rw [← hT1]; exact State.heap_pushCell_size _ _
  have d3' : decode c.code (pc + 3) = .ok (.dup, 1) := by rw [hb]; exact d3
  obtain ⟨U, hsteps, hrun, hend, hW, hsame, ce, hce, hO⟩ := X₁.ctorThrow0 hexec htr (own := own) (cls := cls) (names := names) (ic := ic) hown' hcls hnames h (fun x hx => nomatch hx) hfX hkX hcellA (by rw [hhp, hT]; exact Nat.le_refl _)
    (g := { method := m, pc := pc + 4, locals := ls, stack := .ref T.heap.size :: .ref T.heap.size :: rest, locked := none }) rfl hsize rfl rfl (rest := rest) rfl
    (by rw [hb]; exact d4) (by rw [hb]; exact d7) hout hRframes (by simp only [List.map_cons, List.sum_cons, hcat]; omega) hlocks
  obtain ⟨f1, f2⟩ := vx_frame hsame
  rw [hhp] at f1 f2
  have hWs : s.WarmedH U.vm := State.WarmedH.trans hW0 hW
  have hcl : s.vm.findClass cls = some ce.cls := by
    have h9 := hO.cls
    rw [hvm] at h9
    exact h9
  have hall : s.sameButNew ({ U with vm := s.vm } : State) locs mc ms := by
    subst hA
    obtain ⟨e1, e2⟩ := hsame
    rw [State.setFrames_setFrames] at e1
    have h2 : (T.setVm s.vm).sameButNew ({ U with vm := s.vm } : State) [] (0 + 1) (0 + 6) := ⟨e1, e2⟩
    have h3 := X.same.trans h2
    rw [List.append_nil] at h3
    exact h3.mono hc hs
  refine ⟨U, ?_, .threw T.heap.size, hrun, hend, Or.inr ⟨T.heap.size, rfl, cls, ce, locs, hx U hWs.alike f1 (fun q hq => f2 q hq (fun z hz => nomatch hz)), hce, hO.vm, hcl, hWs, hall, hf⟩⟩
  refine st1 _ ?_
  show Steps p.tables e below (T1.setTop { method := m, pc := pc + 3, locals := ls, stack := .ref T.heap.size :: rest, locked := none }) _
  jvm_step X₁.here [X₁.here.top, hexec, d3', Value.category]
  exact hsteps
/-- 'throw new E("text")': new; dup; ldc; invokespecial; athrow -/
theorem vx_throwS {cc : ByteArray} {pc : Nat} (hexec : p.tables.exec = Jvm.exec) (hb : c.code = cc) (hl : l.stackTraces = false) {own cls text : String} {names : List String} {ik is ic mc ms sa : Nat} {A : Nat → Prop}
    (hown : s.vm.findClass own = some m.cls) (hcls : Bundle.fit cls = true) (hnames : ∀ n ∈ names, Bundle.fit n = true)
    (hk : (Cond.classLink own ik cls).before args s = true) (hini : (Cond.initialized cls).before args s = true) (hstr : vk_R own is text sa s) (hat : ∀ w ∈ vx_atS own ic cls names, w.before args s = true)
    (hgood : ∀ w ∈ Cond.classLink own ik cls :: Cond.initialized cls :: vx_atS own ic cls names, vx_ot w = true)
    (hU : vx_Zq Bundle.tN "UNASSIGNED_STACK" Bundle.steD A s s.heap) (hN : vx_Zq Bundle.tN "SUPPRESSED_SENTINEL" Bundle.listD A s s.heap) (hS : va_S A s.heap H locs) (hsize : ls.size = c.maxLocals)
    (d0 : decode cc pc = .ok (.new ik, 3)) (d3 : decode cc (pc + 3) = .ok (.dup, 1)) (d4 : decode cc (pc + 4) = .ok (.ldc is, 2)) (d6 : decode cc (pc + 6) = .ok (.invokespecial ic, 3)) (d9 : decode cc (pc + 9) = .ok (.athrow, 1))
    (hout : ∀ x ∈ c.exceptionTable.toList, covers x (pc + 9) = false)
    (hRframes : names.length + 3 < R.frames) (hRlocals : (rest.map fun v => v.category).sum + (13 * (names.length + 1) + 43) ≤ R.locals) (hRcells : cells + 1 ≤ R.cells) (hRslots : slots + 6 ≤ R.slots) (hlocks : meth.locks = false)
    (hx : ∀ t : State, s.vm.Alike t.vm → H.size ≤ t.heap.size → (∀ q : Nat, q < H.size → t.heap[q]? = H[q]?) → XC cls s t)
    (hf : ∀ z ∈ locs, free z.base) (hc : cells + 1 ≤ mc) (hs : slots + 6 ≤ ms) :
    W p l e R s m args below meth c H locs cells slots (vx_MQ below Qc XC args s mc ms free) (F0 m pc ls rest) := by
  intro T hT X
  have htr : e.platform.stackTraces = false := (show e.platform.stackTraces = l.stackTraces by rw [X.admits.platform]).trans hl
  have Y := vx_rebase X (R' := { frames := R.frames, locals := R.locals, cells := 1, slots := 6 }) (Nat.le_refl _) (Nat.le_refl _) hRcells hRslots
  obtain ⟨s', hA⟩ : ∃ z, z = (T.setVm s.vm).setFrames (.invoking m args :: below) := ⟨_, rfl⟩
  rw [← hA] at Y
  have hvm : s'.vm = s.vm := by rw [hA]; rfl
  have hhp : s'.heap = H := by rw [hA]; exact hT
  have hW0 : s.WarmedH s'.vm := by rw [hvm]; exact State.WarmedH.refl s
  have hat' : ∀ w ∈ vx_atS own ic cls names, w.before args s' = true := fun w hw => vx_ot_at hW0 hvm.symm (hgood w (List.mem_cons_of_mem _ (List.mem_cons_of_mem _ hw))) (hat w hw)
  have hk' : (Cond.classLink own ik cls).before args s' = true := vx_ot_at hW0 hvm.symm (hgood _ List.mem_cons_self) hk
  have hini' : (Cond.initialized cls).before args s' = true := vx_ot_at hW0 hvm.symm (hgood _ (List.mem_cons_of_mem _ List.mem_cons_self)) hini
  have hU' : vx_Zq Bundle.tN "UNASSIGNED_STACK" Bundle.steD A s' s'.heap := by rw [hhp]; exact vx_Zq.moved hW0.alike (hU.kept hS.2.1)
  have hN' : vx_Zq Bundle.tN "SUPPRESSED_SENTINEL" Bundle.listD A s' s'.heap := by rw [hhp]; exact vx_Zq.moved hW0.alike (hN.kept hS.2.1)
  have h : ∀ w ∈ Bundle.ownAtoms own ic cls names, w.before args s' = true := vx_own hat' (vx_isRefq hU'.1) (vx_isRefq hN'.1) hU'.2.word hN'.2.word
  have hown' : s'.vm.findClass own = some m.cls := by rw [hvm]; exact hown
  have hins : (Cond.instantiable cls 6).before args s' = true := h _ (by simp [Bundle.ownAtoms])
  obtain ⟨vm₁, cX, kX, hfX, hkX, -, -, X₁, st1⟩ := Y.newCold hexec (own := own) (C := cls) (index := ik) (n := 6) hown' hk' hins hini'
    (g := F0 m pc ls rest) rfl (by rw [hb]; exact d0) (Nat.le_refl _) (Nat.le_refl _)
  generalize hT1 : (T.setVm vm₁).pushCell { cls := cX, slots := kX.instanceTypes.map defaultValue, vm := .none } = T1 at X₁ st1
  have hcat : (Value.ref T.heap.size).category = 1 := rfl
  have hcellA : T1.heap[T.heap.size]? = some (freshCell cX kX) := by rw [← hT1]; exact State.heap_pushCell_size _ _
  have d3' : decode c.code (pc + 3) = .ok (.dup, 1) := by rw [hb]; exact d3
  have d4' : decode c.code (pc + 4) = .ok (.ldc is, 2) := by rw [hb]; exact d4
  have hstr' : vk_R own is text sa s' := vk_R.warm hW0 hstr
  obtain ⟨U, hsteps, hrun, hend, hW, hsame, ce, hce, hO⟩ := X₁.ctorThrowS hexec htr (own := own) (cls := cls) (names := names) (ic := ic) hown' hcls hnames h (fun x hx => nomatch hx) hfX hkX hcellA (by rw [hhp, hT]; exact Nat.le_refl _) (msg := .ref sa) rfl
    (g := { method := m, pc := pc + 6, locals := ls, stack := .ref sa :: .ref T.heap.size :: .ref T.heap.size :: rest, locked := none }) rfl hsize rfl rfl (rest := rest) rfl
    (by rw [hb]; exact d6) (by rw [hb]; exact d9) hout hRframes (by simp only [List.map_cons, List.sum_cons, hcat]; omega) hlocks
  obtain ⟨f1, f2⟩ := vx_frame hsame
  rw [hhp] at f1 f2
  have hWs : s.WarmedH U.vm := State.WarmedH.trans hW0 hW
  have hcl : s.vm.findClass cls = some ce.cls := by
    have h9 := hO.cls
    rw [hvm] at h9
    exact h9
  have hall : s.sameButNew ({ U with vm := s.vm } : State) locs mc ms := by
    subst hA
    obtain ⟨e1, e2⟩ := hsame
    rw [State.setFrames_setFrames] at e1
    have h2 : (T.setVm s.vm).sameButNew ({ U with vm := s.vm } : State) [] (0 + 1) (0 + 6) := ⟨e1, e2⟩
    have h3 := X.same.trans h2
    rw [List.append_nil] at h3
    exact h3.mono hc hs
  refine ⟨U, ?_, .threw T.heap.size, hrun, hend, Or.inr ⟨T.heap.size, rfl, cls, ce, locs, hx U hWs.alike f1 (fun q hq => f2 q hq (fun z hz => nomatch hz)), hce, hO.vm, hcl, hWs, hall, hf⟩⟩
  refine st1 _ ?_
  show Steps p.tables e below (T1.setTop { method := m, pc := pc + 3, locals := ls, stack := .ref T.heap.size :: rest, locked := none }) _
  jvm_step X₁.here [X₁.here.top, hexec, d3', Value.category]
  exact X₁.ldcString hexec (own := own) (text := text) (index := is) (a := sa) hown' hstr'.1 hstr'.2
    (g := { method := m, pc := pc + 4, locals := ls, stack := .ref T.heap.size :: .ref T.heap.size :: rest, locked := none }) rfl d4' _ hsteps
/-- 'throw new E("text")', the text by a wide index -/
theorem vx_throwSW {cc : ByteArray} {pc : Nat} (hexec : p.tables.exec = Jvm.exec) (hb : c.code = cc) (hl : l.stackTraces = false) {own cls text : String} {names : List String} {ik is ic mc ms sa : Nat} {A : Nat → Prop}
    (hown : s.vm.findClass own = some m.cls) (hcls : Bundle.fit cls = true) (hnames : ∀ n ∈ names, Bundle.fit n = true)
    (hk : (Cond.classLink own ik cls).before args s = true) (hini : (Cond.initialized cls).before args s = true) (hstr : vk_R own is text sa s) (hat : ∀ w ∈ vx_atS own ic cls names, w.before args s = true)
    (hgood : ∀ w ∈ Cond.classLink own ik cls :: Cond.initialized cls :: vx_atS own ic cls names, vx_ot w = true)
    (hU : vx_Zq Bundle.tN "UNASSIGNED_STACK" Bundle.steD A s s.heap) (hN : vx_Zq Bundle.tN "SUPPRESSED_SENTINEL" Bundle.listD A s s.heap) (hS : va_S A s.heap H locs) (hsize : ls.size = c.maxLocals)
    (d0 : decode cc pc = .ok (.new ik, 3)) (d3 : decode cc (pc + 3) = .ok (.dup, 1)) (d4 : decode cc (pc + 4) = .ok (.ldc_w is, 3)) (d7 : decode cc (pc + 7) = .ok (.invokespecial ic, 3)) (d10 : decode cc (pc + 10) = .ok (.athrow, 1))
    (hout : ∀ x ∈ c.exceptionTable.toList, covers x (pc + 10) = false)
    (hRframes : names.length + 3 < R.frames) (hRlocals : (rest.map fun v => v.category).sum + (13 * (names.length + 1) + 43) ≤ R.locals) (hRcells : cells + 1 ≤ R.cells) (hRslots : slots + 6 ≤ R.slots) (hlocks : meth.locks = false)
    (hx : ∀ t : State, s.vm.Alike t.vm → H.size ≤ t.heap.size → (∀ q : Nat, q < H.size → t.heap[q]? = H[q]?) → XC cls s t)
    (hf : ∀ z ∈ locs, free z.base) (hc : cells + 1 ≤ mc) (hs : slots + 6 ≤ ms) :
    W p l e R s m args below meth c H locs cells slots (vx_MQ below Qc XC args s mc ms free) (F0 m pc ls rest) := by
  intro T hT X
  have htr : e.platform.stackTraces = false := (show e.platform.stackTraces = l.stackTraces by rw [X.admits.platform]).trans hl
  have Y := vx_rebase X (R' := { frames := R.frames, locals := R.locals, cells := 1, slots := 6 }) (Nat.le_refl _) (Nat.le_refl _) hRcells hRslots
  obtain ⟨s', hA⟩ : ∃ z, z = (T.setVm s.vm).setFrames (.invoking m args :: below) := ⟨_, rfl⟩
  rw [← hA] at Y
  have hvm : s'.vm = s.vm := by rw [hA]; rfl
  have hhp : s'.heap = H := by rw [hA]; exact hT
  have hW0 : s.WarmedH s'.vm := by rw [hvm]; exact State.WarmedH.refl s
  have hat' : ∀ w ∈ vx_atS own ic cls names, w.before args s' = true := fun w hw => vx_ot_at hW0 hvm.symm (hgood w (List.mem_cons_of_mem _ (List.mem_cons_of_mem _ hw))) (hat w hw)
  have hk' : (Cond.classLink own ik cls).before args s' = true := vx_ot_at hW0 hvm.symm (hgood _ List.mem_cons_self) hk
  have hini' : (Cond.initialized cls).before args s' = true := vx_ot_at hW0 hvm.symm (hgood _ (List.mem_cons_of_mem _ List.mem_cons_self)) hini
  have hU' : vx_Zq Bundle.tN "UNASSIGNED_STACK" Bundle.steD A s' s'.heap := by rw [hhp]; exact vx_Zq.moved hW0.alike (hU.kept hS.2.1)
  have hN' : vx_Zq Bundle.tN "SUPPRESSED_SENTINEL" Bundle.listD A s' s'.heap := by rw [hhp]; exact vx_Zq.moved hW0.alike (hN.kept hS.2.1)
  have h : ∀ w ∈ Bundle.ownAtoms own ic cls names, w.before args s' = true := vx_own hat' (vx_isRefq hU'.1) (vx_isRefq hN'.1) hU'.2.word hN'.2.word
  have hown' : s'.vm.findClass own = some m.cls := by rw [hvm]; exact hown
  have hins : (Cond.instantiable cls 6).before args s' = true := h _ (by simp [Bundle.ownAtoms])
  obtain ⟨vm₁, cX, kX, hfX, hkX, -, -, X₁, st1⟩ := Y.newCold hexec (own := own) (C := cls) (index := ik) (n := 6) hown' hk' hins hini'
    (g := F0 m pc ls rest) rfl (by rw [hb]; exact d0) (Nat.le_refl _) (Nat.le_refl _)
  generalize hT1 : (T.setVm vm₁).pushCell { cls := cX, slots := kX.instanceTypes.map defaultValue, vm := .none } = T1 at X₁ st1
  have hcat : (Value.ref T.heap.size).category = 1 := rfl
  have hcellA : T1.heap[T.heap.size]? = some (freshCell cX kX) := by rw [← hT1]; exact State.heap_pushCell_size _ _
  have d3' : decode c.code (pc + 3) = .ok (.dup, 1) := by rw [hb]; exact d3
  have d4' : decode c.code (pc + 4) = .ok (.ldc_w is, 3) := by rw [hb]; exact d4
  have hstr' : vk_R own is text sa s' := vk_R.warm hW0 hstr
  obtain ⟨U, hsteps, hrun, hend, hW, hsame, ce, hce, hO⟩ := X₁.ctorThrowS hexec htr (own := own) (cls := cls) (names := names) (ic := ic) hown' hcls hnames h (fun x hx => nomatch hx) hfX hkX hcellA (by rw [hhp, hT]; exact Nat.le_refl _) (msg := .ref sa) rfl
    (g := { method := m, pc := pc + 7, locals := ls, stack := .ref sa :: .ref T.heap.size :: .ref T.heap.size :: rest, locked := none }) rfl hsize rfl rfl (rest := rest) rfl
    (by rw [hb]; exact d7) (by rw [hb]; exact d10) hout hRframes (by simp only [List.map_cons, List.sum_cons, hcat]; omega) hlocks
  obtain ⟨f1, f2⟩ := vx_frame hsame
  rw [hhp] at f1 f2
  have hWs : s.WarmedH U.vm := State.WarmedH.trans hW0 hW
  have hcl : s.vm.findClass cls = some ce.cls := by
    have h9 := hO.cls
    rw [hvm] at h9
    exact h9
  have hall : s.sameButNew ({ U with vm := s.vm } : State) locs mc ms := by
    subst hA
    obtain ⟨e1, e2⟩ := hsame
    rw [State.setFrames_setFrames] at e1
    have h2 : (T.setVm s.vm).sameButNew ({ U with vm := s.vm } : State) [] (0 + 1) (0 + 6) := ⟨e1, e2⟩
    have h3 := X.same.trans h2
    rw [List.append_nil] at h3
    exact h3.mono hc hs
  refine ⟨U, ?_, .threw T.heap.size, hrun, hend, Or.inr ⟨T.heap.size, rfl, cls, ce, locs, hx U hWs.alike f1 (fun q hq => f2 q hq (fun z hz => nomatch hz)), hce, hO.vm, hcl, hWs, hall, hf⟩⟩
  refine st1 _ ?_
  show Steps p.tables e below (T1.setTop { method := m, pc := pc + 3, locals := ls, stack := .ref T.heap.size :: rest, locked := none }) _
  jvm_step X₁.here [X₁.here.top, hexec, d3', Value.category]
  exact X₁.ldcStringW hexec (own := own) (text := text) (index := is) (a := sa) hown' hstr'.1 hstr'.2
    (g := { method := m, pc := pc + 4, locals := ls, stack := .ref T.heap.size :: .ref T.heap.size :: rest, locked := none }) rfl d4' _ hsteps
end Ends
section Bodies
variable {l : Launch}
theorem vx_ofW {y : MethodName} {ws ws' : List Cond} {rm : Room} {Pc : Array Value → State → Prop} {Qc : Array Value → State → Outcome → State → Prop} {XC : String → State → State → Prop} {mc ms : Nat} {free : Addr → Prop} {cc : ByteArray} {maxL : Nat} {ret : Option FieldType}
    (hy : plainName y.cls = true) (hw : ws = Cond.code y cc maxL ret :: ws')
    (body : ∀ p e s m args below meth c s₁, BodyLoose p l y (headSpec ws rm) cc maxL ret e s m args below meth c s₁ → c.maxLocals = maxL → (∀ x ∈ c.exceptionTable.toList, False) → Pc args s →
      W p l e (headSpec ws rm).room s m args below meth c s.heap [] 0 0 (vx_MQ below Qc XC args s mc ms free) (entryFrame m args maxL)) : vx_Met l y ws rm Pc Qc XC mc ms free := by
  refine MetFree.of_bodyS (code := cc) (maxLocals := maxL) (ret := ret) hy ?_ ?_
  · intro args s m h hn
    obtain ⟨meth, c, h1, h2, h3, h4, h5, h6, -, -⟩ := Cond.code_spec hn (atoms_spec (ws := ws) h _ (by rw [hw]; exact List.mem_cons_self))
    exact ⟨meth, c, h1, h2, h3, h4, h5, h6⟩
  · intro p e s m args below meth c s₁ B hml hP _
    have hh0 : s₁.heap = s.heap := by rw [B.state]; rfl
    have ht : ∀ x ∈ c.exceptionTable.toList, False := by
      obtain ⟨meth9, c9, h1, h2, -, -, -, -, h7, -⟩ := Cond.code_spec B.named (atoms_spec (ws := ws) B.pre _ (by rw [hw]; exact List.mem_cons_self))
      cases Option.some.inj (h1.symm.trans B.method)
      cases Option.some.inj (h2.symm.trans (Stand.of_body B).code)
      intro x hx
      rw [Array.isEmpty_iff.mp h7] at hx
      cases hx
    obtain ⟨t, a1, o, b1, b2, b3⟩ := body p e s m args below meth c s₁ B hml ht hP s₁ hh0 (Stand.of_body B)
    exact ⟨t, o, a1, b1, b2, b3⟩
/-- the table of a body with handlers -/
theorem vx_table {p : Program} {x y : MethodName} {S : Spec} {cc bytes : ByteArray} {maxL maxL' : Nat} {ret ret' : Option FieldType} {e : Env} {s s₁ : State} {m : MethodId} {args : Array Value} {below : List Frame} {meth : Method} {c : Code} {hh : List (Nat × Nat × Nat × Nat)}
    (B : BodyLoose p l y S cc maxL ret e s m args below meth c s₁) (h : (Cond.codeWith y bytes maxL' ret' hh).before args s = true) : c.exceptionTable.toList = tableOf hh := by
  obtain ⟨m9, meth9, c9, hn9, h1, h2, -, -, h6, -⟩ := Cond.codeWith_spec h
  cases Option.some.inj (hn9.symm.trans B.named)
  cases Option.some.inj (h1.symm.trans B.method)
  cases Option.some.inj (h2.symm.trans (Stand.of_body B).code)
  rw [← h6, table_eq]
end Bodies
end VXA
/-! ===== END ===== -/
/-! ===== BEGIN a static call of a method with an exception table ===== -/
section VXS
variable {p : Program} {l : Launch} {e : Env} {R : Room} {s : State} {m : MethodId} {args : Array Value} {below : List Frame} {meth : Method} {c : Code} {T : State} {H : Heap} {locs : List Loc} {cells slots : Nat}
abbrev vx_CSW (R : Room) (s : State) (args : Array Value) (own : String) (index : Nat) (y : MethodName) (bytes : ByteArray) (maxL : Nat) (ret : Option FieldType) (hh : List (Nat × Nat × Nat × Nat)) (ws : List Cond) (rm : Room) (mc ms n : Nat) : Prop :=
  (rm.cells = mc ∧ rm.slots = ms ∧ rm.frames + 1 ≤ R.frames ∧ 8 + (maxL + 11) + rm.locals ≤ R.locals ∧ (∀ w ∈ ws, ∀ (a' : Array Value) (U : State), s.WarmedH U.vm → w.before a' U = true) ∧ Cond.codeWith y bytes maxL ret hh ∈ ws) ∧
  (Cond.codeWith y bytes maxL ret hh).before args s = true ∧ (Cond.initialized y.cls).before args s = true ∧ (y.cls ≠ "java/lang/invoke/MethodHandle" ∧ y.cls ≠ "java/lang/invoke/VarHandle") ∧
  (∀ sig, parseMethodDescriptor y.desc = some sig → n = sig.parameters.length) ∧ (Cond.methodLink own index y).before args s = true ∧ (Cond.static y).before args s = true
theorem vx_cwSW {own : String} {index maxL mc ms : Nat} {y : MethodName} {bytes : ByteArray} {ret : Option FieldType} {hh : List (Nat × Nat × Nat × Nat)} {Ts ws ws' : List Cond} {rm : Room} (n : Nat) (ht : ∀ w ∈ Ts, w.before args s = true) (hT : GoodIn Ts (va_wsS own index y ws)) (hw : ws = Cond.codeWith y bytes maxL ret hh :: ws') (hrc : rm.cells = mc) (hrs : rm.slots = ms)
    (hd : y.cls ≠ "java/lang/invoke/MethodHandle" ∧ y.cls ≠ "java/lang/invoke/VarHandle" ∧ (parseMethodDescriptor y.desc).map (fun d => d.parameters.length) = some n) (hR : rm.frames + 1 ≤ R.frames ∧ 8 + (maxL + 11) + rm.locals ≤ R.locals) :
    vx_CSW R s args own index y bytes maxL ret hh ws rm mc ms n := by
  have ok : ∀ w ∈ va_wsS own index y ws, w.before args s = true := fun w h => ht w (hT w h).1
  have hG : GoodIn Ts ws := fun w h => hT w (by unfold va_wsS; exact List.mem_append_right _ h)
  have hc : Cond.codeWith y bytes maxL ret hh ∈ ws := by rw [hw]; exact List.mem_cons_self
  refine ⟨⟨hrc, hrs, hR.1, hR.2, pay_in ht hG, hc⟩, ht _ (hG _ hc).1, ok _ (by simp [va_wsS]), ⟨hd.1, hd.2.1⟩, fun sig h => ?_, ok _ (by simp [va_wsS]), ok _ (by simp [va_wsS])⟩
  have h2 := hd.2.2
  rw [h] at h2
  exact (Option.some.inj h2).symm
theorem vx_callSW (X : Stand p l e R s m args below meth c T locs cells slots) (hexec : p.tables.exec = Jvm.exec) {own : String} {index : Nat} {y : MethodName} {bytes : ByteArray} {maxL : Nat} {ret : Option FieldType} {hh : List (Nat × Nat × Nat × Nat)}
    (hown : s.vm.findClass own = some m.cls) (hlink : (Cond.methodLink own index y).before args s = true) (hstat : (Cond.static y).before args s = true) (hinit : (Cond.initialized y.cls).before args s = true)
    (hcode : (Cond.codeWith y bytes maxL ret hh).before args s = true) (hy : y.cls ≠ "java/lang/invoke/MethodHandle" ∧ y.cls ≠ "java/lang/invoke/VarHandle")
    {W9 : Nat} {Pre : Pt → Array Value → Prop} {Post : Pt → Array Value → Option Value → Pt → Prop} (hK : Back l R p e below s args y 3 W9 Pre Post)
    {g : JFrame} (hg : g.method = m) (hsize : g.locals.size = c.maxLocals) {argsL rest : List Value} (hlen : ∀ sig, parseMethodDescriptor y.desc = some sig → argsL.length = sig.parameters.length)
    (hstack : g.stack = argsL.reverse ++ rest) (hW : 2 * g.monitorRoom + (rest.map fun v => v.category).sum ≤ W9) (hdg : decode c.code g.pc = .ok (.invokestatic index, 3))
    (hpre : ∀ vm₁, s.WarmedH vm₁ → Pre ⟨T.setVm vm₁, locs, cells, slots⟩ argsL.toArray) :
    ∃ (v : Option Value) (vm₁ : Vm) (B : Pt), s.WarmedH vm₁ ∧ Stand p l e R s m args below meth c B.U B.locs B.cells B.slots ∧ Post ⟨T.setVm vm₁, locs, cells, slots⟩ argsL.toArray v B ∧
      ∀ target, Steps p.tables e below (B.U.setTop { g with pc := g.pc + 3, stack := v.toList ++ rest }) target → Steps p.tables e below (T.setTop g) target := by
  obtain ⟨mk, methM, cM, hnamed, hmethM, -, -, -, -, -, -, hsigM⟩ := Cond.codeWith_spec hcode
  have hstatic : methM.isStatic = true := Cond.static_spec hnamed hmethM hstat
  obtain ⟨kP, hkP, -⟩ := className_of_methodNamed hnamed
  have hinitP : kP.init = .initialized := Cond.initialized_spec (findClass_of_methodNamed hnamed) hkP hinit
  obtain ⟨vm₁, X₁, hstep₁⟩ := X.invokestatic hexec hown hlink hnamed hmethM hstatic hkP hinitP hy (g := g) hg (argsL := argsL) (rest := rest) (hlen _ hsigM) hstack hdg
  obtain ⟨v, B, X', hpost, hsteps⟩ := hK m meth c ⟨T.setVm vm₁, locs, cells, slots⟩ { g with stack := rest } (.invokestatic index) mk argsL.toArray X₁ hg hsize hdg hW (X₁.named hnamed) (hpre vm₁ X₁.warmed)
  exact ⟨v, vm₁, B, X₁.warmed, X', hpost, fun target h => hstep₁ _ fun acts => by rw [doInvoke_state]; exact hsteps.trans h⟩
theorem vx_runSW {y : MethodName} {bytes cc : ByteArray} {maxL nL mc ms n index : Nat} {ret : Option FieldType} {hh : List (Nat × Nat × Nat × Nat)} {ws : List Cond} {rm : Room} {Pc : Array Value → State → Prop} {Qc : Array Value → State → Outcome → State → Prop} {free : Addr → Prop} {Ts : List Cond} {own : String} {As rest : List Value} {g : JFrame}
    (S : CallFix p m c cc nL s args Ts own) (hM : Met l y ws rm Pc Qc mc ms free) (cw : vx_CSW R s args own index y bytes maxL ret hh ws rm mc ms n) (hp : PreS s H Pc As)
    (hg : g.method = m) (hn : As.length = n) (hsize : g.locals.size = nL) (hstack : g.stack = As.reverse ++ rest) (hW : 2 * g.monitorRoom + (rest.map fun v => v.category).sum ≤ 8) (hdg : decode cc g.pc = .ok (.invokestatic index, 3)) (hf : cells + mc ≤ R.cells ∧ slots + ms ≤ R.slots) :
    va_Run p l e R s m args below meth c H locs cells slots mc ms g rest (Qc As.toArray) (free) := by
  obtain ⟨⟨hrc, hrs, hfr, hlo, hws, hcw⟩, hcode, hini, hy, hlen, hl, hstt⟩ := cw
  have hK : Back l R p e below s args y 3 8 (PreOf R mc ms Pc) (PostOf Qc mc ms free) := va_backW (hh := hh) (bytes := bytes) (maxL := maxL) (ret := ret) hM hp.1 hrc hrs hfr hlo hws hcw (fun a' U hW => word_at hW (Or.inl (by first | rfl | simp [Cond.onTables, Cond.keeps, Cond.steady])) hini)
  obtain ⟨hx, hb, hml, ho, -⟩ := S
  intro T hT X
  obtain ⟨v, vm₁, ⟨U', l2, c2, s2⟩, hW₁, X', ⟨g', mk, t, L, e1, e2, hq, h1, hL, h2, h3⟩, st⟩ := vx_callSW X hx (hh := hh) (bytes := bytes) (maxL := maxL) (ret := ret) ho hl hstt hini hcode hy hK hg (hsize.trans hml.symm) (argsL := As) (rest := rest) (fun sig h => hn.trans (hlen sig h)) hstack hW (by rw [hb]; exact hdg)
    (fun vm₁ hW₁ => ⟨hf.1, hf.2, hp.2 (T.setVm vm₁) hT hW₁⟩)
  dsimp only [Pt.U, Pt.locs, Pt.cells, Pt.slots] at X' e1 e2 h1 h2 h3 st
  subst h1; subst h2; subst h3
  exact ⟨v, (T.setVm vm₁).calling g' mk As.toArray, t, U', L, hT, X', hL, e1, e2, hq, st⟩
/-- not caught here, past rows that name other classes: it goes on to the caller -/
theorem vx_outP {p : Program} {l : Launch} {e : Env} {R : Room} {s : State} {m : MethodId} {args : Array Value} {below : List Frame} {meth : Method} {c : Code} {H : Heap} {locs : List Loc} {cells slots : Nat} {free : Addr → Prop} {ls : Array Slot} {rest : List Value} {Qc : Array Value → State → Outcome → State → Prop} {XC : String → State → State → Prop}
    {pc : Nat} {own E : String} {ce : Cell} {q : Addr} {mc ms : Nat} (hown : s.vm.findClass own = some m.cls) (hlocks : meth.locks = false)
    (hpass : ∀ z ∈ c.exceptionTable.toList, covers z pc = false ∨ (z.catchType ≠ 0 ∧ ∃ nm : String, (Cond.classLink own z.catchType nm).before args s = true ∧ va_Nc E nm s)) (hcell : H[q]? = some ce) (hv : ce.vm = .none) (hcl : s.vm.findClass E = some ce.cls)
    (hx : ∀ t : State, t.heap = H → s.vm.Alike t.vm → XC E s t) (hf : ∀ z ∈ locs, free z.base) (hc : cells ≤ mc) (hs : slots ≤ ms) :
    vx_W p l e R s m args below meth c H locs cells slots (vx_MQ below Qc XC args s mc ms free) (F0 m pc ls rest) q := by
  intro T hT X
  have hpl : e.platform.magicAccessors = ({} : Platform).magicAccessors := by rw [X.admits.platform]
  obtain ⟨vm', hW', X', st⟩ := Jvm.Stand.outThrough X hlocks q (g := F0 m pc ls rest) rfl rfl rfl (cell := ce) (by rw [hT]; exact hcell) (by rw [hv]; rfl)
    (by obtain ⟨k9, h9, -⟩ := Vm.findClass_spec hcl; exact ⟨k9, h9⟩) (fun z hz => by
      rcases hpass z hz with h | ⟨hz0, nm, hl1, hn1⟩
      · exact Or.inl h
      · obtain ⟨c6, hc6, hcl6⟩ := Cond.classLink_spec hown hl1 e.platform hpl
        obtain ⟨a8, b8, h1, h2, h3⟩ := hn1
        cases Option.some.inj (h1.symm.trans hcl)
        cases Option.some.inj (h2.symm.trans hc6)
        exact Or.inr ⟨hz0, _, hcl6, h3⟩)
  obtain ⟨g₀, hfr⟩ := X'.frames_eq
  have hcell9 : ((T.setVm vm').setFrames (.throwing q :: below)).heap[q]? = some ce := by
    show T.heap[q]? = some ce
    rw [hT]; exact hcell
  have hend : Ended ((T.setVm vm').setFrames (.throwing q :: below)) below (.threw q) := State.frames_setFrames _ (State.cur_lt_of_frames hfr)
  refine ⟨(T.setVm vm').setFrames (.throwing q :: below), ?_, .threw q, X'.here.running, hend, Or.inr ⟨q, rfl, E, ce, locs, hx _ hT (X'.ends _).1.alike, hcell9, hv, hcl, (X'.ends _).1, (X'.ends _).2.mono hc hs, hf⟩⟩
  rw [X.pushThrowing_eq]
  exact st
/-- a thing of a world lies in the heap -/
theorem vx_lt {D : va_G} {cl : List vw_C} {ws : va_W} {H1 : Heap} (h : va_P D cl ws H1) {k : Nat} {q : Nat × va_E} (hk : ws[k]? = some q) : q.1 < H1.size := (h k q hk).lt
end VXS
/-! ===== END ===== -/
/-! ===== BEGIN methods with a table of their own: called by a name, returning or throwing ===== -/
section VXH
/-! vx_backW, vx_callVX, vx_callSX, vx_callVW, vx_runVW, vx_runVX, vx_runSX, vx_ofWH follow the same proofs as their sisters above (Free/Laws.lean, Shelf42/LK1.lean); vx_outP calls Shelf42/NT130.lean (outThrough). -/
section
variable {l : Launch} {R : Room} {p : Program} {e : Env} {below : List Frame} {s : State} {sargs : Array Value} {y : MethodName} {len W9 : Nat}
theorem vx_backW {ws : List Cond} {rm : Room} {Pc : Array Value → State → Prop} {Qc : Array Value → State → Outcome → State → Prop} {XC : String → State → State → Prop} {mc ms : Nat} {free : Addr → Prop} {bytes : ByteArray} {maxL : Nat} {ret : Option FieldType} {hh : List (Nat × Nat × Nat × Nat)}
    (hM : vx_Met l y ws rm Pc Qc XC mc ms free) (hblind : FrameBlind Pc) (hrc : rm.cells = mc) (hrs : rm.slots = ms)
    (hframes : rm.frames + 1 ≤ R.frames) (hlocals : W9 + (maxL + 11) + rm.locals ≤ R.locals)
    (hws : ∀ w ∈ ws, ∀ a' U, s.WarmedH U.vm → w.before a' U = true) (hcode : Cond.codeWith y bytes maxL ret hh ∈ ws) (hinit : ∀ a' U, s.WarmedH U.vm → (Cond.initialized y.cls).before a' U = true) :
    vx_Back l R p e below s sargs y len W9 (PreOf R mc ms Pc) (PostOf Qc mc ms free) (vx_Post XC mc ms free) := by
  intro m meth c A g ig mk a X hg hsize hdg hW hn hp
  have h1 : (headSpec ws rm).pre.before a A.U = true := atoms_intro fun w hw => hws w hw _ _ X.warmed
  have h2 : (Cond.codeWith y bytes maxL ret hh).before a A.U = true := hws _ hcode _ _ X.warmed
  have h3 : (Cond.initialized y.cls).before a A.U = true := hinit _ _ X.warmed
  have h4 : A.cells + (headSpec ws rm).room.cells ≤ R.cells := by rw [show (headSpec ws rm).room.cells = mc from hrc]; exact hp.1
  have h5 : A.slots + (headSpec ws rm).room.slots ≤ R.slots := by rw [show (headSpec ws rm).room.slots = ms from hrs]; exact hp.2.1
  have hPc : Pc a (A.U.calling g mk a) := hblind _ _ _ _ hp.2.2
  obtain ⟨U, Ls, c0, s0⟩ := A
  dsimp only [Pt.U, Pt.locs, Pt.cells, Pt.slots] at h1 h2 h3 h4 h5 X hn hPc ⊢
  obtain ⟨m9, methY, cY, hn9, hmY, hcY, -, hlY, -⟩ := Cond.codeWith_spec h2
  cases Option.some.inj (hn9.symm.trans hn)
  obtain ⟨kY, hkY, -⟩ := className_of_methodNamed hn
  have hinitY : kY.init = .initialized := Cond.initialized_spec (findClass_of_methodNamed hn) hkY h3
  have h : At U g.method c below := by rw [hg]; exact X.here
  have hlocals9 : W9 + (maxL + 11) + (headSpec ws rm).room.locals ≤ R.locals := hlocals
  have happ : (headSpec ws rm).appliesLoose y e.platform (U.calling g mk a) = true :=
    Spec.appliesLoose_calling (g := g) h hdg hn hkY hinitY
      (X.room_calling (g := g) (R' := (headSpec ws rm).room) hsize hmY hcY hframes (by rw [hlY]; omega) h4 h5) h1
  obtain ⟨mid, hmid⟩ := h.above
  have hfr : (U.setTop g).frames = (.java g :: mid) ++ below := by rw [State.frames_setTop' g h.top, hmid]; rfl
  obtain ⟨o, s₂, hsteps, -, hend, hq⟩ := Steps.callFree hM p X.admits X.cas X.clock (acts := []) hfr happ hPc trivial
  have hq' : vx_Q Qc XC mc ms free a (U.calling g mk a) o s₂ := hq
  rw [State.frames_setTop' g h.top] at hend
  obtain ⟨g₀, hg0⟩ := Option.isSome_iff_exists.mp h.top
  obtain ⟨r, hr⟩ := State.topJava?_eq_some.mp hg0
  have hr' : (({ U with heap := s₂.heap, slotsUsed := s₂.slotsUsed } : State).setVm s₂.vm).frames = .java g₀ :: r := hr
  rcases hq' with ⟨hqc, L, hfe, hL⟩ | ⟨q, rfl, E, ce, L, hx, hce, hcv, hcl, hW₂, hsm, hL⟩
  · obtain ⟨⟨v, rfl⟩, hW₂, e2, q2, q3, q4, q5, q6⟩ := id hfe
    have e3 : s₂ = ({ (U.calling g mk a).setFrames s₂.frames with heap := s₂.heap, slotsUsed := s₂.slotsUsed } : State).setVm s₂.vm := by
      have : s₂ = ({ s₂ with vm := (U.calling g mk a).vm } : State).setVm s₂.vm := rfl
      rw [e2] at this
      exact this
    obtain ⟨c₂, i₂, len₂, hc₂, hd₂, hf₂⟩ := hend
    have hW' : U.WarmedH s₂.vm := hW₂
    have hcc : c₂ = c := by
      have h1 : s₂.code? g.method = U.code? g.method := by
        rw [State.code?_eq, State.code?_eq, hW'.alike.method?]
      exact Option.some.inj (hc₂.symm.trans (h1.trans h.code))
    subst hcc
    have hlen : len₂ = len := by rw [hdg] at hd₂; cases hd₂; rfl
    subst hlen
    have hs₂ : s₂ = (({ U with heap := s₂.heap, slotsUsed := s₂.slotsUsed } : State).setVm s₂.vm).setTop { g with pc := g.pc + len₂, stack := v.toList ++ g.stack } := by
      refine e3.trans ?_
      rw [hf₂, State.calling_eq h.top, State.setFrames_setFrames, State.setTop_of_frames _ hr', hr]
      rfl
    have hsame : U.sameButNew ({ U with heap := s₂.heap, slotsUsed := s₂.slotsUsed } : State) L mc ms := by
      refine ⟨?_, q2, q3, q4, q5, q6⟩
      obtain ⟨t, ht, -⟩ := State.frames_cons hr
      show ({ U with heap := s₂.heap, slotsUsed := s₂.slotsUsed } : State) = { U.setFrames U.frames with heap := s₂.heap, slotsUsed := s₂.slotsUsed }
      rw [State.setFrames_self ht]
    subst hg
    refine Or.inl ⟨v, ⟨(({ U with heap := s₂.heap, slotsUsed := s₂.slotsUsed } : State).setVm s₂.vm), Ls ++ L, c0 + mc, s0 + ms⟩,
      ⟨X.admits, X.cas, X.clock, X.frames, X.room, X.hears, X.method, X.code, (X.here.setHeapUsed s₂.heap s₂.slotsUsed).setVm hW'.alike, X.tail, State.WarmedH.trans X.warmed hW', X.limits, X.bytes, X.same.trans (hsame.setVm s.vm)⟩,
      ⟨g, mk, s₂, L, rfl, rfl, hqc, rfl, hL, rfl, rfl⟩, ?_⟩
    show Steps p.tables e below _ ((({ U with heap := s₂.heap, slotsUsed := s₂.slotsUsed } : State).setVm s₂.vm).setTop { g with pc := g.pc + len₂, stack := v.toList ++ g.stack })
    rw [← hs₂]
    exact hsteps
  · obtain ⟨e2, q2, q3, q4, q5, q6⟩ := id hsm
    have e3 : s₂ = ({ (U.calling g mk a).setFrames s₂.frames with heap := s₂.heap, slotsUsed := s₂.slotsUsed } : State).setVm s₂.vm := by
      have : s₂ = ({ s₂ with vm := (U.calling g mk a).vm } : State).setVm s₂.vm := rfl
      rw [e2] at this
      exact this
    have hf₂ : s₂.frames = .throwing q :: .java g :: U.frames.tail := hend
    have hW' : U.WarmedH s₂.vm := hW₂
    have hs₂ : s₂ = ((({ U with heap := s₂.heap, slotsUsed := s₂.slotsUsed } : State).setVm s₂.vm).setTop g).pushFrame (.throwing q) := by
      refine e3.trans ?_
      rw [hf₂, State.calling_eq h.top, State.setFrames_setFrames, State.pushFrame, State.frames_setTop _ hr', State.setTop_of_frames _ hr', State.setFrames_setFrames, hr]
      rfl
    have hsame : U.sameButNew ({ U with heap := s₂.heap, slotsUsed := s₂.slotsUsed } : State) L mc ms := by
      refine ⟨?_, q2, q3, q4, q5, q6⟩
      obtain ⟨t, ht, -⟩ := State.frames_cons hr
      show ({ U with heap := s₂.heap, slotsUsed := s₂.slotsUsed } : State) = { U.setFrames U.frames with heap := s₂.heap, slotsUsed := s₂.slotsUsed }
      rw [State.setFrames_self ht]
    subst hg
    refine Or.inr ⟨q, ⟨(({ U with heap := s₂.heap, slotsUsed := s₂.slotsUsed } : State).setVm s₂.vm), Ls ++ L, c0 + mc, s0 + ms⟩,
      ⟨X.admits, X.cas, X.clock, X.frames, X.room, X.hears, X.method, X.code, (X.here.setHeapUsed s₂.heap s₂.slotsUsed).setVm hW'.alike, X.tail, State.WarmedH.trans X.warmed hW', X.limits, X.bytes, X.same.trans (hsame.setVm s.vm)⟩,
      ⟨g, mk, s₂, L, E, ce, rfl, rfl, hx, hce, hcv, hcl, rfl, hL, rfl, rfl⟩, ?_⟩
    show Steps p.tables e below _ (((({ U with heap := s₂.heap, slotsUsed := s₂.slotsUsed } : State).setVm s₂.vm).setTop g).pushFrame (.throwing q))
    rw [← hs₂]
    exact hsteps
end
variable {p : Program} {l : Launch} {e : Env} {R : Room} {s : State} {m : MethodId} {args : Array Value} {below : List Frame} {meth : Method} {c : Code} {T : State} {H : Heap} {locs : List Loc} {cells slots : Nat}
theorem vx_callVX (X : Stand p l e R s m args below meth c T locs cells slots) (hexec : p.tables.exec = Jvm.exec) {own C : String} {index : Nat} {y : MethodName} {bytes : ByteArray} {maxL : Nat} {ret : Option FieldType} {hh : List (Nat × Nat × Nat × Nat)}
    (hown : s.vm.findClass own = some m.cls) (hlink : (Cond.methodLink own index y).before args s = true) (hinst : (Cond.instanceMethod y).before args s = true) (hsel : (Cond.selects C y y).before args s = true)
    (hcode : (Cond.codeWith y bytes maxL ret hh).before args s = true) (hy : y.cls ≠ "java/lang/invoke/MethodHandle" ∧ y.cls ≠ "java/lang/invoke/VarHandle")
    {W9 : Nat} {Pre : Pt → Array Value → Prop} {Post : Pt → Array Value → Option Value → Pt → Prop} {PostX : Pt → Array Value → Addr → Pt → Prop} (hK : vx_Back l R p e below s args y 3 W9 Pre Post PostX)
    {b : Addr} {cellB : Cell} (hcell : T.heap[b]? = some cellB) (hobj : cellB.vm.isStatics = false) (hcls : s.vm.findClass C = some cellB.cls)
    {g : JFrame} (hg : g.method = m) (hsize : g.locals.size = c.maxLocals) {argsL rest : List Value} (hlen : ∀ sig, parseMethodDescriptor y.desc = some sig → argsL.length = sig.parameters.length)
    (hstack : g.stack = argsL.reverse ++ .ref b :: rest) (hW : 2 * g.monitorRoom + (rest.map fun v => v.category).sum ≤ W9) (hdg : decode c.code g.pc = .ok (.invokevirtual index, 3))
    (hpre : ∀ vm₁, s.WarmedH vm₁ → Pre ⟨T.setVm vm₁, locs, cells, slots⟩ (Value.ref b :: argsL).toArray) :
    (∃ (v : Option Value) (vm₁ : Vm) (B : Pt), s.WarmedH vm₁ ∧ Stand p l e R s m args below meth c B.U B.locs B.cells B.slots ∧ Post ⟨T.setVm vm₁, locs, cells, slots⟩ (Value.ref b :: argsL).toArray v B ∧
      ∀ target, Steps p.tables e below (B.U.setTop { g with pc := g.pc + 3, stack := v.toList ++ rest }) target → Steps p.tables e below (T.setTop g) target) ∨
    (∃ (q : Addr) (vm₁ : Vm) (B : Pt), s.WarmedH vm₁ ∧ Stand p l e R s m args below meth c B.U B.locs B.cells B.slots ∧ PostX ⟨T.setVm vm₁, locs, cells, slots⟩ (Value.ref b :: argsL).toArray q B ∧
      Steps p.tables e below (T.setTop g) ((B.U.setTop { g with stack := rest }).pushFrame (.throwing q))) := by
  obtain ⟨mk, methM, hnamed, hmethM, hstM, habM⟩ := Cond.instanceMethod_spec hinst
  obtain ⟨m8, methM', cM, hn8, hmethM', -, -, -, -, -, -, hsigM⟩ := Cond.codeWith_spec hcode
  cases Option.some.inj (hn8.symm.trans hnamed)
  cases hmethM.symm.trans hmethM'
  obtain ⟨c2, r2, m2, q1, q2, q3, q4, kP, hkP, hkPi⟩ := Cond.selects_spec hsel
  cases hcls.symm.trans q1
  cases (State.methodFound?_of_named hnamed hy).symm.trans q2
  cases hnamed.symm.trans q3
  have hselP : selectMethod e.platform s.vm cellB.cls mk = .method mk := by rw [Launch.admits_selectMethod X.admits]; exact q4
  obtain ⟨vm₁, X₁, hstep₁⟩ := X.invokevirtual hexec hown hlink hnamed hmethM hstM hkP hkPi hy (a := b) (cell := cellB) hcell
    (fun z h => by rw [h] at hobj; cases hobj) hselP hmethM habM hkP hkPi (g := g) hg (argsL := argsL) (rest := rest) (hlen _ hsigM) hstack hdg
  rcases hK m meth c ⟨T.setVm vm₁, locs, cells, slots⟩ { g with stack := rest } (.invokevirtual index) mk (Value.ref b :: argsL).toArray X₁ hg hsize hdg hW (X₁.named hnamed) (hpre vm₁ X₁.warmed) with ⟨v, B, X', hpost, hsteps⟩ | ⟨q, B, X', hpost, hsteps⟩
  · exact Or.inl ⟨v, vm₁, B, X₁.warmed, X', hpost, fun target h => hstep₁ _ fun acts => by rw [doInvoke_state]; exact hsteps.trans h⟩
  · exact Or.inr ⟨q, vm₁, B, X₁.warmed, X', hpost, hstep₁ _ fun acts => by rw [doInvoke_state]; exact hsteps⟩
theorem vx_callSX (X : Stand p l e R s m args below meth c T locs cells slots) (hexec : p.tables.exec = Jvm.exec) {own : String} {index : Nat} {y : MethodName} {bytes : ByteArray} {maxL : Nat} {ret : Option FieldType} {hh : List (Nat × Nat × Nat × Nat)}
    (hown : s.vm.findClass own = some m.cls) (hlink : (Cond.methodLink own index y).before args s = true) (hstat : (Cond.static y).before args s = true) (hinit : (Cond.initialized y.cls).before args s = true)
    (hcode : (Cond.codeWith y bytes maxL ret hh).before args s = true) (hy : y.cls ≠ "java/lang/invoke/MethodHandle" ∧ y.cls ≠ "java/lang/invoke/VarHandle")
    {W9 : Nat} {Pre : Pt → Array Value → Prop} {Post : Pt → Array Value → Option Value → Pt → Prop} {PostX : Pt → Array Value → Addr → Pt → Prop} (hK : vx_Back l R p e below s args y 3 W9 Pre Post PostX)
    {g : JFrame} (hg : g.method = m) (hsize : g.locals.size = c.maxLocals) {argsL rest : List Value} (hlen : ∀ sig, parseMethodDescriptor y.desc = some sig → argsL.length = sig.parameters.length)
    (hstack : g.stack = argsL.reverse ++ rest) (hW : 2 * g.monitorRoom + (rest.map fun v => v.category).sum ≤ W9) (hdg : decode c.code g.pc = .ok (.invokestatic index, 3))
    (hpre : ∀ vm₁, s.WarmedH vm₁ → Pre ⟨T.setVm vm₁, locs, cells, slots⟩ argsL.toArray) :
    (∃ (v : Option Value) (vm₁ : Vm) (B : Pt), s.WarmedH vm₁ ∧ Stand p l e R s m args below meth c B.U B.locs B.cells B.slots ∧ Post ⟨T.setVm vm₁, locs, cells, slots⟩ argsL.toArray v B ∧
      ∀ target, Steps p.tables e below (B.U.setTop { g with pc := g.pc + 3, stack := v.toList ++ rest }) target → Steps p.tables e below (T.setTop g) target) ∨
    (∃ (q : Addr) (vm₁ : Vm) (B : Pt), s.WarmedH vm₁ ∧ Stand p l e R s m args below meth c B.U B.locs B.cells B.slots ∧ PostX ⟨T.setVm vm₁, locs, cells, slots⟩ argsL.toArray q B ∧
      Steps p.tables e below (T.setTop g) ((B.U.setTop { g with stack := rest }).pushFrame (.throwing q))) := by
  obtain ⟨mk, methM, cM, hnamed, hmethM, -, -, -, -, -, -, hsigM⟩ := Cond.codeWith_spec hcode
  have hstatic : methM.isStatic = true := Cond.static_spec hnamed hmethM hstat
  obtain ⟨kP, hkP, -⟩ := className_of_methodNamed hnamed
  have hinitP : kP.init = .initialized := Cond.initialized_spec (findClass_of_methodNamed hnamed) hkP hinit
  obtain ⟨vm₁, X₁, hstep₁⟩ := X.invokestatic hexec hown hlink hnamed hmethM hstatic hkP hinitP hy (g := g) hg (argsL := argsL) (rest := rest) (hlen _ hsigM) hstack hdg
  rcases hK m meth c ⟨T.setVm vm₁, locs, cells, slots⟩ { g with stack := rest } (.invokestatic index) mk argsL.toArray X₁ hg hsize hdg hW (X₁.named hnamed) (hpre vm₁ X₁.warmed) with ⟨v, B, X', hpost, hsteps⟩ | ⟨q, B, X', hpost, hsteps⟩
  · exact Or.inl ⟨v, vm₁, B, X₁.warmed, X', hpost, fun target h => hstep₁ _ fun acts => by rw [doInvoke_state]; exact hsteps.trans h⟩
  · exact Or.inr ⟨q, vm₁, B, X₁.warmed, X', hpost, hstep₁ _ fun acts => by rw [doInvoke_state]; exact hsteps⟩
theorem vx_callVW (X : Stand p l e R s m args below meth c T locs cells slots) (hexec : p.tables.exec = Jvm.exec) {own C : String} {index : Nat} {y : MethodName} {bytes : ByteArray} {maxL : Nat} {ret : Option FieldType} {hh : List (Nat × Nat × Nat × Nat)}
    (hown : s.vm.findClass own = some m.cls) (hlink : (Cond.methodLink own index y).before args s = true) (hinst : (Cond.instanceMethod y).before args s = true) (hsel : (Cond.selects C y y).before args s = true)
    (hcode : (Cond.codeWith y bytes maxL ret hh).before args s = true) (hy : y.cls ≠ "java/lang/invoke/MethodHandle" ∧ y.cls ≠ "java/lang/invoke/VarHandle")
    {W9 : Nat} {Pre : Pt → Array Value → Prop} {Post : Pt → Array Value → Option Value → Pt → Prop} (hK : Back l R p e below s args y 3 W9 Pre Post)
    {b : Addr} {cellB : Cell} (hcell : T.heap[b]? = some cellB) (hobj : cellB.vm.isStatics = false) (hcls : s.vm.findClass C = some cellB.cls)
    {g : JFrame} (hg : g.method = m) (hsize : g.locals.size = c.maxLocals) {argsL rest : List Value} (hlen : ∀ sig, parseMethodDescriptor y.desc = some sig → argsL.length = sig.parameters.length)
    (hstack : g.stack = argsL.reverse ++ .ref b :: rest) (hW : 2 * g.monitorRoom + (rest.map fun v => v.category).sum ≤ W9) (hdg : decode c.code g.pc = .ok (.invokevirtual index, 3))
    (hpre : ∀ vm₁, s.WarmedH vm₁ → Pre ⟨T.setVm vm₁, locs, cells, slots⟩ (Value.ref b :: argsL).toArray) :
    ∃ (v : Option Value) (vm₁ : Vm) (B : Pt), s.WarmedH vm₁ ∧ Stand p l e R s m args below meth c B.U B.locs B.cells B.slots ∧ Post ⟨T.setVm vm₁, locs, cells, slots⟩ (Value.ref b :: argsL).toArray v B ∧
      ∀ target, Steps p.tables e below (B.U.setTop { g with pc := g.pc + 3, stack := v.toList ++ rest }) target → Steps p.tables e below (T.setTop g) target := by
  obtain ⟨mk, methM, hnamed, hmethM, hstM, habM⟩ := Cond.instanceMethod_spec hinst
  obtain ⟨m8, methM', cM, hn8, hmethM', -, -, -, -, -, -, hsigM⟩ := Cond.codeWith_spec hcode
  cases Option.some.inj (hn8.symm.trans hnamed)
  cases hmethM.symm.trans hmethM'
  obtain ⟨c2, r2, m2, q1, q2, q3, q4, kP, hkP, hkPi⟩ := Cond.selects_spec hsel
  cases hcls.symm.trans q1
  cases (State.methodFound?_of_named hnamed hy).symm.trans q2
  cases hnamed.symm.trans q3
  have hselP : selectMethod e.platform s.vm cellB.cls mk = .method mk := by rw [Launch.admits_selectMethod X.admits]; exact q4
  obtain ⟨vm₁, X₁, hstep₁⟩ := X.invokevirtual hexec hown hlink hnamed hmethM hstM hkP hkPi hy (a := b) (cell := cellB) hcell
    (fun z h => by rw [h] at hobj; cases hobj) hselP hmethM habM hkP hkPi (g := g) hg (argsL := argsL) (rest := rest) (hlen _ hsigM) hstack hdg
  obtain ⟨v, B, X', hpost, hsteps⟩ := hK m meth c ⟨T.setVm vm₁, locs, cells, slots⟩ { g with stack := rest } (.invokevirtual index) mk (Value.ref b :: argsL).toArray X₁ hg hsize hdg hW (X₁.named hnamed) (hpre vm₁ X₁.warmed)
  exact ⟨v, vm₁, B, X₁.warmed, X', hpost, fun target h => hstep₁ _ fun acts => by rw [doInvoke_state]; exact hsteps.trans h⟩
abbrev vx_CVW (R : Room) (s : State) (args : Array Value) (own C : String) (index : Nat) (y : MethodName) (bytes : ByteArray) (maxL : Nat) (ret : Option FieldType) (hh : List (Nat × Nat × Nat × Nat)) (ws : List Cond) (rm : Room) (mc ms n : Nat) : Prop :=
  (rm.cells = mc ∧ rm.slots = ms ∧ rm.frames + 1 ≤ R.frames ∧ 8 + (maxL + 11) + rm.locals ≤ R.locals ∧ (∀ w ∈ ws, ∀ (a' : Array Value) (U : State), s.WarmedH U.vm → w.before a' U = true) ∧ Cond.codeWith y bytes maxL ret hh ∈ ws) ∧
  (Cond.codeWith y bytes maxL ret hh).before args s = true ∧ (Cond.initialized y.cls).before args s = true ∧ (y.cls ≠ "java/lang/invoke/MethodHandle" ∧ y.cls ≠ "java/lang/invoke/VarHandle") ∧
  (∀ sig, parseMethodDescriptor y.desc = some sig → n = sig.parameters.length) ∧ (Cond.methodLink own index y).before args s = true ∧ (Cond.instanceMethod y).before args s = true ∧ (Cond.selects C y y).before args s = true
theorem vx_cwVW {own C : String} {index maxL mc ms : Nat} {y : MethodName} {bytes : ByteArray} {ret : Option FieldType} {hh : List (Nat × Nat × Nat × Nat)} {Ts ws ws' : List Cond} {rm : Room} (n : Nat) (ht : ∀ w ∈ Ts, w.before args s = true) (hT : GoodIn Ts (wsV own index C y ws)) (hw : ws = Cond.codeWith y bytes maxL ret hh :: ws') (hrc : rm.cells = mc) (hrs : rm.slots = ms)
    (hd : y.cls = C ∧ y.cls ≠ "java/lang/invoke/MethodHandle" ∧ y.cls ≠ "java/lang/invoke/VarHandle" ∧ (parseMethodDescriptor y.desc).map (fun d => d.parameters.length) = some n) (hR : rm.frames + 1 ≤ R.frames ∧ 8 + (maxL + 11) + rm.locals ≤ R.locals) :
    vx_CVW R s args own C index y bytes maxL ret hh ws rm mc ms n := by
  obtain ⟨hC, hd⟩ := hd
  subst hC
  have ok : ∀ w ∈ wsV own index y.cls y ws, w.before args s = true := fun w h => ht w (hT w h).1
  have hG : GoodIn Ts ws := fun w h => hT w (by unfold wsV; exact List.mem_append_right _ h)
  have hc : Cond.codeWith y bytes maxL ret hh ∈ ws := by rw [hw]; exact List.mem_cons_self
  refine ⟨⟨hrc, hrs, hR.1, hR.2, pay_in ht hG, hc⟩, ht _ (hG _ hc).1, ok _ (by simp [wsV]), ⟨hd.1, hd.2.1⟩, fun sig h => ?_, ok _ (by simp [wsV]), ok _ (by simp [wsV]), ok _ (by simp [wsV])⟩
  have h2 := hd.2.2
  rw [h] at h2
  exact (Option.some.inj h2).symm
theorem vx_runVW {y : MethodName} {bytes cc : ByteArray} {maxL nL mc ms n index : Nat} {ret : Option FieldType} {hh : List (Nat × Nat × Nat × Nat)} {ws : List Cond} {rm : Room} {Pc : Array Value → State → Prop} {Qc : Array Value → State → Outcome → State → Prop} {free : Addr → Prop} {Ts : List Cond} {own C : String} {b : Addr} {As rest : List Value} {g : JFrame}
    (S : CallFix p m c cc nL s args Ts own) (hM : Met l y ws rm Pc Qc mc ms free) (cw : vx_CVW R s args own C index y bytes maxL ret hh ws rm mc ms n) (hp : PreV s H C b Pc As)
    (hg : g.method = m) (hn : As.length = n) (hsize : g.locals.size = nL) (hstack : g.stack = As.reverse ++ .ref b :: rest) (hW : 2 * g.monitorRoom + (rest.map fun v => v.category).sum ≤ 8) (hdg : decode cc g.pc = .ok (.invokevirtual index, 3)) (hf : cells + mc ≤ R.cells ∧ slots + ms ≤ R.slots) :
    va_Run p l e R s m args below meth c H locs cells slots mc ms g rest (Qc (Value.ref b :: As).toArray) free := by
  obtain ⟨⟨hrc, hrs, hfr, hlo, hws, hcw⟩, hcode, hini, hy, hlen, hl, hin, hse⟩ := cw
  have hK : Back l R p e below s args y 3 8 (PreOf R mc ms Pc) (PostOf Qc mc ms free) := va_backW (hh := hh) (bytes := bytes) (maxL := maxL) (ret := ret) hM hp.1 hrc hrs hfr hlo hws hcw (fun a' U hW => word_at hW (Or.inl (by first | rfl | simp [Cond.onTables, Cond.keeps, Cond.steady])) hini)
  obtain ⟨hx, hb, hml, ho, -⟩ := S
  obtain ⟨-, ⟨cellB, hcB, hoB, hclB⟩, hPc⟩ := hp
  intro T hT X
  obtain ⟨v, vm₁, ⟨U', l2, c2, s2⟩, hW₁, X', ⟨g', mk, t, L, e1, e2, hq, h1, hL, h2, h3⟩, st⟩ := vx_callVW X hx (C := C) (hh := hh) (bytes := bytes) (maxL := maxL) (ret := ret) ho hl hin hse hcode hy hK (by rw [hT]; exact hcB) hoB hclB hg (hsize.trans hml.symm) (argsL := As) (rest := rest) (fun sig h => hn.trans (hlen sig h)) hstack hW (by rw [hb]; exact hdg)
    (fun vm₁ hW₁ => ⟨hf.1, hf.2, hPc (T.setVm vm₁) hT hW₁⟩)
  dsimp only [Pt.U, Pt.locs, Pt.cells, Pt.slots] at X' e1 e2 h1 h2 h3 st
  subst h1; subst h2; subst h3
  exact ⟨v, (T.setVm vm₁).calling g' mk (Value.ref b :: As).toArray, t, U', L, hT, X', hL, e1, e2, hq, st⟩
section
variable {y : MethodName} {bytes cc : ByteArray} {maxL nL mc ms n index : Nat} {ret : Option FieldType} {ws : List Cond} {rm : Room} {Pc : Array Value → State → Prop} {Qc : Array Value → State → Outcome → State → Prop} {XC : String → State → State → Prop} {free : Addr → Prop} {Ts : List Cond} {own C : String} {b : Addr} {As rest : List Value} {g : JFrame}
theorem vx_runVX {hh : List (Nat × Nat × Nat × Nat)} (S : CallFix p m c cc nL s args Ts own) (hM : vx_Met l y ws rm Pc Qc XC mc ms free) (cw : vx_CVW R s args own C index y bytes maxL ret hh ws rm mc ms n) (hp : PreV s H C b Pc As)
    (hg : g.method = m) (hn : As.length = n) (hsize : g.locals.size = nL) (hstack : g.stack = As.reverse ++ .ref b :: rest) (hW : 2 * g.monitorRoom + (rest.map fun v => v.category).sum ≤ 8) (hdg : decode cc g.pc = .ok (.invokevirtual index, 3)) (hf : cells + mc ≤ R.cells ∧ slots + ms ≤ R.slots) :
    vx_Run p l e R s m args below meth c H locs cells slots mc ms g rest (Qc (Value.ref b :: As).toArray) XC free := by
  obtain ⟨⟨hrc, hrs, hfr, hlo, hws, hcw⟩, hcode, hini, hy, hlen, hl, hin, hse⟩ := cw
  have hK : vx_Back l R p e below s args y 3 8 (PreOf R mc ms Pc) (PostOf Qc mc ms free) (vx_Post XC mc ms free) := vx_backW (hh := hh) (bytes := bytes) (maxL := maxL) (ret := ret) hM hp.1 hrc hrs hfr hlo hws hcw (fun a' U hW => word_at hW (Or.inl (by first | rfl | simp [Cond.onTables, Cond.keeps, Cond.steady])) hini)
  obtain ⟨hx, hb, hml, ho, -⟩ := S
  obtain ⟨-, ⟨cellB, hcB, hoB, hclB⟩, hPc⟩ := hp
  intro T hT X
  rcases vx_callVX X hx (C := C) (hh := hh) (bytes := bytes) (maxL := maxL) (ret := ret) ho hl hin hse hcode hy hK (by rw [hT]; exact hcB) hoB hclB hg (hsize.trans hml.symm) (argsL := As) (rest := rest) (fun sig h => hn.trans (hlen sig h)) hstack hW (by rw [hb]; exact hdg)
    (fun vm₁ hW₁ => ⟨hf.1, hf.2, hPc (T.setVm vm₁) hT hW₁⟩) with ⟨v, vm₁, ⟨U', l2, c2, s2⟩, hW₁, X', ⟨g', mk, t, L, e1, e2, hq, h1, hL, h2, h3⟩, st⟩ | ⟨q, vm₁, ⟨U', l2, c2, s2⟩, hW₁, X', ⟨g', mk, t, L, E, ce, e1, e2, hq, hce, hcv, hcl, h1, hL, h2, h3⟩, st⟩
  · dsimp only [Pt.U, Pt.locs, Pt.cells, Pt.slots] at X' e1 e2 h1 h2 h3 st
    subst h1; subst h2; subst h3
    exact Or.inl ⟨v, (T.setVm vm₁).calling g' mk (Value.ref b :: As).toArray, t, U', L, hT, X', hL, e1, e2, hq, st⟩
  · dsimp only [Pt.U, Pt.locs, Pt.cells, Pt.slots] at X' e1 e2 h1 h2 h3 st hcl
    subst h1; subst h2; subst h3
    exact Or.inr ⟨q, (T.setVm vm₁).calling g' mk (Value.ref b :: As).toArray, t, U', L, E, ce, hT, X', hL, e1, e2, hq, hce, hcv, vx_cls hW₁ hcl, st⟩
theorem vx_runSX {hh : List (Nat × Nat × Nat × Nat)} (S : CallFix p m c cc nL s args Ts own) (hM : vx_Met l y ws rm Pc Qc XC mc ms free) (cw : vx_CSW R s args own index y bytes maxL ret hh ws rm mc ms n) (hp : PreS s H Pc As)
    (hg : g.method = m) (hn : As.length = n) (hsize : g.locals.size = nL) (hstack : g.stack = As.reverse ++ rest) (hW : 2 * g.monitorRoom + (rest.map fun v => v.category).sum ≤ 8) (hdg : decode cc g.pc = .ok (.invokestatic index, 3)) (hf : cells + mc ≤ R.cells ∧ slots + ms ≤ R.slots) :
    vx_Run p l e R s m args below meth c H locs cells slots mc ms g rest (Qc As.toArray) XC free := by
  obtain ⟨⟨hrc, hrs, hfr, hlo, hws, hcw⟩, hcode, hini, hy, hlen, hl, hstt⟩ := cw
  have hK : vx_Back l R p e below s args y 3 8 (PreOf R mc ms Pc) (PostOf Qc mc ms free) (vx_Post XC mc ms free) := vx_backW (hh := hh) (bytes := bytes) (maxL := maxL) (ret := ret) hM hp.1 hrc hrs hfr hlo hws hcw (fun a' U hW => word_at hW (Or.inl (by first | rfl | simp [Cond.onTables, Cond.keeps, Cond.steady])) hini)
  obtain ⟨hx, hb, hml, ho, -⟩ := S
  intro T hT X
  rcases vx_callSX X hx (hh := hh) (bytes := bytes) (maxL := maxL) (ret := ret) ho hl hstt hini hcode hy hK hg (hsize.trans hml.symm) (argsL := As) (rest := rest) (fun sig h => hn.trans (hlen sig h)) hstack hW (by rw [hb]; exact hdg)
    (fun vm₁ hW₁ => ⟨hf.1, hf.2, hp.2 (T.setVm vm₁) hT hW₁⟩) with ⟨v, vm₁, ⟨U', l2, c2, s2⟩, hW₁, X', ⟨g', mk, t, L, e1, e2, hq, h1, hL, h2, h3⟩, st⟩ | ⟨q, vm₁, ⟨U', l2, c2, s2⟩, hW₁, X', ⟨g', mk, t, L, E, ce, e1, e2, hq, hce, hcv, hcl, h1, hL, h2, h3⟩, st⟩
  · dsimp only [Pt.U, Pt.locs, Pt.cells, Pt.slots] at X' e1 e2 h1 h2 h3 st
    subst h1; subst h2; subst h3
    exact Or.inl ⟨v, (T.setVm vm₁).calling g' mk As.toArray, t, U', L, hT, X', hL, e1, e2, hq, st⟩
  · dsimp only [Pt.U, Pt.locs, Pt.cells, Pt.slots] at X' e1 e2 h1 h2 h3 st hcl
    subst h1; subst h2; subst h3
    exact Or.inr ⟨q, (T.setVm vm₁).calling g' mk As.toArray, t, U', L, E, ce, hT, X', hL, e1, e2, hq, hce, hcv, vx_cls hW₁ hcl, st⟩
end
end VXH
theorem vx_ofWH {l : Launch} {y : MethodName} {ws ws' : List Cond} {rm : Room} {Pc : Array Value → State → Prop} {Qc : Array Value → State → Outcome → State → Prop} {XC : String → State → State → Prop} {mc ms : Nat} {free : Addr → Prop} {cc : ByteArray} {maxL : Nat} {ret : Option FieldType} {hh : List (Nat × Nat × Nat × Nat)}
    (hy : plainName y.cls = true) (hw : ws = Cond.codeWith y cc maxL ret hh :: ws')
    (body : ∀ p e s m args below meth c s₁, BodyLoose p l y (headSpec ws rm) cc maxL ret e s m args below meth c s₁ → c.maxLocals = maxL → Pc args s →
      W p l e (headSpec ws rm).room s m args below meth c s.heap [] 0 0 (vx_MQ below Qc XC args s mc ms free) (entryFrame m args maxL)) : vx_Met l y ws rm Pc Qc XC mc ms free := by
  refine MetFree.of_bodyS (code := cc) (maxLocals := maxL) (ret := ret) hy ?_ ?_
  · intro args s m h hn
    obtain ⟨m9, meth, c, hn9, h1, h2, h3, h4, -, h5, h6, -⟩ := Cond.codeWith_spec (atoms_spec (ws := ws) h _ (by rw [hw]; exact List.mem_cons_self))
    cases hn.symm.trans hn9
    exact ⟨meth, c, h1, h2, h3, h4, h5, h6⟩
  · intro p e s m args below meth c s₁ B hml hP _
    have hh0 : s₁.heap = s.heap := by rw [B.state]; rfl
    obtain ⟨t, a1, o, b1, b2, b3⟩ := body p e s m args below meth c s₁ B hml hP s₁ hh0 (Stand.of_body B)
    exact ⟨t, o, a1, b1, b2, b3⟩
/-! ===== END ===== -/
end
section
/-! ===== BEGIN printed: names, fields, word lists, decode rows ===== -/
def RX0 : String := "SharedChoices$Beginnings"
def TX0 : u_T := fun k => match k with
  | 0 => ("SharedChoices$Beginnings", "alternatives", "[J", true)
  | 1 => ("SharedChoices$Beginnings", "lengths", "[I", true)
  | _ => ("SharedChoices$Beginnings", "size", "I", false)
def tyX0 : Nat → FieldType := fun k => match k with
  | 0 => .array .long
  | 1 => .array .int
  | _ => .int
abbrev wsX00 : List Cond := u_ws RX0 TX0 3
theorem nmX0 : ∀ a, a < 3 → ∀ b, b < 3 → a ≠ b → (TX0 a).2.1 ≠ (TX0 b).2.1 := by decide +kernel
theorem tyX0_ok : ∀ k, k < 3 → parseFieldDescriptor (TX0 k).2.2.1 = some (tyX0 k) := by decide +kernel
abbrev cX0_init : ByteArray := prog_2_method_1_code
def yX0_init : MethodName := ⟨RX0, "<init>", "()V"⟩
abbrev cX0_isEmpty : ByteArray := prog_2_method_2_code
def yX0_isEmpty : MethodName := ⟨RX0, "isEmpty", "()Z"⟩
abbrev cX0_forget : ByteArray := prog_2_method_3_code
def yX0_forget : MethodName := ⟨RX0, "forget", "()V"⟩
abbrev cX0_put : ByteArray := prog_2_method_4_code
def yX0_put : MethodName := ⟨RX0, "put", "(JI)V"⟩
abbrev cX0_lastAlternatives : ByteArray := prog_2_method_5_code
def yX0_lastAlternatives : MethodName := ⟨RX0, "lastAlternatives", "()J"⟩
abbrev cX0_lastLength : ByteArray := prog_2_method_6_code
def yX0_lastLength : MethodName := ⟨RX0, "lastLength", "()I"⟩
abbrev cX0_dropLast : ByteArray := prog_2_method_7_code
def yX0_dropLast : MethodName := ⟨RX0, "dropLast", "()V"⟩
abbrev cX0_takeAllOf : ByteArray := prog_2_method_8_code
def yX0_takeAllOf : MethodName := ⟨RX0, "takeAllOf", "(LSharedChoices$Beginnings;)V"⟩
def RX1 : String := "SharedChoices$Latest"
def TX1 : u_T := fun k => match k with
  | 0 => ("SharedChoices$Latest", "tokens", "LSharedChoices$Tokens;", true)
  | 1 => ("SharedChoices$Latest", "alternatives", "J", false)
  | 2 => ("SharedChoices$Latest", "decisions", "I", false)
  | _ => ("SharedChoices$Latest", "labour", "I", false)
def tyX1 : Nat → FieldType := fun k => match k with
  | 0 => .object "SharedChoices$Tokens"
  | 1 => .long
  | 2 => .int
  | _ => .int
abbrev wsX10 : List Cond := u_ws RX1 TX1 4
theorem nmX1 : ∀ a, a < 4 → ∀ b, b < 4 → a ≠ b → (TX1 a).2.1 ≠ (TX1 b).2.1 := by decide +kernel
theorem tyX1_ok : ∀ k, k < 4 → parseFieldDescriptor (TX1 k).2.2.1 = some (tyX1 k) := by decide +kernel
abbrev cX1_init : ByteArray := prog_3_method_1_code
def yX1_init : MethodName := ⟨RX1, "<init>", "()V"⟩
abbrev cX1_tokens : ByteArray := prog_3_method_2_code
def yX1_tokens : MethodName := ⟨RX1, "tokens", "()LSharedChoices$Tokens;"⟩
abbrev cX1_decisions : ByteArray := prog_3_method_3_code
def yX1_decisions : MethodName := ⟨RX1, "decisions", "()I"⟩
abbrev cX1_labour : ByteArray := prog_3_method_4_code
def yX1_labour : MethodName := ⟨RX1, "labour", "()I"⟩
abbrev cX1_alternativeAt : ByteArray := prog_3_method_5_code
def yX1_alternativeAt : MethodName := ⟨RX1, "alternativeAt", "(I)I"⟩
abbrev cX1_forget : ByteArray := prog_3_method_6_code
def yX1_forget : MethodName := ⟨RX1, "forget", "()V"⟩
abbrev cX1_keep : ByteArray := prog_3_method_7_code
def yX1_keep : MethodName := ⟨RX1, "keep", "(JLSharedChoices$Work;)V"⟩
def RX2 : String := "SharedChoices$Nodes"
def TX2 : u_T := fun k => match k with
  | 0 => ("SharedChoices$Nodes", "sorts", "[I", true)
  | 1 => ("SharedChoices$Nodes", "firsts", "[I", true)
  | 2 => ("SharedChoices$Nodes", "seconds", "[I", true)
  | 3 => ("SharedChoices$Nodes", "thirds", "[I", true)
  | 4 => ("SharedChoices$Nodes", "numbers", "[J", true)
  | _ => ("SharedChoices$Nodes", "size", "I", false)
def tyX2 : Nat → FieldType := fun k => match k with
  | 0 => .array .int
  | 1 => .array .int
  | 2 => .array .int
  | 3 => .array .int
  | 4 => .array .long
  | _ => .int
abbrev wsX20 : List Cond := u_ws RX2 TX2 6
theorem nmX2 : ∀ a, a < 6 → ∀ b, b < 6 → a ≠ b → (TX2 a).2.1 ≠ (TX2 b).2.1 := by decide +kernel
theorem tyX2_ok : ∀ k, k < 6 → parseFieldDescriptor (TX2 k).2.2.1 = some (tyX2 k) := by decide +kernel
abbrev cX2_init : ByteArray := prog_4_method_1_code
def yX2_init : MethodName := ⟨RX2, "<init>", "()V"⟩
abbrev cX2_size : ByteArray := prog_4_method_2_code
def yX2_size : MethodName := ⟨RX2, "size", "()I"⟩
abbrev cX2_has : ByteArray := prog_4_method_3_code
def yX2_has : MethodName := ⟨RX2, "has", "(I)Z"⟩
abbrev cX2_add : ByteArray := prog_4_method_4_code
def yX2_add : MethodName := ⟨RX2, "add", "(IIII)I"⟩
abbrev cX2_addNumber : ByteArray := prog_4_method_5_code
def yX2_addNumber : MethodName := ⟨RX2, "addNumber", "(J)I"⟩
abbrev cX2_sortOf : ByteArray := prog_4_method_6_code
def yX2_sortOf : MethodName := ⟨RX2, "sortOf", "(I)I"⟩
abbrev cX2_firstOf : ByteArray := prog_4_method_7_code
def yX2_firstOf : MethodName := ⟨RX2, "firstOf", "(I)I"⟩
abbrev cX2_secondOf : ByteArray := prog_4_method_8_code
def yX2_secondOf : MethodName := ⟨RX2, "secondOf", "(I)I"⟩
abbrev cX2_thirdOf : ByteArray := prog_4_method_9_code
def yX2_thirdOf : MethodName := ⟨RX2, "thirdOf", "(I)I"⟩
abbrev cX2_numberOf : ByteArray := prog_4_method_10_code
def yX2_numberOf : MethodName := ⟨RX2, "numberOf", "(I)J"⟩
abbrev cX2_forget : ByteArray := prog_4_method_11_code
def yX2_forget : MethodName := ⟨RX2, "forget", "()V"⟩
def RX3 : String := "SharedChoices$Search"
def TX3 : u_T := fun k => match k with
  | 0 => ("SharedChoices$Search", "work", "LSharedChoices$Work;", true)
  | 1 => ("SharedChoices$Search", "latest", "LSharedChoices$Latest;", true)
  | 2 => ("SharedChoices$Search", "pending", "LSharedChoices$Beginnings;", true)
  | 3 => ("SharedChoices$Search", "later", "LSharedChoices$Beginnings;", true)
  | 4 => ("SharedChoices$Search", "there", "Z", false)
  | 5 => ("SharedChoices$Search", "spent", "Z", false)
  | 6 => ("SharedChoices$Search", "goal", "I", false)
  | 7 => ("SharedChoices$Search", "mode", "I", false)
  | 8 => ("SharedChoices$Search", "bound", "I", false)
  | 9 => ("SharedChoices$Search", "windowEnd", "I", false)
  | 10 => ("SharedChoices$Search", "places", "I", false)
  | 11 => ("SharedChoices$Search", "values", "I", false)
  | 12 => ("SharedChoices$Search", "failed", "I", false)
  | 13 => ("SharedChoices$Search", "givenUp", "I", false)
  | _ => ("SharedChoices$Search", "cut", "I", false)
def tyX3 : Nat → FieldType := fun k => match k with
  | 0 => .object "SharedChoices$Work"
  | 1 => .object "SharedChoices$Latest"
  | 2 => .object "SharedChoices$Beginnings"
  | 3 => .object "SharedChoices$Beginnings"
  | 4 => .boolean
  | 5 => .boolean
  | 6 => .int
  | 7 => .int
  | 8 => .int
  | 9 => .int
  | 10 => .int
  | 11 => .int
  | 12 => .int
  | 13 => .int
  | _ => .int
abbrev wsX30 : List Cond := u_ws RX3 TX3 15
theorem nmX3 : ∀ a, a < 15 → ∀ b, b < 15 → a ≠ b → (TX3 a).2.1 ≠ (TX3 b).2.1 := by decide +kernel
theorem tyX3_ok : ∀ k, k < 15 → parseFieldDescriptor (TX3 k).2.2.1 = some (tyX3 k) := by decide +kernel
abbrev cX3_init : ByteArray := prog_5_method_1_code
def yX3_init : MethodName := ⟨RX3, "<init>", "(LSharedChoices$Nodes;)V"⟩
abbrev cX3_isThere : ByteArray := prog_5_method_2_code
def yX3_isThere : MethodName := ⟨RX3, "isThere", "()Z"⟩
abbrev cX3_latest : ByteArray := prog_5_method_3_code
def yX3_latest : MethodName := ⟨RX3, "latest", "()LSharedChoices$Latest;"⟩
abbrev cX3_places : ByteArray := prog_5_method_4_code
def yX3_places : MethodName := ⟨RX3, "places", "()I"⟩
abbrev cX3_values : ByteArray := prog_5_method_5_code
def yX3_values : MethodName := ⟨RX3, "values", "()I"⟩
abbrev cX3_failed : ByteArray := prog_5_method_6_code
def yX3_failed : MethodName := ⟨RX3, "failed", "()I"⟩
abbrev cX3_givenUp : ByteArray := prog_5_method_7_code
def yX3_givenUp : MethodName := ⟨RX3, "givenUp", "()I"⟩
abbrev cX3_cut : ByteArray := prog_5_method_8_code
def yX3_cut : MethodName := ⟨RX3, "cut", "()I"⟩
abbrev cX3_forget : ByteArray := prog_5_method_9_code
def yX3_forget : MethodName := ⟨RX3, "forget", "()V"⟩
abbrev cX3_begin : ByteArray := prog_5_method_10_code
def yX3_begin : MethodName := ⟨RX3, "begin", "(III)V"⟩
abbrev cX3_goOn : ByteArray := prog_5_method_11_code
def yX3_goOn : MethodName := ⟨RX3, "goOn", "()I"⟩
abbrev cX3_openNextWindow : ByteArray := prog_5_method_12_code
def yX3_openNextWindow : MethodName := ⟨RX3, "openNextWindow", "()V"⟩
abbrev cX3_comesToValue : ByteArray := prog_5_method_13_code
def yX3_comesToValue : MethodName := ⟨RX3, "comesToValue", "()Z"⟩
abbrev cX3_mostDecisions : ByteArray := prog_5_method_14_code
def yX3_mostDecisions : MethodName := ⟨RX3, "mostDecisions", "()I"⟩
abbrev cX3_putOtherAlternatives : ByteArray := prog_5_method_15_code
def yX3_putOtherAlternatives : MethodName := ⟨RX3, "putOtherAlternatives", "(JI)V"⟩
abbrev cX3_endsAsValue : ByteArray := prog_5_method_16_code
def yX3_endsAsValue : MethodName := ⟨RX3, "endsAsValue", "(IJ)Z"⟩
abbrev cX3_stopAtDecision : ByteArray := prog_5_method_17_code
def yX3_stopAtDecision : MethodName := ⟨RX3, "stopAtDecision", "(JI)V"⟩
def RX4 : String := "SharedChoices$Tokens"
def TX4 : u_T := fun k => match k with
  | 0 => ("SharedChoices$Tokens", "limit", "I", true)
  | 1 => ("SharedChoices$Tokens", "kinds", "[I", false)
  | 2 => ("SharedChoices$Tokens", "numbers", "[J", false)
  | _ => ("SharedChoices$Tokens", "size", "I", false)
def tyX4 : Nat → FieldType := fun k => match k with
  | 0 => .int
  | 1 => .array .int
  | 2 => .array .long
  | _ => .int
abbrev wsX40 : List Cond := u_ws RX4 TX4 4
theorem nmX4 : ∀ a, a < 4 → ∀ b, b < 4 → a ≠ b → (TX4 a).2.1 ≠ (TX4 b).2.1 := by decide +kernel
theorem tyX4_ok : ∀ k, k < 4 → parseFieldDescriptor (TX4 k).2.2.1 = some (tyX4 k) := by decide +kernel
abbrev cX4_init : ByteArray := prog_6_method_1_code
def yX4_init : MethodName := ⟨RX4, "<init>", "(I)V"⟩
abbrev cX4_size : ByteArray := prog_6_method_2_code
def yX4_size : MethodName := ⟨RX4, "size", "()I"⟩
abbrev cX4_has : ByteArray := prog_6_method_3_code
def yX4_has : MethodName := ⟨RX4, "has", "(I)Z"⟩
abbrev cX4_kindAt : ByteArray := prog_6_method_4_code
def yX4_kindAt : MethodName := ⟨RX4, "kindAt", "(I)I"⟩
abbrev cX4_numberAt : ByteArray := prog_6_method_5_code
def yX4_numberAt : MethodName := ⟨RX4, "numberAt", "(I)J"⟩
abbrev cX4_putNumber : ByteArray := prog_6_method_6_code
def yX4_putNumber : MethodName := ⟨RX4, "putNumber", "(IJ)V"⟩
abbrev cX4_add : ByteArray := prog_6_method_7_code
def yX4_add : MethodName := ⟨RX4, "add", "(IJ)Z"⟩
abbrev cX4_addFrom : ByteArray := prog_6_method_8_code
def yX4_addFrom : MethodName := ⟨RX4, "addFrom", "(LSharedChoices$Tokens;II)Z"⟩
abbrev cX4_cutTo : ByteArray := prog_6_method_9_code
def yX4_cutTo : MethodName := ⟨RX4, "cutTo", "(I)V"⟩
abbrev cX4_makeRoom : ByteArray := prog_6_method_10_code
def yX4_makeRoom : MethodName := ⟨RX4, "makeRoom", "(I)Z"⟩
def RX5 : String := "SharedChoices$Way"
def TX5 : u_T := fun k => match k with
  | 0 => ("SharedChoices$Way", "around", "LSharedChoices$Way;", true)
  | 1 => ("SharedChoices$Way", "inner", "LSharedChoices$Way;", false)
  | 2 => ("SharedChoices$Way", "firstInside", "I", false)
  | 3 => ("SharedChoices$Way", "kinds", "[I", true)
  | 4 => ("SharedChoices$Way", "numbers", "[J", true)
  | 5 => ("SharedChoices$Way", "lengths", "[I", true)
  | 6 => ("SharedChoices$Way", "alternatives", "J", false)
  | 7 => ("SharedChoices$Way", "decisions", "I", false)
  | 8 => ("SharedChoices$Way", "mostDecisions", "I", false)
  | 9 => ("SharedChoices$Way", "tokens", "LSharedChoices$Tokens;", true)
  | 10 => ("SharedChoices$Way", "valueStart", "I", false)
  | _ => ("SharedChoices$Way", "listed", "I", false)
def tyX5 : Nat → FieldType := fun k => match k with
  | 0 => .object "SharedChoices$Way"
  | 1 => .object "SharedChoices$Way"
  | 2 => .int
  | 3 => .array .int
  | 4 => .array .long
  | 5 => .array .int
  | 6 => .long
  | 7 => .int
  | 8 => .int
  | 9 => .object "SharedChoices$Tokens"
  | 10 => .int
  | _ => .int
abbrev wsX50 : List Cond := u_ws RX5 TX5 12
theorem nmX5 : ∀ a, a < 12 → ∀ b, b < 12 → a ≠ b → (TX5 a).2.1 ≠ (TX5 b).2.1 := by decide +kernel
theorem tyX5_ok : ∀ k, k < 12 → parseFieldDescriptor (TX5 k).2.2.1 = some (tyX5 k) := by decide +kernel
abbrev cX5_init : ByteArray := prog_7_method_1_code
def yX5_init : MethodName := ⟨RX5, "<init>", "(LSharedChoices$Way;)V"⟩
abbrev cX5_around : ByteArray := prog_7_method_2_code
def yX5_around : MethodName := ⟨RX5, "around", "()LSharedChoices$Way;"⟩
abbrev cX5_inner : ByteArray := prog_7_method_3_code
def yX5_inner : MethodName := ⟨RX5, "inner", "()LSharedChoices$Way;"⟩
abbrev cX5_nest : ByteArray := prog_7_method_4_code
def yX5_nest : MethodName := ⟨RX5, "nest", "(I)V"⟩
abbrev cX5_tokens : ByteArray := prog_7_method_5_code
def yX5_tokens : MethodName := ⟨RX5, "tokens", "()LSharedChoices$Tokens;"⟩
abbrev cX5_decisions : ByteArray := prog_7_method_6_code
def yX5_decisions : MethodName := ⟨RX5, "decisions", "()I"⟩
abbrev cX5_isInside : ByteArray := prog_7_method_8_code
def yX5_isInside : MethodName := ⟨RX5, "isInside", "(I)Z"⟩
abbrev cX5_beginOfSearch : ByteArray := prog_7_method_9_code
def yX5_beginOfSearch : MethodName := ⟨RX5, "beginOfSearch", "(JI)V"⟩
abbrev cX5_beginOfSet : ByteArray := prog_7_method_10_code
def yX5_beginOfSet : MethodName := ⟨RX5, "beginOfSet", "(I)V"⟩
abbrev cX5_begin : ByteArray := prog_7_method_11_code
def yX5_begin : MethodName := ⟨RX5, "begin", "()V"⟩
abbrev cX5_listValue : ByteArray := prog_7_method_12_code
def yX5_listValue : MethodName := ⟨RX5, "listValue", "()V"⟩
abbrev cX5_dropValue : ByteArray := prog_7_method_13_code
def yX5_dropValue : MethodName := ⟨RX5, "dropValue", "()V"⟩
abbrev cX5_turn : ByteArray := prog_7_method_14_code
def yX5_turn : MethodName := ⟨RX5, "turn", "()Z"⟩
abbrev cX5_decide : ByteArray := prog_7_method_15_code
def yX5_decide : MethodName := ⟨RX5, "decide", "()I"⟩
abbrev cX5_hasValue : ByteArray := prog_7_method_16_code
def yX5_hasValue : MethodName := ⟨RX5, "hasValue", "(I)Z"⟩
abbrev cX5_kindOf : ByteArray := prog_7_method_17_code
def yX5_kindOf : MethodName := ⟨RX5, "kindOf", "(I)I"⟩
abbrev cX5_numberOf : ByteArray := prog_7_method_18_code
def yX5_numberOf : MethodName := ⟨RX5, "numberOf", "(I)J"⟩
abbrev cX5_lengthOf : ByteArray := prog_7_method_19_code
def yX5_lengthOf : MethodName := ⟨RX5, "lengthOf", "(I)I"⟩
abbrev cX5_keep : ByteArray := prog_7_method_20_code
def yX5_keep : MethodName := ⟨RX5, "keep", "(IIJI)V"⟩
abbrev cX5_tell : ByteArray := prog_7_method_21_code
def yX5_tell : MethodName := ⟨RX5, "tell", "(IJ)Z"⟩
abbrev cX5_tellAll : ByteArray := prog_7_method_22_code
def yX5_tellAll : MethodName := ⟨RX5, "tellAll", "(LSharedChoices$Tokens;II)Z"⟩
def RX6 : String := "SharedChoices$Work"
def TX6 : u_T := fun k => match k with
  | 0 => ("SharedChoices$Work", "nodes", "LSharedChoices$Nodes;", true)
  | 1 => ("SharedChoices$Work", "outermost", "LSharedChoices$Way;", true)
  | 2 => ("SharedChoices$Work", "current", "LSharedChoices$Way;", false)
  | 3 => ("SharedChoices$Work", "labour", "I", false)
  | 4 => ("SharedChoices$Work", "lists", "LSharedChoices$Tokens;", true)
  | 5 => ("SharedChoices$Work", "gotKind", "I", false)
  | 6 => ("SharedChoices$Work", "got", "J", false)
  | 7 => ("SharedChoices$Work", "gotLength", "I", false)
  | 8 => ("SharedChoices$Work", "neededNode", "I", false)
  | _ => ("SharedChoices$Work", "neededIn", "LSharedChoices$Way;", false)
def tyX6 : Nat → FieldType := fun k => match k with
  | 0 => .object "SharedChoices$Nodes"
  | 1 => .object "SharedChoices$Way"
  | 2 => .object "SharedChoices$Way"
  | 3 => .int
  | 4 => .object "SharedChoices$Tokens"
  | 5 => .int
  | 6 => .long
  | 7 => .int
  | 8 => .int
  | _ => .object "SharedChoices$Way"
abbrev wsX60 : List Cond := u_ws RX6 TX6 10
theorem nmX6 : ∀ a, a < 10 → ∀ b, b < 10 → a ≠ b → (TX6 a).2.1 ≠ (TX6 b).2.1 := by decide +kernel
theorem tyX6_ok : ∀ k, k < 10 → parseFieldDescriptor (TX6 k).2.2.1 = some (tyX6 k) := by decide +kernel
abbrev cX6_init : ByteArray := prog_8_method_1_code
def yX6_init : MethodName := ⟨RX6, "<init>", "(LSharedChoices$Nodes;)V"⟩
abbrev cX6_labour : ByteArray := prog_8_method_2_code
def yX6_labour : MethodName := ⟨RX6, "labour", "()I"⟩
abbrev cX6_decisions : ByteArray := prog_8_method_3_code
def yX6_decisions : MethodName := ⟨RX6, "decisions", "()I"⟩
abbrev cX6_tokens : ByteArray := prog_8_method_4_code
def yX6_tokens : MethodName := ⟨RX6, "tokens", "()LSharedChoices$Tokens;"⟩
abbrev cX6_goWay : ByteArray := prog_8_method_5_code
def yX6_goWay : MethodName := ⟨RX6, "goWay", "(IJI)I"⟩
abbrev cX6_tellInFull : ByteArray := prog_8_method_6_code
def yX6_tellInFull : MethodName := ⟨RX6, "tellInFull", "(II)I"⟩
abbrev cX6_valueOf : ByteArray := prog_8_method_7_code
def yX6_valueOf : MethodName := ⟨RX6, "valueOf", "(II)I"⟩
abbrev cX6_homeOf : ByteArray := prog_8_method_8_code
def yX6_homeOf : MethodName := ⟨RX6, "homeOf", "(I)LSharedChoices$Way;"⟩
abbrev cX6_take : ByteArray := prog_8_method_9_code
def yX6_take : MethodName := ⟨RX6, "take", "(IJI)I"⟩
abbrev cX6_takeNumber : ByteArray := prog_8_method_10_code
def yX6_takeNumber : MethodName := ⟨RX6, "takeNumber", "(J)I"⟩
abbrev cX6_workOut : ByteArray := prog_8_method_11_code
def yX6_workOut : MethodName := ⟨RX6, "workOut", "(I)I"⟩
abbrev cX6_workChoice : ByteArray := prog_8_method_12_code
def yX6_workChoice : MethodName := ⟨RX6, "workChoice", "(I)I"⟩
abbrev cX6_workPart : ByteArray := prog_8_method_13_code
def yX6_workPart : MethodName := ⟨RX6, "workPart", "(IZ)I"⟩
abbrev cX6_workOp : ByteArray := prog_8_method_14_code
def yX6_workOp : MethodName := ⟨RX6, "workOp", "(I)I"⟩
abbrev cX6_reckon : ByteArray := prog_8_method_15_code
def yX6_reckon : MethodName := ⟨RX6, "reckon", "(IJJ)I"⟩
abbrev cX6_workWhen : ByteArray := prog_8_method_16_code
def yX6_workWhen : MethodName := ⟨RX6, "workWhen", "(I)I"⟩
abbrev cX6_workFold : ByteArray := prog_8_method_17_code
def yX6_workFold : MethodName := ⟨RX6, "workFold", "(I)I"⟩
abbrev cX6_foldNumbers : ByteArray := prog_8_method_18_code
def yX6_foldNumbers : MethodName := ⟨RX6, "foldNumbers", "(III)I"⟩
abbrev cX6_workSet : ByteArray := prog_8_method_19_code
def yX6_workSet : MethodName := ⟨RX6, "workSet", "(I)I"⟩
abbrev cX6_goWaysOfSet : ByteArray := prog_8_method_20_code
def yX6_goWaysOfSet : MethodName := ⟨RX6, "goWaysOfSet", "(ILSharedChoices$Way;I)I"⟩
abbrev cX6_takeList : ByteArray := prog_8_method_21_code
def yX6_takeList : MethodName := ⟨RX6, "takeList", "(LSharedChoices$Tokens;)I"⟩
def RX7 : String := "SharedChoices"
def TX7 : u_T := fun k => match k with
  | 0 => ("SharedChoices", "nodes", "LSharedChoices$Nodes;", true)
  | _ => ("SharedChoices", "search", "LSharedChoices$Search;", true)
def tyX7 : Nat → FieldType := fun k => match k with
  | 0 => .object "SharedChoices$Nodes"
  | _ => .object "SharedChoices$Search"
abbrev wsX70 : List Cond := u_ws RX7 TX7 2
theorem nmX7 : ∀ a, a < 2 → ∀ b, b < 2 → a ≠ b → (TX7 a).2.1 ≠ (TX7 b).2.1 := by decide +kernel
theorem tyX7_ok : ∀ k, k < 2 → parseFieldDescriptor (TX7 k).2.2.1 = some (tyX7 k) := by decide +kernel
abbrev cX7_init : ByteArray := prog_1_method_1_code
def yX7_init : MethodName := ⟨RX7, "<init>", "()V"⟩
abbrev cX7_number : ByteArray := prog_1_method_2_code
def yX7_number : MethodName := ⟨RX7, "number", "(J)I"⟩
abbrev cX7_choice : ByteArray := prog_1_method_3_code
def yX7_choice : MethodName := ⟨RX7, "choice", "(II)I"⟩
abbrev cX7_fail : ByteArray := prog_1_method_4_code
def yX7_fail : MethodName := ⟨RX7, "fail", "()I"⟩
abbrev cX7_pair : ByteArray := prog_1_method_5_code
def yX7_pair : MethodName := ⟨RX7, "pair", "(II)I"⟩
abbrev cX7_part : ByteArray := prog_1_method_6_code
def yX7_part : MethodName := ⟨RX7, "part", "(IZ)I"⟩
abbrev cX7_op : ByteArray := prog_1_method_7_code
def yX7_op : MethodName := ⟨RX7, "op", "(III)I"⟩
abbrev cX7_when : ByteArray := prog_1_method_8_code
def yX7_when : MethodName := ⟨RX7, "when", "(III)I"⟩
abbrev cX7_set : ByteArray := prog_1_method_9_code
def yX7_set : MethodName := ⟨RX7, "set", "(II)I"⟩
abbrev cX7_fold : ByteArray := prog_1_method_10_code
def yX7_fold : MethodName := ⟨RX7, "fold", "(II)I"⟩
abbrev cX7_clear : ByteArray := prog_1_method_11_code
def yX7_clear : MethodName := ⟨RX7, "clear", "()I"⟩
abbrev cX7_node : ByteArray := prog_1_method_12_code
def yX7_node : MethodName := ⟨RX7, "node", "(II)I"⟩
abbrev cX7_ask : ByteArray := prog_1_method_13_code
def yX7_ask : MethodName := ⟨RX7, "ask", "(III)V"⟩
abbrev cX7_next : ByteArray := prog_1_method_14_code
def yX7_next : MethodName := ⟨RX7, "next", "()I"⟩
abbrev cX7_decision : ByteArray := prog_1_method_15_code
def yX7_decision : MethodName := ⟨RX7, "decision", "(I)I"⟩
abbrev cX7_token : ByteArray := prog_1_method_16_code
def yX7_token : MethodName := ⟨RX7, "token", "(II)J"⟩
abbrev cX7_count : ByteArray := prog_1_method_17_code
def yX7_count : MethodName := ⟨RX7, "count", "(I)I"⟩
abbrev cX7_demand : ByteArray := prog_1_method_18_code
def yX7_demand : MethodName := ⟨RX7, "demand", "(Z)V"⟩
def RX8 : String := "SharedChoicesModel"
def TX8 : u_T := fun k => match k with
  | 0 => ("SharedChoicesModel", "thrown", "I", false)
  | 1 => ("SharedChoicesModel", "nodes", "I", false)
  | 2 => ("SharedChoicesModel", "sorts", "[I", true)
  | 3 => ("SharedChoicesModel", "words", "[J", true)
  | 4 => ("SharedChoicesModel", "ones", "[I", true)
  | 5 => ("SharedChoicesModel", "others", "[I", true)
  | 6 => ("SharedChoicesModel", "thirds", "[I", true)
  | 7 => ("SharedChoicesModel", "level", "I", false)
  | 8 => ("SharedChoicesModel", "inside", "[I", true)
  | 9 => ("SharedChoicesModel", "kinds", "[I", true)
  | 10 => ("SharedChoicesModel", "numbers", "[J", true)
  | 11 => ("SharedChoicesModel", "firsts", "[I", true)
  | 12 => ("SharedChoicesModel", "seconds", "[I", true)
  | 13 => ("SharedChoicesModel", "heapKinds", "[I", false)
  | 14 => ("SharedChoicesModel", "heap", "[J", false)
  | 15 => ("SharedChoicesModel", "heapTop", "I", false)
  | 16 => ("SharedChoicesModel", "alternatives", "[I", true)
  | 17 => ("SharedChoicesModel", "told", "[I", true)
  | 18 => ("SharedChoicesModel", "come", "[I", true)
  | 19 => ("SharedChoicesModel", "fullKinds", "[I", true)
  | 20 => ("SharedChoicesModel", "full", "[J", true)
  | 21 => ("SharedChoicesModel", "fullMany", "[I", true)
  | 22 => ("SharedChoicesModel", "listKinds", "[I", true)
  | 23 => ("SharedChoicesModel", "list", "[J", true)
  | 24 => ("SharedChoicesModel", "listMany", "[I", true)
  | 25 => ("SharedChoicesModel", "labour", "I", false)
  | 26 => ("SharedChoicesModel", "stop", "I", false)
  | 27 => ("SharedChoicesModel", "wanted", "I", false)
  | 28 => ("SharedChoicesModel", "wantedLevel", "I", false)
  | 29 => ("SharedChoicesModel", "searches", "Z", false)
  | 30 => ("SharedChoicesModel", "spent", "Z", false)
  | 31 => ("SharedChoicesModel", "goal", "I", false)
  | 32 => ("SharedChoicesModel", "mode", "I", false)
  | 33 => ("SharedChoicesModel", "bound", "I", false)
  | 34 => ("SharedChoicesModel", "window", "I", false)
  | 35 => ("SharedChoicesModel", "openRow", "[I", true)
  | 36 => ("SharedChoicesModel", "openSize", "[I", true)
  | 37 => ("SharedChoicesModel", "open", "I", false)
  | 38 => ("SharedChoicesModel", "laterRow", "[I", true)
  | 39 => ("SharedChoicesModel", "laterSize", "[I", true)
  | 40 => ("SharedChoicesModel", "later", "I", false)
  | 41 => ("SharedChoicesModel", "laterGone", "I", false)
  | 42 => ("SharedChoicesModel", "places", "I", false)
  | 43 => ("SharedChoicesModel", "values", "I", false)
  | 44 => ("SharedChoicesModel", "failures", "I", false)
  | 45 => ("SharedChoicesModel", "lost", "I", false)
  | 46 => ("SharedChoicesModel", "cuts", "I", false)
  | 47 => ("SharedChoicesModel", "valueLabour", "I", false)
  | 48 => ("SharedChoicesModel", "valueDecisions", "I", false)
  | 49 => ("SharedChoicesModel", "valueRow", "[I", true)
  | 50 => ("SharedChoicesModel", "valueTokens", "I", false)
  | 51 => ("SharedChoicesModel", "valueKinds", "[I", true)
  | _ => ("SharedChoicesModel", "valueNumbers", "[J", true)
def tyX8 : Nat → FieldType := fun k => match k with
  | 0 => .int
  | 1 => .int
  | 2 => .array .int
  | 3 => .array .long
  | 4 => .array .int
  | 5 => .array .int
  | 6 => .array .int
  | 7 => .int
  | 8 => .array .int
  | 9 => .array .int
  | 10 => .array .long
  | 11 => .array .int
  | 12 => .array .int
  | 13 => .array .int
  | 14 => .array .long
  | 15 => .int
  | 16 => .array .int
  | 17 => .array .int
  | 18 => .array .int
  | 19 => .array .int
  | 20 => .array .long
  | 21 => .array .int
  | 22 => .array .int
  | 23 => .array .long
  | 24 => .array .int
  | 25 => .int
  | 26 => .int
  | 27 => .int
  | 28 => .int
  | 29 => .boolean
  | 30 => .boolean
  | 31 => .int
  | 32 => .int
  | 33 => .int
  | 34 => .int
  | 35 => .array .int
  | 36 => .array .int
  | 37 => .int
  | 38 => .array .int
  | 39 => .array .int
  | 40 => .int
  | 41 => .int
  | 42 => .int
  | 43 => .int
  | 44 => .int
  | 45 => .int
  | 46 => .int
  | 47 => .int
  | 48 => .int
  | 49 => .array .int
  | 50 => .int
  | 51 => .array .int
  | _ => .array .long
abbrev wsX80 : List Cond := u_ws RX8 TX8 53
theorem nmX8 : ∀ a, a < 53 → ∀ b, b < 53 → a ≠ b → (TX8 a).2.1 ≠ (TX8 b).2.1 := by decide +kernel
theorem tyX8_ok : ∀ k, k < 53 → parseFieldDescriptor (TX8 k).2.2.1 = some (tyX8 k) := by decide +kernel
abbrev cX8_init : ByteArray := prog_10_method_1_code
def yX8_init : MethodName := ⟨RX8, "<init>", "()V"⟩
abbrev cX8_thrown : ByteArray := prog_10_method_2_code
def yX8_thrown : MethodName := ⟨RX8, "thrown", "()I"⟩
abbrev cX8_isNode : ByteArray := prog_10_method_3_code
def yX8_isNode : MethodName := ⟨RX8, "isNode", "(I)Z"⟩
abbrev cX8_make : ByteArray := prog_10_method_4_code
def yX8_make : MethodName := ⟨RX8, "make", "(IJIII)I"⟩
abbrev cX8_refused : ByteArray := prog_10_method_5_code
def yX8_refused : MethodName := ⟨RX8, "refused", "(Z)Z"⟩
abbrev cX8_number : ByteArray := prog_10_method_6_code
def yX8_number : MethodName := ⟨RX8, "number", "(J)I"⟩
abbrev cX8_choice : ByteArray := prog_10_method_7_code
def yX8_choice : MethodName := ⟨RX8, "choice", "(II)I"⟩
abbrev cX8_fail : ByteArray := prog_10_method_8_code
def yX8_fail : MethodName := ⟨RX8, "fail", "()I"⟩
abbrev cX8_pair : ByteArray := prog_10_method_9_code
def yX8_pair : MethodName := ⟨RX8, "pair", "(II)I"⟩
abbrev cX8_part : ByteArray := prog_10_method_10_code
def yX8_part : MethodName := ⟨RX8, "part", "(IZ)I"⟩
abbrev cX8_op : ByteArray := prog_10_method_11_code
def yX8_op : MethodName := ⟨RX8, "op", "(III)I"⟩
abbrev cX8_when : ByteArray := prog_10_method_12_code
def yX8_when : MethodName := ⟨RX8, "when", "(III)I"⟩
abbrev cX8_set : ByteArray := prog_10_method_13_code
def yX8_set : MethodName := ⟨RX8, "set", "(II)I"⟩
abbrev cX8_fold : ByteArray := prog_10_method_14_code
def yX8_fold : MethodName := ⟨RX8, "fold", "(II)I"⟩
abbrev cX8_clear : ByteArray := prog_10_method_15_code
def yX8_clear : MethodName := ⟨RX8, "clear", "()I"⟩
abbrev cX8_node : ByteArray := prog_10_method_16_code
def yX8_node : MethodName := ⟨RX8, "node", "(II)I"⟩
abbrev cX8_levelOf : ByteArray := prog_10_method_17_code
def yX8_levelOf : MethodName := ⟨RX8, "levelOf", "(I)I"⟩
abbrev cX8_cellOf : ByteArray := prog_10_method_18_code
def yX8_cellOf : MethodName := ⟨RX8, "cellOf", "(I)I"⟩
abbrev cX8_beginWay : ByteArray := prog_10_method_19_code
def yX8_beginWay : MethodName := ⟨RX8, "beginWay", "()V"⟩
abbrev cX8_need : ByteArray := prog_10_method_20_code
def yX8_need : MethodName := ⟨RX8, "need", "(I)V"⟩
abbrev cX8_workOut : ByteArray := prog_10_method_21_code
def yX8_workOut : MethodName := ⟨RX8, "workOut", "(I)V"⟩
abbrev cX8_tell : ByteArray := prog_10_method_22_code
def yX8_tell : MethodName := ⟨RX8, "tell", "(IJ)V"⟩
abbrev cX8_needAs : ByteArray := prog_10_method_23_code
def yX8_needAs : MethodName := ⟨RX8, "needAs", "(II)V"⟩
abbrev cX8_take : ByteArray := prog_10_method_24_code
def yX8_take : MethodName := ⟨RX8, "take", "(II)V"⟩
abbrev cX8_choose : ByteArray := prog_10_method_25_code
def yX8_choose : MethodName := ⟨RX8, "choose", "(II)V"⟩
abbrev cX8_reckon : ByteArray := prog_10_method_26_code
def yX8_reckon : MethodName := ⟨RX8, "reckon", "(II)V"⟩
abbrev cX8_foldUp : ByteArray := prog_10_method_27_code
def yX8_foldUp : MethodName := ⟨RX8, "foldUp", "(II)V"⟩
abbrev cX8_token : ByteArray := prog_10_method_28_code
def yX8_token : MethodName := ⟨RX8, "token", "(IJ)V"⟩
abbrev cX8_tellFull : ByteArray := prog_10_method_29_code
def yX8_tellFull : MethodName := ⟨RX8, "tellFull", "(I)V"⟩
abbrev cX8_behind : ByteArray := prog_10_method_30_code
def yX8_behind : MethodName := ⟨RX8, "behind", "(I)I"⟩
abbrev cX8_goAll : ByteArray := prog_10_method_31_code
def yX8_goAll : MethodName := ⟨RX8, "goAll", "(II)V"⟩
abbrev cX8_collect : ByteArray := prog_10_method_32_code
def yX8_collect : MethodName := ⟨RX8, "collect", "()V"⟩
abbrev cX8_nextWay : ByteArray := prog_10_method_33_code
def yX8_nextWay : MethodName := ⟨RX8, "nextWay", "()Z"⟩
abbrev cX8_keep : ByteArray := prog_10_method_34_code
def yX8_keep : MethodName := ⟨RX8, "keep", "(IJ)V"⟩
abbrev cX8_lay : ByteArray := prog_10_method_35_code
def yX8_lay : MethodName := ⟨RX8, "lay", "(IJ)V"⟩
abbrev cX8_forget : ByteArray := prog_10_method_36_code
def yX8_forget : MethodName := ⟨RX8, "forget", "()V"⟩
abbrev cX8_ask : ByteArray := prog_10_method_37_code
def yX8_ask : MethodName := ⟨RX8, "ask", "(III)V"⟩
abbrev cX8_go : ByteArray := prog_10_method_38_code
def yX8_go : MethodName := ⟨RX8, "go", "(I)V"⟩
abbrev cX8_next : ByteArray := prog_10_method_39_code
def yX8_next : MethodName := ⟨RX8, "next", "()I"⟩
abbrev cX8_fetch : ByteArray := prog_10_method_40_code
def yX8_fetch : MethodName := ⟨RX8, "fetch", "()I"⟩
abbrev cX8_decide : ByteArray := prog_10_method_41_code
def yX8_decide : MethodName := ⟨RX8, "decide", "(I)V"⟩
abbrev cX8_copy : ByteArray := prog_10_method_42_code
def yX8_copy : MethodName := ⟨RX8, "copy", "([IIII)V"⟩
abbrev cX8_ends : ByteArray := prog_10_method_43_code
def yX8_ends : MethodName := ⟨RX8, "ends", "(I)Z"⟩
abbrev cX8_decision : ByteArray := prog_10_method_44_code
def yX8_decision : MethodName := ⟨RX8, "decision", "(I)I"⟩
abbrev cX8_token_ : ByteArray := prog_10_method_45_code
def yX8_token_ : MethodName := ⟨RX8, "token", "(II)J"⟩
abbrev cX8_count : ByteArray := prog_10_method_46_code
def yX8_count : MethodName := ⟨RX8, "count", "(I)I"⟩
def RJx8e188 : String := "java/lang/Cloneable"
def TJx8e188 : u_T := fun k => match k with
  | _ => ("", "", "", false)
def tyJx8e188 : Nat → FieldType := fun k => match k with
  | _ => .int
abbrev wsJx8e1880 : List Cond := u_ws RJx8e188 TJx8e188 0
theorem nmJx8e188 : ∀ a, a < 0 → ∀ b, b < 0 → a ≠ b → (TJx8e188 a).2.1 ≠ (TJx8e188 b).2.1 := by decide +kernel
theorem tyJx8e188_ok : ∀ k, k < 0 → parseFieldDescriptor (TJx8e188 k).2.2.1 = some (tyJx8e188 k) := by decide +kernel
def RJ9 : String := "java/lang/Math"
def TJ9 : u_T := fun k => match k with
  | _ => ("", "", "", false)
def tyJ9 : Nat → FieldType := fun k => match k with
  | _ => .int
abbrev wsJ90 : List Cond := u_ws RJ9 TJ9 0
theorem nmJ9 : ∀ a, a < 0 → ∀ b, b < 0 → a ≠ b → (TJ9 a).2.1 ≠ (TJ9 b).2.1 := by decide +kernel
theorem tyJ9_ok : ∀ k, k < 0 → parseFieldDescriptor (TJ9 k).2.2.1 = some (tyJ9 k) := by decide +kernel
abbrev cJ9_max_7cf53 : ByteArray := prog_15_method_65_code
def yJ9_max_7cf53 : MethodName := ⟨RJ9, "max", "(II)I"⟩
abbrev cJ9_min_7cf53 : ByteArray := prog_15_method_69_code
def yJ9_min_7cf53 : MethodName := ⟨RJ9, "min", "(II)I"⟩
abbrev cJ9_min_f86c9 : ByteArray := prog_15_method_70_code
def yJ9_min_f86c9 : MethodName := ⟨RJ9, "min", "(JJ)J"⟩
def RJ0 : String := "java/lang/String"
def TJ0 : u_T := fun k => match k with
  | _ => ("", "", "", false)
def tyJ0 : Nat → FieldType := fun k => match k with
  | _ => .int
abbrev wsJ00 : List Cond := u_ws RJ0 TJ0 0
theorem nmJ0 : ∀ a, a < 0 → ∀ b, b < 0 → a ≠ b → (TJ0 a).2.1 ≠ (TJ0 b).2.1 := by decide +kernel
theorem tyJ0_ok : ∀ k, k < 0 → parseFieldDescriptor (TJ0 k).2.2.1 = some (tyJ0 k) := by decide +kernel
def RJ10 : String := "java/lang/System"
def TJ10 : u_T := fun k => match k with
  | _ => ("", "", "", false)
def tyJ10 : Nat → FieldType := fun k => match k with
  | _ => .int
abbrev wsJ100 : List Cond := u_ws RJ10 TJ10 0
theorem nmJ10 : ∀ a, a < 0 → ∀ b, b < 0 → a ≠ b → (TJ10 a).2.1 ≠ (TJ10 b).2.1 := by decide +kernel
theorem tyJ10_ok : ∀ k, k < 0 → parseFieldDescriptor (TJ10 k).2.2.1 = some (tyJ10 k) := by decide +kernel
def RJ7 : String := "java/util/Arrays"
def TJ7 : u_T := fun k => match k with
  | _ => ("", "", "", false)
def tyJ7 : Nat → FieldType := fun k => match k with
  | _ => .int
abbrev wsJ70 : List Cond := u_ws RJ7 TJ7 0
theorem nmJ7 : ∀ a, a < 0 → ∀ b, b < 0 → a ≠ b → (TJ7 a).2.1 ≠ (TJ7 b).2.1 := by decide +kernel
theorem tyJ7_ok : ∀ k, k < 0 → parseFieldDescriptor (TJ7 k).2.2.1 = some (tyJ7 k) := by decide +kernel
abbrev cJ7_fill_53178 : ByteArray := prog_20_method_103_code
def yJ7_fill_53178 : MethodName := ⟨RJ7, "fill", "([II)V"⟩
abbrev cJ7_copyOf_59c91 : ByteArray := prog_20_method_123_code
def yJ7_copyOf_59c91 : MethodName := ⟨RJ7, "copyOf", "([II)[I"⟩
abbrev cJ7_copyOf_c38d5 : ByteArray := prog_20_method_124_code
def yJ7_copyOf_c38d5 : MethodName := ⟨RJ7, "copyOf", "([JI)[J"⟩
def RL : String := "SharedChoicesLaw"
abbrev cL_choice : ByteArray := method_3_code
def yL_choice : MethodName := ⟨RL, "choice", "(LSharedChoices;II[J)I"⟩
abbrev cL_pair : ByteArray := method_4_code
def yL_pair : MethodName := ⟨RL, "pair", "(LSharedChoices;II[J)I"⟩
abbrev cL_part : ByteArray := method_5_code
def yL_part : MethodName := ⟨RL, "part", "(LSharedChoices;IZ[J)I"⟩
abbrev cL_op : ByteArray := method_6_code
def yL_op : MethodName := ⟨RL, "op", "(LSharedChoices;III[J)I"⟩
abbrev cL_when : ByteArray := method_7_code
def yL_when : MethodName := ⟨RL, "when", "(LSharedChoices;III[J)I"⟩
abbrev cL_set : ByteArray := method_8_code
def yL_set : MethodName := ⟨RL, "set", "(LSharedChoices;II[J)I"⟩
abbrev cL_fold : ByteArray := method_9_code
def yL_fold : MethodName := ⟨RL, "fold", "(LSharedChoices;II[J)I"⟩
abbrev cL_node : ByteArray := method_10_code
def yL_node : MethodName := ⟨RL, "node", "(LSharedChoices;II[J)I"⟩
abbrev cL_ask : ByteArray := method_11_code
def yL_ask : MethodName := ⟨RL, "ask", "(LSharedChoices;III)I"⟩
abbrev cL_next : ByteArray := method_12_code
def yL_next : MethodName := ⟨RL, "next", "(LSharedChoices;[J)I"⟩
abbrev cL_token : ByteArray := method_13_code
def yL_token : MethodName := ⟨RL, "token", "(LSharedChoices;II[J)I"⟩
abbrev cL_law : ByteArray := code
def yL_law : MethodName := ⟨RL, "law", "([I)Z"⟩
def wsL_law0_r1 : List Cond := [Cond.classLink RL 8 RX7, Cond.instantiable RX7 2, Cond.initialized RX7, Cond.classLink RL 55 RX8, Cond.instantiable RX8 53, Cond.initialized RX8, Cond.arrayClass .long, Cond.constantLong RL 58 (4294967295), Cond.methodLink RL 54 yX7_init, Cond.instanceMethod yX7_init, Cond.code yX7_init cX7_init 2 none, Cond.methodLink RX7 1 objectInit, Cond.instanceMethod objectInit, Cond.code objectInit ⟨#[0xb1]⟩ 1 none, Cond.classLink RX7 7 RX2, Cond.instantiable RX2 6, Cond.initialized RX2, Cond.fieldLink RX7 10 "SharedChoices" "nodes" "LSharedChoices$Nodes;", Cond.classLink RX7 16 RX3, Cond.instantiable RX3 15, Cond.initialized RX3, Cond.fieldLink RX7 21 "SharedChoices" "search" "LSharedChoices$Search;", Cond.instanceMethod yX2_init, Cond.code yX2_init cX2_init 1 none]
def wsL_law0_r2 : List Cond := [Cond.methodLink RX2 3 objectInit, Cond.arrayClass .int, Cond.fieldLink RX2 9 "SharedChoices$Nodes" "sorts" "[I", Cond.fieldLink RX2 15 "SharedChoices$Nodes" "firsts" "[I", Cond.fieldLink RX2 18 "SharedChoices$Nodes" "seconds" "[I", Cond.fieldLink RX2 21 "SharedChoices$Nodes" "thirds" "[I", Cond.fieldLink RX2 24 "SharedChoices$Nodes" "numbers" "[J", Cond.methodLink RX7 18 yX3_init, Cond.instanceMethod yX3_init, Cond.code yX3_init cX3_init 2 none, Cond.methodLink RX3 3 objectInit, Cond.classLink RX3 9 RX1, Cond.instantiable RX1 4, Cond.initialized RX1, Cond.fieldLink RX3 12 "SharedChoices$Search" "latest" "LSharedChoices$Latest;", Cond.classLink RX3 18 RX0, Cond.instantiable RX0 3, Cond.initialized RX0, Cond.fieldLink RX3 21 "SharedChoices$Search" "pending" "LSharedChoices$Beginnings;", Cond.fieldLink RX3 25 "SharedChoices$Search" "later" "LSharedChoices$Beginnings;", Cond.fieldLink RX3 28 "SharedChoices$Search" "bound" "I", Cond.classLink RX3 32 RX6, Cond.instantiable RX6 10, Cond.initialized RX6]
def wsL_law0_r3 : List Cond := [Cond.fieldLink RX3 37 "SharedChoices$Search" "work" "LSharedChoices$Work;", Cond.instanceMethod yX1_init, Cond.code yX1_init cX1_init 1 none, Cond.methodLink RX1 3 objectInit, Cond.classLink RX1 9 RX4, Cond.instantiable RX4 4, Cond.initialized RX4, Cond.fieldLink RX1 14 "SharedChoices$Latest" "tokens" "LSharedChoices$Tokens;", Cond.methodLink RX1 11 yX4_init, Cond.instanceMethod yX4_init, Cond.code yX4_init cX4_init 2 none, Cond.methodLink RX4 3 objectInit, Cond.fieldLink RX4 11 "SharedChoices$Tokens" "kinds" "[I", Cond.fieldLink RX4 15 "SharedChoices$Tokens" "numbers" "[J", Cond.fieldLink RX4 19 "SharedChoices$Tokens" "limit" "I", Cond.instanceMethod yX0_init, Cond.code yX0_init cX0_init 1 none, Cond.methodLink RX0 3 objectInit, Cond.fieldLink RX0 9 "SharedChoices$Beginnings" "alternatives" "[J", Cond.fieldLink RX0 15 "SharedChoices$Beginnings" "lengths" "[I", Cond.methodLink RX3 34 yX6_init, Cond.instanceMethod yX6_init, Cond.code yX6_init cX6_init 2 none, Cond.methodLink RX6 3 objectInit]
def wsL_law0_r4 : List Cond := [Cond.classLink RX6 9 RX5, Cond.instantiable RX5 12, Cond.initialized RX5, Cond.fieldLink RX6 14 "SharedChoices$Work" "outermost" "LSharedChoices$Way;", Cond.fieldLink RX6 20 "SharedChoices$Work" "current" "LSharedChoices$Way;", Cond.classLink RX6 23 RX4, Cond.constant RX6 25 (36000), Cond.fieldLink RX6 29 "SharedChoices$Work" "lists" "LSharedChoices$Tokens;", Cond.fieldLink RX6 33 "SharedChoices$Work" "neededIn" "LSharedChoices$Way;", Cond.fieldLink RX6 36 "SharedChoices$Work" "nodes" "LSharedChoices$Nodes;", Cond.methodLink RX6 11 yX5_init, Cond.instanceMethod yX5_init, Cond.code yX5_init cX5_init 2 none, Cond.methodLink RX5 3 objectInit, Cond.fieldLink RX5 9 "SharedChoices$Way" "kinds" "[I", Cond.fieldLink RX5 15 "SharedChoices$Way" "numbers" "[J", Cond.fieldLink RX5 19 "SharedChoices$Way" "lengths" "[I", Cond.classLink RX5 22 RX4, Cond.fieldLink RX5 27 "SharedChoices$Way" "tokens" "LSharedChoices$Tokens;", Cond.fieldLink RX5 31 "SharedChoices$Way" "around" "LSharedChoices$Way;", Cond.methodLink RX5 24 yX4_init, Cond.methodLink RX6 26 yX4_init, Cond.methodLink RX6 40 yX5_nest, Cond.instanceMethod yX5_nest]
def wsL_law0_r5 : List Cond := [Cond.selects RX5 yX5_nest yX5_nest, Cond.code yX5_nest cX5_nest 4 none, Cond.classLink RX5 10 RX5, Cond.fieldLink RX5 35 "SharedChoices$Way" "inner" "LSharedChoices$Way;", Cond.methodLink RX5 38 yX5_init, Cond.methodLink RL 57 yX8_init, Cond.instanceMethod yX8_init, Cond.code yX8_init cX8_init 1 none, Cond.methodLink RX8 1 objectInit, Cond.fieldLink RX8 9 "SharedChoicesModel" "sorts" "[I", Cond.fieldLink RX8 13 "SharedChoicesModel" "words" "[J", Cond.fieldLink RX8 17 "SharedChoicesModel" "ones" "[I", Cond.fieldLink RX8 20 "SharedChoicesModel" "others" "[I", Cond.fieldLink RX8 23 "SharedChoicesModel" "thirds" "[I", Cond.fieldLink RX8 26 "SharedChoicesModel" "inside" "[I", Cond.fieldLink RX8 29 "SharedChoicesModel" "kinds" "[I", Cond.fieldLink RX8 32 "SharedChoicesModel" "numbers" "[J", Cond.fieldLink RX8 35 "SharedChoicesModel" "firsts" "[I", Cond.fieldLink RX8 38 "SharedChoicesModel" "seconds" "[I", Cond.fieldLink RX8 41 "SharedChoicesModel" "heapKinds" "[I", Cond.fieldLink RX8 44 "SharedChoicesModel" "heap" "[J", Cond.fieldLink RX8 47 "SharedChoicesModel" "alternatives" "[I", Cond.fieldLink RX8 50 "SharedChoicesModel" "told" "[I", Cond.fieldLink RX8 53 "SharedChoicesModel" "come" "[I"]
def wsL_law0_r6 : List Cond := [Cond.fieldLink RX8 56 "SharedChoicesModel" "fullKinds" "[I", Cond.fieldLink RX8 59 "SharedChoicesModel" "full" "[J", Cond.fieldLink RX8 62 "SharedChoicesModel" "fullMany" "[I", Cond.fieldLink RX8 65 "SharedChoicesModel" "listKinds" "[I", Cond.fieldLink RX8 68 "SharedChoicesModel" "list" "[J", Cond.fieldLink RX8 71 "SharedChoicesModel" "listMany" "[I", Cond.constant RX8 74 (65536), Cond.fieldLink RX8 75 "SharedChoicesModel" "openRow" "[I", Cond.fieldLink RX8 78 "SharedChoicesModel" "openSize" "[I", Cond.constant RX8 81 (131072), Cond.fieldLink RX8 82 "SharedChoicesModel" "laterRow" "[I", Cond.fieldLink RX8 85 "SharedChoicesModel" "laterSize" "[I", Cond.fieldLink RX8 88 "SharedChoicesModel" "valueRow" "[I", Cond.fieldLink RX8 91 "SharedChoicesModel" "valueKinds" "[I", Cond.fieldLink RX8 94 "SharedChoicesModel" "valueNumbers" "[J", Cond.methodLink RL 60 yX7_number, Cond.instanceMethod yX7_number, Cond.selects RX7 yX7_number yX7_number, Cond.code yX7_number cX7_number 3 (some .int), Cond.methodLink RX7 25 yX2_addNumber, Cond.instanceMethod yX2_addNumber, Cond.selects RX2 yX2_addNumber yX2_addNumber, Cond.code yX2_addNumber cX2_addNumber 4 (some .int), Cond.methodLink RX2 32 yX2_add]
def wsL_law0_r7 : List Cond := [Cond.instanceMethod yX2_add, Cond.selects RX2 yX2_add yX2_add, Cond.code yX2_add cX2_add 6 (some .int), Cond.fieldLink RX2 28 "SharedChoices$Nodes" "size" "I", Cond.methodLink RL 64 yX8_number, Cond.instanceMethod yX8_number, Cond.selects RX8 yX8_number yX8_number, Cond.code yX8_number cX8_number 3 (some .int), Cond.fieldLink RX8 97 "SharedChoicesModel" "thrown" "I", Cond.methodLink RX8 104 yX8_make, Cond.instanceMethod yX8_make, Cond.selects RX8 yX8_make yX8_make, Cond.code yX8_make cX8_make 7 (some .int), Cond.fieldLink RX8 101 "SharedChoicesModel" "nodes" "I", Cond.methodLink RL 65 yL_choice, Cond.static yL_choice, Cond.initialized RL, Cond.codeWith yL_choice cL_choice 5 (some .int) [(0, 10, 13, 13)], Cond.classLink RL 13 "java/lang/IllegalArgumentException", Cond.methodLink RL 7 yX7_choice, Cond.instanceMethod yX7_choice, Cond.selects RX7 yX7_choice yX7_choice, Cond.code yX7_choice cX7_choice 3 (some .int), Cond.methodLink RX7 29 yX2_has]
def wsL_law0_r8 : List Cond := [Cond.instanceMethod yX2_has, Cond.selects RX2 yX2_has yX2_has, Cond.code yX2_has cX2_has 2 (some .boolean), Cond.methodLink RX7 33 yX7_demand, Cond.static yX7_demand, Cond.code yX7_demand cX7_demand 1 none, Cond.classLink RX7 132 "java/lang/IllegalArgumentException", Cond.initialized "java/lang/IllegalArgumentException", Cond.methodLink RX7 37 yX2_add, Cond.methodLink RL 70 yX8_choice, Cond.instanceMethod yX8_choice, Cond.selects RX8 yX8_choice yX8_choice, Cond.code yX8_choice cX8_choice 3 (some .int), Cond.methodLink RX8 108 yX8_isNode, Cond.instanceMethod yX8_isNode, Cond.selects RX8 yX8_isNode yX8_isNode, Cond.code yX8_isNode cX8_isNode 2 (some .boolean), Cond.methodLink RX8 112 yX8_refused, Cond.instanceMethod yX8_refused, Cond.selects RX8 yX8_refused yX8_refused, Cond.code yX8_refused cX8_refused 2 (some .boolean), Cond.methodLink RL 71 yX8_thrown, Cond.instanceMethod yX8_thrown, Cond.selects RX8 yX8_thrown yX8_thrown]
def wsL_law0_r9 : List Cond := [Cond.code yX8_thrown cX8_thrown 1 (some .int), Cond.methodLink RL 74 yX7_fail, Cond.instanceMethod yX7_fail, Cond.selects RX7 yX7_fail yX7_fail, Cond.code yX7_fail cX7_fail 1 (some .int), Cond.methodLink RL 77 yX8_fail, Cond.instanceMethod yX8_fail, Cond.selects RX8 yX8_fail yX8_fail, Cond.code yX8_fail cX8_fail 1 (some .int), Cond.methodLink RL 78 yL_pair, Cond.static yL_pair, Cond.codeWith yL_pair cL_pair 5 (some .int) [(0, 10, 13, 13)], Cond.methodLink RL 15 yX7_pair, Cond.instanceMethod yX7_pair, Cond.selects RX7 yX7_pair yX7_pair, Cond.code yX7_pair cX7_pair 3 (some .int), Cond.methodLink RL 80 yX8_pair, Cond.instanceMethod yX8_pair, Cond.selects RX8 yX8_pair yX8_pair, Cond.code yX8_pair cX8_pair 3 (some .int), Cond.methodLink RL 81 yL_part, Cond.static yL_part, Cond.codeWith yL_part cL_part 5 (some .int) [(0, 10, 13, 13)], Cond.methodLink RL 18 yX7_part]
def wsL_law0_r10 : List Cond := [Cond.instanceMethod yX7_part, Cond.selects RX7 yX7_part yX7_part, Cond.code yX7_part cX7_part 3 (some .int), Cond.methodLink RL 84 yX8_part, Cond.instanceMethod yX8_part, Cond.selects RX8 yX8_part yX8_part, Cond.code yX8_part cX8_part 3 (some .int), Cond.methodLink RL 85 yL_op, Cond.static yL_op, Cond.codeWith yL_op cL_op 6 (some .int) [(0, 12, 15, 13)], Cond.methodLink RL 22 yX7_op, Cond.instanceMethod yX7_op, Cond.selects RX7 yX7_op yX7_op, Cond.code yX7_op cX7_op 4 (some .int), Cond.methodLink RL 88 yX8_op, Cond.instanceMethod yX8_op, Cond.selects RX8 yX8_op yX8_op, Cond.code yX8_op cX8_op 4 (some .int), Cond.methodLink RL 89 yL_when, Cond.static yL_when, Cond.codeWith yL_when cL_when 6 (some .int) [(0, 12, 15, 13)], Cond.methodLink RL 26 yX7_when, Cond.instanceMethod yX7_when, Cond.selects RX7 yX7_when yX7_when]
def wsL_law0_r11 : List Cond := [Cond.code yX7_when cX7_when 4 (some .int), Cond.methodLink RL 91 yX8_when, Cond.instanceMethod yX8_when, Cond.selects RX8 yX8_when yX8_when, Cond.code yX8_when cX8_when 4 (some .int), Cond.methodLink RL 92 yL_set, Cond.static yL_set, Cond.codeWith yL_set cL_set 5 (some .int) [(0, 10, 13, 13)], Cond.methodLink RL 29 yX7_set, Cond.instanceMethod yX7_set, Cond.selects RX7 yX7_set yX7_set, Cond.code yX7_set cX7_set 3 (some .int), Cond.methodLink RX7 41 yX2_size, Cond.instanceMethod yX2_size, Cond.selects RX2 yX2_size yX2_size, Cond.code yX2_size cX2_size 1 (some .int), Cond.methodLink RL 94 yX8_set, Cond.instanceMethod yX8_set, Cond.selects RX8 yX8_set yX8_set, Cond.code yX8_set cX8_set 3 (some .int), Cond.methodLink RL 95 yL_fold, Cond.static yL_fold, Cond.codeWith yL_fold cL_fold 5 (some .int) [(0, 10, 13, 13)], Cond.methodLink RL 32 yX7_fold]
def wsL_law0_r12 : List Cond := [Cond.instanceMethod yX7_fold, Cond.selects RX7 yX7_fold yX7_fold, Cond.code yX7_fold cX7_fold 3 (some .int), Cond.methodLink RL 97 yX8_fold, Cond.instanceMethod yX8_fold, Cond.selects RX8 yX8_fold yX8_fold, Cond.code yX8_fold cX8_fold 3 (some .int), Cond.methodLink RL 98 yX7_clear, Cond.instanceMethod yX7_clear, Cond.selects RX7 yX7_clear yX7_clear, Cond.code yX7_clear cX7_clear 2 (some .int), Cond.methodLink RX7 45 yX2_forget, Cond.instanceMethod yX2_forget, Cond.selects RX2 yX2_forget yX2_forget, Cond.code yX2_forget cX2_forget 1 none, Cond.methodLink RX7 48 yX3_forget, Cond.instanceMethod yX3_forget, Cond.selects RX3 yX3_forget yX3_forget, Cond.code yX3_forget cX3_forget 1 none, Cond.fieldLink RX3 41 "SharedChoices$Search" "there" "Z", Cond.fieldLink RX3 60 "SharedChoices$Search" "spent" "Z", Cond.fieldLink RX3 45 "SharedChoices$Search" "places" "I", Cond.fieldLink RX3 48 "SharedChoices$Search" "values" "I", Cond.fieldLink RX3 51 "SharedChoices$Search" "failed" "I"]
def wsL_law0_r13 : List Cond := [Cond.fieldLink RX3 54 "SharedChoices$Search" "givenUp" "I", Cond.fieldLink RX3 57 "SharedChoices$Search" "cut" "I", Cond.methodLink RX3 63 yX0_forget, Cond.instanceMethod yX0_forget, Cond.selects RX0 yX0_forget yX0_forget, Cond.code yX0_forget cX0_forget 1 none, Cond.fieldLink RX0 19 "SharedChoices$Beginnings" "size" "I", Cond.methodLink RX3 66 yX1_forget, Cond.instanceMethod yX1_forget, Cond.selects RX1 yX1_forget yX1_forget, Cond.code yX1_forget cX1_forget 1 none, Cond.fieldLink RX1 27 "SharedChoices$Latest" "alternatives" "J", Cond.fieldLink RX1 20 "SharedChoices$Latest" "decisions" "I", Cond.fieldLink RX1 24 "SharedChoices$Latest" "labour" "I", Cond.methodLink RX1 31 yX4_cutTo, Cond.instanceMethod yX4_cutTo, Cond.selects RX4 yX4_cutTo yX4_cutTo, Cond.code yX4_cutTo cX4_cutTo 2 none, Cond.fieldLink RX4 23 "SharedChoices$Tokens" "size" "I", Cond.methodLink RL 101 yX8_clear, Cond.instanceMethod yX8_clear, Cond.selects RX8 yX8_clear yX8_clear, Cond.code yX8_clear cX8_clear 2 (some .int), Cond.methodLink RX8 116 yX8_forget]
def wsL_law0_r14 : List Cond := [Cond.instanceMethod yX8_forget, Cond.selects RX8 yX8_forget yX8_forget, Cond.code yX8_forget cX8_forget 1 none, Cond.fieldLink RX8 203 "SharedChoicesModel" "searches" "Z", Cond.fieldLink RX8 207 "SharedChoicesModel" "spent" "Z", Cond.fieldLink RX8 210 "SharedChoicesModel" "window" "I", Cond.fieldLink RX8 213 "SharedChoicesModel" "open" "I", Cond.fieldLink RX8 216 "SharedChoicesModel" "later" "I", Cond.fieldLink RX8 219 "SharedChoicesModel" "laterGone" "I", Cond.fieldLink RX8 222 "SharedChoicesModel" "places" "I", Cond.fieldLink RX8 225 "SharedChoicesModel" "values" "I", Cond.fieldLink RX8 228 "SharedChoicesModel" "failures" "I", Cond.fieldLink RX8 231 "SharedChoicesModel" "lost" "I", Cond.fieldLink RX8 234 "SharedChoicesModel" "cuts" "I", Cond.fieldLink RX8 237 "SharedChoicesModel" "valueLabour" "I", Cond.fieldLink RX8 240 "SharedChoicesModel" "valueDecisions" "I", Cond.fieldLink RX8 243 "SharedChoicesModel" "valueTokens" "I", Cond.methodLink RL 102 yL_node, Cond.static yL_node, Cond.codeWith yL_node cL_node 5 (some .int) [(0, 10, 13, 38)], Cond.classLink RL 38 "java/util/NoSuchElementException", Cond.methodLink RL 35 yX7_node, Cond.instanceMethod yX7_node, Cond.selects RX7 yX7_node yX7_node]
def wsL_law0_r15 : List Cond := [Cond.code yX7_node cX7_node 3 (some .int), Cond.classLink RX7 49 "java/util/NoSuchElementException", Cond.initialized "java/util/NoSuchElementException", Cond.methodLink RX7 56 yX2_sortOf, Cond.instanceMethod yX2_sortOf, Cond.selects RX2 yX2_sortOf yX2_sortOf, Cond.code yX2_sortOf cX2_sortOf 2 (some .int), Cond.methodLink RX2 36 yX2_has, Cond.methodLink RX7 60 yX2_firstOf, Cond.instanceMethod yX2_firstOf, Cond.selects RX2 yX2_firstOf yX2_firstOf, Cond.code yX2_firstOf cX2_firstOf 2 (some .int), Cond.methodLink RX7 63 yX2_secondOf, Cond.instanceMethod yX2_secondOf, Cond.selects RX2 yX2_secondOf yX2_secondOf, Cond.code yX2_secondOf cX2_secondOf 2 (some .int), Cond.methodLink RX7 66 yX2_thirdOf, Cond.instanceMethod yX2_thirdOf, Cond.selects RX2 yX2_thirdOf yX2_thirdOf, Cond.code yX2_thirdOf cX2_thirdOf 2 (some .int), Cond.methodLink RL 104 yX8_node, Cond.instanceMethod yX8_node, Cond.selects RX8 yX8_node yX8_node, Cond.code yX8_node cX8_node 3 (some .int)]
def wsL_law0_r16 : List Cond := [Cond.methodLink RL 105 yL_ask, Cond.static yL_ask, Cond.codeWith yL_ask cL_ask 5 (some .int) [(0, 7, 10, 13)], Cond.methodLink RL 40 yX7_ask, Cond.instanceMethod yX7_ask, Cond.selects RX7 yX7_ask yX7_ask, Cond.code yX7_ask cX7_ask 4 none, Cond.methodLink RX7 69 yX3_begin, Cond.instanceMethod yX3_begin, Cond.selects RX3 yX3_begin yX3_begin, Cond.code yX3_begin cX3_begin 4 none, Cond.fieldLink RX3 68 "SharedChoices$Search" "goal" "I", Cond.fieldLink RX3 71 "SharedChoices$Search" "mode" "I", Cond.fieldLink RX3 74 "SharedChoices$Search" "windowEnd" "I", Cond.methodLink RX3 67 yX3_forget, Cond.methodLink RX3 77 yX0_put, Cond.instanceMethod yX0_put, Cond.selects RX0 yX0_put yX0_put, Cond.code yX0_put cX0_put 4 none, Cond.methodLink RL 108 yX8_ask, Cond.instanceMethod yX8_ask, Cond.selects RX8 yX8_ask yX8_ask, Cond.code yX8_ask cX8_ask 4 none, Cond.fieldLink RX8 246 "SharedChoicesModel" "goal" "I"]
def wsL_law0_r17 : List Cond := [Cond.fieldLink RX8 249 "SharedChoicesModel" "mode" "I", Cond.fieldLink RX8 252 "SharedChoicesModel" "bound" "I", Cond.methodLink RL 109 yL_next, Cond.static yL_next, Cond.codeWith yL_next cL_next 3 (some .int) [(0, 8, 11, 48)], Cond.classLink RL 48 "java/lang/IllegalStateException", Cond.methodLink RL 44 yX7_next, Cond.instanceMethod yX7_next, Cond.selects RX7 yX7_next yX7_next, Cond.code yX7_next cX7_next 1 (some .int), Cond.classLink RX7 77 "java/lang/IllegalStateException", Cond.initialized "java/lang/IllegalStateException", Cond.methodLink RX7 73 yX3_isThere, Cond.instanceMethod yX3_isThere, Cond.selects RX3 yX3_isThere yX3_isThere, Cond.code yX3_isThere cX3_isThere 1 (some .boolean), Cond.methodLink RX7 82 yX3_goOn, Cond.instanceMethod yX3_goOn, Cond.selects RX3 yX3_goOn yX3_goOn, Cond.code yX3_goOn cX3_goOn 2 (some .int), Cond.methodLink RX3 81 yX0_isEmpty, Cond.instanceMethod yX0_isEmpty, Cond.selects RX0 yX0_isEmpty yX0_isEmpty, Cond.code yX0_isEmpty cX0_isEmpty 1 (some .boolean)]
def wsL_law0_r18 : List Cond := [Cond.methodLink RX3 85 yX3_openNextWindow, Cond.instanceMethod yX3_openNextWindow, Cond.selects RX3 yX3_openNextWindow yX3_openNextWindow, Cond.code yX3_openNextWindow cX3_openNextWindow 1 none, Cond.methodLink RX3 91 yX0_takeAllOf, Cond.instanceMethod yX0_takeAllOf, Cond.selects RX0 yX0_takeAllOf yX0_takeAllOf, Cond.code yX0_takeAllOf cX0_takeAllOf 3 none, Cond.methodLink RX0 23 yX0_lastAlternatives, Cond.instanceMethod yX0_lastAlternatives, Cond.selects RX0 yX0_lastAlternatives yX0_lastAlternatives, Cond.code yX0_lastAlternatives cX0_lastAlternatives 1 (some .long), Cond.methodLink RX0 27 yX0_lastLength, Cond.instanceMethod yX0_lastLength, Cond.selects RX0 yX0_lastLength yX0_lastLength, Cond.code yX0_lastLength cX0_lastLength 1 (some .int), Cond.methodLink RX0 31 yX0_put, Cond.methodLink RX0 35 yX0_dropLast, Cond.instanceMethod yX0_dropLast, Cond.selects RX0 yX0_dropLast yX0_dropLast, Cond.code yX0_dropLast cX0_dropLast 1 none, Cond.methodLink RX3 88 yX3_comesToValue, Cond.instanceMethod yX3_comesToValue, Cond.selects RX3 yX3_comesToValue yX3_comesToValue]
def wsL_law0_r19 : List Cond := [Cond.code yX3_comesToValue cX3_comesToValue 7 (some .boolean), Cond.methodLink RX3 109 Lib.Math.min.name, Cond.static Lib.Math.min.name, Cond.initialized "java/lang/Math", Cond.code Lib.Math.min.name Lib.Math.min.code 2 (some .int), Cond.methodLink RX3 95 yX0_lastAlternatives, Cond.methodLink RX3 99 yX0_lastLength, Cond.methodLink RX3 103 yX0_dropLast, Cond.methodLink RX3 106 yX3_mostDecisions, Cond.instanceMethod yX3_mostDecisions, Cond.selects RX3 yX3_mostDecisions yX3_mostDecisions, Cond.code yX3_mostDecisions cX3_mostDecisions 1 (some .int), Cond.methodLink RX3 115 yX6_goWay, Cond.instanceMethod yX6_goWay, Cond.selects RX6 yX6_goWay yX6_goWay, Cond.code yX6_goWay cX6_goWay 5 (some .int), Cond.fieldLink RX6 43 "SharedChoices$Work" "labour" "I", Cond.methodLink RX6 55 yX4_cutTo, Cond.methodLink RX6 58 yX5_beginOfSearch, Cond.instanceMethod yX5_beginOfSearch, Cond.selects RX5 yX5_beginOfSearch yX5_beginOfSearch, Cond.code yX5_beginOfSearch cX5_beginOfSearch 4 none, Cond.fieldLink RX5 48 "SharedChoices$Way" "firstInside" "I", Cond.fieldLink RX5 51 "SharedChoices$Way" "alternatives" "J"]
def wsL_law0_r20 : List Cond := [Cond.fieldLink RX5 55 "SharedChoices$Way" "mostDecisions" "I", Cond.methodLink RX5 58 yX4_cutTo, Cond.methodLink RX5 61 yX5_begin, Cond.instanceMethod yX5_begin, Cond.selects RX5 yX5_begin yX5_begin, Cond.code yX5_begin cX5_begin 1 none, Cond.fieldLink RX5 41 "SharedChoices$Way" "decisions" "I", Cond.fieldLink RX5 72 "SharedChoices$Way" "valueStart" "I", Cond.methodLink RX5 68 yX4_size, Cond.instanceMethod yX4_size, Cond.selects RX4 yX4_size yX4_size, Cond.code yX4_size cX4_size 1 (some .int), Cond.methodLink RX5 75 yJ7_fill_53178, Cond.static yJ7_fill_53178, Cond.initialized RJ7, Cond.code yJ7_fill_53178 cJ7_fill_53178 4 none, Cond.methodLink RX6 62 yX6_tellInFull, Cond.instanceMethod yX6_tellInFull, Cond.selects RX6 yX6_tellInFull yX6_tellInFull, Cond.code yX6_tellInFull cX6_tellInFull 5 (some .int), Cond.fieldLink RX6 69 "SharedChoices$Work" "gotKind" "I", Cond.fieldLink RX6 72 "SharedChoices$Work" "got" "J", Cond.fieldLink RX6 80 "SharedChoices$Work" "gotLength" "I", Cond.constantLong RX6 87 (2)]
def wsL_law0_r21 : List Cond := [Cond.methodLink RX6 66 yX6_valueOf, Cond.instanceMethod yX6_valueOf, Cond.selects RX6 yX6_valueOf yX6_valueOf, Cond.methodLink RX6 76 yX5_tell, Cond.instanceMethod yX5_tell, Cond.selects RX5 yX5_tell yX5_tell, Cond.code yX5_tell cX5_tell 4 (some .boolean), Cond.methodLink RX5 64 yX4_add, Cond.instanceMethod yX4_add, Cond.selects RX4 yX4_add yX4_add, Cond.code yX4_add cX4_add 4 (some .boolean), Cond.methodLink RX4 30 yX4_makeRoom, Cond.instanceMethod yX4_makeRoom, Cond.selects RX4 yX4_makeRoom yX4_makeRoom, Cond.code yX4_makeRoom cX4_makeRoom 4 (some .boolean), Cond.methodLink RX4 39 Lib.Math.min.name, Cond.methodLink RX4 45 Lib.Math.max.name, Cond.static Lib.Math.max.name, Cond.code Lib.Math.max.name Lib.Math.max.code 2 (some .int), Cond.methodLink RX4 48 yJ7_copyOf_59c91, Cond.static yJ7_copyOf_59c91, Cond.code yJ7_copyOf_59c91 cJ7_copyOf_59c91 3 (some (.array .int)), Cond.methodLink RJ7 316 ⟨"[I", "clone", "()Ljava/lang/Object;"⟩, Cond.sameMethod "[I" "java/lang/Object" "clone" "()Ljava/lang/Object;"]
def wsL_law0_r22 : List Cond := [Cond.native ⟨"java/lang/Object", "clone", "()Ljava/lang/Object;"⟩, Cond.instanceMethod ⟨"java/lang/Object", "clone", "()Ljava/lang/Object;"⟩, Cond.selects "[I" ⟨"[I", "clone", "()Ljava/lang/Object;"⟩ ⟨"java/lang/Object", "clone", "()Ljava/lang/Object;"⟩, Cond.classLink RJ7 317 "[I", Cond.methodLink RJ7 304 Lib.Math.min.name, Cond.methodLink RJ7 150 arraycopyName, Cond.native arraycopyName, Cond.static arraycopyName, Cond.initialized "java/lang/System", Cond.methodLink RX4 54 yJ7_copyOf_c38d5, Cond.static yJ7_copyOf_c38d5, Cond.code yJ7_copyOf_c38d5 cJ7_copyOf_c38d5 3 (some (.array .long)), Cond.methodLink RJ7 319 ⟨"[J", "clone", "()Ljava/lang/Object;"⟩, Cond.sameMethod "[J" "java/lang/Object" "clone" "()Ljava/lang/Object;", Cond.selects "[J" ⟨"[J", "clone", "()Ljava/lang/Object;"⟩ ⟨"java/lang/Object", "clone", "()Ljava/lang/Object;"⟩, Cond.classLink RJ7 320 "[J", Cond.methodLink RX6 83 yX5_tellAll, Cond.instanceMethod yX5_tellAll, Cond.selects RX5 yX5_tellAll yX5_tellAll, Cond.code yX5_tellAll cX5_tellAll 4 (some .boolean), Cond.methodLink RX5 89 yX4_addFrom, Cond.instanceMethod yX4_addFrom, Cond.selects RX4 yX4_addFrom yX4_addFrom, Cond.code yX4_addFrom cX4_addFrom 4 (some .boolean)]
def wsL_law0_r23 : List Cond := [Cond.methodLink RX4 33 arraycopyName, Cond.methodLink RX6 89 yX2_firstOf, Cond.methodLink RX6 95 yX2_secondOf, Cond.code yX6_goWaysOfSet cX6_goWaysOfSet 6 (some .int), Cond.methodLink RX6 208 yX5_beginOfSet, Cond.instanceMethod yX5_beginOfSet, Cond.selects RX5 yX5_beginOfSet yX5_beginOfSet, Cond.code yX5_beginOfSet cX5_beginOfSet 2 none, Cond.fieldLink RX5 45 "SharedChoices$Way" "listed" "I", Cond.methodLink RX6 51 yX5_tokens, Cond.instanceMethod yX5_tokens, Cond.selects RX5 yX5_tokens yX5_tokens, Cond.code yX5_tokens cX5_tokens 1 (some (.object "SharedChoices$Tokens")), Cond.methodLink RX6 197 yX4_size, Cond.methodLink RX6 211 yX5_listValue, Cond.instanceMethod yX5_listValue, Cond.selects RX5 yX5_listValue yX5_listValue, Cond.code yX5_listValue cX5_listValue 1 none, Cond.methodLink RX5 81 yX4_putNumber, Cond.instanceMethod yX4_putNumber, Cond.selects RX4 yX4_putNumber yX4_putNumber, Cond.code yX4_putNumber cX4_putNumber 4 none, Cond.methodLink RX4 26 yX4_has, Cond.instanceMethod yX4_has]
def wsL_law0_r24 : List Cond := [Cond.selects RX4 yX4_has yX4_has, Cond.code yX4_has cX4_has 2 (some .boolean), Cond.methodLink RX6 214 yX5_dropValue, Cond.instanceMethod yX5_dropValue, Cond.selects RX5 yX5_dropValue yX5_dropValue, Cond.code yX5_dropValue cX5_dropValue 1 none, Cond.methodLink RX6 217 yX5_turn, Cond.instanceMethod yX5_turn, Cond.selects RX5 yX5_turn yX5_turn, Cond.code yX5_turn cX5_turn 4 (some .boolean), Cond.code yX6_valueOf cX6_valueOf 4 (some .int), Cond.fieldLink RX6 120 "SharedChoices$Work" "neededNode" "I", Cond.methodLink RX6 98 yX6_homeOf, Cond.instanceMethod yX6_homeOf, Cond.selects RX6 yX6_homeOf yX6_homeOf, Cond.code yX6_homeOf cX6_homeOf 3 (some (.object "SharedChoices$Way")), Cond.methodLink RX6 126 yX5_isInside, Cond.instanceMethod yX5_isInside, Cond.selects RX5 yX5_isInside yX5_isInside, Cond.code yX5_isInside cX5_isInside 2 (some .boolean), Cond.methodLink RX6 129 yX5_around, Cond.instanceMethod yX5_around, Cond.selects RX5 yX5_around yX5_around, Cond.code yX5_around cX5_around 1 (some (.object "SharedChoices$Way"))]
def wsL_law0_r25 : List Cond := [Cond.methodLink RX6 102 yX5_hasValue, Cond.instanceMethod yX5_hasValue, Cond.selects RX5 yX5_hasValue yX5_hasValue, Cond.code yX5_hasValue cX5_hasValue 2 (some .boolean), Cond.methodLink RX6 106 yX5_kindOf, Cond.instanceMethod yX5_kindOf, Cond.selects RX5 yX5_kindOf yX5_kindOf, Cond.code yX5_kindOf cX5_kindOf 2 (some .int), Cond.methodLink RX5 85 yX5_hasValue, Cond.methodLink RX6 109 yX5_numberOf, Cond.instanceMethod yX5_numberOf, Cond.selects RX5 yX5_numberOf yX5_numberOf, Cond.code yX5_numberOf cX5_numberOf 2 (some .long), Cond.methodLink RX6 113 yX5_lengthOf, Cond.instanceMethod yX5_lengthOf, Cond.selects RX5 yX5_lengthOf yX5_lengthOf, Cond.code yX5_lengthOf cX5_lengthOf 2 (some .int), Cond.methodLink RX6 116 yX6_take, Cond.instanceMethod yX6_take, Cond.selects RX6 yX6_take yX6_take, Cond.code yX6_take cX6_take 5 (some .int), Cond.methodLink RX6 123 yX6_workOut, Cond.instanceMethod yX6_workOut, Cond.selects RX6 yX6_workOut yX6_workOut]
def wsL_law0_r26 : List Cond := [Cond.code yX6_workChoice cX6_workChoice 3 (some .int), Cond.methodLink RX6 164 yX5_decide, Cond.instanceMethod yX5_decide, Cond.selects RX5 yX5_decide yX5_decide, Cond.code yX5_decide cX5_decide 2 (some .int), Cond.code yX6_workFold cX6_workFold 5 (some .int), Cond.methodLink RX6 174 yX4_numberAt, Cond.instanceMethod yX4_numberAt, Cond.selects RX4 yX4_numberAt yX4_numberAt, Cond.code yX4_numberAt cX4_numberAt 2 (some .long), Cond.methodLink RX6 137 yX6_takeNumber, Cond.instanceMethod yX6_takeNumber, Cond.selects RX6 yX6_takeNumber yX6_takeNumber, Cond.code yX6_takeNumber cX6_takeNumber 3 (some .int), Cond.methodLink RX6 177 yX6_foldNumbers, Cond.instanceMethod yX6_foldNumbers, Cond.selects RX6 yX6_foldNumbers yX6_foldNumbers, Cond.code yX6_foldNumbers cX6_foldNumbers 9 (some .int), Cond.constantLong RX6 183 (9223372036854775807), Cond.methodLink RX6 188 Lib.MathLoose.min_long.x, Cond.static Lib.MathLoose.min_long.x, Cond.code Lib.MathLoose.min_long.x Lib.MathLoose.min_long.code 4 (some .long), Cond.methodLink RX6 185 yX4_kindAt, Cond.instanceMethod yX4_kindAt]
def wsL_law0_r27 : List Cond := [Cond.selects RX4 yX4_kindAt yX4_kindAt, Cond.code yX4_kindAt cX4_kindAt 2 (some .int), Cond.code yX6_workOp cX6_workOp 5 (some .int), Cond.methodLink RX6 167 yX2_thirdOf, Cond.methodLink RX6 170 yX6_reckon, Cond.instanceMethod yX6_reckon, Cond.selects RX6 yX6_reckon yX6_reckon, Cond.code yX6_reckon cX6_reckon 6 (some .int), Cond.code yX6_workOut cX6_workOut 3 (some .int), Cond.methodLink RX6 133 yX2_sortOf, Cond.methodLink RX6 136 yX2_numberOf, Cond.instanceMethod yX2_numberOf, Cond.selects RX2 yX2_numberOf yX2_numberOf, Cond.code yX2_numberOf cX2_numberOf 2 (some .long), Cond.methodLink RX6 141 yX6_workChoice, Cond.instanceMethod yX6_workChoice, Cond.selects RX6 yX6_workChoice yX6_workChoice, Cond.methodLink RX6 144 yX6_workPart, Cond.instanceMethod yX6_workPart, Cond.selects RX6 yX6_workPart yX6_workPart, Cond.methodLink RX6 148 yX6_workOp, Cond.instanceMethod yX6_workOp, Cond.selects RX6 yX6_workOp yX6_workOp, Cond.methodLink RX6 151 yX6_workWhen]
def wsL_law0_r28 : List Cond := [Cond.instanceMethod yX6_workWhen, Cond.selects RX6 yX6_workWhen yX6_workWhen, Cond.methodLink RX6 154 yX6_workSet, Cond.instanceMethod yX6_workSet, Cond.selects RX6 yX6_workSet yX6_workSet, Cond.methodLink RX6 157 yX6_workFold, Cond.instanceMethod yX6_workFold, Cond.selects RX6 yX6_workFold yX6_workFold, Cond.methodLink RX6 160 yX5_keep, Cond.instanceMethod yX5_keep, Cond.selects RX5 yX5_keep yX5_keep, Cond.code yX5_keep cX5_keep 6 none, Cond.code yX6_workPart cX6_workPart 5 (some .int), Cond.code yX6_workSet cX6_workSet 7 (some .int), Cond.methodLink RX6 194 yX5_inner, Cond.instanceMethod yX5_inner, Cond.selects RX5 yX5_inner yX5_inner, Cond.code yX5_inner cX5_inner 1 (some (.object "SharedChoices$Way")), Cond.methodLink RX6 200 yX6_goWaysOfSet, Cond.instanceMethod yX6_goWaysOfSet, Cond.selects RX6 yX6_goWaysOfSet yX6_goWaysOfSet, Cond.methodLink RX6 204 yX6_takeList, Cond.instanceMethod yX6_takeList, Cond.selects RX6 yX6_takeList yX6_takeList]
def wsL_law0_r29 : List Cond := [Cond.code yX6_takeList cX6_takeList 4 (some .int), Cond.methodLink RX6 221 yX4_addFrom, Cond.code yX6_workWhen cX6_workWhen 3 (some .int), Cond.methodLink RX3 119 yX6_decisions, Cond.instanceMethod yX6_decisions, Cond.selects RX6 yX6_decisions yX6_decisions, Cond.code yX6_decisions cX6_decisions 1 (some .int), Cond.methodLink RX6 47 yX5_decisions, Cond.instanceMethod yX5_decisions, Cond.selects RX5 yX5_decisions yX5_decisions, Cond.code yX5_decisions cX5_decisions 1 (some .int), Cond.methodLink RX3 122 yX3_putOtherAlternatives, Cond.instanceMethod yX3_putOtherAlternatives, Cond.selects RX3 yX3_putOtherAlternatives yX3_putOtherAlternatives, Cond.code yX3_putOtherAlternatives cX3_putOtherAlternatives 5 none, Cond.methodLink RX3 125 yX3_endsAsValue, Cond.instanceMethod yX3_endsAsValue, Cond.selects RX3 yX3_endsAsValue yX3_endsAsValue, Cond.code yX3_endsAsValue cX3_endsAsValue 4 (some .boolean), Cond.methodLink RX3 129 yX1_keep, Cond.instanceMethod yX1_keep, Cond.selects RX1 yX1_keep yX1_keep, Cond.code yX1_keep cX1_keep 5 none, Cond.methodLink RX1 34 yX6_tokens]
def wsL_law0_r30 : List Cond := [Cond.instanceMethod yX6_tokens, Cond.selects RX6 yX6_tokens yX6_tokens, Cond.code yX6_tokens cX6_tokens 1 (some (.object "SharedChoices$Tokens")), Cond.methodLink RX1 39 yX4_size, Cond.methodLink RX1 43 yX4_addFrom, Cond.methodLink RX1 47 yX6_decisions, Cond.methodLink RX1 49 yX6_labour, Cond.instanceMethod yX6_labour, Cond.selects RX6 yX6_labour yX6_labour, Cond.code yX6_labour cX6_labour 1 (some .int), Cond.methodLink RX3 133 yX3_stopAtDecision, Cond.instanceMethod yX3_stopAtDecision, Cond.selects RX3 yX3_stopAtDecision yX3_stopAtDecision, Cond.code yX3_stopAtDecision cX3_stopAtDecision 4 none, Cond.methodLink RL 112 yX8_next, Cond.instanceMethod yX8_next, Cond.selects RX8 yX8_next yX8_next, Cond.code yX8_next cX8_next 2 (some .int), Cond.fieldLink RX8 126 "SharedChoicesModel" "stop" "I", Cond.methodLink RX8 255 yX8_fetch, Cond.instanceMethod yX8_fetch, Cond.selects RX8 yX8_fetch yX8_fetch, Cond.code yX8_fetch cX8_fetch 3 (some .int), Cond.methodLink RX8 259 yX8_go]
def wsL_law0_r31 : List Cond := [Cond.instanceMethod yX8_go, Cond.selects RX8 yX8_go yX8_go, Cond.code yX8_go cX8_go 2 none, Cond.fieldLink RX8 119 "SharedChoicesModel" "level" "I", Cond.fieldLink RX8 135 "SharedChoicesModel" "labour" "I", Cond.fieldLink RX8 184 "SharedChoicesModel" "heapTop" "I", Cond.methodLink RX8 187 yX8_beginWay, Cond.instanceMethod yX8_beginWay, Cond.selects RX8 yX8_beginWay yX8_beginWay, Cond.code yX8_beginWay cX8_beginWay 2 none, Cond.methodLink RX8 179 yX8_tellFull, Cond.instanceMethod yX8_tellFull, Cond.selects RX8 yX8_tellFull yX8_tellFull, Cond.code yX8_tellFull cX8_tellFull 6 none, Cond.constantLong RX8 177 (2), Cond.methodLink RX8 168 yX8_need, Cond.instanceMethod yX8_need, Cond.selects RX8 yX8_need yX8_need, Cond.methodLink RX8 153 yX8_cellOf, Cond.instanceMethod yX8_cellOf, Cond.selects RX8 yX8_cellOf yX8_cellOf, Cond.code yX8_cellOf cX8_cellOf 2 (some .int), Cond.methodLink RX8 122 yX8_levelOf, Cond.instanceMethod yX8_levelOf]
def wsL_law0_r32 : List Cond := [Cond.selects RX8 yX8_levelOf yX8_levelOf, Cond.code yX8_levelOf cX8_levelOf 3 (some .int), Cond.methodLink RX8 171 yX8_token, Cond.instanceMethod yX8_token, Cond.selects RX8 yX8_token yX8_token, Cond.code yX8_token cX8_token 5 none, Cond.methodLink RX8 174 yX8_behind, Cond.instanceMethod yX8_behind, Cond.selects RX8 yX8_behind yX8_behind, Cond.code yX8_behind cX8_behind 5 (some .int), Cond.constantLong RX8 182 (-1), Cond.code yX8_choose cX8_choose 4 none, Cond.methodLink RX8 156 yX8_take, Cond.instanceMethod yX8_take, Cond.selects RX8 yX8_take yX8_take, Cond.code yX8_foldUp cX8_foldUp 10 none, Cond.methodLink RX8 150 yX8_needAs, Cond.instanceMethod yX8_needAs, Cond.selects RX8 yX8_needAs yX8_needAs, Cond.methodLink RX8 142 yX8_tell, Cond.instanceMethod yX8_tell, Cond.selects RX8 yX8_tell yX8_tell, Cond.code yX8_tell cX8_tell 4 none, Cond.code yX8_goAll cX8_goAll 8 none]
def wsL_law0_r33 : List Cond := [Cond.fieldLink RX8 132 "SharedChoicesModel" "wantedLevel" "I", Cond.fieldLink RX8 129 "SharedChoicesModel" "wanted" "I", Cond.methodLink RX8 190 yX8_collect, Cond.instanceMethod yX8_collect, Cond.selects RX8 yX8_collect yX8_collect, Cond.code yX8_collect cX8_collect 2 none, Cond.methodLink RX8 193 yX8_nextWay, Cond.instanceMethod yX8_nextWay, Cond.selects RX8 yX8_nextWay yX8_nextWay, Cond.code yX8_nextWay cX8_nextWay 2 (some .boolean), Cond.methodLink RX8 197 yX8_keep, Cond.instanceMethod yX8_keep, Cond.selects RX8 yX8_keep yX8_keep, Cond.code yX8_keep cX8_keep 6 none, Cond.methodLink RX8 200 yX8_lay, Cond.instanceMethod yX8_lay, Cond.selects RX8 yX8_lay yX8_lay, Cond.code yX8_lay cX8_lay 7 none, Cond.code yX8_need cX8_need 3 none, Cond.methodLink RX8 138 yX8_workOut, Cond.instanceMethod yX8_workOut, Cond.selects RX8 yX8_workOut yX8_workOut, Cond.code yX8_needAs cX8_needAs 3 none, Cond.code yX8_reckon cX8_reckon 7 none]
def wsL_law0_r34 : List Cond := [Cond.code yX8_take cX8_take 4 none, Cond.code yX8_workOut cX8_workOut 3 none, Cond.methodLink RX8 146 yX8_choose, Cond.instanceMethod yX8_choose, Cond.selects RX8 yX8_choose yX8_choose, Cond.methodLink RX8 159 yX8_reckon, Cond.instanceMethod yX8_reckon, Cond.selects RX8 yX8_reckon yX8_reckon, Cond.methodLink RX8 162 yX8_goAll, Cond.instanceMethod yX8_goAll, Cond.selects RX8 yX8_goAll yX8_goAll, Cond.methodLink RX8 165 yX8_foldUp, Cond.instanceMethod yX8_foldUp, Cond.selects RX8 yX8_foldUp yX8_foldUp, Cond.methodLink RX8 262 yX8_decide, Cond.instanceMethod yX8_decide, Cond.selects RX8 yX8_decide yX8_decide, Cond.code yX8_decide cX8_decide 5 none, Cond.methodLink RX8 268 yX8_copy, Cond.instanceMethod yX8_copy, Cond.selects RX8 yX8_copy yX8_copy, Cond.code yX8_copy cX8_copy 6 none, Cond.methodLink RX8 265 yX8_ends, Cond.instanceMethod yX8_ends]
def wsL_law0_r35 : List Cond := [Cond.selects RX8 yX8_ends yX8_ends, Cond.code yX8_ends cX8_ends 3 (some .boolean), Cond.methodLink RL 113 yX7_decision, Cond.instanceMethod yX7_decision, Cond.selects RX7 yX7_decision yX7_decision, Cond.code yX7_decision cX7_decision 2 (some .int), Cond.methodLink RX7 85 yX3_latest, Cond.instanceMethod yX3_latest, Cond.selects RX3 yX3_latest yX3_latest, Cond.code yX3_latest cX3_latest 1 (some (.object "SharedChoices$Latest")), Cond.methodLink RX7 89 yX1_alternativeAt, Cond.instanceMethod yX1_alternativeAt, Cond.selects RX1 yX1_alternativeAt yX1_alternativeAt, Cond.code yX1_alternativeAt cX1_alternativeAt 2 (some .int), Cond.methodLink RL 117 yX8_decision, Cond.instanceMethod yX8_decision, Cond.selects RX8 yX8_decision yX8_decision, Cond.code yX8_decision cX8_decision 2 (some .int), Cond.methodLink RL 118 yL_token, Cond.static yL_token, Cond.codeWith yL_token cL_token 5 (some .int) [(0, 9, 12, 38)], Cond.methodLink RL 50 yX7_token, Cond.instanceMethod yX7_token, Cond.selects RX7 yX7_token yX7_token]
def wsL_law0_r36 : List Cond := [Cond.code yX7_token cX7_token 4 (some .long), Cond.methodLink RX7 94 yX1_tokens, Cond.instanceMethod yX1_tokens, Cond.selects RX1 yX1_tokens yX1_tokens, Cond.code yX1_tokens cX1_tokens 1 (some (.object "SharedChoices$Tokens")), Cond.methodLink RX7 98 yX4_has, Cond.methodLink RX7 103 yX4_kindAt, Cond.methodLink RX7 106 yX4_numberAt, Cond.methodLink RL 120 yX8_token_, Cond.instanceMethod yX8_token_, Cond.selects RX8 yX8_token_ yX8_token_, Cond.code yX8_token_ cX8_token_ 3 (some .long), Cond.methodLink RL 121 yX7_count, Cond.instanceMethod yX7_count, Cond.selects RX7 yX7_count yX7_count, Cond.code yX7_count cX7_count 2 (some .int), Cond.methodLink RX7 110 yX3_places, Cond.instanceMethod yX3_places, Cond.selects RX3 yX3_places yX3_places, Cond.code yX3_places cX3_places 1 (some .int), Cond.methodLink RX7 113 yX3_values, Cond.instanceMethod yX3_values, Cond.selects RX3 yX3_values yX3_values, Cond.code yX3_values cX3_values 1 (some .int)]
def wsL_law0_r37 : List Cond := [Cond.methodLink RX7 116 yX3_failed, Cond.instanceMethod yX3_failed, Cond.selects RX3 yX3_failed yX3_failed, Cond.code yX3_failed cX3_failed 1 (some .int), Cond.methodLink RX7 119 yX3_givenUp, Cond.instanceMethod yX3_givenUp, Cond.selects RX3 yX3_givenUp yX3_givenUp, Cond.code yX3_givenUp cX3_givenUp 1 (some .int), Cond.methodLink RX7 122 yX3_cut, Cond.instanceMethod yX3_cut, Cond.selects RX3 yX3_cut yX3_cut, Cond.code yX3_cut cX3_cut 1 (some .int), Cond.methodLink RX7 125 yX1_labour, Cond.instanceMethod yX1_labour, Cond.selects RX1 yX1_labour yX1_labour, Cond.code yX1_labour cX1_labour 1 (some .int), Cond.methodLink RX7 128 yX1_decisions, Cond.instanceMethod yX1_decisions, Cond.selects RX1 yX1_decisions yX1_decisions, Cond.code yX1_decisions cX1_decisions 1 (some .int), Cond.methodLink RX7 131 yX4_size, Cond.methodLink RL 124 yX8_count, Cond.instanceMethod yX8_count, Cond.selects RX8 yX8_count yX8_count]
def wsL_law0_r38 : List Cond := [Cond.code yX8_count cX8_count 2 (some .int)]
def wsL_law0 : List Cond := (wsL_law0_r1 ++ (wsL_law0_r2 ++ (wsL_law0_r3 ++ (wsL_law0_r4 ++ (wsL_law0_r5 ++ (wsL_law0_r6 ++ (wsL_law0_r7 ++ (wsL_law0_r8 ++ (wsL_law0_r9 ++ (wsL_law0_r10 ++ (wsL_law0_r11 ++ (wsL_law0_r12 ++ (wsL_law0_r13 ++ (wsL_law0_r14 ++ (wsL_law0_r15 ++ (wsL_law0_r16 ++ (wsL_law0_r17 ++ (wsL_law0_r18 ++ (wsL_law0_r19 ++ (wsL_law0_r20 ++ (wsL_law0_r21 ++ (wsL_law0_r22 ++ (wsL_law0_r23 ++ (wsL_law0_r24 ++ (wsL_law0_r25 ++ (wsL_law0_r26 ++ (wsL_law0_r27 ++ (wsL_law0_r28 ++ (wsL_law0_r29 ++ (wsL_law0_r30 ++ (wsL_law0_r31 ++ (wsL_law0_r32 ++ (wsL_law0_r33 ++ (wsL_law0_r34 ++ (wsL_law0_r35 ++ (wsL_law0_r36 ++ (wsL_law0_r37 ++ wsL_law0_r38))))))))))))))))))))))))))))))))))))) ++ wsX70 ++ wsX80 ++ wsX20 ++ wsX30 ++ wsX10 ++ wsX00 ++ wsX60 ++ wsX40 ++ wsX50 ++ ([] : List Cond)
abbrev vwCl : List vw_C := [(RX0, TX0, 3), (RX1, TX1, 4), (RX2, TX2, 6), (RX3, TX3, 15), (RX4, TX4, 4), (RX5, TX5, 12), (RX6, TX6, 10), (RX7, TX7, 2), (RX8, TX8, 53)]
set_option maxRecDepth 20000 in
theorem gi_wsL_law0_r1 : GoodIn lw_tbl wsL_law0_r1 := goodIn_of _ (by decide +kernel)
set_option maxRecDepth 20000 in
theorem gi_wsL_law0_r2 : GoodIn lw_tbl wsL_law0_r2 := goodIn_of _ (by decide +kernel)
set_option maxRecDepth 20000 in
theorem gi_wsL_law0_r3 : GoodIn lw_tbl wsL_law0_r3 := goodIn_of _ (by decide +kernel)
set_option maxRecDepth 20000 in
theorem gi_wsL_law0_r4 : GoodIn lw_tbl wsL_law0_r4 := goodIn_of _ (by decide +kernel)
set_option maxRecDepth 20000 in
theorem gi_wsL_law0_r5 : GoodIn lw_tbl wsL_law0_r5 := goodIn_of _ (by decide +kernel)
set_option maxRecDepth 20000 in
theorem gi_wsL_law0_r6 : GoodIn lw_tbl wsL_law0_r6 := goodIn_of _ (by decide +kernel)
set_option maxRecDepth 20000 in
theorem gi_wsL_law0_r7 : GoodIn lw_tbl wsL_law0_r7 := goodIn_of _ (by decide +kernel)
set_option maxRecDepth 20000 in
theorem gi_wsL_law0_r8 : GoodIn lw_tbl wsL_law0_r8 := goodIn_of _ (by decide +kernel)
set_option maxRecDepth 20000 in
theorem gi_wsL_law0_r9 : GoodIn lw_tbl wsL_law0_r9 := goodIn_of _ (by decide +kernel)
set_option maxRecDepth 20000 in
theorem gi_wsL_law0_r10 : GoodIn lw_tbl wsL_law0_r10 := goodIn_of _ (by decide +kernel)
set_option maxRecDepth 20000 in
theorem gi_wsL_law0_r11 : GoodIn lw_tbl wsL_law0_r11 := goodIn_of _ (by decide +kernel)
set_option maxRecDepth 20000 in
theorem gi_wsL_law0_r12 : GoodIn lw_tbl wsL_law0_r12 := goodIn_of _ (by decide +kernel)
set_option maxRecDepth 20000 in
theorem gi_wsL_law0_r13 : GoodIn lw_tbl wsL_law0_r13 := goodIn_of _ (by decide +kernel)
set_option maxRecDepth 20000 in
theorem gi_wsL_law0_r14 : GoodIn lw_tbl wsL_law0_r14 := goodIn_of _ (by decide +kernel)
set_option maxRecDepth 20000 in
theorem gi_wsL_law0_r15 : GoodIn lw_tbl wsL_law0_r15 := goodIn_of _ (by decide +kernel)
set_option maxRecDepth 20000 in
theorem gi_wsL_law0_r16 : GoodIn lw_tbl wsL_law0_r16 := goodIn_of _ (by decide +kernel)
set_option maxRecDepth 20000 in
theorem gi_wsL_law0_r17 : GoodIn lw_tbl wsL_law0_r17 := goodIn_of _ (by decide +kernel)
set_option maxRecDepth 20000 in
theorem gi_wsL_law0_r18 : GoodIn lw_tbl wsL_law0_r18 := goodIn_of _ (by decide +kernel)
set_option maxRecDepth 20000 in
theorem gi_wsL_law0_r19 : GoodIn lw_tbl wsL_law0_r19 := goodIn_of _ (by decide +kernel)
set_option maxRecDepth 20000 in
theorem gi_wsL_law0_r20 : GoodIn lw_tbl wsL_law0_r20 := goodIn_of _ (by decide +kernel)
set_option maxRecDepth 20000 in
theorem gi_wsL_law0_r21 : GoodIn lw_tbl wsL_law0_r21 := goodIn_of _ (by decide +kernel)
set_option maxRecDepth 20000 in
theorem gi_wsL_law0_r22 : GoodIn lw_tbl wsL_law0_r22 := goodIn_of _ (by decide +kernel)
set_option maxRecDepth 20000 in
theorem gi_wsL_law0_r23 : GoodIn lw_tbl wsL_law0_r23 := goodIn_of _ (by decide +kernel)
set_option maxRecDepth 20000 in
theorem gi_wsL_law0_r24 : GoodIn lw_tbl wsL_law0_r24 := goodIn_of _ (by decide +kernel)
set_option maxRecDepth 20000 in
theorem gi_wsL_law0_r25 : GoodIn lw_tbl wsL_law0_r25 := goodIn_of _ (by decide +kernel)
set_option maxRecDepth 20000 in
theorem gi_wsL_law0_r26 : GoodIn lw_tbl wsL_law0_r26 := goodIn_of _ (by decide +kernel)
set_option maxRecDepth 20000 in
theorem gi_wsL_law0_r27 : GoodIn lw_tbl wsL_law0_r27 := goodIn_of _ (by decide +kernel)
set_option maxRecDepth 20000 in
theorem gi_wsL_law0_r28 : GoodIn lw_tbl wsL_law0_r28 := goodIn_of _ (by decide +kernel)
set_option maxRecDepth 20000 in
theorem gi_wsL_law0_r29 : GoodIn lw_tbl wsL_law0_r29 := goodIn_of _ (by decide +kernel)
set_option maxRecDepth 20000 in
theorem gi_wsL_law0_r30 : GoodIn lw_tbl wsL_law0_r30 := goodIn_of _ (by decide +kernel)
set_option maxRecDepth 20000 in
theorem gi_wsL_law0_r31 : GoodIn lw_tbl wsL_law0_r31 := goodIn_of _ (by decide +kernel)
set_option maxRecDepth 20000 in
theorem gi_wsL_law0_r32 : GoodIn lw_tbl wsL_law0_r32 := goodIn_of _ (by decide +kernel)
set_option maxRecDepth 20000 in
theorem gi_wsL_law0_r33 : GoodIn lw_tbl wsL_law0_r33 := goodIn_of _ (by decide +kernel)
set_option maxRecDepth 20000 in
theorem gi_wsL_law0_r34 : GoodIn lw_tbl wsL_law0_r34 := goodIn_of _ (by decide +kernel)
set_option maxRecDepth 20000 in
theorem gi_wsL_law0_r35 : GoodIn lw_tbl wsL_law0_r35 := goodIn_of _ (by decide +kernel)
set_option maxRecDepth 20000 in
theorem gi_wsL_law0_r36 : GoodIn lw_tbl wsL_law0_r36 := goodIn_of _ (by decide +kernel)
set_option maxRecDepth 20000 in
theorem gi_wsL_law0_r37 : GoodIn lw_tbl wsL_law0_r37 := goodIn_of _ (by decide +kernel)
set_option maxRecDepth 20000 in
theorem gi_wsL_law0_r38 : GoodIn lw_tbl wsL_law0_r38 := goodIn_of _ (by decide +kernel)
set_option maxRecDepth 20000 in
theorem gi_wsX70 : GoodIn lw_tbl wsX70 := goodIn_of _ (by decide +kernel)
set_option maxRecDepth 20000 in
theorem gi_wsX80 : GoodIn lw_tbl wsX80 := goodIn_of _ (by decide +kernel)
set_option maxRecDepth 20000 in
theorem gi_wsX20 : GoodIn lw_tbl wsX20 := goodIn_of _ (by decide +kernel)
set_option maxRecDepth 20000 in
theorem gi_wsX30 : GoodIn lw_tbl wsX30 := goodIn_of _ (by decide +kernel)
set_option maxRecDepth 20000 in
theorem gi_wsX10 : GoodIn lw_tbl wsX10 := goodIn_of _ (by decide +kernel)
set_option maxRecDepth 20000 in
theorem gi_wsX00 : GoodIn lw_tbl wsX00 := goodIn_of _ (by decide +kernel)
set_option maxRecDepth 20000 in
theorem gi_wsX60 : GoodIn lw_tbl wsX60 := goodIn_of _ (by decide +kernel)
set_option maxRecDepth 20000 in
theorem gi_wsX40 : GoodIn lw_tbl wsX40 := goodIn_of _ (by decide +kernel)
set_option maxRecDepth 20000 in
theorem gi_wsX50 : GoodIn lw_tbl wsX50 := goodIn_of _ (by decide +kernel)
theorem gi_law0 : GoodIn lw_tbl wsL_law0 := goodIn_app (goodIn_app (goodIn_app (goodIn_app (goodIn_app (goodIn_app (goodIn_app (goodIn_app (goodIn_app (goodIn_app (goodIn_app gi_wsL_law0_r1 (goodIn_app gi_wsL_law0_r2 (goodIn_app gi_wsL_law0_r3 (goodIn_app gi_wsL_law0_r4 (goodIn_app gi_wsL_law0_r5 (goodIn_app gi_wsL_law0_r6 (goodIn_app gi_wsL_law0_r7 (goodIn_app gi_wsL_law0_r8 (goodIn_app gi_wsL_law0_r9 (goodIn_app gi_wsL_law0_r10 (goodIn_app gi_wsL_law0_r11 (goodIn_app gi_wsL_law0_r12 (goodIn_app gi_wsL_law0_r13 (goodIn_app gi_wsL_law0_r14 (goodIn_app gi_wsL_law0_r15 (goodIn_app gi_wsL_law0_r16 (goodIn_app gi_wsL_law0_r17 (goodIn_app gi_wsL_law0_r18 (goodIn_app gi_wsL_law0_r19 (goodIn_app gi_wsL_law0_r20 (goodIn_app gi_wsL_law0_r21 (goodIn_app gi_wsL_law0_r22 (goodIn_app gi_wsL_law0_r23 (goodIn_app gi_wsL_law0_r24 (goodIn_app gi_wsL_law0_r25 (goodIn_app gi_wsL_law0_r26 (goodIn_app gi_wsL_law0_r27 (goodIn_app gi_wsL_law0_r28 (goodIn_app gi_wsL_law0_r29 (goodIn_app gi_wsL_law0_r30 (goodIn_app gi_wsL_law0_r31 (goodIn_app gi_wsL_law0_r32 (goodIn_app gi_wsL_law0_r33 (goodIn_app gi_wsL_law0_r34 (goodIn_app gi_wsL_law0_r35 (goodIn_app gi_wsL_law0_r36 (goodIn_app gi_wsL_law0_r37 (gi_wsL_law0_r38)))))))))))))))))))))))))))))))))))))) gi_wsX70) gi_wsX80) gi_wsX20) gi_wsX30) gi_wsX10) gi_wsX00) gi_wsX60) gi_wsX40) gi_wsX50) (fun _ h => absurd h List.not_mem_nil)
theorem in_wsX70 : ∀ w ∈ wsX70, w ∈ wsL_law0 := fun _ h => List.mem_append_left _ (List.mem_append_left _ (List.mem_append_left _ (List.mem_append_left _ (List.mem_append_left _ (List.mem_append_left _ (List.mem_append_left _ (List.mem_append_left _ (List.mem_append_left _ (List.mem_append_right _ h)))))))))
theorem in_wsX80 : ∀ w ∈ wsX80, w ∈ wsL_law0 := fun _ h => List.mem_append_left _ (List.mem_append_left _ (List.mem_append_left _ (List.mem_append_left _ (List.mem_append_left _ (List.mem_append_left _ (List.mem_append_left _ (List.mem_append_left _ (List.mem_append_right _ h))))))))
theorem in_wsX20 : ∀ w ∈ wsX20, w ∈ wsL_law0 := fun _ h => List.mem_append_left _ (List.mem_append_left _ (List.mem_append_left _ (List.mem_append_left _ (List.mem_append_left _ (List.mem_append_left _ (List.mem_append_left _ (List.mem_append_right _ h)))))))
theorem in_wsX30 : ∀ w ∈ wsX30, w ∈ wsL_law0 := fun _ h => List.mem_append_left _ (List.mem_append_left _ (List.mem_append_left _ (List.mem_append_left _ (List.mem_append_left _ (List.mem_append_left _ (List.mem_append_right _ h))))))
theorem in_wsX10 : ∀ w ∈ wsX10, w ∈ wsL_law0 := fun _ h => List.mem_append_left _ (List.mem_append_left _ (List.mem_append_left _ (List.mem_append_left _ (List.mem_append_left _ (List.mem_append_right _ h)))))
theorem in_wsX00 : ∀ w ∈ wsX00, w ∈ wsL_law0 := fun _ h => List.mem_append_left _ (List.mem_append_left _ (List.mem_append_left _ (List.mem_append_left _ (List.mem_append_right _ h))))
theorem in_wsX60 : ∀ w ∈ wsX60, w ∈ wsL_law0 := fun _ h => List.mem_append_left _ (List.mem_append_left _ (List.mem_append_left _ (List.mem_append_right _ h)))
theorem in_wsX40 : ∀ w ∈ wsX40, w ∈ wsL_law0 := fun _ h => List.mem_append_left _ (List.mem_append_left _ (List.mem_append_right _ h))
theorem in_wsX50 : ∀ w ∈ wsX50, w ∈ wsL_law0 := fun _ h => List.mem_append_left _ (List.mem_append_right _ h)
end
section
theorem dX0_init_0 : decode cX0_init 0 = .ok (.aload_n 0, 1) := by decide +kernel
theorem dX0_init_1 : decode cX0_init 1 = .ok (.invokespecial 3, 3) := by decide +kernel
theorem dX0_init_4 : decode cX0_init 4 = .ok (.aload_n 0, 1) := by decide +kernel
theorem dX0_init_5 : decode cX0_init 5 = .ok (.sipush 202, 3) := by decide +kernel
theorem dX0_init_8 : decode cX0_init 8 = .ok (.newarray .long, 2) := by decide +kernel
theorem dX0_init_10 : decode cX0_init 10 = .ok (.putfield 9, 3) := by decide +kernel
theorem dX0_init_13 : decode cX0_init 13 = .ok (.aload_n 0, 1) := by decide +kernel
theorem dX0_init_14 : decode cX0_init 14 = .ok (.sipush 202, 3) := by decide +kernel
theorem dX0_init_17 : decode cX0_init 17 = .ok (.newarray .int, 2) := by decide +kernel
theorem dX0_init_19 : decode cX0_init 19 = .ok (.putfield 15, 3) := by decide +kernel
theorem dX0_init_22 : decode cX0_init 22 = .ok (.return_, 1) := by decide +kernel
theorem dX0_isEmpty_0 : decode cX0_isEmpty 0 = .ok (.aload_n 0, 1) := by decide +kernel
theorem dX0_isEmpty_1 : decode cX0_isEmpty 1 = .ok (.getfield 19, 3) := by decide +kernel
theorem dX0_isEmpty_4 : decode cX0_isEmpty 4 = .ok (.ifCond .ne 7, 3) := by decide +kernel
theorem dX0_isEmpty_7 : decode cX0_isEmpty 7 = .ok (.iconst 1, 1) := by decide +kernel
theorem dX0_isEmpty_8 : decode cX0_isEmpty 8 = .ok (.goto 4, 3) := by decide +kernel
theorem dX0_isEmpty_11 : decode cX0_isEmpty 11 = .ok (.iconst 0, 1) := by decide +kernel
theorem dX0_isEmpty_12 : decode cX0_isEmpty 12 = .ok (.ireturn, 1) := by decide +kernel
theorem dX0_forget_0 : decode cX0_forget 0 = .ok (.aload_n 0, 1) := by decide +kernel
theorem dX0_forget_1 : decode cX0_forget 1 = .ok (.iconst 0, 1) := by decide +kernel
theorem dX0_forget_2 : decode cX0_forget 2 = .ok (.putfield 19, 3) := by decide +kernel
theorem dX0_forget_5 : decode cX0_forget 5 = .ok (.return_, 1) := by decide +kernel
theorem dX0_put_0 : decode cX0_put 0 = .ok (.aload_n 0, 1) := by decide +kernel
theorem dX0_put_1 : decode cX0_put 1 = .ok (.getfield 19, 3) := by decide +kernel
theorem dX0_put_4 : decode cX0_put 4 = .ok (.aload_n 0, 1) := by decide +kernel
theorem dX0_put_5 : decode cX0_put 5 = .ok (.getfield 15, 3) := by decide +kernel
theorem dX0_put_8 : decode cX0_put 8 = .ok (.arraylength, 1) := by decide +kernel
theorem dX0_put_9 : decode cX0_put 9 = .ok (.if_icmp .ge 33, 3) := by decide +kernel
theorem dX0_put_12 : decode cX0_put 12 = .ok (.aload_n 0, 1) := by decide +kernel
theorem dX0_put_13 : decode cX0_put 13 = .ok (.getfield 9, 3) := by decide +kernel
theorem dX0_put_16 : decode cX0_put 16 = .ok (.aload_n 0, 1) := by decide +kernel
theorem dX0_put_17 : decode cX0_put 17 = .ok (.getfield 19, 3) := by decide +kernel
theorem dX0_put_20 : decode cX0_put 20 = .ok (.lload_n 1, 1) := by decide +kernel
theorem dX0_put_21 : decode cX0_put 21 = .ok (.lastore, 1) := by decide +kernel
theorem dX0_put_22 : decode cX0_put 22 = .ok (.aload_n 0, 1) := by decide +kernel
theorem dX0_put_23 : decode cX0_put 23 = .ok (.getfield 15, 3) := by decide +kernel
theorem dX0_put_26 : decode cX0_put 26 = .ok (.aload_n 0, 1) := by decide +kernel
theorem dX0_put_27 : decode cX0_put 27 = .ok (.getfield 19, 3) := by decide +kernel
theorem dX0_put_30 : decode cX0_put 30 = .ok (.iload_n 3, 1) := by decide +kernel
theorem dX0_put_31 : decode cX0_put 31 = .ok (.iastore, 1) := by decide +kernel
theorem dX0_put_32 : decode cX0_put 32 = .ok (.aload_n 0, 1) := by decide +kernel
theorem dX0_put_33 : decode cX0_put 33 = .ok (.dup, 1) := by decide +kernel
theorem dX0_put_34 : decode cX0_put 34 = .ok (.getfield 19, 3) := by decide +kernel
theorem dX0_put_37 : decode cX0_put 37 = .ok (.iconst 1, 1) := by decide +kernel
theorem dX0_put_38 : decode cX0_put 38 = .ok (.iadd, 1) := by decide +kernel
theorem dX0_put_39 : decode cX0_put 39 = .ok (.putfield 19, 3) := by decide +kernel
theorem dX0_put_42 : decode cX0_put 42 = .ok (.return_, 1) := by decide +kernel
theorem dX0_lastAlternatives_0 : decode cX0_lastAlternatives 0 = .ok (.aload_n 0, 1) := by decide +kernel
theorem dX0_lastAlternatives_1 : decode cX0_lastAlternatives 1 = .ok (.getfield 19, 3) := by decide +kernel
theorem dX0_lastAlternatives_4 : decode cX0_lastAlternatives 4 = .ok (.ifCond .le 29, 3) := by decide +kernel
theorem dX0_lastAlternatives_7 : decode cX0_lastAlternatives 7 = .ok (.aload_n 0, 1) := by decide +kernel
theorem dX0_lastAlternatives_8 : decode cX0_lastAlternatives 8 = .ok (.getfield 19, 3) := by decide +kernel
theorem dX0_lastAlternatives_11 : decode cX0_lastAlternatives 11 = .ok (.aload_n 0, 1) := by decide +kernel
theorem dX0_lastAlternatives_12 : decode cX0_lastAlternatives 12 = .ok (.getfield 9, 3) := by decide +kernel
theorem dX0_lastAlternatives_15 : decode cX0_lastAlternatives 15 = .ok (.arraylength, 1) := by decide +kernel
theorem dX0_lastAlternatives_16 : decode cX0_lastAlternatives 16 = .ok (.if_icmp .gt 17, 3) := by decide +kernel
theorem dX0_lastAlternatives_19 : decode cX0_lastAlternatives 19 = .ok (.aload_n 0, 1) := by decide +kernel
theorem dX0_lastAlternatives_20 : decode cX0_lastAlternatives 20 = .ok (.getfield 9, 3) := by decide +kernel
theorem dX0_lastAlternatives_23 : decode cX0_lastAlternatives 23 = .ok (.aload_n 0, 1) := by decide +kernel
theorem dX0_lastAlternatives_24 : decode cX0_lastAlternatives 24 = .ok (.getfield 19, 3) := by decide +kernel
theorem dX0_lastAlternatives_27 : decode cX0_lastAlternatives 27 = .ok (.iconst 1, 1) := by decide +kernel
theorem dX0_lastAlternatives_28 : decode cX0_lastAlternatives 28 = .ok (.isub, 1) := by decide +kernel
theorem dX0_lastAlternatives_29 : decode cX0_lastAlternatives 29 = .ok (.laload, 1) := by decide +kernel
theorem dX0_lastAlternatives_30 : decode cX0_lastAlternatives 30 = .ok (.goto 4, 3) := by decide +kernel
theorem dX0_lastAlternatives_33 : decode cX0_lastAlternatives 33 = .ok (.lconst 0, 1) := by decide +kernel
theorem dX0_lastAlternatives_34 : decode cX0_lastAlternatives 34 = .ok (.lreturn, 1) := by decide +kernel
theorem dX0_lastLength_0 : decode cX0_lastLength 0 = .ok (.aload_n 0, 1) := by decide +kernel
theorem dX0_lastLength_1 : decode cX0_lastLength 1 = .ok (.getfield 19, 3) := by decide +kernel
theorem dX0_lastLength_4 : decode cX0_lastLength 4 = .ok (.ifCond .le 29, 3) := by decide +kernel
theorem dX0_lastLength_7 : decode cX0_lastLength 7 = .ok (.aload_n 0, 1) := by decide +kernel
theorem dX0_lastLength_8 : decode cX0_lastLength 8 = .ok (.getfield 19, 3) := by decide +kernel
theorem dX0_lastLength_11 : decode cX0_lastLength 11 = .ok (.aload_n 0, 1) := by decide +kernel
theorem dX0_lastLength_12 : decode cX0_lastLength 12 = .ok (.getfield 15, 3) := by decide +kernel
theorem dX0_lastLength_15 : decode cX0_lastLength 15 = .ok (.arraylength, 1) := by decide +kernel
theorem dX0_lastLength_16 : decode cX0_lastLength 16 = .ok (.if_icmp .gt 17, 3) := by decide +kernel
theorem dX0_lastLength_19 : decode cX0_lastLength 19 = .ok (.aload_n 0, 1) := by decide +kernel
theorem dX0_lastLength_20 : decode cX0_lastLength 20 = .ok (.getfield 15, 3) := by decide +kernel
theorem dX0_lastLength_23 : decode cX0_lastLength 23 = .ok (.aload_n 0, 1) := by decide +kernel
theorem dX0_lastLength_24 : decode cX0_lastLength 24 = .ok (.getfield 19, 3) := by decide +kernel
theorem dX0_lastLength_27 : decode cX0_lastLength 27 = .ok (.iconst 1, 1) := by decide +kernel
theorem dX0_lastLength_28 : decode cX0_lastLength 28 = .ok (.isub, 1) := by decide +kernel
theorem dX0_lastLength_29 : decode cX0_lastLength 29 = .ok (.iaload, 1) := by decide +kernel
theorem dX0_lastLength_30 : decode cX0_lastLength 30 = .ok (.goto 4, 3) := by decide +kernel
theorem dX0_lastLength_33 : decode cX0_lastLength 33 = .ok (.iconst 0, 1) := by decide +kernel
theorem dX0_lastLength_34 : decode cX0_lastLength 34 = .ok (.ireturn, 1) := by decide +kernel
theorem dX0_dropLast_0 : decode cX0_dropLast 0 = .ok (.aload_n 0, 1) := by decide +kernel
theorem dX0_dropLast_1 : decode cX0_dropLast 1 = .ok (.getfield 19, 3) := by decide +kernel
theorem dX0_dropLast_4 : decode cX0_dropLast 4 = .ok (.ifCond .le 13, 3) := by decide +kernel
theorem dX0_dropLast_7 : decode cX0_dropLast 7 = .ok (.aload_n 0, 1) := by decide +kernel
theorem dX0_dropLast_8 : decode cX0_dropLast 8 = .ok (.dup, 1) := by decide +kernel
theorem dX0_dropLast_9 : decode cX0_dropLast 9 = .ok (.getfield 19, 3) := by decide +kernel
theorem dX0_dropLast_12 : decode cX0_dropLast 12 = .ok (.iconst 1, 1) := by decide +kernel
theorem dX0_dropLast_13 : decode cX0_dropLast 13 = .ok (.isub, 1) := by decide +kernel
theorem dX0_dropLast_14 : decode cX0_dropLast 14 = .ok (.putfield 19, 3) := by decide +kernel
theorem dX0_dropLast_17 : decode cX0_dropLast 17 = .ok (.return_, 1) := by decide +kernel
theorem dX0_takeAllOf_0 : decode cX0_takeAllOf 0 = .ok (.aload_n 1, 1) := by decide +kernel
theorem dX0_takeAllOf_1 : decode cX0_takeAllOf 1 = .ok (.getfield 19, 3) := by decide +kernel
theorem dX0_takeAllOf_4 : decode cX0_takeAllOf 4 = .ok (.istore_n 2, 1) := by decide +kernel
theorem dX0_takeAllOf_5 : decode cX0_takeAllOf 5 = .ok (.iload_n 2, 1) := by decide +kernel
theorem dX0_takeAllOf_6 : decode cX0_takeAllOf 6 = .ok (.ifCond .le 25, 3) := by decide +kernel
theorem dX0_takeAllOf_9 : decode cX0_takeAllOf 9 = .ok (.aload_n 0, 1) := by decide +kernel
theorem dX0_takeAllOf_10 : decode cX0_takeAllOf 10 = .ok (.aload_n 1, 1) := by decide +kernel
theorem dX0_takeAllOf_11 : decode cX0_takeAllOf 11 = .ok (.invokevirtual 23, 3) := by decide +kernel
theorem dX0_takeAllOf_14 : decode cX0_takeAllOf 14 = .ok (.aload_n 1, 1) := by decide +kernel
theorem dX0_takeAllOf_15 : decode cX0_takeAllOf 15 = .ok (.invokevirtual 27, 3) := by decide +kernel
theorem dX0_takeAllOf_18 : decode cX0_takeAllOf 18 = .ok (.invokevirtual 31, 3) := by decide +kernel
theorem dX0_takeAllOf_21 : decode cX0_takeAllOf 21 = .ok (.aload_n 1, 1) := by decide +kernel
theorem dX0_takeAllOf_22 : decode cX0_takeAllOf 22 = .ok (.invokevirtual 35, 3) := by decide +kernel
theorem dX0_takeAllOf_25 : decode cX0_takeAllOf 25 = .ok (.iinc 2 (-1), 3) := by decide +kernel
theorem dX0_takeAllOf_28 : decode cX0_takeAllOf 28 = .ok (.goto (-23), 3) := by decide +kernel
theorem dX0_takeAllOf_31 : decode cX0_takeAllOf 31 = .ok (.return_, 1) := by decide +kernel
theorem dX1_init_0 : decode cX1_init 0 = .ok (.aload_n 0, 1) := by decide +kernel
theorem dX1_init_1 : decode cX1_init 1 = .ok (.invokespecial 3, 3) := by decide +kernel
theorem dX1_init_4 : decode cX1_init 4 = .ok (.aload_n 0, 1) := by decide +kernel
theorem dX1_init_5 : decode cX1_init 5 = .ok (.new 9, 3) := by decide +kernel
theorem dX1_init_8 : decode cX1_init 8 = .ok (.dup, 1) := by decide +kernel
theorem dX1_init_9 : decode cX1_init 9 = .ok (.bipush 100, 2) := by decide +kernel
theorem dX1_init_11 : decode cX1_init 11 = .ok (.invokespecial 11, 3) := by decide +kernel
theorem dX1_init_14 : decode cX1_init 14 = .ok (.putfield 14, 3) := by decide +kernel
theorem dX1_init_17 : decode cX1_init 17 = .ok (.return_, 1) := by decide +kernel
theorem dX1_tokens_0 : decode cX1_tokens 0 = .ok (.aload_n 0, 1) := by decide +kernel
theorem dX1_tokens_1 : decode cX1_tokens 1 = .ok (.getfield 14, 3) := by decide +kernel
theorem dX1_tokens_4 : decode cX1_tokens 4 = .ok (.areturn, 1) := by decide +kernel
theorem dX1_decisions_0 : decode cX1_decisions 0 = .ok (.aload_n 0, 1) := by decide +kernel
theorem dX1_decisions_1 : decode cX1_decisions 1 = .ok (.getfield 20, 3) := by decide +kernel
theorem dX1_decisions_4 : decode cX1_decisions 4 = .ok (.ireturn, 1) := by decide +kernel
theorem dX1_labour_0 : decode cX1_labour 0 = .ok (.aload_n 0, 1) := by decide +kernel
theorem dX1_labour_1 : decode cX1_labour 1 = .ok (.getfield 24, 3) := by decide +kernel
theorem dX1_labour_4 : decode cX1_labour 4 = .ok (.ireturn, 1) := by decide +kernel
theorem dX1_alternativeAt_0 : decode cX1_alternativeAt 0 = .ok (.iload_n 1, 1) := by decide +kernel
theorem dX1_alternativeAt_1 : decode cX1_alternativeAt 1 = .ok (.ifCond .lt 23, 3) := by decide +kernel
theorem dX1_alternativeAt_4 : decode cX1_alternativeAt 4 = .ok (.iload_n 1, 1) := by decide +kernel
theorem dX1_alternativeAt_5 : decode cX1_alternativeAt 5 = .ok (.aload_n 0, 1) := by decide +kernel
theorem dX1_alternativeAt_6 : decode cX1_alternativeAt 6 = .ok (.getfield 20, 3) := by decide +kernel
theorem dX1_alternativeAt_9 : decode cX1_alternativeAt 9 = .ok (.if_icmp .ge 15, 3) := by decide +kernel
theorem dX1_alternativeAt_12 : decode cX1_alternativeAt 12 = .ok (.aload_n 0, 1) := by decide +kernel
theorem dX1_alternativeAt_13 : decode cX1_alternativeAt 13 = .ok (.getfield 27, 3) := by decide +kernel
theorem dX1_alternativeAt_16 : decode cX1_alternativeAt 16 = .ok (.iload_n 1, 1) := by decide +kernel
theorem dX1_alternativeAt_17 : decode cX1_alternativeAt 17 = .ok (.lushr, 1) := by decide +kernel
theorem dX1_alternativeAt_18 : decode cX1_alternativeAt 18 = .ok (.lconst 1, 1) := by decide +kernel
theorem dX1_alternativeAt_19 : decode cX1_alternativeAt 19 = .ok (.land, 1) := by decide +kernel
theorem dX1_alternativeAt_20 : decode cX1_alternativeAt 20 = .ok (.l2i, 1) := by decide +kernel
theorem dX1_alternativeAt_21 : decode cX1_alternativeAt 21 = .ok (.goto 4, 3) := by decide +kernel
theorem dX1_alternativeAt_24 : decode cX1_alternativeAt 24 = .ok (.iconst (-1), 1) := by decide +kernel
theorem dX1_alternativeAt_25 : decode cX1_alternativeAt 25 = .ok (.ireturn, 1) := by decide +kernel
theorem dX1_forget_0 : decode cX1_forget 0 = .ok (.aload_n 0, 1) := by decide +kernel
theorem dX1_forget_1 : decode cX1_forget 1 = .ok (.getfield 14, 3) := by decide +kernel
theorem dX1_forget_4 : decode cX1_forget 4 = .ok (.iconst 0, 1) := by decide +kernel
theorem dX1_forget_5 : decode cX1_forget 5 = .ok (.invokevirtual 31, 3) := by decide +kernel
theorem dX1_forget_8 : decode cX1_forget 8 = .ok (.aload_n 0, 1) := by decide +kernel
theorem dX1_forget_9 : decode cX1_forget 9 = .ok (.lconst 0, 1) := by decide +kernel
theorem dX1_forget_10 : decode cX1_forget 10 = .ok (.putfield 27, 3) := by decide +kernel
theorem dX1_forget_13 : decode cX1_forget 13 = .ok (.aload_n 0, 1) := by decide +kernel
theorem dX1_forget_14 : decode cX1_forget 14 = .ok (.iconst 0, 1) := by decide +kernel
theorem dX1_forget_15 : decode cX1_forget 15 = .ok (.putfield 20, 3) := by decide +kernel
theorem dX1_forget_18 : decode cX1_forget 18 = .ok (.aload_n 0, 1) := by decide +kernel
theorem dX1_forget_19 : decode cX1_forget 19 = .ok (.iconst 0, 1) := by decide +kernel
theorem dX1_forget_20 : decode cX1_forget 20 = .ok (.putfield 24, 3) := by decide +kernel
theorem dX1_forget_23 : decode cX1_forget 23 = .ok (.return_, 1) := by decide +kernel
theorem dX1_keep_0 : decode cX1_keep 0 = .ok (.aload_n 3, 1) := by decide +kernel
theorem dX1_keep_1 : decode cX1_keep 1 = .ok (.invokevirtual 34, 3) := by decide +kernel
theorem dX1_keep_4 : decode cX1_keep 4 = .ok (.astore 4, 2) := by decide +kernel
theorem dX1_keep_6 : decode cX1_keep 6 = .ok (.aload_n 0, 1) := by decide +kernel
theorem dX1_keep_7 : decode cX1_keep 7 = .ok (.getfield 14, 3) := by decide +kernel
theorem dX1_keep_10 : decode cX1_keep 10 = .ok (.iconst 0, 1) := by decide +kernel
theorem dX1_keep_11 : decode cX1_keep 11 = .ok (.invokevirtual 31, 3) := by decide +kernel
theorem dX1_keep_14 : decode cX1_keep 14 = .ok (.aload_n 0, 1) := by decide +kernel
theorem dX1_keep_15 : decode cX1_keep 15 = .ok (.getfield 14, 3) := by decide +kernel
theorem dX1_keep_18 : decode cX1_keep 18 = .ok (.aload 4, 2) := by decide +kernel
theorem dX1_keep_20 : decode cX1_keep 20 = .ok (.iconst 0, 1) := by decide +kernel
theorem dX1_keep_21 : decode cX1_keep 21 = .ok (.aload 4, 2) := by decide +kernel
theorem dX1_keep_23 : decode cX1_keep 23 = .ok (.invokevirtual 39, 3) := by decide +kernel
theorem dX1_keep_26 : decode cX1_keep 26 = .ok (.invokevirtual 43, 3) := by decide +kernel
theorem dX1_keep_29 : decode cX1_keep 29 = .ok (.pop, 1) := by decide +kernel
theorem dX1_keep_30 : decode cX1_keep 30 = .ok (.aload_n 0, 1) := by decide +kernel
theorem dX1_keep_31 : decode cX1_keep 31 = .ok (.lload_n 1, 1) := by decide +kernel
theorem dX1_keep_32 : decode cX1_keep 32 = .ok (.putfield 27, 3) := by decide +kernel
theorem dX1_keep_35 : decode cX1_keep 35 = .ok (.aload_n 0, 1) := by decide +kernel
theorem dX1_keep_36 : decode cX1_keep 36 = .ok (.aload_n 3, 1) := by decide +kernel
theorem dX1_keep_37 : decode cX1_keep 37 = .ok (.invokevirtual 47, 3) := by decide +kernel
theorem dX1_keep_40 : decode cX1_keep 40 = .ok (.putfield 20, 3) := by decide +kernel
theorem dX1_keep_43 : decode cX1_keep 43 = .ok (.aload_n 0, 1) := by decide +kernel
theorem dX1_keep_44 : decode cX1_keep 44 = .ok (.aload_n 3, 1) := by decide +kernel
theorem dX1_keep_45 : decode cX1_keep 45 = .ok (.invokevirtual 49, 3) := by decide +kernel
theorem dX1_keep_48 : decode cX1_keep 48 = .ok (.putfield 24, 3) := by decide +kernel
theorem dX1_keep_51 : decode cX1_keep 51 = .ok (.return_, 1) := by decide +kernel
theorem dX2_init_0 : decode cX2_init 0 = .ok (.aload_n 0, 1) := by decide +kernel
theorem dX2_init_1 : decode cX2_init 1 = .ok (.invokespecial 3, 3) := by decide +kernel
theorem dX2_init_4 : decode cX2_init 4 = .ok (.aload_n 0, 1) := by decide +kernel
theorem dX2_init_5 : decode cX2_init 5 = .ok (.bipush 60, 2) := by decide +kernel
theorem dX2_init_7 : decode cX2_init 7 = .ok (.newarray .int, 2) := by decide +kernel
theorem dX2_init_9 : decode cX2_init 9 = .ok (.putfield 9, 3) := by decide +kernel
theorem dX2_init_12 : decode cX2_init 12 = .ok (.aload_n 0, 1) := by decide +kernel
theorem dX2_init_13 : decode cX2_init 13 = .ok (.bipush 60, 2) := by decide +kernel
theorem dX2_init_15 : decode cX2_init 15 = .ok (.newarray .int, 2) := by decide +kernel
theorem dX2_init_17 : decode cX2_init 17 = .ok (.putfield 15, 3) := by decide +kernel
theorem dX2_init_20 : decode cX2_init 20 = .ok (.aload_n 0, 1) := by decide +kernel
theorem dX2_init_21 : decode cX2_init 21 = .ok (.bipush 60, 2) := by decide +kernel
theorem dX2_init_23 : decode cX2_init 23 = .ok (.newarray .int, 2) := by decide +kernel
theorem dX2_init_25 : decode cX2_init 25 = .ok (.putfield 18, 3) := by decide +kernel
theorem dX2_init_28 : decode cX2_init 28 = .ok (.aload_n 0, 1) := by decide +kernel
theorem dX2_init_29 : decode cX2_init 29 = .ok (.bipush 60, 2) := by decide +kernel
theorem dX2_init_31 : decode cX2_init 31 = .ok (.newarray .int, 2) := by decide +kernel
theorem dX2_init_33 : decode cX2_init 33 = .ok (.putfield 21, 3) := by decide +kernel
theorem dX2_init_36 : decode cX2_init 36 = .ok (.aload_n 0, 1) := by decide +kernel
theorem dX2_init_37 : decode cX2_init 37 = .ok (.bipush 60, 2) := by decide +kernel
theorem dX2_init_39 : decode cX2_init 39 = .ok (.newarray .long, 2) := by decide +kernel
theorem dX2_init_41 : decode cX2_init 41 = .ok (.putfield 24, 3) := by decide +kernel
theorem dX2_init_44 : decode cX2_init 44 = .ok (.return_, 1) := by decide +kernel
theorem dX2_size_0 : decode cX2_size 0 = .ok (.aload_n 0, 1) := by decide +kernel
theorem dX2_size_1 : decode cX2_size 1 = .ok (.getfield 28, 3) := by decide +kernel
theorem dX2_size_4 : decode cX2_size 4 = .ok (.ireturn, 1) := by decide +kernel
theorem dX2_has_0 : decode cX2_has 0 = .ok (.iload_n 1, 1) := by decide +kernel
theorem dX2_has_1 : decode cX2_has 1 = .ok (.ifCond .lt 15, 3) := by decide +kernel
theorem dX2_has_4 : decode cX2_has 4 = .ok (.iload_n 1, 1) := by decide +kernel
theorem dX2_has_5 : decode cX2_has 5 = .ok (.aload_n 0, 1) := by decide +kernel
theorem dX2_has_6 : decode cX2_has 6 = .ok (.getfield 28, 3) := by decide +kernel
theorem dX2_has_9 : decode cX2_has 9 = .ok (.if_icmp .ge 7, 3) := by decide +kernel
theorem dX2_has_12 : decode cX2_has 12 = .ok (.iconst 1, 1) := by decide +kernel
theorem dX2_has_13 : decode cX2_has 13 = .ok (.goto 4, 3) := by decide +kernel
theorem dX2_has_16 : decode cX2_has 16 = .ok (.iconst 0, 1) := by decide +kernel
theorem dX2_has_17 : decode cX2_has 17 = .ok (.ireturn, 1) := by decide +kernel
theorem dX2_add_0 : decode cX2_add 0 = .ok (.aload_n 0, 1) := by decide +kernel
theorem dX2_add_1 : decode cX2_add 1 = .ok (.getfield 28, 3) := by decide +kernel
theorem dX2_add_4 : decode cX2_add 4 = .ok (.bipush 60, 2) := by decide +kernel
theorem dX2_add_6 : decode cX2_add 6 = .ok (.if_icmp .lt 5, 3) := by decide +kernel
theorem dX2_add_9 : decode cX2_add 9 = .ok (.iconst (-1), 1) := by decide +kernel
theorem dX2_add_10 : decode cX2_add 10 = .ok (.ireturn, 1) := by decide +kernel
theorem dX2_add_11 : decode cX2_add 11 = .ok (.aload_n 0, 1) := by decide +kernel
theorem dX2_add_12 : decode cX2_add 12 = .ok (.getfield 28, 3) := by decide +kernel
theorem dX2_add_15 : decode cX2_add 15 = .ok (.istore 5, 2) := by decide +kernel
theorem dX2_add_17 : decode cX2_add 17 = .ok (.aload_n 0, 1) := by decide +kernel
theorem dX2_add_18 : decode cX2_add 18 = .ok (.getfield 9, 3) := by decide +kernel
theorem dX2_add_21 : decode cX2_add 21 = .ok (.iload 5, 2) := by decide +kernel
theorem dX2_add_23 : decode cX2_add 23 = .ok (.iload_n 1, 1) := by decide +kernel
theorem dX2_add_24 : decode cX2_add 24 = .ok (.iastore, 1) := by decide +kernel
theorem dX2_add_25 : decode cX2_add 25 = .ok (.aload_n 0, 1) := by decide +kernel
theorem dX2_add_26 : decode cX2_add 26 = .ok (.getfield 15, 3) := by decide +kernel
theorem dX2_add_29 : decode cX2_add 29 = .ok (.iload 5, 2) := by decide +kernel
theorem dX2_add_31 : decode cX2_add 31 = .ok (.iload_n 2, 1) := by decide +kernel
theorem dX2_add_32 : decode cX2_add 32 = .ok (.iastore, 1) := by decide +kernel
theorem dX2_add_33 : decode cX2_add 33 = .ok (.aload_n 0, 1) := by decide +kernel
theorem dX2_add_34 : decode cX2_add 34 = .ok (.getfield 18, 3) := by decide +kernel
theorem dX2_add_37 : decode cX2_add 37 = .ok (.iload 5, 2) := by decide +kernel
theorem dX2_add_39 : decode cX2_add 39 = .ok (.iload_n 3, 1) := by decide +kernel
theorem dX2_add_40 : decode cX2_add 40 = .ok (.iastore, 1) := by decide +kernel
theorem dX2_add_41 : decode cX2_add 41 = .ok (.aload_n 0, 1) := by decide +kernel
theorem dX2_add_42 : decode cX2_add 42 = .ok (.getfield 21, 3) := by decide +kernel
theorem dX2_add_45 : decode cX2_add 45 = .ok (.iload 5, 2) := by decide +kernel
theorem dX2_add_47 : decode cX2_add 47 = .ok (.iload 4, 2) := by decide +kernel
theorem dX2_add_49 : decode cX2_add 49 = .ok (.iastore, 1) := by decide +kernel
theorem dX2_add_50 : decode cX2_add 50 = .ok (.aload_n 0, 1) := by decide +kernel
theorem dX2_add_51 : decode cX2_add 51 = .ok (.iload 5, 2) := by decide +kernel
theorem dX2_add_53 : decode cX2_add 53 = .ok (.iconst 1, 1) := by decide +kernel
theorem dX2_add_54 : decode cX2_add 54 = .ok (.iadd, 1) := by decide +kernel
theorem dX2_add_55 : decode cX2_add 55 = .ok (.putfield 28, 3) := by decide +kernel
theorem dX2_add_58 : decode cX2_add 58 = .ok (.iload 5, 2) := by decide +kernel
theorem dX2_add_60 : decode cX2_add 60 = .ok (.ireturn, 1) := by decide +kernel
theorem dX2_addNumber_0 : decode cX2_addNumber 0 = .ok (.aload_n 0, 1) := by decide +kernel
theorem dX2_addNumber_1 : decode cX2_addNumber 1 = .ok (.iconst 0, 1) := by decide +kernel
theorem dX2_addNumber_2 : decode cX2_addNumber 2 = .ok (.iconst (-1), 1) := by decide +kernel
theorem dX2_addNumber_3 : decode cX2_addNumber 3 = .ok (.iconst (-1), 1) := by decide +kernel
theorem dX2_addNumber_4 : decode cX2_addNumber 4 = .ok (.iconst (-1), 1) := by decide +kernel
theorem dX2_addNumber_5 : decode cX2_addNumber 5 = .ok (.invokevirtual 32, 3) := by decide +kernel
theorem dX2_addNumber_8 : decode cX2_addNumber 8 = .ok (.istore_n 3, 1) := by decide +kernel
theorem dX2_addNumber_9 : decode cX2_addNumber 9 = .ok (.iload_n 3, 1) := by decide +kernel
theorem dX2_addNumber_10 : decode cX2_addNumber 10 = .ok (.ifCond .lt 10, 3) := by decide +kernel
theorem dX2_addNumber_13 : decode cX2_addNumber 13 = .ok (.aload_n 0, 1) := by decide +kernel
theorem dX2_addNumber_14 : decode cX2_addNumber 14 = .ok (.getfield 24, 3) := by decide +kernel
theorem dX2_addNumber_17 : decode cX2_addNumber 17 = .ok (.iload_n 3, 1) := by decide +kernel
theorem dX2_addNumber_18 : decode cX2_addNumber 18 = .ok (.lload_n 1, 1) := by decide +kernel
theorem dX2_addNumber_19 : decode cX2_addNumber 19 = .ok (.lastore, 1) := by decide +kernel
theorem dX2_addNumber_20 : decode cX2_addNumber 20 = .ok (.iload_n 3, 1) := by decide +kernel
theorem dX2_addNumber_21 : decode cX2_addNumber 21 = .ok (.ireturn, 1) := by decide +kernel
theorem dX2_sortOf_0 : decode cX2_sortOf 0 = .ok (.aload_n 0, 1) := by decide +kernel
theorem dX2_sortOf_1 : decode cX2_sortOf 1 = .ok (.iload_n 1, 1) := by decide +kernel
theorem dX2_sortOf_2 : decode cX2_sortOf 2 = .ok (.invokevirtual 36, 3) := by decide +kernel
theorem dX2_sortOf_5 : decode cX2_sortOf 5 = .ok (.ifCond .eq 12, 3) := by decide +kernel
theorem dX2_sortOf_8 : decode cX2_sortOf 8 = .ok (.aload_n 0, 1) := by decide +kernel
theorem dX2_sortOf_9 : decode cX2_sortOf 9 = .ok (.getfield 9, 3) := by decide +kernel
theorem dX2_sortOf_12 : decode cX2_sortOf 12 = .ok (.iload_n 1, 1) := by decide +kernel
theorem dX2_sortOf_13 : decode cX2_sortOf 13 = .ok (.iaload, 1) := by decide +kernel
theorem dX2_sortOf_14 : decode cX2_sortOf 14 = .ok (.goto 4, 3) := by decide +kernel
theorem dX2_sortOf_17 : decode cX2_sortOf 17 = .ok (.iconst (-1), 1) := by decide +kernel
theorem dX2_sortOf_18 : decode cX2_sortOf 18 = .ok (.ireturn, 1) := by decide +kernel
theorem dX2_firstOf_0 : decode cX2_firstOf 0 = .ok (.aload_n 0, 1) := by decide +kernel
theorem dX2_firstOf_1 : decode cX2_firstOf 1 = .ok (.iload_n 1, 1) := by decide +kernel
theorem dX2_firstOf_2 : decode cX2_firstOf 2 = .ok (.invokevirtual 36, 3) := by decide +kernel
theorem dX2_firstOf_5 : decode cX2_firstOf 5 = .ok (.ifCond .eq 12, 3) := by decide +kernel
theorem dX2_firstOf_8 : decode cX2_firstOf 8 = .ok (.aload_n 0, 1) := by decide +kernel
theorem dX2_firstOf_9 : decode cX2_firstOf 9 = .ok (.getfield 15, 3) := by decide +kernel
theorem dX2_firstOf_12 : decode cX2_firstOf 12 = .ok (.iload_n 1, 1) := by decide +kernel
theorem dX2_firstOf_13 : decode cX2_firstOf 13 = .ok (.iaload, 1) := by decide +kernel
theorem dX2_firstOf_14 : decode cX2_firstOf 14 = .ok (.goto 4, 3) := by decide +kernel
theorem dX2_firstOf_17 : decode cX2_firstOf 17 = .ok (.iconst (-1), 1) := by decide +kernel
theorem dX2_firstOf_18 : decode cX2_firstOf 18 = .ok (.ireturn, 1) := by decide +kernel
theorem dX2_secondOf_0 : decode cX2_secondOf 0 = .ok (.aload_n 0, 1) := by decide +kernel
theorem dX2_secondOf_1 : decode cX2_secondOf 1 = .ok (.iload_n 1, 1) := by decide +kernel
theorem dX2_secondOf_2 : decode cX2_secondOf 2 = .ok (.invokevirtual 36, 3) := by decide +kernel
theorem dX2_secondOf_5 : decode cX2_secondOf 5 = .ok (.ifCond .eq 12, 3) := by decide +kernel
theorem dX2_secondOf_8 : decode cX2_secondOf 8 = .ok (.aload_n 0, 1) := by decide +kernel
theorem dX2_secondOf_9 : decode cX2_secondOf 9 = .ok (.getfield 18, 3) := by decide +kernel
theorem dX2_secondOf_12 : decode cX2_secondOf 12 = .ok (.iload_n 1, 1) := by decide +kernel
theorem dX2_secondOf_13 : decode cX2_secondOf 13 = .ok (.iaload, 1) := by decide +kernel
theorem dX2_secondOf_14 : decode cX2_secondOf 14 = .ok (.goto 4, 3) := by decide +kernel
theorem dX2_secondOf_17 : decode cX2_secondOf 17 = .ok (.iconst (-1), 1) := by decide +kernel
theorem dX2_secondOf_18 : decode cX2_secondOf 18 = .ok (.ireturn, 1) := by decide +kernel
theorem dX2_thirdOf_0 : decode cX2_thirdOf 0 = .ok (.aload_n 0, 1) := by decide +kernel
theorem dX2_thirdOf_1 : decode cX2_thirdOf 1 = .ok (.iload_n 1, 1) := by decide +kernel
theorem dX2_thirdOf_2 : decode cX2_thirdOf 2 = .ok (.invokevirtual 36, 3) := by decide +kernel
theorem dX2_thirdOf_5 : decode cX2_thirdOf 5 = .ok (.ifCond .eq 12, 3) := by decide +kernel
theorem dX2_thirdOf_8 : decode cX2_thirdOf 8 = .ok (.aload_n 0, 1) := by decide +kernel
theorem dX2_thirdOf_9 : decode cX2_thirdOf 9 = .ok (.getfield 21, 3) := by decide +kernel
theorem dX2_thirdOf_12 : decode cX2_thirdOf 12 = .ok (.iload_n 1, 1) := by decide +kernel
theorem dX2_thirdOf_13 : decode cX2_thirdOf 13 = .ok (.iaload, 1) := by decide +kernel
theorem dX2_thirdOf_14 : decode cX2_thirdOf 14 = .ok (.goto 4, 3) := by decide +kernel
theorem dX2_thirdOf_17 : decode cX2_thirdOf 17 = .ok (.iconst (-1), 1) := by decide +kernel
theorem dX2_thirdOf_18 : decode cX2_thirdOf 18 = .ok (.ireturn, 1) := by decide +kernel
theorem dX2_numberOf_0 : decode cX2_numberOf 0 = .ok (.aload_n 0, 1) := by decide +kernel
theorem dX2_numberOf_1 : decode cX2_numberOf 1 = .ok (.iload_n 1, 1) := by decide +kernel
theorem dX2_numberOf_2 : decode cX2_numberOf 2 = .ok (.invokevirtual 36, 3) := by decide +kernel
theorem dX2_numberOf_5 : decode cX2_numberOf 5 = .ok (.ifCond .eq 12, 3) := by decide +kernel
theorem dX2_numberOf_8 : decode cX2_numberOf 8 = .ok (.aload_n 0, 1) := by decide +kernel
theorem dX2_numberOf_9 : decode cX2_numberOf 9 = .ok (.getfield 24, 3) := by decide +kernel
theorem dX2_numberOf_12 : decode cX2_numberOf 12 = .ok (.iload_n 1, 1) := by decide +kernel
theorem dX2_numberOf_13 : decode cX2_numberOf 13 = .ok (.laload, 1) := by decide +kernel
theorem dX2_numberOf_14 : decode cX2_numberOf 14 = .ok (.goto 4, 3) := by decide +kernel
theorem dX2_numberOf_17 : decode cX2_numberOf 17 = .ok (.lconst 0, 1) := by decide +kernel
theorem dX2_numberOf_18 : decode cX2_numberOf 18 = .ok (.lreturn, 1) := by decide +kernel
theorem dX2_forget_0 : decode cX2_forget 0 = .ok (.aload_n 0, 1) := by decide +kernel
theorem dX2_forget_1 : decode cX2_forget 1 = .ok (.iconst 0, 1) := by decide +kernel
theorem dX2_forget_2 : decode cX2_forget 2 = .ok (.putfield 28, 3) := by decide +kernel
theorem dX2_forget_5 : decode cX2_forget 5 = .ok (.return_, 1) := by decide +kernel
theorem dX3_init_0 : decode cX3_init 0 = .ok (.aload_n 0, 1) := by decide +kernel
theorem dX3_init_1 : decode cX3_init 1 = .ok (.invokespecial 3, 3) := by decide +kernel
theorem dX3_init_4 : decode cX3_init 4 = .ok (.aload_n 0, 1) := by decide +kernel
theorem dX3_init_5 : decode cX3_init 5 = .ok (.new 9, 3) := by decide +kernel
theorem dX3_init_8 : decode cX3_init 8 = .ok (.dup, 1) := by decide +kernel
theorem dX3_init_9 : decode cX3_init 9 = .ok (.invokespecial 11, 3) := by decide +kernel
theorem dX3_init_12 : decode cX3_init 12 = .ok (.putfield 12, 3) := by decide +kernel
theorem dX3_init_15 : decode cX3_init 15 = .ok (.aload_n 0, 1) := by decide +kernel
theorem dX3_init_16 : decode cX3_init 16 = .ok (.new 18, 3) := by decide +kernel
theorem dX3_init_19 : decode cX3_init 19 = .ok (.dup, 1) := by decide +kernel
theorem dX3_init_20 : decode cX3_init 20 = .ok (.invokespecial 20, 3) := by decide +kernel
theorem dX3_init_23 : decode cX3_init 23 = .ok (.putfield 21, 3) := by decide +kernel
theorem dX3_init_26 : decode cX3_init 26 = .ok (.aload_n 0, 1) := by decide +kernel
theorem dX3_init_27 : decode cX3_init 27 = .ok (.new 18, 3) := by decide +kernel
theorem dX3_init_30 : decode cX3_init 30 = .ok (.dup, 1) := by decide +kernel
theorem dX3_init_31 : decode cX3_init 31 = .ok (.invokespecial 20, 3) := by decide +kernel
theorem dX3_init_34 : decode cX3_init 34 = .ok (.putfield 25, 3) := by decide +kernel
theorem dX3_init_37 : decode cX3_init 37 = .ok (.aload_n 0, 1) := by decide +kernel
theorem dX3_init_38 : decode cX3_init 38 = .ok (.iconst 1, 1) := by decide +kernel
theorem dX3_init_39 : decode cX3_init 39 = .ok (.putfield 28, 3) := by decide +kernel
theorem dX3_init_42 : decode cX3_init 42 = .ok (.aload_n 0, 1) := by decide +kernel
theorem dX3_init_43 : decode cX3_init 43 = .ok (.new 32, 3) := by decide +kernel
theorem dX3_init_46 : decode cX3_init 46 = .ok (.dup, 1) := by decide +kernel
theorem dX3_init_47 : decode cX3_init 47 = .ok (.aload_n 1, 1) := by decide +kernel
theorem dX3_init_48 : decode cX3_init 48 = .ok (.invokespecial 34, 3) := by decide +kernel
theorem dX3_init_51 : decode cX3_init 51 = .ok (.putfield 37, 3) := by decide +kernel
theorem dX3_init_54 : decode cX3_init 54 = .ok (.return_, 1) := by decide +kernel
theorem dX3_isThere_0 : decode cX3_isThere 0 = .ok (.aload_n 0, 1) := by decide +kernel
theorem dX3_isThere_1 : decode cX3_isThere 1 = .ok (.getfield 41, 3) := by decide +kernel
theorem dX3_isThere_4 : decode cX3_isThere 4 = .ok (.ireturn, 1) := by decide +kernel
theorem dX3_latest_0 : decode cX3_latest 0 = .ok (.aload_n 0, 1) := by decide +kernel
theorem dX3_latest_1 : decode cX3_latest 1 = .ok (.getfield 12, 3) := by decide +kernel
theorem dX3_latest_4 : decode cX3_latest 4 = .ok (.areturn, 1) := by decide +kernel
theorem dX3_places_0 : decode cX3_places 0 = .ok (.aload_n 0, 1) := by decide +kernel
theorem dX3_places_1 : decode cX3_places 1 = .ok (.getfield 45, 3) := by decide +kernel
theorem dX3_places_4 : decode cX3_places 4 = .ok (.ireturn, 1) := by decide +kernel
theorem dX3_values_0 : decode cX3_values 0 = .ok (.aload_n 0, 1) := by decide +kernel
theorem dX3_values_1 : decode cX3_values 1 = .ok (.getfield 48, 3) := by decide +kernel
theorem dX3_values_4 : decode cX3_values 4 = .ok (.ireturn, 1) := by decide +kernel
theorem dX3_failed_0 : decode cX3_failed 0 = .ok (.aload_n 0, 1) := by decide +kernel
theorem dX3_failed_1 : decode cX3_failed 1 = .ok (.getfield 51, 3) := by decide +kernel
theorem dX3_failed_4 : decode cX3_failed 4 = .ok (.ireturn, 1) := by decide +kernel
theorem dX3_givenUp_0 : decode cX3_givenUp 0 = .ok (.aload_n 0, 1) := by decide +kernel
theorem dX3_givenUp_1 : decode cX3_givenUp 1 = .ok (.getfield 54, 3) := by decide +kernel
theorem dX3_givenUp_4 : decode cX3_givenUp 4 = .ok (.ireturn, 1) := by decide +kernel
theorem dX3_cut_0 : decode cX3_cut 0 = .ok (.aload_n 0, 1) := by decide +kernel
theorem dX3_cut_1 : decode cX3_cut 1 = .ok (.getfield 57, 3) := by decide +kernel
theorem dX3_cut_4 : decode cX3_cut 4 = .ok (.ireturn, 1) := by decide +kernel
theorem dX3_forget_0 : decode cX3_forget 0 = .ok (.aload_n 0, 1) := by decide +kernel
theorem dX3_forget_1 : decode cX3_forget 1 = .ok (.iconst 0, 1) := by decide +kernel
theorem dX3_forget_2 : decode cX3_forget 2 = .ok (.putfield 41, 3) := by decide +kernel
theorem dX3_forget_5 : decode cX3_forget 5 = .ok (.aload_n 0, 1) := by decide +kernel
theorem dX3_forget_6 : decode cX3_forget 6 = .ok (.iconst 0, 1) := by decide +kernel
theorem dX3_forget_7 : decode cX3_forget 7 = .ok (.putfield 60, 3) := by decide +kernel
theorem dX3_forget_10 : decode cX3_forget 10 = .ok (.aload_n 0, 1) := by decide +kernel
theorem dX3_forget_11 : decode cX3_forget 11 = .ok (.iconst 0, 1) := by decide +kernel
theorem dX3_forget_12 : decode cX3_forget 12 = .ok (.putfield 45, 3) := by decide +kernel
theorem dX3_forget_15 : decode cX3_forget 15 = .ok (.aload_n 0, 1) := by decide +kernel
theorem dX3_forget_16 : decode cX3_forget 16 = .ok (.iconst 0, 1) := by decide +kernel
theorem dX3_forget_17 : decode cX3_forget 17 = .ok (.putfield 48, 3) := by decide +kernel
theorem dX3_forget_20 : decode cX3_forget 20 = .ok (.aload_n 0, 1) := by decide +kernel
theorem dX3_forget_21 : decode cX3_forget 21 = .ok (.iconst 0, 1) := by decide +kernel
theorem dX3_forget_22 : decode cX3_forget 22 = .ok (.putfield 51, 3) := by decide +kernel
theorem dX3_forget_25 : decode cX3_forget 25 = .ok (.aload_n 0, 1) := by decide +kernel
theorem dX3_forget_26 : decode cX3_forget 26 = .ok (.iconst 0, 1) := by decide +kernel
theorem dX3_forget_27 : decode cX3_forget 27 = .ok (.putfield 54, 3) := by decide +kernel
theorem dX3_forget_30 : decode cX3_forget 30 = .ok (.aload_n 0, 1) := by decide +kernel
theorem dX3_forget_31 : decode cX3_forget 31 = .ok (.iconst 0, 1) := by decide +kernel
theorem dX3_forget_32 : decode cX3_forget 32 = .ok (.putfield 57, 3) := by decide +kernel
theorem dX3_forget_35 : decode cX3_forget 35 = .ok (.aload_n 0, 1) := by decide +kernel
theorem dX3_forget_36 : decode cX3_forget 36 = .ok (.getfield 21, 3) := by decide +kernel
theorem dX3_forget_39 : decode cX3_forget 39 = .ok (.invokevirtual 63, 3) := by decide +kernel
theorem dX3_forget_42 : decode cX3_forget 42 = .ok (.aload_n 0, 1) := by decide +kernel
theorem dX3_forget_43 : decode cX3_forget 43 = .ok (.getfield 25, 3) := by decide +kernel
theorem dX3_forget_46 : decode cX3_forget 46 = .ok (.invokevirtual 63, 3) := by decide +kernel
theorem dX3_forget_49 : decode cX3_forget 49 = .ok (.aload_n 0, 1) := by decide +kernel
theorem dX3_forget_50 : decode cX3_forget 50 = .ok (.getfield 12, 3) := by decide +kernel
theorem dX3_forget_53 : decode cX3_forget 53 = .ok (.invokevirtual 66, 3) := by decide +kernel
theorem dX3_forget_56 : decode cX3_forget 56 = .ok (.return_, 1) := by decide +kernel
theorem dX3_begin_0 : decode cX3_begin 0 = .ok (.aload_n 0, 1) := by decide +kernel
theorem dX3_begin_1 : decode cX3_begin 1 = .ok (.invokevirtual 67, 3) := by decide +kernel
theorem dX3_begin_4 : decode cX3_begin 4 = .ok (.aload_n 0, 1) := by decide +kernel
theorem dX3_begin_5 : decode cX3_begin 5 = .ok (.iconst 1, 1) := by decide +kernel
theorem dX3_begin_6 : decode cX3_begin 6 = .ok (.putfield 41, 3) := by decide +kernel
theorem dX3_begin_9 : decode cX3_begin 9 = .ok (.aload_n 0, 1) := by decide +kernel
theorem dX3_begin_10 : decode cX3_begin 10 = .ok (.iload_n 1, 1) := by decide +kernel
theorem dX3_begin_11 : decode cX3_begin 11 = .ok (.putfield 68, 3) := by decide +kernel
theorem dX3_begin_14 : decode cX3_begin 14 = .ok (.aload_n 0, 1) := by decide +kernel
theorem dX3_begin_15 : decode cX3_begin 15 = .ok (.iload_n 2, 1) := by decide +kernel
theorem dX3_begin_16 : decode cX3_begin 16 = .ok (.putfield 71, 3) := by decide +kernel
theorem dX3_begin_19 : decode cX3_begin 19 = .ok (.aload_n 0, 1) := by decide +kernel
theorem dX3_begin_20 : decode cX3_begin 20 = .ok (.iload_n 3, 1) := by decide +kernel
theorem dX3_begin_21 : decode cX3_begin 21 = .ok (.putfield 28, 3) := by decide +kernel
theorem dX3_begin_24 : decode cX3_begin 24 = .ok (.aload_n 0, 1) := by decide +kernel
theorem dX3_begin_25 : decode cX3_begin 25 = .ok (.iload_n 3, 1) := by decide +kernel
theorem dX3_begin_26 : decode cX3_begin 26 = .ok (.putfield 74, 3) := by decide +kernel
theorem dX3_begin_29 : decode cX3_begin 29 = .ok (.aload_n 0, 1) := by decide +kernel
theorem dX3_begin_30 : decode cX3_begin 30 = .ok (.getfield 21, 3) := by decide +kernel
theorem dX3_begin_33 : decode cX3_begin 33 = .ok (.lconst 0, 1) := by decide +kernel
theorem dX3_begin_34 : decode cX3_begin 34 = .ok (.iconst 0, 1) := by decide +kernel
theorem dX3_begin_35 : decode cX3_begin 35 = .ok (.invokevirtual 77, 3) := by decide +kernel
theorem dX3_begin_38 : decode cX3_begin 38 = .ok (.return_, 1) := by decide +kernel
theorem dX3_goOn_0 : decode cX3_goOn 0 = .ok (.iconst 0, 1) := by decide +kernel
theorem dX3_goOn_1 : decode cX3_goOn 1 = .ok (.istore_n 1, 1) := by decide +kernel
theorem dX3_goOn_2 : decode cX3_goOn 2 = .ok (.iload_n 1, 1) := by decide +kernel
theorem dX3_goOn_3 : decode cX3_goOn 3 = .ok (.sipush 200, 3) := by decide +kernel
theorem dX3_goOn_6 : decode cX3_goOn 6 = .ok (.if_icmp .gt 69, 3) := by decide +kernel
theorem dX3_goOn_9 : decode cX3_goOn 9 = .ok (.aload_n 0, 1) := by decide +kernel
theorem dX3_goOn_10 : decode cX3_goOn 10 = .ok (.getfield 60, 3) := by decide +kernel
theorem dX3_goOn_13 : decode cX3_goOn 13 = .ok (.ifCond .ne 62, 3) := by decide +kernel
theorem dX3_goOn_16 : decode cX3_goOn 16 = .ok (.aload_n 0, 1) := by decide +kernel
theorem dX3_goOn_17 : decode cX3_goOn 17 = .ok (.getfield 21, 3) := by decide +kernel
theorem dX3_goOn_20 : decode cX3_goOn 20 = .ok (.invokevirtual 81, 3) := by decide +kernel
theorem dX3_goOn_23 : decode cX3_goOn 23 = .ok (.ifCond .eq 7, 3) := by decide +kernel
theorem dX3_goOn_26 : decode cX3_goOn 26 = .ok (.aload_n 0, 1) := by decide +kernel
theorem dX3_goOn_27 : decode cX3_goOn 27 = .ok (.invokevirtual 85, 3) := by decide +kernel
theorem dX3_goOn_30 : decode cX3_goOn 30 = .ok (.aload_n 0, 1) := by decide +kernel
theorem dX3_goOn_31 : decode cX3_goOn 31 = .ok (.getfield 21, 3) := by decide +kernel
theorem dX3_goOn_34 : decode cX3_goOn 34 = .ok (.invokevirtual 81, 3) := by decide +kernel
theorem dX3_goOn_37 : decode cX3_goOn 37 = .ok (.ifCond .eq 5, 3) := by decide +kernel
theorem dX3_goOn_40 : decode cX3_goOn 40 = .ok (.iconst 0, 1) := by decide +kernel
theorem dX3_goOn_41 : decode cX3_goOn 41 = .ok (.ireturn, 1) := by decide +kernel
theorem dX3_goOn_42 : decode cX3_goOn 42 = .ok (.aload_n 0, 1) := by decide +kernel
theorem dX3_goOn_43 : decode cX3_goOn 43 = .ok (.getfield 45, 3) := by decide +kernel
theorem dX3_goOn_46 : decode cX3_goOn 46 = .ok (.sipush 200, 3) := by decide +kernel
theorem dX3_goOn_49 : decode cX3_goOn 49 = .ok (.if_icmp .lt 11, 3) := by decide +kernel
theorem dX3_goOn_52 : decode cX3_goOn 52 = .ok (.aload_n 0, 1) := by decide +kernel
theorem dX3_goOn_53 : decode cX3_goOn 53 = .ok (.iconst 1, 1) := by decide +kernel
theorem dX3_goOn_54 : decode cX3_goOn 54 = .ok (.putfield 60, 3) := by decide +kernel
theorem dX3_goOn_57 : decode cX3_goOn 57 = .ok (.goto 12, 3) := by decide +kernel
theorem dX3_goOn_60 : decode cX3_goOn 60 = .ok (.aload_n 0, 1) := by decide +kernel
theorem dX3_goOn_61 : decode cX3_goOn 61 = .ok (.invokevirtual 88, 3) := by decide +kernel
theorem dX3_goOn_64 : decode cX3_goOn 64 = .ok (.ifCond .eq 5, 3) := by decide +kernel
theorem dX3_goOn_67 : decode cX3_goOn 67 = .ok (.iconst 1, 1) := by decide +kernel
theorem dX3_goOn_68 : decode cX3_goOn 68 = .ok (.ireturn, 1) := by decide +kernel
theorem dX3_goOn_69 : decode cX3_goOn 69 = .ok (.iinc 1 1, 3) := by decide +kernel
theorem dX3_goOn_72 : decode cX3_goOn 72 = .ok (.goto (-70), 3) := by decide +kernel
theorem dX3_goOn_75 : decode cX3_goOn 75 = .ok (.iconst 2, 1) := by decide +kernel
theorem dX3_goOn_76 : decode cX3_goOn 76 = .ok (.ireturn, 1) := by decide +kernel
theorem dX3_openNextWindow_0 : decode cX3_openNextWindow 0 = .ok (.aload_n 0, 1) := by decide +kernel
theorem dX3_openNextWindow_1 : decode cX3_openNextWindow 1 = .ok (.getfield 25, 3) := by decide +kernel
theorem dX3_openNextWindow_4 : decode cX3_openNextWindow 4 = .ok (.invokevirtual 81, 3) := by decide +kernel
theorem dX3_openNextWindow_7 : decode cX3_openNextWindow 7 = .ok (.ifCond .ne 27, 3) := by decide +kernel
theorem dX3_openNextWindow_10 : decode cX3_openNextWindow 10 = .ok (.aload_n 0, 1) := by decide +kernel
theorem dX3_openNextWindow_11 : decode cX3_openNextWindow 11 = .ok (.dup, 1) := by decide +kernel
theorem dX3_openNextWindow_12 : decode cX3_openNextWindow 12 = .ok (.getfield 74, 3) := by decide +kernel
theorem dX3_openNextWindow_15 : decode cX3_openNextWindow 15 = .ok (.aload_n 0, 1) := by decide +kernel
theorem dX3_openNextWindow_16 : decode cX3_openNextWindow 16 = .ok (.getfield 28, 3) := by decide +kernel
theorem dX3_openNextWindow_19 : decode cX3_openNextWindow 19 = .ok (.iadd, 1) := by decide +kernel
theorem dX3_openNextWindow_20 : decode cX3_openNextWindow 20 = .ok (.putfield 74, 3) := by decide +kernel
theorem dX3_openNextWindow_23 : decode cX3_openNextWindow 23 = .ok (.aload_n 0, 1) := by decide +kernel
theorem dX3_openNextWindow_24 : decode cX3_openNextWindow 24 = .ok (.getfield 21, 3) := by decide +kernel
theorem dX3_openNextWindow_27 : decode cX3_openNextWindow 27 = .ok (.aload_n 0, 1) := by decide +kernel
theorem dX3_openNextWindow_28 : decode cX3_openNextWindow 28 = .ok (.getfield 25, 3) := by decide +kernel
theorem dX3_openNextWindow_31 : decode cX3_openNextWindow 31 = .ok (.invokevirtual 91, 3) := by decide +kernel
theorem dX3_openNextWindow_34 : decode cX3_openNextWindow 34 = .ok (.return_, 1) := by decide +kernel
theorem dX3_comesToValue_0 : decode cX3_comesToValue 0 = .ok (.aload_n 0, 1) := by decide +kernel
theorem dX3_comesToValue_1 : decode cX3_comesToValue 1 = .ok (.getfield 21, 3) := by decide +kernel
theorem dX3_comesToValue_4 : decode cX3_comesToValue 4 = .ok (.invokevirtual 95, 3) := by decide +kernel
theorem dX3_comesToValue_7 : decode cX3_comesToValue 7 = .ok (.lstore_n 1, 1) := by decide +kernel
theorem dX3_comesToValue_8 : decode cX3_comesToValue 8 = .ok (.aload_n 0, 1) := by decide +kernel
theorem dX3_comesToValue_9 : decode cX3_comesToValue 9 = .ok (.getfield 21, 3) := by decide +kernel
theorem dX3_comesToValue_12 : decode cX3_comesToValue 12 = .ok (.invokevirtual 99, 3) := by decide +kernel
theorem dX3_comesToValue_15 : decode cX3_comesToValue 15 = .ok (.istore_n 3, 1) := by decide +kernel
theorem dX3_comesToValue_16 : decode cX3_comesToValue 16 = .ok (.aload_n 0, 1) := by decide +kernel
theorem dX3_comesToValue_17 : decode cX3_comesToValue 17 = .ok (.getfield 21, 3) := by decide +kernel
theorem dX3_comesToValue_20 : decode cX3_comesToValue 20 = .ok (.invokevirtual 103, 3) := by decide +kernel
theorem dX3_comesToValue_23 : decode cX3_comesToValue 23 = .ok (.sipush 200, 3) := by decide +kernel
theorem dX3_comesToValue_26 : decode cX3_comesToValue 26 = .ok (.aload_n 0, 1) := by decide +kernel
theorem dX3_comesToValue_27 : decode cX3_comesToValue 27 = .ok (.getfield 45, 3) := by decide +kernel
theorem dX3_comesToValue_30 : decode cX3_comesToValue 30 = .ok (.isub, 1) := by decide +kernel
theorem dX3_comesToValue_31 : decode cX3_comesToValue 31 = .ok (.istore 4, 2) := by decide +kernel
theorem dX3_comesToValue_33 : decode cX3_comesToValue 33 = .ok (.aload_n 0, 1) := by decide +kernel
theorem dX3_comesToValue_34 : decode cX3_comesToValue 34 = .ok (.getfield 37, 3) := by decide +kernel
theorem dX3_comesToValue_37 : decode cX3_comesToValue 37 = .ok (.aload_n 0, 1) := by decide +kernel
theorem dX3_comesToValue_38 : decode cX3_comesToValue 38 = .ok (.getfield 68, 3) := by decide +kernel
theorem dX3_comesToValue_41 : decode cX3_comesToValue 41 = .ok (.lload_n 1, 1) := by decide +kernel
theorem dX3_comesToValue_42 : decode cX3_comesToValue 42 = .ok (.aload_n 0, 1) := by decide +kernel
theorem dX3_comesToValue_43 : decode cX3_comesToValue 43 = .ok (.invokevirtual 106, 3) := by decide +kernel
theorem dX3_comesToValue_46 : decode cX3_comesToValue 46 = .ok (.iload_n 3, 1) := by decide +kernel
theorem dX3_comesToValue_47 : decode cX3_comesToValue 47 = .ok (.iload 4, 2) := by decide +kernel
theorem dX3_comesToValue_49 : decode cX3_comesToValue 49 = .ok (.iadd, 1) := by decide +kernel
theorem dX3_comesToValue_50 : decode cX3_comesToValue 50 = .ok (.invokestatic 109, 3) := by decide +kernel
theorem dX3_comesToValue_53 : decode cX3_comesToValue 53 = .ok (.invokevirtual 115, 3) := by decide +kernel
theorem dX3_comesToValue_56 : decode cX3_comesToValue 56 = .ok (.istore 5, 2) := by decide +kernel
theorem dX3_comesToValue_58 : decode cX3_comesToValue 58 = .ok (.aload_n 0, 1) := by decide +kernel
theorem dX3_comesToValue_59 : decode cX3_comesToValue 59 = .ok (.getfield 37, 3) := by decide +kernel
theorem dX3_comesToValue_62 : decode cX3_comesToValue 62 = .ok (.invokevirtual 119, 3) := by decide +kernel
theorem dX3_comesToValue_65 : decode cX3_comesToValue 65 = .ok (.iload_n 3, 1) := by decide +kernel
theorem dX3_comesToValue_66 : decode cX3_comesToValue 66 = .ok (.isub, 1) := by decide +kernel
theorem dX3_comesToValue_67 : decode cX3_comesToValue 67 = .ok (.istore 6, 2) := by decide +kernel
theorem dX3_comesToValue_69 : decode cX3_comesToValue 69 = .ok (.aload_n 0, 1) := by decide +kernel
theorem dX3_comesToValue_70 : decode cX3_comesToValue 70 = .ok (.dup, 1) := by decide +kernel
theorem dX3_comesToValue_71 : decode cX3_comesToValue 71 = .ok (.getfield 45, 3) := by decide +kernel
theorem dX3_comesToValue_74 : decode cX3_comesToValue 74 = .ok (.iload 6, 2) := by decide +kernel
theorem dX3_comesToValue_76 : decode cX3_comesToValue 76 = .ok (.iadd, 1) := by decide +kernel
theorem dX3_comesToValue_77 : decode cX3_comesToValue 77 = .ok (.putfield 45, 3) := by decide +kernel
theorem dX3_comesToValue_80 : decode cX3_comesToValue 80 = .ok (.iload 6, 2) := by decide +kernel
theorem dX3_comesToValue_82 : decode cX3_comesToValue 82 = .ok (.iload 4, 2) := by decide +kernel
theorem dX3_comesToValue_84 : decode cX3_comesToValue 84 = .ok (.if_icmp .lt 10, 3) := by decide +kernel
theorem dX3_comesToValue_87 : decode cX3_comesToValue 87 = .ok (.aload_n 0, 1) := by decide +kernel
theorem dX3_comesToValue_88 : decode cX3_comesToValue 88 = .ok (.iconst 1, 1) := by decide +kernel
theorem dX3_comesToValue_89 : decode cX3_comesToValue 89 = .ok (.putfield 60, 3) := by decide +kernel
theorem dX3_comesToValue_92 : decode cX3_comesToValue 92 = .ok (.iconst 0, 1) := by decide +kernel
theorem dX3_comesToValue_93 : decode cX3_comesToValue 93 = .ok (.ireturn, 1) := by decide +kernel
theorem dX3_comesToValue_94 : decode cX3_comesToValue 94 = .ok (.aload_n 0, 1) := by decide +kernel
theorem dX3_comesToValue_95 : decode cX3_comesToValue 95 = .ok (.lload_n 1, 1) := by decide +kernel
theorem dX3_comesToValue_96 : decode cX3_comesToValue 96 = .ok (.iload_n 3, 1) := by decide +kernel
theorem dX3_comesToValue_97 : decode cX3_comesToValue 97 = .ok (.invokevirtual 122, 3) := by decide +kernel
theorem dX3_comesToValue_100 : decode cX3_comesToValue 100 = .ok (.aload_n 0, 1) := by decide +kernel
theorem dX3_comesToValue_101 : decode cX3_comesToValue 101 = .ok (.dup, 1) := by decide +kernel
theorem dX3_comesToValue_102 : decode cX3_comesToValue 102 = .ok (.getfield 45, 3) := by decide +kernel
theorem dX3_comesToValue_105 : decode cX3_comesToValue 105 = .ok (.iconst 1, 1) := by decide +kernel
theorem dX3_comesToValue_106 : decode cX3_comesToValue 106 = .ok (.iadd, 1) := by decide +kernel
theorem dX3_comesToValue_107 : decode cX3_comesToValue 107 = .ok (.putfield 45, 3) := by decide +kernel
theorem dX3_comesToValue_110 : decode cX3_comesToValue 110 = .ok (.aload_n 0, 1) := by decide +kernel
theorem dX3_comesToValue_111 : decode cX3_comesToValue 111 = .ok (.iload 5, 2) := by decide +kernel
theorem dX3_comesToValue_113 : decode cX3_comesToValue 113 = .ok (.lload_n 1, 1) := by decide +kernel
theorem dX3_comesToValue_114 : decode cX3_comesToValue 114 = .ok (.invokevirtual 125, 3) := by decide +kernel
theorem dX3_comesToValue_117 : decode cX3_comesToValue 117 = .ok (.ireturn, 1) := by decide +kernel
theorem dX3_mostDecisions_0 : decode cX3_mostDecisions 0 = .ok (.aload_n 0, 1) := by decide +kernel
theorem dX3_mostDecisions_1 : decode cX3_mostDecisions 1 = .ok (.getfield 71, 3) := by decide +kernel
theorem dX3_mostDecisions_4 : decode cX3_mostDecisions 4 = .ok (.lookupswitch 40 #[(1, 28), (2, 35)], 28) := by decide +kernel
theorem dX3_mostDecisions_32 : decode cX3_mostDecisions 32 = .ok (.aload_n 0, 1) := by decide +kernel
theorem dX3_mostDecisions_33 : decode cX3_mostDecisions 33 = .ok (.getfield 74, 3) := by decide +kernel
theorem dX3_mostDecisions_36 : decode cX3_mostDecisions 36 = .ok (.iconst 1, 1) := by decide +kernel
theorem dX3_mostDecisions_37 : decode cX3_mostDecisions 37 = .ok (.isub, 1) := by decide +kernel
theorem dX3_mostDecisions_38 : decode cX3_mostDecisions 38 = .ok (.ireturn, 1) := by decide +kernel
theorem dX3_mostDecisions_39 : decode cX3_mostDecisions 39 = .ok (.aload_n 0, 1) := by decide +kernel
theorem dX3_mostDecisions_40 : decode cX3_mostDecisions 40 = .ok (.getfield 28, 3) := by decide +kernel
theorem dX3_mostDecisions_43 : decode cX3_mostDecisions 43 = .ok (.ireturn, 1) := by decide +kernel
theorem dX3_mostDecisions_44 : decode cX3_mostDecisions 44 = .ok (.bipush 60, 2) := by decide +kernel
theorem dX3_mostDecisions_46 : decode cX3_mostDecisions 46 = .ok (.ireturn, 1) := by decide +kernel
theorem dX3_putOtherAlternatives_0 : decode cX3_putOtherAlternatives 0 = .ok (.iload_n 3, 1) := by decide +kernel
theorem dX3_putOtherAlternatives_1 : decode cX3_putOtherAlternatives 1 = .ok (.istore 4, 2) := by decide +kernel
theorem dX3_putOtherAlternatives_3 : decode cX3_putOtherAlternatives 3 = .ok (.iload 4, 2) := by decide +kernel
theorem dX3_putOtherAlternatives_5 : decode cX3_putOtherAlternatives 5 = .ok (.aload_n 0, 1) := by decide +kernel
theorem dX3_putOtherAlternatives_6 : decode cX3_putOtherAlternatives 6 = .ok (.getfield 37, 3) := by decide +kernel
theorem dX3_putOtherAlternatives_9 : decode cX3_putOtherAlternatives 9 = .ok (.invokevirtual 119, 3) := by decide +kernel
theorem dX3_putOtherAlternatives_12 : decode cX3_putOtherAlternatives 12 = .ok (.if_icmp .ge 26, 3) := by decide +kernel
theorem dX3_putOtherAlternatives_15 : decode cX3_putOtherAlternatives 15 = .ok (.aload_n 0, 1) := by decide +kernel
theorem dX3_putOtherAlternatives_16 : decode cX3_putOtherAlternatives 16 = .ok (.getfield 21, 3) := by decide +kernel
theorem dX3_putOtherAlternatives_19 : decode cX3_putOtherAlternatives 19 = .ok (.lload_n 1, 1) := by decide +kernel
theorem dX3_putOtherAlternatives_20 : decode cX3_putOtherAlternatives 20 = .ok (.lconst 1, 1) := by decide +kernel
theorem dX3_putOtherAlternatives_21 : decode cX3_putOtherAlternatives 21 = .ok (.iload 4, 2) := by decide +kernel
theorem dX3_putOtherAlternatives_23 : decode cX3_putOtherAlternatives 23 = .ok (.lshl, 1) := by decide +kernel
theorem dX3_putOtherAlternatives_24 : decode cX3_putOtherAlternatives 24 = .ok (.lor, 1) := by decide +kernel
theorem dX3_putOtherAlternatives_25 : decode cX3_putOtherAlternatives 25 = .ok (.iload 4, 2) := by decide +kernel
theorem dX3_putOtherAlternatives_27 : decode cX3_putOtherAlternatives 27 = .ok (.iconst 1, 1) := by decide +kernel
theorem dX3_putOtherAlternatives_28 : decode cX3_putOtherAlternatives 28 = .ok (.iadd, 1) := by decide +kernel
theorem dX3_putOtherAlternatives_29 : decode cX3_putOtherAlternatives 29 = .ok (.invokevirtual 77, 3) := by decide +kernel
theorem dX3_putOtherAlternatives_32 : decode cX3_putOtherAlternatives 32 = .ok (.iinc 4 1, 3) := by decide +kernel
theorem dX3_putOtherAlternatives_35 : decode cX3_putOtherAlternatives 35 = .ok (.goto (-32), 3) := by decide +kernel
theorem dX3_putOtherAlternatives_38 : decode cX3_putOtherAlternatives 38 = .ok (.return_, 1) := by decide +kernel
theorem dX3_endsAsValue_0 : decode cX3_endsAsValue 0 = .ok (.iload_n 1, 1) := by decide +kernel
theorem dX3_endsAsValue_1 : decode cX3_endsAsValue 1 = .ok (.tableswitch 81 0 3 #[31, 55, 81, 67], 31) := by decide +kernel
theorem dX3_endsAsValue_32 : decode cX3_endsAsValue 32 = .ok (.aload_n 0, 1) := by decide +kernel
theorem dX3_endsAsValue_33 : decode cX3_endsAsValue 33 = .ok (.dup, 1) := by decide +kernel
theorem dX3_endsAsValue_34 : decode cX3_endsAsValue 34 = .ok (.getfield 48, 3) := by decide +kernel
theorem dX3_endsAsValue_37 : decode cX3_endsAsValue 37 = .ok (.iconst 1, 1) := by decide +kernel
theorem dX3_endsAsValue_38 : decode cX3_endsAsValue 38 = .ok (.iadd, 1) := by decide +kernel
theorem dX3_endsAsValue_39 : decode cX3_endsAsValue 39 = .ok (.putfield 48, 3) := by decide +kernel
theorem dX3_endsAsValue_42 : decode cX3_endsAsValue 42 = .ok (.aload_n 0, 1) := by decide +kernel
theorem dX3_endsAsValue_43 : decode cX3_endsAsValue 43 = .ok (.getfield 12, 3) := by decide +kernel
theorem dX3_endsAsValue_46 : decode cX3_endsAsValue 46 = .ok (.lload_n 2, 1) := by decide +kernel
theorem dX3_endsAsValue_47 : decode cX3_endsAsValue 47 = .ok (.aload_n 0, 1) := by decide +kernel
theorem dX3_endsAsValue_48 : decode cX3_endsAsValue 48 = .ok (.getfield 37, 3) := by decide +kernel
theorem dX3_endsAsValue_51 : decode cX3_endsAsValue 51 = .ok (.invokevirtual 129, 3) := by decide +kernel
theorem dX3_endsAsValue_54 : decode cX3_endsAsValue 54 = .ok (.iconst 1, 1) := by decide +kernel
theorem dX3_endsAsValue_55 : decode cX3_endsAsValue 55 = .ok (.ireturn, 1) := by decide +kernel
theorem dX3_endsAsValue_56 : decode cX3_endsAsValue 56 = .ok (.aload_n 0, 1) := by decide +kernel
theorem dX3_endsAsValue_57 : decode cX3_endsAsValue 57 = .ok (.dup, 1) := by decide +kernel
theorem dX3_endsAsValue_58 : decode cX3_endsAsValue 58 = .ok (.getfield 51, 3) := by decide +kernel
theorem dX3_endsAsValue_61 : decode cX3_endsAsValue 61 = .ok (.iconst 1, 1) := by decide +kernel
theorem dX3_endsAsValue_62 : decode cX3_endsAsValue 62 = .ok (.iadd, 1) := by decide +kernel
theorem dX3_endsAsValue_63 : decode cX3_endsAsValue 63 = .ok (.putfield 51, 3) := by decide +kernel
theorem dX3_endsAsValue_66 : decode cX3_endsAsValue 66 = .ok (.iconst 0, 1) := by decide +kernel
theorem dX3_endsAsValue_67 : decode cX3_endsAsValue 67 = .ok (.ireturn, 1) := by decide +kernel
theorem dX3_endsAsValue_68 : decode cX3_endsAsValue 68 = .ok (.aload_n 0, 1) := by decide +kernel
theorem dX3_endsAsValue_69 : decode cX3_endsAsValue 69 = .ok (.lload_n 2, 1) := by decide +kernel
theorem dX3_endsAsValue_70 : decode cX3_endsAsValue 70 = .ok (.aload_n 0, 1) := by decide +kernel
theorem dX3_endsAsValue_71 : decode cX3_endsAsValue 71 = .ok (.getfield 37, 3) := by decide +kernel
theorem dX3_endsAsValue_74 : decode cX3_endsAsValue 74 = .ok (.invokevirtual 119, 3) := by decide +kernel
theorem dX3_endsAsValue_77 : decode cX3_endsAsValue 77 = .ok (.invokevirtual 133, 3) := by decide +kernel
theorem dX3_endsAsValue_80 : decode cX3_endsAsValue 80 = .ok (.iconst 0, 1) := by decide +kernel
theorem dX3_endsAsValue_81 : decode cX3_endsAsValue 81 = .ok (.ireturn, 1) := by decide +kernel
theorem dX3_endsAsValue_82 : decode cX3_endsAsValue 82 = .ok (.aload_n 0, 1) := by decide +kernel
theorem dX3_endsAsValue_83 : decode cX3_endsAsValue 83 = .ok (.dup, 1) := by decide +kernel
theorem dX3_endsAsValue_84 : decode cX3_endsAsValue 84 = .ok (.getfield 54, 3) := by decide +kernel
theorem dX3_endsAsValue_87 : decode cX3_endsAsValue 87 = .ok (.iconst 1, 1) := by decide +kernel
theorem dX3_endsAsValue_88 : decode cX3_endsAsValue 88 = .ok (.iadd, 1) := by decide +kernel
theorem dX3_endsAsValue_89 : decode cX3_endsAsValue 89 = .ok (.putfield 54, 3) := by decide +kernel
theorem dX3_endsAsValue_92 : decode cX3_endsAsValue 92 = .ok (.iconst 0, 1) := by decide +kernel
theorem dX3_endsAsValue_93 : decode cX3_endsAsValue 93 = .ok (.ireturn, 1) := by decide +kernel
theorem dX3_stopAtDecision_0 : decode cX3_stopAtDecision 0 = .ok (.aload_n 0, 1) := by decide +kernel
theorem dX3_stopAtDecision_1 : decode cX3_stopAtDecision 1 = .ok (.getfield 71, 3) := by decide +kernel
theorem dX3_stopAtDecision_4 : decode cX3_stopAtDecision 4 = .ok (.iconst 2, 1) := by decide +kernel
theorem dX3_stopAtDecision_5 : decode cX3_stopAtDecision 5 = .ok (.if_icmp .ne 16, 3) := by decide +kernel
theorem dX3_stopAtDecision_8 : decode cX3_stopAtDecision 8 = .ok (.aload_n 0, 1) := by decide +kernel
theorem dX3_stopAtDecision_9 : decode cX3_stopAtDecision 9 = .ok (.dup, 1) := by decide +kernel
theorem dX3_stopAtDecision_10 : decode cX3_stopAtDecision 10 = .ok (.getfield 57, 3) := by decide +kernel
theorem dX3_stopAtDecision_13 : decode cX3_stopAtDecision 13 = .ok (.iconst 1, 1) := by decide +kernel
theorem dX3_stopAtDecision_14 : decode cX3_stopAtDecision 14 = .ok (.iadd, 1) := by decide +kernel
theorem dX3_stopAtDecision_15 : decode cX3_stopAtDecision 15 = .ok (.putfield 57, 3) := by decide +kernel
theorem dX3_stopAtDecision_18 : decode cX3_stopAtDecision 18 = .ok (.goto 29, 3) := by decide +kernel
theorem dX3_stopAtDecision_21 : decode cX3_stopAtDecision 21 = .ok (.aload_n 0, 1) := by decide +kernel
theorem dX3_stopAtDecision_22 : decode cX3_stopAtDecision 22 = .ok (.getfield 25, 3) := by decide +kernel
theorem dX3_stopAtDecision_25 : decode cX3_stopAtDecision 25 = .ok (.lload_n 1, 1) := by decide +kernel
theorem dX3_stopAtDecision_26 : decode cX3_stopAtDecision 26 = .ok (.iload_n 3, 1) := by decide +kernel
theorem dX3_stopAtDecision_27 : decode cX3_stopAtDecision 27 = .ok (.iconst 1, 1) := by decide +kernel
theorem dX3_stopAtDecision_28 : decode cX3_stopAtDecision 28 = .ok (.iadd, 1) := by decide +kernel
theorem dX3_stopAtDecision_29 : decode cX3_stopAtDecision 29 = .ok (.invokevirtual 77, 3) := by decide +kernel
theorem dX3_stopAtDecision_32 : decode cX3_stopAtDecision 32 = .ok (.aload_n 0, 1) := by decide +kernel
theorem dX3_stopAtDecision_33 : decode cX3_stopAtDecision 33 = .ok (.getfield 25, 3) := by decide +kernel
theorem dX3_stopAtDecision_36 : decode cX3_stopAtDecision 36 = .ok (.lload_n 1, 1) := by decide +kernel
theorem dX3_stopAtDecision_37 : decode cX3_stopAtDecision 37 = .ok (.lconst 1, 1) := by decide +kernel
theorem dX3_stopAtDecision_38 : decode cX3_stopAtDecision 38 = .ok (.iload_n 3, 1) := by decide +kernel
theorem dX3_stopAtDecision_39 : decode cX3_stopAtDecision 39 = .ok (.lshl, 1) := by decide +kernel
theorem dX3_stopAtDecision_40 : decode cX3_stopAtDecision 40 = .ok (.lor, 1) := by decide +kernel
theorem dX3_stopAtDecision_41 : decode cX3_stopAtDecision 41 = .ok (.iload_n 3, 1) := by decide +kernel
theorem dX3_stopAtDecision_42 : decode cX3_stopAtDecision 42 = .ok (.iconst 1, 1) := by decide +kernel
theorem dX3_stopAtDecision_43 : decode cX3_stopAtDecision 43 = .ok (.iadd, 1) := by decide +kernel
theorem dX3_stopAtDecision_44 : decode cX3_stopAtDecision 44 = .ok (.invokevirtual 77, 3) := by decide +kernel
theorem dX3_stopAtDecision_47 : decode cX3_stopAtDecision 47 = .ok (.return_, 1) := by decide +kernel
theorem dX4_init_0 : decode cX4_init 0 = .ok (.aload_n 0, 1) := by decide +kernel
theorem dX4_init_1 : decode cX4_init 1 = .ok (.invokespecial 3, 3) := by decide +kernel
theorem dX4_init_4 : decode cX4_init 4 = .ok (.aload_n 0, 1) := by decide +kernel
theorem dX4_init_5 : decode cX4_init 5 = .ok (.bipush 16, 2) := by decide +kernel
theorem dX4_init_7 : decode cX4_init 7 = .ok (.newarray .int, 2) := by decide +kernel
theorem dX4_init_9 : decode cX4_init 9 = .ok (.putfield 11, 3) := by decide +kernel
theorem dX4_init_12 : decode cX4_init 12 = .ok (.aload_n 0, 1) := by decide +kernel
theorem dX4_init_13 : decode cX4_init 13 = .ok (.bipush 16, 2) := by decide +kernel
theorem dX4_init_15 : decode cX4_init 15 = .ok (.newarray .long, 2) := by decide +kernel
theorem dX4_init_17 : decode cX4_init 17 = .ok (.putfield 15, 3) := by decide +kernel
theorem dX4_init_20 : decode cX4_init 20 = .ok (.aload_n 0, 1) := by decide +kernel
theorem dX4_init_21 : decode cX4_init 21 = .ok (.iload_n 1, 1) := by decide +kernel
theorem dX4_init_22 : decode cX4_init 22 = .ok (.putfield 19, 3) := by decide +kernel
theorem dX4_init_25 : decode cX4_init 25 = .ok (.return_, 1) := by decide +kernel
theorem dX4_size_0 : decode cX4_size 0 = .ok (.aload_n 0, 1) := by decide +kernel
theorem dX4_size_1 : decode cX4_size 1 = .ok (.getfield 23, 3) := by decide +kernel
theorem dX4_size_4 : decode cX4_size 4 = .ok (.ireturn, 1) := by decide +kernel
theorem dX4_has_0 : decode cX4_has 0 = .ok (.iload_n 1, 1) := by decide +kernel
theorem dX4_has_1 : decode cX4_has 1 = .ok (.ifCond .lt 15, 3) := by decide +kernel
theorem dX4_has_4 : decode cX4_has 4 = .ok (.iload_n 1, 1) := by decide +kernel
theorem dX4_has_5 : decode cX4_has 5 = .ok (.aload_n 0, 1) := by decide +kernel
theorem dX4_has_6 : decode cX4_has 6 = .ok (.getfield 23, 3) := by decide +kernel
theorem dX4_has_9 : decode cX4_has 9 = .ok (.if_icmp .ge 7, 3) := by decide +kernel
theorem dX4_has_12 : decode cX4_has 12 = .ok (.iconst 1, 1) := by decide +kernel
theorem dX4_has_13 : decode cX4_has 13 = .ok (.goto 4, 3) := by decide +kernel
theorem dX4_has_16 : decode cX4_has 16 = .ok (.iconst 0, 1) := by decide +kernel
theorem dX4_has_17 : decode cX4_has 17 = .ok (.ireturn, 1) := by decide +kernel
theorem dX4_kindAt_0 : decode cX4_kindAt 0 = .ok (.aload_n 0, 1) := by decide +kernel
theorem dX4_kindAt_1 : decode cX4_kindAt 1 = .ok (.iload_n 1, 1) := by decide +kernel
theorem dX4_kindAt_2 : decode cX4_kindAt 2 = .ok (.invokevirtual 26, 3) := by decide +kernel
theorem dX4_kindAt_5 : decode cX4_kindAt 5 = .ok (.ifCond .eq 12, 3) := by decide +kernel
theorem dX4_kindAt_8 : decode cX4_kindAt 8 = .ok (.aload_n 0, 1) := by decide +kernel
theorem dX4_kindAt_9 : decode cX4_kindAt 9 = .ok (.getfield 11, 3) := by decide +kernel
theorem dX4_kindAt_12 : decode cX4_kindAt 12 = .ok (.iload_n 1, 1) := by decide +kernel
theorem dX4_kindAt_13 : decode cX4_kindAt 13 = .ok (.iaload, 1) := by decide +kernel
theorem dX4_kindAt_14 : decode cX4_kindAt 14 = .ok (.goto 4, 3) := by decide +kernel
theorem dX4_kindAt_17 : decode cX4_kindAt 17 = .ok (.iconst (-1), 1) := by decide +kernel
theorem dX4_kindAt_18 : decode cX4_kindAt 18 = .ok (.ireturn, 1) := by decide +kernel
theorem dX4_numberAt_0 : decode cX4_numberAt 0 = .ok (.aload_n 0, 1) := by decide +kernel
theorem dX4_numberAt_1 : decode cX4_numberAt 1 = .ok (.iload_n 1, 1) := by decide +kernel
theorem dX4_numberAt_2 : decode cX4_numberAt 2 = .ok (.invokevirtual 26, 3) := by decide +kernel
theorem dX4_numberAt_5 : decode cX4_numberAt 5 = .ok (.ifCond .eq 12, 3) := by decide +kernel
theorem dX4_numberAt_8 : decode cX4_numberAt 8 = .ok (.aload_n 0, 1) := by decide +kernel
theorem dX4_numberAt_9 : decode cX4_numberAt 9 = .ok (.getfield 15, 3) := by decide +kernel
theorem dX4_numberAt_12 : decode cX4_numberAt 12 = .ok (.iload_n 1, 1) := by decide +kernel
theorem dX4_numberAt_13 : decode cX4_numberAt 13 = .ok (.laload, 1) := by decide +kernel
theorem dX4_numberAt_14 : decode cX4_numberAt 14 = .ok (.goto 4, 3) := by decide +kernel
theorem dX4_numberAt_17 : decode cX4_numberAt 17 = .ok (.lconst 0, 1) := by decide +kernel
theorem dX4_numberAt_18 : decode cX4_numberAt 18 = .ok (.lreturn, 1) := by decide +kernel
theorem dX4_putNumber_0 : decode cX4_putNumber 0 = .ok (.aload_n 0, 1) := by decide +kernel
theorem dX4_putNumber_1 : decode cX4_putNumber 1 = .ok (.iload_n 1, 1) := by decide +kernel
theorem dX4_putNumber_2 : decode cX4_putNumber 2 = .ok (.invokevirtual 26, 3) := by decide +kernel
theorem dX4_putNumber_5 : decode cX4_putNumber 5 = .ok (.ifCond .eq 10, 3) := by decide +kernel
theorem dX4_putNumber_8 : decode cX4_putNumber 8 = .ok (.aload_n 0, 1) := by decide +kernel
theorem dX4_putNumber_9 : decode cX4_putNumber 9 = .ok (.getfield 15, 3) := by decide +kernel
theorem dX4_putNumber_12 : decode cX4_putNumber 12 = .ok (.iload_n 1, 1) := by decide +kernel
theorem dX4_putNumber_13 : decode cX4_putNumber 13 = .ok (.lload_n 2, 1) := by decide +kernel
theorem dX4_putNumber_14 : decode cX4_putNumber 14 = .ok (.lastore, 1) := by decide +kernel
theorem dX4_putNumber_15 : decode cX4_putNumber 15 = .ok (.return_, 1) := by decide +kernel
theorem dX4_add_0 : decode cX4_add 0 = .ok (.aload_n 0, 1) := by decide +kernel
theorem dX4_add_1 : decode cX4_add 1 = .ok (.iconst 1, 1) := by decide +kernel
theorem dX4_add_2 : decode cX4_add 2 = .ok (.invokevirtual 30, 3) := by decide +kernel
theorem dX4_add_5 : decode cX4_add 5 = .ok (.ifCond .ne 5, 3) := by decide +kernel
theorem dX4_add_8 : decode cX4_add 8 = .ok (.iconst 0, 1) := by decide +kernel
theorem dX4_add_9 : decode cX4_add 9 = .ok (.ireturn, 1) := by decide +kernel
theorem dX4_add_10 : decode cX4_add 10 = .ok (.aload_n 0, 1) := by decide +kernel
theorem dX4_add_11 : decode cX4_add 11 = .ok (.getfield 11, 3) := by decide +kernel
theorem dX4_add_14 : decode cX4_add 14 = .ok (.aload_n 0, 1) := by decide +kernel
theorem dX4_add_15 : decode cX4_add 15 = .ok (.getfield 23, 3) := by decide +kernel
theorem dX4_add_18 : decode cX4_add 18 = .ok (.iload_n 1, 1) := by decide +kernel
theorem dX4_add_19 : decode cX4_add 19 = .ok (.iastore, 1) := by decide +kernel
theorem dX4_add_20 : decode cX4_add 20 = .ok (.aload_n 0, 1) := by decide +kernel
theorem dX4_add_21 : decode cX4_add 21 = .ok (.getfield 15, 3) := by decide +kernel
theorem dX4_add_24 : decode cX4_add 24 = .ok (.aload_n 0, 1) := by decide +kernel
theorem dX4_add_25 : decode cX4_add 25 = .ok (.getfield 23, 3) := by decide +kernel
theorem dX4_add_28 : decode cX4_add 28 = .ok (.lload_n 2, 1) := by decide +kernel
theorem dX4_add_29 : decode cX4_add 29 = .ok (.lastore, 1) := by decide +kernel
theorem dX4_add_30 : decode cX4_add 30 = .ok (.aload_n 0, 1) := by decide +kernel
theorem dX4_add_31 : decode cX4_add 31 = .ok (.dup, 1) := by decide +kernel
theorem dX4_add_32 : decode cX4_add 32 = .ok (.getfield 23, 3) := by decide +kernel
theorem dX4_add_35 : decode cX4_add 35 = .ok (.iconst 1, 1) := by decide +kernel
theorem dX4_add_36 : decode cX4_add 36 = .ok (.iadd, 1) := by decide +kernel
theorem dX4_add_37 : decode cX4_add 37 = .ok (.putfield 23, 3) := by decide +kernel
theorem dX4_add_40 : decode cX4_add 40 = .ok (.iconst 1, 1) := by decide +kernel
theorem dX4_add_41 : decode cX4_add 41 = .ok (.ireturn, 1) := by decide +kernel
theorem dX4_addFrom_0 : decode cX4_addFrom 0 = .ok (.iload_n 2, 1) := by decide +kernel
theorem dX4_addFrom_1 : decode cX4_addFrom 1 = .ok (.ifCond .lt 25, 3) := by decide +kernel
theorem dX4_addFrom_4 : decode cX4_addFrom 4 = .ok (.iload_n 3, 1) := by decide +kernel
theorem dX4_addFrom_5 : decode cX4_addFrom 5 = .ok (.ifCond .lt 21, 3) := by decide +kernel
theorem dX4_addFrom_8 : decode cX4_addFrom 8 = .ok (.iload_n 3, 1) := by decide +kernel
theorem dX4_addFrom_9 : decode cX4_addFrom 9 = .ok (.aload_n 1, 1) := by decide +kernel
theorem dX4_addFrom_10 : decode cX4_addFrom 10 = .ok (.getfield 23, 3) := by decide +kernel
theorem dX4_addFrom_13 : decode cX4_addFrom 13 = .ok (.iload_n 2, 1) := by decide +kernel
theorem dX4_addFrom_14 : decode cX4_addFrom 14 = .ok (.isub, 1) := by decide +kernel
theorem dX4_addFrom_15 : decode cX4_addFrom 15 = .ok (.if_icmp .gt 11, 3) := by decide +kernel
theorem dX4_addFrom_18 : decode cX4_addFrom 18 = .ok (.aload_n 0, 1) := by decide +kernel
theorem dX4_addFrom_19 : decode cX4_addFrom 19 = .ok (.iload_n 3, 1) := by decide +kernel
theorem dX4_addFrom_20 : decode cX4_addFrom 20 = .ok (.invokevirtual 30, 3) := by decide +kernel
theorem dX4_addFrom_23 : decode cX4_addFrom 23 = .ok (.ifCond .ne 5, 3) := by decide +kernel
theorem dX4_addFrom_26 : decode cX4_addFrom 26 = .ok (.iconst 0, 1) := by decide +kernel
theorem dX4_addFrom_27 : decode cX4_addFrom 27 = .ok (.ireturn, 1) := by decide +kernel
theorem dX4_addFrom_28 : decode cX4_addFrom 28 = .ok (.aload_n 1, 1) := by decide +kernel
theorem dX4_addFrom_29 : decode cX4_addFrom 29 = .ok (.getfield 11, 3) := by decide +kernel
theorem dX4_addFrom_32 : decode cX4_addFrom 32 = .ok (.iload_n 2, 1) := by decide +kernel
theorem dX4_addFrom_33 : decode cX4_addFrom 33 = .ok (.aload_n 0, 1) := by decide +kernel
theorem dX4_addFrom_34 : decode cX4_addFrom 34 = .ok (.getfield 11, 3) := by decide +kernel
theorem dX4_addFrom_37 : decode cX4_addFrom 37 = .ok (.aload_n 0, 1) := by decide +kernel
theorem dX4_addFrom_38 : decode cX4_addFrom 38 = .ok (.getfield 23, 3) := by decide +kernel
theorem dX4_addFrom_41 : decode cX4_addFrom 41 = .ok (.iload_n 3, 1) := by decide +kernel
theorem dX4_addFrom_42 : decode cX4_addFrom 42 = .ok (.invokestatic 33, 3) := by decide +kernel
theorem dX4_addFrom_45 : decode cX4_addFrom 45 = .ok (.aload_n 1, 1) := by decide +kernel
theorem dX4_addFrom_46 : decode cX4_addFrom 46 = .ok (.getfield 15, 3) := by decide +kernel
theorem dX4_addFrom_49 : decode cX4_addFrom 49 = .ok (.iload_n 2, 1) := by decide +kernel
theorem dX4_addFrom_50 : decode cX4_addFrom 50 = .ok (.aload_n 0, 1) := by decide +kernel
theorem dX4_addFrom_51 : decode cX4_addFrom 51 = .ok (.getfield 15, 3) := by decide +kernel
theorem dX4_addFrom_54 : decode cX4_addFrom 54 = .ok (.aload_n 0, 1) := by decide +kernel
theorem dX4_addFrom_55 : decode cX4_addFrom 55 = .ok (.getfield 23, 3) := by decide +kernel
theorem dX4_addFrom_58 : decode cX4_addFrom 58 = .ok (.iload_n 3, 1) := by decide +kernel
theorem dX4_addFrom_59 : decode cX4_addFrom 59 = .ok (.invokestatic 33, 3) := by decide +kernel
theorem dX4_addFrom_62 : decode cX4_addFrom 62 = .ok (.aload_n 0, 1) := by decide +kernel
theorem dX4_addFrom_63 : decode cX4_addFrom 63 = .ok (.dup, 1) := by decide +kernel
theorem dX4_addFrom_64 : decode cX4_addFrom 64 = .ok (.getfield 23, 3) := by decide +kernel
theorem dX4_addFrom_67 : decode cX4_addFrom 67 = .ok (.iload_n 3, 1) := by decide +kernel
theorem dX4_addFrom_68 : decode cX4_addFrom 68 = .ok (.iadd, 1) := by decide +kernel
theorem dX4_addFrom_69 : decode cX4_addFrom 69 = .ok (.putfield 23, 3) := by decide +kernel
theorem dX4_addFrom_72 : decode cX4_addFrom 72 = .ok (.iconst 1, 1) := by decide +kernel
theorem dX4_addFrom_73 : decode cX4_addFrom 73 = .ok (.ireturn, 1) := by decide +kernel
theorem dX4_cutTo_0 : decode cX4_cutTo 0 = .ok (.iload_n 1, 1) := by decide +kernel
theorem dX4_cutTo_1 : decode cX4_cutTo 1 = .ok (.ifCond .lt 16, 3) := by decide +kernel
theorem dX4_cutTo_4 : decode cX4_cutTo 4 = .ok (.iload_n 1, 1) := by decide +kernel
theorem dX4_cutTo_5 : decode cX4_cutTo 5 = .ok (.aload_n 0, 1) := by decide +kernel
theorem dX4_cutTo_6 : decode cX4_cutTo 6 = .ok (.getfield 23, 3) := by decide +kernel
theorem dX4_cutTo_9 : decode cX4_cutTo 9 = .ok (.if_icmp .ge 8, 3) := by decide +kernel
theorem dX4_cutTo_12 : decode cX4_cutTo 12 = .ok (.aload_n 0, 1) := by decide +kernel
theorem dX4_cutTo_13 : decode cX4_cutTo 13 = .ok (.iload_n 1, 1) := by decide +kernel
theorem dX4_cutTo_14 : decode cX4_cutTo 14 = .ok (.putfield 23, 3) := by decide +kernel
theorem dX4_cutTo_17 : decode cX4_cutTo 17 = .ok (.return_, 1) := by decide +kernel
theorem dX4_makeRoom_0 : decode cX4_makeRoom 0 = .ok (.iload_n 1, 1) := by decide +kernel
theorem dX4_makeRoom_1 : decode cX4_makeRoom 1 = .ok (.aload_n 0, 1) := by decide +kernel
theorem dX4_makeRoom_2 : decode cX4_makeRoom 2 = .ok (.getfield 19, 3) := by decide +kernel
theorem dX4_makeRoom_5 : decode cX4_makeRoom 5 = .ok (.aload_n 0, 1) := by decide +kernel
theorem dX4_makeRoom_6 : decode cX4_makeRoom 6 = .ok (.getfield 23, 3) := by decide +kernel
theorem dX4_makeRoom_9 : decode cX4_makeRoom 9 = .ok (.isub, 1) := by decide +kernel
theorem dX4_makeRoom_10 : decode cX4_makeRoom 10 = .ok (.if_icmp .le 5, 3) := by decide +kernel
theorem dX4_makeRoom_13 : decode cX4_makeRoom 13 = .ok (.iconst 0, 1) := by decide +kernel
theorem dX4_makeRoom_14 : decode cX4_makeRoom 14 = .ok (.ireturn, 1) := by decide +kernel
theorem dX4_makeRoom_15 : decode cX4_makeRoom 15 = .ok (.aload_n 0, 1) := by decide +kernel
theorem dX4_makeRoom_16 : decode cX4_makeRoom 16 = .ok (.getfield 23, 3) := by decide +kernel
theorem dX4_makeRoom_19 : decode cX4_makeRoom 19 = .ok (.iload_n 1, 1) := by decide +kernel
theorem dX4_makeRoom_20 : decode cX4_makeRoom 20 = .ok (.iadd, 1) := by decide +kernel
theorem dX4_makeRoom_21 : decode cX4_makeRoom 21 = .ok (.istore_n 2, 1) := by decide +kernel
theorem dX4_makeRoom_22 : decode cX4_makeRoom 22 = .ok (.iload_n 2, 1) := by decide +kernel
theorem dX4_makeRoom_23 : decode cX4_makeRoom 23 = .ok (.aload_n 0, 1) := by decide +kernel
theorem dX4_makeRoom_24 : decode cX4_makeRoom 24 = .ok (.getfield 11, 3) := by decide +kernel
theorem dX4_makeRoom_27 : decode cX4_makeRoom 27 = .ok (.arraylength, 1) := by decide +kernel
theorem dX4_makeRoom_28 : decode cX4_makeRoom 28 = .ok (.if_icmp .le 46, 3) := by decide +kernel
theorem dX4_makeRoom_31 : decode cX4_makeRoom 31 = .ok (.iload_n 2, 1) := by decide +kernel
theorem dX4_makeRoom_32 : decode cX4_makeRoom 32 = .ok (.aload_n 0, 1) := by decide +kernel
theorem dX4_makeRoom_33 : decode cX4_makeRoom 33 = .ok (.getfield 19, 3) := by decide +kernel
theorem dX4_makeRoom_36 : decode cX4_makeRoom 36 = .ok (.iconst 2, 1) := by decide +kernel
theorem dX4_makeRoom_37 : decode cX4_makeRoom 37 = .ok (.aload_n 0, 1) := by decide +kernel
theorem dX4_makeRoom_38 : decode cX4_makeRoom 38 = .ok (.getfield 11, 3) := by decide +kernel
theorem dX4_makeRoom_41 : decode cX4_makeRoom 41 = .ok (.arraylength, 1) := by decide +kernel
theorem dX4_makeRoom_42 : decode cX4_makeRoom 42 = .ok (.imul, 1) := by decide +kernel
theorem dX4_makeRoom_43 : decode cX4_makeRoom 43 = .ok (.invokestatic 39, 3) := by decide +kernel
theorem dX4_makeRoom_46 : decode cX4_makeRoom 46 = .ok (.invokestatic 45, 3) := by decide +kernel
theorem dX4_makeRoom_49 : decode cX4_makeRoom 49 = .ok (.istore_n 3, 1) := by decide +kernel
theorem dX4_makeRoom_50 : decode cX4_makeRoom 50 = .ok (.aload_n 0, 1) := by decide +kernel
theorem dX4_makeRoom_51 : decode cX4_makeRoom 51 = .ok (.aload_n 0, 1) := by decide +kernel
theorem dX4_makeRoom_52 : decode cX4_makeRoom 52 = .ok (.getfield 11, 3) := by decide +kernel
theorem dX4_makeRoom_55 : decode cX4_makeRoom 55 = .ok (.iload_n 3, 1) := by decide +kernel
theorem dX4_makeRoom_56 : decode cX4_makeRoom 56 = .ok (.invokestatic 48, 3) := by decide +kernel
theorem dX4_makeRoom_59 : decode cX4_makeRoom 59 = .ok (.putfield 11, 3) := by decide +kernel
theorem dX4_makeRoom_62 : decode cX4_makeRoom 62 = .ok (.aload_n 0, 1) := by decide +kernel
theorem dX4_makeRoom_63 : decode cX4_makeRoom 63 = .ok (.aload_n 0, 1) := by decide +kernel
theorem dX4_makeRoom_64 : decode cX4_makeRoom 64 = .ok (.getfield 15, 3) := by decide +kernel
theorem dX4_makeRoom_67 : decode cX4_makeRoom 67 = .ok (.iload_n 3, 1) := by decide +kernel
theorem dX4_makeRoom_68 : decode cX4_makeRoom 68 = .ok (.invokestatic 54, 3) := by decide +kernel
theorem dX4_makeRoom_71 : decode cX4_makeRoom 71 = .ok (.putfield 15, 3) := by decide +kernel
theorem dX4_makeRoom_74 : decode cX4_makeRoom 74 = .ok (.iconst 1, 1) := by decide +kernel
theorem dX4_makeRoom_75 : decode cX4_makeRoom 75 = .ok (.ireturn, 1) := by decide +kernel
theorem dX5_init_0 : decode cX5_init 0 = .ok (.aload_n 0, 1) := by decide +kernel
theorem dX5_init_1 : decode cX5_init 1 = .ok (.invokespecial 3, 3) := by decide +kernel
theorem dX5_init_4 : decode cX5_init 4 = .ok (.aload_n 0, 1) := by decide +kernel
theorem dX5_init_5 : decode cX5_init 5 = .ok (.bipush 60, 2) := by decide +kernel
theorem dX5_init_7 : decode cX5_init 7 = .ok (.newarray .int, 2) := by decide +kernel
theorem dX5_init_9 : decode cX5_init 9 = .ok (.putfield 9, 3) := by decide +kernel
theorem dX5_init_12 : decode cX5_init 12 = .ok (.aload_n 0, 1) := by decide +kernel
theorem dX5_init_13 : decode cX5_init 13 = .ok (.bipush 60, 2) := by decide +kernel
theorem dX5_init_15 : decode cX5_init 15 = .ok (.newarray .long, 2) := by decide +kernel
theorem dX5_init_17 : decode cX5_init 17 = .ok (.putfield 15, 3) := by decide +kernel
theorem dX5_init_20 : decode cX5_init 20 = .ok (.aload_n 0, 1) := by decide +kernel
theorem dX5_init_21 : decode cX5_init 21 = .ok (.bipush 60, 2) := by decide +kernel
theorem dX5_init_23 : decode cX5_init 23 = .ok (.newarray .int, 2) := by decide +kernel
theorem dX5_init_25 : decode cX5_init 25 = .ok (.putfield 19, 3) := by decide +kernel
theorem dX5_init_28 : decode cX5_init 28 = .ok (.aload_n 0, 1) := by decide +kernel
theorem dX5_init_29 : decode cX5_init 29 = .ok (.new 22, 3) := by decide +kernel
theorem dX5_init_32 : decode cX5_init 32 = .ok (.dup, 1) := by decide +kernel
theorem dX5_init_33 : decode cX5_init 33 = .ok (.sipush 200, 3) := by decide +kernel
theorem dX5_init_36 : decode cX5_init 36 = .ok (.invokespecial 24, 3) := by decide +kernel
theorem dX5_init_39 : decode cX5_init 39 = .ok (.putfield 27, 3) := by decide +kernel
theorem dX5_init_42 : decode cX5_init 42 = .ok (.aload_n 0, 1) := by decide +kernel
theorem dX5_init_43 : decode cX5_init 43 = .ok (.aload_n 1, 1) := by decide +kernel
theorem dX5_init_44 : decode cX5_init 44 = .ok (.putfield 31, 3) := by decide +kernel
theorem dX5_init_47 : decode cX5_init 47 = .ok (.return_, 1) := by decide +kernel
theorem dX5_around_0 : decode cX5_around 0 = .ok (.aload_n 0, 1) := by decide +kernel
theorem dX5_around_1 : decode cX5_around 1 = .ok (.getfield 31, 3) := by decide +kernel
theorem dX5_around_4 : decode cX5_around 4 = .ok (.areturn, 1) := by decide +kernel
theorem dX5_inner_0 : decode cX5_inner 0 = .ok (.aload_n 0, 1) := by decide +kernel
theorem dX5_inner_1 : decode cX5_inner 1 = .ok (.getfield 35, 3) := by decide +kernel
theorem dX5_inner_4 : decode cX5_inner 4 = .ok (.areturn, 1) := by decide +kernel
theorem dX5_nest_0 : decode cX5_nest 0 = .ok (.aload_n 0, 1) := by decide +kernel
theorem dX5_nest_1 : decode cX5_nest 1 = .ok (.astore_n 2, 1) := by decide +kernel
theorem dX5_nest_2 : decode cX5_nest 2 = .ok (.iconst 0, 1) := by decide +kernel
theorem dX5_nest_3 : decode cX5_nest 3 = .ok (.istore_n 3, 1) := by decide +kernel
theorem dX5_nest_4 : decode cX5_nest 4 = .ok (.iload_n 3, 1) := by decide +kernel
theorem dX5_nest_5 : decode cX5_nest 5 = .ok (.iload_n 1, 1) := by decide +kernel
theorem dX5_nest_6 : decode cX5_nest 6 = .ok (.if_icmp .ge 26, 3) := by decide +kernel
theorem dX5_nest_9 : decode cX5_nest 9 = .ok (.aload_n 2, 1) := by decide +kernel
theorem dX5_nest_10 : decode cX5_nest 10 = .ok (.new 10, 3) := by decide +kernel
theorem dX5_nest_13 : decode cX5_nest 13 = .ok (.dup, 1) := by decide +kernel
theorem dX5_nest_14 : decode cX5_nest 14 = .ok (.aload_n 2, 1) := by decide +kernel
theorem dX5_nest_15 : decode cX5_nest 15 = .ok (.invokespecial 38, 3) := by decide +kernel
theorem dX5_nest_18 : decode cX5_nest 18 = .ok (.putfield 35, 3) := by decide +kernel
theorem dX5_nest_21 : decode cX5_nest 21 = .ok (.aload_n 2, 1) := by decide +kernel
theorem dX5_nest_22 : decode cX5_nest 22 = .ok (.getfield 35, 3) := by decide +kernel
theorem dX5_nest_25 : decode cX5_nest 25 = .ok (.astore_n 2, 1) := by decide +kernel
theorem dX5_nest_26 : decode cX5_nest 26 = .ok (.iinc 3 1, 3) := by decide +kernel
theorem dX5_nest_29 : decode cX5_nest 29 = .ok (.goto (-25), 3) := by decide +kernel
theorem dX5_nest_32 : decode cX5_nest 32 = .ok (.return_, 1) := by decide +kernel
theorem dX5_tokens_0 : decode cX5_tokens 0 = .ok (.aload_n 0, 1) := by decide +kernel
theorem dX5_tokens_1 : decode cX5_tokens 1 = .ok (.getfield 27, 3) := by decide +kernel
theorem dX5_tokens_4 : decode cX5_tokens 4 = .ok (.areturn, 1) := by decide +kernel
theorem dX5_decisions_0 : decode cX5_decisions 0 = .ok (.aload_n 0, 1) := by decide +kernel
theorem dX5_decisions_1 : decode cX5_decisions 1 = .ok (.getfield 41, 3) := by decide +kernel
theorem dX5_decisions_4 : decode cX5_decisions 4 = .ok (.ireturn, 1) := by decide +kernel
theorem dX5_isInside_0 : decode cX5_isInside 0 = .ok (.iload_n 1, 1) := by decide +kernel
theorem dX5_isInside_1 : decode cX5_isInside 1 = .ok (.aload_n 0, 1) := by decide +kernel
theorem dX5_isInside_2 : decode cX5_isInside 2 = .ok (.getfield 48, 3) := by decide +kernel
theorem dX5_isInside_5 : decode cX5_isInside 5 = .ok (.if_icmp .lt 7, 3) := by decide +kernel
theorem dX5_isInside_8 : decode cX5_isInside 8 = .ok (.iconst 1, 1) := by decide +kernel
theorem dX5_isInside_9 : decode cX5_isInside 9 = .ok (.goto 4, 3) := by decide +kernel
theorem dX5_isInside_12 : decode cX5_isInside 12 = .ok (.iconst 0, 1) := by decide +kernel
theorem dX5_isInside_13 : decode cX5_isInside 13 = .ok (.ireturn, 1) := by decide +kernel
theorem dX5_beginOfSearch_0 : decode cX5_beginOfSearch 0 = .ok (.aload_n 0, 1) := by decide +kernel
theorem dX5_beginOfSearch_1 : decode cX5_beginOfSearch 1 = .ok (.iconst 0, 1) := by decide +kernel
theorem dX5_beginOfSearch_2 : decode cX5_beginOfSearch 2 = .ok (.putfield 48, 3) := by decide +kernel
theorem dX5_beginOfSearch_5 : decode cX5_beginOfSearch 5 = .ok (.aload_n 0, 1) := by decide +kernel
theorem dX5_beginOfSearch_6 : decode cX5_beginOfSearch 6 = .ok (.lload_n 1, 1) := by decide +kernel
theorem dX5_beginOfSearch_7 : decode cX5_beginOfSearch 7 = .ok (.putfield 51, 3) := by decide +kernel
theorem dX5_beginOfSearch_10 : decode cX5_beginOfSearch 10 = .ok (.aload_n 0, 1) := by decide +kernel
theorem dX5_beginOfSearch_11 : decode cX5_beginOfSearch 11 = .ok (.iload_n 3, 1) := by decide +kernel
theorem dX5_beginOfSearch_12 : decode cX5_beginOfSearch 12 = .ok (.putfield 55, 3) := by decide +kernel
theorem dX5_beginOfSearch_15 : decode cX5_beginOfSearch 15 = .ok (.aload_n 0, 1) := by decide +kernel
theorem dX5_beginOfSearch_16 : decode cX5_beginOfSearch 16 = .ok (.getfield 27, 3) := by decide +kernel
theorem dX5_beginOfSearch_19 : decode cX5_beginOfSearch 19 = .ok (.iconst 0, 1) := by decide +kernel
theorem dX5_beginOfSearch_20 : decode cX5_beginOfSearch 20 = .ok (.invokevirtual 58, 3) := by decide +kernel
theorem dX5_beginOfSearch_23 : decode cX5_beginOfSearch 23 = .ok (.aload_n 0, 1) := by decide +kernel
theorem dX5_beginOfSearch_24 : decode cX5_beginOfSearch 24 = .ok (.invokevirtual 61, 3) := by decide +kernel
theorem dX5_beginOfSearch_27 : decode cX5_beginOfSearch 27 = .ok (.return_, 1) := by decide +kernel
theorem dX5_beginOfSet_0 : decode cX5_beginOfSet 0 = .ok (.aload_n 0, 1) := by decide +kernel
theorem dX5_beginOfSet_1 : decode cX5_beginOfSet 1 = .ok (.iload_n 1, 1) := by decide +kernel
theorem dX5_beginOfSet_2 : decode cX5_beginOfSet 2 = .ok (.putfield 48, 3) := by decide +kernel
theorem dX5_beginOfSet_5 : decode cX5_beginOfSet 5 = .ok (.aload_n 0, 1) := by decide +kernel
theorem dX5_beginOfSet_6 : decode cX5_beginOfSet 6 = .ok (.lconst 0, 1) := by decide +kernel
theorem dX5_beginOfSet_7 : decode cX5_beginOfSet 7 = .ok (.putfield 51, 3) := by decide +kernel
theorem dX5_beginOfSet_10 : decode cX5_beginOfSet 10 = .ok (.aload_n 0, 1) := by decide +kernel
theorem dX5_beginOfSet_11 : decode cX5_beginOfSet 11 = .ok (.bipush 60, 2) := by decide +kernel
theorem dX5_beginOfSet_13 : decode cX5_beginOfSet 13 = .ok (.putfield 55, 3) := by decide +kernel
theorem dX5_beginOfSet_16 : decode cX5_beginOfSet 16 = .ok (.aload_n 0, 1) := by decide +kernel
theorem dX5_beginOfSet_17 : decode cX5_beginOfSet 17 = .ok (.iconst 0, 1) := by decide +kernel
theorem dX5_beginOfSet_18 : decode cX5_beginOfSet 18 = .ok (.putfield 45, 3) := by decide +kernel
theorem dX5_beginOfSet_21 : decode cX5_beginOfSet 21 = .ok (.aload_n 0, 1) := by decide +kernel
theorem dX5_beginOfSet_22 : decode cX5_beginOfSet 22 = .ok (.getfield 27, 3) := by decide +kernel
theorem dX5_beginOfSet_25 : decode cX5_beginOfSet 25 = .ok (.iconst 0, 1) := by decide +kernel
theorem dX5_beginOfSet_26 : decode cX5_beginOfSet 26 = .ok (.invokevirtual 58, 3) := by decide +kernel
theorem dX5_beginOfSet_29 : decode cX5_beginOfSet 29 = .ok (.aload_n 0, 1) := by decide +kernel
theorem dX5_beginOfSet_30 : decode cX5_beginOfSet 30 = .ok (.getfield 27, 3) := by decide +kernel
theorem dX5_beginOfSet_33 : decode cX5_beginOfSet 33 = .ok (.iconst 2, 1) := by decide +kernel
theorem dX5_beginOfSet_34 : decode cX5_beginOfSet 34 = .ok (.lconst 0, 1) := by decide +kernel
theorem dX5_beginOfSet_35 : decode cX5_beginOfSet 35 = .ok (.invokevirtual 64, 3) := by decide +kernel
theorem dX5_beginOfSet_38 : decode cX5_beginOfSet 38 = .ok (.pop, 1) := by decide +kernel
theorem dX5_beginOfSet_39 : decode cX5_beginOfSet 39 = .ok (.aload_n 0, 1) := by decide +kernel
theorem dX5_beginOfSet_40 : decode cX5_beginOfSet 40 = .ok (.invokevirtual 61, 3) := by decide +kernel
theorem dX5_beginOfSet_43 : decode cX5_beginOfSet 43 = .ok (.return_, 1) := by decide +kernel
theorem dX5_begin_0 : decode cX5_begin 0 = .ok (.aload_n 0, 1) := by decide +kernel
theorem dX5_begin_1 : decode cX5_begin 1 = .ok (.iconst 0, 1) := by decide +kernel
theorem dX5_begin_2 : decode cX5_begin 2 = .ok (.putfield 41, 3) := by decide +kernel
theorem dX5_begin_5 : decode cX5_begin 5 = .ok (.aload_n 0, 1) := by decide +kernel
theorem dX5_begin_6 : decode cX5_begin 6 = .ok (.aload_n 0, 1) := by decide +kernel
theorem dX5_begin_7 : decode cX5_begin 7 = .ok (.getfield 27, 3) := by decide +kernel
theorem dX5_begin_10 : decode cX5_begin 10 = .ok (.invokevirtual 68, 3) := by decide +kernel
theorem dX5_begin_13 : decode cX5_begin 13 = .ok (.putfield 72, 3) := by decide +kernel
theorem dX5_begin_16 : decode cX5_begin 16 = .ok (.aload_n 0, 1) := by decide +kernel
theorem dX5_begin_17 : decode cX5_begin 17 = .ok (.getfield 9, 3) := by decide +kernel
theorem dX5_begin_20 : decode cX5_begin 20 = .ok (.iconst (-1), 1) := by decide +kernel
theorem dX5_begin_21 : decode cX5_begin 21 = .ok (.invokestatic 75, 3) := by decide +kernel
theorem dX5_begin_24 : decode cX5_begin 24 = .ok (.return_, 1) := by decide +kernel
theorem dX5_listValue_0 : decode cX5_listValue 0 = .ok (.aload_n 0, 1) := by decide +kernel
theorem dX5_listValue_1 : decode cX5_listValue 1 = .ok (.dup, 1) := by decide +kernel
theorem dX5_listValue_2 : decode cX5_listValue 2 = .ok (.getfield 45, 3) := by decide +kernel
theorem dX5_listValue_5 : decode cX5_listValue 5 = .ok (.iconst 1, 1) := by decide +kernel
theorem dX5_listValue_6 : decode cX5_listValue 6 = .ok (.iadd, 1) := by decide +kernel
theorem dX5_listValue_7 : decode cX5_listValue 7 = .ok (.putfield 45, 3) := by decide +kernel
theorem dX5_listValue_10 : decode cX5_listValue 10 = .ok (.aload_n 0, 1) := by decide +kernel
theorem dX5_listValue_11 : decode cX5_listValue 11 = .ok (.getfield 27, 3) := by decide +kernel
theorem dX5_listValue_14 : decode cX5_listValue 14 = .ok (.iconst 0, 1) := by decide +kernel
theorem dX5_listValue_15 : decode cX5_listValue 15 = .ok (.aload_n 0, 1) := by decide +kernel
theorem dX5_listValue_16 : decode cX5_listValue 16 = .ok (.getfield 45, 3) := by decide +kernel
theorem dX5_listValue_19 : decode cX5_listValue 19 = .ok (.i2l, 1) := by decide +kernel
theorem dX5_listValue_20 : decode cX5_listValue 20 = .ok (.invokevirtual 81, 3) := by decide +kernel
theorem dX5_listValue_23 : decode cX5_listValue 23 = .ok (.return_, 1) := by decide +kernel
theorem dX5_dropValue_0 : decode cX5_dropValue 0 = .ok (.aload_n 0, 1) := by decide +kernel
theorem dX5_dropValue_1 : decode cX5_dropValue 1 = .ok (.getfield 27, 3) := by decide +kernel
theorem dX5_dropValue_4 : decode cX5_dropValue 4 = .ok (.aload_n 0, 1) := by decide +kernel
theorem dX5_dropValue_5 : decode cX5_dropValue 5 = .ok (.getfield 72, 3) := by decide +kernel
theorem dX5_dropValue_8 : decode cX5_dropValue 8 = .ok (.invokevirtual 58, 3) := by decide +kernel
theorem dX5_dropValue_11 : decode cX5_dropValue 11 = .ok (.return_, 1) := by decide +kernel
theorem dX5_turn_0 : decode cX5_turn 0 = .ok (.aload_n 0, 1) := by decide +kernel
theorem dX5_turn_1 : decode cX5_turn 1 = .ok (.getfield 41, 3) := by decide +kernel
theorem dX5_turn_4 : decode cX5_turn 4 = .ok (.iconst 1, 1) := by decide +kernel
theorem dX5_turn_5 : decode cX5_turn 5 = .ok (.isub, 1) := by decide +kernel
theorem dX5_turn_6 : decode cX5_turn 6 = .ok (.istore_n 1, 1) := by decide +kernel
theorem dX5_turn_7 : decode cX5_turn 7 = .ok (.iload_n 1, 1) := by decide +kernel
theorem dX5_turn_8 : decode cX5_turn 8 = .ok (.ifCond .lt 44, 3) := by decide +kernel
theorem dX5_turn_11 : decode cX5_turn 11 = .ok (.lconst 1, 1) := by decide +kernel
theorem dX5_turn_12 : decode cX5_turn 12 = .ok (.iload_n 1, 1) := by decide +kernel
theorem dX5_turn_13 : decode cX5_turn 13 = .ok (.lshl, 1) := by decide +kernel
theorem dX5_turn_14 : decode cX5_turn 14 = .ok (.lstore_n 2, 1) := by decide +kernel
theorem dX5_turn_15 : decode cX5_turn 15 = .ok (.aload_n 0, 1) := by decide +kernel
theorem dX5_turn_16 : decode cX5_turn 16 = .ok (.getfield 51, 3) := by decide +kernel
theorem dX5_turn_19 : decode cX5_turn 19 = .ok (.lload_n 2, 1) := by decide +kernel
theorem dX5_turn_20 : decode cX5_turn 20 = .ok (.land, 1) := by decide +kernel
theorem dX5_turn_21 : decode cX5_turn 21 = .ok (.lconst 0, 1) := by decide +kernel
theorem dX5_turn_22 : decode cX5_turn 22 = .ok (.lcmp, 1) := by decide +kernel
theorem dX5_turn_23 : decode cX5_turn 23 = .ok (.ifCond .ne 23, 3) := by decide +kernel
theorem dX5_turn_26 : decode cX5_turn 26 = .ok (.aload_n 0, 1) := by decide +kernel
theorem dX5_turn_27 : decode cX5_turn 27 = .ok (.aload_n 0, 1) := by decide +kernel
theorem dX5_turn_28 : decode cX5_turn 28 = .ok (.getfield 51, 3) := by decide +kernel
theorem dX5_turn_31 : decode cX5_turn 31 = .ok (.lload_n 2, 1) := by decide +kernel
theorem dX5_turn_32 : decode cX5_turn 32 = .ok (.lconst 1, 1) := by decide +kernel
theorem dX5_turn_33 : decode cX5_turn 33 = .ok (.lsub, 1) := by decide +kernel
theorem dX5_turn_34 : decode cX5_turn 34 = .ok (.land, 1) := by decide +kernel
theorem dX5_turn_35 : decode cX5_turn 35 = .ok (.lload_n 2, 1) := by decide +kernel
theorem dX5_turn_36 : decode cX5_turn 36 = .ok (.lor, 1) := by decide +kernel
theorem dX5_turn_37 : decode cX5_turn 37 = .ok (.putfield 51, 3) := by decide +kernel
theorem dX5_turn_40 : decode cX5_turn 40 = .ok (.aload_n 0, 1) := by decide +kernel
theorem dX5_turn_41 : decode cX5_turn 41 = .ok (.invokevirtual 61, 3) := by decide +kernel
theorem dX5_turn_44 : decode cX5_turn 44 = .ok (.iconst 1, 1) := by decide +kernel
theorem dX5_turn_45 : decode cX5_turn 45 = .ok (.ireturn, 1) := by decide +kernel
theorem dX5_turn_46 : decode cX5_turn 46 = .ok (.iinc 1 (-1), 3) := by decide +kernel
theorem dX5_turn_49 : decode cX5_turn 49 = .ok (.goto (-42), 3) := by decide +kernel
theorem dX5_turn_52 : decode cX5_turn 52 = .ok (.iconst 0, 1) := by decide +kernel
theorem dX5_turn_53 : decode cX5_turn 53 = .ok (.ireturn, 1) := by decide +kernel
theorem dX5_decide_0 : decode cX5_decide 0 = .ok (.aload_n 0, 1) := by decide +kernel
theorem dX5_decide_1 : decode cX5_decide 1 = .ok (.getfield 41, 3) := by decide +kernel
theorem dX5_decide_4 : decode cX5_decide 4 = .ok (.aload_n 0, 1) := by decide +kernel
theorem dX5_decide_5 : decode cX5_decide 5 = .ok (.getfield 55, 3) := by decide +kernel
theorem dX5_decide_8 : decode cX5_decide 8 = .ok (.if_icmp .lt 5, 3) := by decide +kernel
theorem dX5_decide_11 : decode cX5_decide 11 = .ok (.iconst (-1), 1) := by decide +kernel
theorem dX5_decide_12 : decode cX5_decide 12 = .ok (.ireturn, 1) := by decide +kernel
theorem dX5_decide_13 : decode cX5_decide 13 = .ok (.aload_n 0, 1) := by decide +kernel
theorem dX5_decide_14 : decode cX5_decide 14 = .ok (.getfield 51, 3) := by decide +kernel
theorem dX5_decide_17 : decode cX5_decide 17 = .ok (.aload_n 0, 1) := by decide +kernel
theorem dX5_decide_18 : decode cX5_decide 18 = .ok (.getfield 41, 3) := by decide +kernel
theorem dX5_decide_21 : decode cX5_decide 21 = .ok (.lushr, 1) := by decide +kernel
theorem dX5_decide_22 : decode cX5_decide 22 = .ok (.lconst 1, 1) := by decide +kernel
theorem dX5_decide_23 : decode cX5_decide 23 = .ok (.land, 1) := by decide +kernel
theorem dX5_decide_24 : decode cX5_decide 24 = .ok (.l2i, 1) := by decide +kernel
theorem dX5_decide_25 : decode cX5_decide 25 = .ok (.istore_n 1, 1) := by decide +kernel
theorem dX5_decide_26 : decode cX5_decide 26 = .ok (.aload_n 0, 1) := by decide +kernel
theorem dX5_decide_27 : decode cX5_decide 27 = .ok (.dup, 1) := by decide +kernel
theorem dX5_decide_28 : decode cX5_decide 28 = .ok (.getfield 41, 3) := by decide +kernel
theorem dX5_decide_31 : decode cX5_decide 31 = .ok (.iconst 1, 1) := by decide +kernel
theorem dX5_decide_32 : decode cX5_decide 32 = .ok (.iadd, 1) := by decide +kernel
theorem dX5_decide_33 : decode cX5_decide 33 = .ok (.putfield 41, 3) := by decide +kernel
theorem dX5_decide_36 : decode cX5_decide 36 = .ok (.iload_n 1, 1) := by decide +kernel
theorem dX5_decide_37 : decode cX5_decide 37 = .ok (.ireturn, 1) := by decide +kernel
theorem dX5_hasValue_0 : decode cX5_hasValue 0 = .ok (.iload_n 1, 1) := by decide +kernel
theorem dX5_hasValue_1 : decode cX5_hasValue 1 = .ok (.ifCond .lt 23, 3) := by decide +kernel
theorem dX5_hasValue_4 : decode cX5_hasValue 4 = .ok (.iload_n 1, 1) := by decide +kernel
theorem dX5_hasValue_5 : decode cX5_hasValue 5 = .ok (.bipush 60, 2) := by decide +kernel
theorem dX5_hasValue_7 : decode cX5_hasValue 7 = .ok (.if_icmp .ge 17, 3) := by decide +kernel
theorem dX5_hasValue_10 : decode cX5_hasValue 10 = .ok (.aload_n 0, 1) := by decide +kernel
theorem dX5_hasValue_11 : decode cX5_hasValue 11 = .ok (.getfield 9, 3) := by decide +kernel
theorem dX5_hasValue_14 : decode cX5_hasValue 14 = .ok (.iload_n 1, 1) := by decide +kernel
theorem dX5_hasValue_15 : decode cX5_hasValue 15 = .ok (.iaload, 1) := by decide +kernel
theorem dX5_hasValue_16 : decode cX5_hasValue 16 = .ok (.iconst (-1), 1) := by decide +kernel
theorem dX5_hasValue_17 : decode cX5_hasValue 17 = .ok (.if_icmp .eq 7, 3) := by decide +kernel
theorem dX5_hasValue_20 : decode cX5_hasValue 20 = .ok (.iconst 1, 1) := by decide +kernel
theorem dX5_hasValue_21 : decode cX5_hasValue 21 = .ok (.goto 4, 3) := by decide +kernel
theorem dX5_hasValue_24 : decode cX5_hasValue 24 = .ok (.iconst 0, 1) := by decide +kernel
theorem dX5_hasValue_25 : decode cX5_hasValue 25 = .ok (.ireturn, 1) := by decide +kernel
theorem dX5_kindOf_0 : decode cX5_kindOf 0 = .ok (.aload_n 0, 1) := by decide +kernel
theorem dX5_kindOf_1 : decode cX5_kindOf 1 = .ok (.iload_n 1, 1) := by decide +kernel
theorem dX5_kindOf_2 : decode cX5_kindOf 2 = .ok (.invokevirtual 85, 3) := by decide +kernel
theorem dX5_kindOf_5 : decode cX5_kindOf 5 = .ok (.ifCond .eq 12, 3) := by decide +kernel
theorem dX5_kindOf_8 : decode cX5_kindOf 8 = .ok (.aload_n 0, 1) := by decide +kernel
theorem dX5_kindOf_9 : decode cX5_kindOf 9 = .ok (.getfield 9, 3) := by decide +kernel
theorem dX5_kindOf_12 : decode cX5_kindOf 12 = .ok (.iload_n 1, 1) := by decide +kernel
theorem dX5_kindOf_13 : decode cX5_kindOf 13 = .ok (.iaload, 1) := by decide +kernel
theorem dX5_kindOf_14 : decode cX5_kindOf 14 = .ok (.goto 4, 3) := by decide +kernel
theorem dX5_kindOf_17 : decode cX5_kindOf 17 = .ok (.iconst (-1), 1) := by decide +kernel
theorem dX5_kindOf_18 : decode cX5_kindOf 18 = .ok (.ireturn, 1) := by decide +kernel
theorem dX5_numberOf_0 : decode cX5_numberOf 0 = .ok (.aload_n 0, 1) := by decide +kernel
theorem dX5_numberOf_1 : decode cX5_numberOf 1 = .ok (.iload_n 1, 1) := by decide +kernel
theorem dX5_numberOf_2 : decode cX5_numberOf 2 = .ok (.invokevirtual 85, 3) := by decide +kernel
theorem dX5_numberOf_5 : decode cX5_numberOf 5 = .ok (.ifCond .eq 12, 3) := by decide +kernel
theorem dX5_numberOf_8 : decode cX5_numberOf 8 = .ok (.aload_n 0, 1) := by decide +kernel
theorem dX5_numberOf_9 : decode cX5_numberOf 9 = .ok (.getfield 15, 3) := by decide +kernel
theorem dX5_numberOf_12 : decode cX5_numberOf 12 = .ok (.iload_n 1, 1) := by decide +kernel
theorem dX5_numberOf_13 : decode cX5_numberOf 13 = .ok (.laload, 1) := by decide +kernel
theorem dX5_numberOf_14 : decode cX5_numberOf 14 = .ok (.goto 4, 3) := by decide +kernel
theorem dX5_numberOf_17 : decode cX5_numberOf 17 = .ok (.lconst 0, 1) := by decide +kernel
theorem dX5_numberOf_18 : decode cX5_numberOf 18 = .ok (.lreturn, 1) := by decide +kernel
theorem dX5_lengthOf_0 : decode cX5_lengthOf 0 = .ok (.aload_n 0, 1) := by decide +kernel
theorem dX5_lengthOf_1 : decode cX5_lengthOf 1 = .ok (.iload_n 1, 1) := by decide +kernel
theorem dX5_lengthOf_2 : decode cX5_lengthOf 2 = .ok (.invokevirtual 85, 3) := by decide +kernel
theorem dX5_lengthOf_5 : decode cX5_lengthOf 5 = .ok (.ifCond .eq 12, 3) := by decide +kernel
theorem dX5_lengthOf_8 : decode cX5_lengthOf 8 = .ok (.aload_n 0, 1) := by decide +kernel
theorem dX5_lengthOf_9 : decode cX5_lengthOf 9 = .ok (.getfield 19, 3) := by decide +kernel
theorem dX5_lengthOf_12 : decode cX5_lengthOf 12 = .ok (.iload_n 1, 1) := by decide +kernel
theorem dX5_lengthOf_13 : decode cX5_lengthOf 13 = .ok (.iaload, 1) := by decide +kernel
theorem dX5_lengthOf_14 : decode cX5_lengthOf 14 = .ok (.goto 4, 3) := by decide +kernel
theorem dX5_lengthOf_17 : decode cX5_lengthOf 17 = .ok (.iconst 0, 1) := by decide +kernel
theorem dX5_lengthOf_18 : decode cX5_lengthOf 18 = .ok (.ireturn, 1) := by decide +kernel
theorem dX5_keep_0 : decode cX5_keep 0 = .ok (.iload_n 1, 1) := by decide +kernel
theorem dX5_keep_1 : decode cX5_keep 1 = .ok (.ifCond .lt 31, 3) := by decide +kernel
theorem dX5_keep_4 : decode cX5_keep 4 = .ok (.iload_n 1, 1) := by decide +kernel
theorem dX5_keep_5 : decode cX5_keep 5 = .ok (.bipush 60, 2) := by decide +kernel
theorem dX5_keep_7 : decode cX5_keep 7 = .ok (.if_icmp .ge 25, 3) := by decide +kernel
theorem dX5_keep_10 : decode cX5_keep 10 = .ok (.aload_n 0, 1) := by decide +kernel
theorem dX5_keep_11 : decode cX5_keep 11 = .ok (.getfield 9, 3) := by decide +kernel
theorem dX5_keep_14 : decode cX5_keep 14 = .ok (.iload_n 1, 1) := by decide +kernel
theorem dX5_keep_15 : decode cX5_keep 15 = .ok (.iload_n 2, 1) := by decide +kernel
theorem dX5_keep_16 : decode cX5_keep 16 = .ok (.iastore, 1) := by decide +kernel
theorem dX5_keep_17 : decode cX5_keep 17 = .ok (.aload_n 0, 1) := by decide +kernel
theorem dX5_keep_18 : decode cX5_keep 18 = .ok (.getfield 15, 3) := by decide +kernel
theorem dX5_keep_21 : decode cX5_keep 21 = .ok (.iload_n 1, 1) := by decide +kernel
theorem dX5_keep_22 : decode cX5_keep 22 = .ok (.lload_n 3, 1) := by decide +kernel
theorem dX5_keep_23 : decode cX5_keep 23 = .ok (.lastore, 1) := by decide +kernel
theorem dX5_keep_24 : decode cX5_keep 24 = .ok (.aload_n 0, 1) := by decide +kernel
theorem dX5_keep_25 : decode cX5_keep 25 = .ok (.getfield 19, 3) := by decide +kernel
theorem dX5_keep_28 : decode cX5_keep 28 = .ok (.iload_n 1, 1) := by decide +kernel
theorem dX5_keep_29 : decode cX5_keep 29 = .ok (.iload 5, 2) := by decide +kernel
theorem dX5_keep_31 : decode cX5_keep 31 = .ok (.iastore, 1) := by decide +kernel
theorem dX5_keep_32 : decode cX5_keep 32 = .ok (.return_, 1) := by decide +kernel
theorem dX5_tell_0 : decode cX5_tell 0 = .ok (.aload_n 0, 1) := by decide +kernel
theorem dX5_tell_1 : decode cX5_tell 1 = .ok (.getfield 27, 3) := by decide +kernel
theorem dX5_tell_4 : decode cX5_tell 4 = .ok (.invokevirtual 68, 3) := by decide +kernel
theorem dX5_tell_7 : decode cX5_tell 7 = .ok (.aload_n 0, 1) := by decide +kernel
theorem dX5_tell_8 : decode cX5_tell 8 = .ok (.getfield 72, 3) := by decide +kernel
theorem dX5_tell_11 : decode cX5_tell 11 = .ok (.isub, 1) := by decide +kernel
theorem dX5_tell_12 : decode cX5_tell 12 = .ok (.bipush 100, 2) := by decide +kernel
theorem dX5_tell_14 : decode cX5_tell 14 = .ok (.if_icmp .ge 19, 3) := by decide +kernel
theorem dX5_tell_17 : decode cX5_tell 17 = .ok (.aload_n 0, 1) := by decide +kernel
theorem dX5_tell_18 : decode cX5_tell 18 = .ok (.getfield 27, 3) := by decide +kernel
theorem dX5_tell_21 : decode cX5_tell 21 = .ok (.iload_n 1, 1) := by decide +kernel
theorem dX5_tell_22 : decode cX5_tell 22 = .ok (.lload_n 2, 1) := by decide +kernel
theorem dX5_tell_23 : decode cX5_tell 23 = .ok (.invokevirtual 64, 3) := by decide +kernel
theorem dX5_tell_26 : decode cX5_tell 26 = .ok (.ifCond .eq 7, 3) := by decide +kernel
theorem dX5_tell_29 : decode cX5_tell 29 = .ok (.iconst 1, 1) := by decide +kernel
theorem dX5_tell_30 : decode cX5_tell 30 = .ok (.goto 4, 3) := by decide +kernel
theorem dX5_tell_33 : decode cX5_tell 33 = .ok (.iconst 0, 1) := by decide +kernel
theorem dX5_tell_34 : decode cX5_tell 34 = .ok (.ireturn, 1) := by decide +kernel
theorem dX5_tellAll_0 : decode cX5_tellAll 0 = .ok (.aload_n 0, 1) := by decide +kernel
theorem dX5_tellAll_1 : decode cX5_tellAll 1 = .ok (.getfield 27, 3) := by decide +kernel
theorem dX5_tellAll_4 : decode cX5_tellAll 4 = .ok (.invokevirtual 68, 3) := by decide +kernel
theorem dX5_tellAll_7 : decode cX5_tellAll 7 = .ok (.aload_n 0, 1) := by decide +kernel
theorem dX5_tellAll_8 : decode cX5_tellAll 8 = .ok (.getfield 72, 3) := by decide +kernel
theorem dX5_tellAll_11 : decode cX5_tellAll 11 = .ok (.isub, 1) := by decide +kernel
theorem dX5_tellAll_12 : decode cX5_tellAll 12 = .ok (.iload_n 3, 1) := by decide +kernel
theorem dX5_tellAll_13 : decode cX5_tellAll 13 = .ok (.iadd, 1) := by decide +kernel
theorem dX5_tellAll_14 : decode cX5_tellAll 14 = .ok (.bipush 100, 2) := by decide +kernel
theorem dX5_tellAll_16 : decode cX5_tellAll 16 = .ok (.if_icmp .gt 20, 3) := by decide +kernel
theorem dX5_tellAll_19 : decode cX5_tellAll 19 = .ok (.aload_n 0, 1) := by decide +kernel
theorem dX5_tellAll_20 : decode cX5_tellAll 20 = .ok (.getfield 27, 3) := by decide +kernel
theorem dX5_tellAll_23 : decode cX5_tellAll 23 = .ok (.aload_n 1, 1) := by decide +kernel
theorem dX5_tellAll_24 : decode cX5_tellAll 24 = .ok (.iload_n 2, 1) := by decide +kernel
theorem dX5_tellAll_25 : decode cX5_tellAll 25 = .ok (.iload_n 3, 1) := by decide +kernel
theorem dX5_tellAll_26 : decode cX5_tellAll 26 = .ok (.invokevirtual 89, 3) := by decide +kernel
theorem dX5_tellAll_29 : decode cX5_tellAll 29 = .ok (.ifCond .eq 7, 3) := by decide +kernel
theorem dX5_tellAll_32 : decode cX5_tellAll 32 = .ok (.iconst 1, 1) := by decide +kernel
theorem dX5_tellAll_33 : decode cX5_tellAll 33 = .ok (.goto 4, 3) := by decide +kernel
theorem dX5_tellAll_36 : decode cX5_tellAll 36 = .ok (.iconst 0, 1) := by decide +kernel
theorem dX5_tellAll_37 : decode cX5_tellAll 37 = .ok (.ireturn, 1) := by decide +kernel
theorem dX6_init_0 : decode cX6_init 0 = .ok (.aload_n 0, 1) := by decide +kernel
theorem dX6_init_1 : decode cX6_init 1 = .ok (.invokespecial 3, 3) := by decide +kernel
theorem dX6_init_4 : decode cX6_init 4 = .ok (.aload_n 0, 1) := by decide +kernel
theorem dX6_init_5 : decode cX6_init 5 = .ok (.new 9, 3) := by decide +kernel
theorem dX6_init_8 : decode cX6_init 8 = .ok (.dup, 1) := by decide +kernel
theorem dX6_init_9 : decode cX6_init 9 = .ok (.aconst_null, 1) := by decide +kernel
theorem dX6_init_10 : decode cX6_init 10 = .ok (.invokespecial 11, 3) := by decide +kernel
theorem dX6_init_13 : decode cX6_init 13 = .ok (.putfield 14, 3) := by decide +kernel
theorem dX6_init_16 : decode cX6_init 16 = .ok (.aload_n 0, 1) := by decide +kernel
theorem dX6_init_17 : decode cX6_init 17 = .ok (.aload_n 0, 1) := by decide +kernel
theorem dX6_init_18 : decode cX6_init 18 = .ok (.getfield 14, 3) := by decide +kernel
theorem dX6_init_21 : decode cX6_init 21 = .ok (.putfield 20, 3) := by decide +kernel
theorem dX6_init_24 : decode cX6_init 24 = .ok (.aload_n 0, 1) := by decide +kernel
theorem dX6_init_25 : decode cX6_init 25 = .ok (.new 23, 3) := by decide +kernel
theorem dX6_init_28 : decode cX6_init 28 = .ok (.dup, 1) := by decide +kernel
theorem dX6_init_29 : decode cX6_init 29 = .ok (.ldc 25, 2) := by decide +kernel
theorem dX6_init_31 : decode cX6_init 31 = .ok (.invokespecial 26, 3) := by decide +kernel
theorem dX6_init_34 : decode cX6_init 34 = .ok (.putfield 29, 3) := by decide +kernel
theorem dX6_init_37 : decode cX6_init 37 = .ok (.aload_n 0, 1) := by decide +kernel
theorem dX6_init_38 : decode cX6_init 38 = .ok (.aload_n 0, 1) := by decide +kernel
theorem dX6_init_39 : decode cX6_init 39 = .ok (.getfield 14, 3) := by decide +kernel
theorem dX6_init_42 : decode cX6_init 42 = .ok (.putfield 33, 3) := by decide +kernel
theorem dX6_init_45 : decode cX6_init 45 = .ok (.aload_n 0, 1) := by decide +kernel
theorem dX6_init_46 : decode cX6_init 46 = .ok (.aload_n 1, 1) := by decide +kernel
theorem dX6_init_47 : decode cX6_init 47 = .ok (.putfield 36, 3) := by decide +kernel
theorem dX6_init_50 : decode cX6_init 50 = .ok (.aload_n 0, 1) := by decide +kernel
theorem dX6_init_51 : decode cX6_init 51 = .ok (.getfield 14, 3) := by decide +kernel
theorem dX6_init_54 : decode cX6_init 54 = .ok (.iconst 5, 1) := by decide +kernel
theorem dX6_init_55 : decode cX6_init 55 = .ok (.invokevirtual 40, 3) := by decide +kernel
theorem dX6_init_58 : decode cX6_init 58 = .ok (.return_, 1) := by decide +kernel
theorem dX6_labour_0 : decode cX6_labour 0 = .ok (.aload_n 0, 1) := by decide +kernel
theorem dX6_labour_1 : decode cX6_labour 1 = .ok (.getfield 43, 3) := by decide +kernel
theorem dX6_labour_4 : decode cX6_labour 4 = .ok (.ireturn, 1) := by decide +kernel
theorem dX6_decisions_0 : decode cX6_decisions 0 = .ok (.aload_n 0, 1) := by decide +kernel
theorem dX6_decisions_1 : decode cX6_decisions 1 = .ok (.getfield 14, 3) := by decide +kernel
theorem dX6_decisions_4 : decode cX6_decisions 4 = .ok (.invokevirtual 47, 3) := by decide +kernel
theorem dX6_decisions_7 : decode cX6_decisions 7 = .ok (.ireturn, 1) := by decide +kernel
theorem dX6_tokens_0 : decode cX6_tokens 0 = .ok (.aload_n 0, 1) := by decide +kernel
theorem dX6_tokens_1 : decode cX6_tokens 1 = .ok (.getfield 14, 3) := by decide +kernel
theorem dX6_tokens_4 : decode cX6_tokens 4 = .ok (.invokevirtual 51, 3) := by decide +kernel
theorem dX6_tokens_7 : decode cX6_tokens 7 = .ok (.areturn, 1) := by decide +kernel
theorem dX6_goWay_0 : decode cX6_goWay 0 = .ok (.aload_n 0, 1) := by decide +kernel
theorem dX6_goWay_1 : decode cX6_goWay 1 = .ok (.aload_n 0, 1) := by decide +kernel
theorem dX6_goWay_2 : decode cX6_goWay 2 = .ok (.getfield 14, 3) := by decide +kernel
theorem dX6_goWay_5 : decode cX6_goWay 5 = .ok (.putfield 20, 3) := by decide +kernel
theorem dX6_goWay_8 : decode cX6_goWay 8 = .ok (.aload_n 0, 1) := by decide +kernel
theorem dX6_goWay_9 : decode cX6_goWay 9 = .ok (.iconst 0, 1) := by decide +kernel
theorem dX6_goWay_10 : decode cX6_goWay 10 = .ok (.putfield 43, 3) := by decide +kernel
theorem dX6_goWay_13 : decode cX6_goWay 13 = .ok (.aload_n 0, 1) := by decide +kernel
theorem dX6_goWay_14 : decode cX6_goWay 14 = .ok (.getfield 29, 3) := by decide +kernel
theorem dX6_goWay_17 : decode cX6_goWay 17 = .ok (.iconst 0, 1) := by decide +kernel
theorem dX6_goWay_18 : decode cX6_goWay 18 = .ok (.invokevirtual 55, 3) := by decide +kernel
theorem dX6_goWay_21 : decode cX6_goWay 21 = .ok (.aload_n 0, 1) := by decide +kernel
theorem dX6_goWay_22 : decode cX6_goWay 22 = .ok (.getfield 14, 3) := by decide +kernel
theorem dX6_goWay_25 : decode cX6_goWay 25 = .ok (.lload_n 2, 1) := by decide +kernel
theorem dX6_goWay_26 : decode cX6_goWay 26 = .ok (.iload 4, 2) := by decide +kernel
theorem dX6_goWay_28 : decode cX6_goWay 28 = .ok (.invokevirtual 58, 3) := by decide +kernel
theorem dX6_goWay_31 : decode cX6_goWay 31 = .ok (.aload_n 0, 1) := by decide +kernel
theorem dX6_goWay_32 : decode cX6_goWay 32 = .ok (.iload_n 1, 1) := by decide +kernel
theorem dX6_goWay_33 : decode cX6_goWay 33 = .ok (.iload_n 1, 1) := by decide +kernel
theorem dX6_goWay_34 : decode cX6_goWay 34 = .ok (.iconst 1, 1) := by decide +kernel
theorem dX6_goWay_35 : decode cX6_goWay 35 = .ok (.iadd, 1) := by decide +kernel
theorem dX6_goWay_36 : decode cX6_goWay 36 = .ok (.invokevirtual 62, 3) := by decide +kernel
theorem dX6_goWay_39 : decode cX6_goWay 39 = .ok (.ireturn, 1) := by decide +kernel
theorem dX6_tellInFull_0 : decode cX6_tellInFull 0 = .ok (.aload_n 0, 1) := by decide +kernel
theorem dX6_tellInFull_1 : decode cX6_tellInFull 1 = .ok (.iload_n 1, 1) := by decide +kernel
theorem dX6_tellInFull_2 : decode cX6_tellInFull 2 = .ok (.iload_n 2, 1) := by decide +kernel
theorem dX6_tellInFull_3 : decode cX6_tellInFull 3 = .ok (.invokevirtual 66, 3) := by decide +kernel
theorem dX6_tellInFull_6 : decode cX6_tellInFull 6 = .ok (.istore_n 3, 1) := by decide +kernel
theorem dX6_tellInFull_7 : decode cX6_tellInFull 7 = .ok (.iload_n 3, 1) := by decide +kernel
theorem dX6_tellInFull_8 : decode cX6_tellInFull 8 = .ok (.ifCond .eq 5, 3) := by decide +kernel
theorem dX6_tellInFull_11 : decode cX6_tellInFull 11 = .ok (.iload_n 3, 1) := by decide +kernel
theorem dX6_tellInFull_12 : decode cX6_tellInFull 12 = .ok (.ireturn, 1) := by decide +kernel
theorem dX6_tellInFull_13 : decode cX6_tellInFull 13 = .ok (.aload_n 0, 1) := by decide +kernel
theorem dX6_tellInFull_14 : decode cX6_tellInFull 14 = .ok (.getfield 69, 3) := by decide +kernel
theorem dX6_tellInFull_17 : decode cX6_tellInFull 17 = .ok (.ifCond .ne 24, 3) := by decide +kernel
theorem dX6_tellInFull_20 : decode cX6_tellInFull 20 = .ok (.aload_n 0, 1) := by decide +kernel
theorem dX6_tellInFull_21 : decode cX6_tellInFull 21 = .ok (.getfield 20, 3) := by decide +kernel
theorem dX6_tellInFull_24 : decode cX6_tellInFull 24 = .ok (.iconst 0, 1) := by decide +kernel
theorem dX6_tellInFull_25 : decode cX6_tellInFull 25 = .ok (.aload_n 0, 1) := by decide +kernel
theorem dX6_tellInFull_26 : decode cX6_tellInFull 26 = .ok (.getfield 72, 3) := by decide +kernel
theorem dX6_tellInFull_29 : decode cX6_tellInFull 29 = .ok (.invokevirtual 76, 3) := by decide +kernel
theorem dX6_tellInFull_32 : decode cX6_tellInFull 32 = .ok (.ifCond .eq 7, 3) := by decide +kernel
theorem dX6_tellInFull_35 : decode cX6_tellInFull 35 = .ok (.iconst 0, 1) := by decide +kernel
theorem dX6_tellInFull_36 : decode cX6_tellInFull 36 = .ok (.goto 4, 3) := by decide +kernel
theorem dX6_tellInFull_39 : decode cX6_tellInFull 39 = .ok (.iconst 2, 1) := by decide +kernel
theorem dX6_tellInFull_40 : decode cX6_tellInFull 40 = .ok (.ireturn, 1) := by decide +kernel
theorem dX6_tellInFull_41 : decode cX6_tellInFull 41 = .ok (.aload_n 0, 1) := by decide +kernel
theorem dX6_tellInFull_42 : decode cX6_tellInFull 42 = .ok (.getfield 69, 3) := by decide +kernel
theorem dX6_tellInFull_45 : decode cX6_tellInFull 45 = .ok (.iconst 2, 1) := by decide +kernel
theorem dX6_tellInFull_46 : decode cX6_tellInFull 46 = .ok (.if_icmp .ne 32, 3) := by decide +kernel
theorem dX6_tellInFull_49 : decode cX6_tellInFull 49 = .ok (.aload_n 0, 1) := by decide +kernel
theorem dX6_tellInFull_50 : decode cX6_tellInFull 50 = .ok (.getfield 20, 3) := by decide +kernel
theorem dX6_tellInFull_53 : decode cX6_tellInFull 53 = .ok (.aload_n 0, 1) := by decide +kernel
theorem dX6_tellInFull_54 : decode cX6_tellInFull 54 = .ok (.getfield 29, 3) := by decide +kernel
theorem dX6_tellInFull_57 : decode cX6_tellInFull 57 = .ok (.aload_n 0, 1) := by decide +kernel
theorem dX6_tellInFull_58 : decode cX6_tellInFull 58 = .ok (.getfield 72, 3) := by decide +kernel
theorem dX6_tellInFull_61 : decode cX6_tellInFull 61 = .ok (.l2i, 1) := by decide +kernel
theorem dX6_tellInFull_62 : decode cX6_tellInFull 62 = .ok (.aload_n 0, 1) := by decide +kernel
theorem dX6_tellInFull_63 : decode cX6_tellInFull 63 = .ok (.getfield 80, 3) := by decide +kernel
theorem dX6_tellInFull_66 : decode cX6_tellInFull 66 = .ok (.invokevirtual 83, 3) := by decide +kernel
theorem dX6_tellInFull_69 : decode cX6_tellInFull 69 = .ok (.ifCond .eq 7, 3) := by decide +kernel
theorem dX6_tellInFull_72 : decode cX6_tellInFull 72 = .ok (.iconst 0, 1) := by decide +kernel
theorem dX6_tellInFull_73 : decode cX6_tellInFull 73 = .ok (.goto 4, 3) := by decide +kernel
theorem dX6_tellInFull_76 : decode cX6_tellInFull 76 = .ok (.iconst 2, 1) := by decide +kernel
theorem dX6_tellInFull_77 : decode cX6_tellInFull 77 = .ok (.ireturn, 1) := by decide +kernel
theorem dX6_tellInFull_78 : decode cX6_tellInFull 78 = .ok (.aload_n 0, 1) := by decide +kernel
theorem dX6_tellInFull_79 : decode cX6_tellInFull 79 = .ok (.getfield 72, 3) := by decide +kernel
theorem dX6_tellInFull_82 : decode cX6_tellInFull 82 = .ok (.l2i, 1) := by decide +kernel
theorem dX6_tellInFull_83 : decode cX6_tellInFull 83 = .ok (.istore 4, 2) := by decide +kernel
theorem dX6_tellInFull_85 : decode cX6_tellInFull 85 = .ok (.aload_n 0, 1) := by decide +kernel
theorem dX6_tellInFull_86 : decode cX6_tellInFull 86 = .ok (.getfield 20, 3) := by decide +kernel
theorem dX6_tellInFull_89 : decode cX6_tellInFull 89 = .ok (.iconst 1, 1) := by decide +kernel
theorem dX6_tellInFull_90 : decode cX6_tellInFull 90 = .ok (.ldc2_w 87, 3) := by decide +kernel
theorem dX6_tellInFull_93 : decode cX6_tellInFull 93 = .ok (.invokevirtual 76, 3) := by decide +kernel
theorem dX6_tellInFull_96 : decode cX6_tellInFull 96 = .ok (.ifCond .ne 5, 3) := by decide +kernel
theorem dX6_tellInFull_99 : decode cX6_tellInFull 99 = .ok (.iconst 2, 1) := by decide +kernel
theorem dX6_tellInFull_100 : decode cX6_tellInFull 100 = .ok (.ireturn, 1) := by decide +kernel
theorem dX6_tellInFull_101 : decode cX6_tellInFull 101 = .ok (.aload_n 0, 1) := by decide +kernel
theorem dX6_tellInFull_102 : decode cX6_tellInFull 102 = .ok (.aload_n 0, 1) := by decide +kernel
theorem dX6_tellInFull_103 : decode cX6_tellInFull 103 = .ok (.getfield 36, 3) := by decide +kernel
theorem dX6_tellInFull_106 : decode cX6_tellInFull 106 = .ok (.iload 4, 2) := by decide +kernel
theorem dX6_tellInFull_108 : decode cX6_tellInFull 108 = .ok (.invokevirtual 89, 3) := by decide +kernel
theorem dX6_tellInFull_111 : decode cX6_tellInFull 111 = .ok (.iload 4, 2) := by decide +kernel
theorem dX6_tellInFull_113 : decode cX6_tellInFull 113 = .ok (.invokevirtual 62, 3) := by decide +kernel
theorem dX6_tellInFull_116 : decode cX6_tellInFull 116 = .ok (.istore_n 3, 1) := by decide +kernel
theorem dX6_tellInFull_117 : decode cX6_tellInFull 117 = .ok (.iload_n 3, 1) := by decide +kernel
theorem dX6_tellInFull_118 : decode cX6_tellInFull 118 = .ok (.ifCond .ne 21, 3) := by decide +kernel
theorem dX6_tellInFull_121 : decode cX6_tellInFull 121 = .ok (.aload_n 0, 1) := by decide +kernel
theorem dX6_tellInFull_122 : decode cX6_tellInFull 122 = .ok (.aload_n 0, 1) := by decide +kernel
theorem dX6_tellInFull_123 : decode cX6_tellInFull 123 = .ok (.getfield 36, 3) := by decide +kernel
theorem dX6_tellInFull_126 : decode cX6_tellInFull 126 = .ok (.iload 4, 2) := by decide +kernel
theorem dX6_tellInFull_128 : decode cX6_tellInFull 128 = .ok (.invokevirtual 95, 3) := by decide +kernel
theorem dX6_tellInFull_131 : decode cX6_tellInFull 131 = .ok (.iload 4, 2) := by decide +kernel
theorem dX6_tellInFull_133 : decode cX6_tellInFull 133 = .ok (.invokevirtual 62, 3) := by decide +kernel
theorem dX6_tellInFull_136 : decode cX6_tellInFull 136 = .ok (.goto 4, 3) := by decide +kernel
theorem dX6_tellInFull_139 : decode cX6_tellInFull 139 = .ok (.iload_n 3, 1) := by decide +kernel
theorem dX6_tellInFull_140 : decode cX6_tellInFull 140 = .ok (.ireturn, 1) := by decide +kernel
theorem dX6_valueOf_0 : decode cX6_valueOf 0 = .ok (.iload_n 1, 1) := by decide +kernel
theorem dX6_valueOf_1 : decode cX6_valueOf 1 = .ok (.ifCond .lt 8, 3) := by decide +kernel
theorem dX6_valueOf_4 : decode cX6_valueOf 4 = .ok (.iload_n 1, 1) := by decide +kernel
theorem dX6_valueOf_5 : decode cX6_valueOf 5 = .ok (.iload_n 2, 1) := by decide +kernel
theorem dX6_valueOf_6 : decode cX6_valueOf 6 = .ok (.if_icmp .lt 5, 3) := by decide +kernel
theorem dX6_valueOf_9 : decode cX6_valueOf 9 = .ok (.iconst 1, 1) := by decide +kernel
theorem dX6_valueOf_10 : decode cX6_valueOf 10 = .ok (.ireturn, 1) := by decide +kernel
theorem dX6_valueOf_11 : decode cX6_valueOf 11 = .ok (.aload_n 0, 1) := by decide +kernel
theorem dX6_valueOf_12 : decode cX6_valueOf 12 = .ok (.iload_n 1, 1) := by decide +kernel
theorem dX6_valueOf_13 : decode cX6_valueOf 13 = .ok (.invokevirtual 98, 3) := by decide +kernel
theorem dX6_valueOf_16 : decode cX6_valueOf 16 = .ok (.astore_n 3, 1) := by decide +kernel
theorem dX6_valueOf_17 : decode cX6_valueOf 17 = .ok (.aload_n 3, 1) := by decide +kernel
theorem dX6_valueOf_18 : decode cX6_valueOf 18 = .ok (.iload_n 1, 1) := by decide +kernel
theorem dX6_valueOf_19 : decode cX6_valueOf 19 = .ok (.invokevirtual 102, 3) := by decide +kernel
theorem dX6_valueOf_22 : decode cX6_valueOf 22 = .ok (.ifCond .eq 23, 3) := by decide +kernel
theorem dX6_valueOf_25 : decode cX6_valueOf 25 = .ok (.aload_n 0, 1) := by decide +kernel
theorem dX6_valueOf_26 : decode cX6_valueOf 26 = .ok (.aload_n 3, 1) := by decide +kernel
theorem dX6_valueOf_27 : decode cX6_valueOf 27 = .ok (.iload_n 1, 1) := by decide +kernel
theorem dX6_valueOf_28 : decode cX6_valueOf 28 = .ok (.invokevirtual 106, 3) := by decide +kernel
theorem dX6_valueOf_31 : decode cX6_valueOf 31 = .ok (.aload_n 3, 1) := by decide +kernel
theorem dX6_valueOf_32 : decode cX6_valueOf 32 = .ok (.iload_n 1, 1) := by decide +kernel
theorem dX6_valueOf_33 : decode cX6_valueOf 33 = .ok (.invokevirtual 109, 3) := by decide +kernel
theorem dX6_valueOf_36 : decode cX6_valueOf 36 = .ok (.aload_n 3, 1) := by decide +kernel
theorem dX6_valueOf_37 : decode cX6_valueOf 37 = .ok (.iload_n 1, 1) := by decide +kernel
theorem dX6_valueOf_38 : decode cX6_valueOf 38 = .ok (.invokevirtual 113, 3) := by decide +kernel
theorem dX6_valueOf_41 : decode cX6_valueOf 41 = .ok (.invokevirtual 116, 3) := by decide +kernel
theorem dX6_valueOf_44 : decode cX6_valueOf 44 = .ok (.ireturn, 1) := by decide +kernel
theorem dX6_valueOf_45 : decode cX6_valueOf 45 = .ok (.aload_n 3, 1) := by decide +kernel
theorem dX6_valueOf_46 : decode cX6_valueOf 46 = .ok (.aload_n 0, 1) := by decide +kernel
theorem dX6_valueOf_47 : decode cX6_valueOf 47 = .ok (.getfield 20, 3) := by decide +kernel
theorem dX6_valueOf_50 : decode cX6_valueOf 50 = .ok (.if_acmp .eq 15, 3) := by decide +kernel
theorem dX6_valueOf_53 : decode cX6_valueOf 53 = .ok (.aload_n 0, 1) := by decide +kernel
theorem dX6_valueOf_54 : decode cX6_valueOf 54 = .ok (.iload_n 1, 1) := by decide +kernel
theorem dX6_valueOf_55 : decode cX6_valueOf 55 = .ok (.putfield 120, 3) := by decide +kernel
theorem dX6_valueOf_58 : decode cX6_valueOf 58 = .ok (.aload_n 0, 1) := by decide +kernel
theorem dX6_valueOf_59 : decode cX6_valueOf 59 = .ok (.aload_n 3, 1) := by decide +kernel
theorem dX6_valueOf_60 : decode cX6_valueOf 60 = .ok (.putfield 33, 3) := by decide +kernel
theorem dX6_valueOf_63 : decode cX6_valueOf 63 = .ok (.iconst 4, 1) := by decide +kernel
theorem dX6_valueOf_64 : decode cX6_valueOf 64 = .ok (.ireturn, 1) := by decide +kernel
theorem dX6_valueOf_65 : decode cX6_valueOf 65 = .ok (.aload_n 0, 1) := by decide +kernel
theorem dX6_valueOf_66 : decode cX6_valueOf 66 = .ok (.iload_n 1, 1) := by decide +kernel
theorem dX6_valueOf_67 : decode cX6_valueOf 67 = .ok (.invokevirtual 123, 3) := by decide +kernel
theorem dX6_valueOf_70 : decode cX6_valueOf 70 = .ok (.ireturn, 1) := by decide +kernel
theorem dX6_homeOf_0 : decode cX6_homeOf 0 = .ok (.aload_n 0, 1) := by decide +kernel
theorem dX6_homeOf_1 : decode cX6_homeOf 1 = .ok (.getfield 20, 3) := by decide +kernel
theorem dX6_homeOf_4 : decode cX6_homeOf 4 = .ok (.astore_n 2, 1) := by decide +kernel
theorem dX6_homeOf_5 : decode cX6_homeOf 5 = .ok (.aload_n 2, 1) := by decide +kernel
theorem dX6_homeOf_6 : decode cX6_homeOf 6 = .ok (.ifnull 21, 3) := by decide +kernel
theorem dX6_homeOf_9 : decode cX6_homeOf 9 = .ok (.aload_n 2, 1) := by decide +kernel
theorem dX6_homeOf_10 : decode cX6_homeOf 10 = .ok (.iload_n 1, 1) := by decide +kernel
theorem dX6_homeOf_11 : decode cX6_homeOf 11 = .ok (.invokevirtual 126, 3) := by decide +kernel
theorem dX6_homeOf_14 : decode cX6_homeOf 14 = .ok (.ifCond .eq 5, 3) := by decide +kernel
theorem dX6_homeOf_17 : decode cX6_homeOf 17 = .ok (.aload_n 2, 1) := by decide +kernel
theorem dX6_homeOf_18 : decode cX6_homeOf 18 = .ok (.areturn, 1) := by decide +kernel
theorem dX6_homeOf_19 : decode cX6_homeOf 19 = .ok (.aload_n 2, 1) := by decide +kernel
theorem dX6_homeOf_20 : decode cX6_homeOf 20 = .ok (.invokevirtual 129, 3) := by decide +kernel
theorem dX6_homeOf_23 : decode cX6_homeOf 23 = .ok (.astore_n 2, 1) := by decide +kernel
theorem dX6_homeOf_24 : decode cX6_homeOf 24 = .ok (.goto (-19), 3) := by decide +kernel
theorem dX6_homeOf_27 : decode cX6_homeOf 27 = .ok (.aload_n 0, 1) := by decide +kernel
theorem dX6_homeOf_28 : decode cX6_homeOf 28 = .ok (.getfield 14, 3) := by decide +kernel
theorem dX6_homeOf_31 : decode cX6_homeOf 31 = .ok (.areturn, 1) := by decide +kernel
theorem dX6_take_0 : decode cX6_take 0 = .ok (.aload_n 0, 1) := by decide +kernel
theorem dX6_take_1 : decode cX6_take 1 = .ok (.iload_n 1, 1) := by decide +kernel
theorem dX6_take_2 : decode cX6_take 2 = .ok (.putfield 69, 3) := by decide +kernel
theorem dX6_take_5 : decode cX6_take 5 = .ok (.aload_n 0, 1) := by decide +kernel
theorem dX6_take_6 : decode cX6_take 6 = .ok (.lload_n 2, 1) := by decide +kernel
theorem dX6_take_7 : decode cX6_take 7 = .ok (.putfield 72, 3) := by decide +kernel
theorem dX6_take_10 : decode cX6_take 10 = .ok (.aload_n 0, 1) := by decide +kernel
theorem dX6_take_11 : decode cX6_take 11 = .ok (.iload 4, 2) := by decide +kernel
theorem dX6_take_13 : decode cX6_take 13 = .ok (.putfield 80, 3) := by decide +kernel
theorem dX6_take_16 : decode cX6_take 16 = .ok (.iconst 0, 1) := by decide +kernel
theorem dX6_take_17 : decode cX6_take 17 = .ok (.ireturn, 1) := by decide +kernel
theorem dX6_takeNumber_0 : decode cX6_takeNumber 0 = .ok (.aload_n 0, 1) := by decide +kernel
theorem dX6_takeNumber_1 : decode cX6_takeNumber 1 = .ok (.iconst 0, 1) := by decide +kernel
theorem dX6_takeNumber_2 : decode cX6_takeNumber 2 = .ok (.lload_n 1, 1) := by decide +kernel
theorem dX6_takeNumber_3 : decode cX6_takeNumber 3 = .ok (.iconst 1, 1) := by decide +kernel
theorem dX6_takeNumber_4 : decode cX6_takeNumber 4 = .ok (.invokevirtual 116, 3) := by decide +kernel
theorem dX6_takeNumber_7 : decode cX6_takeNumber 7 = .ok (.ireturn, 1) := by decide +kernel
theorem dX6_workOut_0 : decode cX6_workOut 0 = .ok (.aload_n 0, 1) := by decide +kernel
theorem dX6_workOut_1 : decode cX6_workOut 1 = .ok (.getfield 43, 3) := by decide +kernel
theorem dX6_workOut_4 : decode cX6_workOut 4 = .ok (.sipush 2000, 3) := by decide +kernel
theorem dX6_workOut_7 : decode cX6_workOut 7 = .ok (.if_icmp .lt 5, 3) := by decide +kernel
theorem dX6_workOut_10 : decode cX6_workOut 10 = .ok (.iconst 2, 1) := by decide +kernel
theorem dX6_workOut_11 : decode cX6_workOut 11 = .ok (.ireturn, 1) := by decide +kernel
theorem dX6_workOut_12 : decode cX6_workOut 12 = .ok (.aload_n 0, 1) := by decide +kernel
theorem dX6_workOut_13 : decode cX6_workOut 13 = .ok (.dup, 1) := by decide +kernel
theorem dX6_workOut_14 : decode cX6_workOut 14 = .ok (.getfield 43, 3) := by decide +kernel
theorem dX6_workOut_17 : decode cX6_workOut 17 = .ok (.iconst 1, 1) := by decide +kernel
theorem dX6_workOut_18 : decode cX6_workOut 18 = .ok (.iadd, 1) := by decide +kernel
theorem dX6_workOut_19 : decode cX6_workOut 19 = .ok (.putfield 43, 3) := by decide +kernel
theorem dX6_workOut_22 : decode cX6_workOut 22 = .ok (.iconst 1, 1) := by decide +kernel
theorem dX6_workOut_23 : decode cX6_workOut 23 = .ok (.istore_n 2, 1) := by decide +kernel
theorem dX6_workOut_24 : decode cX6_workOut 24 = .ok (.aload_n 0, 1) := by decide +kernel
theorem dX6_workOut_25 : decode cX6_workOut 25 = .ok (.getfield 36, 3) := by decide +kernel
theorem dX6_workOut_28 : decode cX6_workOut 28 = .ok (.iload_n 1, 1) := by decide +kernel
theorem dX6_workOut_29 : decode cX6_workOut 29 = .ok (.invokevirtual 133, 3) := by decide +kernel
theorem dX6_workOut_32 : decode cX6_workOut 32 = .ok (.tableswitch 149 0 9 #[56, 72, 149, 81, 93, 103, 113, 122, 131, 140], 56) := by decide +kernel
theorem dX6_workOut_88 : decode cX6_workOut 88 = .ok (.aload_n 0, 1) := by decide +kernel
theorem dX6_workOut_89 : decode cX6_workOut 89 = .ok (.aload_n 0, 1) := by decide +kernel
theorem dX6_workOut_90 : decode cX6_workOut 90 = .ok (.getfield 36, 3) := by decide +kernel
theorem dX6_workOut_93 : decode cX6_workOut 93 = .ok (.iload_n 1, 1) := by decide +kernel
theorem dX6_workOut_94 : decode cX6_workOut 94 = .ok (.invokevirtual 136, 3) := by decide +kernel
theorem dX6_workOut_97 : decode cX6_workOut 97 = .ok (.invokevirtual 137, 3) := by decide +kernel
theorem dX6_workOut_100 : decode cX6_workOut 100 = .ok (.istore_n 2, 1) := by decide +kernel
theorem dX6_workOut_101 : decode cX6_workOut 101 = .ok (.goto 80, 3) := by decide +kernel
theorem dX6_workOut_104 : decode cX6_workOut 104 = .ok (.aload_n 0, 1) := by decide +kernel
theorem dX6_workOut_105 : decode cX6_workOut 105 = .ok (.iload_n 1, 1) := by decide +kernel
theorem dX6_workOut_106 : decode cX6_workOut 106 = .ok (.invokevirtual 141, 3) := by decide +kernel
theorem dX6_workOut_109 : decode cX6_workOut 109 = .ok (.istore_n 2, 1) := by decide +kernel
theorem dX6_workOut_110 : decode cX6_workOut 110 = .ok (.goto 71, 3) := by decide +kernel
theorem dX6_workOut_113 : decode cX6_workOut 113 = .ok (.aload_n 0, 1) := by decide +kernel
theorem dX6_workOut_114 : decode cX6_workOut 114 = .ok (.iconst 1, 1) := by decide +kernel
theorem dX6_workOut_115 : decode cX6_workOut 115 = .ok (.iload_n 1, 1) := by decide +kernel
theorem dX6_workOut_116 : decode cX6_workOut 116 = .ok (.i2l, 1) := by decide +kernel
theorem dX6_workOut_117 : decode cX6_workOut 117 = .ok (.iconst 1, 1) := by decide +kernel
theorem dX6_workOut_118 : decode cX6_workOut 118 = .ok (.invokevirtual 116, 3) := by decide +kernel
theorem dX6_workOut_121 : decode cX6_workOut 121 = .ok (.istore_n 2, 1) := by decide +kernel
theorem dX6_workOut_122 : decode cX6_workOut 122 = .ok (.goto 59, 3) := by decide +kernel
theorem dX6_workOut_125 : decode cX6_workOut 125 = .ok (.aload_n 0, 1) := by decide +kernel
theorem dX6_workOut_126 : decode cX6_workOut 126 = .ok (.iload_n 1, 1) := by decide +kernel
theorem dX6_workOut_127 : decode cX6_workOut 127 = .ok (.iconst 0, 1) := by decide +kernel
theorem dX6_workOut_128 : decode cX6_workOut 128 = .ok (.invokevirtual 144, 3) := by decide +kernel
theorem dX6_workOut_131 : decode cX6_workOut 131 = .ok (.istore_n 2, 1) := by decide +kernel
theorem dX6_workOut_132 : decode cX6_workOut 132 = .ok (.goto 49, 3) := by decide +kernel
theorem dX6_workOut_135 : decode cX6_workOut 135 = .ok (.aload_n 0, 1) := by decide +kernel
theorem dX6_workOut_136 : decode cX6_workOut 136 = .ok (.iload_n 1, 1) := by decide +kernel
theorem dX6_workOut_137 : decode cX6_workOut 137 = .ok (.iconst 1, 1) := by decide +kernel
theorem dX6_workOut_138 : decode cX6_workOut 138 = .ok (.invokevirtual 144, 3) := by decide +kernel
theorem dX6_workOut_141 : decode cX6_workOut 141 = .ok (.istore_n 2, 1) := by decide +kernel
theorem dX6_workOut_142 : decode cX6_workOut 142 = .ok (.goto 39, 3) := by decide +kernel
theorem dX6_workOut_145 : decode cX6_workOut 145 = .ok (.aload_n 0, 1) := by decide +kernel
theorem dX6_workOut_146 : decode cX6_workOut 146 = .ok (.iload_n 1, 1) := by decide +kernel
theorem dX6_workOut_147 : decode cX6_workOut 147 = .ok (.invokevirtual 148, 3) := by decide +kernel
theorem dX6_workOut_150 : decode cX6_workOut 150 = .ok (.istore_n 2, 1) := by decide +kernel
theorem dX6_workOut_151 : decode cX6_workOut 151 = .ok (.goto 30, 3) := by decide +kernel
theorem dX6_workOut_154 : decode cX6_workOut 154 = .ok (.aload_n 0, 1) := by decide +kernel
theorem dX6_workOut_155 : decode cX6_workOut 155 = .ok (.iload_n 1, 1) := by decide +kernel
theorem dX6_workOut_156 : decode cX6_workOut 156 = .ok (.invokevirtual 151, 3) := by decide +kernel
theorem dX6_workOut_159 : decode cX6_workOut 159 = .ok (.istore_n 2, 1) := by decide +kernel
theorem dX6_workOut_160 : decode cX6_workOut 160 = .ok (.goto 21, 3) := by decide +kernel
theorem dX6_workOut_163 : decode cX6_workOut 163 = .ok (.aload_n 0, 1) := by decide +kernel
theorem dX6_workOut_164 : decode cX6_workOut 164 = .ok (.iload_n 1, 1) := by decide +kernel
theorem dX6_workOut_165 : decode cX6_workOut 165 = .ok (.invokevirtual 154, 3) := by decide +kernel
theorem dX6_workOut_168 : decode cX6_workOut 168 = .ok (.istore_n 2, 1) := by decide +kernel
theorem dX6_workOut_169 : decode cX6_workOut 169 = .ok (.goto 12, 3) := by decide +kernel
theorem dX6_workOut_172 : decode cX6_workOut 172 = .ok (.aload_n 0, 1) := by decide +kernel
theorem dX6_workOut_173 : decode cX6_workOut 173 = .ok (.iload_n 1, 1) := by decide +kernel
theorem dX6_workOut_174 : decode cX6_workOut 174 = .ok (.invokevirtual 157, 3) := by decide +kernel
theorem dX6_workOut_177 : decode cX6_workOut 177 = .ok (.istore_n 2, 1) := by decide +kernel
theorem dX6_workOut_178 : decode cX6_workOut 178 = .ok (.goto 3, 3) := by decide +kernel
theorem dX6_workOut_181 : decode cX6_workOut 181 = .ok (.iload_n 2, 1) := by decide +kernel
theorem dX6_workOut_182 : decode cX6_workOut 182 = .ok (.ifCond .ne 23, 3) := by decide +kernel
theorem dX6_workOut_185 : decode cX6_workOut 185 = .ok (.aload_n 0, 1) := by decide +kernel
theorem dX6_workOut_186 : decode cX6_workOut 186 = .ok (.getfield 20, 3) := by decide +kernel
theorem dX6_workOut_189 : decode cX6_workOut 189 = .ok (.iload_n 1, 1) := by decide +kernel
theorem dX6_workOut_190 : decode cX6_workOut 190 = .ok (.aload_n 0, 1) := by decide +kernel
theorem dX6_workOut_191 : decode cX6_workOut 191 = .ok (.getfield 69, 3) := by decide +kernel
theorem dX6_workOut_194 : decode cX6_workOut 194 = .ok (.aload_n 0, 1) := by decide +kernel
theorem dX6_workOut_195 : decode cX6_workOut 195 = .ok (.getfield 72, 3) := by decide +kernel
theorem dX6_workOut_198 : decode cX6_workOut 198 = .ok (.aload_n 0, 1) := by decide +kernel
theorem dX6_workOut_199 : decode cX6_workOut 199 = .ok (.getfield 80, 3) := by decide +kernel
theorem dX6_workOut_202 : decode cX6_workOut 202 = .ok (.invokevirtual 160, 3) := by decide +kernel
theorem dX6_workOut_205 : decode cX6_workOut 205 = .ok (.iload_n 2, 1) := by decide +kernel
theorem dX6_workOut_206 : decode cX6_workOut 206 = .ok (.ireturn, 1) := by decide +kernel
theorem dX6_workChoice_0 : decode cX6_workChoice 0 = .ok (.aload_n 0, 1) := by decide +kernel
theorem dX6_workChoice_1 : decode cX6_workChoice 1 = .ok (.getfield 20, 3) := by decide +kernel
theorem dX6_workChoice_4 : decode cX6_workChoice 4 = .ok (.invokevirtual 164, 3) := by decide +kernel
theorem dX6_workChoice_7 : decode cX6_workChoice 7 = .ok (.istore_n 2, 1) := by decide +kernel
theorem dX6_workChoice_8 : decode cX6_workChoice 8 = .ok (.iload_n 2, 1) := by decide +kernel
theorem dX6_workChoice_9 : decode cX6_workChoice 9 = .ok (.iconst (-1), 1) := by decide +kernel
theorem dX6_workChoice_10 : decode cX6_workChoice 10 = .ok (.if_icmp .ne 5, 3) := by decide +kernel
theorem dX6_workChoice_13 : decode cX6_workChoice 13 = .ok (.iconst 3, 1) := by decide +kernel
theorem dX6_workChoice_14 : decode cX6_workChoice 14 = .ok (.ireturn, 1) := by decide +kernel
theorem dX6_workChoice_15 : decode cX6_workChoice 15 = .ok (.aload_n 0, 1) := by decide +kernel
theorem dX6_workChoice_16 : decode cX6_workChoice 16 = .ok (.iload_n 2, 1) := by decide +kernel
theorem dX6_workChoice_17 : decode cX6_workChoice 17 = .ok (.ifCond .ne 14, 3) := by decide +kernel
theorem dX6_workChoice_20 : decode cX6_workChoice 20 = .ok (.aload_n 0, 1) := by decide +kernel
theorem dX6_workChoice_21 : decode cX6_workChoice 21 = .ok (.getfield 36, 3) := by decide +kernel
theorem dX6_workChoice_24 : decode cX6_workChoice 24 = .ok (.iload_n 1, 1) := by decide +kernel
theorem dX6_workChoice_25 : decode cX6_workChoice 25 = .ok (.invokevirtual 89, 3) := by decide +kernel
theorem dX6_workChoice_28 : decode cX6_workChoice 28 = .ok (.goto 11, 3) := by decide +kernel
theorem dX6_workChoice_31 : decode cX6_workChoice 31 = .ok (.aload_n 0, 1) := by decide +kernel
theorem dX6_workChoice_32 : decode cX6_workChoice 32 = .ok (.getfield 36, 3) := by decide +kernel
theorem dX6_workChoice_35 : decode cX6_workChoice 35 = .ok (.iload_n 1, 1) := by decide +kernel
theorem dX6_workChoice_36 : decode cX6_workChoice 36 = .ok (.invokevirtual 95, 3) := by decide +kernel
theorem dX6_workChoice_39 : decode cX6_workChoice 39 = .ok (.iload_n 1, 1) := by decide +kernel
theorem dX6_workChoice_40 : decode cX6_workChoice 40 = .ok (.invokevirtual 66, 3) := by decide +kernel
theorem dX6_workChoice_43 : decode cX6_workChoice 43 = .ok (.ireturn, 1) := by decide +kernel
theorem dX6_workPart_0 : decode cX6_workPart 0 = .ok (.aload_n 0, 1) := by decide +kernel
theorem dX6_workPart_1 : decode cX6_workPart 1 = .ok (.aload_n 0, 1) := by decide +kernel
theorem dX6_workPart_2 : decode cX6_workPart 2 = .ok (.getfield 36, 3) := by decide +kernel
theorem dX6_workPart_5 : decode cX6_workPart 5 = .ok (.iload_n 1, 1) := by decide +kernel
theorem dX6_workPart_6 : decode cX6_workPart 6 = .ok (.invokevirtual 89, 3) := by decide +kernel
theorem dX6_workPart_9 : decode cX6_workPart 9 = .ok (.iload_n 1, 1) := by decide +kernel
theorem dX6_workPart_10 : decode cX6_workPart 10 = .ok (.invokevirtual 66, 3) := by decide +kernel
theorem dX6_workPart_13 : decode cX6_workPart 13 = .ok (.istore_n 3, 1) := by decide +kernel
theorem dX6_workPart_14 : decode cX6_workPart 14 = .ok (.iload_n 3, 1) := by decide +kernel
theorem dX6_workPart_15 : decode cX6_workPart 15 = .ok (.ifCond .eq 5, 3) := by decide +kernel
theorem dX6_workPart_18 : decode cX6_workPart 18 = .ok (.iload_n 3, 1) := by decide +kernel
theorem dX6_workPart_19 : decode cX6_workPart 19 = .ok (.ireturn, 1) := by decide +kernel
theorem dX6_workPart_20 : decode cX6_workPart 20 = .ok (.aload_n 0, 1) := by decide +kernel
theorem dX6_workPart_21 : decode cX6_workPart 21 = .ok (.getfield 69, 3) := by decide +kernel
theorem dX6_workPart_24 : decode cX6_workPart 24 = .ok (.iconst 1, 1) := by decide +kernel
theorem dX6_workPart_25 : decode cX6_workPart 25 = .ok (.if_icmp .eq 5, 3) := by decide +kernel
theorem dX6_workPart_28 : decode cX6_workPart 28 = .ok (.iconst 1, 1) := by decide +kernel
theorem dX6_workPart_29 : decode cX6_workPart 29 = .ok (.ireturn, 1) := by decide +kernel
theorem dX6_workPart_30 : decode cX6_workPart 30 = .ok (.aload_n 0, 1) := by decide +kernel
theorem dX6_workPart_31 : decode cX6_workPart 31 = .ok (.getfield 72, 3) := by decide +kernel
theorem dX6_workPart_34 : decode cX6_workPart 34 = .ok (.l2i, 1) := by decide +kernel
theorem dX6_workPart_35 : decode cX6_workPart 35 = .ok (.istore 4, 2) := by decide +kernel
theorem dX6_workPart_37 : decode cX6_workPart 37 = .ok (.aload_n 0, 1) := by decide +kernel
theorem dX6_workPart_38 : decode cX6_workPart 38 = .ok (.iload_n 2, 1) := by decide +kernel
theorem dX6_workPart_39 : decode cX6_workPart 39 = .ok (.ifCond .eq 15, 3) := by decide +kernel
theorem dX6_workPart_42 : decode cX6_workPart 42 = .ok (.aload_n 0, 1) := by decide +kernel
theorem dX6_workPart_43 : decode cX6_workPart 43 = .ok (.getfield 36, 3) := by decide +kernel
theorem dX6_workPart_46 : decode cX6_workPart 46 = .ok (.iload 4, 2) := by decide +kernel
theorem dX6_workPart_48 : decode cX6_workPart 48 = .ok (.invokevirtual 95, 3) := by decide +kernel
theorem dX6_workPart_51 : decode cX6_workPart 51 = .ok (.goto 12, 3) := by decide +kernel
theorem dX6_workPart_54 : decode cX6_workPart 54 = .ok (.aload_n 0, 1) := by decide +kernel
theorem dX6_workPart_55 : decode cX6_workPart 55 = .ok (.getfield 36, 3) := by decide +kernel
theorem dX6_workPart_58 : decode cX6_workPart 58 = .ok (.iload 4, 2) := by decide +kernel
theorem dX6_workPart_60 : decode cX6_workPart 60 = .ok (.invokevirtual 89, 3) := by decide +kernel
theorem dX6_workPart_63 : decode cX6_workPart 63 = .ok (.iload_n 1, 1) := by decide +kernel
theorem dX6_workPart_64 : decode cX6_workPart 64 = .ok (.invokevirtual 66, 3) := by decide +kernel
theorem dX6_workPart_67 : decode cX6_workPart 67 = .ok (.ireturn, 1) := by decide +kernel
theorem dX6_workOp_0 : decode cX6_workOp 0 = .ok (.aload_n 0, 1) := by decide +kernel
theorem dX6_workOp_1 : decode cX6_workOp 1 = .ok (.aload_n 0, 1) := by decide +kernel
theorem dX6_workOp_2 : decode cX6_workOp 2 = .ok (.getfield 36, 3) := by decide +kernel
theorem dX6_workOp_5 : decode cX6_workOp 5 = .ok (.iload_n 1, 1) := by decide +kernel
theorem dX6_workOp_6 : decode cX6_workOp 6 = .ok (.invokevirtual 89, 3) := by decide +kernel
theorem dX6_workOp_9 : decode cX6_workOp 9 = .ok (.iload_n 1, 1) := by decide +kernel
theorem dX6_workOp_10 : decode cX6_workOp 10 = .ok (.invokevirtual 66, 3) := by decide +kernel
theorem dX6_workOp_13 : decode cX6_workOp 13 = .ok (.istore_n 2, 1) := by decide +kernel
theorem dX6_workOp_14 : decode cX6_workOp 14 = .ok (.iload_n 2, 1) := by decide +kernel
theorem dX6_workOp_15 : decode cX6_workOp 15 = .ok (.ifCond .eq 5, 3) := by decide +kernel
theorem dX6_workOp_18 : decode cX6_workOp 18 = .ok (.iload_n 2, 1) := by decide +kernel
theorem dX6_workOp_19 : decode cX6_workOp 19 = .ok (.ireturn, 1) := by decide +kernel
theorem dX6_workOp_20 : decode cX6_workOp 20 = .ok (.aload_n 0, 1) := by decide +kernel
theorem dX6_workOp_21 : decode cX6_workOp 21 = .ok (.getfield 69, 3) := by decide +kernel
theorem dX6_workOp_24 : decode cX6_workOp 24 = .ok (.ifCond .eq 5, 3) := by decide +kernel
theorem dX6_workOp_27 : decode cX6_workOp 27 = .ok (.iconst 1, 1) := by decide +kernel
theorem dX6_workOp_28 : decode cX6_workOp 28 = .ok (.ireturn, 1) := by decide +kernel
theorem dX6_workOp_29 : decode cX6_workOp 29 = .ok (.aload_n 0, 1) := by decide +kernel
theorem dX6_workOp_30 : decode cX6_workOp 30 = .ok (.getfield 72, 3) := by decide +kernel
theorem dX6_workOp_33 : decode cX6_workOp 33 = .ok (.lstore_n 3, 1) := by decide +kernel
theorem dX6_workOp_34 : decode cX6_workOp 34 = .ok (.aload_n 0, 1) := by decide +kernel
theorem dX6_workOp_35 : decode cX6_workOp 35 = .ok (.aload_n 0, 1) := by decide +kernel
theorem dX6_workOp_36 : decode cX6_workOp 36 = .ok (.getfield 36, 3) := by decide +kernel
theorem dX6_workOp_39 : decode cX6_workOp 39 = .ok (.iload_n 1, 1) := by decide +kernel
theorem dX6_workOp_40 : decode cX6_workOp 40 = .ok (.invokevirtual 95, 3) := by decide +kernel
theorem dX6_workOp_43 : decode cX6_workOp 43 = .ok (.iload_n 1, 1) := by decide +kernel
theorem dX6_workOp_44 : decode cX6_workOp 44 = .ok (.invokevirtual 66, 3) := by decide +kernel
theorem dX6_workOp_47 : decode cX6_workOp 47 = .ok (.istore_n 2, 1) := by decide +kernel
theorem dX6_workOp_48 : decode cX6_workOp 48 = .ok (.iload_n 2, 1) := by decide +kernel
theorem dX6_workOp_49 : decode cX6_workOp 49 = .ok (.ifCond .eq 5, 3) := by decide +kernel
theorem dX6_workOp_52 : decode cX6_workOp 52 = .ok (.iload_n 2, 1) := by decide +kernel
theorem dX6_workOp_53 : decode cX6_workOp 53 = .ok (.ireturn, 1) := by decide +kernel
theorem dX6_workOp_54 : decode cX6_workOp 54 = .ok (.aload_n 0, 1) := by decide +kernel
theorem dX6_workOp_55 : decode cX6_workOp 55 = .ok (.getfield 69, 3) := by decide +kernel
theorem dX6_workOp_58 : decode cX6_workOp 58 = .ok (.ifCond .ne 23, 3) := by decide +kernel
theorem dX6_workOp_61 : decode cX6_workOp 61 = .ok (.aload_n 0, 1) := by decide +kernel
theorem dX6_workOp_62 : decode cX6_workOp 62 = .ok (.aload_n 0, 1) := by decide +kernel
theorem dX6_workOp_63 : decode cX6_workOp 63 = .ok (.getfield 36, 3) := by decide +kernel
theorem dX6_workOp_66 : decode cX6_workOp 66 = .ok (.iload_n 1, 1) := by decide +kernel
theorem dX6_workOp_67 : decode cX6_workOp 67 = .ok (.invokevirtual 167, 3) := by decide +kernel
theorem dX6_workOp_70 : decode cX6_workOp 70 = .ok (.lload_n 3, 1) := by decide +kernel
theorem dX6_workOp_71 : decode cX6_workOp 71 = .ok (.aload_n 0, 1) := by decide +kernel
theorem dX6_workOp_72 : decode cX6_workOp 72 = .ok (.getfield 72, 3) := by decide +kernel
theorem dX6_workOp_75 : decode cX6_workOp 75 = .ok (.invokevirtual 170, 3) := by decide +kernel
theorem dX6_workOp_78 : decode cX6_workOp 78 = .ok (.goto 4, 3) := by decide +kernel
theorem dX6_workOp_81 : decode cX6_workOp 81 = .ok (.iconst 1, 1) := by decide +kernel
theorem dX6_workOp_82 : decode cX6_workOp 82 = .ok (.ireturn, 1) := by decide +kernel
theorem dX6_reckon_0 : decode cX6_reckon 0 = .ok (.iload_n 1, 1) := by decide +kernel
theorem dX6_reckon_1 : decode cX6_reckon 1 = .ok (.tableswitch 120 0 5 #[39, 48, 57, 66, 86, 103], 39) := by decide +kernel
theorem dX6_reckon_40 : decode cX6_reckon 40 = .ok (.aload_n 0, 1) := by decide +kernel
theorem dX6_reckon_41 : decode cX6_reckon 41 = .ok (.lload_n 2, 1) := by decide +kernel
theorem dX6_reckon_42 : decode cX6_reckon 42 = .ok (.lload 4, 2) := by decide +kernel
theorem dX6_reckon_44 : decode cX6_reckon 44 = .ok (.ladd, 1) := by decide +kernel
theorem dX6_reckon_45 : decode cX6_reckon 45 = .ok (.invokevirtual 137, 3) := by decide +kernel
theorem dX6_reckon_48 : decode cX6_reckon 48 = .ok (.ireturn, 1) := by decide +kernel
theorem dX6_reckon_49 : decode cX6_reckon 49 = .ok (.aload_n 0, 1) := by decide +kernel
theorem dX6_reckon_50 : decode cX6_reckon 50 = .ok (.lload_n 2, 1) := by decide +kernel
theorem dX6_reckon_51 : decode cX6_reckon 51 = .ok (.lload 4, 2) := by decide +kernel
theorem dX6_reckon_53 : decode cX6_reckon 53 = .ok (.lsub, 1) := by decide +kernel
theorem dX6_reckon_54 : decode cX6_reckon 54 = .ok (.invokevirtual 137, 3) := by decide +kernel
theorem dX6_reckon_57 : decode cX6_reckon 57 = .ok (.ireturn, 1) := by decide +kernel
theorem dX6_reckon_58 : decode cX6_reckon 58 = .ok (.aload_n 0, 1) := by decide +kernel
theorem dX6_reckon_59 : decode cX6_reckon 59 = .ok (.lload_n 2, 1) := by decide +kernel
theorem dX6_reckon_60 : decode cX6_reckon 60 = .ok (.lload 4, 2) := by decide +kernel
theorem dX6_reckon_62 : decode cX6_reckon 62 = .ok (.lmul, 1) := by decide +kernel
theorem dX6_reckon_63 : decode cX6_reckon 63 = .ok (.invokevirtual 137, 3) := by decide +kernel
theorem dX6_reckon_66 : decode cX6_reckon 66 = .ok (.ireturn, 1) := by decide +kernel
theorem dX6_reckon_67 : decode cX6_reckon 67 = .ok (.lload 4, 2) := by decide +kernel
theorem dX6_reckon_69 : decode cX6_reckon 69 = .ok (.lconst 0, 1) := by decide +kernel
theorem dX6_reckon_70 : decode cX6_reckon 70 = .ok (.lcmp, 1) := by decide +kernel
theorem dX6_reckon_71 : decode cX6_reckon 71 = .ok (.ifCond .ne 7, 3) := by decide +kernel
theorem dX6_reckon_74 : decode cX6_reckon 74 = .ok (.iconst 1, 1) := by decide +kernel
theorem dX6_reckon_75 : decode cX6_reckon 75 = .ok (.goto 11, 3) := by decide +kernel
theorem dX6_reckon_78 : decode cX6_reckon 78 = .ok (.aload_n 0, 1) := by decide +kernel
theorem dX6_reckon_79 : decode cX6_reckon 79 = .ok (.lload_n 2, 1) := by decide +kernel
theorem dX6_reckon_80 : decode cX6_reckon 80 = .ok (.lload 4, 2) := by decide +kernel
theorem dX6_reckon_82 : decode cX6_reckon 82 = .ok (.ldiv, 1) := by decide +kernel
theorem dX6_reckon_83 : decode cX6_reckon 83 = .ok (.invokevirtual 137, 3) := by decide +kernel
theorem dX6_reckon_86 : decode cX6_reckon 86 = .ok (.ireturn, 1) := by decide +kernel
theorem dX6_reckon_87 : decode cX6_reckon 87 = .ok (.aload_n 0, 1) := by decide +kernel
theorem dX6_reckon_88 : decode cX6_reckon 88 = .ok (.lload_n 2, 1) := by decide +kernel
theorem dX6_reckon_89 : decode cX6_reckon 89 = .ok (.lload 4, 2) := by decide +kernel
theorem dX6_reckon_91 : decode cX6_reckon 91 = .ok (.lcmp, 1) := by decide +kernel
theorem dX6_reckon_92 : decode cX6_reckon 92 = .ok (.ifCond .ge 7, 3) := by decide +kernel
theorem dX6_reckon_95 : decode cX6_reckon 95 = .ok (.lconst 1, 1) := by decide +kernel
theorem dX6_reckon_96 : decode cX6_reckon 96 = .ok (.goto 4, 3) := by decide +kernel
theorem dX6_reckon_99 : decode cX6_reckon 99 = .ok (.lconst 0, 1) := by decide +kernel
theorem dX6_reckon_100 : decode cX6_reckon 100 = .ok (.invokevirtual 137, 3) := by decide +kernel
theorem dX6_reckon_103 : decode cX6_reckon 103 = .ok (.ireturn, 1) := by decide +kernel
theorem dX6_reckon_104 : decode cX6_reckon 104 = .ok (.aload_n 0, 1) := by decide +kernel
theorem dX6_reckon_105 : decode cX6_reckon 105 = .ok (.lload_n 2, 1) := by decide +kernel
theorem dX6_reckon_106 : decode cX6_reckon 106 = .ok (.lload 4, 2) := by decide +kernel
theorem dX6_reckon_108 : decode cX6_reckon 108 = .ok (.lcmp, 1) := by decide +kernel
theorem dX6_reckon_109 : decode cX6_reckon 109 = .ok (.ifCond .ne 7, 3) := by decide +kernel
theorem dX6_reckon_112 : decode cX6_reckon 112 = .ok (.lconst 1, 1) := by decide +kernel
theorem dX6_reckon_113 : decode cX6_reckon 113 = .ok (.goto 4, 3) := by decide +kernel
theorem dX6_reckon_116 : decode cX6_reckon 116 = .ok (.lconst 0, 1) := by decide +kernel
theorem dX6_reckon_117 : decode cX6_reckon 117 = .ok (.invokevirtual 137, 3) := by decide +kernel
theorem dX6_reckon_120 : decode cX6_reckon 120 = .ok (.ireturn, 1) := by decide +kernel
theorem dX6_reckon_121 : decode cX6_reckon 121 = .ok (.iconst 1, 1) := by decide +kernel
theorem dX6_reckon_122 : decode cX6_reckon 122 = .ok (.ireturn, 1) := by decide +kernel
theorem dX6_workWhen_0 : decode cX6_workWhen 0 = .ok (.aload_n 0, 1) := by decide +kernel
theorem dX6_workWhen_1 : decode cX6_workWhen 1 = .ok (.aload_n 0, 1) := by decide +kernel
theorem dX6_workWhen_2 : decode cX6_workWhen 2 = .ok (.getfield 36, 3) := by decide +kernel
theorem dX6_workWhen_5 : decode cX6_workWhen 5 = .ok (.iload_n 1, 1) := by decide +kernel
theorem dX6_workWhen_6 : decode cX6_workWhen 6 = .ok (.invokevirtual 89, 3) := by decide +kernel
theorem dX6_workWhen_9 : decode cX6_workWhen 9 = .ok (.iload_n 1, 1) := by decide +kernel
theorem dX6_workWhen_10 : decode cX6_workWhen 10 = .ok (.invokevirtual 66, 3) := by decide +kernel
theorem dX6_workWhen_13 : decode cX6_workWhen 13 = .ok (.istore_n 2, 1) := by decide +kernel
theorem dX6_workWhen_14 : decode cX6_workWhen 14 = .ok (.iload_n 2, 1) := by decide +kernel
theorem dX6_workWhen_15 : decode cX6_workWhen 15 = .ok (.ifCond .eq 5, 3) := by decide +kernel
theorem dX6_workWhen_18 : decode cX6_workWhen 18 = .ok (.iload_n 2, 1) := by decide +kernel
theorem dX6_workWhen_19 : decode cX6_workWhen 19 = .ok (.ireturn, 1) := by decide +kernel
theorem dX6_workWhen_20 : decode cX6_workWhen 20 = .ok (.aload_n 0, 1) := by decide +kernel
theorem dX6_workWhen_21 : decode cX6_workWhen 21 = .ok (.getfield 69, 3) := by decide +kernel
theorem dX6_workWhen_24 : decode cX6_workWhen 24 = .ok (.ifCond .eq 5, 3) := by decide +kernel
theorem dX6_workWhen_27 : decode cX6_workWhen 27 = .ok (.iconst 1, 1) := by decide +kernel
theorem dX6_workWhen_28 : decode cX6_workWhen 28 = .ok (.ireturn, 1) := by decide +kernel
theorem dX6_workWhen_29 : decode cX6_workWhen 29 = .ok (.aload_n 0, 1) := by decide +kernel
theorem dX6_workWhen_30 : decode cX6_workWhen 30 = .ok (.aload_n 0, 1) := by decide +kernel
theorem dX6_workWhen_31 : decode cX6_workWhen 31 = .ok (.getfield 72, 3) := by decide +kernel
theorem dX6_workWhen_34 : decode cX6_workWhen 34 = .ok (.lconst 0, 1) := by decide +kernel
theorem dX6_workWhen_35 : decode cX6_workWhen 35 = .ok (.lcmp, 1) := by decide +kernel
theorem dX6_workWhen_36 : decode cX6_workWhen 36 = .ok (.ifCond .eq 14, 3) := by decide +kernel
theorem dX6_workWhen_39 : decode cX6_workWhen 39 = .ok (.aload_n 0, 1) := by decide +kernel
theorem dX6_workWhen_40 : decode cX6_workWhen 40 = .ok (.getfield 36, 3) := by decide +kernel
theorem dX6_workWhen_43 : decode cX6_workWhen 43 = .ok (.iload_n 1, 1) := by decide +kernel
theorem dX6_workWhen_44 : decode cX6_workWhen 44 = .ok (.invokevirtual 95, 3) := by decide +kernel
theorem dX6_workWhen_47 : decode cX6_workWhen 47 = .ok (.goto 11, 3) := by decide +kernel
theorem dX6_workWhen_50 : decode cX6_workWhen 50 = .ok (.aload_n 0, 1) := by decide +kernel
theorem dX6_workWhen_51 : decode cX6_workWhen 51 = .ok (.getfield 36, 3) := by decide +kernel
theorem dX6_workWhen_54 : decode cX6_workWhen 54 = .ok (.iload_n 1, 1) := by decide +kernel
theorem dX6_workWhen_55 : decode cX6_workWhen 55 = .ok (.invokevirtual 167, 3) := by decide +kernel
theorem dX6_workWhen_58 : decode cX6_workWhen 58 = .ok (.iload_n 1, 1) := by decide +kernel
theorem dX6_workWhen_59 : decode cX6_workWhen 59 = .ok (.invokevirtual 66, 3) := by decide +kernel
theorem dX6_workWhen_62 : decode cX6_workWhen 62 = .ok (.ireturn, 1) := by decide +kernel
theorem dX6_workFold_0 : decode cX6_workFold 0 = .ok (.aload_n 0, 1) := by decide +kernel
theorem dX6_workFold_1 : decode cX6_workFold 1 = .ok (.aload_n 0, 1) := by decide +kernel
theorem dX6_workFold_2 : decode cX6_workFold 2 = .ok (.getfield 36, 3) := by decide +kernel
theorem dX6_workFold_5 : decode cX6_workFold 5 = .ok (.iload_n 1, 1) := by decide +kernel
theorem dX6_workFold_6 : decode cX6_workFold 6 = .ok (.invokevirtual 89, 3) := by decide +kernel
theorem dX6_workFold_9 : decode cX6_workFold 9 = .ok (.iload_n 1, 1) := by decide +kernel
theorem dX6_workFold_10 : decode cX6_workFold 10 = .ok (.invokevirtual 66, 3) := by decide +kernel
theorem dX6_workFold_13 : decode cX6_workFold 13 = .ok (.istore_n 2, 1) := by decide +kernel
theorem dX6_workFold_14 : decode cX6_workFold 14 = .ok (.iload_n 2, 1) := by decide +kernel
theorem dX6_workFold_15 : decode cX6_workFold 15 = .ok (.ifCond .eq 5, 3) := by decide +kernel
theorem dX6_workFold_18 : decode cX6_workFold 18 = .ok (.iload_n 2, 1) := by decide +kernel
theorem dX6_workFold_19 : decode cX6_workFold 19 = .ok (.ireturn, 1) := by decide +kernel
theorem dX6_workFold_20 : decode cX6_workFold 20 = .ok (.aload_n 0, 1) := by decide +kernel
theorem dX6_workFold_21 : decode cX6_workFold 21 = .ok (.getfield 69, 3) := by decide +kernel
theorem dX6_workFold_24 : decode cX6_workFold 24 = .ok (.iconst 2, 1) := by decide +kernel
theorem dX6_workFold_25 : decode cX6_workFold 25 = .ok (.if_icmp .eq 5, 3) := by decide +kernel
theorem dX6_workFold_28 : decode cX6_workFold 28 = .ok (.iconst 1, 1) := by decide +kernel
theorem dX6_workFold_29 : decode cX6_workFold 29 = .ok (.ireturn, 1) := by decide +kernel
theorem dX6_workFold_30 : decode cX6_workFold 30 = .ok (.aload_n 0, 1) := by decide +kernel
theorem dX6_workFold_31 : decode cX6_workFold 31 = .ok (.getfield 72, 3) := by decide +kernel
theorem dX6_workFold_34 : decode cX6_workFold 34 = .ok (.l2i, 1) := by decide +kernel
theorem dX6_workFold_35 : decode cX6_workFold 35 = .ok (.istore_n 3, 1) := by decide +kernel
theorem dX6_workFold_36 : decode cX6_workFold 36 = .ok (.aload_n 0, 1) := by decide +kernel
theorem dX6_workFold_37 : decode cX6_workFold 37 = .ok (.getfield 36, 3) := by decide +kernel
theorem dX6_workFold_40 : decode cX6_workFold 40 = .ok (.iload_n 1, 1) := by decide +kernel
theorem dX6_workFold_41 : decode cX6_workFold 41 = .ok (.invokevirtual 95, 3) := by decide +kernel
theorem dX6_workFold_44 : decode cX6_workFold 44 = .ok (.istore 4, 2) := by decide +kernel
theorem dX6_workFold_46 : decode cX6_workFold 46 = .ok (.iload 4, 2) := by decide +kernel
theorem dX6_workFold_48 : decode cX6_workFold 48 = .ok (.ifCond .ne 16, 3) := by decide +kernel
theorem dX6_workFold_51 : decode cX6_workFold 51 = .ok (.aload_n 0, 1) := by decide +kernel
theorem dX6_workFold_52 : decode cX6_workFold 52 = .ok (.aload_n 0, 1) := by decide +kernel
theorem dX6_workFold_53 : decode cX6_workFold 53 = .ok (.getfield 29, 3) := by decide +kernel
theorem dX6_workFold_56 : decode cX6_workFold 56 = .ok (.iload_n 3, 1) := by decide +kernel
theorem dX6_workFold_57 : decode cX6_workFold 57 = .ok (.invokevirtual 174, 3) := by decide +kernel
theorem dX6_workFold_60 : decode cX6_workFold 60 = .ok (.invokevirtual 137, 3) := by decide +kernel
theorem dX6_workFold_63 : decode cX6_workFold 63 = .ok (.ireturn, 1) := by decide +kernel
theorem dX6_workFold_64 : decode cX6_workFold 64 = .ok (.aload_n 0, 1) := by decide +kernel
theorem dX6_workFold_65 : decode cX6_workFold 65 = .ok (.iload 4, 2) := by decide +kernel
theorem dX6_workFold_67 : decode cX6_workFold 67 = .ok (.iload_n 3, 1) := by decide +kernel
theorem dX6_workFold_68 : decode cX6_workFold 68 = .ok (.iconst 1, 1) := by decide +kernel
theorem dX6_workFold_69 : decode cX6_workFold 69 = .ok (.iadd, 1) := by decide +kernel
theorem dX6_workFold_70 : decode cX6_workFold 70 = .ok (.iload_n 3, 1) := by decide +kernel
theorem dX6_workFold_71 : decode cX6_workFold 71 = .ok (.aload_n 0, 1) := by decide +kernel
theorem dX6_workFold_72 : decode cX6_workFold 72 = .ok (.getfield 80, 3) := by decide +kernel
theorem dX6_workFold_75 : decode cX6_workFold 75 = .ok (.iadd, 1) := by decide +kernel
theorem dX6_workFold_76 : decode cX6_workFold 76 = .ok (.invokevirtual 177, 3) := by decide +kernel
theorem dX6_workFold_79 : decode cX6_workFold 79 = .ok (.ireturn, 1) := by decide +kernel
theorem dX6_foldNumbers_0 : decode cX6_foldNumbers 0 = .ok (.lconst 0, 1) := by decide +kernel
theorem dX6_foldNumbers_1 : decode cX6_foldNumbers 1 = .ok (.lstore 4, 2) := by decide +kernel
theorem dX6_foldNumbers_3 : decode cX6_foldNumbers 3 = .ok (.ldc2_w 183, 3) := by decide +kernel
theorem dX6_foldNumbers_6 : decode cX6_foldNumbers 6 = .ok (.lstore 6, 2) := by decide +kernel
theorem dX6_foldNumbers_8 : decode cX6_foldNumbers 8 = .ok (.iload_n 2, 1) := by decide +kernel
theorem dX6_foldNumbers_9 : decode cX6_foldNumbers 9 = .ok (.istore 8, 2) := by decide +kernel
theorem dX6_foldNumbers_11 : decode cX6_foldNumbers 11 = .ok (.iload 8, 2) := by decide +kernel
theorem dX6_foldNumbers_13 : decode cX6_foldNumbers 13 = .ok (.iload_n 3, 1) := by decide +kernel
theorem dX6_foldNumbers_14 : decode cX6_foldNumbers 14 = .ok (.if_icmp .ge 53, 3) := by decide +kernel
theorem dX6_foldNumbers_17 : decode cX6_foldNumbers 17 = .ok (.aload_n 0, 1) := by decide +kernel
theorem dX6_foldNumbers_18 : decode cX6_foldNumbers 18 = .ok (.getfield 29, 3) := by decide +kernel
theorem dX6_foldNumbers_21 : decode cX6_foldNumbers 21 = .ok (.iload 8, 2) := by decide +kernel
theorem dX6_foldNumbers_23 : decode cX6_foldNumbers 23 = .ok (.invokevirtual 185, 3) := by decide +kernel
theorem dX6_foldNumbers_26 : decode cX6_foldNumbers 26 = .ok (.ifCond .eq 5, 3) := by decide +kernel
theorem dX6_foldNumbers_29 : decode cX6_foldNumbers 29 = .ok (.iconst 1, 1) := by decide +kernel
theorem dX6_foldNumbers_30 : decode cX6_foldNumbers 30 = .ok (.ireturn, 1) := by decide +kernel
theorem dX6_foldNumbers_31 : decode cX6_foldNumbers 31 = .ok (.lload 4, 2) := by decide +kernel
theorem dX6_foldNumbers_33 : decode cX6_foldNumbers 33 = .ok (.aload_n 0, 1) := by decide +kernel
theorem dX6_foldNumbers_34 : decode cX6_foldNumbers 34 = .ok (.getfield 29, 3) := by decide +kernel
theorem dX6_foldNumbers_37 : decode cX6_foldNumbers 37 = .ok (.iload 8, 2) := by decide +kernel
theorem dX6_foldNumbers_39 : decode cX6_foldNumbers 39 = .ok (.invokevirtual 174, 3) := by decide +kernel
theorem dX6_foldNumbers_42 : decode cX6_foldNumbers 42 = .ok (.ladd, 1) := by decide +kernel
theorem dX6_foldNumbers_43 : decode cX6_foldNumbers 43 = .ok (.lstore 4, 2) := by decide +kernel
theorem dX6_foldNumbers_45 : decode cX6_foldNumbers 45 = .ok (.lload 6, 2) := by decide +kernel
theorem dX6_foldNumbers_47 : decode cX6_foldNumbers 47 = .ok (.aload_n 0, 1) := by decide +kernel
theorem dX6_foldNumbers_48 : decode cX6_foldNumbers 48 = .ok (.getfield 29, 3) := by decide +kernel
theorem dX6_foldNumbers_51 : decode cX6_foldNumbers 51 = .ok (.iload 8, 2) := by decide +kernel
theorem dX6_foldNumbers_53 : decode cX6_foldNumbers 53 = .ok (.invokevirtual 174, 3) := by decide +kernel
theorem dX6_foldNumbers_56 : decode cX6_foldNumbers 56 = .ok (.invokestatic 188, 3) := by decide +kernel
theorem dX6_foldNumbers_59 : decode cX6_foldNumbers 59 = .ok (.lstore 6, 2) := by decide +kernel
theorem dX6_foldNumbers_61 : decode cX6_foldNumbers 61 = .ok (.iinc 8 1, 3) := by decide +kernel
theorem dX6_foldNumbers_64 : decode cX6_foldNumbers 64 = .ok (.goto (-53), 3) := by decide +kernel
theorem dX6_foldNumbers_67 : decode cX6_foldNumbers 67 = .ok (.iload_n 1, 1) := by decide +kernel
theorem dX6_foldNumbers_68 : decode cX6_foldNumbers 68 = .ok (.iconst 1, 1) := by decide +kernel
theorem dX6_foldNumbers_69 : decode cX6_foldNumbers 69 = .ok (.if_icmp .ne 10, 3) := by decide +kernel
theorem dX6_foldNumbers_72 : decode cX6_foldNumbers 72 = .ok (.aload_n 0, 1) := by decide +kernel
theorem dX6_foldNumbers_73 : decode cX6_foldNumbers 73 = .ok (.lload 4, 2) := by decide +kernel
theorem dX6_foldNumbers_75 : decode cX6_foldNumbers 75 = .ok (.invokevirtual 137, 3) := by decide +kernel
theorem dX6_foldNumbers_78 : decode cX6_foldNumbers 78 = .ok (.ireturn, 1) := by decide +kernel
theorem dX6_foldNumbers_79 : decode cX6_foldNumbers 79 = .ok (.iload_n 2, 1) := by decide +kernel
theorem dX6_foldNumbers_80 : decode cX6_foldNumbers 80 = .ok (.iload_n 3, 1) := by decide +kernel
theorem dX6_foldNumbers_81 : decode cX6_foldNumbers 81 = .ok (.if_icmp .ge 12, 3) := by decide +kernel
theorem dX6_foldNumbers_84 : decode cX6_foldNumbers 84 = .ok (.aload_n 0, 1) := by decide +kernel
theorem dX6_foldNumbers_85 : decode cX6_foldNumbers 85 = .ok (.lload 6, 2) := by decide +kernel
theorem dX6_foldNumbers_87 : decode cX6_foldNumbers 87 = .ok (.invokevirtual 137, 3) := by decide +kernel
theorem dX6_foldNumbers_90 : decode cX6_foldNumbers 90 = .ok (.goto 4, 3) := by decide +kernel
theorem dX6_foldNumbers_93 : decode cX6_foldNumbers 93 = .ok (.iconst 1, 1) := by decide +kernel
theorem dX6_foldNumbers_94 : decode cX6_foldNumbers 94 = .ok (.ireturn, 1) := by decide +kernel
theorem dX6_workSet_0 : decode cX6_workSet 0 = .ok (.aload_n 0, 1) := by decide +kernel
theorem dX6_workSet_1 : decode cX6_workSet 1 = .ok (.getfield 20, 3) := by decide +kernel
theorem dX6_workSet_4 : decode cX6_workSet 4 = .ok (.astore_n 2, 1) := by decide +kernel
theorem dX6_workSet_5 : decode cX6_workSet 5 = .ok (.aload_n 2, 1) := by decide +kernel
theorem dX6_workSet_6 : decode cX6_workSet 6 = .ok (.invokevirtual 194, 3) := by decide +kernel
theorem dX6_workSet_9 : decode cX6_workSet 9 = .ok (.astore_n 3, 1) := by decide +kernel
theorem dX6_workSet_10 : decode cX6_workSet 10 = .ok (.aload_n 3, 1) := by decide +kernel
theorem dX6_workSet_11 : decode cX6_workSet 11 = .ok (.ifnonnull 5, 3) := by decide +kernel
theorem dX6_workSet_14 : decode cX6_workSet 14 = .ok (.iconst 2, 1) := by decide +kernel
theorem dX6_workSet_15 : decode cX6_workSet 15 = .ok (.ireturn, 1) := by decide +kernel
theorem dX6_workSet_16 : decode cX6_workSet 16 = .ok (.iconst 0, 1) := by decide +kernel
theorem dX6_workSet_17 : decode cX6_workSet 17 = .ok (.istore 4, 2) := by decide +kernel
theorem dX6_workSet_19 : decode cX6_workSet 19 = .ok (.iload 4, 2) := by decide +kernel
theorem dX6_workSet_21 : decode cX6_workSet 21 = .ok (.bipush 60, 2) := by decide +kernel
theorem dX6_workSet_23 : decode cX6_workSet 23 = .ok (.if_icmp .gt 97, 3) := by decide +kernel
theorem dX6_workSet_26 : decode cX6_workSet 26 = .ok (.aload_n 0, 1) := by decide +kernel
theorem dX6_workSet_27 : decode cX6_workSet 27 = .ok (.getfield 29, 3) := by decide +kernel
theorem dX6_workSet_30 : decode cX6_workSet 30 = .ok (.invokevirtual 197, 3) := by decide +kernel
theorem dX6_workSet_33 : decode cX6_workSet 33 = .ok (.istore 5, 2) := by decide +kernel
theorem dX6_workSet_35 : decode cX6_workSet 35 = .ok (.aload_n 0, 1) := by decide +kernel
theorem dX6_workSet_36 : decode cX6_workSet 36 = .ok (.aload_n 3, 1) := by decide +kernel
theorem dX6_workSet_37 : decode cX6_workSet 37 = .ok (.putfield 20, 3) := by decide +kernel
theorem dX6_workSet_40 : decode cX6_workSet 40 = .ok (.aload_n 0, 1) := by decide +kernel
theorem dX6_workSet_41 : decode cX6_workSet 41 = .ok (.iload_n 1, 1) := by decide +kernel
theorem dX6_workSet_42 : decode cX6_workSet 42 = .ok (.aload_n 3, 1) := by decide +kernel
theorem dX6_workSet_43 : decode cX6_workSet 43 = .ok (.iload 5, 2) := by decide +kernel
theorem dX6_workSet_45 : decode cX6_workSet 45 = .ok (.invokevirtual 200, 3) := by decide +kernel
theorem dX6_workSet_48 : decode cX6_workSet 48 = .ok (.istore 6, 2) := by decide +kernel
theorem dX6_workSet_50 : decode cX6_workSet 50 = .ok (.aload_n 0, 1) := by decide +kernel
theorem dX6_workSet_51 : decode cX6_workSet 51 = .ok (.aload_n 2, 1) := by decide +kernel
theorem dX6_workSet_52 : decode cX6_workSet 52 = .ok (.putfield 20, 3) := by decide +kernel
theorem dX6_workSet_55 : decode cX6_workSet 55 = .ok (.aload_n 0, 1) := by decide +kernel
theorem dX6_workSet_56 : decode cX6_workSet 56 = .ok (.getfield 29, 3) := by decide +kernel
theorem dX6_workSet_59 : decode cX6_workSet 59 = .ok (.iload 5, 2) := by decide +kernel
theorem dX6_workSet_61 : decode cX6_workSet 61 = .ok (.invokevirtual 55, 3) := by decide +kernel
theorem dX6_workSet_64 : decode cX6_workSet 64 = .ok (.iload 6, 2) := by decide +kernel
theorem dX6_workSet_66 : decode cX6_workSet 66 = .ok (.ifCond .ne 12, 3) := by decide +kernel
theorem dX6_workSet_69 : decode cX6_workSet 69 = .ok (.aload_n 0, 1) := by decide +kernel
theorem dX6_workSet_70 : decode cX6_workSet 70 = .ok (.aload_n 3, 1) := by decide +kernel
theorem dX6_workSet_71 : decode cX6_workSet 71 = .ok (.invokevirtual 51, 3) := by decide +kernel
theorem dX6_workSet_74 : decode cX6_workSet 74 = .ok (.invokevirtual 204, 3) := by decide +kernel
theorem dX6_workSet_77 : decode cX6_workSet 77 = .ok (.ireturn, 1) := by decide +kernel
theorem dX6_workSet_78 : decode cX6_workSet 78 = .ok (.iload 6, 2) := by decide +kernel
theorem dX6_workSet_80 : decode cX6_workSet 80 = .ok (.iconst 4, 1) := by decide +kernel
theorem dX6_workSet_81 : decode cX6_workSet 81 = .ok (.if_icmp .ne 11, 3) := by decide +kernel
theorem dX6_workSet_84 : decode cX6_workSet 84 = .ok (.aload_n 0, 1) := by decide +kernel
theorem dX6_workSet_85 : decode cX6_workSet 85 = .ok (.getfield 33, 3) := by decide +kernel
theorem dX6_workSet_88 : decode cX6_workSet 88 = .ok (.aload_n 2, 1) := by decide +kernel
theorem dX6_workSet_89 : decode cX6_workSet 89 = .ok (.if_acmp .eq 6, 3) := by decide +kernel
theorem dX6_workSet_92 : decode cX6_workSet 92 = .ok (.iload 6, 2) := by decide +kernel
theorem dX6_workSet_94 : decode cX6_workSet 94 = .ok (.ireturn, 1) := by decide +kernel
theorem dX6_workSet_95 : decode cX6_workSet 95 = .ok (.aload_n 0, 1) := by decide +kernel
theorem dX6_workSet_96 : decode cX6_workSet 96 = .ok (.aload_n 0, 1) := by decide +kernel
theorem dX6_workSet_97 : decode cX6_workSet 97 = .ok (.getfield 120, 3) := by decide +kernel
theorem dX6_workSet_100 : decode cX6_workSet 100 = .ok (.iload_n 1, 1) := by decide +kernel
theorem dX6_workSet_101 : decode cX6_workSet 101 = .ok (.invokevirtual 66, 3) := by decide +kernel
theorem dX6_workSet_104 : decode cX6_workSet 104 = .ok (.istore 6, 2) := by decide +kernel
theorem dX6_workSet_106 : decode cX6_workSet 106 = .ok (.iload 6, 2) := by decide +kernel
theorem dX6_workSet_108 : decode cX6_workSet 108 = .ok (.ifCond .eq 6, 3) := by decide +kernel
theorem dX6_workSet_111 : decode cX6_workSet 111 = .ok (.iload 6, 2) := by decide +kernel
theorem dX6_workSet_113 : decode cX6_workSet 113 = .ok (.ireturn, 1) := by decide +kernel
theorem dX6_workSet_114 : decode cX6_workSet 114 = .ok (.iinc 4 1, 3) := by decide +kernel
theorem dX6_workSet_117 : decode cX6_workSet 117 = .ok (.goto (-98), 3) := by decide +kernel
theorem dX6_workSet_120 : decode cX6_workSet 120 = .ok (.iconst 2, 1) := by decide +kernel
theorem dX6_workSet_121 : decode cX6_workSet 121 = .ok (.ireturn, 1) := by decide +kernel
theorem dX6_goWaysOfSet_0 : decode cX6_goWaysOfSet 0 = .ok (.aload_n 2, 1) := by decide +kernel
theorem dX6_goWaysOfSet_1 : decode cX6_goWaysOfSet 1 = .ok (.aload_n 0, 1) := by decide +kernel
theorem dX6_goWaysOfSet_2 : decode cX6_goWaysOfSet 2 = .ok (.getfield 36, 3) := by decide +kernel
theorem dX6_goWaysOfSet_5 : decode cX6_goWaysOfSet 5 = .ok (.iload_n 1, 1) := by decide +kernel
theorem dX6_goWaysOfSet_6 : decode cX6_goWaysOfSet 6 = .ok (.invokevirtual 95, 3) := by decide +kernel
theorem dX6_goWaysOfSet_9 : decode cX6_goWaysOfSet 9 = .ok (.invokevirtual 208, 3) := by decide +kernel
theorem dX6_goWaysOfSet_12 : decode cX6_goWaysOfSet 12 = .ok (.iconst 0, 1) := by decide +kernel
theorem dX6_goWaysOfSet_13 : decode cX6_goWaysOfSet 13 = .ok (.istore 4, 2) := by decide +kernel
theorem dX6_goWaysOfSet_15 : decode cX6_goWaysOfSet 15 = .ok (.iload 4, 2) := by decide +kernel
theorem dX6_goWaysOfSet_17 : decode cX6_goWaysOfSet 17 = .ok (.sipush 2000, 3) := by decide +kernel
theorem dX6_goWaysOfSet_20 : decode cX6_goWaysOfSet 20 = .ok (.if_icmp .gt 83, 3) := by decide +kernel
theorem dX6_goWaysOfSet_23 : decode cX6_goWaysOfSet 23 = .ok (.aload_n 0, 1) := by decide +kernel
theorem dX6_goWaysOfSet_24 : decode cX6_goWaysOfSet 24 = .ok (.aload_n 0, 1) := by decide +kernel
theorem dX6_goWaysOfSet_25 : decode cX6_goWaysOfSet 25 = .ok (.getfield 36, 3) := by decide +kernel
theorem dX6_goWaysOfSet_28 : decode cX6_goWaysOfSet 28 = .ok (.iload_n 1, 1) := by decide +kernel
theorem dX6_goWaysOfSet_29 : decode cX6_goWaysOfSet 29 = .ok (.invokevirtual 89, 3) := by decide +kernel
theorem dX6_goWaysOfSet_32 : decode cX6_goWaysOfSet 32 = .ok (.iload_n 1, 1) := by decide +kernel
theorem dX6_goWaysOfSet_33 : decode cX6_goWaysOfSet 33 = .ok (.invokevirtual 62, 3) := by decide +kernel
theorem dX6_goWaysOfSet_36 : decode cX6_goWaysOfSet 36 = .ok (.istore 5, 2) := by decide +kernel
theorem dX6_goWaysOfSet_38 : decode cX6_goWaysOfSet 38 = .ok (.iload 5, 2) := by decide +kernel
theorem dX6_goWaysOfSet_40 : decode cX6_goWaysOfSet 40 = .ok (.ifCond .ne 24, 3) := by decide +kernel
theorem dX6_goWaysOfSet_43 : decode cX6_goWaysOfSet 43 = .ok (.aload_n 2, 1) := by decide +kernel
theorem dX6_goWaysOfSet_44 : decode cX6_goWaysOfSet 44 = .ok (.invokevirtual 51, 3) := by decide +kernel
theorem dX6_goWaysOfSet_47 : decode cX6_goWaysOfSet 47 = .ok (.invokevirtual 197, 3) := by decide +kernel
theorem dX6_goWaysOfSet_50 : decode cX6_goWaysOfSet 50 = .ok (.bipush 100, 2) := by decide +kernel
theorem dX6_goWaysOfSet_52 : decode cX6_goWaysOfSet 52 = .ok (.if_icmp .le 5, 3) := by decide +kernel
theorem dX6_goWaysOfSet_55 : decode cX6_goWaysOfSet 55 = .ok (.iconst 2, 1) := by decide +kernel
theorem dX6_goWaysOfSet_56 : decode cX6_goWaysOfSet 56 = .ok (.ireturn, 1) := by decide +kernel
theorem dX6_goWaysOfSet_57 : decode cX6_goWaysOfSet 57 = .ok (.aload_n 2, 1) := by decide +kernel
theorem dX6_goWaysOfSet_58 : decode cX6_goWaysOfSet 58 = .ok (.invokevirtual 211, 3) := by decide +kernel
theorem dX6_goWaysOfSet_61 : decode cX6_goWaysOfSet 61 = .ok (.goto 19, 3) := by decide +kernel
theorem dX6_goWaysOfSet_64 : decode cX6_goWaysOfSet 64 = .ok (.iload 5, 2) := by decide +kernel
theorem dX6_goWaysOfSet_66 : decode cX6_goWaysOfSet 66 = .ok (.iconst 1, 1) := by decide +kernel
theorem dX6_goWaysOfSet_67 : decode cX6_goWaysOfSet 67 = .ok (.if_icmp .ne 10, 3) := by decide +kernel
theorem dX6_goWaysOfSet_70 : decode cX6_goWaysOfSet 70 = .ok (.aload_n 2, 1) := by decide +kernel
theorem dX6_goWaysOfSet_71 : decode cX6_goWaysOfSet 71 = .ok (.invokevirtual 214, 3) := by decide +kernel
theorem dX6_goWaysOfSet_74 : decode cX6_goWaysOfSet 74 = .ok (.goto 6, 3) := by decide +kernel
theorem dX6_goWaysOfSet_77 : decode cX6_goWaysOfSet 77 = .ok (.iload 5, 2) := by decide +kernel
theorem dX6_goWaysOfSet_79 : decode cX6_goWaysOfSet 79 = .ok (.ireturn, 1) := by decide +kernel
theorem dX6_goWaysOfSet_80 : decode cX6_goWaysOfSet 80 = .ok (.aload_n 0, 1) := by decide +kernel
theorem dX6_goWaysOfSet_81 : decode cX6_goWaysOfSet 81 = .ok (.getfield 29, 3) := by decide +kernel
theorem dX6_goWaysOfSet_84 : decode cX6_goWaysOfSet 84 = .ok (.iload_n 3, 1) := by decide +kernel
theorem dX6_goWaysOfSet_85 : decode cX6_goWaysOfSet 85 = .ok (.invokevirtual 55, 3) := by decide +kernel
theorem dX6_goWaysOfSet_88 : decode cX6_goWaysOfSet 88 = .ok (.aload_n 2, 1) := by decide +kernel
theorem dX6_goWaysOfSet_89 : decode cX6_goWaysOfSet 89 = .ok (.invokevirtual 217, 3) := by decide +kernel
theorem dX6_goWaysOfSet_92 : decode cX6_goWaysOfSet 92 = .ok (.ifCond .ne 5, 3) := by decide +kernel
theorem dX6_goWaysOfSet_95 : decode cX6_goWaysOfSet 95 = .ok (.iconst 0, 1) := by decide +kernel
theorem dX6_goWaysOfSet_96 : decode cX6_goWaysOfSet 96 = .ok (.ireturn, 1) := by decide +kernel
theorem dX6_goWaysOfSet_97 : decode cX6_goWaysOfSet 97 = .ok (.iinc 4 1, 3) := by decide +kernel
theorem dX6_goWaysOfSet_100 : decode cX6_goWaysOfSet 100 = .ok (.goto (-85), 3) := by decide +kernel
theorem dX6_goWaysOfSet_103 : decode cX6_goWaysOfSet 103 = .ok (.iconst 2, 1) := by decide +kernel
theorem dX6_goWaysOfSet_104 : decode cX6_goWaysOfSet 104 = .ok (.ireturn, 1) := by decide +kernel
theorem dX6_takeList_0 : decode cX6_takeList 0 = .ok (.aload_n 0, 1) := by decide +kernel
theorem dX6_takeList_1 : decode cX6_takeList 1 = .ok (.getfield 29, 3) := by decide +kernel
theorem dX6_takeList_4 : decode cX6_takeList 4 = .ok (.invokevirtual 197, 3) := by decide +kernel
theorem dX6_takeList_7 : decode cX6_takeList 7 = .ok (.istore_n 2, 1) := by decide +kernel
theorem dX6_takeList_8 : decode cX6_takeList 8 = .ok (.aload_n 1, 1) := by decide +kernel
theorem dX6_takeList_9 : decode cX6_takeList 9 = .ok (.invokevirtual 197, 3) := by decide +kernel
theorem dX6_takeList_12 : decode cX6_takeList 12 = .ok (.istore_n 3, 1) := by decide +kernel
theorem dX6_takeList_13 : decode cX6_takeList 13 = .ok (.aload_n 0, 1) := by decide +kernel
theorem dX6_takeList_14 : decode cX6_takeList 14 = .ok (.getfield 29, 3) := by decide +kernel
theorem dX6_takeList_17 : decode cX6_takeList 17 = .ok (.aload_n 1, 1) := by decide +kernel
theorem dX6_takeList_18 : decode cX6_takeList 18 = .ok (.iconst 0, 1) := by decide +kernel
theorem dX6_takeList_19 : decode cX6_takeList 19 = .ok (.iload_n 3, 1) := by decide +kernel
theorem dX6_takeList_20 : decode cX6_takeList 20 = .ok (.invokevirtual 221, 3) := by decide +kernel
theorem dX6_takeList_23 : decode cX6_takeList 23 = .ok (.ifCond .eq 14, 3) := by decide +kernel
theorem dX6_takeList_26 : decode cX6_takeList 26 = .ok (.aload_n 0, 1) := by decide +kernel
theorem dX6_takeList_27 : decode cX6_takeList 27 = .ok (.iconst 2, 1) := by decide +kernel
theorem dX6_takeList_28 : decode cX6_takeList 28 = .ok (.iload_n 2, 1) := by decide +kernel
theorem dX6_takeList_29 : decode cX6_takeList 29 = .ok (.i2l, 1) := by decide +kernel
theorem dX6_takeList_30 : decode cX6_takeList 30 = .ok (.iload_n 3, 1) := by decide +kernel
theorem dX6_takeList_31 : decode cX6_takeList 31 = .ok (.invokevirtual 116, 3) := by decide +kernel
theorem dX6_takeList_34 : decode cX6_takeList 34 = .ok (.goto 4, 3) := by decide +kernel
theorem dX6_takeList_37 : decode cX6_takeList 37 = .ok (.iconst 2, 1) := by decide +kernel
theorem dX6_takeList_38 : decode cX6_takeList 38 = .ok (.ireturn, 1) := by decide +kernel
theorem dX7_init_0 : decode cX7_init 0 = .ok (.aload_n 0, 1) := by decide +kernel
theorem dX7_init_1 : decode cX7_init 1 = .ok (.invokespecial 1, 3) := by decide +kernel
theorem dX7_init_4 : decode cX7_init 4 = .ok (.new 7, 3) := by decide +kernel
theorem dX7_init_7 : decode cX7_init 7 = .ok (.dup, 1) := by decide +kernel
theorem dX7_init_8 : decode cX7_init 8 = .ok (.invokespecial 9, 3) := by decide +kernel
theorem dX7_init_11 : decode cX7_init 11 = .ok (.astore_n 1, 1) := by decide +kernel
theorem dX7_init_12 : decode cX7_init 12 = .ok (.aload_n 0, 1) := by decide +kernel
theorem dX7_init_13 : decode cX7_init 13 = .ok (.aload_n 1, 1) := by decide +kernel
theorem dX7_init_14 : decode cX7_init 14 = .ok (.putfield 10, 3) := by decide +kernel
theorem dX7_init_17 : decode cX7_init 17 = .ok (.aload_n 0, 1) := by decide +kernel
theorem dX7_init_18 : decode cX7_init 18 = .ok (.new 16, 3) := by decide +kernel
theorem dX7_init_21 : decode cX7_init 21 = .ok (.dup, 1) := by decide +kernel
theorem dX7_init_22 : decode cX7_init 22 = .ok (.aload_n 1, 1) := by decide +kernel
theorem dX7_init_23 : decode cX7_init 23 = .ok (.invokespecial 18, 3) := by decide +kernel
theorem dX7_init_26 : decode cX7_init 26 = .ok (.putfield 21, 3) := by decide +kernel
theorem dX7_init_29 : decode cX7_init 29 = .ok (.return_, 1) := by decide +kernel
theorem dX7_number_0 : decode cX7_number 0 = .ok (.aload_n 0, 1) := by decide +kernel
theorem dX7_number_1 : decode cX7_number 1 = .ok (.getfield 10, 3) := by decide +kernel
theorem dX7_number_4 : decode cX7_number 4 = .ok (.lload_n 1, 1) := by decide +kernel
theorem dX7_number_5 : decode cX7_number 5 = .ok (.invokevirtual 25, 3) := by decide +kernel
theorem dX7_number_8 : decode cX7_number 8 = .ok (.ireturn, 1) := by decide +kernel
theorem dX7_choice_0 : decode cX7_choice 0 = .ok (.aload_n 0, 1) := by decide +kernel
theorem dX7_choice_1 : decode cX7_choice 1 = .ok (.getfield 10, 3) := by decide +kernel
theorem dX7_choice_4 : decode cX7_choice 4 = .ok (.iload_n 1, 1) := by decide +kernel
theorem dX7_choice_5 : decode cX7_choice 5 = .ok (.invokevirtual 29, 3) := by decide +kernel
theorem dX7_choice_8 : decode cX7_choice 8 = .ok (.ifCond .eq 18, 3) := by decide +kernel
theorem dX7_choice_11 : decode cX7_choice 11 = .ok (.aload_n 0, 1) := by decide +kernel
theorem dX7_choice_12 : decode cX7_choice 12 = .ok (.getfield 10, 3) := by decide +kernel
theorem dX7_choice_15 : decode cX7_choice 15 = .ok (.iload_n 2, 1) := by decide +kernel
theorem dX7_choice_16 : decode cX7_choice 16 = .ok (.invokevirtual 29, 3) := by decide +kernel
theorem dX7_choice_19 : decode cX7_choice 19 = .ok (.ifCond .eq 7, 3) := by decide +kernel
theorem dX7_choice_22 : decode cX7_choice 22 = .ok (.iconst 1, 1) := by decide +kernel
theorem dX7_choice_23 : decode cX7_choice 23 = .ok (.goto 4, 3) := by decide +kernel
theorem dX7_choice_26 : decode cX7_choice 26 = .ok (.iconst 0, 1) := by decide +kernel
theorem dX7_choice_27 : decode cX7_choice 27 = .ok (.invokestatic 33, 3) := by decide +kernel
theorem dX7_choice_30 : decode cX7_choice 30 = .ok (.aload_n 0, 1) := by decide +kernel
theorem dX7_choice_31 : decode cX7_choice 31 = .ok (.getfield 10, 3) := by decide +kernel
theorem dX7_choice_34 : decode cX7_choice 34 = .ok (.iconst 1, 1) := by decide +kernel
theorem dX7_choice_35 : decode cX7_choice 35 = .ok (.iload_n 1, 1) := by decide +kernel
theorem dX7_choice_36 : decode cX7_choice 36 = .ok (.iload_n 2, 1) := by decide +kernel
theorem dX7_choice_37 : decode cX7_choice 37 = .ok (.iconst (-1), 1) := by decide +kernel
theorem dX7_choice_38 : decode cX7_choice 38 = .ok (.invokevirtual 37, 3) := by decide +kernel
theorem dX7_choice_41 : decode cX7_choice 41 = .ok (.ireturn, 1) := by decide +kernel
theorem dX7_fail_0 : decode cX7_fail 0 = .ok (.aload_n 0, 1) := by decide +kernel
theorem dX7_fail_1 : decode cX7_fail 1 = .ok (.getfield 10, 3) := by decide +kernel
theorem dX7_fail_4 : decode cX7_fail 4 = .ok (.iconst 2, 1) := by decide +kernel
theorem dX7_fail_5 : decode cX7_fail 5 = .ok (.iconst (-1), 1) := by decide +kernel
theorem dX7_fail_6 : decode cX7_fail 6 = .ok (.iconst (-1), 1) := by decide +kernel
theorem dX7_fail_7 : decode cX7_fail 7 = .ok (.iconst (-1), 1) := by decide +kernel
theorem dX7_fail_8 : decode cX7_fail 8 = .ok (.invokevirtual 37, 3) := by decide +kernel
theorem dX7_fail_11 : decode cX7_fail 11 = .ok (.ireturn, 1) := by decide +kernel
theorem dX7_pair_0 : decode cX7_pair 0 = .ok (.aload_n 0, 1) := by decide +kernel
theorem dX7_pair_1 : decode cX7_pair 1 = .ok (.getfield 10, 3) := by decide +kernel
theorem dX7_pair_4 : decode cX7_pair 4 = .ok (.iload_n 1, 1) := by decide +kernel
theorem dX7_pair_5 : decode cX7_pair 5 = .ok (.invokevirtual 29, 3) := by decide +kernel
theorem dX7_pair_8 : decode cX7_pair 8 = .ok (.ifCond .eq 18, 3) := by decide +kernel
theorem dX7_pair_11 : decode cX7_pair 11 = .ok (.aload_n 0, 1) := by decide +kernel
theorem dX7_pair_12 : decode cX7_pair 12 = .ok (.getfield 10, 3) := by decide +kernel
theorem dX7_pair_15 : decode cX7_pair 15 = .ok (.iload_n 2, 1) := by decide +kernel
theorem dX7_pair_16 : decode cX7_pair 16 = .ok (.invokevirtual 29, 3) := by decide +kernel
theorem dX7_pair_19 : decode cX7_pair 19 = .ok (.ifCond .eq 7, 3) := by decide +kernel
theorem dX7_pair_22 : decode cX7_pair 22 = .ok (.iconst 1, 1) := by decide +kernel
theorem dX7_pair_23 : decode cX7_pair 23 = .ok (.goto 4, 3) := by decide +kernel
theorem dX7_pair_26 : decode cX7_pair 26 = .ok (.iconst 0, 1) := by decide +kernel
theorem dX7_pair_27 : decode cX7_pair 27 = .ok (.invokestatic 33, 3) := by decide +kernel
theorem dX7_pair_30 : decode cX7_pair 30 = .ok (.aload_n 0, 1) := by decide +kernel
theorem dX7_pair_31 : decode cX7_pair 31 = .ok (.getfield 10, 3) := by decide +kernel
theorem dX7_pair_34 : decode cX7_pair 34 = .ok (.iconst 3, 1) := by decide +kernel
theorem dX7_pair_35 : decode cX7_pair 35 = .ok (.iload_n 1, 1) := by decide +kernel
theorem dX7_pair_36 : decode cX7_pair 36 = .ok (.iload_n 2, 1) := by decide +kernel
theorem dX7_pair_37 : decode cX7_pair 37 = .ok (.iconst (-1), 1) := by decide +kernel
theorem dX7_pair_38 : decode cX7_pair 38 = .ok (.invokevirtual 37, 3) := by decide +kernel
theorem dX7_pair_41 : decode cX7_pair 41 = .ok (.ireturn, 1) := by decide +kernel
theorem dX7_part_0 : decode cX7_part 0 = .ok (.aload_n 0, 1) := by decide +kernel
theorem dX7_part_1 : decode cX7_part 1 = .ok (.getfield 10, 3) := by decide +kernel
theorem dX7_part_4 : decode cX7_part 4 = .ok (.iload_n 1, 1) := by decide +kernel
theorem dX7_part_5 : decode cX7_part 5 = .ok (.invokevirtual 29, 3) := by decide +kernel
theorem dX7_part_8 : decode cX7_part 8 = .ok (.invokestatic 33, 3) := by decide +kernel
theorem dX7_part_11 : decode cX7_part 11 = .ok (.aload_n 0, 1) := by decide +kernel
theorem dX7_part_12 : decode cX7_part 12 = .ok (.getfield 10, 3) := by decide +kernel
theorem dX7_part_15 : decode cX7_part 15 = .ok (.iload_n 2, 1) := by decide +kernel
theorem dX7_part_16 : decode cX7_part 16 = .ok (.ifCond .eq 7, 3) := by decide +kernel
theorem dX7_part_19 : decode cX7_part 19 = .ok (.iconst 5, 1) := by decide +kernel
theorem dX7_part_20 : decode cX7_part 20 = .ok (.goto 4, 3) := by decide +kernel
theorem dX7_part_23 : decode cX7_part 23 = .ok (.iconst 4, 1) := by decide +kernel
theorem dX7_part_24 : decode cX7_part 24 = .ok (.iload_n 1, 1) := by decide +kernel
theorem dX7_part_25 : decode cX7_part 25 = .ok (.iconst (-1), 1) := by decide +kernel
theorem dX7_part_26 : decode cX7_part 26 = .ok (.iconst (-1), 1) := by decide +kernel
theorem dX7_part_27 : decode cX7_part 27 = .ok (.invokevirtual 37, 3) := by decide +kernel
theorem dX7_part_30 : decode cX7_part 30 = .ok (.ireturn, 1) := by decide +kernel
theorem dX7_op_0 : decode cX7_op 0 = .ok (.aload_n 0, 1) := by decide +kernel
theorem dX7_op_1 : decode cX7_op 1 = .ok (.getfield 10, 3) := by decide +kernel
theorem dX7_op_4 : decode cX7_op 4 = .ok (.iload_n 2, 1) := by decide +kernel
theorem dX7_op_5 : decode cX7_op 5 = .ok (.invokevirtual 29, 3) := by decide +kernel
theorem dX7_op_8 : decode cX7_op 8 = .ok (.ifCond .eq 27, 3) := by decide +kernel
theorem dX7_op_11 : decode cX7_op 11 = .ok (.aload_n 0, 1) := by decide +kernel
theorem dX7_op_12 : decode cX7_op 12 = .ok (.getfield 10, 3) := by decide +kernel
theorem dX7_op_15 : decode cX7_op 15 = .ok (.iload_n 3, 1) := by decide +kernel
theorem dX7_op_16 : decode cX7_op 16 = .ok (.invokevirtual 29, 3) := by decide +kernel
theorem dX7_op_19 : decode cX7_op 19 = .ok (.ifCond .eq 16, 3) := by decide +kernel
theorem dX7_op_22 : decode cX7_op 22 = .ok (.iload_n 1, 1) := by decide +kernel
theorem dX7_op_23 : decode cX7_op 23 = .ok (.ifCond .lt 12, 3) := by decide +kernel
theorem dX7_op_26 : decode cX7_op 26 = .ok (.iload_n 1, 1) := by decide +kernel
theorem dX7_op_27 : decode cX7_op 27 = .ok (.iconst 5, 1) := by decide +kernel
theorem dX7_op_28 : decode cX7_op 28 = .ok (.if_icmp .gt 7, 3) := by decide +kernel
theorem dX7_op_31 : decode cX7_op 31 = .ok (.iconst 1, 1) := by decide +kernel
theorem dX7_op_32 : decode cX7_op 32 = .ok (.goto 4, 3) := by decide +kernel
theorem dX7_op_35 : decode cX7_op 35 = .ok (.iconst 0, 1) := by decide +kernel
theorem dX7_op_36 : decode cX7_op 36 = .ok (.invokestatic 33, 3) := by decide +kernel
theorem dX7_op_39 : decode cX7_op 39 = .ok (.aload_n 0, 1) := by decide +kernel
theorem dX7_op_40 : decode cX7_op 40 = .ok (.getfield 10, 3) := by decide +kernel
theorem dX7_op_43 : decode cX7_op 43 = .ok (.bipush 6, 2) := by decide +kernel
theorem dX7_op_45 : decode cX7_op 45 = .ok (.iload_n 2, 1) := by decide +kernel
theorem dX7_op_46 : decode cX7_op 46 = .ok (.iload_n 3, 1) := by decide +kernel
theorem dX7_op_47 : decode cX7_op 47 = .ok (.iload_n 1, 1) := by decide +kernel
theorem dX7_op_48 : decode cX7_op 48 = .ok (.invokevirtual 37, 3) := by decide +kernel
theorem dX7_op_51 : decode cX7_op 51 = .ok (.ireturn, 1) := by decide +kernel
theorem dX7_when_0 : decode cX7_when 0 = .ok (.aload_n 0, 1) := by decide +kernel
theorem dX7_when_1 : decode cX7_when 1 = .ok (.getfield 10, 3) := by decide +kernel
theorem dX7_when_4 : decode cX7_when 4 = .ok (.iload_n 1, 1) := by decide +kernel
theorem dX7_when_5 : decode cX7_when 5 = .ok (.invokevirtual 29, 3) := by decide +kernel
theorem dX7_when_8 : decode cX7_when 8 = .ok (.ifCond .eq 29, 3) := by decide +kernel
theorem dX7_when_11 : decode cX7_when 11 = .ok (.aload_n 0, 1) := by decide +kernel
theorem dX7_when_12 : decode cX7_when 12 = .ok (.getfield 10, 3) := by decide +kernel
theorem dX7_when_15 : decode cX7_when 15 = .ok (.iload_n 2, 1) := by decide +kernel
theorem dX7_when_16 : decode cX7_when 16 = .ok (.invokevirtual 29, 3) := by decide +kernel
theorem dX7_when_19 : decode cX7_when 19 = .ok (.ifCond .eq 18, 3) := by decide +kernel
theorem dX7_when_22 : decode cX7_when 22 = .ok (.aload_n 0, 1) := by decide +kernel
theorem dX7_when_23 : decode cX7_when 23 = .ok (.getfield 10, 3) := by decide +kernel
theorem dX7_when_26 : decode cX7_when 26 = .ok (.iload_n 3, 1) := by decide +kernel
theorem dX7_when_27 : decode cX7_when 27 = .ok (.invokevirtual 29, 3) := by decide +kernel
theorem dX7_when_30 : decode cX7_when 30 = .ok (.ifCond .eq 7, 3) := by decide +kernel
theorem dX7_when_33 : decode cX7_when 33 = .ok (.iconst 1, 1) := by decide +kernel
theorem dX7_when_34 : decode cX7_when 34 = .ok (.goto 4, 3) := by decide +kernel
theorem dX7_when_37 : decode cX7_when 37 = .ok (.iconst 0, 1) := by decide +kernel
theorem dX7_when_38 : decode cX7_when 38 = .ok (.invokestatic 33, 3) := by decide +kernel
theorem dX7_when_41 : decode cX7_when 41 = .ok (.aload_n 0, 1) := by decide +kernel
theorem dX7_when_42 : decode cX7_when 42 = .ok (.getfield 10, 3) := by decide +kernel
theorem dX7_when_45 : decode cX7_when 45 = .ok (.bipush 7, 2) := by decide +kernel
theorem dX7_when_47 : decode cX7_when 47 = .ok (.iload_n 1, 1) := by decide +kernel
theorem dX7_when_48 : decode cX7_when 48 = .ok (.iload_n 2, 1) := by decide +kernel
theorem dX7_when_49 : decode cX7_when 49 = .ok (.iload_n 3, 1) := by decide +kernel
theorem dX7_when_50 : decode cX7_when 50 = .ok (.invokevirtual 37, 3) := by decide +kernel
theorem dX7_when_53 : decode cX7_when 53 = .ok (.ireturn, 1) := by decide +kernel
theorem dX7_set_0 : decode cX7_set 0 = .ok (.aload_n 0, 1) := by decide +kernel
theorem dX7_set_1 : decode cX7_set 1 = .ok (.getfield 10, 3) := by decide +kernel
theorem dX7_set_4 : decode cX7_set 4 = .ok (.iload_n 1, 1) := by decide +kernel
theorem dX7_set_5 : decode cX7_set 5 = .ok (.invokevirtual 29, 3) := by decide +kernel
theorem dX7_set_8 : decode cX7_set 8 = .ok (.ifCond .eq 22, 3) := by decide +kernel
theorem dX7_set_11 : decode cX7_set 11 = .ok (.iload_n 2, 1) := by decide +kernel
theorem dX7_set_12 : decode cX7_set 12 = .ok (.ifCond .lt 18, 3) := by decide +kernel
theorem dX7_set_15 : decode cX7_set 15 = .ok (.iload_n 2, 1) := by decide +kernel
theorem dX7_set_16 : decode cX7_set 16 = .ok (.aload_n 0, 1) := by decide +kernel
theorem dX7_set_17 : decode cX7_set 17 = .ok (.getfield 10, 3) := by decide +kernel
theorem dX7_set_20 : decode cX7_set 20 = .ok (.invokevirtual 41, 3) := by decide +kernel
theorem dX7_set_23 : decode cX7_set 23 = .ok (.if_icmp .gt 7, 3) := by decide +kernel
theorem dX7_set_26 : decode cX7_set 26 = .ok (.iconst 1, 1) := by decide +kernel
theorem dX7_set_27 : decode cX7_set 27 = .ok (.goto 4, 3) := by decide +kernel
theorem dX7_set_30 : decode cX7_set 30 = .ok (.iconst 0, 1) := by decide +kernel
theorem dX7_set_31 : decode cX7_set 31 = .ok (.invokestatic 33, 3) := by decide +kernel
theorem dX7_set_34 : decode cX7_set 34 = .ok (.aload_n 0, 1) := by decide +kernel
theorem dX7_set_35 : decode cX7_set 35 = .ok (.getfield 10, 3) := by decide +kernel
theorem dX7_set_38 : decode cX7_set 38 = .ok (.bipush 8, 2) := by decide +kernel
theorem dX7_set_40 : decode cX7_set 40 = .ok (.iload_n 1, 1) := by decide +kernel
theorem dX7_set_41 : decode cX7_set 41 = .ok (.iload_n 2, 1) := by decide +kernel
theorem dX7_set_42 : decode cX7_set 42 = .ok (.iconst (-1), 1) := by decide +kernel
theorem dX7_set_43 : decode cX7_set 43 = .ok (.invokevirtual 37, 3) := by decide +kernel
theorem dX7_set_46 : decode cX7_set 46 = .ok (.ireturn, 1) := by decide +kernel
theorem dX7_fold_0 : decode cX7_fold 0 = .ok (.aload_n 0, 1) := by decide +kernel
theorem dX7_fold_1 : decode cX7_fold 1 = .ok (.getfield 10, 3) := by decide +kernel
theorem dX7_fold_4 : decode cX7_fold 4 = .ok (.iload_n 2, 1) := by decide +kernel
theorem dX7_fold_5 : decode cX7_fold 5 = .ok (.invokevirtual 29, 3) := by decide +kernel
theorem dX7_fold_8 : decode cX7_fold 8 = .ok (.ifCond .eq 16, 3) := by decide +kernel
theorem dX7_fold_11 : decode cX7_fold 11 = .ok (.iload_n 1, 1) := by decide +kernel
theorem dX7_fold_12 : decode cX7_fold 12 = .ok (.ifCond .lt 12, 3) := by decide +kernel
theorem dX7_fold_15 : decode cX7_fold 15 = .ok (.iload_n 1, 1) := by decide +kernel
theorem dX7_fold_16 : decode cX7_fold 16 = .ok (.iconst 2, 1) := by decide +kernel
theorem dX7_fold_17 : decode cX7_fold 17 = .ok (.if_icmp .gt 7, 3) := by decide +kernel
theorem dX7_fold_20 : decode cX7_fold 20 = .ok (.iconst 1, 1) := by decide +kernel
theorem dX7_fold_21 : decode cX7_fold 21 = .ok (.goto 4, 3) := by decide +kernel
theorem dX7_fold_24 : decode cX7_fold 24 = .ok (.iconst 0, 1) := by decide +kernel
theorem dX7_fold_25 : decode cX7_fold 25 = .ok (.invokestatic 33, 3) := by decide +kernel
theorem dX7_fold_28 : decode cX7_fold 28 = .ok (.aload_n 0, 1) := by decide +kernel
theorem dX7_fold_29 : decode cX7_fold 29 = .ok (.getfield 10, 3) := by decide +kernel
theorem dX7_fold_32 : decode cX7_fold 32 = .ok (.bipush 9, 2) := by decide +kernel
theorem dX7_fold_34 : decode cX7_fold 34 = .ok (.iload_n 2, 1) := by decide +kernel
theorem dX7_fold_35 : decode cX7_fold 35 = .ok (.iload_n 1, 1) := by decide +kernel
theorem dX7_fold_36 : decode cX7_fold 36 = .ok (.iconst (-1), 1) := by decide +kernel
theorem dX7_fold_37 : decode cX7_fold 37 = .ok (.invokevirtual 37, 3) := by decide +kernel
theorem dX7_fold_40 : decode cX7_fold 40 = .ok (.ireturn, 1) := by decide +kernel
theorem dX7_clear_0 : decode cX7_clear 0 = .ok (.aload_n 0, 1) := by decide +kernel
theorem dX7_clear_1 : decode cX7_clear 1 = .ok (.getfield 10, 3) := by decide +kernel
theorem dX7_clear_4 : decode cX7_clear 4 = .ok (.invokevirtual 41, 3) := by decide +kernel
theorem dX7_clear_7 : decode cX7_clear 7 = .ok (.istore_n 1, 1) := by decide +kernel
theorem dX7_clear_8 : decode cX7_clear 8 = .ok (.aload_n 0, 1) := by decide +kernel
theorem dX7_clear_9 : decode cX7_clear 9 = .ok (.getfield 10, 3) := by decide +kernel
theorem dX7_clear_12 : decode cX7_clear 12 = .ok (.invokevirtual 45, 3) := by decide +kernel
theorem dX7_clear_15 : decode cX7_clear 15 = .ok (.aload_n 0, 1) := by decide +kernel
theorem dX7_clear_16 : decode cX7_clear 16 = .ok (.getfield 21, 3) := by decide +kernel
theorem dX7_clear_19 : decode cX7_clear 19 = .ok (.invokevirtual 48, 3) := by decide +kernel
theorem dX7_clear_22 : decode cX7_clear 22 = .ok (.iload_n 1, 1) := by decide +kernel
theorem dX7_clear_23 : decode cX7_clear 23 = .ok (.ireturn, 1) := by decide +kernel
theorem dX7_node_0 : decode cX7_node 0 = .ok (.aload_n 0, 1) := by decide +kernel
theorem dX7_node_1 : decode cX7_node 1 = .ok (.getfield 10, 3) := by decide +kernel
theorem dX7_node_4 : decode cX7_node 4 = .ok (.iload_n 1, 1) := by decide +kernel
theorem dX7_node_5 : decode cX7_node 5 = .ok (.invokevirtual 29, 3) := by decide +kernel
theorem dX7_node_8 : decode cX7_node 8 = .ok (.ifCond .eq 12, 3) := by decide +kernel
theorem dX7_node_11 : decode cX7_node 11 = .ok (.iload_n 2, 1) := by decide +kernel
theorem dX7_node_12 : decode cX7_node 12 = .ok (.ifCond .lt 8, 3) := by decide +kernel
theorem dX7_node_15 : decode cX7_node 15 = .ok (.iload_n 2, 1) := by decide +kernel
theorem dX7_node_16 : decode cX7_node 16 = .ok (.iconst 3, 1) := by decide +kernel
theorem dX7_node_17 : decode cX7_node 17 = .ok (.if_icmp .le 13, 3) := by decide +kernel
theorem dX7_node_20 : decode cX7_node 20 = .ok (.new 49, 3) := by decide +kernel
theorem dX7_node_23 : decode cX7_node 23 = .ok (.dup, 1) := by decide +kernel
theorem dX7_node_24 : decode cX7_node 24 = .ok (.ldc 51, 2) := by decide +kernel
theorem dX7_node_26 : decode cX7_node 26 = .ok (.invokespecial 53, 3) := by decide +kernel
theorem dX7_node_29 : decode cX7_node 29 = .ok (.athrow, 1) := by decide +kernel
theorem dX7_node_30 : decode cX7_node 30 = .ok (.iload_n 2, 1) := by decide +kernel
theorem dX7_node_31 : decode cX7_node 31 = .ok (.tableswitch 52 0 2 #[25, 34, 43], 25) := by decide +kernel
theorem dX7_node_56 : decode cX7_node 56 = .ok (.aload_n 0, 1) := by decide +kernel
theorem dX7_node_57 : decode cX7_node 57 = .ok (.getfield 10, 3) := by decide +kernel
theorem dX7_node_60 : decode cX7_node 60 = .ok (.iload_n 1, 1) := by decide +kernel
theorem dX7_node_61 : decode cX7_node 61 = .ok (.invokevirtual 56, 3) := by decide +kernel
theorem dX7_node_64 : decode cX7_node 64 = .ok (.ireturn, 1) := by decide +kernel
theorem dX7_node_65 : decode cX7_node 65 = .ok (.aload_n 0, 1) := by decide +kernel
theorem dX7_node_66 : decode cX7_node 66 = .ok (.getfield 10, 3) := by decide +kernel
theorem dX7_node_69 : decode cX7_node 69 = .ok (.iload_n 1, 1) := by decide +kernel
theorem dX7_node_70 : decode cX7_node 70 = .ok (.invokevirtual 60, 3) := by decide +kernel
theorem dX7_node_73 : decode cX7_node 73 = .ok (.ireturn, 1) := by decide +kernel
theorem dX7_node_74 : decode cX7_node 74 = .ok (.aload_n 0, 1) := by decide +kernel
theorem dX7_node_75 : decode cX7_node 75 = .ok (.getfield 10, 3) := by decide +kernel
theorem dX7_node_78 : decode cX7_node 78 = .ok (.iload_n 1, 1) := by decide +kernel
theorem dX7_node_79 : decode cX7_node 79 = .ok (.invokevirtual 63, 3) := by decide +kernel
theorem dX7_node_82 : decode cX7_node 82 = .ok (.ireturn, 1) := by decide +kernel
theorem dX7_node_83 : decode cX7_node 83 = .ok (.aload_n 0, 1) := by decide +kernel
theorem dX7_node_84 : decode cX7_node 84 = .ok (.getfield 10, 3) := by decide +kernel
theorem dX7_node_87 : decode cX7_node 87 = .ok (.iload_n 1, 1) := by decide +kernel
theorem dX7_node_88 : decode cX7_node 88 = .ok (.invokevirtual 66, 3) := by decide +kernel
theorem dX7_node_91 : decode cX7_node 91 = .ok (.ireturn, 1) := by decide +kernel
theorem dX7_ask_0 : decode cX7_ask 0 = .ok (.aload_n 0, 1) := by decide +kernel
theorem dX7_ask_1 : decode cX7_ask 1 = .ok (.getfield 10, 3) := by decide +kernel
theorem dX7_ask_4 : decode cX7_ask 4 = .ok (.iload_n 1, 1) := by decide +kernel
theorem dX7_ask_5 : decode cX7_ask 5 = .ok (.invokevirtual 29, 3) := by decide +kernel
theorem dX7_ask_8 : decode cX7_ask 8 = .ok (.ifCond .eq 27, 3) := by decide +kernel
theorem dX7_ask_11 : decode cX7_ask 11 = .ok (.iload_n 2, 1) := by decide +kernel
theorem dX7_ask_12 : decode cX7_ask 12 = .ok (.ifCond .lt 23, 3) := by decide +kernel
theorem dX7_ask_15 : decode cX7_ask 15 = .ok (.iload_n 2, 1) := by decide +kernel
theorem dX7_ask_16 : decode cX7_ask 16 = .ok (.iconst 2, 1) := by decide +kernel
theorem dX7_ask_17 : decode cX7_ask 17 = .ok (.if_icmp .gt 18, 3) := by decide +kernel
theorem dX7_ask_20 : decode cX7_ask 20 = .ok (.iload_n 3, 1) := by decide +kernel
theorem dX7_ask_21 : decode cX7_ask 21 = .ok (.iconst 1, 1) := by decide +kernel
theorem dX7_ask_22 : decode cX7_ask 22 = .ok (.if_icmp .lt 13, 3) := by decide +kernel
theorem dX7_ask_25 : decode cX7_ask 25 = .ok (.iload_n 3, 1) := by decide +kernel
theorem dX7_ask_26 : decode cX7_ask 26 = .ok (.bipush 60, 2) := by decide +kernel
theorem dX7_ask_28 : decode cX7_ask 28 = .ok (.if_icmp .gt 7, 3) := by decide +kernel
theorem dX7_ask_31 : decode cX7_ask 31 = .ok (.iconst 1, 1) := by decide +kernel
theorem dX7_ask_32 : decode cX7_ask 32 = .ok (.goto 4, 3) := by decide +kernel
theorem dX7_ask_35 : decode cX7_ask 35 = .ok (.iconst 0, 1) := by decide +kernel
theorem dX7_ask_36 : decode cX7_ask 36 = .ok (.invokestatic 33, 3) := by decide +kernel
theorem dX7_ask_39 : decode cX7_ask 39 = .ok (.aload_n 0, 1) := by decide +kernel
theorem dX7_ask_40 : decode cX7_ask 40 = .ok (.getfield 21, 3) := by decide +kernel
theorem dX7_ask_43 : decode cX7_ask 43 = .ok (.iload_n 1, 1) := by decide +kernel
theorem dX7_ask_44 : decode cX7_ask 44 = .ok (.iload_n 2, 1) := by decide +kernel
theorem dX7_ask_45 : decode cX7_ask 45 = .ok (.iload_n 3, 1) := by decide +kernel
theorem dX7_ask_46 : decode cX7_ask 46 = .ok (.invokevirtual 69, 3) := by decide +kernel
theorem dX7_ask_49 : decode cX7_ask 49 = .ok (.return_, 1) := by decide +kernel
theorem dX7_next_0 : decode cX7_next 0 = .ok (.aload_n 0, 1) := by decide +kernel
theorem dX7_next_1 : decode cX7_next 1 = .ok (.getfield 21, 3) := by decide +kernel
theorem dX7_next_4 : decode cX7_next 4 = .ok (.invokevirtual 73, 3) := by decide +kernel
theorem dX7_next_7 : decode cX7_next 7 = .ok (.ifCond .ne 13, 3) := by decide +kernel
theorem dX7_next_10 : decode cX7_next 10 = .ok (.new 77, 3) := by decide +kernel
theorem dX7_next_13 : decode cX7_next 13 = .ok (.dup, 1) := by decide +kernel
theorem dX7_next_14 : decode cX7_next 14 = .ok (.ldc 79, 2) := by decide +kernel
theorem dX7_next_16 : decode cX7_next 16 = .ok (.invokespecial 81, 3) := by decide +kernel
theorem dX7_next_19 : decode cX7_next 19 = .ok (.athrow, 1) := by decide +kernel
theorem dX7_next_20 : decode cX7_next 20 = .ok (.aload_n 0, 1) := by decide +kernel
theorem dX7_next_21 : decode cX7_next 21 = .ok (.getfield 21, 3) := by decide +kernel
theorem dX7_next_24 : decode cX7_next 24 = .ok (.invokevirtual 82, 3) := by decide +kernel
theorem dX7_next_27 : decode cX7_next 27 = .ok (.ireturn, 1) := by decide +kernel
theorem dX7_decision_0 : decode cX7_decision 0 = .ok (.aload_n 0, 1) := by decide +kernel
theorem dX7_decision_1 : decode cX7_decision 1 = .ok (.getfield 21, 3) := by decide +kernel
theorem dX7_decision_4 : decode cX7_decision 4 = .ok (.invokevirtual 85, 3) := by decide +kernel
theorem dX7_decision_7 : decode cX7_decision 7 = .ok (.iload_n 1, 1) := by decide +kernel
theorem dX7_decision_8 : decode cX7_decision 8 = .ok (.invokevirtual 89, 3) := by decide +kernel
theorem dX7_decision_11 : decode cX7_decision 11 = .ok (.ireturn, 1) := by decide +kernel
theorem dX7_token_0 : decode cX7_token 0 = .ok (.aload_n 0, 1) := by decide +kernel
theorem dX7_token_1 : decode cX7_token 1 = .ok (.getfield 21, 3) := by decide +kernel
theorem dX7_token_4 : decode cX7_token 4 = .ok (.invokevirtual 85, 3) := by decide +kernel
theorem dX7_token_7 : decode cX7_token 7 = .ok (.invokevirtual 94, 3) := by decide +kernel
theorem dX7_token_10 : decode cX7_token 10 = .ok (.astore_n 3, 1) := by decide +kernel
theorem dX7_token_11 : decode cX7_token 11 = .ok (.aload_n 3, 1) := by decide +kernel
theorem dX7_token_12 : decode cX7_token 12 = .ok (.iload_n 1, 1) := by decide +kernel
theorem dX7_token_13 : decode cX7_token 13 = .ok (.invokevirtual 98, 3) := by decide +kernel
theorem dX7_token_16 : decode cX7_token 16 = .ok (.ifCond .eq 12, 3) := by decide +kernel
theorem dX7_token_19 : decode cX7_token 19 = .ok (.iload_n 2, 1) := by decide +kernel
theorem dX7_token_20 : decode cX7_token 20 = .ok (.ifCond .lt 8, 3) := by decide +kernel
theorem dX7_token_23 : decode cX7_token 23 = .ok (.iload_n 2, 1) := by decide +kernel
theorem dX7_token_24 : decode cX7_token 24 = .ok (.iconst 1, 1) := by decide +kernel
theorem dX7_token_25 : decode cX7_token 25 = .ok (.if_icmp .le 13, 3) := by decide +kernel
theorem dX7_token_28 : decode cX7_token 28 = .ok (.new 49, 3) := by decide +kernel
theorem dX7_token_31 : decode cX7_token 31 = .ok (.dup, 1) := by decide +kernel
theorem dX7_token_32 : decode cX7_token 32 = .ok (.ldc 101, 2) := by decide +kernel
theorem dX7_token_34 : decode cX7_token 34 = .ok (.invokespecial 53, 3) := by decide +kernel
theorem dX7_token_37 : decode cX7_token 37 = .ok (.athrow, 1) := by decide +kernel
theorem dX7_token_38 : decode cX7_token 38 = .ok (.iload_n 2, 1) := by decide +kernel
theorem dX7_token_39 : decode cX7_token 39 = .ok (.ifCond .ne 12, 3) := by decide +kernel
theorem dX7_token_42 : decode cX7_token 42 = .ok (.aload_n 3, 1) := by decide +kernel
theorem dX7_token_43 : decode cX7_token 43 = .ok (.iload_n 1, 1) := by decide +kernel
theorem dX7_token_44 : decode cX7_token 44 = .ok (.invokevirtual 103, 3) := by decide +kernel
theorem dX7_token_47 : decode cX7_token 47 = .ok (.i2l, 1) := by decide +kernel
theorem dX7_token_48 : decode cX7_token 48 = .ok (.goto 8, 3) := by decide +kernel
theorem dX7_token_51 : decode cX7_token 51 = .ok (.aload_n 3, 1) := by decide +kernel
theorem dX7_token_52 : decode cX7_token 52 = .ok (.iload_n 1, 1) := by decide +kernel
theorem dX7_token_53 : decode cX7_token 53 = .ok (.invokevirtual 106, 3) := by decide +kernel
theorem dX7_token_56 : decode cX7_token 56 = .ok (.lreturn, 1) := by decide +kernel
theorem dX7_count_0 : decode cX7_count 0 = .ok (.iload_n 1, 1) := by decide +kernel
theorem dX7_count_1 : decode cX7_count 1 = .ok (.tableswitch 135 0 8 #[51, 59, 67, 75, 83, 91, 99, 110, 121], 51) := by decide +kernel
theorem dX7_count_52 : decode cX7_count 52 = .ok (.aload_n 0, 1) := by decide +kernel
theorem dX7_count_53 : decode cX7_count 53 = .ok (.getfield 10, 3) := by decide +kernel
theorem dX7_count_56 : decode cX7_count 56 = .ok (.invokevirtual 41, 3) := by decide +kernel
theorem dX7_count_59 : decode cX7_count 59 = .ok (.ireturn, 1) := by decide +kernel
theorem dX7_count_60 : decode cX7_count 60 = .ok (.aload_n 0, 1) := by decide +kernel
theorem dX7_count_61 : decode cX7_count 61 = .ok (.getfield 21, 3) := by decide +kernel
theorem dX7_count_64 : decode cX7_count 64 = .ok (.invokevirtual 110, 3) := by decide +kernel
theorem dX7_count_67 : decode cX7_count 67 = .ok (.ireturn, 1) := by decide +kernel
theorem dX7_count_68 : decode cX7_count 68 = .ok (.aload_n 0, 1) := by decide +kernel
theorem dX7_count_69 : decode cX7_count 69 = .ok (.getfield 21, 3) := by decide +kernel
theorem dX7_count_72 : decode cX7_count 72 = .ok (.invokevirtual 113, 3) := by decide +kernel
theorem dX7_count_75 : decode cX7_count 75 = .ok (.ireturn, 1) := by decide +kernel
theorem dX7_count_76 : decode cX7_count 76 = .ok (.aload_n 0, 1) := by decide +kernel
theorem dX7_count_77 : decode cX7_count 77 = .ok (.getfield 21, 3) := by decide +kernel
theorem dX7_count_80 : decode cX7_count 80 = .ok (.invokevirtual 116, 3) := by decide +kernel
theorem dX7_count_83 : decode cX7_count 83 = .ok (.ireturn, 1) := by decide +kernel
theorem dX7_count_84 : decode cX7_count 84 = .ok (.aload_n 0, 1) := by decide +kernel
theorem dX7_count_85 : decode cX7_count 85 = .ok (.getfield 21, 3) := by decide +kernel
theorem dX7_count_88 : decode cX7_count 88 = .ok (.invokevirtual 119, 3) := by decide +kernel
theorem dX7_count_91 : decode cX7_count 91 = .ok (.ireturn, 1) := by decide +kernel
theorem dX7_count_92 : decode cX7_count 92 = .ok (.aload_n 0, 1) := by decide +kernel
theorem dX7_count_93 : decode cX7_count 93 = .ok (.getfield 21, 3) := by decide +kernel
theorem dX7_count_96 : decode cX7_count 96 = .ok (.invokevirtual 122, 3) := by decide +kernel
theorem dX7_count_99 : decode cX7_count 99 = .ok (.ireturn, 1) := by decide +kernel
theorem dX7_count_100 : decode cX7_count 100 = .ok (.aload_n 0, 1) := by decide +kernel
theorem dX7_count_101 : decode cX7_count 101 = .ok (.getfield 21, 3) := by decide +kernel
theorem dX7_count_104 : decode cX7_count 104 = .ok (.invokevirtual 85, 3) := by decide +kernel
theorem dX7_count_107 : decode cX7_count 107 = .ok (.invokevirtual 125, 3) := by decide +kernel
theorem dX7_count_110 : decode cX7_count 110 = .ok (.ireturn, 1) := by decide +kernel
theorem dX7_count_111 : decode cX7_count 111 = .ok (.aload_n 0, 1) := by decide +kernel
theorem dX7_count_112 : decode cX7_count 112 = .ok (.getfield 21, 3) := by decide +kernel
theorem dX7_count_115 : decode cX7_count 115 = .ok (.invokevirtual 85, 3) := by decide +kernel
theorem dX7_count_118 : decode cX7_count 118 = .ok (.invokevirtual 128, 3) := by decide +kernel
theorem dX7_count_121 : decode cX7_count 121 = .ok (.ireturn, 1) := by decide +kernel
theorem dX7_count_122 : decode cX7_count 122 = .ok (.aload_n 0, 1) := by decide +kernel
theorem dX7_count_123 : decode cX7_count 123 = .ok (.getfield 21, 3) := by decide +kernel
theorem dX7_count_126 : decode cX7_count 126 = .ok (.invokevirtual 85, 3) := by decide +kernel
theorem dX7_count_129 : decode cX7_count 129 = .ok (.invokevirtual 94, 3) := by decide +kernel
theorem dX7_count_132 : decode cX7_count 132 = .ok (.invokevirtual 131, 3) := by decide +kernel
theorem dX7_count_135 : decode cX7_count 135 = .ok (.ireturn, 1) := by decide +kernel
theorem dX7_count_136 : decode cX7_count 136 = .ok (.iconst (-1), 1) := by decide +kernel
theorem dX7_count_137 : decode cX7_count 137 = .ok (.ireturn, 1) := by decide +kernel
theorem dX7_demand_0 : decode cX7_demand 0 = .ok (.iload_n 0, 1) := by decide +kernel
theorem dX7_demand_1 : decode cX7_demand 1 = .ok (.ifCond .ne 13, 3) := by decide +kernel
theorem dX7_demand_4 : decode cX7_demand 4 = .ok (.new 132, 3) := by decide +kernel
theorem dX7_demand_7 : decode cX7_demand 7 = .ok (.dup, 1) := by decide +kernel
theorem dX7_demand_8 : decode cX7_demand 8 = .ok (.ldc 134, 2) := by decide +kernel
theorem dX7_demand_10 : decode cX7_demand 10 = .ok (.invokespecial 136, 3) := by decide +kernel
theorem dX7_demand_13 : decode cX7_demand 13 = .ok (.athrow, 1) := by decide +kernel
theorem dX7_demand_14 : decode cX7_demand 14 = .ok (.return_, 1) := by decide +kernel
theorem dX8_init_0 : decode cX8_init 0 = .ok (.aload_n 0, 1) := by decide +kernel
theorem dX8_init_1 : decode cX8_init 1 = .ok (.invokespecial 1, 3) := by decide +kernel
theorem dX8_init_4 : decode cX8_init 4 = .ok (.aload_n 0, 1) := by decide +kernel
theorem dX8_init_5 : decode cX8_init 5 = .ok (.bipush 60, 2) := by decide +kernel
theorem dX8_init_7 : decode cX8_init 7 = .ok (.newarray .int, 2) := by decide +kernel
theorem dX8_init_9 : decode cX8_init 9 = .ok (.putfield 9, 3) := by decide +kernel
theorem dX8_init_12 : decode cX8_init 12 = .ok (.aload_n 0, 1) := by decide +kernel
theorem dX8_init_13 : decode cX8_init 13 = .ok (.bipush 60, 2) := by decide +kernel
theorem dX8_init_15 : decode cX8_init 15 = .ok (.newarray .long, 2) := by decide +kernel
theorem dX8_init_17 : decode cX8_init 17 = .ok (.putfield 13, 3) := by decide +kernel
theorem dX8_init_20 : decode cX8_init 20 = .ok (.aload_n 0, 1) := by decide +kernel
theorem dX8_init_21 : decode cX8_init 21 = .ok (.bipush 60, 2) := by decide +kernel
theorem dX8_init_23 : decode cX8_init 23 = .ok (.newarray .int, 2) := by decide +kernel
theorem dX8_init_25 : decode cX8_init 25 = .ok (.putfield 17, 3) := by decide +kernel
theorem dX8_init_28 : decode cX8_init 28 = .ok (.aload_n 0, 1) := by decide +kernel
theorem dX8_init_29 : decode cX8_init 29 = .ok (.bipush 60, 2) := by decide +kernel
theorem dX8_init_31 : decode cX8_init 31 = .ok (.newarray .int, 2) := by decide +kernel
theorem dX8_init_33 : decode cX8_init 33 = .ok (.putfield 20, 3) := by decide +kernel
theorem dX8_init_36 : decode cX8_init 36 = .ok (.aload_n 0, 1) := by decide +kernel
theorem dX8_init_37 : decode cX8_init 37 = .ok (.bipush 60, 2) := by decide +kernel
theorem dX8_init_39 : decode cX8_init 39 = .ok (.newarray .int, 2) := by decide +kernel
theorem dX8_init_41 : decode cX8_init 41 = .ok (.putfield 23, 3) := by decide +kernel
theorem dX8_init_44 : decode cX8_init 44 = .ok (.aload_n 0, 1) := by decide +kernel
theorem dX8_init_45 : decode cX8_init 45 = .ok (.bipush 6, 2) := by decide +kernel
theorem dX8_init_47 : decode cX8_init 47 = .ok (.newarray .int, 2) := by decide +kernel
theorem dX8_init_49 : decode cX8_init 49 = .ok (.putfield 26, 3) := by decide +kernel
theorem dX8_init_52 : decode cX8_init 52 = .ok (.aload_n 0, 1) := by decide +kernel
theorem dX8_init_53 : decode cX8_init 53 = .ok (.sipush 360, 3) := by decide +kernel
theorem dX8_init_56 : decode cX8_init 56 = .ok (.newarray .int, 2) := by decide +kernel
theorem dX8_init_58 : decode cX8_init 58 = .ok (.putfield 29, 3) := by decide +kernel
theorem dX8_init_61 : decode cX8_init 61 = .ok (.aload_n 0, 1) := by decide +kernel
theorem dX8_init_62 : decode cX8_init 62 = .ok (.sipush 360, 3) := by decide +kernel
theorem dX8_init_65 : decode cX8_init 65 = .ok (.newarray .long, 2) := by decide +kernel
theorem dX8_init_67 : decode cX8_init 67 = .ok (.putfield 32, 3) := by decide +kernel
theorem dX8_init_70 : decode cX8_init 70 = .ok (.aload_n 0, 1) := by decide +kernel
theorem dX8_init_71 : decode cX8_init 71 = .ok (.sipush 360, 3) := by decide +kernel
theorem dX8_init_74 : decode cX8_init 74 = .ok (.newarray .int, 2) := by decide +kernel
theorem dX8_init_76 : decode cX8_init 76 = .ok (.putfield 35, 3) := by decide +kernel
theorem dX8_init_79 : decode cX8_init 79 = .ok (.aload_n 0, 1) := by decide +kernel
theorem dX8_init_80 : decode cX8_init 80 = .ok (.sipush 360, 3) := by decide +kernel
theorem dX8_init_83 : decode cX8_init 83 = .ok (.newarray .int, 2) := by decide +kernel
theorem dX8_init_85 : decode cX8_init 85 = .ok (.putfield 38, 3) := by decide +kernel
theorem dX8_init_88 : decode cX8_init 88 = .ok (.aload_n 0, 1) := by decide +kernel
theorem dX8_init_89 : decode cX8_init 89 = .ok (.sipush 1024, 3) := by decide +kernel
theorem dX8_init_92 : decode cX8_init 92 = .ok (.newarray .int, 2) := by decide +kernel
theorem dX8_init_94 : decode cX8_init 94 = .ok (.putfield 41, 3) := by decide +kernel
theorem dX8_init_97 : decode cX8_init 97 = .ok (.aload_n 0, 1) := by decide +kernel
theorem dX8_init_98 : decode cX8_init 98 = .ok (.sipush 1024, 3) := by decide +kernel
theorem dX8_init_101 : decode cX8_init 101 = .ok (.newarray .long, 2) := by decide +kernel
theorem dX8_init_103 : decode cX8_init 103 = .ok (.putfield 44, 3) := by decide +kernel
theorem dX8_init_106 : decode cX8_init 106 = .ok (.aload_n 0, 1) := by decide +kernel
theorem dX8_init_107 : decode cX8_init 107 = .ok (.sipush 12006, 3) := by decide +kernel
theorem dX8_init_110 : decode cX8_init 110 = .ok (.newarray .int, 2) := by decide +kernel
theorem dX8_init_112 : decode cX8_init 112 = .ok (.putfield 47, 3) := by decide +kernel
theorem dX8_init_115 : decode cX8_init 115 = .ok (.aload_n 0, 1) := by decide +kernel
theorem dX8_init_116 : decode cX8_init 116 = .ok (.bipush 6, 2) := by decide +kernel
theorem dX8_init_118 : decode cX8_init 118 = .ok (.newarray .int, 2) := by decide +kernel
theorem dX8_init_120 : decode cX8_init 120 = .ok (.putfield 50, 3) := by decide +kernel
theorem dX8_init_123 : decode cX8_init 123 = .ok (.aload_n 0, 1) := by decide +kernel
theorem dX8_init_124 : decode cX8_init 124 = .ok (.bipush 6, 2) := by decide +kernel
theorem dX8_init_126 : decode cX8_init 126 = .ok (.newarray .int, 2) := by decide +kernel
theorem dX8_init_128 : decode cX8_init 128 = .ok (.putfield 53, 3) := by decide +kernel
theorem dX8_init_131 : decode cX8_init 131 = .ok (.aload_n 0, 1) := by decide +kernel
theorem dX8_init_132 : decode cX8_init 132 = .ok (.sipush 600, 3) := by decide +kernel
theorem dX8_init_135 : decode cX8_init 135 = .ok (.newarray .int, 2) := by decide +kernel
theorem dX8_init_137 : decode cX8_init 137 = .ok (.putfield 56, 3) := by decide +kernel
theorem dX8_init_140 : decode cX8_init 140 = .ok (.aload_n 0, 1) := by decide +kernel
theorem dX8_init_141 : decode cX8_init 141 = .ok (.sipush 600, 3) := by decide +kernel
theorem dX8_init_144 : decode cX8_init 144 = .ok (.newarray .long, 2) := by decide +kernel
theorem dX8_init_146 : decode cX8_init 146 = .ok (.putfield 59, 3) := by decide +kernel
theorem dX8_init_149 : decode cX8_init 149 = .ok (.aload_n 0, 1) := by decide +kernel
theorem dX8_init_150 : decode cX8_init 150 = .ok (.bipush 6, 2) := by decide +kernel
theorem dX8_init_152 : decode cX8_init 152 = .ok (.newarray .int, 2) := by decide +kernel
theorem dX8_init_154 : decode cX8_init 154 = .ok (.putfield 62, 3) := by decide +kernel
theorem dX8_init_157 : decode cX8_init 157 = .ok (.aload_n 0, 1) := by decide +kernel
theorem dX8_init_158 : decode cX8_init 158 = .ok (.sipush 600, 3) := by decide +kernel
theorem dX8_init_161 : decode cX8_init 161 = .ok (.newarray .int, 2) := by decide +kernel
theorem dX8_init_163 : decode cX8_init 163 = .ok (.putfield 65, 3) := by decide +kernel
theorem dX8_init_166 : decode cX8_init 166 = .ok (.aload_n 0, 1) := by decide +kernel
theorem dX8_init_167 : decode cX8_init 167 = .ok (.sipush 600, 3) := by decide +kernel
theorem dX8_init_170 : decode cX8_init 170 = .ok (.newarray .long, 2) := by decide +kernel
theorem dX8_init_172 : decode cX8_init 172 = .ok (.putfield 68, 3) := by decide +kernel
theorem dX8_init_175 : decode cX8_init 175 = .ok (.aload_n 0, 1) := by decide +kernel
theorem dX8_init_176 : decode cX8_init 176 = .ok (.bipush 6, 2) := by decide +kernel
theorem dX8_init_178 : decode cX8_init 178 = .ok (.newarray .int, 2) := by decide +kernel
theorem dX8_init_180 : decode cX8_init 180 = .ok (.putfield 71, 3) := by decide +kernel
theorem dX8_init_183 : decode cX8_init 183 = .ok (.aload_n 0, 1) := by decide +kernel
theorem dX8_init_184 : decode cX8_init 184 = .ok (.ldc 74, 2) := by decide +kernel
theorem dX8_init_186 : decode cX8_init 186 = .ok (.newarray .int, 2) := by decide +kernel
theorem dX8_init_188 : decode cX8_init 188 = .ok (.putfield 75, 3) := by decide +kernel
theorem dX8_init_191 : decode cX8_init 191 = .ok (.aload_n 0, 1) := by decide +kernel
theorem dX8_init_192 : decode cX8_init 192 = .ok (.sipush 256, 3) := by decide +kernel
theorem dX8_init_195 : decode cX8_init 195 = .ok (.newarray .int, 2) := by decide +kernel
theorem dX8_init_197 : decode cX8_init 197 = .ok (.putfield 78, 3) := by decide +kernel
theorem dX8_init_200 : decode cX8_init 200 = .ok (.aload_n 0, 1) := by decide +kernel
theorem dX8_init_201 : decode cX8_init 201 = .ok (.ldc 81, 2) := by decide +kernel
theorem dX8_init_203 : decode cX8_init 203 = .ok (.newarray .int, 2) := by decide +kernel
theorem dX8_init_205 : decode cX8_init 205 = .ok (.putfield 82, 3) := by decide +kernel
theorem dX8_init_208 : decode cX8_init 208 = .ok (.aload_n 0, 1) := by decide +kernel
theorem dX8_init_209 : decode cX8_init 209 = .ok (.sipush 512, 3) := by decide +kernel
theorem dX8_init_212 : decode cX8_init 212 = .ok (.newarray .int, 2) := by decide +kernel
theorem dX8_init_214 : decode cX8_init 214 = .ok (.putfield 85, 3) := by decide +kernel
theorem dX8_init_217 : decode cX8_init 217 = .ok (.aload_n 0, 1) := by decide +kernel
theorem dX8_init_218 : decode cX8_init 218 = .ok (.sipush 256, 3) := by decide +kernel
theorem dX8_init_221 : decode cX8_init 221 = .ok (.newarray .int, 2) := by decide +kernel
theorem dX8_init_223 : decode cX8_init 223 = .ok (.putfield 88, 3) := by decide +kernel
theorem dX8_init_226 : decode cX8_init 226 = .ok (.aload_n 0, 1) := by decide +kernel
theorem dX8_init_227 : decode cX8_init 227 = .ok (.bipush 100, 2) := by decide +kernel
theorem dX8_init_229 : decode cX8_init 229 = .ok (.newarray .int, 2) := by decide +kernel
theorem dX8_init_231 : decode cX8_init 231 = .ok (.putfield 91, 3) := by decide +kernel
theorem dX8_init_234 : decode cX8_init 234 = .ok (.aload_n 0, 1) := by decide +kernel
theorem dX8_init_235 : decode cX8_init 235 = .ok (.bipush 100, 2) := by decide +kernel
theorem dX8_init_237 : decode cX8_init 237 = .ok (.newarray .long, 2) := by decide +kernel
theorem dX8_init_239 : decode cX8_init 239 = .ok (.putfield 94, 3) := by decide +kernel
theorem dX8_init_242 : decode cX8_init 242 = .ok (.return_, 1) := by decide +kernel
theorem dX8_thrown_0 : decode cX8_thrown 0 = .ok (.aload_n 0, 1) := by decide +kernel
theorem dX8_thrown_1 : decode cX8_thrown 1 = .ok (.getfield 97, 3) := by decide +kernel
theorem dX8_thrown_4 : decode cX8_thrown 4 = .ok (.ireturn, 1) := by decide +kernel
theorem dX8_isNode_0 : decode cX8_isNode 0 = .ok (.iload_n 1, 1) := by decide +kernel
theorem dX8_isNode_1 : decode cX8_isNode 1 = .ok (.ifCond .lt 15, 3) := by decide +kernel
theorem dX8_isNode_4 : decode cX8_isNode 4 = .ok (.iload_n 1, 1) := by decide +kernel
theorem dX8_isNode_5 : decode cX8_isNode 5 = .ok (.aload_n 0, 1) := by decide +kernel
theorem dX8_isNode_6 : decode cX8_isNode 6 = .ok (.getfield 101, 3) := by decide +kernel
theorem dX8_isNode_9 : decode cX8_isNode 9 = .ok (.if_icmp .ge 7, 3) := by decide +kernel
theorem dX8_isNode_12 : decode cX8_isNode 12 = .ok (.iconst 1, 1) := by decide +kernel
theorem dX8_isNode_13 : decode cX8_isNode 13 = .ok (.goto 4, 3) := by decide +kernel
theorem dX8_isNode_16 : decode cX8_isNode 16 = .ok (.iconst 0, 1) := by decide +kernel
theorem dX8_isNode_17 : decode cX8_isNode 17 = .ok (.ireturn, 1) := by decide +kernel
theorem dX8_make_0 : decode cX8_make 0 = .ok (.aload_n 0, 1) := by decide +kernel
theorem dX8_make_1 : decode cX8_make 1 = .ok (.getfield 101, 3) := by decide +kernel
theorem dX8_make_4 : decode cX8_make 4 = .ok (.bipush 60, 2) := by decide +kernel
theorem dX8_make_6 : decode cX8_make 6 = .ok (.if_icmp .ne 5, 3) := by decide +kernel
theorem dX8_make_9 : decode cX8_make 9 = .ok (.iconst (-1), 1) := by decide +kernel
theorem dX8_make_10 : decode cX8_make 10 = .ok (.ireturn, 1) := by decide +kernel
theorem dX8_make_11 : decode cX8_make 11 = .ok (.aload_n 0, 1) := by decide +kernel
theorem dX8_make_12 : decode cX8_make 12 = .ok (.getfield 9, 3) := by decide +kernel
theorem dX8_make_15 : decode cX8_make 15 = .ok (.aload_n 0, 1) := by decide +kernel
theorem dX8_make_16 : decode cX8_make 16 = .ok (.getfield 101, 3) := by decide +kernel
theorem dX8_make_19 : decode cX8_make 19 = .ok (.iload_n 1, 1) := by decide +kernel
theorem dX8_make_20 : decode cX8_make 20 = .ok (.iastore, 1) := by decide +kernel
theorem dX8_make_21 : decode cX8_make 21 = .ok (.aload_n 0, 1) := by decide +kernel
theorem dX8_make_22 : decode cX8_make 22 = .ok (.getfield 13, 3) := by decide +kernel
theorem dX8_make_25 : decode cX8_make 25 = .ok (.aload_n 0, 1) := by decide +kernel
theorem dX8_make_26 : decode cX8_make 26 = .ok (.getfield 101, 3) := by decide +kernel
theorem dX8_make_29 : decode cX8_make 29 = .ok (.lload_n 2, 1) := by decide +kernel
theorem dX8_make_30 : decode cX8_make 30 = .ok (.lastore, 1) := by decide +kernel
theorem dX8_make_31 : decode cX8_make 31 = .ok (.aload_n 0, 1) := by decide +kernel
theorem dX8_make_32 : decode cX8_make 32 = .ok (.getfield 17, 3) := by decide +kernel
theorem dX8_make_35 : decode cX8_make 35 = .ok (.aload_n 0, 1) := by decide +kernel
theorem dX8_make_36 : decode cX8_make 36 = .ok (.getfield 101, 3) := by decide +kernel
theorem dX8_make_39 : decode cX8_make 39 = .ok (.iload 4, 2) := by decide +kernel
theorem dX8_make_41 : decode cX8_make 41 = .ok (.iastore, 1) := by decide +kernel
theorem dX8_make_42 : decode cX8_make 42 = .ok (.aload_n 0, 1) := by decide +kernel
theorem dX8_make_43 : decode cX8_make 43 = .ok (.getfield 20, 3) := by decide +kernel
theorem dX8_make_46 : decode cX8_make 46 = .ok (.aload_n 0, 1) := by decide +kernel
theorem dX8_make_47 : decode cX8_make 47 = .ok (.getfield 101, 3) := by decide +kernel
theorem dX8_make_50 : decode cX8_make 50 = .ok (.iload 5, 2) := by decide +kernel
theorem dX8_make_52 : decode cX8_make 52 = .ok (.iastore, 1) := by decide +kernel
theorem dX8_make_53 : decode cX8_make 53 = .ok (.aload_n 0, 1) := by decide +kernel
theorem dX8_make_54 : decode cX8_make 54 = .ok (.getfield 23, 3) := by decide +kernel
theorem dX8_make_57 : decode cX8_make 57 = .ok (.aload_n 0, 1) := by decide +kernel
theorem dX8_make_58 : decode cX8_make 58 = .ok (.getfield 101, 3) := by decide +kernel
theorem dX8_make_61 : decode cX8_make 61 = .ok (.iload 6, 2) := by decide +kernel
theorem dX8_make_63 : decode cX8_make 63 = .ok (.iastore, 1) := by decide +kernel
theorem dX8_make_64 : decode cX8_make 64 = .ok (.aload_n 0, 1) := by decide +kernel
theorem dX8_make_65 : decode cX8_make 65 = .ok (.dup, 1) := by decide +kernel
theorem dX8_make_66 : decode cX8_make 66 = .ok (.getfield 101, 3) := by decide +kernel
theorem dX8_make_69 : decode cX8_make 69 = .ok (.iconst 1, 1) := by decide +kernel
theorem dX8_make_70 : decode cX8_make 70 = .ok (.iadd, 1) := by decide +kernel
theorem dX8_make_71 : decode cX8_make 71 = .ok (.putfield 101, 3) := by decide +kernel
theorem dX8_make_74 : decode cX8_make 74 = .ok (.aload_n 0, 1) := by decide +kernel
theorem dX8_make_75 : decode cX8_make 75 = .ok (.getfield 101, 3) := by decide +kernel
theorem dX8_make_78 : decode cX8_make 78 = .ok (.iconst 1, 1) := by decide +kernel
theorem dX8_make_79 : decode cX8_make 79 = .ok (.isub, 1) := by decide +kernel
theorem dX8_make_80 : decode cX8_make 80 = .ok (.ireturn, 1) := by decide +kernel
theorem dX8_refused_0 : decode cX8_refused 0 = .ok (.aload_n 0, 1) := by decide +kernel
theorem dX8_refused_1 : decode cX8_refused 1 = .ok (.iload_n 1, 1) := by decide +kernel
theorem dX8_refused_2 : decode cX8_refused 2 = .ok (.ifCond .eq 7, 3) := by decide +kernel
theorem dX8_refused_5 : decode cX8_refused 5 = .ok (.iconst 1, 1) := by decide +kernel
theorem dX8_refused_6 : decode cX8_refused 6 = .ok (.goto 4, 3) := by decide +kernel
theorem dX8_refused_9 : decode cX8_refused 9 = .ok (.iconst 0, 1) := by decide +kernel
theorem dX8_refused_10 : decode cX8_refused 10 = .ok (.putfield 97, 3) := by decide +kernel
theorem dX8_refused_13 : decode cX8_refused 13 = .ok (.iload_n 1, 1) := by decide +kernel
theorem dX8_refused_14 : decode cX8_refused 14 = .ok (.ireturn, 1) := by decide +kernel
theorem dX8_number_0 : decode cX8_number 0 = .ok (.aload_n 0, 1) := by decide +kernel
theorem dX8_number_1 : decode cX8_number 1 = .ok (.iconst 0, 1) := by decide +kernel
theorem dX8_number_2 : decode cX8_number 2 = .ok (.putfield 97, 3) := by decide +kernel
theorem dX8_number_5 : decode cX8_number 5 = .ok (.aload_n 0, 1) := by decide +kernel
theorem dX8_number_6 : decode cX8_number 6 = .ok (.iconst 0, 1) := by decide +kernel
theorem dX8_number_7 : decode cX8_number 7 = .ok (.lload_n 1, 1) := by decide +kernel
theorem dX8_number_8 : decode cX8_number 8 = .ok (.iconst (-1), 1) := by decide +kernel
theorem dX8_number_9 : decode cX8_number 9 = .ok (.iconst (-1), 1) := by decide +kernel
theorem dX8_number_10 : decode cX8_number 10 = .ok (.iconst (-1), 1) := by decide +kernel
theorem dX8_number_11 : decode cX8_number 11 = .ok (.invokevirtual 104, 3) := by decide +kernel
theorem dX8_number_14 : decode cX8_number 14 = .ok (.ireturn, 1) := by decide +kernel
theorem dX8_choice_0 : decode cX8_choice 0 = .ok (.aload_n 0, 1) := by decide +kernel
theorem dX8_choice_1 : decode cX8_choice 1 = .ok (.aload_n 0, 1) := by decide +kernel
theorem dX8_choice_2 : decode cX8_choice 2 = .ok (.iload_n 1, 1) := by decide +kernel
theorem dX8_choice_3 : decode cX8_choice 3 = .ok (.invokevirtual 108, 3) := by decide +kernel
theorem dX8_choice_6 : decode cX8_choice 6 = .ok (.ifCond .eq 11, 3) := by decide +kernel
theorem dX8_choice_9 : decode cX8_choice 9 = .ok (.aload_n 0, 1) := by decide +kernel
theorem dX8_choice_10 : decode cX8_choice 10 = .ok (.iload_n 2, 1) := by decide +kernel
theorem dX8_choice_11 : decode cX8_choice 11 = .ok (.invokevirtual 108, 3) := by decide +kernel
theorem dX8_choice_14 : decode cX8_choice 14 = .ok (.ifCond .ne 7, 3) := by decide +kernel
theorem dX8_choice_17 : decode cX8_choice 17 = .ok (.iconst 1, 1) := by decide +kernel
theorem dX8_choice_18 : decode cX8_choice 18 = .ok (.goto 4, 3) := by decide +kernel
theorem dX8_choice_21 : decode cX8_choice 21 = .ok (.iconst 0, 1) := by decide +kernel
theorem dX8_choice_22 : decode cX8_choice 22 = .ok (.invokevirtual 112, 3) := by decide +kernel
theorem dX8_choice_25 : decode cX8_choice 25 = .ok (.ifCond .eq 7, 3) := by decide +kernel
theorem dX8_choice_28 : decode cX8_choice 28 = .ok (.iconst 0, 1) := by decide +kernel
theorem dX8_choice_29 : decode cX8_choice 29 = .ok (.goto 12, 3) := by decide +kernel
theorem dX8_choice_32 : decode cX8_choice 32 = .ok (.aload_n 0, 1) := by decide +kernel
theorem dX8_choice_33 : decode cX8_choice 33 = .ok (.iconst 1, 1) := by decide +kernel
theorem dX8_choice_34 : decode cX8_choice 34 = .ok (.lconst 0, 1) := by decide +kernel
theorem dX8_choice_35 : decode cX8_choice 35 = .ok (.iload_n 1, 1) := by decide +kernel
theorem dX8_choice_36 : decode cX8_choice 36 = .ok (.iload_n 2, 1) := by decide +kernel
theorem dX8_choice_37 : decode cX8_choice 37 = .ok (.iconst (-1), 1) := by decide +kernel
theorem dX8_choice_38 : decode cX8_choice 38 = .ok (.invokevirtual 104, 3) := by decide +kernel
theorem dX8_choice_41 : decode cX8_choice 41 = .ok (.ireturn, 1) := by decide +kernel
theorem dX8_fail_0 : decode cX8_fail 0 = .ok (.aload_n 0, 1) := by decide +kernel
theorem dX8_fail_1 : decode cX8_fail 1 = .ok (.iconst 0, 1) := by decide +kernel
theorem dX8_fail_2 : decode cX8_fail 2 = .ok (.putfield 97, 3) := by decide +kernel
theorem dX8_fail_5 : decode cX8_fail 5 = .ok (.aload_n 0, 1) := by decide +kernel
theorem dX8_fail_6 : decode cX8_fail 6 = .ok (.iconst 2, 1) := by decide +kernel
theorem dX8_fail_7 : decode cX8_fail 7 = .ok (.lconst 0, 1) := by decide +kernel
theorem dX8_fail_8 : decode cX8_fail 8 = .ok (.iconst (-1), 1) := by decide +kernel
theorem dX8_fail_9 : decode cX8_fail 9 = .ok (.iconst (-1), 1) := by decide +kernel
theorem dX8_fail_10 : decode cX8_fail 10 = .ok (.iconst (-1), 1) := by decide +kernel
theorem dX8_fail_11 : decode cX8_fail 11 = .ok (.invokevirtual 104, 3) := by decide +kernel
theorem dX8_fail_14 : decode cX8_fail 14 = .ok (.ireturn, 1) := by decide +kernel
theorem dX8_pair_0 : decode cX8_pair 0 = .ok (.aload_n 0, 1) := by decide +kernel
theorem dX8_pair_1 : decode cX8_pair 1 = .ok (.aload_n 0, 1) := by decide +kernel
theorem dX8_pair_2 : decode cX8_pair 2 = .ok (.iload_n 1, 1) := by decide +kernel
theorem dX8_pair_3 : decode cX8_pair 3 = .ok (.invokevirtual 108, 3) := by decide +kernel
theorem dX8_pair_6 : decode cX8_pair 6 = .ok (.ifCond .eq 11, 3) := by decide +kernel
theorem dX8_pair_9 : decode cX8_pair 9 = .ok (.aload_n 0, 1) := by decide +kernel
theorem dX8_pair_10 : decode cX8_pair 10 = .ok (.iload_n 2, 1) := by decide +kernel
theorem dX8_pair_11 : decode cX8_pair 11 = .ok (.invokevirtual 108, 3) := by decide +kernel
theorem dX8_pair_14 : decode cX8_pair 14 = .ok (.ifCond .ne 7, 3) := by decide +kernel
theorem dX8_pair_17 : decode cX8_pair 17 = .ok (.iconst 1, 1) := by decide +kernel
theorem dX8_pair_18 : decode cX8_pair 18 = .ok (.goto 4, 3) := by decide +kernel
theorem dX8_pair_21 : decode cX8_pair 21 = .ok (.iconst 0, 1) := by decide +kernel
theorem dX8_pair_22 : decode cX8_pair 22 = .ok (.invokevirtual 112, 3) := by decide +kernel
theorem dX8_pair_25 : decode cX8_pair 25 = .ok (.ifCond .eq 7, 3) := by decide +kernel
theorem dX8_pair_28 : decode cX8_pair 28 = .ok (.iconst 0, 1) := by decide +kernel
theorem dX8_pair_29 : decode cX8_pair 29 = .ok (.goto 12, 3) := by decide +kernel
theorem dX8_pair_32 : decode cX8_pair 32 = .ok (.aload_n 0, 1) := by decide +kernel
theorem dX8_pair_33 : decode cX8_pair 33 = .ok (.iconst 3, 1) := by decide +kernel
theorem dX8_pair_34 : decode cX8_pair 34 = .ok (.lconst 0, 1) := by decide +kernel
theorem dX8_pair_35 : decode cX8_pair 35 = .ok (.iload_n 1, 1) := by decide +kernel
theorem dX8_pair_36 : decode cX8_pair 36 = .ok (.iload_n 2, 1) := by decide +kernel
theorem dX8_pair_37 : decode cX8_pair 37 = .ok (.iconst (-1), 1) := by decide +kernel
theorem dX8_pair_38 : decode cX8_pair 38 = .ok (.invokevirtual 104, 3) := by decide +kernel
theorem dX8_pair_41 : decode cX8_pair 41 = .ok (.ireturn, 1) := by decide +kernel
theorem dX8_part_0 : decode cX8_part 0 = .ok (.aload_n 0, 1) := by decide +kernel
theorem dX8_part_1 : decode cX8_part 1 = .ok (.aload_n 0, 1) := by decide +kernel
theorem dX8_part_2 : decode cX8_part 2 = .ok (.iload_n 1, 1) := by decide +kernel
theorem dX8_part_3 : decode cX8_part 3 = .ok (.invokevirtual 108, 3) := by decide +kernel
theorem dX8_part_6 : decode cX8_part 6 = .ok (.ifCond .ne 7, 3) := by decide +kernel
theorem dX8_part_9 : decode cX8_part 9 = .ok (.iconst 1, 1) := by decide +kernel
theorem dX8_part_10 : decode cX8_part 10 = .ok (.goto 4, 3) := by decide +kernel
theorem dX8_part_13 : decode cX8_part 13 = .ok (.iconst 0, 1) := by decide +kernel
theorem dX8_part_14 : decode cX8_part 14 = .ok (.invokevirtual 112, 3) := by decide +kernel
theorem dX8_part_17 : decode cX8_part 17 = .ok (.ifCond .eq 7, 3) := by decide +kernel
theorem dX8_part_20 : decode cX8_part 20 = .ok (.iconst 0, 1) := by decide +kernel
theorem dX8_part_21 : decode cX8_part 21 = .ok (.goto 20, 3) := by decide +kernel
theorem dX8_part_24 : decode cX8_part 24 = .ok (.aload_n 0, 1) := by decide +kernel
theorem dX8_part_25 : decode cX8_part 25 = .ok (.iload_n 2, 1) := by decide +kernel
theorem dX8_part_26 : decode cX8_part 26 = .ok (.ifCond .eq 7, 3) := by decide +kernel
theorem dX8_part_29 : decode cX8_part 29 = .ok (.iconst 5, 1) := by decide +kernel
theorem dX8_part_30 : decode cX8_part 30 = .ok (.goto 4, 3) := by decide +kernel
theorem dX8_part_33 : decode cX8_part 33 = .ok (.iconst 4, 1) := by decide +kernel
theorem dX8_part_34 : decode cX8_part 34 = .ok (.lconst 0, 1) := by decide +kernel
theorem dX8_part_35 : decode cX8_part 35 = .ok (.iload_n 1, 1) := by decide +kernel
theorem dX8_part_36 : decode cX8_part 36 = .ok (.iconst (-1), 1) := by decide +kernel
theorem dX8_part_37 : decode cX8_part 37 = .ok (.iconst (-1), 1) := by decide +kernel
theorem dX8_part_38 : decode cX8_part 38 = .ok (.invokevirtual 104, 3) := by decide +kernel
theorem dX8_part_41 : decode cX8_part 41 = .ok (.ireturn, 1) := by decide +kernel
theorem dX8_op_0 : decode cX8_op 0 = .ok (.aload_n 0, 1) := by decide +kernel
theorem dX8_op_1 : decode cX8_op 1 = .ok (.aload_n 0, 1) := by decide +kernel
theorem dX8_op_2 : decode cX8_op 2 = .ok (.iload_n 2, 1) := by decide +kernel
theorem dX8_op_3 : decode cX8_op 3 = .ok (.invokevirtual 108, 3) := by decide +kernel
theorem dX8_op_6 : decode cX8_op 6 = .ok (.ifCond .eq 20, 3) := by decide +kernel
theorem dX8_op_9 : decode cX8_op 9 = .ok (.aload_n 0, 1) := by decide +kernel
theorem dX8_op_10 : decode cX8_op 10 = .ok (.iload_n 3, 1) := by decide +kernel
theorem dX8_op_11 : decode cX8_op 11 = .ok (.invokevirtual 108, 3) := by decide +kernel
theorem dX8_op_14 : decode cX8_op 14 = .ok (.ifCond .eq 12, 3) := by decide +kernel
theorem dX8_op_17 : decode cX8_op 17 = .ok (.iload_n 1, 1) := by decide +kernel
theorem dX8_op_18 : decode cX8_op 18 = .ok (.ifCond .lt 8, 3) := by decide +kernel
theorem dX8_op_21 : decode cX8_op 21 = .ok (.iload_n 1, 1) := by decide +kernel
theorem dX8_op_22 : decode cX8_op 22 = .ok (.iconst 5, 1) := by decide +kernel
theorem dX8_op_23 : decode cX8_op 23 = .ok (.if_icmp .le 7, 3) := by decide +kernel
theorem dX8_op_26 : decode cX8_op 26 = .ok (.iconst 1, 1) := by decide +kernel
theorem dX8_op_27 : decode cX8_op 27 = .ok (.goto 4, 3) := by decide +kernel
theorem dX8_op_30 : decode cX8_op 30 = .ok (.iconst 0, 1) := by decide +kernel
theorem dX8_op_31 : decode cX8_op 31 = .ok (.invokevirtual 112, 3) := by decide +kernel
theorem dX8_op_34 : decode cX8_op 34 = .ok (.ifCond .eq 7, 3) := by decide +kernel
theorem dX8_op_37 : decode cX8_op 37 = .ok (.iconst 0, 1) := by decide +kernel
theorem dX8_op_38 : decode cX8_op 38 = .ok (.goto 13, 3) := by decide +kernel
theorem dX8_op_41 : decode cX8_op 41 = .ok (.aload_n 0, 1) := by decide +kernel
theorem dX8_op_42 : decode cX8_op 42 = .ok (.bipush 6, 2) := by decide +kernel
theorem dX8_op_44 : decode cX8_op 44 = .ok (.lconst 0, 1) := by decide +kernel
theorem dX8_op_45 : decode cX8_op 45 = .ok (.iload_n 2, 1) := by decide +kernel
theorem dX8_op_46 : decode cX8_op 46 = .ok (.iload_n 3, 1) := by decide +kernel
theorem dX8_op_47 : decode cX8_op 47 = .ok (.iload_n 1, 1) := by decide +kernel
theorem dX8_op_48 : decode cX8_op 48 = .ok (.invokevirtual 104, 3) := by decide +kernel
theorem dX8_op_51 : decode cX8_op 51 = .ok (.ireturn, 1) := by decide +kernel
theorem dX8_when_0 : decode cX8_when 0 = .ok (.aload_n 0, 1) := by decide +kernel
theorem dX8_when_1 : decode cX8_when 1 = .ok (.aload_n 0, 1) := by decide +kernel
theorem dX8_when_2 : decode cX8_when 2 = .ok (.iload_n 1, 1) := by decide +kernel
theorem dX8_when_3 : decode cX8_when 3 = .ok (.invokevirtual 108, 3) := by decide +kernel
theorem dX8_when_6 : decode cX8_when 6 = .ok (.ifCond .eq 19, 3) := by decide +kernel
theorem dX8_when_9 : decode cX8_when 9 = .ok (.aload_n 0, 1) := by decide +kernel
theorem dX8_when_10 : decode cX8_when 10 = .ok (.iload_n 2, 1) := by decide +kernel
theorem dX8_when_11 : decode cX8_when 11 = .ok (.invokevirtual 108, 3) := by decide +kernel
theorem dX8_when_14 : decode cX8_when 14 = .ok (.ifCond .eq 11, 3) := by decide +kernel
theorem dX8_when_17 : decode cX8_when 17 = .ok (.aload_n 0, 1) := by decide +kernel
theorem dX8_when_18 : decode cX8_when 18 = .ok (.iload_n 3, 1) := by decide +kernel
theorem dX8_when_19 : decode cX8_when 19 = .ok (.invokevirtual 108, 3) := by decide +kernel
theorem dX8_when_22 : decode cX8_when 22 = .ok (.ifCond .ne 7, 3) := by decide +kernel
theorem dX8_when_25 : decode cX8_when 25 = .ok (.iconst 1, 1) := by decide +kernel
theorem dX8_when_26 : decode cX8_when 26 = .ok (.goto 4, 3) := by decide +kernel
theorem dX8_when_29 : decode cX8_when 29 = .ok (.iconst 0, 1) := by decide +kernel
theorem dX8_when_30 : decode cX8_when 30 = .ok (.invokevirtual 112, 3) := by decide +kernel
theorem dX8_when_33 : decode cX8_when 33 = .ok (.ifCond .eq 7, 3) := by decide +kernel
theorem dX8_when_36 : decode cX8_when 36 = .ok (.iconst 0, 1) := by decide +kernel
theorem dX8_when_37 : decode cX8_when 37 = .ok (.goto 13, 3) := by decide +kernel
theorem dX8_when_40 : decode cX8_when 40 = .ok (.aload_n 0, 1) := by decide +kernel
theorem dX8_when_41 : decode cX8_when 41 = .ok (.bipush 7, 2) := by decide +kernel
theorem dX8_when_43 : decode cX8_when 43 = .ok (.lconst 0, 1) := by decide +kernel
theorem dX8_when_44 : decode cX8_when 44 = .ok (.iload_n 1, 1) := by decide +kernel
theorem dX8_when_45 : decode cX8_when 45 = .ok (.iload_n 2, 1) := by decide +kernel
theorem dX8_when_46 : decode cX8_when 46 = .ok (.iload_n 3, 1) := by decide +kernel
theorem dX8_when_47 : decode cX8_when 47 = .ok (.invokevirtual 104, 3) := by decide +kernel
theorem dX8_when_50 : decode cX8_when 50 = .ok (.ireturn, 1) := by decide +kernel
theorem dX8_set_0 : decode cX8_set 0 = .ok (.aload_n 0, 1) := by decide +kernel
theorem dX8_set_1 : decode cX8_set 1 = .ok (.aload_n 0, 1) := by decide +kernel
theorem dX8_set_2 : decode cX8_set 2 = .ok (.iload_n 1, 1) := by decide +kernel
theorem dX8_set_3 : decode cX8_set 3 = .ok (.invokevirtual 108, 3) := by decide +kernel
theorem dX8_set_6 : decode cX8_set 6 = .ok (.ifCond .eq 15, 3) := by decide +kernel
theorem dX8_set_9 : decode cX8_set 9 = .ok (.iload_n 2, 1) := by decide +kernel
theorem dX8_set_10 : decode cX8_set 10 = .ok (.ifCond .lt 11, 3) := by decide +kernel
theorem dX8_set_13 : decode cX8_set 13 = .ok (.iload_n 2, 1) := by decide +kernel
theorem dX8_set_14 : decode cX8_set 14 = .ok (.aload_n 0, 1) := by decide +kernel
theorem dX8_set_15 : decode cX8_set 15 = .ok (.getfield 101, 3) := by decide +kernel
theorem dX8_set_18 : decode cX8_set 18 = .ok (.if_icmp .le 7, 3) := by decide +kernel
theorem dX8_set_21 : decode cX8_set 21 = .ok (.iconst 1, 1) := by decide +kernel
theorem dX8_set_22 : decode cX8_set 22 = .ok (.goto 4, 3) := by decide +kernel
theorem dX8_set_25 : decode cX8_set 25 = .ok (.iconst 0, 1) := by decide +kernel
theorem dX8_set_26 : decode cX8_set 26 = .ok (.invokevirtual 112, 3) := by decide +kernel
theorem dX8_set_29 : decode cX8_set 29 = .ok (.ifCond .eq 7, 3) := by decide +kernel
theorem dX8_set_32 : decode cX8_set 32 = .ok (.iconst 0, 1) := by decide +kernel
theorem dX8_set_33 : decode cX8_set 33 = .ok (.goto 13, 3) := by decide +kernel
theorem dX8_set_36 : decode cX8_set 36 = .ok (.aload_n 0, 1) := by decide +kernel
theorem dX8_set_37 : decode cX8_set 37 = .ok (.bipush 8, 2) := by decide +kernel
theorem dX8_set_39 : decode cX8_set 39 = .ok (.lconst 0, 1) := by decide +kernel
theorem dX8_set_40 : decode cX8_set 40 = .ok (.iload_n 1, 1) := by decide +kernel
theorem dX8_set_41 : decode cX8_set 41 = .ok (.iload_n 2, 1) := by decide +kernel
theorem dX8_set_42 : decode cX8_set 42 = .ok (.iconst (-1), 1) := by decide +kernel
theorem dX8_set_43 : decode cX8_set 43 = .ok (.invokevirtual 104, 3) := by decide +kernel
theorem dX8_set_46 : decode cX8_set 46 = .ok (.ireturn, 1) := by decide +kernel
theorem dX8_fold_0 : decode cX8_fold 0 = .ok (.aload_n 0, 1) := by decide +kernel
theorem dX8_fold_1 : decode cX8_fold 1 = .ok (.aload_n 0, 1) := by decide +kernel
theorem dX8_fold_2 : decode cX8_fold 2 = .ok (.iload_n 2, 1) := by decide +kernel
theorem dX8_fold_3 : decode cX8_fold 3 = .ok (.invokevirtual 108, 3) := by decide +kernel
theorem dX8_fold_6 : decode cX8_fold 6 = .ok (.ifCond .eq 12, 3) := by decide +kernel
theorem dX8_fold_9 : decode cX8_fold 9 = .ok (.iload_n 1, 1) := by decide +kernel
theorem dX8_fold_10 : decode cX8_fold 10 = .ok (.ifCond .lt 8, 3) := by decide +kernel
theorem dX8_fold_13 : decode cX8_fold 13 = .ok (.iload_n 1, 1) := by decide +kernel
theorem dX8_fold_14 : decode cX8_fold 14 = .ok (.iconst 2, 1) := by decide +kernel
theorem dX8_fold_15 : decode cX8_fold 15 = .ok (.if_icmp .le 7, 3) := by decide +kernel
theorem dX8_fold_18 : decode cX8_fold 18 = .ok (.iconst 1, 1) := by decide +kernel
theorem dX8_fold_19 : decode cX8_fold 19 = .ok (.goto 4, 3) := by decide +kernel
theorem dX8_fold_22 : decode cX8_fold 22 = .ok (.iconst 0, 1) := by decide +kernel
theorem dX8_fold_23 : decode cX8_fold 23 = .ok (.invokevirtual 112, 3) := by decide +kernel
theorem dX8_fold_26 : decode cX8_fold 26 = .ok (.ifCond .eq 7, 3) := by decide +kernel
theorem dX8_fold_29 : decode cX8_fold 29 = .ok (.iconst 0, 1) := by decide +kernel
theorem dX8_fold_30 : decode cX8_fold 30 = .ok (.goto 13, 3) := by decide +kernel
theorem dX8_fold_33 : decode cX8_fold 33 = .ok (.aload_n 0, 1) := by decide +kernel
theorem dX8_fold_34 : decode cX8_fold 34 = .ok (.bipush 9, 2) := by decide +kernel
theorem dX8_fold_36 : decode cX8_fold 36 = .ok (.lconst 0, 1) := by decide +kernel
theorem dX8_fold_37 : decode cX8_fold 37 = .ok (.iload_n 2, 1) := by decide +kernel
theorem dX8_fold_38 : decode cX8_fold 38 = .ok (.iload_n 1, 1) := by decide +kernel
theorem dX8_fold_39 : decode cX8_fold 39 = .ok (.iconst (-1), 1) := by decide +kernel
theorem dX8_fold_40 : decode cX8_fold 40 = .ok (.invokevirtual 104, 3) := by decide +kernel
theorem dX8_fold_43 : decode cX8_fold 43 = .ok (.ireturn, 1) := by decide +kernel
theorem dX8_clear_0 : decode cX8_clear 0 = .ok (.aload_n 0, 1) := by decide +kernel
theorem dX8_clear_1 : decode cX8_clear 1 = .ok (.iconst 0, 1) := by decide +kernel
theorem dX8_clear_2 : decode cX8_clear 2 = .ok (.putfield 97, 3) := by decide +kernel
theorem dX8_clear_5 : decode cX8_clear 5 = .ok (.aload_n 0, 1) := by decide +kernel
theorem dX8_clear_6 : decode cX8_clear 6 = .ok (.getfield 101, 3) := by decide +kernel
theorem dX8_clear_9 : decode cX8_clear 9 = .ok (.istore_n 1, 1) := by decide +kernel
theorem dX8_clear_10 : decode cX8_clear 10 = .ok (.aload_n 0, 1) := by decide +kernel
theorem dX8_clear_11 : decode cX8_clear 11 = .ok (.iconst 0, 1) := by decide +kernel
theorem dX8_clear_12 : decode cX8_clear 12 = .ok (.putfield 101, 3) := by decide +kernel
theorem dX8_clear_15 : decode cX8_clear 15 = .ok (.aload_n 0, 1) := by decide +kernel
theorem dX8_clear_16 : decode cX8_clear 16 = .ok (.invokevirtual 116, 3) := by decide +kernel
theorem dX8_clear_19 : decode cX8_clear 19 = .ok (.iload_n 1, 1) := by decide +kernel
theorem dX8_clear_20 : decode cX8_clear 20 = .ok (.ireturn, 1) := by decide +kernel
theorem dX8_node_0 : decode cX8_node 0 = .ok (.aload_n 0, 1) := by decide +kernel
theorem dX8_node_1 : decode cX8_node 1 = .ok (.aload_n 0, 1) := by decide +kernel
theorem dX8_node_2 : decode cX8_node 2 = .ok (.iload_n 1, 1) := by decide +kernel
theorem dX8_node_3 : decode cX8_node 3 = .ok (.invokevirtual 108, 3) := by decide +kernel
theorem dX8_node_6 : decode cX8_node 6 = .ok (.ifCond .eq 12, 3) := by decide +kernel
theorem dX8_node_9 : decode cX8_node 9 = .ok (.iload_n 2, 1) := by decide +kernel
theorem dX8_node_10 : decode cX8_node 10 = .ok (.ifCond .lt 8, 3) := by decide +kernel
theorem dX8_node_13 : decode cX8_node 13 = .ok (.iload_n 2, 1) := by decide +kernel
theorem dX8_node_14 : decode cX8_node 14 = .ok (.iconst 3, 1) := by decide +kernel
theorem dX8_node_15 : decode cX8_node 15 = .ok (.if_icmp .le 7, 3) := by decide +kernel
theorem dX8_node_18 : decode cX8_node 18 = .ok (.iconst 1, 1) := by decide +kernel
theorem dX8_node_19 : decode cX8_node 19 = .ok (.goto 4, 3) := by decide +kernel
theorem dX8_node_22 : decode cX8_node 22 = .ok (.iconst 0, 1) := by decide +kernel
theorem dX8_node_23 : decode cX8_node 23 = .ok (.invokevirtual 112, 3) := by decide +kernel
theorem dX8_node_26 : decode cX8_node 26 = .ok (.ifCond .eq 5, 3) := by decide +kernel
theorem dX8_node_29 : decode cX8_node 29 = .ok (.iconst 0, 1) := by decide +kernel
theorem dX8_node_30 : decode cX8_node 30 = .ok (.ireturn, 1) := by decide +kernel
theorem dX8_node_31 : decode cX8_node 31 = .ok (.iload_n 2, 1) := by decide +kernel
theorem dX8_node_32 : decode cX8_node 32 = .ok (.ifCond .ne 12, 3) := by decide +kernel
theorem dX8_node_35 : decode cX8_node 35 = .ok (.aload_n 0, 1) := by decide +kernel
theorem dX8_node_36 : decode cX8_node 36 = .ok (.getfield 9, 3) := by decide +kernel
theorem dX8_node_39 : decode cX8_node 39 = .ok (.iload_n 1, 1) := by decide +kernel
theorem dX8_node_40 : decode cX8_node 40 = .ok (.iaload, 1) := by decide +kernel
theorem dX8_node_41 : decode cX8_node 41 = .ok (.goto 37, 3) := by decide +kernel
theorem dX8_node_44 : decode cX8_node 44 = .ok (.iload_n 2, 1) := by decide +kernel
theorem dX8_node_45 : decode cX8_node 45 = .ok (.iconst 1, 1) := by decide +kernel
theorem dX8_node_46 : decode cX8_node 46 = .ok (.if_icmp .ne 12, 3) := by decide +kernel
theorem dX8_node_49 : decode cX8_node 49 = .ok (.aload_n 0, 1) := by decide +kernel
theorem dX8_node_50 : decode cX8_node 50 = .ok (.getfield 17, 3) := by decide +kernel
theorem dX8_node_53 : decode cX8_node 53 = .ok (.iload_n 1, 1) := by decide +kernel
theorem dX8_node_54 : decode cX8_node 54 = .ok (.iaload, 1) := by decide +kernel
theorem dX8_node_55 : decode cX8_node 55 = .ok (.goto 23, 3) := by decide +kernel
theorem dX8_node_58 : decode cX8_node 58 = .ok (.iload_n 2, 1) := by decide +kernel
theorem dX8_node_59 : decode cX8_node 59 = .ok (.iconst 2, 1) := by decide +kernel
theorem dX8_node_60 : decode cX8_node 60 = .ok (.if_icmp .ne 12, 3) := by decide +kernel
theorem dX8_node_63 : decode cX8_node 63 = .ok (.aload_n 0, 1) := by decide +kernel
theorem dX8_node_64 : decode cX8_node 64 = .ok (.getfield 20, 3) := by decide +kernel
theorem dX8_node_67 : decode cX8_node 67 = .ok (.iload_n 1, 1) := by decide +kernel
theorem dX8_node_68 : decode cX8_node 68 = .ok (.iaload, 1) := by decide +kernel
theorem dX8_node_69 : decode cX8_node 69 = .ok (.goto 9, 3) := by decide +kernel
theorem dX8_node_72 : decode cX8_node 72 = .ok (.aload_n 0, 1) := by decide +kernel
theorem dX8_node_73 : decode cX8_node 73 = .ok (.getfield 23, 3) := by decide +kernel
theorem dX8_node_76 : decode cX8_node 76 = .ok (.iload_n 1, 1) := by decide +kernel
theorem dX8_node_77 : decode cX8_node 77 = .ok (.iaload, 1) := by decide +kernel
theorem dX8_node_78 : decode cX8_node 78 = .ok (.ireturn, 1) := by decide +kernel
theorem dX8_levelOf_0 : decode cX8_levelOf 0 = .ok (.aload_n 0, 1) := by decide +kernel
theorem dX8_levelOf_1 : decode cX8_levelOf 1 = .ok (.getfield 119, 3) := by decide +kernel
theorem dX8_levelOf_4 : decode cX8_levelOf 4 = .ok (.istore_n 2, 1) := by decide +kernel
theorem dX8_levelOf_5 : decode cX8_levelOf 5 = .ok (.iload_n 1, 1) := by decide +kernel
theorem dX8_levelOf_6 : decode cX8_levelOf 6 = .ok (.aload_n 0, 1) := by decide +kernel
theorem dX8_levelOf_7 : decode cX8_levelOf 7 = .ok (.getfield 26, 3) := by decide +kernel
theorem dX8_levelOf_10 : decode cX8_levelOf 10 = .ok (.iload_n 2, 1) := by decide +kernel
theorem dX8_levelOf_11 : decode cX8_levelOf 11 = .ok (.iaload, 1) := by decide +kernel
theorem dX8_levelOf_12 : decode cX8_levelOf 12 = .ok (.if_icmp .ge 9, 3) := by decide +kernel
theorem dX8_levelOf_15 : decode cX8_levelOf 15 = .ok (.iinc 2 (-1), 3) := by decide +kernel
theorem dX8_levelOf_18 : decode cX8_levelOf 18 = .ok (.goto (-13), 3) := by decide +kernel
theorem dX8_levelOf_21 : decode cX8_levelOf 21 = .ok (.iload_n 2, 1) := by decide +kernel
theorem dX8_levelOf_22 : decode cX8_levelOf 22 = .ok (.ireturn, 1) := by decide +kernel
theorem dX8_cellOf_0 : decode cX8_cellOf 0 = .ok (.bipush 60, 2) := by decide +kernel
theorem dX8_cellOf_2 : decode cX8_cellOf 2 = .ok (.aload_n 0, 1) := by decide +kernel
theorem dX8_cellOf_3 : decode cX8_cellOf 3 = .ok (.iload_n 1, 1) := by decide +kernel
theorem dX8_cellOf_4 : decode cX8_cellOf 4 = .ok (.invokevirtual 122, 3) := by decide +kernel
theorem dX8_cellOf_7 : decode cX8_cellOf 7 = .ok (.imul, 1) := by decide +kernel
theorem dX8_cellOf_8 : decode cX8_cellOf 8 = .ok (.iload_n 1, 1) := by decide +kernel
theorem dX8_cellOf_9 : decode cX8_cellOf 9 = .ok (.iadd, 1) := by decide +kernel
theorem dX8_cellOf_10 : decode cX8_cellOf 10 = .ok (.ireturn, 1) := by decide +kernel
theorem dX8_beginWay_0 : decode cX8_beginWay 0 = .ok (.iconst 0, 1) := by decide +kernel
theorem dX8_beginWay_1 : decode cX8_beginWay 1 = .ok (.istore_n 1, 1) := by decide +kernel
theorem dX8_beginWay_2 : decode cX8_beginWay 2 = .ok (.iload_n 1, 1) := by decide +kernel
theorem dX8_beginWay_3 : decode cX8_beginWay 3 = .ok (.bipush 60, 2) := by decide +kernel
theorem dX8_beginWay_5 : decode cX8_beginWay 5 = .ok (.if_icmp .ge 24, 3) := by decide +kernel
theorem dX8_beginWay_8 : decode cX8_beginWay 8 = .ok (.aload_n 0, 1) := by decide +kernel
theorem dX8_beginWay_9 : decode cX8_beginWay 9 = .ok (.getfield 29, 3) := by decide +kernel
theorem dX8_beginWay_12 : decode cX8_beginWay 12 = .ok (.bipush 60, 2) := by decide +kernel
theorem dX8_beginWay_14 : decode cX8_beginWay 14 = .ok (.aload_n 0, 1) := by decide +kernel
theorem dX8_beginWay_15 : decode cX8_beginWay 15 = .ok (.getfield 119, 3) := by decide +kernel
theorem dX8_beginWay_18 : decode cX8_beginWay 18 = .ok (.imul, 1) := by decide +kernel
theorem dX8_beginWay_19 : decode cX8_beginWay 19 = .ok (.iload_n 1, 1) := by decide +kernel
theorem dX8_beginWay_20 : decode cX8_beginWay 20 = .ok (.iadd, 1) := by decide +kernel
theorem dX8_beginWay_21 : decode cX8_beginWay 21 = .ok (.iconst 0, 1) := by decide +kernel
theorem dX8_beginWay_22 : decode cX8_beginWay 22 = .ok (.iastore, 1) := by decide +kernel
theorem dX8_beginWay_23 : decode cX8_beginWay 23 = .ok (.iinc 1 1, 3) := by decide +kernel
theorem dX8_beginWay_26 : decode cX8_beginWay 26 = .ok (.goto (-24), 3) := by decide +kernel
theorem dX8_beginWay_29 : decode cX8_beginWay 29 = .ok (.aload_n 0, 1) := by decide +kernel
theorem dX8_beginWay_30 : decode cX8_beginWay 30 = .ok (.getfield 53, 3) := by decide +kernel
theorem dX8_beginWay_33 : decode cX8_beginWay 33 = .ok (.aload_n 0, 1) := by decide +kernel
theorem dX8_beginWay_34 : decode cX8_beginWay 34 = .ok (.getfield 119, 3) := by decide +kernel
theorem dX8_beginWay_37 : decode cX8_beginWay 37 = .ok (.iconst 0, 1) := by decide +kernel
theorem dX8_beginWay_38 : decode cX8_beginWay 38 = .ok (.iastore, 1) := by decide +kernel
theorem dX8_beginWay_39 : decode cX8_beginWay 39 = .ok (.aload_n 0, 1) := by decide +kernel
theorem dX8_beginWay_40 : decode cX8_beginWay 40 = .ok (.getfield 62, 3) := by decide +kernel
theorem dX8_beginWay_43 : decode cX8_beginWay 43 = .ok (.aload_n 0, 1) := by decide +kernel
theorem dX8_beginWay_44 : decode cX8_beginWay 44 = .ok (.getfield 119, 3) := by decide +kernel
theorem dX8_beginWay_47 : decode cX8_beginWay 47 = .ok (.iconst 0, 1) := by decide +kernel
theorem dX8_beginWay_48 : decode cX8_beginWay 48 = .ok (.iastore, 1) := by decide +kernel
theorem dX8_beginWay_49 : decode cX8_beginWay 49 = .ok (.return_, 1) := by decide +kernel
theorem dX8_need_0 : decode cX8_need 0 = .ok (.aload_n 0, 1) := by decide +kernel
theorem dX8_need_1 : decode cX8_need 1 = .ok (.iload_n 1, 1) := by decide +kernel
theorem dX8_need_2 : decode cX8_need 2 = .ok (.invokevirtual 122, 3) := by decide +kernel
theorem dX8_need_5 : decode cX8_need 5 = .ok (.istore_n 2, 1) := by decide +kernel
theorem dX8_need_6 : decode cX8_need 6 = .ok (.aload_n 0, 1) := by decide +kernel
theorem dX8_need_7 : decode cX8_need 7 = .ok (.getfield 29, 3) := by decide +kernel
theorem dX8_need_10 : decode cX8_need 10 = .ok (.bipush 60, 2) := by decide +kernel
theorem dX8_need_12 : decode cX8_need 12 = .ok (.iload_n 2, 1) := by decide +kernel
theorem dX8_need_13 : decode cX8_need 13 = .ok (.imul, 1) := by decide +kernel
theorem dX8_need_14 : decode cX8_need 14 = .ok (.iload_n 1, 1) := by decide +kernel
theorem dX8_need_15 : decode cX8_need 15 = .ok (.iadd, 1) := by decide +kernel
theorem dX8_need_16 : decode cX8_need 16 = .ok (.iaload, 1) := by decide +kernel
theorem dX8_need_17 : decode cX8_need 17 = .ok (.ifCond .le 4, 3) := by decide +kernel
theorem dX8_need_20 : decode cX8_need 20 = .ok (.return_, 1) := by decide +kernel
theorem dX8_need_21 : decode cX8_need 21 = .ok (.iload_n 2, 1) := by decide +kernel
theorem dX8_need_22 : decode cX8_need 22 = .ok (.aload_n 0, 1) := by decide +kernel
theorem dX8_need_23 : decode cX8_need 23 = .ok (.getfield 119, 3) := by decide +kernel
theorem dX8_need_26 : decode cX8_need 26 = .ok (.if_icmp .ge 19, 3) := by decide +kernel
theorem dX8_need_29 : decode cX8_need 29 = .ok (.aload_n 0, 1) := by decide +kernel
theorem dX8_need_30 : decode cX8_need 30 = .ok (.iconst 4, 1) := by decide +kernel
theorem dX8_need_31 : decode cX8_need 31 = .ok (.putfield 126, 3) := by decide +kernel
theorem dX8_need_34 : decode cX8_need 34 = .ok (.aload_n 0, 1) := by decide +kernel
theorem dX8_need_35 : decode cX8_need 35 = .ok (.iload_n 1, 1) := by decide +kernel
theorem dX8_need_36 : decode cX8_need 36 = .ok (.putfield 129, 3) := by decide +kernel
theorem dX8_need_39 : decode cX8_need 39 = .ok (.aload_n 0, 1) := by decide +kernel
theorem dX8_need_40 : decode cX8_need 40 = .ok (.iload_n 2, 1) := by decide +kernel
theorem dX8_need_41 : decode cX8_need 41 = .ok (.putfield 132, 3) := by decide +kernel
theorem dX8_need_44 : decode cX8_need 44 = .ok (.return_, 1) := by decide +kernel
theorem dX8_need_45 : decode cX8_need 45 = .ok (.aload_n 0, 1) := by decide +kernel
theorem dX8_need_46 : decode cX8_need 46 = .ok (.getfield 135, 3) := by decide +kernel
theorem dX8_need_49 : decode cX8_need 49 = .ok (.sipush 2000, 3) := by decide +kernel
theorem dX8_need_52 : decode cX8_need 52 = .ok (.if_icmp .ne 9, 3) := by decide +kernel
theorem dX8_need_55 : decode cX8_need 55 = .ok (.aload_n 0, 1) := by decide +kernel
theorem dX8_need_56 : decode cX8_need 56 = .ok (.iconst 2, 1) := by decide +kernel
theorem dX8_need_57 : decode cX8_need 57 = .ok (.putfield 126, 3) := by decide +kernel
theorem dX8_need_60 : decode cX8_need 60 = .ok (.return_, 1) := by decide +kernel
theorem dX8_need_61 : decode cX8_need 61 = .ok (.aload_n 0, 1) := by decide +kernel
theorem dX8_need_62 : decode cX8_need 62 = .ok (.dup, 1) := by decide +kernel
theorem dX8_need_63 : decode cX8_need 63 = .ok (.getfield 135, 3) := by decide +kernel
theorem dX8_need_66 : decode cX8_need 66 = .ok (.iconst 1, 1) := by decide +kernel
theorem dX8_need_67 : decode cX8_need 67 = .ok (.iadd, 1) := by decide +kernel
theorem dX8_need_68 : decode cX8_need 68 = .ok (.putfield 135, 3) := by decide +kernel
theorem dX8_need_71 : decode cX8_need 71 = .ok (.aload_n 0, 1) := by decide +kernel
theorem dX8_need_72 : decode cX8_need 72 = .ok (.iload_n 1, 1) := by decide +kernel
theorem dX8_need_73 : decode cX8_need 73 = .ok (.invokevirtual 138, 3) := by decide +kernel
theorem dX8_need_76 : decode cX8_need 76 = .ok (.return_, 1) := by decide +kernel
theorem dX8_workOut_0 : decode cX8_workOut 0 = .ok (.bipush 60, 2) := by decide +kernel
theorem dX8_workOut_2 : decode cX8_workOut 2 = .ok (.aload_n 0, 1) := by decide +kernel
theorem dX8_workOut_3 : decode cX8_workOut 3 = .ok (.getfield 119, 3) := by decide +kernel
theorem dX8_workOut_6 : decode cX8_workOut 6 = .ok (.imul, 1) := by decide +kernel
theorem dX8_workOut_7 : decode cX8_workOut 7 = .ok (.iload_n 1, 1) := by decide +kernel
theorem dX8_workOut_8 : decode cX8_workOut 8 = .ok (.iadd, 1) := by decide +kernel
theorem dX8_workOut_9 : decode cX8_workOut 9 = .ok (.istore_n 2, 1) := by decide +kernel
theorem dX8_workOut_10 : decode cX8_workOut 10 = .ok (.aload_n 0, 1) := by decide +kernel
theorem dX8_workOut_11 : decode cX8_workOut 11 = .ok (.getfield 9, 3) := by decide +kernel
theorem dX8_workOut_14 : decode cX8_workOut 14 = .ok (.iload_n 1, 1) := by decide +kernel
theorem dX8_workOut_15 : decode cX8_workOut 15 = .ok (.iaload, 1) := by decide +kernel
theorem dX8_workOut_16 : decode cX8_workOut 16 = .ok (.tableswitch 265 0 8 #[52, 66, 75, 83, 117, 117, 186, 195, 256], 52) := by decide +kernel
theorem dX8_workOut_68 : decode cX8_workOut 68 = .ok (.aload_n 0, 1) := by decide +kernel
theorem dX8_workOut_69 : decode cX8_workOut 69 = .ok (.iload_n 2, 1) := by decide +kernel
theorem dX8_workOut_70 : decode cX8_workOut 70 = .ok (.aload_n 0, 1) := by decide +kernel
theorem dX8_workOut_71 : decode cX8_workOut 71 = .ok (.getfield 13, 3) := by decide +kernel
theorem dX8_workOut_74 : decode cX8_workOut 74 = .ok (.iload_n 1, 1) := by decide +kernel
theorem dX8_workOut_75 : decode cX8_workOut 75 = .ok (.laload, 1) := by decide +kernel
theorem dX8_workOut_76 : decode cX8_workOut 76 = .ok (.invokevirtual 142, 3) := by decide +kernel
theorem dX8_workOut_79 : decode cX8_workOut 79 = .ok (.goto 208, 3) := by decide +kernel
theorem dX8_workOut_82 : decode cX8_workOut 82 = .ok (.aload_n 0, 1) := by decide +kernel
theorem dX8_workOut_83 : decode cX8_workOut 83 = .ok (.iload_n 2, 1) := by decide +kernel
theorem dX8_workOut_84 : decode cX8_workOut 84 = .ok (.iload_n 1, 1) := by decide +kernel
theorem dX8_workOut_85 : decode cX8_workOut 85 = .ok (.invokevirtual 146, 3) := by decide +kernel
theorem dX8_workOut_88 : decode cX8_workOut 88 = .ok (.goto 199, 3) := by decide +kernel
theorem dX8_workOut_91 : decode cX8_workOut 91 = .ok (.aload_n 0, 1) := by decide +kernel
theorem dX8_workOut_92 : decode cX8_workOut 92 = .ok (.iconst 1, 1) := by decide +kernel
theorem dX8_workOut_93 : decode cX8_workOut 93 = .ok (.putfield 126, 3) := by decide +kernel
theorem dX8_workOut_96 : decode cX8_workOut 96 = .ok (.goto 191, 3) := by decide +kernel
theorem dX8_workOut_99 : decode cX8_workOut 99 = .ok (.aload_n 0, 1) := by decide +kernel
theorem dX8_workOut_100 : decode cX8_workOut 100 = .ok (.getfield 29, 3) := by decide +kernel
theorem dX8_workOut_103 : decode cX8_workOut 103 = .ok (.iload_n 2, 1) := by decide +kernel
theorem dX8_workOut_104 : decode cX8_workOut 104 = .ok (.iconst 2, 1) := by decide +kernel
theorem dX8_workOut_105 : decode cX8_workOut 105 = .ok (.iastore, 1) := by decide +kernel
theorem dX8_workOut_106 : decode cX8_workOut 106 = .ok (.aload_n 0, 1) := by decide +kernel
theorem dX8_workOut_107 : decode cX8_workOut 107 = .ok (.getfield 35, 3) := by decide +kernel
theorem dX8_workOut_110 : decode cX8_workOut 110 = .ok (.iload_n 2, 1) := by decide +kernel
theorem dX8_workOut_111 : decode cX8_workOut 111 = .ok (.aload_n 0, 1) := by decide +kernel
theorem dX8_workOut_112 : decode cX8_workOut 112 = .ok (.getfield 17, 3) := by decide +kernel
theorem dX8_workOut_115 : decode cX8_workOut 115 = .ok (.iload_n 1, 1) := by decide +kernel
theorem dX8_workOut_116 : decode cX8_workOut 116 = .ok (.iaload, 1) := by decide +kernel
theorem dX8_workOut_117 : decode cX8_workOut 117 = .ok (.iastore, 1) := by decide +kernel
theorem dX8_workOut_118 : decode cX8_workOut 118 = .ok (.aload_n 0, 1) := by decide +kernel
theorem dX8_workOut_119 : decode cX8_workOut 119 = .ok (.getfield 38, 3) := by decide +kernel
theorem dX8_workOut_122 : decode cX8_workOut 122 = .ok (.iload_n 2, 1) := by decide +kernel
theorem dX8_workOut_123 : decode cX8_workOut 123 = .ok (.aload_n 0, 1) := by decide +kernel
theorem dX8_workOut_124 : decode cX8_workOut 124 = .ok (.getfield 20, 3) := by decide +kernel
theorem dX8_workOut_127 : decode cX8_workOut 127 = .ok (.iload_n 1, 1) := by decide +kernel
theorem dX8_workOut_128 : decode cX8_workOut 128 = .ok (.iaload, 1) := by decide +kernel
theorem dX8_workOut_129 : decode cX8_workOut 129 = .ok (.iastore, 1) := by decide +kernel
theorem dX8_workOut_130 : decode cX8_workOut 130 = .ok (.goto 157, 3) := by decide +kernel
theorem dX8_workOut_133 : decode cX8_workOut 133 = .ok (.aload_n 0, 1) := by decide +kernel
theorem dX8_workOut_134 : decode cX8_workOut 134 = .ok (.aload_n 0, 1) := by decide +kernel
theorem dX8_workOut_135 : decode cX8_workOut 135 = .ok (.getfield 17, 3) := by decide +kernel
theorem dX8_workOut_138 : decode cX8_workOut 138 = .ok (.iload_n 1, 1) := by decide +kernel
theorem dX8_workOut_139 : decode cX8_workOut 139 = .ok (.iaload, 1) := by decide +kernel
theorem dX8_workOut_140 : decode cX8_workOut 140 = .ok (.iconst 2, 1) := by decide +kernel
theorem dX8_workOut_141 : decode cX8_workOut 141 = .ok (.invokevirtual 150, 3) := by decide +kernel
theorem dX8_workOut_144 : decode cX8_workOut 144 = .ok (.aload_n 0, 1) := by decide +kernel
theorem dX8_workOut_145 : decode cX8_workOut 145 = .ok (.getfield 126, 3) := by decide +kernel
theorem dX8_workOut_148 : decode cX8_workOut 148 = .ok (.ifCond .ne 139, 3) := by decide +kernel
theorem dX8_workOut_151 : decode cX8_workOut 151 = .ok (.aload_n 0, 1) := by decide +kernel
theorem dX8_workOut_152 : decode cX8_workOut 152 = .ok (.iload_n 2, 1) := by decide +kernel
theorem dX8_workOut_153 : decode cX8_workOut 153 = .ok (.aload_n 0, 1) := by decide +kernel
theorem dX8_workOut_154 : decode cX8_workOut 154 = .ok (.getfield 9, 3) := by decide +kernel
theorem dX8_workOut_157 : decode cX8_workOut 157 = .ok (.iload_n 1, 1) := by decide +kernel
theorem dX8_workOut_158 : decode cX8_workOut 158 = .ok (.iaload, 1) := by decide +kernel
theorem dX8_workOut_159 : decode cX8_workOut 159 = .ok (.iconst 4, 1) := by decide +kernel
theorem dX8_workOut_160 : decode cX8_workOut 160 = .ok (.if_icmp .ne 21, 3) := by decide +kernel
theorem dX8_workOut_163 : decode cX8_workOut 163 = .ok (.aload_n 0, 1) := by decide +kernel
theorem dX8_workOut_164 : decode cX8_workOut 164 = .ok (.getfield 35, 3) := by decide +kernel
theorem dX8_workOut_167 : decode cX8_workOut 167 = .ok (.aload_n 0, 1) := by decide +kernel
theorem dX8_workOut_168 : decode cX8_workOut 168 = .ok (.aload_n 0, 1) := by decide +kernel
theorem dX8_workOut_169 : decode cX8_workOut 169 = .ok (.getfield 17, 3) := by decide +kernel
theorem dX8_workOut_172 : decode cX8_workOut 172 = .ok (.iload_n 1, 1) := by decide +kernel
theorem dX8_workOut_173 : decode cX8_workOut 173 = .ok (.iaload, 1) := by decide +kernel
theorem dX8_workOut_174 : decode cX8_workOut 174 = .ok (.invokevirtual 153, 3) := by decide +kernel
theorem dX8_workOut_177 : decode cX8_workOut 177 = .ok (.iaload, 1) := by decide +kernel
theorem dX8_workOut_178 : decode cX8_workOut 178 = .ok (.goto 18, 3) := by decide +kernel
theorem dX8_workOut_181 : decode cX8_workOut 181 = .ok (.aload_n 0, 1) := by decide +kernel
theorem dX8_workOut_182 : decode cX8_workOut 182 = .ok (.getfield 38, 3) := by decide +kernel
theorem dX8_workOut_185 : decode cX8_workOut 185 = .ok (.aload_n 0, 1) := by decide +kernel
theorem dX8_workOut_186 : decode cX8_workOut 186 = .ok (.aload_n 0, 1) := by decide +kernel
theorem dX8_workOut_187 : decode cX8_workOut 187 = .ok (.getfield 17, 3) := by decide +kernel
theorem dX8_workOut_190 : decode cX8_workOut 190 = .ok (.iload_n 1, 1) := by decide +kernel
theorem dX8_workOut_191 : decode cX8_workOut 191 = .ok (.iaload, 1) := by decide +kernel
theorem dX8_workOut_192 : decode cX8_workOut 192 = .ok (.invokevirtual 153, 3) := by decide +kernel
theorem dX8_workOut_195 : decode cX8_workOut 195 = .ok (.iaload, 1) := by decide +kernel
theorem dX8_workOut_196 : decode cX8_workOut 196 = .ok (.invokevirtual 156, 3) := by decide +kernel
theorem dX8_workOut_199 : decode cX8_workOut 199 = .ok (.goto 88, 3) := by decide +kernel
theorem dX8_workOut_202 : decode cX8_workOut 202 = .ok (.aload_n 0, 1) := by decide +kernel
theorem dX8_workOut_203 : decode cX8_workOut 203 = .ok (.iload_n 2, 1) := by decide +kernel
theorem dX8_workOut_204 : decode cX8_workOut 204 = .ok (.iload_n 1, 1) := by decide +kernel
theorem dX8_workOut_205 : decode cX8_workOut 205 = .ok (.invokevirtual 159, 3) := by decide +kernel
theorem dX8_workOut_208 : decode cX8_workOut 208 = .ok (.goto 79, 3) := by decide +kernel
theorem dX8_workOut_211 : decode cX8_workOut 211 = .ok (.aload_n 0, 1) := by decide +kernel
theorem dX8_workOut_212 : decode cX8_workOut 212 = .ok (.aload_n 0, 1) := by decide +kernel
theorem dX8_workOut_213 : decode cX8_workOut 213 = .ok (.getfield 17, 3) := by decide +kernel
theorem dX8_workOut_216 : decode cX8_workOut 216 = .ok (.iload_n 1, 1) := by decide +kernel
theorem dX8_workOut_217 : decode cX8_workOut 217 = .ok (.iaload, 1) := by decide +kernel
theorem dX8_workOut_218 : decode cX8_workOut 218 = .ok (.iconst 1, 1) := by decide +kernel
theorem dX8_workOut_219 : decode cX8_workOut 219 = .ok (.invokevirtual 150, 3) := by decide +kernel
theorem dX8_workOut_222 : decode cX8_workOut 222 = .ok (.aload_n 0, 1) := by decide +kernel
theorem dX8_workOut_223 : decode cX8_workOut 223 = .ok (.getfield 126, 3) := by decide +kernel
theorem dX8_workOut_226 : decode cX8_workOut 226 = .ok (.ifCond .ne 61, 3) := by decide +kernel
theorem dX8_workOut_229 : decode cX8_workOut 229 = .ok (.aload_n 0, 1) := by decide +kernel
theorem dX8_workOut_230 : decode cX8_workOut 230 = .ok (.iload_n 2, 1) := by decide +kernel
theorem dX8_workOut_231 : decode cX8_workOut 231 = .ok (.aload_n 0, 1) := by decide +kernel
theorem dX8_workOut_232 : decode cX8_workOut 232 = .ok (.getfield 32, 3) := by decide +kernel
theorem dX8_workOut_235 : decode cX8_workOut 235 = .ok (.aload_n 0, 1) := by decide +kernel
theorem dX8_workOut_236 : decode cX8_workOut 236 = .ok (.aload_n 0, 1) := by decide +kernel
theorem dX8_workOut_237 : decode cX8_workOut 237 = .ok (.getfield 17, 3) := by decide +kernel
theorem dX8_workOut_240 : decode cX8_workOut 240 = .ok (.iload_n 1, 1) := by decide +kernel
theorem dX8_workOut_241 : decode cX8_workOut 241 = .ok (.iaload, 1) := by decide +kernel
theorem dX8_workOut_242 : decode cX8_workOut 242 = .ok (.invokevirtual 153, 3) := by decide +kernel
theorem dX8_workOut_245 : decode cX8_workOut 245 = .ok (.laload, 1) := by decide +kernel
theorem dX8_workOut_246 : decode cX8_workOut 246 = .ok (.lconst 0, 1) := by decide +kernel
theorem dX8_workOut_247 : decode cX8_workOut 247 = .ok (.lcmp, 1) := by decide +kernel
theorem dX8_workOut_248 : decode cX8_workOut 248 = .ok (.ifCond .eq 12, 3) := by decide +kernel
theorem dX8_workOut_251 : decode cX8_workOut 251 = .ok (.aload_n 0, 1) := by decide +kernel
theorem dX8_workOut_252 : decode cX8_workOut 252 = .ok (.getfield 20, 3) := by decide +kernel
theorem dX8_workOut_255 : decode cX8_workOut 255 = .ok (.iload_n 1, 1) := by decide +kernel
theorem dX8_workOut_256 : decode cX8_workOut 256 = .ok (.iaload, 1) := by decide +kernel
theorem dX8_workOut_257 : decode cX8_workOut 257 = .ok (.goto 9, 3) := by decide +kernel
theorem dX8_workOut_260 : decode cX8_workOut 260 = .ok (.aload_n 0, 1) := by decide +kernel
theorem dX8_workOut_261 : decode cX8_workOut 261 = .ok (.getfield 23, 3) := by decide +kernel
theorem dX8_workOut_264 : decode cX8_workOut 264 = .ok (.iload_n 1, 1) := by decide +kernel
theorem dX8_workOut_265 : decode cX8_workOut 265 = .ok (.iaload, 1) := by decide +kernel
theorem dX8_workOut_266 : decode cX8_workOut 266 = .ok (.invokevirtual 156, 3) := by decide +kernel
theorem dX8_workOut_269 : decode cX8_workOut 269 = .ok (.goto 18, 3) := by decide +kernel
theorem dX8_workOut_272 : decode cX8_workOut 272 = .ok (.aload_n 0, 1) := by decide +kernel
theorem dX8_workOut_273 : decode cX8_workOut 273 = .ok (.iload_n 2, 1) := by decide +kernel
theorem dX8_workOut_274 : decode cX8_workOut 274 = .ok (.iload_n 1, 1) := by decide +kernel
theorem dX8_workOut_275 : decode cX8_workOut 275 = .ok (.invokevirtual 162, 3) := by decide +kernel
theorem dX8_workOut_278 : decode cX8_workOut 278 = .ok (.goto 9, 3) := by decide +kernel
theorem dX8_workOut_281 : decode cX8_workOut 281 = .ok (.aload_n 0, 1) := by decide +kernel
theorem dX8_workOut_282 : decode cX8_workOut 282 = .ok (.iload_n 2, 1) := by decide +kernel
theorem dX8_workOut_283 : decode cX8_workOut 283 = .ok (.iload_n 1, 1) := by decide +kernel
theorem dX8_workOut_284 : decode cX8_workOut 284 = .ok (.invokevirtual 165, 3) := by decide +kernel
theorem dX8_workOut_287 : decode cX8_workOut 287 = .ok (.return_, 1) := by decide +kernel
theorem dX8_tell_0 : decode cX8_tell 0 = .ok (.aload_n 0, 1) := by decide +kernel
theorem dX8_tell_1 : decode cX8_tell 1 = .ok (.getfield 29, 3) := by decide +kernel
theorem dX8_tell_4 : decode cX8_tell 4 = .ok (.iload_n 1, 1) := by decide +kernel
theorem dX8_tell_5 : decode cX8_tell 5 = .ok (.iconst 1, 1) := by decide +kernel
theorem dX8_tell_6 : decode cX8_tell 6 = .ok (.iastore, 1) := by decide +kernel
theorem dX8_tell_7 : decode cX8_tell 7 = .ok (.aload_n 0, 1) := by decide +kernel
theorem dX8_tell_8 : decode cX8_tell 8 = .ok (.getfield 32, 3) := by decide +kernel
theorem dX8_tell_11 : decode cX8_tell 11 = .ok (.iload_n 1, 1) := by decide +kernel
theorem dX8_tell_12 : decode cX8_tell 12 = .ok (.lload_n 2, 1) := by decide +kernel
theorem dX8_tell_13 : decode cX8_tell 13 = .ok (.lastore, 1) := by decide +kernel
theorem dX8_tell_14 : decode cX8_tell 14 = .ok (.return_, 1) := by decide +kernel
theorem dX8_needAs_0 : decode cX8_needAs 0 = .ok (.aload_n 0, 1) := by decide +kernel
theorem dX8_needAs_1 : decode cX8_needAs 1 = .ok (.iload_n 1, 1) := by decide +kernel
theorem dX8_needAs_2 : decode cX8_needAs 2 = .ok (.invokevirtual 168, 3) := by decide +kernel
theorem dX8_needAs_5 : decode cX8_needAs 5 = .ok (.aload_n 0, 1) := by decide +kernel
theorem dX8_needAs_6 : decode cX8_needAs 6 = .ok (.getfield 126, 3) := by decide +kernel
theorem dX8_needAs_9 : decode cX8_needAs 9 = .ok (.ifCond .ne 22, 3) := by decide +kernel
theorem dX8_needAs_12 : decode cX8_needAs 12 = .ok (.aload_n 0, 1) := by decide +kernel
theorem dX8_needAs_13 : decode cX8_needAs 13 = .ok (.getfield 29, 3) := by decide +kernel
theorem dX8_needAs_16 : decode cX8_needAs 16 = .ok (.aload_n 0, 1) := by decide +kernel
theorem dX8_needAs_17 : decode cX8_needAs 17 = .ok (.iload_n 1, 1) := by decide +kernel
theorem dX8_needAs_18 : decode cX8_needAs 18 = .ok (.invokevirtual 153, 3) := by decide +kernel
theorem dX8_needAs_21 : decode cX8_needAs 21 = .ok (.iaload, 1) := by decide +kernel
theorem dX8_needAs_22 : decode cX8_needAs 22 = .ok (.iload_n 2, 1) := by decide +kernel
theorem dX8_needAs_23 : decode cX8_needAs 23 = .ok (.if_icmp .eq 8, 3) := by decide +kernel
theorem dX8_needAs_26 : decode cX8_needAs 26 = .ok (.aload_n 0, 1) := by decide +kernel
theorem dX8_needAs_27 : decode cX8_needAs 27 = .ok (.iconst 1, 1) := by decide +kernel
theorem dX8_needAs_28 : decode cX8_needAs 28 = .ok (.putfield 126, 3) := by decide +kernel
theorem dX8_needAs_31 : decode cX8_needAs 31 = .ok (.return_, 1) := by decide +kernel
theorem dX8_take_0 : decode cX8_take 0 = .ok (.aload_n 0, 1) := by decide +kernel
theorem dX8_take_1 : decode cX8_take 1 = .ok (.iload_n 2, 1) := by decide +kernel
theorem dX8_take_2 : decode cX8_take 2 = .ok (.invokevirtual 168, 3) := by decide +kernel
theorem dX8_take_5 : decode cX8_take 5 = .ok (.aload_n 0, 1) := by decide +kernel
theorem dX8_take_6 : decode cX8_take 6 = .ok (.getfield 126, 3) := by decide +kernel
theorem dX8_take_9 : decode cX8_take 9 = .ok (.ifCond .eq 4, 3) := by decide +kernel
theorem dX8_take_12 : decode cX8_take 12 = .ok (.return_, 1) := by decide +kernel
theorem dX8_take_13 : decode cX8_take 13 = .ok (.aload_n 0, 1) := by decide +kernel
theorem dX8_take_14 : decode cX8_take 14 = .ok (.iload_n 2, 1) := by decide +kernel
theorem dX8_take_15 : decode cX8_take 15 = .ok (.invokevirtual 153, 3) := by decide +kernel
theorem dX8_take_18 : decode cX8_take 18 = .ok (.istore_n 3, 1) := by decide +kernel
theorem dX8_take_19 : decode cX8_take 19 = .ok (.aload_n 0, 1) := by decide +kernel
theorem dX8_take_20 : decode cX8_take 20 = .ok (.getfield 29, 3) := by decide +kernel
theorem dX8_take_23 : decode cX8_take 23 = .ok (.iload_n 1, 1) := by decide +kernel
theorem dX8_take_24 : decode cX8_take 24 = .ok (.aload_n 0, 1) := by decide +kernel
theorem dX8_take_25 : decode cX8_take 25 = .ok (.getfield 29, 3) := by decide +kernel
theorem dX8_take_28 : decode cX8_take 28 = .ok (.iload_n 3, 1) := by decide +kernel
theorem dX8_take_29 : decode cX8_take 29 = .ok (.iaload, 1) := by decide +kernel
theorem dX8_take_30 : decode cX8_take 30 = .ok (.iastore, 1) := by decide +kernel
theorem dX8_take_31 : decode cX8_take 31 = .ok (.aload_n 0, 1) := by decide +kernel
theorem dX8_take_32 : decode cX8_take 32 = .ok (.getfield 32, 3) := by decide +kernel
theorem dX8_take_35 : decode cX8_take 35 = .ok (.iload_n 1, 1) := by decide +kernel
theorem dX8_take_36 : decode cX8_take 36 = .ok (.aload_n 0, 1) := by decide +kernel
theorem dX8_take_37 : decode cX8_take 37 = .ok (.getfield 32, 3) := by decide +kernel
theorem dX8_take_40 : decode cX8_take 40 = .ok (.iload_n 3, 1) := by decide +kernel
theorem dX8_take_41 : decode cX8_take 41 = .ok (.laload, 1) := by decide +kernel
theorem dX8_take_42 : decode cX8_take 42 = .ok (.lastore, 1) := by decide +kernel
theorem dX8_take_43 : decode cX8_take 43 = .ok (.aload_n 0, 1) := by decide +kernel
theorem dX8_take_44 : decode cX8_take 44 = .ok (.getfield 35, 3) := by decide +kernel
theorem dX8_take_47 : decode cX8_take 47 = .ok (.iload_n 1, 1) := by decide +kernel
theorem dX8_take_48 : decode cX8_take 48 = .ok (.aload_n 0, 1) := by decide +kernel
theorem dX8_take_49 : decode cX8_take 49 = .ok (.getfield 35, 3) := by decide +kernel
theorem dX8_take_52 : decode cX8_take 52 = .ok (.iload_n 3, 1) := by decide +kernel
theorem dX8_take_53 : decode cX8_take 53 = .ok (.iaload, 1) := by decide +kernel
theorem dX8_take_54 : decode cX8_take 54 = .ok (.iastore, 1) := by decide +kernel
theorem dX8_take_55 : decode cX8_take 55 = .ok (.aload_n 0, 1) := by decide +kernel
theorem dX8_take_56 : decode cX8_take 56 = .ok (.getfield 38, 3) := by decide +kernel
theorem dX8_take_59 : decode cX8_take 59 = .ok (.iload_n 1, 1) := by decide +kernel
theorem dX8_take_60 : decode cX8_take 60 = .ok (.aload_n 0, 1) := by decide +kernel
theorem dX8_take_61 : decode cX8_take 61 = .ok (.getfield 38, 3) := by decide +kernel
theorem dX8_take_64 : decode cX8_take 64 = .ok (.iload_n 3, 1) := by decide +kernel
theorem dX8_take_65 : decode cX8_take 65 = .ok (.iaload, 1) := by decide +kernel
theorem dX8_take_66 : decode cX8_take 66 = .ok (.iastore, 1) := by decide +kernel
theorem dX8_take_67 : decode cX8_take 67 = .ok (.return_, 1) := by decide +kernel
theorem dX8_choose_0 : decode cX8_choose 0 = .ok (.sipush 2001, 3) := by decide +kernel
theorem dX8_choose_3 : decode cX8_choose 3 = .ok (.aload_n 0, 1) := by decide +kernel
theorem dX8_choose_4 : decode cX8_choose 4 = .ok (.getfield 119, 3) := by decide +kernel
theorem dX8_choose_7 : decode cX8_choose 7 = .ok (.imul, 1) := by decide +kernel
theorem dX8_choose_8 : decode cX8_choose 8 = .ok (.aload_n 0, 1) := by decide +kernel
theorem dX8_choose_9 : decode cX8_choose 9 = .ok (.getfield 53, 3) := by decide +kernel
theorem dX8_choose_12 : decode cX8_choose 12 = .ok (.aload_n 0, 1) := by decide +kernel
theorem dX8_choose_13 : decode cX8_choose 13 = .ok (.getfield 119, 3) := by decide +kernel
theorem dX8_choose_16 : decode cX8_choose 16 = .ok (.iaload, 1) := by decide +kernel
theorem dX8_choose_17 : decode cX8_choose 17 = .ok (.iadd, 1) := by decide +kernel
theorem dX8_choose_18 : decode cX8_choose 18 = .ok (.istore_n 3, 1) := by decide +kernel
theorem dX8_choose_19 : decode cX8_choose 19 = .ok (.aload_n 0, 1) := by decide +kernel
theorem dX8_choose_20 : decode cX8_choose 20 = .ok (.getfield 53, 3) := by decide +kernel
theorem dX8_choose_23 : decode cX8_choose 23 = .ok (.aload_n 0, 1) := by decide +kernel
theorem dX8_choose_24 : decode cX8_choose 24 = .ok (.getfield 119, 3) := by decide +kernel
theorem dX8_choose_27 : decode cX8_choose 27 = .ok (.iaload, 1) := by decide +kernel
theorem dX8_choose_28 : decode cX8_choose 28 = .ok (.aload_n 0, 1) := by decide +kernel
theorem dX8_choose_29 : decode cX8_choose 29 = .ok (.getfield 50, 3) := by decide +kernel
theorem dX8_choose_32 : decode cX8_choose 32 = .ok (.aload_n 0, 1) := by decide +kernel
theorem dX8_choose_33 : decode cX8_choose 33 = .ok (.getfield 119, 3) := by decide +kernel
theorem dX8_choose_36 : decode cX8_choose 36 = .ok (.iaload, 1) := by decide +kernel
theorem dX8_choose_37 : decode cX8_choose 37 = .ok (.if_icmp .ne 36, 3) := by decide +kernel
theorem dX8_choose_40 : decode cX8_choose 40 = .ok (.aload_n 0, 1) := by decide +kernel
theorem dX8_choose_41 : decode cX8_choose 41 = .ok (.getfield 119, 3) := by decide +kernel
theorem dX8_choose_44 : decode cX8_choose 44 = .ok (.ifCond .ne 9, 3) := by decide +kernel
theorem dX8_choose_47 : decode cX8_choose 47 = .ok (.aload_n 0, 1) := by decide +kernel
theorem dX8_choose_48 : decode cX8_choose 48 = .ok (.iconst 3, 1) := by decide +kernel
theorem dX8_choose_49 : decode cX8_choose 49 = .ok (.putfield 126, 3) := by decide +kernel
theorem dX8_choose_52 : decode cX8_choose 52 = .ok (.return_, 1) := by decide +kernel
theorem dX8_choose_53 : decode cX8_choose 53 = .ok (.aload_n 0, 1) := by decide +kernel
theorem dX8_choose_54 : decode cX8_choose 54 = .ok (.getfield 47, 3) := by decide +kernel
theorem dX8_choose_57 : decode cX8_choose 57 = .ok (.iload_n 3, 1) := by decide +kernel
theorem dX8_choose_58 : decode cX8_choose 58 = .ok (.iconst 0, 1) := by decide +kernel
theorem dX8_choose_59 : decode cX8_choose 59 = .ok (.iastore, 1) := by decide +kernel
theorem dX8_choose_60 : decode cX8_choose 60 = .ok (.aload_n 0, 1) := by decide +kernel
theorem dX8_choose_61 : decode cX8_choose 61 = .ok (.getfield 50, 3) := by decide +kernel
theorem dX8_choose_64 : decode cX8_choose 64 = .ok (.aload_n 0, 1) := by decide +kernel
theorem dX8_choose_65 : decode cX8_choose 65 = .ok (.getfield 119, 3) := by decide +kernel
theorem dX8_choose_68 : decode cX8_choose 68 = .ok (.dup2, 1) := by decide +kernel
theorem dX8_choose_69 : decode cX8_choose 69 = .ok (.iaload, 1) := by decide +kernel
theorem dX8_choose_70 : decode cX8_choose 70 = .ok (.iconst 1, 1) := by decide +kernel
theorem dX8_choose_71 : decode cX8_choose 71 = .ok (.iadd, 1) := by decide +kernel
theorem dX8_choose_72 : decode cX8_choose 72 = .ok (.iastore, 1) := by decide +kernel
theorem dX8_choose_73 : decode cX8_choose 73 = .ok (.aload_n 0, 1) := by decide +kernel
theorem dX8_choose_74 : decode cX8_choose 74 = .ok (.getfield 53, 3) := by decide +kernel
theorem dX8_choose_77 : decode cX8_choose 77 = .ok (.aload_n 0, 1) := by decide +kernel
theorem dX8_choose_78 : decode cX8_choose 78 = .ok (.getfield 119, 3) := by decide +kernel
theorem dX8_choose_81 : decode cX8_choose 81 = .ok (.dup2, 1) := by decide +kernel
theorem dX8_choose_82 : decode cX8_choose 82 = .ok (.iaload, 1) := by decide +kernel
theorem dX8_choose_83 : decode cX8_choose 83 = .ok (.iconst 1, 1) := by decide +kernel
theorem dX8_choose_84 : decode cX8_choose 84 = .ok (.iadd, 1) := by decide +kernel
theorem dX8_choose_85 : decode cX8_choose 85 = .ok (.iastore, 1) := by decide +kernel
theorem dX8_choose_86 : decode cX8_choose 86 = .ok (.aload_n 0, 1) := by decide +kernel
theorem dX8_choose_87 : decode cX8_choose 87 = .ok (.iload_n 1, 1) := by decide +kernel
theorem dX8_choose_88 : decode cX8_choose 88 = .ok (.aload_n 0, 1) := by decide +kernel
theorem dX8_choose_89 : decode cX8_choose 89 = .ok (.getfield 47, 3) := by decide +kernel
theorem dX8_choose_92 : decode cX8_choose 92 = .ok (.iload_n 3, 1) := by decide +kernel
theorem dX8_choose_93 : decode cX8_choose 93 = .ok (.iaload, 1) := by decide +kernel
theorem dX8_choose_94 : decode cX8_choose 94 = .ok (.ifCond .ne 12, 3) := by decide +kernel
theorem dX8_choose_97 : decode cX8_choose 97 = .ok (.aload_n 0, 1) := by decide +kernel
theorem dX8_choose_98 : decode cX8_choose 98 = .ok (.getfield 17, 3) := by decide +kernel
theorem dX8_choose_101 : decode cX8_choose 101 = .ok (.iload_n 2, 1) := by decide +kernel
theorem dX8_choose_102 : decode cX8_choose 102 = .ok (.iaload, 1) := by decide +kernel
theorem dX8_choose_103 : decode cX8_choose 103 = .ok (.goto 9, 3) := by decide +kernel
theorem dX8_choose_106 : decode cX8_choose 106 = .ok (.aload_n 0, 1) := by decide +kernel
theorem dX8_choose_107 : decode cX8_choose 107 = .ok (.getfield 20, 3) := by decide +kernel
theorem dX8_choose_110 : decode cX8_choose 110 = .ok (.iload_n 2, 1) := by decide +kernel
theorem dX8_choose_111 : decode cX8_choose 111 = .ok (.iaload, 1) := by decide +kernel
theorem dX8_choose_112 : decode cX8_choose 112 = .ok (.invokevirtual 156, 3) := by decide +kernel
theorem dX8_choose_115 : decode cX8_choose 115 = .ok (.return_, 1) := by decide +kernel
theorem dX8_reckon_0 : decode cX8_reckon 0 = .ok (.aload_n 0, 1) := by decide +kernel
theorem dX8_reckon_1 : decode cX8_reckon 1 = .ok (.aload_n 0, 1) := by decide +kernel
theorem dX8_reckon_2 : decode cX8_reckon 2 = .ok (.getfield 17, 3) := by decide +kernel
theorem dX8_reckon_5 : decode cX8_reckon 5 = .ok (.iload_n 2, 1) := by decide +kernel
theorem dX8_reckon_6 : decode cX8_reckon 6 = .ok (.iaload, 1) := by decide +kernel
theorem dX8_reckon_7 : decode cX8_reckon 7 = .ok (.iconst 1, 1) := by decide +kernel
theorem dX8_reckon_8 : decode cX8_reckon 8 = .ok (.invokevirtual 150, 3) := by decide +kernel
theorem dX8_reckon_11 : decode cX8_reckon 11 = .ok (.aload_n 0, 1) := by decide +kernel
theorem dX8_reckon_12 : decode cX8_reckon 12 = .ok (.getfield 126, 3) := by decide +kernel
theorem dX8_reckon_15 : decode cX8_reckon 15 = .ok (.ifCond .ne 14, 3) := by decide +kernel
theorem dX8_reckon_18 : decode cX8_reckon 18 = .ok (.aload_n 0, 1) := by decide +kernel
theorem dX8_reckon_19 : decode cX8_reckon 19 = .ok (.aload_n 0, 1) := by decide +kernel
theorem dX8_reckon_20 : decode cX8_reckon 20 = .ok (.getfield 20, 3) := by decide +kernel
theorem dX8_reckon_23 : decode cX8_reckon 23 = .ok (.iload_n 2, 1) := by decide +kernel
theorem dX8_reckon_24 : decode cX8_reckon 24 = .ok (.iaload, 1) := by decide +kernel
theorem dX8_reckon_25 : decode cX8_reckon 25 = .ok (.iconst 1, 1) := by decide +kernel
theorem dX8_reckon_26 : decode cX8_reckon 26 = .ok (.invokevirtual 150, 3) := by decide +kernel
theorem dX8_reckon_29 : decode cX8_reckon 29 = .ok (.aload_n 0, 1) := by decide +kernel
theorem dX8_reckon_30 : decode cX8_reckon 30 = .ok (.getfield 126, 3) := by decide +kernel
theorem dX8_reckon_33 : decode cX8_reckon 33 = .ok (.ifCond .eq 4, 3) := by decide +kernel
theorem dX8_reckon_36 : decode cX8_reckon 36 = .ok (.return_, 1) := by decide +kernel
theorem dX8_reckon_37 : decode cX8_reckon 37 = .ok (.aload_n 0, 1) := by decide +kernel
theorem dX8_reckon_38 : decode cX8_reckon 38 = .ok (.getfield 32, 3) := by decide +kernel
theorem dX8_reckon_41 : decode cX8_reckon 41 = .ok (.aload_n 0, 1) := by decide +kernel
theorem dX8_reckon_42 : decode cX8_reckon 42 = .ok (.aload_n 0, 1) := by decide +kernel
theorem dX8_reckon_43 : decode cX8_reckon 43 = .ok (.getfield 17, 3) := by decide +kernel
theorem dX8_reckon_46 : decode cX8_reckon 46 = .ok (.iload_n 2, 1) := by decide +kernel
theorem dX8_reckon_47 : decode cX8_reckon 47 = .ok (.iaload, 1) := by decide +kernel
theorem dX8_reckon_48 : decode cX8_reckon 48 = .ok (.invokevirtual 153, 3) := by decide +kernel
theorem dX8_reckon_51 : decode cX8_reckon 51 = .ok (.laload, 1) := by decide +kernel
theorem dX8_reckon_52 : decode cX8_reckon 52 = .ok (.lstore_n 3, 1) := by decide +kernel
theorem dX8_reckon_53 : decode cX8_reckon 53 = .ok (.aload_n 0, 1) := by decide +kernel
theorem dX8_reckon_54 : decode cX8_reckon 54 = .ok (.getfield 32, 3) := by decide +kernel
theorem dX8_reckon_57 : decode cX8_reckon 57 = .ok (.aload_n 0, 1) := by decide +kernel
theorem dX8_reckon_58 : decode cX8_reckon 58 = .ok (.aload_n 0, 1) := by decide +kernel
theorem dX8_reckon_59 : decode cX8_reckon 59 = .ok (.getfield 20, 3) := by decide +kernel
theorem dX8_reckon_62 : decode cX8_reckon 62 = .ok (.iload_n 2, 1) := by decide +kernel
theorem dX8_reckon_63 : decode cX8_reckon 63 = .ok (.iaload, 1) := by decide +kernel
theorem dX8_reckon_64 : decode cX8_reckon 64 = .ok (.invokevirtual 153, 3) := by decide +kernel
theorem dX8_reckon_67 : decode cX8_reckon 67 = .ok (.laload, 1) := by decide +kernel
theorem dX8_reckon_68 : decode cX8_reckon 68 = .ok (.lstore 5, 2) := by decide +kernel
theorem dX8_reckon_70 : decode cX8_reckon 70 = .ok (.aload_n 0, 1) := by decide +kernel
theorem dX8_reckon_71 : decode cX8_reckon 71 = .ok (.getfield 23, 3) := by decide +kernel
theorem dX8_reckon_74 : decode cX8_reckon 74 = .ok (.iload_n 2, 1) := by decide +kernel
theorem dX8_reckon_75 : decode cX8_reckon 75 = .ok (.iaload, 1) := by decide +kernel
theorem dX8_reckon_76 : decode cX8_reckon 76 = .ok (.tableswitch 119 0 4 #[36, 48, 60, 72, 99], 36) := by decide +kernel
theorem dX8_reckon_112 : decode cX8_reckon 112 = .ok (.aload_n 0, 1) := by decide +kernel
theorem dX8_reckon_113 : decode cX8_reckon 113 = .ok (.iload_n 1, 1) := by decide +kernel
theorem dX8_reckon_114 : decode cX8_reckon 114 = .ok (.lload_n 3, 1) := by decide +kernel
theorem dX8_reckon_115 : decode cX8_reckon 115 = .ok (.lload 5, 2) := by decide +kernel
theorem dX8_reckon_117 : decode cX8_reckon 117 = .ok (.ladd, 1) := by decide +kernel
theorem dX8_reckon_118 : decode cX8_reckon 118 = .ok (.invokevirtual 142, 3) := by decide +kernel
theorem dX8_reckon_121 : decode cX8_reckon 121 = .ok (.goto 91, 3) := by decide +kernel
theorem dX8_reckon_124 : decode cX8_reckon 124 = .ok (.aload_n 0, 1) := by decide +kernel
theorem dX8_reckon_125 : decode cX8_reckon 125 = .ok (.iload_n 1, 1) := by decide +kernel
theorem dX8_reckon_126 : decode cX8_reckon 126 = .ok (.lload_n 3, 1) := by decide +kernel
theorem dX8_reckon_127 : decode cX8_reckon 127 = .ok (.lload 5, 2) := by decide +kernel
theorem dX8_reckon_129 : decode cX8_reckon 129 = .ok (.lsub, 1) := by decide +kernel
theorem dX8_reckon_130 : decode cX8_reckon 130 = .ok (.invokevirtual 142, 3) := by decide +kernel
theorem dX8_reckon_133 : decode cX8_reckon 133 = .ok (.goto 79, 3) := by decide +kernel
theorem dX8_reckon_136 : decode cX8_reckon 136 = .ok (.aload_n 0, 1) := by decide +kernel
theorem dX8_reckon_137 : decode cX8_reckon 137 = .ok (.iload_n 1, 1) := by decide +kernel
theorem dX8_reckon_138 : decode cX8_reckon 138 = .ok (.lload_n 3, 1) := by decide +kernel
theorem dX8_reckon_139 : decode cX8_reckon 139 = .ok (.lload 5, 2) := by decide +kernel
theorem dX8_reckon_141 : decode cX8_reckon 141 = .ok (.lmul, 1) := by decide +kernel
theorem dX8_reckon_142 : decode cX8_reckon 142 = .ok (.invokevirtual 142, 3) := by decide +kernel
theorem dX8_reckon_145 : decode cX8_reckon 145 = .ok (.goto 67, 3) := by decide +kernel
theorem dX8_reckon_148 : decode cX8_reckon 148 = .ok (.lload 5, 2) := by decide +kernel
theorem dX8_reckon_150 : decode cX8_reckon 150 = .ok (.lconst 0, 1) := by decide +kernel
theorem dX8_reckon_151 : decode cX8_reckon 151 = .ok (.lcmp, 1) := by decide +kernel
theorem dX8_reckon_152 : decode cX8_reckon 152 = .ok (.ifCond .ne 11, 3) := by decide +kernel
theorem dX8_reckon_155 : decode cX8_reckon 155 = .ok (.aload_n 0, 1) := by decide +kernel
theorem dX8_reckon_156 : decode cX8_reckon 156 = .ok (.iconst 1, 1) := by decide +kernel
theorem dX8_reckon_157 : decode cX8_reckon 157 = .ok (.putfield 126, 3) := by decide +kernel
theorem dX8_reckon_160 : decode cX8_reckon 160 = .ok (.goto 52, 3) := by decide +kernel
theorem dX8_reckon_163 : decode cX8_reckon 163 = .ok (.aload_n 0, 1) := by decide +kernel
theorem dX8_reckon_164 : decode cX8_reckon 164 = .ok (.iload_n 1, 1) := by decide +kernel
theorem dX8_reckon_165 : decode cX8_reckon 165 = .ok (.lload_n 3, 1) := by decide +kernel
theorem dX8_reckon_166 : decode cX8_reckon 166 = .ok (.lload 5, 2) := by decide +kernel
theorem dX8_reckon_168 : decode cX8_reckon 168 = .ok (.ldiv, 1) := by decide +kernel
theorem dX8_reckon_169 : decode cX8_reckon 169 = .ok (.invokevirtual 142, 3) := by decide +kernel
theorem dX8_reckon_172 : decode cX8_reckon 172 = .ok (.goto 40, 3) := by decide +kernel
theorem dX8_reckon_175 : decode cX8_reckon 175 = .ok (.aload_n 0, 1) := by decide +kernel
theorem dX8_reckon_176 : decode cX8_reckon 176 = .ok (.iload_n 1, 1) := by decide +kernel
theorem dX8_reckon_177 : decode cX8_reckon 177 = .ok (.lload_n 3, 1) := by decide +kernel
theorem dX8_reckon_178 : decode cX8_reckon 178 = .ok (.lload 5, 2) := by decide +kernel
theorem dX8_reckon_180 : decode cX8_reckon 180 = .ok (.lcmp, 1) := by decide +kernel
theorem dX8_reckon_181 : decode cX8_reckon 181 = .ok (.ifCond .ge 7, 3) := by decide +kernel
theorem dX8_reckon_184 : decode cX8_reckon 184 = .ok (.lconst 1, 1) := by decide +kernel
theorem dX8_reckon_185 : decode cX8_reckon 185 = .ok (.goto 4, 3) := by decide +kernel
theorem dX8_reckon_188 : decode cX8_reckon 188 = .ok (.lconst 0, 1) := by decide +kernel
theorem dX8_reckon_189 : decode cX8_reckon 189 = .ok (.invokevirtual 142, 3) := by decide +kernel
theorem dX8_reckon_192 : decode cX8_reckon 192 = .ok (.goto 20, 3) := by decide +kernel
theorem dX8_reckon_195 : decode cX8_reckon 195 = .ok (.aload_n 0, 1) := by decide +kernel
theorem dX8_reckon_196 : decode cX8_reckon 196 = .ok (.iload_n 1, 1) := by decide +kernel
theorem dX8_reckon_197 : decode cX8_reckon 197 = .ok (.lload_n 3, 1) := by decide +kernel
theorem dX8_reckon_198 : decode cX8_reckon 198 = .ok (.lload 5, 2) := by decide +kernel
theorem dX8_reckon_200 : decode cX8_reckon 200 = .ok (.lcmp, 1) := by decide +kernel
theorem dX8_reckon_201 : decode cX8_reckon 201 = .ok (.ifCond .ne 7, 3) := by decide +kernel
theorem dX8_reckon_204 : decode cX8_reckon 204 = .ok (.lconst 1, 1) := by decide +kernel
theorem dX8_reckon_205 : decode cX8_reckon 205 = .ok (.goto 4, 3) := by decide +kernel
theorem dX8_reckon_208 : decode cX8_reckon 208 = .ok (.lconst 0, 1) := by decide +kernel
theorem dX8_reckon_209 : decode cX8_reckon 209 = .ok (.invokevirtual 142, 3) := by decide +kernel
theorem dX8_reckon_212 : decode cX8_reckon 212 = .ok (.return_, 1) := by decide +kernel
theorem dX8_foldUp_0 : decode cX8_foldUp 0 = .ok (.aload_n 0, 1) := by decide +kernel
theorem dX8_foldUp_1 : decode cX8_foldUp 1 = .ok (.aload_n 0, 1) := by decide +kernel
theorem dX8_foldUp_2 : decode cX8_foldUp 2 = .ok (.getfield 17, 3) := by decide +kernel
theorem dX8_foldUp_5 : decode cX8_foldUp 5 = .ok (.iload_n 2, 1) := by decide +kernel
theorem dX8_foldUp_6 : decode cX8_foldUp 6 = .ok (.iaload, 1) := by decide +kernel
theorem dX8_foldUp_7 : decode cX8_foldUp 7 = .ok (.iconst 3, 1) := by decide +kernel
theorem dX8_foldUp_8 : decode cX8_foldUp 8 = .ok (.invokevirtual 150, 3) := by decide +kernel
theorem dX8_foldUp_11 : decode cX8_foldUp 11 = .ok (.aload_n 0, 1) := by decide +kernel
theorem dX8_foldUp_12 : decode cX8_foldUp 12 = .ok (.getfield 126, 3) := by decide +kernel
theorem dX8_foldUp_15 : decode cX8_foldUp 15 = .ok (.ifCond .eq 4, 3) := by decide +kernel
theorem dX8_foldUp_18 : decode cX8_foldUp 18 = .ok (.return_, 1) := by decide +kernel
theorem dX8_foldUp_19 : decode cX8_foldUp 19 = .ok (.aload_n 0, 1) := by decide +kernel
theorem dX8_foldUp_20 : decode cX8_foldUp 20 = .ok (.getfield 32, 3) := by decide +kernel
theorem dX8_foldUp_23 : decode cX8_foldUp 23 = .ok (.aload_n 0, 1) := by decide +kernel
theorem dX8_foldUp_24 : decode cX8_foldUp 24 = .ok (.aload_n 0, 1) := by decide +kernel
theorem dX8_foldUp_25 : decode cX8_foldUp 25 = .ok (.getfield 17, 3) := by decide +kernel
theorem dX8_foldUp_28 : decode cX8_foldUp 28 = .ok (.iload_n 2, 1) := by decide +kernel
theorem dX8_foldUp_29 : decode cX8_foldUp 29 = .ok (.iaload, 1) := by decide +kernel
theorem dX8_foldUp_30 : decode cX8_foldUp 30 = .ok (.invokevirtual 153, 3) := by decide +kernel
theorem dX8_foldUp_33 : decode cX8_foldUp 33 = .ok (.laload, 1) := by decide +kernel
theorem dX8_foldUp_34 : decode cX8_foldUp 34 = .ok (.l2i, 1) := by decide +kernel
theorem dX8_foldUp_35 : decode cX8_foldUp 35 = .ok (.istore_n 3, 1) := by decide +kernel
theorem dX8_foldUp_36 : decode cX8_foldUp 36 = .ok (.aload_n 0, 1) := by decide +kernel
theorem dX8_foldUp_37 : decode cX8_foldUp 37 = .ok (.getfield 44, 3) := by decide +kernel
theorem dX8_foldUp_40 : decode cX8_foldUp 40 = .ok (.iload_n 3, 1) := by decide +kernel
theorem dX8_foldUp_41 : decode cX8_foldUp 41 = .ok (.laload, 1) := by decide +kernel
theorem dX8_foldUp_42 : decode cX8_foldUp 42 = .ok (.lstore 4, 2) := by decide +kernel
theorem dX8_foldUp_44 : decode cX8_foldUp 44 = .ok (.aload_n 0, 1) := by decide +kernel
theorem dX8_foldUp_45 : decode cX8_foldUp 45 = .ok (.getfield 20, 3) := by decide +kernel
theorem dX8_foldUp_48 : decode cX8_foldUp 48 = .ok (.iload_n 2, 1) := by decide +kernel
theorem dX8_foldUp_49 : decode cX8_foldUp 49 = .ok (.iaload, 1) := by decide +kernel
theorem dX8_foldUp_50 : decode cX8_foldUp 50 = .ok (.ifCond .ne 11, 3) := by decide +kernel
theorem dX8_foldUp_53 : decode cX8_foldUp 53 = .ok (.aload_n 0, 1) := by decide +kernel
theorem dX8_foldUp_54 : decode cX8_foldUp 54 = .ok (.iload_n 1, 1) := by decide +kernel
theorem dX8_foldUp_55 : decode cX8_foldUp 55 = .ok (.lload 4, 2) := by decide +kernel
theorem dX8_foldUp_57 : decode cX8_foldUp 57 = .ok (.invokevirtual 142, 3) := by decide +kernel
theorem dX8_foldUp_60 : decode cX8_foldUp 60 = .ok (.return_, 1) := by decide +kernel
theorem dX8_foldUp_61 : decode cX8_foldUp 61 = .ok (.aload_n 0, 1) := by decide +kernel
theorem dX8_foldUp_62 : decode cX8_foldUp 62 = .ok (.getfield 20, 3) := by decide +kernel
theorem dX8_foldUp_65 : decode cX8_foldUp 65 = .ok (.iload_n 2, 1) := by decide +kernel
theorem dX8_foldUp_66 : decode cX8_foldUp 66 = .ok (.iaload, 1) := by decide +kernel
theorem dX8_foldUp_67 : decode cX8_foldUp 67 = .ok (.iconst 1, 1) := by decide +kernel
theorem dX8_foldUp_68 : decode cX8_foldUp 68 = .ok (.if_icmp .eq 10, 3) := by decide +kernel
theorem dX8_foldUp_71 : decode cX8_foldUp 71 = .ok (.lload 4, 2) := by decide +kernel
theorem dX8_foldUp_73 : decode cX8_foldUp 73 = .ok (.lconst 0, 1) := by decide +kernel
theorem dX8_foldUp_74 : decode cX8_foldUp 74 = .ok (.lcmp, 1) := by decide +kernel
theorem dX8_foldUp_75 : decode cX8_foldUp 75 = .ok (.ifCond .le 7, 3) := by decide +kernel
theorem dX8_foldUp_78 : decode cX8_foldUp 78 = .ok (.iconst 1, 1) := by decide +kernel
theorem dX8_foldUp_79 : decode cX8_foldUp 79 = .ok (.goto 4, 3) := by decide +kernel
theorem dX8_foldUp_82 : decode cX8_foldUp 82 = .ok (.iconst 0, 1) := by decide +kernel
theorem dX8_foldUp_83 : decode cX8_foldUp 83 = .ok (.istore 6, 2) := by decide +kernel
theorem dX8_foldUp_85 : decode cX8_foldUp 85 = .ok (.lconst 0, 1) := by decide +kernel
theorem dX8_foldUp_86 : decode cX8_foldUp 86 = .ok (.lstore 7, 2) := by decide +kernel
theorem dX8_foldUp_88 : decode cX8_foldUp 88 = .ok (.iconst 1, 1) := by decide +kernel
theorem dX8_foldUp_89 : decode cX8_foldUp 89 = .ok (.istore 9, 2) := by decide +kernel
theorem dX8_foldUp_91 : decode cX8_foldUp 91 = .ok (.iload 9, 2) := by decide +kernel
theorem dX8_foldUp_93 : decode cX8_foldUp 93 = .ok (.i2l, 1) := by decide +kernel
theorem dX8_foldUp_94 : decode cX8_foldUp 94 = .ok (.lload 4, 2) := by decide +kernel
theorem dX8_foldUp_96 : decode cX8_foldUp 96 = .ok (.lcmp, 1) := by decide +kernel
theorem dX8_foldUp_97 : decode cX8_foldUp 97 = .ok (.ifCond .gt 95, 3) := by decide +kernel
theorem dX8_foldUp_100 : decode cX8_foldUp 100 = .ok (.iload 6, 2) := by decide +kernel
theorem dX8_foldUp_102 : decode cX8_foldUp 102 = .ok (.ifCond .eq 90, 3) := by decide +kernel
theorem dX8_foldUp_105 : decode cX8_foldUp 105 = .ok (.aload_n 0, 1) := by decide +kernel
theorem dX8_foldUp_106 : decode cX8_foldUp 106 = .ok (.getfield 41, 3) := by decide +kernel
theorem dX8_foldUp_109 : decode cX8_foldUp 109 = .ok (.iload_n 3, 1) := by decide +kernel
theorem dX8_foldUp_110 : decode cX8_foldUp 110 = .ok (.iload 9, 2) := by decide +kernel
theorem dX8_foldUp_112 : decode cX8_foldUp 112 = .ok (.iadd, 1) := by decide +kernel
theorem dX8_foldUp_113 : decode cX8_foldUp 113 = .ok (.iaload, 1) := by decide +kernel
theorem dX8_foldUp_114 : decode cX8_foldUp 114 = .ok (.ifCond .ne 7, 3) := by decide +kernel
theorem dX8_foldUp_117 : decode cX8_foldUp 117 = .ok (.iconst 1, 1) := by decide +kernel
theorem dX8_foldUp_118 : decode cX8_foldUp 118 = .ok (.goto 4, 3) := by decide +kernel
theorem dX8_foldUp_121 : decode cX8_foldUp 121 = .ok (.iconst 0, 1) := by decide +kernel
theorem dX8_foldUp_122 : decode cX8_foldUp 122 = .ok (.istore 6, 2) := by decide +kernel
theorem dX8_foldUp_124 : decode cX8_foldUp 124 = .ok (.aload_n 0, 1) := by decide +kernel
theorem dX8_foldUp_125 : decode cX8_foldUp 125 = .ok (.getfield 20, 3) := by decide +kernel
theorem dX8_foldUp_128 : decode cX8_foldUp 128 = .ok (.iload_n 2, 1) := by decide +kernel
theorem dX8_foldUp_129 : decode cX8_foldUp 129 = .ok (.iaload, 1) := by decide +kernel
theorem dX8_foldUp_130 : decode cX8_foldUp 130 = .ok (.iconst 1, 1) := by decide +kernel
theorem dX8_foldUp_131 : decode cX8_foldUp 131 = .ok (.if_icmp .ne 18, 3) := by decide +kernel
theorem dX8_foldUp_134 : decode cX8_foldUp 134 = .ok (.lload 7, 2) := by decide +kernel
theorem dX8_foldUp_136 : decode cX8_foldUp 136 = .ok (.aload_n 0, 1) := by decide +kernel
theorem dX8_foldUp_137 : decode cX8_foldUp 137 = .ok (.getfield 44, 3) := by decide +kernel
theorem dX8_foldUp_140 : decode cX8_foldUp 140 = .ok (.iload_n 3, 1) := by decide +kernel
theorem dX8_foldUp_141 : decode cX8_foldUp 141 = .ok (.iload 9, 2) := by decide +kernel
theorem dX8_foldUp_143 : decode cX8_foldUp 143 = .ok (.iadd, 1) := by decide +kernel
theorem dX8_foldUp_144 : decode cX8_foldUp 144 = .ok (.laload, 1) := by decide +kernel
theorem dX8_foldUp_145 : decode cX8_foldUp 145 = .ok (.ladd, 1) := by decide +kernel
theorem dX8_foldUp_146 : decode cX8_foldUp 146 = .ok (.goto 38, 3) := by decide +kernel
theorem dX8_foldUp_149 : decode cX8_foldUp 149 = .ok (.iload 9, 2) := by decide +kernel
theorem dX8_foldUp_151 : decode cX8_foldUp 151 = .ok (.iconst 1, 1) := by decide +kernel
theorem dX8_foldUp_152 : decode cX8_foldUp 152 = .ok (.if_icmp .eq 18, 3) := by decide +kernel
theorem dX8_foldUp_155 : decode cX8_foldUp 155 = .ok (.aload_n 0, 1) := by decide +kernel
theorem dX8_foldUp_156 : decode cX8_foldUp 156 = .ok (.getfield 44, 3) := by decide +kernel
theorem dX8_foldUp_159 : decode cX8_foldUp 159 = .ok (.iload_n 3, 1) := by decide +kernel
theorem dX8_foldUp_160 : decode cX8_foldUp 160 = .ok (.iload 9, 2) := by decide +kernel
theorem dX8_foldUp_162 : decode cX8_foldUp 162 = .ok (.iadd, 1) := by decide +kernel
theorem dX8_foldUp_163 : decode cX8_foldUp 163 = .ok (.laload, 1) := by decide +kernel
theorem dX8_foldUp_164 : decode cX8_foldUp 164 = .ok (.lload 7, 2) := by decide +kernel
theorem dX8_foldUp_166 : decode cX8_foldUp 166 = .ok (.lcmp, 1) := by decide +kernel
theorem dX8_foldUp_167 : decode cX8_foldUp 167 = .ok (.ifCond .ge 15, 3) := by decide +kernel
theorem dX8_foldUp_170 : decode cX8_foldUp 170 = .ok (.aload_n 0, 1) := by decide +kernel
theorem dX8_foldUp_171 : decode cX8_foldUp 171 = .ok (.getfield 44, 3) := by decide +kernel
theorem dX8_foldUp_174 : decode cX8_foldUp 174 = .ok (.iload_n 3, 1) := by decide +kernel
theorem dX8_foldUp_175 : decode cX8_foldUp 175 = .ok (.iload 9, 2) := by decide +kernel
theorem dX8_foldUp_177 : decode cX8_foldUp 177 = .ok (.iadd, 1) := by decide +kernel
theorem dX8_foldUp_178 : decode cX8_foldUp 178 = .ok (.laload, 1) := by decide +kernel
theorem dX8_foldUp_179 : decode cX8_foldUp 179 = .ok (.goto 5, 3) := by decide +kernel
theorem dX8_foldUp_182 : decode cX8_foldUp 182 = .ok (.lload 7, 2) := by decide +kernel
theorem dX8_foldUp_184 : decode cX8_foldUp 184 = .ok (.lstore 7, 2) := by decide +kernel
theorem dX8_foldUp_186 : decode cX8_foldUp 186 = .ok (.iinc 9 1, 3) := by decide +kernel
theorem dX8_foldUp_189 : decode cX8_foldUp 189 = .ok (.goto (-98), 3) := by decide +kernel
theorem dX8_foldUp_192 : decode cX8_foldUp 192 = .ok (.iload 6, 2) := by decide +kernel
theorem dX8_foldUp_194 : decode cX8_foldUp 194 = .ok (.ifCond .eq 13, 3) := by decide +kernel
theorem dX8_foldUp_197 : decode cX8_foldUp 197 = .ok (.aload_n 0, 1) := by decide +kernel
theorem dX8_foldUp_198 : decode cX8_foldUp 198 = .ok (.iload_n 1, 1) := by decide +kernel
theorem dX8_foldUp_199 : decode cX8_foldUp 199 = .ok (.lload 7, 2) := by decide +kernel
theorem dX8_foldUp_201 : decode cX8_foldUp 201 = .ok (.invokevirtual 142, 3) := by decide +kernel
theorem dX8_foldUp_204 : decode cX8_foldUp 204 = .ok (.goto 8, 3) := by decide +kernel
theorem dX8_foldUp_207 : decode cX8_foldUp 207 = .ok (.aload_n 0, 1) := by decide +kernel
theorem dX8_foldUp_208 : decode cX8_foldUp 208 = .ok (.iconst 1, 1) := by decide +kernel
theorem dX8_foldUp_209 : decode cX8_foldUp 209 = .ok (.putfield 126, 3) := by decide +kernel
theorem dX8_foldUp_212 : decode cX8_foldUp 212 = .ok (.return_, 1) := by decide +kernel
theorem dX8_token_0 : decode cX8_token 0 = .ok (.aload_n 0, 1) := by decide +kernel
theorem dX8_token_1 : decode cX8_token 1 = .ok (.getfield 62, 3) := by decide +kernel
theorem dX8_token_4 : decode cX8_token 4 = .ok (.aload_n 0, 1) := by decide +kernel
theorem dX8_token_5 : decode cX8_token 5 = .ok (.getfield 119, 3) := by decide +kernel
theorem dX8_token_8 : decode cX8_token 8 = .ok (.iaload, 1) := by decide +kernel
theorem dX8_token_9 : decode cX8_token 9 = .ok (.bipush 100, 2) := by decide +kernel
theorem dX8_token_11 : decode cX8_token 11 = .ok (.if_icmp .ne 9, 3) := by decide +kernel
theorem dX8_token_14 : decode cX8_token 14 = .ok (.aload_n 0, 1) := by decide +kernel
theorem dX8_token_15 : decode cX8_token 15 = .ok (.iconst 2, 1) := by decide +kernel
theorem dX8_token_16 : decode cX8_token 16 = .ok (.putfield 126, 3) := by decide +kernel
theorem dX8_token_19 : decode cX8_token 19 = .ok (.return_, 1) := by decide +kernel
theorem dX8_token_20 : decode cX8_token 20 = .ok (.bipush 100, 2) := by decide +kernel
theorem dX8_token_22 : decode cX8_token 22 = .ok (.aload_n 0, 1) := by decide +kernel
theorem dX8_token_23 : decode cX8_token 23 = .ok (.getfield 119, 3) := by decide +kernel
theorem dX8_token_26 : decode cX8_token 26 = .ok (.imul, 1) := by decide +kernel
theorem dX8_token_27 : decode cX8_token 27 = .ok (.aload_n 0, 1) := by decide +kernel
theorem dX8_token_28 : decode cX8_token 28 = .ok (.getfield 62, 3) := by decide +kernel
theorem dX8_token_31 : decode cX8_token 31 = .ok (.aload_n 0, 1) := by decide +kernel
theorem dX8_token_32 : decode cX8_token 32 = .ok (.getfield 119, 3) := by decide +kernel
theorem dX8_token_35 : decode cX8_token 35 = .ok (.iaload, 1) := by decide +kernel
theorem dX8_token_36 : decode cX8_token 36 = .ok (.iadd, 1) := by decide +kernel
theorem dX8_token_37 : decode cX8_token 37 = .ok (.istore 4, 2) := by decide +kernel
theorem dX8_token_39 : decode cX8_token 39 = .ok (.aload_n 0, 1) := by decide +kernel
theorem dX8_token_40 : decode cX8_token 40 = .ok (.getfield 56, 3) := by decide +kernel
theorem dX8_token_43 : decode cX8_token 43 = .ok (.iload 4, 2) := by decide +kernel
theorem dX8_token_45 : decode cX8_token 45 = .ok (.iload_n 1, 1) := by decide +kernel
theorem dX8_token_46 : decode cX8_token 46 = .ok (.iastore, 1) := by decide +kernel
theorem dX8_token_47 : decode cX8_token 47 = .ok (.aload_n 0, 1) := by decide +kernel
theorem dX8_token_48 : decode cX8_token 48 = .ok (.getfield 59, 3) := by decide +kernel
theorem dX8_token_51 : decode cX8_token 51 = .ok (.iload 4, 2) := by decide +kernel
theorem dX8_token_53 : decode cX8_token 53 = .ok (.lload_n 2, 1) := by decide +kernel
theorem dX8_token_54 : decode cX8_token 54 = .ok (.lastore, 1) := by decide +kernel
theorem dX8_token_55 : decode cX8_token 55 = .ok (.aload_n 0, 1) := by decide +kernel
theorem dX8_token_56 : decode cX8_token 56 = .ok (.getfield 62, 3) := by decide +kernel
theorem dX8_token_59 : decode cX8_token 59 = .ok (.aload_n 0, 1) := by decide +kernel
theorem dX8_token_60 : decode cX8_token 60 = .ok (.getfield 119, 3) := by decide +kernel
theorem dX8_token_63 : decode cX8_token 63 = .ok (.dup2, 1) := by decide +kernel
theorem dX8_token_64 : decode cX8_token 64 = .ok (.iaload, 1) := by decide +kernel
theorem dX8_token_65 : decode cX8_token 65 = .ok (.iconst 1, 1) := by decide +kernel
theorem dX8_token_66 : decode cX8_token 66 = .ok (.iadd, 1) := by decide +kernel
theorem dX8_token_67 : decode cX8_token 67 = .ok (.iastore, 1) := by decide +kernel
theorem dX8_token_68 : decode cX8_token 68 = .ok (.return_, 1) := by decide +kernel
theorem dX8_tellFull_0 : decode cX8_tellFull 0 = .ok (.aload_n 0, 1) := by decide +kernel
theorem dX8_tellFull_1 : decode cX8_tellFull 1 = .ok (.iload_n 1, 1) := by decide +kernel
theorem dX8_tellFull_2 : decode cX8_tellFull 2 = .ok (.invokevirtual 168, 3) := by decide +kernel
theorem dX8_tellFull_5 : decode cX8_tellFull 5 = .ok (.aload_n 0, 1) := by decide +kernel
theorem dX8_tellFull_6 : decode cX8_tellFull 6 = .ok (.getfield 126, 3) := by decide +kernel
theorem dX8_tellFull_9 : decode cX8_tellFull 9 = .ok (.ifCond .eq 4, 3) := by decide +kernel
theorem dX8_tellFull_12 : decode cX8_tellFull 12 = .ok (.return_, 1) := by decide +kernel
theorem dX8_tellFull_13 : decode cX8_tellFull 13 = .ok (.aload_n 0, 1) := by decide +kernel
theorem dX8_tellFull_14 : decode cX8_tellFull 14 = .ok (.iload_n 1, 1) := by decide +kernel
theorem dX8_tellFull_15 : decode cX8_tellFull 15 = .ok (.invokevirtual 153, 3) := by decide +kernel
theorem dX8_tellFull_18 : decode cX8_tellFull 18 = .ok (.istore_n 2, 1) := by decide +kernel
theorem dX8_tellFull_19 : decode cX8_tellFull 19 = .ok (.aload_n 0, 1) := by decide +kernel
theorem dX8_tellFull_20 : decode cX8_tellFull 20 = .ok (.getfield 29, 3) := by decide +kernel
theorem dX8_tellFull_23 : decode cX8_tellFull 23 = .ok (.iload_n 2, 1) := by decide +kernel
theorem dX8_tellFull_24 : decode cX8_tellFull 24 = .ok (.iaload, 1) := by decide +kernel
theorem dX8_tellFull_25 : decode cX8_tellFull 25 = .ok (.iconst 1, 1) := by decide +kernel
theorem dX8_tellFull_26 : decode cX8_tellFull 26 = .ok (.if_icmp .ne 17, 3) := by decide +kernel
theorem dX8_tellFull_29 : decode cX8_tellFull 29 = .ok (.aload_n 0, 1) := by decide +kernel
theorem dX8_tellFull_30 : decode cX8_tellFull 30 = .ok (.iconst 0, 1) := by decide +kernel
theorem dX8_tellFull_31 : decode cX8_tellFull 31 = .ok (.aload_n 0, 1) := by decide +kernel
theorem dX8_tellFull_32 : decode cX8_tellFull 32 = .ok (.getfield 32, 3) := by decide +kernel
theorem dX8_tellFull_35 : decode cX8_tellFull 35 = .ok (.iload_n 2, 1) := by decide +kernel
theorem dX8_tellFull_36 : decode cX8_tellFull 36 = .ok (.laload, 1) := by decide +kernel
theorem dX8_tellFull_37 : decode cX8_tellFull 37 = .ok (.invokevirtual 171, 3) := by decide +kernel
theorem dX8_tellFull_40 : decode cX8_tellFull 40 = .ok (.goto 120, 3) := by decide +kernel
theorem dX8_tellFull_43 : decode cX8_tellFull 43 = .ok (.aload_n 0, 1) := by decide +kernel
theorem dX8_tellFull_44 : decode cX8_tellFull 44 = .ok (.getfield 29, 3) := by decide +kernel
theorem dX8_tellFull_47 : decode cX8_tellFull 47 = .ok (.iload_n 2, 1) := by decide +kernel
theorem dX8_tellFull_48 : decode cX8_tellFull 48 = .ok (.iaload, 1) := by decide +kernel
theorem dX8_tellFull_49 : decode cX8_tellFull 49 = .ok (.iconst 3, 1) := by decide +kernel
theorem dX8_tellFull_50 : decode cX8_tellFull 50 = .ok (.if_icmp .ne 62, 3) := by decide +kernel
theorem dX8_tellFull_53 : decode cX8_tellFull 53 = .ok (.aload_n 0, 1) := by decide +kernel
theorem dX8_tellFull_54 : decode cX8_tellFull 54 = .ok (.getfield 32, 3) := by decide +kernel
theorem dX8_tellFull_57 : decode cX8_tellFull 57 = .ok (.iload_n 2, 1) := by decide +kernel
theorem dX8_tellFull_58 : decode cX8_tellFull 58 = .ok (.laload, 1) := by decide +kernel
theorem dX8_tellFull_59 : decode cX8_tellFull 59 = .ok (.l2i, 1) := by decide +kernel
theorem dX8_tellFull_60 : decode cX8_tellFull 60 = .ok (.istore_n 3, 1) := by decide +kernel
theorem dX8_tellFull_61 : decode cX8_tellFull 61 = .ok (.aload_n 0, 1) := by decide +kernel
theorem dX8_tellFull_62 : decode cX8_tellFull 62 = .ok (.iload_n 3, 1) := by decide +kernel
theorem dX8_tellFull_63 : decode cX8_tellFull 63 = .ok (.invokevirtual 174, 3) := by decide +kernel
theorem dX8_tellFull_66 : decode cX8_tellFull 66 = .ok (.istore 4, 2) := by decide +kernel
theorem dX8_tellFull_68 : decode cX8_tellFull 68 = .ok (.iload_n 3, 1) := by decide +kernel
theorem dX8_tellFull_69 : decode cX8_tellFull 69 = .ok (.istore 5, 2) := by decide +kernel
theorem dX8_tellFull_71 : decode cX8_tellFull 71 = .ok (.iload 5, 2) := by decide +kernel
theorem dX8_tellFull_73 : decode cX8_tellFull 73 = .ok (.iload 4, 2) := by decide +kernel
theorem dX8_tellFull_75 : decode cX8_tellFull 75 = .ok (.if_icmp .ge 34, 3) := by decide +kernel
theorem dX8_tellFull_78 : decode cX8_tellFull 78 = .ok (.aload_n 0, 1) := by decide +kernel
theorem dX8_tellFull_79 : decode cX8_tellFull 79 = .ok (.getfield 126, 3) := by decide +kernel
theorem dX8_tellFull_82 : decode cX8_tellFull 82 = .ok (.ifCond .ne 27, 3) := by decide +kernel
theorem dX8_tellFull_85 : decode cX8_tellFull 85 = .ok (.aload_n 0, 1) := by decide +kernel
theorem dX8_tellFull_86 : decode cX8_tellFull 86 = .ok (.aload_n 0, 1) := by decide +kernel
theorem dX8_tellFull_87 : decode cX8_tellFull 87 = .ok (.getfield 41, 3) := by decide +kernel
theorem dX8_tellFull_90 : decode cX8_tellFull 90 = .ok (.iload 5, 2) := by decide +kernel
theorem dX8_tellFull_92 : decode cX8_tellFull 92 = .ok (.iaload, 1) := by decide +kernel
theorem dX8_tellFull_93 : decode cX8_tellFull 93 = .ok (.aload_n 0, 1) := by decide +kernel
theorem dX8_tellFull_94 : decode cX8_tellFull 94 = .ok (.getfield 44, 3) := by decide +kernel
theorem dX8_tellFull_97 : decode cX8_tellFull 97 = .ok (.iload 5, 2) := by decide +kernel
theorem dX8_tellFull_99 : decode cX8_tellFull 99 = .ok (.laload, 1) := by decide +kernel
theorem dX8_tellFull_100 : decode cX8_tellFull 100 = .ok (.invokevirtual 171, 3) := by decide +kernel
theorem dX8_tellFull_103 : decode cX8_tellFull 103 = .ok (.iinc 5 1, 3) := by decide +kernel
theorem dX8_tellFull_106 : decode cX8_tellFull 106 = .ok (.goto (-35), 3) := by decide +kernel
theorem dX8_tellFull_109 : decode cX8_tellFull 109 = .ok (.goto 51, 3) := by decide +kernel
theorem dX8_tellFull_112 : decode cX8_tellFull 112 = .ok (.aload_n 0, 1) := by decide +kernel
theorem dX8_tellFull_113 : decode cX8_tellFull 113 = .ok (.getfield 35, 3) := by decide +kernel
theorem dX8_tellFull_116 : decode cX8_tellFull 116 = .ok (.iload_n 2, 1) := by decide +kernel
theorem dX8_tellFull_117 : decode cX8_tellFull 117 = .ok (.iaload, 1) := by decide +kernel
theorem dX8_tellFull_118 : decode cX8_tellFull 118 = .ok (.istore_n 3, 1) := by decide +kernel
theorem dX8_tellFull_119 : decode cX8_tellFull 119 = .ok (.aload_n 0, 1) := by decide +kernel
theorem dX8_tellFull_120 : decode cX8_tellFull 120 = .ok (.getfield 38, 3) := by decide +kernel
theorem dX8_tellFull_123 : decode cX8_tellFull 123 = .ok (.iload_n 2, 1) := by decide +kernel
theorem dX8_tellFull_124 : decode cX8_tellFull 124 = .ok (.iaload, 1) := by decide +kernel
theorem dX8_tellFull_125 : decode cX8_tellFull 125 = .ok (.istore 4, 2) := by decide +kernel
theorem dX8_tellFull_127 : decode cX8_tellFull 127 = .ok (.aload_n 0, 1) := by decide +kernel
theorem dX8_tellFull_128 : decode cX8_tellFull 128 = .ok (.iconst 1, 1) := by decide +kernel
theorem dX8_tellFull_129 : decode cX8_tellFull 129 = .ok (.ldc2_w 177, 3) := by decide +kernel
theorem dX8_tellFull_132 : decode cX8_tellFull 132 = .ok (.invokevirtual 171, 3) := by decide +kernel
theorem dX8_tellFull_135 : decode cX8_tellFull 135 = .ok (.aload_n 0, 1) := by decide +kernel
theorem dX8_tellFull_136 : decode cX8_tellFull 136 = .ok (.getfield 126, 3) := by decide +kernel
theorem dX8_tellFull_139 : decode cX8_tellFull 139 = .ok (.ifCond .ne 8, 3) := by decide +kernel
theorem dX8_tellFull_142 : decode cX8_tellFull 142 = .ok (.aload_n 0, 1) := by decide +kernel
theorem dX8_tellFull_143 : decode cX8_tellFull 143 = .ok (.iload_n 3, 1) := by decide +kernel
theorem dX8_tellFull_144 : decode cX8_tellFull 144 = .ok (.invokevirtual 179, 3) := by decide +kernel
theorem dX8_tellFull_147 : decode cX8_tellFull 147 = .ok (.aload_n 0, 1) := by decide +kernel
theorem dX8_tellFull_148 : decode cX8_tellFull 148 = .ok (.getfield 126, 3) := by decide +kernel
theorem dX8_tellFull_151 : decode cX8_tellFull 151 = .ok (.ifCond .ne 9, 3) := by decide +kernel
theorem dX8_tellFull_154 : decode cX8_tellFull 154 = .ok (.aload_n 0, 1) := by decide +kernel
theorem dX8_tellFull_155 : decode cX8_tellFull 155 = .ok (.iload 4, 2) := by decide +kernel
theorem dX8_tellFull_157 : decode cX8_tellFull 157 = .ok (.invokevirtual 179, 3) := by decide +kernel
theorem dX8_tellFull_160 : decode cX8_tellFull 160 = .ok (.return_, 1) := by decide +kernel
theorem dX8_behind_0 : decode cX8_behind 0 = .ok (.lconst 1, 1) := by decide +kernel
theorem dX8_behind_1 : decode cX8_behind 1 = .ok (.lstore_n 2, 1) := by decide +kernel
theorem dX8_behind_2 : decode cX8_behind 2 = .ok (.iload_n 1, 1) := by decide +kernel
theorem dX8_behind_3 : decode cX8_behind 3 = .ok (.istore 4, 2) := by decide +kernel
theorem dX8_behind_5 : decode cX8_behind 5 = .ok (.lload_n 2, 1) := by decide +kernel
theorem dX8_behind_6 : decode cX8_behind 6 = .ok (.lconst 0, 1) := by decide +kernel
theorem dX8_behind_7 : decode cX8_behind 7 = .ok (.lcmp, 1) := by decide +kernel
theorem dX8_behind_8 : decode cX8_behind 8 = .ok (.ifCond .le 37, 3) := by decide +kernel
theorem dX8_behind_11 : decode cX8_behind 11 = .ok (.lload_n 2, 1) := by decide +kernel
theorem dX8_behind_12 : decode cX8_behind 12 = .ok (.aload_n 0, 1) := by decide +kernel
theorem dX8_behind_13 : decode cX8_behind 13 = .ok (.getfield 41, 3) := by decide +kernel
theorem dX8_behind_16 : decode cX8_behind 16 = .ok (.iload 4, 2) := by decide +kernel
theorem dX8_behind_18 : decode cX8_behind 18 = .ok (.iaload, 1) := by decide +kernel
theorem dX8_behind_19 : decode cX8_behind 19 = .ok (.ifCond .ne 9, 3) := by decide +kernel
theorem dX8_behind_22 : decode cX8_behind 22 = .ok (.ldc2_w 182, 3) := by decide +kernel
theorem dX8_behind_25 : decode cX8_behind 25 = .ok (.goto 12, 3) := by decide +kernel
theorem dX8_behind_28 : decode cX8_behind 28 = .ok (.aload_n 0, 1) := by decide +kernel
theorem dX8_behind_29 : decode cX8_behind 29 = .ok (.getfield 44, 3) := by decide +kernel
theorem dX8_behind_32 : decode cX8_behind 32 = .ok (.iload 4, 2) := by decide +kernel
theorem dX8_behind_34 : decode cX8_behind 34 = .ok (.laload, 1) := by decide +kernel
theorem dX8_behind_35 : decode cX8_behind 35 = .ok (.lconst 1, 1) := by decide +kernel
theorem dX8_behind_36 : decode cX8_behind 36 = .ok (.lsub, 1) := by decide +kernel
theorem dX8_behind_37 : decode cX8_behind 37 = .ok (.ladd, 1) := by decide +kernel
theorem dX8_behind_38 : decode cX8_behind 38 = .ok (.lstore_n 2, 1) := by decide +kernel
theorem dX8_behind_39 : decode cX8_behind 39 = .ok (.iinc 4 1, 3) := by decide +kernel
theorem dX8_behind_42 : decode cX8_behind 42 = .ok (.goto (-37), 3) := by decide +kernel
theorem dX8_behind_45 : decode cX8_behind 45 = .ok (.iload 4, 2) := by decide +kernel
theorem dX8_behind_47 : decode cX8_behind 47 = .ok (.ireturn, 1) := by decide +kernel
theorem dX8_goAll_0 : decode cX8_goAll 0 = .ok (.aload_n 0, 1) := by decide +kernel
theorem dX8_goAll_1 : decode cX8_goAll 1 = .ok (.getfield 119, 3) := by decide +kernel
theorem dX8_goAll_4 : decode cX8_goAll 4 = .ok (.iconst 5, 1) := by decide +kernel
theorem dX8_goAll_5 : decode cX8_goAll 5 = .ok (.if_icmp .ne 9, 3) := by decide +kernel
theorem dX8_goAll_8 : decode cX8_goAll 8 = .ok (.aload_n 0, 1) := by decide +kernel
theorem dX8_goAll_9 : decode cX8_goAll 9 = .ok (.iconst 2, 1) := by decide +kernel
theorem dX8_goAll_10 : decode cX8_goAll 10 = .ok (.putfield 126, 3) := by decide +kernel
theorem dX8_goAll_13 : decode cX8_goAll 13 = .ok (.return_, 1) := by decide +kernel
theorem dX8_goAll_14 : decode cX8_goAll 14 = .ok (.iconst 1, 1) := by decide +kernel
theorem dX8_goAll_15 : decode cX8_goAll 15 = .ok (.istore_n 3, 1) := by decide +kernel
theorem dX8_goAll_16 : decode cX8_goAll 16 = .ok (.iload_n 3, 1) := by decide +kernel
theorem dX8_goAll_17 : decode cX8_goAll 17 = .ok (.ifCond .eq 239, 3) := by decide +kernel
theorem dX8_goAll_20 : decode cX8_goAll 20 = .ok (.aload_n 0, 1) := by decide +kernel
theorem dX8_goAll_21 : decode cX8_goAll 21 = .ok (.getfield 126, 3) := by decide +kernel
theorem dX8_goAll_24 : decode cX8_goAll 24 = .ok (.ifCond .ne 232, 3) := by decide +kernel
theorem dX8_goAll_27 : decode cX8_goAll 27 = .ok (.iconst 0, 1) := by decide +kernel
theorem dX8_goAll_28 : decode cX8_goAll 28 = .ok (.istore_n 3, 1) := by decide +kernel
theorem dX8_goAll_29 : decode cX8_goAll 29 = .ok (.aload_n 0, 1) := by decide +kernel
theorem dX8_goAll_30 : decode cX8_goAll 30 = .ok (.getfield 184, 3) := by decide +kernel
theorem dX8_goAll_33 : decode cX8_goAll 33 = .ok (.istore 4, 2) := by decide +kernel
theorem dX8_goAll_35 : decode cX8_goAll 35 = .ok (.aload_n 0, 1) := by decide +kernel
theorem dX8_goAll_36 : decode cX8_goAll 36 = .ok (.dup, 1) := by decide +kernel
theorem dX8_goAll_37 : decode cX8_goAll 37 = .ok (.getfield 119, 3) := by decide +kernel
theorem dX8_goAll_40 : decode cX8_goAll 40 = .ok (.iconst 1, 1) := by decide +kernel
theorem dX8_goAll_41 : decode cX8_goAll 41 = .ok (.iadd, 1) := by decide +kernel
theorem dX8_goAll_42 : decode cX8_goAll 42 = .ok (.putfield 119, 3) := by decide +kernel
theorem dX8_goAll_45 : decode cX8_goAll 45 = .ok (.aload_n 0, 1) := by decide +kernel
theorem dX8_goAll_46 : decode cX8_goAll 46 = .ok (.getfield 26, 3) := by decide +kernel
theorem dX8_goAll_49 : decode cX8_goAll 49 = .ok (.aload_n 0, 1) := by decide +kernel
theorem dX8_goAll_50 : decode cX8_goAll 50 = .ok (.getfield 119, 3) := by decide +kernel
theorem dX8_goAll_53 : decode cX8_goAll 53 = .ok (.aload_n 0, 1) := by decide +kernel
theorem dX8_goAll_54 : decode cX8_goAll 54 = .ok (.getfield 20, 3) := by decide +kernel
theorem dX8_goAll_57 : decode cX8_goAll 57 = .ok (.iload_n 2, 1) := by decide +kernel
theorem dX8_goAll_58 : decode cX8_goAll 58 = .ok (.iaload, 1) := by decide +kernel
theorem dX8_goAll_59 : decode cX8_goAll 59 = .ok (.iastore, 1) := by decide +kernel
theorem dX8_goAll_60 : decode cX8_goAll 60 = .ok (.aload_n 0, 1) := by decide +kernel
theorem dX8_goAll_61 : decode cX8_goAll 61 = .ok (.getfield 50, 3) := by decide +kernel
theorem dX8_goAll_64 : decode cX8_goAll 64 = .ok (.aload_n 0, 1) := by decide +kernel
theorem dX8_goAll_65 : decode cX8_goAll 65 = .ok (.getfield 119, 3) := by decide +kernel
theorem dX8_goAll_68 : decode cX8_goAll 68 = .ok (.iconst 0, 1) := by decide +kernel
theorem dX8_goAll_69 : decode cX8_goAll 69 = .ok (.iastore, 1) := by decide +kernel
theorem dX8_goAll_70 : decode cX8_goAll 70 = .ok (.aload_n 0, 1) := by decide +kernel
theorem dX8_goAll_71 : decode cX8_goAll 71 = .ok (.getfield 71, 3) := by decide +kernel
theorem dX8_goAll_74 : decode cX8_goAll 74 = .ok (.aload_n 0, 1) := by decide +kernel
theorem dX8_goAll_75 : decode cX8_goAll 75 = .ok (.getfield 119, 3) := by decide +kernel
theorem dX8_goAll_78 : decode cX8_goAll 78 = .ok (.iconst 0, 1) := by decide +kernel
theorem dX8_goAll_79 : decode cX8_goAll 79 = .ok (.iastore, 1) := by decide +kernel
theorem dX8_goAll_80 : decode cX8_goAll 80 = .ok (.lconst 0, 1) := by decide +kernel
theorem dX8_goAll_81 : decode cX8_goAll 81 = .ok (.lstore 5, 2) := by decide +kernel
theorem dX8_goAll_83 : decode cX8_goAll 83 = .ok (.iconst 1, 1) := by decide +kernel
theorem dX8_goAll_84 : decode cX8_goAll 84 = .ok (.istore 7, 2) := by decide +kernel
theorem dX8_goAll_86 : decode cX8_goAll 86 = .ok (.iload 7, 2) := by decide +kernel
theorem dX8_goAll_88 : decode cX8_goAll 88 = .ok (.ifCond .eq 87, 3) := by decide +kernel
theorem dX8_goAll_91 : decode cX8_goAll 91 = .ok (.aload_n 0, 1) := by decide +kernel
theorem dX8_goAll_92 : decode cX8_goAll 92 = .ok (.getfield 126, 3) := by decide +kernel
theorem dX8_goAll_95 : decode cX8_goAll 95 = .ok (.ifCond .ne 80, 3) := by decide +kernel
theorem dX8_goAll_98 : decode cX8_goAll 98 = .ok (.aload_n 0, 1) := by decide +kernel
theorem dX8_goAll_99 : decode cX8_goAll 99 = .ok (.invokevirtual 187, 3) := by decide +kernel
theorem dX8_goAll_102 : decode cX8_goAll 102 = .ok (.aload_n 0, 1) := by decide +kernel
theorem dX8_goAll_103 : decode cX8_goAll 103 = .ok (.iload 4, 2) := by decide +kernel
theorem dX8_goAll_105 : decode cX8_goAll 105 = .ok (.putfield 184, 3) := by decide +kernel
theorem dX8_goAll_108 : decode cX8_goAll 108 = .ok (.aload_n 0, 1) := by decide +kernel
theorem dX8_goAll_109 : decode cX8_goAll 109 = .ok (.aload_n 0, 1) := by decide +kernel
theorem dX8_goAll_110 : decode cX8_goAll 110 = .ok (.getfield 17, 3) := by decide +kernel
theorem dX8_goAll_113 : decode cX8_goAll 113 = .ok (.iload_n 2, 1) := by decide +kernel
theorem dX8_goAll_114 : decode cX8_goAll 114 = .ok (.iaload, 1) := by decide +kernel
theorem dX8_goAll_115 : decode cX8_goAll 115 = .ok (.invokevirtual 179, 3) := by decide +kernel
theorem dX8_goAll_118 : decode cX8_goAll 118 = .ok (.aload_n 0, 1) := by decide +kernel
theorem dX8_goAll_119 : decode cX8_goAll 119 = .ok (.getfield 126, 3) := by decide +kernel
theorem dX8_goAll_122 : decode cX8_goAll 122 = .ok (.ifCond .ne 16, 3) := by decide +kernel
theorem dX8_goAll_125 : decode cX8_goAll 125 = .ok (.aload_n 0, 1) := by decide +kernel
theorem dX8_goAll_126 : decode cX8_goAll 126 = .ok (.invokevirtual 190, 3) := by decide +kernel
theorem dX8_goAll_129 : decode cX8_goAll 129 = .ok (.lload 5, 2) := by decide +kernel
theorem dX8_goAll_131 : decode cX8_goAll 131 = .ok (.lconst 1, 1) := by decide +kernel
theorem dX8_goAll_132 : decode cX8_goAll 132 = .ok (.ladd, 1) := by decide +kernel
theorem dX8_goAll_133 : decode cX8_goAll 133 = .ok (.lstore 5, 2) := by decide +kernel
theorem dX8_goAll_135 : decode cX8_goAll 135 = .ok (.goto 16, 3) := by decide +kernel
theorem dX8_goAll_138 : decode cX8_goAll 138 = .ok (.aload_n 0, 1) := by decide +kernel
theorem dX8_goAll_139 : decode cX8_goAll 139 = .ok (.getfield 126, 3) := by decide +kernel
theorem dX8_goAll_142 : decode cX8_goAll 142 = .ok (.iconst 1, 1) := by decide +kernel
theorem dX8_goAll_143 : decode cX8_goAll 143 = .ok (.if_icmp .ne 8, 3) := by decide +kernel
theorem dX8_goAll_146 : decode cX8_goAll 146 = .ok (.aload_n 0, 1) := by decide +kernel
theorem dX8_goAll_147 : decode cX8_goAll 147 = .ok (.iconst 0, 1) := by decide +kernel
theorem dX8_goAll_148 : decode cX8_goAll 148 = .ok (.putfield 126, 3) := by decide +kernel
theorem dX8_goAll_151 : decode cX8_goAll 151 = .ok (.aload_n 0, 1) := by decide +kernel
theorem dX8_goAll_152 : decode cX8_goAll 152 = .ok (.getfield 126, 3) := by decide +kernel
theorem dX8_goAll_155 : decode cX8_goAll 155 = .ok (.ifCond .ne 14, 3) := by decide +kernel
theorem dX8_goAll_158 : decode cX8_goAll 158 = .ok (.aload_n 0, 1) := by decide +kernel
theorem dX8_goAll_159 : decode cX8_goAll 159 = .ok (.invokevirtual 193, 3) := by decide +kernel
theorem dX8_goAll_162 : decode cX8_goAll 162 = .ok (.ifCond .eq 7, 3) := by decide +kernel
theorem dX8_goAll_165 : decode cX8_goAll 165 = .ok (.iconst 1, 1) := by decide +kernel
theorem dX8_goAll_166 : decode cX8_goAll 166 = .ok (.goto 4, 3) := by decide +kernel
theorem dX8_goAll_169 : decode cX8_goAll 169 = .ok (.iconst 0, 1) := by decide +kernel
theorem dX8_goAll_170 : decode cX8_goAll 170 = .ok (.istore 7, 2) := by decide +kernel
theorem dX8_goAll_172 : decode cX8_goAll 172 = .ok (.goto (-86), 3) := by decide +kernel
theorem dX8_goAll_175 : decode cX8_goAll 175 = .ok (.aload_n 0, 1) := by decide +kernel
theorem dX8_goAll_176 : decode cX8_goAll 176 = .ok (.dup, 1) := by decide +kernel
theorem dX8_goAll_177 : decode cX8_goAll 177 = .ok (.getfield 119, 3) := by decide +kernel
theorem dX8_goAll_180 : decode cX8_goAll 180 = .ok (.iconst 1, 1) := by decide +kernel
theorem dX8_goAll_181 : decode cX8_goAll 181 = .ok (.isub, 1) := by decide +kernel
theorem dX8_goAll_182 : decode cX8_goAll 182 = .ok (.putfield 119, 3) := by decide +kernel
theorem dX8_goAll_185 : decode cX8_goAll 185 = .ok (.aload_n 0, 1) := by decide +kernel
theorem dX8_goAll_186 : decode cX8_goAll 186 = .ok (.iload 4, 2) := by decide +kernel
theorem dX8_goAll_188 : decode cX8_goAll 188 = .ok (.putfield 184, 3) := by decide +kernel
theorem dX8_goAll_191 : decode cX8_goAll 191 = .ok (.aload_n 0, 1) := by decide +kernel
theorem dX8_goAll_192 : decode cX8_goAll 192 = .ok (.getfield 126, 3) := by decide +kernel
theorem dX8_goAll_195 : decode cX8_goAll 195 = .ok (.ifCond .ne 13, 3) := by decide +kernel
theorem dX8_goAll_198 : decode cX8_goAll 198 = .ok (.aload_n 0, 1) := by decide +kernel
theorem dX8_goAll_199 : decode cX8_goAll 199 = .ok (.iload_n 1, 1) := by decide +kernel
theorem dX8_goAll_200 : decode cX8_goAll 200 = .ok (.lload 5, 2) := by decide +kernel
theorem dX8_goAll_202 : decode cX8_goAll 202 = .ok (.invokevirtual 197, 3) := by decide +kernel
theorem dX8_goAll_205 : decode cX8_goAll 205 = .ok (.goto 48, 3) := by decide +kernel
theorem dX8_goAll_208 : decode cX8_goAll 208 = .ok (.aload_n 0, 1) := by decide +kernel
theorem dX8_goAll_209 : decode cX8_goAll 209 = .ok (.getfield 126, 3) := by decide +kernel
theorem dX8_goAll_212 : decode cX8_goAll 212 = .ok (.iconst 4, 1) := by decide +kernel
theorem dX8_goAll_213 : decode cX8_goAll 213 = .ok (.if_icmp .ne 40, 3) := by decide +kernel
theorem dX8_goAll_216 : decode cX8_goAll 216 = .ok (.aload_n 0, 1) := by decide +kernel
theorem dX8_goAll_217 : decode cX8_goAll 217 = .ok (.getfield 132, 3) := by decide +kernel
theorem dX8_goAll_220 : decode cX8_goAll 220 = .ok (.aload_n 0, 1) := by decide +kernel
theorem dX8_goAll_221 : decode cX8_goAll 221 = .ok (.getfield 119, 3) := by decide +kernel
theorem dX8_goAll_224 : decode cX8_goAll 224 = .ok (.if_icmp .ne 29, 3) := by decide +kernel
theorem dX8_goAll_227 : decode cX8_goAll 227 = .ok (.aload_n 0, 1) := by decide +kernel
theorem dX8_goAll_228 : decode cX8_goAll 228 = .ok (.iconst 0, 1) := by decide +kernel
theorem dX8_goAll_229 : decode cX8_goAll 229 = .ok (.putfield 126, 3) := by decide +kernel
theorem dX8_goAll_232 : decode cX8_goAll 232 = .ok (.aload_n 0, 1) := by decide +kernel
theorem dX8_goAll_233 : decode cX8_goAll 233 = .ok (.aload_n 0, 1) := by decide +kernel
theorem dX8_goAll_234 : decode cX8_goAll 234 = .ok (.getfield 129, 3) := by decide +kernel
theorem dX8_goAll_237 : decode cX8_goAll 237 = .ok (.invokevirtual 168, 3) := by decide +kernel
theorem dX8_goAll_240 : decode cX8_goAll 240 = .ok (.aload_n 0, 1) := by decide +kernel
theorem dX8_goAll_241 : decode cX8_goAll 241 = .ok (.getfield 126, 3) := by decide +kernel
theorem dX8_goAll_244 : decode cX8_goAll 244 = .ok (.ifCond .ne 7, 3) := by decide +kernel
theorem dX8_goAll_247 : decode cX8_goAll 247 = .ok (.iconst 1, 1) := by decide +kernel
theorem dX8_goAll_248 : decode cX8_goAll 248 = .ok (.goto 4, 3) := by decide +kernel
theorem dX8_goAll_251 : decode cX8_goAll 251 = .ok (.iconst 0, 1) := by decide +kernel
theorem dX8_goAll_252 : decode cX8_goAll 252 = .ok (.istore_n 3, 1) := by decide +kernel
theorem dX8_goAll_253 : decode cX8_goAll 253 = .ok (.goto (-237), 3) := by decide +kernel
theorem dX8_goAll_256 : decode cX8_goAll 256 = .ok (.return_, 1) := by decide +kernel
theorem dX8_collect_0 : decode cX8_collect 0 = .ok (.iconst 1, 1) := by decide +kernel
theorem dX8_collect_1 : decode cX8_collect 1 = .ok (.aload_n 0, 1) := by decide +kernel
theorem dX8_collect_2 : decode cX8_collect 2 = .ok (.getfield 71, 3) := by decide +kernel
theorem dX8_collect_5 : decode cX8_collect 5 = .ok (.aload_n 0, 1) := by decide +kernel
theorem dX8_collect_6 : decode cX8_collect 6 = .ok (.getfield 119, 3) := by decide +kernel
theorem dX8_collect_9 : decode cX8_collect 9 = .ok (.iaload, 1) := by decide +kernel
theorem dX8_collect_10 : decode cX8_collect 10 = .ok (.iadd, 1) := by decide +kernel
theorem dX8_collect_11 : decode cX8_collect 11 = .ok (.aload_n 0, 1) := by decide +kernel
theorem dX8_collect_12 : decode cX8_collect 12 = .ok (.getfield 62, 3) := by decide +kernel
theorem dX8_collect_15 : decode cX8_collect 15 = .ok (.aload_n 0, 1) := by decide +kernel
theorem dX8_collect_16 : decode cX8_collect 16 = .ok (.getfield 119, 3) := by decide +kernel
theorem dX8_collect_19 : decode cX8_collect 19 = .ok (.iaload, 1) := by decide +kernel
theorem dX8_collect_20 : decode cX8_collect 20 = .ok (.iadd, 1) := by decide +kernel
theorem dX8_collect_21 : decode cX8_collect 21 = .ok (.bipush 100, 2) := by decide +kernel
theorem dX8_collect_23 : decode cX8_collect 23 = .ok (.if_icmp .le 9, 3) := by decide +kernel
theorem dX8_collect_26 : decode cX8_collect 26 = .ok (.aload_n 0, 1) := by decide +kernel
theorem dX8_collect_27 : decode cX8_collect 27 = .ok (.iconst 2, 1) := by decide +kernel
theorem dX8_collect_28 : decode cX8_collect 28 = .ok (.putfield 126, 3) := by decide +kernel
theorem dX8_collect_31 : decode cX8_collect 31 = .ok (.return_, 1) := by decide +kernel
theorem dX8_collect_32 : decode cX8_collect 32 = .ok (.iconst 0, 1) := by decide +kernel
theorem dX8_collect_33 : decode cX8_collect 33 = .ok (.istore_n 1, 1) := by decide +kernel
theorem dX8_collect_34 : decode cX8_collect 34 = .ok (.iload_n 1, 1) := by decide +kernel
theorem dX8_collect_35 : decode cX8_collect 35 = .ok (.aload_n 0, 1) := by decide +kernel
theorem dX8_collect_36 : decode cX8_collect 36 = .ok (.getfield 62, 3) := by decide +kernel
theorem dX8_collect_39 : decode cX8_collect 39 = .ok (.aload_n 0, 1) := by decide +kernel
theorem dX8_collect_40 : decode cX8_collect 40 = .ok (.getfield 119, 3) := by decide +kernel
theorem dX8_collect_43 : decode cX8_collect 43 = .ok (.iaload, 1) := by decide +kernel
theorem dX8_collect_44 : decode cX8_collect 44 = .ok (.if_icmp .ge 94, 3) := by decide +kernel
theorem dX8_collect_47 : decode cX8_collect 47 = .ok (.aload_n 0, 1) := by decide +kernel
theorem dX8_collect_48 : decode cX8_collect 48 = .ok (.getfield 65, 3) := by decide +kernel
theorem dX8_collect_51 : decode cX8_collect 51 = .ok (.bipush 100, 2) := by decide +kernel
theorem dX8_collect_53 : decode cX8_collect 53 = .ok (.aload_n 0, 1) := by decide +kernel
theorem dX8_collect_54 : decode cX8_collect 54 = .ok (.getfield 119, 3) := by decide +kernel
theorem dX8_collect_57 : decode cX8_collect 57 = .ok (.imul, 1) := by decide +kernel
theorem dX8_collect_58 : decode cX8_collect 58 = .ok (.aload_n 0, 1) := by decide +kernel
theorem dX8_collect_59 : decode cX8_collect 59 = .ok (.getfield 71, 3) := by decide +kernel
theorem dX8_collect_62 : decode cX8_collect 62 = .ok (.aload_n 0, 1) := by decide +kernel
theorem dX8_collect_63 : decode cX8_collect 63 = .ok (.getfield 119, 3) := by decide +kernel
theorem dX8_collect_66 : decode cX8_collect 66 = .ok (.iaload, 1) := by decide +kernel
theorem dX8_collect_67 : decode cX8_collect 67 = .ok (.iadd, 1) := by decide +kernel
theorem dX8_collect_68 : decode cX8_collect 68 = .ok (.aload_n 0, 1) := by decide +kernel
theorem dX8_collect_69 : decode cX8_collect 69 = .ok (.getfield 56, 3) := by decide +kernel
theorem dX8_collect_72 : decode cX8_collect 72 = .ok (.bipush 100, 2) := by decide +kernel
theorem dX8_collect_74 : decode cX8_collect 74 = .ok (.aload_n 0, 1) := by decide +kernel
theorem dX8_collect_75 : decode cX8_collect 75 = .ok (.getfield 119, 3) := by decide +kernel
theorem dX8_collect_78 : decode cX8_collect 78 = .ok (.imul, 1) := by decide +kernel
theorem dX8_collect_79 : decode cX8_collect 79 = .ok (.iload_n 1, 1) := by decide +kernel
theorem dX8_collect_80 : decode cX8_collect 80 = .ok (.iadd, 1) := by decide +kernel
theorem dX8_collect_81 : decode cX8_collect 81 = .ok (.iaload, 1) := by decide +kernel
theorem dX8_collect_82 : decode cX8_collect 82 = .ok (.iastore, 1) := by decide +kernel
theorem dX8_collect_83 : decode cX8_collect 83 = .ok (.aload_n 0, 1) := by decide +kernel
theorem dX8_collect_84 : decode cX8_collect 84 = .ok (.getfield 68, 3) := by decide +kernel
theorem dX8_collect_87 : decode cX8_collect 87 = .ok (.bipush 100, 2) := by decide +kernel
theorem dX8_collect_89 : decode cX8_collect 89 = .ok (.aload_n 0, 1) := by decide +kernel
theorem dX8_collect_90 : decode cX8_collect 90 = .ok (.getfield 119, 3) := by decide +kernel
theorem dX8_collect_93 : decode cX8_collect 93 = .ok (.imul, 1) := by decide +kernel
theorem dX8_collect_94 : decode cX8_collect 94 = .ok (.aload_n 0, 1) := by decide +kernel
theorem dX8_collect_95 : decode cX8_collect 95 = .ok (.getfield 71, 3) := by decide +kernel
theorem dX8_collect_98 : decode cX8_collect 98 = .ok (.aload_n 0, 1) := by decide +kernel
theorem dX8_collect_99 : decode cX8_collect 99 = .ok (.getfield 119, 3) := by decide +kernel
theorem dX8_collect_102 : decode cX8_collect 102 = .ok (.iaload, 1) := by decide +kernel
theorem dX8_collect_103 : decode cX8_collect 103 = .ok (.iadd, 1) := by decide +kernel
theorem dX8_collect_104 : decode cX8_collect 104 = .ok (.aload_n 0, 1) := by decide +kernel
theorem dX8_collect_105 : decode cX8_collect 105 = .ok (.getfield 59, 3) := by decide +kernel
theorem dX8_collect_108 : decode cX8_collect 108 = .ok (.bipush 100, 2) := by decide +kernel
theorem dX8_collect_110 : decode cX8_collect 110 = .ok (.aload_n 0, 1) := by decide +kernel
theorem dX8_collect_111 : decode cX8_collect 111 = .ok (.getfield 119, 3) := by decide +kernel
theorem dX8_collect_114 : decode cX8_collect 114 = .ok (.imul, 1) := by decide +kernel
theorem dX8_collect_115 : decode cX8_collect 115 = .ok (.iload_n 1, 1) := by decide +kernel
theorem dX8_collect_116 : decode cX8_collect 116 = .ok (.iadd, 1) := by decide +kernel
theorem dX8_collect_117 : decode cX8_collect 117 = .ok (.laload, 1) := by decide +kernel
theorem dX8_collect_118 : decode cX8_collect 118 = .ok (.lastore, 1) := by decide +kernel
theorem dX8_collect_119 : decode cX8_collect 119 = .ok (.aload_n 0, 1) := by decide +kernel
theorem dX8_collect_120 : decode cX8_collect 120 = .ok (.getfield 71, 3) := by decide +kernel
theorem dX8_collect_123 : decode cX8_collect 123 = .ok (.aload_n 0, 1) := by decide +kernel
theorem dX8_collect_124 : decode cX8_collect 124 = .ok (.getfield 119, 3) := by decide +kernel
theorem dX8_collect_127 : decode cX8_collect 127 = .ok (.dup2, 1) := by decide +kernel
theorem dX8_collect_128 : decode cX8_collect 128 = .ok (.iaload, 1) := by decide +kernel
theorem dX8_collect_129 : decode cX8_collect 129 = .ok (.iconst 1, 1) := by decide +kernel
theorem dX8_collect_130 : decode cX8_collect 130 = .ok (.iadd, 1) := by decide +kernel
theorem dX8_collect_131 : decode cX8_collect 131 = .ok (.iastore, 1) := by decide +kernel
theorem dX8_collect_132 : decode cX8_collect 132 = .ok (.iinc 1 1, 3) := by decide +kernel
theorem dX8_collect_135 : decode cX8_collect 135 = .ok (.goto (-101), 3) := by decide +kernel
theorem dX8_collect_138 : decode cX8_collect 138 = .ok (.return_, 1) := by decide +kernel
theorem dX8_nextWay_0 : decode cX8_nextWay 0 = .ok (.aload_n 0, 1) := by decide +kernel
theorem dX8_nextWay_1 : decode cX8_nextWay 1 = .ok (.getfield 53, 3) := by decide +kernel
theorem dX8_nextWay_4 : decode cX8_nextWay 4 = .ok (.aload_n 0, 1) := by decide +kernel
theorem dX8_nextWay_5 : decode cX8_nextWay 5 = .ok (.getfield 119, 3) := by decide +kernel
theorem dX8_nextWay_8 : decode cX8_nextWay 8 = .ok (.iaload, 1) := by decide +kernel
theorem dX8_nextWay_9 : decode cX8_nextWay 9 = .ok (.iconst 1, 1) := by decide +kernel
theorem dX8_nextWay_10 : decode cX8_nextWay 10 = .ok (.isub, 1) := by decide +kernel
theorem dX8_nextWay_11 : decode cX8_nextWay 11 = .ok (.istore_n 1, 1) := by decide +kernel
theorem dX8_nextWay_12 : decode cX8_nextWay 12 = .ok (.iload_n 1, 1) := by decide +kernel
theorem dX8_nextWay_13 : decode cX8_nextWay 13 = .ok (.ifCond .lt 28, 3) := by decide +kernel
theorem dX8_nextWay_16 : decode cX8_nextWay 16 = .ok (.aload_n 0, 1) := by decide +kernel
theorem dX8_nextWay_17 : decode cX8_nextWay 17 = .ok (.getfield 47, 3) := by decide +kernel
theorem dX8_nextWay_20 : decode cX8_nextWay 20 = .ok (.sipush 2001, 3) := by decide +kernel
theorem dX8_nextWay_23 : decode cX8_nextWay 23 = .ok (.aload_n 0, 1) := by decide +kernel
theorem dX8_nextWay_24 : decode cX8_nextWay 24 = .ok (.getfield 119, 3) := by decide +kernel
theorem dX8_nextWay_27 : decode cX8_nextWay 27 = .ok (.imul, 1) := by decide +kernel
theorem dX8_nextWay_28 : decode cX8_nextWay 28 = .ok (.iload_n 1, 1) := by decide +kernel
theorem dX8_nextWay_29 : decode cX8_nextWay 29 = .ok (.iadd, 1) := by decide +kernel
theorem dX8_nextWay_30 : decode cX8_nextWay 30 = .ok (.iaload, 1) := by decide +kernel
theorem dX8_nextWay_31 : decode cX8_nextWay 31 = .ok (.iconst 1, 1) := by decide +kernel
theorem dX8_nextWay_32 : decode cX8_nextWay 32 = .ok (.if_icmp .ne 9, 3) := by decide +kernel
theorem dX8_nextWay_35 : decode cX8_nextWay 35 = .ok (.iinc 1 (-1), 3) := by decide +kernel
theorem dX8_nextWay_38 : decode cX8_nextWay 38 = .ok (.goto (-26), 3) := by decide +kernel
theorem dX8_nextWay_41 : decode cX8_nextWay 41 = .ok (.iload_n 1, 1) := by decide +kernel
theorem dX8_nextWay_42 : decode cX8_nextWay 42 = .ok (.ifCond .ge 5, 3) := by decide +kernel
theorem dX8_nextWay_45 : decode cX8_nextWay 45 = .ok (.iconst 0, 1) := by decide +kernel
theorem dX8_nextWay_46 : decode cX8_nextWay 46 = .ok (.ireturn, 1) := by decide +kernel
theorem dX8_nextWay_47 : decode cX8_nextWay 47 = .ok (.aload_n 0, 1) := by decide +kernel
theorem dX8_nextWay_48 : decode cX8_nextWay 48 = .ok (.getfield 47, 3) := by decide +kernel
theorem dX8_nextWay_51 : decode cX8_nextWay 51 = .ok (.sipush 2001, 3) := by decide +kernel
theorem dX8_nextWay_54 : decode cX8_nextWay 54 = .ok (.aload_n 0, 1) := by decide +kernel
theorem dX8_nextWay_55 : decode cX8_nextWay 55 = .ok (.getfield 119, 3) := by decide +kernel
theorem dX8_nextWay_58 : decode cX8_nextWay 58 = .ok (.imul, 1) := by decide +kernel
theorem dX8_nextWay_59 : decode cX8_nextWay 59 = .ok (.iload_n 1, 1) := by decide +kernel
theorem dX8_nextWay_60 : decode cX8_nextWay 60 = .ok (.iadd, 1) := by decide +kernel
theorem dX8_nextWay_61 : decode cX8_nextWay 61 = .ok (.iconst 1, 1) := by decide +kernel
theorem dX8_nextWay_62 : decode cX8_nextWay 62 = .ok (.iastore, 1) := by decide +kernel
theorem dX8_nextWay_63 : decode cX8_nextWay 63 = .ok (.aload_n 0, 1) := by decide +kernel
theorem dX8_nextWay_64 : decode cX8_nextWay 64 = .ok (.getfield 50, 3) := by decide +kernel
theorem dX8_nextWay_67 : decode cX8_nextWay 67 = .ok (.aload_n 0, 1) := by decide +kernel
theorem dX8_nextWay_68 : decode cX8_nextWay 68 = .ok (.getfield 119, 3) := by decide +kernel
theorem dX8_nextWay_71 : decode cX8_nextWay 71 = .ok (.iload_n 1, 1) := by decide +kernel
theorem dX8_nextWay_72 : decode cX8_nextWay 72 = .ok (.iconst 1, 1) := by decide +kernel
theorem dX8_nextWay_73 : decode cX8_nextWay 73 = .ok (.iadd, 1) := by decide +kernel
theorem dX8_nextWay_74 : decode cX8_nextWay 74 = .ok (.iastore, 1) := by decide +kernel
theorem dX8_nextWay_75 : decode cX8_nextWay 75 = .ok (.iconst 1, 1) := by decide +kernel
theorem dX8_nextWay_76 : decode cX8_nextWay 76 = .ok (.ireturn, 1) := by decide +kernel
theorem dX8_keep_0 : decode cX8_keep 0 = .ok (.aload_n 0, 1) := by decide +kernel
theorem dX8_keep_1 : decode cX8_keep 1 = .ok (.getfield 184, 3) := by decide +kernel
theorem dX8_keep_4 : decode cX8_keep 4 = .ok (.istore 4, 2) := by decide +kernel
theorem dX8_keep_6 : decode cX8_keep 6 = .ok (.aload_n 0, 1) := by decide +kernel
theorem dX8_keep_7 : decode cX8_keep 7 = .ok (.iconst 2, 1) := by decide +kernel
theorem dX8_keep_8 : decode cX8_keep 8 = .ok (.lload_n 2, 1) := by decide +kernel
theorem dX8_keep_9 : decode cX8_keep 9 = .ok (.invokevirtual 200, 3) := by decide +kernel
theorem dX8_keep_12 : decode cX8_keep 12 = .ok (.iconst 0, 1) := by decide +kernel
theorem dX8_keep_13 : decode cX8_keep 13 = .ok (.istore 5, 2) := by decide +kernel
theorem dX8_keep_15 : decode cX8_keep 15 = .ok (.iload 5, 2) := by decide +kernel
theorem dX8_keep_17 : decode cX8_keep 17 = .ok (.aload_n 0, 1) := by decide +kernel
theorem dX8_keep_18 : decode cX8_keep 18 = .ok (.getfield 71, 3) := by decide +kernel
theorem dX8_keep_21 : decode cX8_keep 21 = .ok (.aload_n 0, 1) := by decide +kernel
theorem dX8_keep_22 : decode cX8_keep 22 = .ok (.getfield 119, 3) := by decide +kernel
theorem dX8_keep_25 : decode cX8_keep 25 = .ok (.iconst 1, 1) := by decide +kernel
theorem dX8_keep_26 : decode cX8_keep 26 = .ok (.iadd, 1) := by decide +kernel
theorem dX8_keep_27 : decode cX8_keep 27 = .ok (.iaload, 1) := by decide +kernel
theorem dX8_keep_28 : decode cX8_keep 28 = .ok (.if_icmp .ge 47, 3) := by decide +kernel
theorem dX8_keep_31 : decode cX8_keep 31 = .ok (.aload_n 0, 1) := by decide +kernel
theorem dX8_keep_32 : decode cX8_keep 32 = .ok (.aload_n 0, 1) := by decide +kernel
theorem dX8_keep_33 : decode cX8_keep 33 = .ok (.getfield 65, 3) := by decide +kernel
theorem dX8_keep_36 : decode cX8_keep 36 = .ok (.bipush 100, 2) := by decide +kernel
theorem dX8_keep_38 : decode cX8_keep 38 = .ok (.aload_n 0, 1) := by decide +kernel
theorem dX8_keep_39 : decode cX8_keep 39 = .ok (.getfield 119, 3) := by decide +kernel
theorem dX8_keep_42 : decode cX8_keep 42 = .ok (.iconst 1, 1) := by decide +kernel
theorem dX8_keep_43 : decode cX8_keep 43 = .ok (.iadd, 1) := by decide +kernel
theorem dX8_keep_44 : decode cX8_keep 44 = .ok (.imul, 1) := by decide +kernel
theorem dX8_keep_45 : decode cX8_keep 45 = .ok (.iload 5, 2) := by decide +kernel
theorem dX8_keep_47 : decode cX8_keep 47 = .ok (.iadd, 1) := by decide +kernel
theorem dX8_keep_48 : decode cX8_keep 48 = .ok (.iaload, 1) := by decide +kernel
theorem dX8_keep_49 : decode cX8_keep 49 = .ok (.aload_n 0, 1) := by decide +kernel
theorem dX8_keep_50 : decode cX8_keep 50 = .ok (.getfield 68, 3) := by decide +kernel
theorem dX8_keep_53 : decode cX8_keep 53 = .ok (.bipush 100, 2) := by decide +kernel
theorem dX8_keep_55 : decode cX8_keep 55 = .ok (.aload_n 0, 1) := by decide +kernel
theorem dX8_keep_56 : decode cX8_keep 56 = .ok (.getfield 119, 3) := by decide +kernel
theorem dX8_keep_59 : decode cX8_keep 59 = .ok (.iconst 1, 1) := by decide +kernel
theorem dX8_keep_60 : decode cX8_keep 60 = .ok (.iadd, 1) := by decide +kernel
theorem dX8_keep_61 : decode cX8_keep 61 = .ok (.imul, 1) := by decide +kernel
theorem dX8_keep_62 : decode cX8_keep 62 = .ok (.iload 5, 2) := by decide +kernel
theorem dX8_keep_64 : decode cX8_keep 64 = .ok (.iadd, 1) := by decide +kernel
theorem dX8_keep_65 : decode cX8_keep 65 = .ok (.laload, 1) := by decide +kernel
theorem dX8_keep_66 : decode cX8_keep 66 = .ok (.invokevirtual 200, 3) := by decide +kernel
theorem dX8_keep_69 : decode cX8_keep 69 = .ok (.iinc 5 1, 3) := by decide +kernel
theorem dX8_keep_72 : decode cX8_keep 72 = .ok (.goto (-57), 3) := by decide +kernel
theorem dX8_keep_75 : decode cX8_keep 75 = .ok (.aload_n 0, 1) := by decide +kernel
theorem dX8_keep_76 : decode cX8_keep 76 = .ok (.getfield 29, 3) := by decide +kernel
theorem dX8_keep_79 : decode cX8_keep 79 = .ok (.iload_n 1, 1) := by decide +kernel
theorem dX8_keep_80 : decode cX8_keep 80 = .ok (.iconst 3, 1) := by decide +kernel
theorem dX8_keep_81 : decode cX8_keep 81 = .ok (.iastore, 1) := by decide +kernel
theorem dX8_keep_82 : decode cX8_keep 82 = .ok (.aload_n 0, 1) := by decide +kernel
theorem dX8_keep_83 : decode cX8_keep 83 = .ok (.getfield 32, 3) := by decide +kernel
theorem dX8_keep_86 : decode cX8_keep 86 = .ok (.iload_n 1, 1) := by decide +kernel
theorem dX8_keep_87 : decode cX8_keep 87 = .ok (.iload 4, 2) := by decide +kernel
theorem dX8_keep_89 : decode cX8_keep 89 = .ok (.i2l, 1) := by decide +kernel
theorem dX8_keep_90 : decode cX8_keep 90 = .ok (.lastore, 1) := by decide +kernel
theorem dX8_keep_91 : decode cX8_keep 91 = .ok (.return_, 1) := by decide +kernel
theorem dX8_lay_0 : decode cX8_lay 0 = .ok (.aload_n 0, 1) := by decide +kernel
theorem dX8_lay_1 : decode cX8_lay 1 = .ok (.getfield 184, 3) := by decide +kernel
theorem dX8_lay_4 : decode cX8_lay 4 = .ok (.aload_n 0, 1) := by decide +kernel
theorem dX8_lay_5 : decode cX8_lay 5 = .ok (.getfield 44, 3) := by decide +kernel
theorem dX8_lay_8 : decode cX8_lay 8 = .ok (.arraylength, 1) := by decide +kernel
theorem dX8_lay_9 : decode cX8_lay 9 = .ok (.if_icmp .ne 77, 3) := by decide +kernel
theorem dX8_lay_12 : decode cX8_lay 12 = .ok (.iconst 2, 1) := by decide +kernel
theorem dX8_lay_13 : decode cX8_lay 13 = .ok (.aload_n 0, 1) := by decide +kernel
theorem dX8_lay_14 : decode cX8_lay 14 = .ok (.getfield 184, 3) := by decide +kernel
theorem dX8_lay_17 : decode cX8_lay 17 = .ok (.imul, 1) := by decide +kernel
theorem dX8_lay_18 : decode cX8_lay 18 = .ok (.newarray .int, 2) := by decide +kernel
theorem dX8_lay_20 : decode cX8_lay 20 = .ok (.astore 4, 2) := by decide +kernel
theorem dX8_lay_22 : decode cX8_lay 22 = .ok (.iconst 2, 1) := by decide +kernel
theorem dX8_lay_23 : decode cX8_lay 23 = .ok (.aload_n 0, 1) := by decide +kernel
theorem dX8_lay_24 : decode cX8_lay 24 = .ok (.getfield 184, 3) := by decide +kernel
theorem dX8_lay_27 : decode cX8_lay 27 = .ok (.imul, 1) := by decide +kernel
theorem dX8_lay_28 : decode cX8_lay 28 = .ok (.newarray .long, 2) := by decide +kernel
theorem dX8_lay_30 : decode cX8_lay 30 = .ok (.astore 5, 2) := by decide +kernel
theorem dX8_lay_32 : decode cX8_lay 32 = .ok (.iconst 0, 1) := by decide +kernel
theorem dX8_lay_33 : decode cX8_lay 33 = .ok (.istore 6, 2) := by decide +kernel
theorem dX8_lay_35 : decode cX8_lay 35 = .ok (.iload 6, 2) := by decide +kernel
theorem dX8_lay_37 : decode cX8_lay 37 = .ok (.aload_n 0, 1) := by decide +kernel
theorem dX8_lay_38 : decode cX8_lay 38 = .ok (.getfield 184, 3) := by decide +kernel
theorem dX8_lay_41 : decode cX8_lay 41 = .ok (.if_icmp .ge 33, 3) := by decide +kernel
theorem dX8_lay_44 : decode cX8_lay 44 = .ok (.aload 4, 2) := by decide +kernel
theorem dX8_lay_46 : decode cX8_lay 46 = .ok (.iload 6, 2) := by decide +kernel
theorem dX8_lay_48 : decode cX8_lay 48 = .ok (.aload_n 0, 1) := by decide +kernel
theorem dX8_lay_49 : decode cX8_lay 49 = .ok (.getfield 41, 3) := by decide +kernel
theorem dX8_lay_52 : decode cX8_lay 52 = .ok (.iload 6, 2) := by decide +kernel
theorem dX8_lay_54 : decode cX8_lay 54 = .ok (.iaload, 1) := by decide +kernel
theorem dX8_lay_55 : decode cX8_lay 55 = .ok (.iastore, 1) := by decide +kernel
theorem dX8_lay_56 : decode cX8_lay 56 = .ok (.aload 5, 2) := by decide +kernel
theorem dX8_lay_58 : decode cX8_lay 58 = .ok (.iload 6, 2) := by decide +kernel
theorem dX8_lay_60 : decode cX8_lay 60 = .ok (.aload_n 0, 1) := by decide +kernel
theorem dX8_lay_61 : decode cX8_lay 61 = .ok (.getfield 44, 3) := by decide +kernel
theorem dX8_lay_64 : decode cX8_lay 64 = .ok (.iload 6, 2) := by decide +kernel
theorem dX8_lay_66 : decode cX8_lay 66 = .ok (.laload, 1) := by decide +kernel
theorem dX8_lay_67 : decode cX8_lay 67 = .ok (.lastore, 1) := by decide +kernel
theorem dX8_lay_68 : decode cX8_lay 68 = .ok (.iinc 6 1, 3) := by decide +kernel
theorem dX8_lay_71 : decode cX8_lay 71 = .ok (.goto (-36), 3) := by decide +kernel
theorem dX8_lay_74 : decode cX8_lay 74 = .ok (.aload_n 0, 1) := by decide +kernel
theorem dX8_lay_75 : decode cX8_lay 75 = .ok (.aload 4, 2) := by decide +kernel
theorem dX8_lay_77 : decode cX8_lay 77 = .ok (.putfield 41, 3) := by decide +kernel
theorem dX8_lay_80 : decode cX8_lay 80 = .ok (.aload_n 0, 1) := by decide +kernel
theorem dX8_lay_81 : decode cX8_lay 81 = .ok (.aload 5, 2) := by decide +kernel
theorem dX8_lay_83 : decode cX8_lay 83 = .ok (.putfield 44, 3) := by decide +kernel
theorem dX8_lay_86 : decode cX8_lay 86 = .ok (.aload_n 0, 1) := by decide +kernel
theorem dX8_lay_87 : decode cX8_lay 87 = .ok (.getfield 41, 3) := by decide +kernel
theorem dX8_lay_90 : decode cX8_lay 90 = .ok (.aload_n 0, 1) := by decide +kernel
theorem dX8_lay_91 : decode cX8_lay 91 = .ok (.getfield 184, 3) := by decide +kernel
theorem dX8_lay_94 : decode cX8_lay 94 = .ok (.iload_n 1, 1) := by decide +kernel
theorem dX8_lay_95 : decode cX8_lay 95 = .ok (.iastore, 1) := by decide +kernel
theorem dX8_lay_96 : decode cX8_lay 96 = .ok (.aload_n 0, 1) := by decide +kernel
theorem dX8_lay_97 : decode cX8_lay 97 = .ok (.getfield 44, 3) := by decide +kernel
theorem dX8_lay_100 : decode cX8_lay 100 = .ok (.aload_n 0, 1) := by decide +kernel
theorem dX8_lay_101 : decode cX8_lay 101 = .ok (.getfield 184, 3) := by decide +kernel
theorem dX8_lay_104 : decode cX8_lay 104 = .ok (.lload_n 2, 1) := by decide +kernel
theorem dX8_lay_105 : decode cX8_lay 105 = .ok (.lastore, 1) := by decide +kernel
theorem dX8_lay_106 : decode cX8_lay 106 = .ok (.aload_n 0, 1) := by decide +kernel
theorem dX8_lay_107 : decode cX8_lay 107 = .ok (.dup, 1) := by decide +kernel
theorem dX8_lay_108 : decode cX8_lay 108 = .ok (.getfield 184, 3) := by decide +kernel
theorem dX8_lay_111 : decode cX8_lay 111 = .ok (.iconst 1, 1) := by decide +kernel
theorem dX8_lay_112 : decode cX8_lay 112 = .ok (.iadd, 1) := by decide +kernel
theorem dX8_lay_113 : decode cX8_lay 113 = .ok (.putfield 184, 3) := by decide +kernel
theorem dX8_lay_116 : decode cX8_lay 116 = .ok (.return_, 1) := by decide +kernel
theorem dX8_forget_0 : decode cX8_forget 0 = .ok (.aload_n 0, 1) := by decide +kernel
theorem dX8_forget_1 : decode cX8_forget 1 = .ok (.iconst 0, 1) := by decide +kernel
theorem dX8_forget_2 : decode cX8_forget 2 = .ok (.putfield 203, 3) := by decide +kernel
theorem dX8_forget_5 : decode cX8_forget 5 = .ok (.aload_n 0, 1) := by decide +kernel
theorem dX8_forget_6 : decode cX8_forget 6 = .ok (.iconst 0, 1) := by decide +kernel
theorem dX8_forget_7 : decode cX8_forget 7 = .ok (.putfield 207, 3) := by decide +kernel
theorem dX8_forget_10 : decode cX8_forget 10 = .ok (.aload_n 0, 1) := by decide +kernel
theorem dX8_forget_11 : decode cX8_forget 11 = .ok (.iconst 0, 1) := by decide +kernel
theorem dX8_forget_12 : decode cX8_forget 12 = .ok (.putfield 210, 3) := by decide +kernel
theorem dX8_forget_15 : decode cX8_forget 15 = .ok (.aload_n 0, 1) := by decide +kernel
theorem dX8_forget_16 : decode cX8_forget 16 = .ok (.iconst 0, 1) := by decide +kernel
theorem dX8_forget_17 : decode cX8_forget 17 = .ok (.putfield 213, 3) := by decide +kernel
theorem dX8_forget_20 : decode cX8_forget 20 = .ok (.aload_n 0, 1) := by decide +kernel
theorem dX8_forget_21 : decode cX8_forget 21 = .ok (.iconst 0, 1) := by decide +kernel
theorem dX8_forget_22 : decode cX8_forget 22 = .ok (.putfield 216, 3) := by decide +kernel
theorem dX8_forget_25 : decode cX8_forget 25 = .ok (.aload_n 0, 1) := by decide +kernel
theorem dX8_forget_26 : decode cX8_forget 26 = .ok (.iconst 0, 1) := by decide +kernel
theorem dX8_forget_27 : decode cX8_forget 27 = .ok (.putfield 219, 3) := by decide +kernel
theorem dX8_forget_30 : decode cX8_forget 30 = .ok (.aload_n 0, 1) := by decide +kernel
theorem dX8_forget_31 : decode cX8_forget 31 = .ok (.iconst 0, 1) := by decide +kernel
theorem dX8_forget_32 : decode cX8_forget 32 = .ok (.putfield 222, 3) := by decide +kernel
theorem dX8_forget_35 : decode cX8_forget 35 = .ok (.aload_n 0, 1) := by decide +kernel
theorem dX8_forget_36 : decode cX8_forget 36 = .ok (.iconst 0, 1) := by decide +kernel
theorem dX8_forget_37 : decode cX8_forget 37 = .ok (.putfield 225, 3) := by decide +kernel
theorem dX8_forget_40 : decode cX8_forget 40 = .ok (.aload_n 0, 1) := by decide +kernel
theorem dX8_forget_41 : decode cX8_forget 41 = .ok (.iconst 0, 1) := by decide +kernel
theorem dX8_forget_42 : decode cX8_forget 42 = .ok (.putfield 228, 3) := by decide +kernel
theorem dX8_forget_45 : decode cX8_forget 45 = .ok (.aload_n 0, 1) := by decide +kernel
theorem dX8_forget_46 : decode cX8_forget 46 = .ok (.iconst 0, 1) := by decide +kernel
theorem dX8_forget_47 : decode cX8_forget 47 = .ok (.putfield 231, 3) := by decide +kernel
theorem dX8_forget_50 : decode cX8_forget 50 = .ok (.aload_n 0, 1) := by decide +kernel
theorem dX8_forget_51 : decode cX8_forget 51 = .ok (.iconst 0, 1) := by decide +kernel
theorem dX8_forget_52 : decode cX8_forget 52 = .ok (.putfield 234, 3) := by decide +kernel
theorem dX8_forget_55 : decode cX8_forget 55 = .ok (.aload_n 0, 1) := by decide +kernel
theorem dX8_forget_56 : decode cX8_forget 56 = .ok (.iconst 0, 1) := by decide +kernel
theorem dX8_forget_57 : decode cX8_forget 57 = .ok (.putfield 237, 3) := by decide +kernel
theorem dX8_forget_60 : decode cX8_forget 60 = .ok (.aload_n 0, 1) := by decide +kernel
theorem dX8_forget_61 : decode cX8_forget 61 = .ok (.iconst 0, 1) := by decide +kernel
theorem dX8_forget_62 : decode cX8_forget 62 = .ok (.putfield 240, 3) := by decide +kernel
theorem dX8_forget_65 : decode cX8_forget 65 = .ok (.aload_n 0, 1) := by decide +kernel
theorem dX8_forget_66 : decode cX8_forget 66 = .ok (.iconst 0, 1) := by decide +kernel
theorem dX8_forget_67 : decode cX8_forget 67 = .ok (.putfield 243, 3) := by decide +kernel
theorem dX8_forget_70 : decode cX8_forget 70 = .ok (.return_, 1) := by decide +kernel
theorem dX8_ask_0 : decode cX8_ask 0 = .ok (.aload_n 0, 1) := by decide +kernel
theorem dX8_ask_1 : decode cX8_ask 1 = .ok (.aload_n 0, 1) := by decide +kernel
theorem dX8_ask_2 : decode cX8_ask 2 = .ok (.iload_n 1, 1) := by decide +kernel
theorem dX8_ask_3 : decode cX8_ask 3 = .ok (.invokevirtual 108, 3) := by decide +kernel
theorem dX8_ask_6 : decode cX8_ask 6 = .ok (.ifCond .eq 23, 3) := by decide +kernel
theorem dX8_ask_9 : decode cX8_ask 9 = .ok (.iload_n 2, 1) := by decide +kernel
theorem dX8_ask_10 : decode cX8_ask 10 = .ok (.ifCond .lt 19, 3) := by decide +kernel
theorem dX8_ask_13 : decode cX8_ask 13 = .ok (.iload_n 2, 1) := by decide +kernel
theorem dX8_ask_14 : decode cX8_ask 14 = .ok (.iconst 2, 1) := by decide +kernel
theorem dX8_ask_15 : decode cX8_ask 15 = .ok (.if_icmp .gt 14, 3) := by decide +kernel
theorem dX8_ask_18 : decode cX8_ask 18 = .ok (.iload_n 3, 1) := by decide +kernel
theorem dX8_ask_19 : decode cX8_ask 19 = .ok (.iconst 1, 1) := by decide +kernel
theorem dX8_ask_20 : decode cX8_ask 20 = .ok (.if_icmp .lt 9, 3) := by decide +kernel
theorem dX8_ask_23 : decode cX8_ask 23 = .ok (.iload_n 3, 1) := by decide +kernel
theorem dX8_ask_24 : decode cX8_ask 24 = .ok (.bipush 60, 2) := by decide +kernel
theorem dX8_ask_26 : decode cX8_ask 26 = .ok (.if_icmp .le 7, 3) := by decide +kernel
theorem dX8_ask_29 : decode cX8_ask 29 = .ok (.iconst 1, 1) := by decide +kernel
theorem dX8_ask_30 : decode cX8_ask 30 = .ok (.goto 4, 3) := by decide +kernel
theorem dX8_ask_33 : decode cX8_ask 33 = .ok (.iconst 0, 1) := by decide +kernel
theorem dX8_ask_34 : decode cX8_ask 34 = .ok (.invokevirtual 112, 3) := by decide +kernel
theorem dX8_ask_37 : decode cX8_ask 37 = .ok (.ifCond .eq 4, 3) := by decide +kernel
theorem dX8_ask_40 : decode cX8_ask 40 = .ok (.return_, 1) := by decide +kernel
theorem dX8_ask_41 : decode cX8_ask 41 = .ok (.aload_n 0, 1) := by decide +kernel
theorem dX8_ask_42 : decode cX8_ask 42 = .ok (.invokevirtual 116, 3) := by decide +kernel
theorem dX8_ask_45 : decode cX8_ask 45 = .ok (.aload_n 0, 1) := by decide +kernel
theorem dX8_ask_46 : decode cX8_ask 46 = .ok (.iconst 1, 1) := by decide +kernel
theorem dX8_ask_47 : decode cX8_ask 47 = .ok (.putfield 203, 3) := by decide +kernel
theorem dX8_ask_50 : decode cX8_ask 50 = .ok (.aload_n 0, 1) := by decide +kernel
theorem dX8_ask_51 : decode cX8_ask 51 = .ok (.iload_n 1, 1) := by decide +kernel
theorem dX8_ask_52 : decode cX8_ask 52 = .ok (.putfield 246, 3) := by decide +kernel
theorem dX8_ask_55 : decode cX8_ask 55 = .ok (.aload_n 0, 1) := by decide +kernel
theorem dX8_ask_56 : decode cX8_ask 56 = .ok (.iload_n 2, 1) := by decide +kernel
theorem dX8_ask_57 : decode cX8_ask 57 = .ok (.putfield 249, 3) := by decide +kernel
theorem dX8_ask_60 : decode cX8_ask 60 = .ok (.aload_n 0, 1) := by decide +kernel
theorem dX8_ask_61 : decode cX8_ask 61 = .ok (.iload_n 3, 1) := by decide +kernel
theorem dX8_ask_62 : decode cX8_ask 62 = .ok (.putfield 252, 3) := by decide +kernel
theorem dX8_ask_65 : decode cX8_ask 65 = .ok (.aload_n 0, 1) := by decide +kernel
theorem dX8_ask_66 : decode cX8_ask 66 = .ok (.getfield 78, 3) := by decide +kernel
theorem dX8_ask_69 : decode cX8_ask 69 = .ok (.iconst 0, 1) := by decide +kernel
theorem dX8_ask_70 : decode cX8_ask 70 = .ok (.iconst 0, 1) := by decide +kernel
theorem dX8_ask_71 : decode cX8_ask 71 = .ok (.iastore, 1) := by decide +kernel
theorem dX8_ask_72 : decode cX8_ask 72 = .ok (.aload_n 0, 1) := by decide +kernel
theorem dX8_ask_73 : decode cX8_ask 73 = .ok (.iconst 1, 1) := by decide +kernel
theorem dX8_ask_74 : decode cX8_ask 74 = .ok (.putfield 213, 3) := by decide +kernel
theorem dX8_ask_77 : decode cX8_ask 77 = .ok (.return_, 1) := by decide +kernel
theorem dX8_go_0 : decode cX8_go 0 = .ok (.aload_n 0, 1) := by decide +kernel
theorem dX8_go_1 : decode cX8_go 1 = .ok (.iconst 0, 1) := by decide +kernel
theorem dX8_go_2 : decode cX8_go 2 = .ok (.putfield 119, 3) := by decide +kernel
theorem dX8_go_5 : decode cX8_go 5 = .ok (.aload_n 0, 1) := by decide +kernel
theorem dX8_go_6 : decode cX8_go 6 = .ok (.getfield 26, 3) := by decide +kernel
theorem dX8_go_9 : decode cX8_go 9 = .ok (.iconst 0, 1) := by decide +kernel
theorem dX8_go_10 : decode cX8_go 10 = .ok (.iconst 0, 1) := by decide +kernel
theorem dX8_go_11 : decode cX8_go 11 = .ok (.iastore, 1) := by decide +kernel
theorem dX8_go_12 : decode cX8_go 12 = .ok (.aload_n 0, 1) := by decide +kernel
theorem dX8_go_13 : decode cX8_go 13 = .ok (.iconst 0, 1) := by decide +kernel
theorem dX8_go_14 : decode cX8_go 14 = .ok (.putfield 135, 3) := by decide +kernel
theorem dX8_go_17 : decode cX8_go 17 = .ok (.aload_n 0, 1) := by decide +kernel
theorem dX8_go_18 : decode cX8_go 18 = .ok (.iconst 0, 1) := by decide +kernel
theorem dX8_go_19 : decode cX8_go 19 = .ok (.putfield 184, 3) := by decide +kernel
theorem dX8_go_22 : decode cX8_go 22 = .ok (.aload_n 0, 1) := by decide +kernel
theorem dX8_go_23 : decode cX8_go 23 = .ok (.iconst 0, 1) := by decide +kernel
theorem dX8_go_24 : decode cX8_go 24 = .ok (.putfield 126, 3) := by decide +kernel
theorem dX8_go_27 : decode cX8_go 27 = .ok (.aload_n 0, 1) := by decide +kernel
theorem dX8_go_28 : decode cX8_go 28 = .ok (.getfield 50, 3) := by decide +kernel
theorem dX8_go_31 : decode cX8_go 31 = .ok (.iconst 0, 1) := by decide +kernel
theorem dX8_go_32 : decode cX8_go 32 = .ok (.iload_n 1, 1) := by decide +kernel
theorem dX8_go_33 : decode cX8_go 33 = .ok (.iastore, 1) := by decide +kernel
theorem dX8_go_34 : decode cX8_go 34 = .ok (.aload_n 0, 1) := by decide +kernel
theorem dX8_go_35 : decode cX8_go 35 = .ok (.invokevirtual 187, 3) := by decide +kernel
theorem dX8_go_38 : decode cX8_go 38 = .ok (.aload_n 0, 1) := by decide +kernel
theorem dX8_go_39 : decode cX8_go 39 = .ok (.aload_n 0, 1) := by decide +kernel
theorem dX8_go_40 : decode cX8_go 40 = .ok (.getfield 246, 3) := by decide +kernel
theorem dX8_go_43 : decode cX8_go 43 = .ok (.invokevirtual 179, 3) := by decide +kernel
theorem dX8_go_46 : decode cX8_go 46 = .ok (.return_, 1) := by decide +kernel
theorem dX8_next_0 : decode cX8_next 0 = .ok (.aload_n 0, 1) := by decide +kernel
theorem dX8_next_1 : decode cX8_next 1 = .ok (.aload_n 0, 1) := by decide +kernel
theorem dX8_next_2 : decode cX8_next 2 = .ok (.getfield 203, 3) := by decide +kernel
theorem dX8_next_5 : decode cX8_next 5 = .ok (.ifCond .ne 7, 3) := by decide +kernel
theorem dX8_next_8 : decode cX8_next 8 = .ok (.iconst 1, 1) := by decide +kernel
theorem dX8_next_9 : decode cX8_next 9 = .ok (.goto 4, 3) := by decide +kernel
theorem dX8_next_12 : decode cX8_next 12 = .ok (.iconst 0, 1) := by decide +kernel
theorem dX8_next_13 : decode cX8_next 13 = .ok (.invokevirtual 112, 3) := by decide +kernel
theorem dX8_next_16 : decode cX8_next 16 = .ok (.ifCond .eq 5, 3) := by decide +kernel
theorem dX8_next_19 : decode cX8_next 19 = .ok (.iconst 0, 1) := by decide +kernel
theorem dX8_next_20 : decode cX8_next 20 = .ok (.ireturn, 1) := by decide +kernel
theorem dX8_next_21 : decode cX8_next 21 = .ok (.aload_n 0, 1) := by decide +kernel
theorem dX8_next_22 : decode cX8_next 22 = .ok (.getfield 207, 3) := by decide +kernel
theorem dX8_next_25 : decode cX8_next 25 = .ok (.ifCond .eq 5, 3) := by decide +kernel
theorem dX8_next_28 : decode cX8_next 28 = .ok (.iconst 2, 1) := by decide +kernel
theorem dX8_next_29 : decode cX8_next 29 = .ok (.ireturn, 1) := by decide +kernel
theorem dX8_next_30 : decode cX8_next 30 = .ok (.aload_n 0, 1) := by decide +kernel
theorem dX8_next_31 : decode cX8_next 31 = .ok (.getfield 213, 3) := by decide +kernel
theorem dX8_next_34 : decode cX8_next 34 = .ok (.ifCond .gt 14, 3) := by decide +kernel
theorem dX8_next_37 : decode cX8_next 37 = .ok (.aload_n 0, 1) := by decide +kernel
theorem dX8_next_38 : decode cX8_next 38 = .ok (.getfield 219, 3) := by decide +kernel
theorem dX8_next_41 : decode cX8_next 41 = .ok (.aload_n 0, 1) := by decide +kernel
theorem dX8_next_42 : decode cX8_next 42 = .ok (.getfield 216, 3) := by decide +kernel
theorem dX8_next_45 : decode cX8_next 45 = .ok (.if_icmp .ge 69, 3) := by decide +kernel
theorem dX8_next_48 : decode cX8_next 48 = .ok (.aload_n 0, 1) := by decide +kernel
theorem dX8_next_49 : decode cX8_next 49 = .ok (.getfield 222, 3) := by decide +kernel
theorem dX8_next_52 : decode cX8_next 52 = .ok (.sipush 200, 3) := by decide +kernel
theorem dX8_next_55 : decode cX8_next 55 = .ok (.if_icmp .ne 10, 3) := by decide +kernel
theorem dX8_next_58 : decode cX8_next 58 = .ok (.aload_n 0, 1) := by decide +kernel
theorem dX8_next_59 : decode cX8_next 59 = .ok (.iconst 1, 1) := by decide +kernel
theorem dX8_next_60 : decode cX8_next 60 = .ok (.putfield 207, 3) := by decide +kernel
theorem dX8_next_63 : decode cX8_next 63 = .ok (.iconst 2, 1) := by decide +kernel
theorem dX8_next_64 : decode cX8_next 64 = .ok (.ireturn, 1) := by decide +kernel
theorem dX8_next_65 : decode cX8_next 65 = .ok (.aload_n 0, 1) := by decide +kernel
theorem dX8_next_66 : decode cX8_next 66 = .ok (.dup, 1) := by decide +kernel
theorem dX8_next_67 : decode cX8_next 67 = .ok (.getfield 222, 3) := by decide +kernel
theorem dX8_next_70 : decode cX8_next 70 = .ok (.iconst 1, 1) := by decide +kernel
theorem dX8_next_71 : decode cX8_next 71 = .ok (.iadd, 1) := by decide +kernel
theorem dX8_next_72 : decode cX8_next 72 = .ok (.putfield 222, 3) := by decide +kernel
theorem dX8_next_75 : decode cX8_next 75 = .ok (.aload_n 0, 1) := by decide +kernel
theorem dX8_next_76 : decode cX8_next 76 = .ok (.invokevirtual 255, 3) := by decide +kernel
theorem dX8_next_79 : decode cX8_next 79 = .ok (.istore_n 1, 1) := by decide +kernel
theorem dX8_next_80 : decode cX8_next 80 = .ok (.aload_n 0, 1) := by decide +kernel
theorem dX8_next_81 : decode cX8_next 81 = .ok (.iload_n 1, 1) := by decide +kernel
theorem dX8_next_82 : decode cX8_next 82 = .ok (.invokevirtual 259, 3) := by decide +kernel
theorem dX8_next_85 : decode cX8_next 85 = .ok (.aload_n 0, 1) := by decide +kernel
theorem dX8_next_86 : decode cX8_next 86 = .ok (.getfield 126, 3) := by decide +kernel
theorem dX8_next_89 : decode cX8_next 89 = .ok (.iconst 3, 1) := by decide +kernel
theorem dX8_next_90 : decode cX8_next 90 = .ok (.if_icmp .ne 11, 3) := by decide +kernel
theorem dX8_next_93 : decode cX8_next 93 = .ok (.aload_n 0, 1) := by decide +kernel
theorem dX8_next_94 : decode cX8_next 94 = .ok (.iload_n 1, 1) := by decide +kernel
theorem dX8_next_95 : decode cX8_next 95 = .ok (.invokevirtual 262, 3) := by decide +kernel
theorem dX8_next_98 : decode cX8_next 98 = .ok (.goto 13, 3) := by decide +kernel
theorem dX8_next_101 : decode cX8_next 101 = .ok (.aload_n 0, 1) := by decide +kernel
theorem dX8_next_102 : decode cX8_next 102 = .ok (.iload_n 1, 1) := by decide +kernel
theorem dX8_next_103 : decode cX8_next 103 = .ok (.invokevirtual 265, 3) := by decide +kernel
theorem dX8_next_106 : decode cX8_next 106 = .ok (.ifCond .eq 5, 3) := by decide +kernel
theorem dX8_next_109 : decode cX8_next 109 = .ok (.iconst 1, 1) := by decide +kernel
theorem dX8_next_110 : decode cX8_next 110 = .ok (.ireturn, 1) := by decide +kernel
theorem dX8_next_111 : decode cX8_next 111 = .ok (.goto (-81), 3) := by decide +kernel
theorem dX8_next_114 : decode cX8_next 114 = .ok (.iconst 0, 1) := by decide +kernel
theorem dX8_next_115 : decode cX8_next 115 = .ok (.ireturn, 1) := by decide +kernel
theorem dX8_fetch_0 : decode cX8_fetch 0 = .ok (.aload_n 0, 1) := by decide +kernel
theorem dX8_fetch_1 : decode cX8_fetch 1 = .ok (.getfield 213, 3) := by decide +kernel
theorem dX8_fetch_4 : decode cX8_fetch 4 = .ok (.ifCond .ne 73, 3) := by decide +kernel
theorem dX8_fetch_7 : decode cX8_fetch 7 = .ok (.aload_n 0, 1) := by decide +kernel
theorem dX8_fetch_8 : decode cX8_fetch 8 = .ok (.getfield 85, 3) := by decide +kernel
theorem dX8_fetch_11 : decode cX8_fetch 11 = .ok (.aload_n 0, 1) := by decide +kernel
theorem dX8_fetch_12 : decode cX8_fetch 12 = .ok (.getfield 219, 3) := by decide +kernel
theorem dX8_fetch_15 : decode cX8_fetch 15 = .ok (.iaload, 1) := by decide +kernel
theorem dX8_fetch_16 : decode cX8_fetch 16 = .ok (.istore_n 1, 1) := by decide +kernel
theorem dX8_fetch_17 : decode cX8_fetch 17 = .ok (.aload_n 0, 1) := by decide +kernel
theorem dX8_fetch_18 : decode cX8_fetch 18 = .ok (.iload_n 1, 1) := by decide +kernel
theorem dX8_fetch_19 : decode cX8_fetch 19 = .ok (.aload_n 0, 1) := by decide +kernel
theorem dX8_fetch_20 : decode cX8_fetch 20 = .ok (.getfield 252, 3) := by decide +kernel
theorem dX8_fetch_23 : decode cX8_fetch 23 = .ok (.idiv, 1) := by decide +kernel
theorem dX8_fetch_24 : decode cX8_fetch 24 = .ok (.putfield 210, 3) := by decide +kernel
theorem dX8_fetch_27 : decode cX8_fetch 27 = .ok (.iconst 0, 1) := by decide +kernel
theorem dX8_fetch_28 : decode cX8_fetch 28 = .ok (.istore_n 2, 1) := by decide +kernel
theorem dX8_fetch_29 : decode cX8_fetch 29 = .ok (.iload_n 2, 1) := by decide +kernel
theorem dX8_fetch_30 : decode cX8_fetch 30 = .ok (.iload_n 1, 1) := by decide +kernel
theorem dX8_fetch_31 : decode cX8_fetch 31 = .ok (.if_icmp .ge 34, 3) := by decide +kernel
theorem dX8_fetch_34 : decode cX8_fetch 34 = .ok (.aload_n 0, 1) := by decide +kernel
theorem dX8_fetch_35 : decode cX8_fetch 35 = .ok (.getfield 47, 3) := by decide +kernel
theorem dX8_fetch_38 : decode cX8_fetch 38 = .ok (.iload_n 2, 1) := by decide +kernel
theorem dX8_fetch_39 : decode cX8_fetch 39 = .ok (.aload_n 0, 1) := by decide +kernel
theorem dX8_fetch_40 : decode cX8_fetch 40 = .ok (.getfield 82, 3) := by decide +kernel
theorem dX8_fetch_43 : decode cX8_fetch 43 = .ok (.sipush 256, 3) := by decide +kernel
theorem dX8_fetch_46 : decode cX8_fetch 46 = .ok (.aload_n 0, 1) := by decide +kernel
theorem dX8_fetch_47 : decode cX8_fetch 47 = .ok (.getfield 219, 3) := by decide +kernel
theorem dX8_fetch_50 : decode cX8_fetch 50 = .ok (.sipush 512, 3) := by decide +kernel
theorem dX8_fetch_53 : decode cX8_fetch 53 = .ok (.irem, 1) := by decide +kernel
theorem dX8_fetch_54 : decode cX8_fetch 54 = .ok (.imul, 1) := by decide +kernel
theorem dX8_fetch_55 : decode cX8_fetch 55 = .ok (.iload_n 2, 1) := by decide +kernel
theorem dX8_fetch_56 : decode cX8_fetch 56 = .ok (.iadd, 1) := by decide +kernel
theorem dX8_fetch_57 : decode cX8_fetch 57 = .ok (.iaload, 1) := by decide +kernel
theorem dX8_fetch_58 : decode cX8_fetch 58 = .ok (.iastore, 1) := by decide +kernel
theorem dX8_fetch_59 : decode cX8_fetch 59 = .ok (.iinc 2 1, 3) := by decide +kernel
theorem dX8_fetch_62 : decode cX8_fetch 62 = .ok (.goto (-33), 3) := by decide +kernel
theorem dX8_fetch_65 : decode cX8_fetch 65 = .ok (.aload_n 0, 1) := by decide +kernel
theorem dX8_fetch_66 : decode cX8_fetch 66 = .ok (.dup, 1) := by decide +kernel
theorem dX8_fetch_67 : decode cX8_fetch 67 = .ok (.getfield 219, 3) := by decide +kernel
theorem dX8_fetch_70 : decode cX8_fetch 70 = .ok (.iconst 1, 1) := by decide +kernel
theorem dX8_fetch_71 : decode cX8_fetch 71 = .ok (.iadd, 1) := by decide +kernel
theorem dX8_fetch_72 : decode cX8_fetch 72 = .ok (.putfield 219, 3) := by decide +kernel
theorem dX8_fetch_75 : decode cX8_fetch 75 = .ok (.iload_n 1, 1) := by decide +kernel
theorem dX8_fetch_76 : decode cX8_fetch 76 = .ok (.ireturn, 1) := by decide +kernel
theorem dX8_fetch_77 : decode cX8_fetch 77 = .ok (.aload_n 0, 1) := by decide +kernel
theorem dX8_fetch_78 : decode cX8_fetch 78 = .ok (.dup, 1) := by decide +kernel
theorem dX8_fetch_79 : decode cX8_fetch 79 = .ok (.getfield 213, 3) := by decide +kernel
theorem dX8_fetch_82 : decode cX8_fetch 82 = .ok (.iconst 1, 1) := by decide +kernel
theorem dX8_fetch_83 : decode cX8_fetch 83 = .ok (.isub, 1) := by decide +kernel
theorem dX8_fetch_84 : decode cX8_fetch 84 = .ok (.putfield 213, 3) := by decide +kernel
theorem dX8_fetch_87 : decode cX8_fetch 87 = .ok (.iconst 0, 1) := by decide +kernel
theorem dX8_fetch_88 : decode cX8_fetch 88 = .ok (.istore_n 1, 1) := by decide +kernel
theorem dX8_fetch_89 : decode cX8_fetch 89 = .ok (.iload_n 1, 1) := by decide +kernel
theorem dX8_fetch_90 : decode cX8_fetch 90 = .ok (.aload_n 0, 1) := by decide +kernel
theorem dX8_fetch_91 : decode cX8_fetch 91 = .ok (.getfield 78, 3) := by decide +kernel
theorem dX8_fetch_94 : decode cX8_fetch 94 = .ok (.aload_n 0, 1) := by decide +kernel
theorem dX8_fetch_95 : decode cX8_fetch 95 = .ok (.getfield 213, 3) := by decide +kernel
theorem dX8_fetch_98 : decode cX8_fetch 98 = .ok (.iaload, 1) := by decide +kernel
theorem dX8_fetch_99 : decode cX8_fetch 99 = .ok (.if_icmp .ge 30, 3) := by decide +kernel
theorem dX8_fetch_102 : decode cX8_fetch 102 = .ok (.aload_n 0, 1) := by decide +kernel
theorem dX8_fetch_103 : decode cX8_fetch 103 = .ok (.getfield 47, 3) := by decide +kernel
theorem dX8_fetch_106 : decode cX8_fetch 106 = .ok (.iload_n 1, 1) := by decide +kernel
theorem dX8_fetch_107 : decode cX8_fetch 107 = .ok (.aload_n 0, 1) := by decide +kernel
theorem dX8_fetch_108 : decode cX8_fetch 108 = .ok (.getfield 75, 3) := by decide +kernel
theorem dX8_fetch_111 : decode cX8_fetch 111 = .ok (.sipush 256, 3) := by decide +kernel
theorem dX8_fetch_114 : decode cX8_fetch 114 = .ok (.aload_n 0, 1) := by decide +kernel
theorem dX8_fetch_115 : decode cX8_fetch 115 = .ok (.getfield 213, 3) := by decide +kernel
theorem dX8_fetch_118 : decode cX8_fetch 118 = .ok (.imul, 1) := by decide +kernel
theorem dX8_fetch_119 : decode cX8_fetch 119 = .ok (.iload_n 1, 1) := by decide +kernel
theorem dX8_fetch_120 : decode cX8_fetch 120 = .ok (.iadd, 1) := by decide +kernel
theorem dX8_fetch_121 : decode cX8_fetch 121 = .ok (.iaload, 1) := by decide +kernel
theorem dX8_fetch_122 : decode cX8_fetch 122 = .ok (.iastore, 1) := by decide +kernel
theorem dX8_fetch_123 : decode cX8_fetch 123 = .ok (.iinc 1 1, 3) := by decide +kernel
theorem dX8_fetch_126 : decode cX8_fetch 126 = .ok (.goto (-37), 3) := by decide +kernel
theorem dX8_fetch_129 : decode cX8_fetch 129 = .ok (.aload_n 0, 1) := by decide +kernel
theorem dX8_fetch_130 : decode cX8_fetch 130 = .ok (.getfield 78, 3) := by decide +kernel
theorem dX8_fetch_133 : decode cX8_fetch 133 = .ok (.aload_n 0, 1) := by decide +kernel
theorem dX8_fetch_134 : decode cX8_fetch 134 = .ok (.getfield 213, 3) := by decide +kernel
theorem dX8_fetch_137 : decode cX8_fetch 137 = .ok (.iaload, 1) := by decide +kernel
theorem dX8_fetch_138 : decode cX8_fetch 138 = .ok (.ireturn, 1) := by decide +kernel
theorem dX8_decide_0 : decode cX8_decide 0 = .ok (.aload_n 0, 1) := by decide +kernel
theorem dX8_decide_1 : decode cX8_decide 1 = .ok (.getfield 249, 3) := by decide +kernel
theorem dX8_decide_4 : decode cX8_decide 4 = .ok (.iconst 2, 1) := by decide +kernel
theorem dX8_decide_5 : decode cX8_decide 5 = .ok (.if_icmp .ne 22, 3) := by decide +kernel
theorem dX8_decide_8 : decode cX8_decide 8 = .ok (.iload_n 1, 1) := by decide +kernel
theorem dX8_decide_9 : decode cX8_decide 9 = .ok (.aload_n 0, 1) := by decide +kernel
theorem dX8_decide_10 : decode cX8_decide 10 = .ok (.getfield 252, 3) := by decide +kernel
theorem dX8_decide_13 : decode cX8_decide 13 = .ok (.if_icmp .ne 14, 3) := by decide +kernel
theorem dX8_decide_16 : decode cX8_decide 16 = .ok (.aload_n 0, 1) := by decide +kernel
theorem dX8_decide_17 : decode cX8_decide 17 = .ok (.dup, 1) := by decide +kernel
theorem dX8_decide_18 : decode cX8_decide 18 = .ok (.getfield 234, 3) := by decide +kernel
theorem dX8_decide_21 : decode cX8_decide 21 = .ok (.iconst 1, 1) := by decide +kernel
theorem dX8_decide_22 : decode cX8_decide 22 = .ok (.iadd, 1) := by decide +kernel
theorem dX8_decide_23 : decode cX8_decide 23 = .ok (.putfield 234, 3) := by decide +kernel
theorem dX8_decide_26 : decode cX8_decide 26 = .ok (.return_, 1) := by decide +kernel
theorem dX8_decide_27 : decode cX8_decide 27 = .ok (.aload_n 0, 1) := by decide +kernel
theorem dX8_decide_28 : decode cX8_decide 28 = .ok (.getfield 249, 3) := by decide +kernel
theorem dX8_decide_31 : decode cX8_decide 31 = .ok (.iconst 1, 1) := by decide +kernel
theorem dX8_decide_32 : decode cX8_decide 32 = .ok (.if_icmp .ne 22, 3) := by decide +kernel
theorem dX8_decide_35 : decode cX8_decide 35 = .ok (.iload_n 1, 1) := by decide +kernel
theorem dX8_decide_36 : decode cX8_decide 36 = .ok (.iconst 1, 1) := by decide +kernel
theorem dX8_decide_37 : decode cX8_decide 37 = .ok (.iadd, 1) := by decide +kernel
theorem dX8_decide_38 : decode cX8_decide 38 = .ok (.aload_n 0, 1) := by decide +kernel
theorem dX8_decide_39 : decode cX8_decide 39 = .ok (.getfield 252, 3) := by decide +kernel
theorem dX8_decide_42 : decode cX8_decide 42 = .ok (.idiv, 1) := by decide +kernel
theorem dX8_decide_43 : decode cX8_decide 43 = .ok (.aload_n 0, 1) := by decide +kernel
theorem dX8_decide_44 : decode cX8_decide 44 = .ok (.getfield 210, 3) := by decide +kernel
theorem dX8_decide_47 : decode cX8_decide 47 = .ok (.if_icmp .le 7, 3) := by decide +kernel
theorem dX8_decide_50 : decode cX8_decide 50 = .ok (.iconst 1, 1) := by decide +kernel
theorem dX8_decide_51 : decode cX8_decide 51 = .ok (.goto 4, 3) := by decide +kernel
theorem dX8_decide_54 : decode cX8_decide 54 = .ok (.iconst 0, 1) := by decide +kernel
theorem dX8_decide_55 : decode cX8_decide 55 = .ok (.istore_n 2, 1) := by decide +kernel
theorem dX8_decide_56 : decode cX8_decide 56 = .ok (.iconst 1, 1) := by decide +kernel
theorem dX8_decide_57 : decode cX8_decide 57 = .ok (.istore_n 3, 1) := by decide +kernel
theorem dX8_decide_58 : decode cX8_decide 58 = .ok (.iload_n 3, 1) := by decide +kernel
theorem dX8_decide_59 : decode cX8_decide 59 = .ok (.ifCond .lt 111, 3) := by decide +kernel
theorem dX8_decide_62 : decode cX8_decide 62 = .ok (.iload_n 2, 1) := by decide +kernel
theorem dX8_decide_63 : decode cX8_decide 63 = .ok (.ifCond .eq 9, 3) := by decide +kernel
theorem dX8_decide_66 : decode cX8_decide 66 = .ok (.iconst 1, 1) := by decide +kernel
theorem dX8_decide_67 : decode cX8_decide 67 = .ok (.iload_n 3, 1) := by decide +kernel
theorem dX8_decide_68 : decode cX8_decide 68 = .ok (.isub, 1) := by decide +kernel
theorem dX8_decide_69 : decode cX8_decide 69 = .ok (.goto 4, 3) := by decide +kernel
theorem dX8_decide_72 : decode cX8_decide 72 = .ok (.iload_n 3, 1) := by decide +kernel
theorem dX8_decide_73 : decode cX8_decide 73 = .ok (.istore 4, 2) := by decide +kernel
theorem dX8_decide_75 : decode cX8_decide 75 = .ok (.iload_n 2, 1) := by decide +kernel
theorem dX8_decide_76 : decode cX8_decide 76 = .ok (.ifCond .eq 47, 3) := by decide +kernel
theorem dX8_decide_79 : decode cX8_decide 79 = .ok (.aload_n 0, 1) := by decide +kernel
theorem dX8_decide_80 : decode cX8_decide 80 = .ok (.aload_n 0, 1) := by decide +kernel
theorem dX8_decide_81 : decode cX8_decide 81 = .ok (.getfield 82, 3) := by decide +kernel
theorem dX8_decide_84 : decode cX8_decide 84 = .ok (.sipush 256, 3) := by decide +kernel
theorem dX8_decide_87 : decode cX8_decide 87 = .ok (.aload_n 0, 1) := by decide +kernel
theorem dX8_decide_88 : decode cX8_decide 88 = .ok (.getfield 216, 3) := by decide +kernel
theorem dX8_decide_91 : decode cX8_decide 91 = .ok (.imul, 1) := by decide +kernel
theorem dX8_decide_92 : decode cX8_decide 92 = .ok (.iload_n 1, 1) := by decide +kernel
theorem dX8_decide_93 : decode cX8_decide 93 = .ok (.iload 4, 2) := by decide +kernel
theorem dX8_decide_95 : decode cX8_decide 95 = .ok (.invokevirtual 268, 3) := by decide +kernel
theorem dX8_decide_98 : decode cX8_decide 98 = .ok (.aload_n 0, 1) := by decide +kernel
theorem dX8_decide_99 : decode cX8_decide 99 = .ok (.getfield 85, 3) := by decide +kernel
theorem dX8_decide_102 : decode cX8_decide 102 = .ok (.aload_n 0, 1) := by decide +kernel
theorem dX8_decide_103 : decode cX8_decide 103 = .ok (.getfield 216, 3) := by decide +kernel
theorem dX8_decide_106 : decode cX8_decide 106 = .ok (.iload_n 1, 1) := by decide +kernel
theorem dX8_decide_107 : decode cX8_decide 107 = .ok (.iconst 1, 1) := by decide +kernel
theorem dX8_decide_108 : decode cX8_decide 108 = .ok (.iadd, 1) := by decide +kernel
theorem dX8_decide_109 : decode cX8_decide 109 = .ok (.iastore, 1) := by decide +kernel
theorem dX8_decide_110 : decode cX8_decide 110 = .ok (.aload_n 0, 1) := by decide +kernel
theorem dX8_decide_111 : decode cX8_decide 111 = .ok (.dup, 1) := by decide +kernel
theorem dX8_decide_112 : decode cX8_decide 112 = .ok (.getfield 216, 3) := by decide +kernel
theorem dX8_decide_115 : decode cX8_decide 115 = .ok (.iconst 1, 1) := by decide +kernel
theorem dX8_decide_116 : decode cX8_decide 116 = .ok (.iadd, 1) := by decide +kernel
theorem dX8_decide_117 : decode cX8_decide 117 = .ok (.putfield 216, 3) := by decide +kernel
theorem dX8_decide_120 : decode cX8_decide 120 = .ok (.goto 44, 3) := by decide +kernel
theorem dX8_decide_123 : decode cX8_decide 123 = .ok (.aload_n 0, 1) := by decide +kernel
theorem dX8_decide_124 : decode cX8_decide 124 = .ok (.aload_n 0, 1) := by decide +kernel
theorem dX8_decide_125 : decode cX8_decide 125 = .ok (.getfield 75, 3) := by decide +kernel
theorem dX8_decide_128 : decode cX8_decide 128 = .ok (.sipush 256, 3) := by decide +kernel
theorem dX8_decide_131 : decode cX8_decide 131 = .ok (.aload_n 0, 1) := by decide +kernel
theorem dX8_decide_132 : decode cX8_decide 132 = .ok (.getfield 213, 3) := by decide +kernel
theorem dX8_decide_135 : decode cX8_decide 135 = .ok (.imul, 1) := by decide +kernel
theorem dX8_decide_136 : decode cX8_decide 136 = .ok (.iload_n 1, 1) := by decide +kernel
theorem dX8_decide_137 : decode cX8_decide 137 = .ok (.iload 4, 2) := by decide +kernel
theorem dX8_decide_139 : decode cX8_decide 139 = .ok (.invokevirtual 268, 3) := by decide +kernel
theorem dX8_decide_142 : decode cX8_decide 142 = .ok (.aload_n 0, 1) := by decide +kernel
theorem dX8_decide_143 : decode cX8_decide 143 = .ok (.getfield 78, 3) := by decide +kernel
theorem dX8_decide_146 : decode cX8_decide 146 = .ok (.aload_n 0, 1) := by decide +kernel
theorem dX8_decide_147 : decode cX8_decide 147 = .ok (.getfield 213, 3) := by decide +kernel
theorem dX8_decide_150 : decode cX8_decide 150 = .ok (.iload_n 1, 1) := by decide +kernel
theorem dX8_decide_151 : decode cX8_decide 151 = .ok (.iconst 1, 1) := by decide +kernel
theorem dX8_decide_152 : decode cX8_decide 152 = .ok (.iadd, 1) := by decide +kernel
theorem dX8_decide_153 : decode cX8_decide 153 = .ok (.iastore, 1) := by decide +kernel
theorem dX8_decide_154 : decode cX8_decide 154 = .ok (.aload_n 0, 1) := by decide +kernel
theorem dX8_decide_155 : decode cX8_decide 155 = .ok (.dup, 1) := by decide +kernel
theorem dX8_decide_156 : decode cX8_decide 156 = .ok (.getfield 213, 3) := by decide +kernel
theorem dX8_decide_159 : decode cX8_decide 159 = .ok (.iconst 1, 1) := by decide +kernel
theorem dX8_decide_160 : decode cX8_decide 160 = .ok (.iadd, 1) := by decide +kernel
theorem dX8_decide_161 : decode cX8_decide 161 = .ok (.putfield 213, 3) := by decide +kernel
theorem dX8_decide_164 : decode cX8_decide 164 = .ok (.iinc 3 (-1), 3) := by decide +kernel
theorem dX8_decide_167 : decode cX8_decide 167 = .ok (.goto (-109), 3) := by decide +kernel
theorem dX8_decide_170 : decode cX8_decide 170 = .ok (.return_, 1) := by decide +kernel
theorem dX8_copy_0 : decode cX8_copy 0 = .ok (.iconst 0, 1) := by decide +kernel
theorem dX8_copy_1 : decode cX8_copy 1 = .ok (.istore 5, 2) := by decide +kernel
theorem dX8_copy_3 : decode cX8_copy 3 = .ok (.iload 5, 2) := by decide +kernel
theorem dX8_copy_5 : decode cX8_copy 5 = .ok (.iload_n 3, 1) := by decide +kernel
theorem dX8_copy_6 : decode cX8_copy 6 = .ok (.if_icmp .ge 22, 3) := by decide +kernel
theorem dX8_copy_9 : decode cX8_copy 9 = .ok (.aload_n 1, 1) := by decide +kernel
theorem dX8_copy_10 : decode cX8_copy 10 = .ok (.iload_n 2, 1) := by decide +kernel
theorem dX8_copy_11 : decode cX8_copy 11 = .ok (.iload 5, 2) := by decide +kernel
theorem dX8_copy_13 : decode cX8_copy 13 = .ok (.iadd, 1) := by decide +kernel
theorem dX8_copy_14 : decode cX8_copy 14 = .ok (.aload_n 0, 1) := by decide +kernel
theorem dX8_copy_15 : decode cX8_copy 15 = .ok (.getfield 47, 3) := by decide +kernel
theorem dX8_copy_18 : decode cX8_copy 18 = .ok (.iload 5, 2) := by decide +kernel
theorem dX8_copy_20 : decode cX8_copy 20 = .ok (.iaload, 1) := by decide +kernel
theorem dX8_copy_21 : decode cX8_copy 21 = .ok (.iastore, 1) := by decide +kernel
theorem dX8_copy_22 : decode cX8_copy 22 = .ok (.iinc 5 1, 3) := by decide +kernel
theorem dX8_copy_25 : decode cX8_copy 25 = .ok (.goto (-22), 3) := by decide +kernel
theorem dX8_copy_28 : decode cX8_copy 28 = .ok (.aload_n 1, 1) := by decide +kernel
theorem dX8_copy_29 : decode cX8_copy 29 = .ok (.iload_n 2, 1) := by decide +kernel
theorem dX8_copy_30 : decode cX8_copy 30 = .ok (.iload_n 3, 1) := by decide +kernel
theorem dX8_copy_31 : decode cX8_copy 31 = .ok (.iadd, 1) := by decide +kernel
theorem dX8_copy_32 : decode cX8_copy 32 = .ok (.iload 4, 2) := by decide +kernel
theorem dX8_copy_34 : decode cX8_copy 34 = .ok (.iastore, 1) := by decide +kernel
theorem dX8_copy_35 : decode cX8_copy 35 = .ok (.return_, 1) := by decide +kernel
theorem dX8_ends_0 : decode cX8_ends 0 = .ok (.aload_n 0, 1) := by decide +kernel
theorem dX8_ends_1 : decode cX8_ends 1 = .ok (.getfield 126, 3) := by decide +kernel
theorem dX8_ends_4 : decode cX8_ends 4 = .ok (.iconst 1, 1) := by decide +kernel
theorem dX8_ends_5 : decode cX8_ends 5 = .ok (.if_icmp .ne 15, 3) := by decide +kernel
theorem dX8_ends_8 : decode cX8_ends 8 = .ok (.aload_n 0, 1) := by decide +kernel
theorem dX8_ends_9 : decode cX8_ends 9 = .ok (.dup, 1) := by decide +kernel
theorem dX8_ends_10 : decode cX8_ends 10 = .ok (.getfield 228, 3) := by decide +kernel
theorem dX8_ends_13 : decode cX8_ends 13 = .ok (.iconst 1, 1) := by decide +kernel
theorem dX8_ends_14 : decode cX8_ends 14 = .ok (.iadd, 1) := by decide +kernel
theorem dX8_ends_15 : decode cX8_ends 15 = .ok (.putfield 228, 3) := by decide +kernel
theorem dX8_ends_18 : decode cX8_ends 18 = .ok (.iconst 0, 1) := by decide +kernel
theorem dX8_ends_19 : decode cX8_ends 19 = .ok (.ireturn, 1) := by decide +kernel
theorem dX8_ends_20 : decode cX8_ends 20 = .ok (.aload_n 0, 1) := by decide +kernel
theorem dX8_ends_21 : decode cX8_ends 21 = .ok (.getfield 126, 3) := by decide +kernel
theorem dX8_ends_24 : decode cX8_ends 24 = .ok (.iconst 2, 1) := by decide +kernel
theorem dX8_ends_25 : decode cX8_ends 25 = .ok (.if_icmp .ne 15, 3) := by decide +kernel
theorem dX8_ends_28 : decode cX8_ends 28 = .ok (.aload_n 0, 1) := by decide +kernel
theorem dX8_ends_29 : decode cX8_ends 29 = .ok (.dup, 1) := by decide +kernel
theorem dX8_ends_30 : decode cX8_ends 30 = .ok (.getfield 231, 3) := by decide +kernel
theorem dX8_ends_33 : decode cX8_ends 33 = .ok (.iconst 1, 1) := by decide +kernel
theorem dX8_ends_34 : decode cX8_ends 34 = .ok (.iadd, 1) := by decide +kernel
theorem dX8_ends_35 : decode cX8_ends 35 = .ok (.putfield 231, 3) := by decide +kernel
theorem dX8_ends_38 : decode cX8_ends 38 = .ok (.iconst 0, 1) := by decide +kernel
theorem dX8_ends_39 : decode cX8_ends 39 = .ok (.ireturn, 1) := by decide +kernel
theorem dX8_ends_40 : decode cX8_ends 40 = .ok (.aload_n 0, 1) := by decide +kernel
theorem dX8_ends_41 : decode cX8_ends 41 = .ok (.dup, 1) := by decide +kernel
theorem dX8_ends_42 : decode cX8_ends 42 = .ok (.getfield 225, 3) := by decide +kernel
theorem dX8_ends_45 : decode cX8_ends 45 = .ok (.iconst 1, 1) := by decide +kernel
theorem dX8_ends_46 : decode cX8_ends 46 = .ok (.iadd, 1) := by decide +kernel
theorem dX8_ends_47 : decode cX8_ends 47 = .ok (.putfield 225, 3) := by decide +kernel
theorem dX8_ends_50 : decode cX8_ends 50 = .ok (.aload_n 0, 1) := by decide +kernel
theorem dX8_ends_51 : decode cX8_ends 51 = .ok (.aload_n 0, 1) := by decide +kernel
theorem dX8_ends_52 : decode cX8_ends 52 = .ok (.getfield 135, 3) := by decide +kernel
theorem dX8_ends_55 : decode cX8_ends 55 = .ok (.putfield 237, 3) := by decide +kernel
theorem dX8_ends_58 : decode cX8_ends 58 = .ok (.aload_n 0, 1) := by decide +kernel
theorem dX8_ends_59 : decode cX8_ends 59 = .ok (.iload_n 1, 1) := by decide +kernel
theorem dX8_ends_60 : decode cX8_ends 60 = .ok (.putfield 240, 3) := by decide +kernel
theorem dX8_ends_63 : decode cX8_ends 63 = .ok (.iconst 0, 1) := by decide +kernel
theorem dX8_ends_64 : decode cX8_ends 64 = .ok (.istore_n 2, 1) := by decide +kernel
theorem dX8_ends_65 : decode cX8_ends 65 = .ok (.iload_n 2, 1) := by decide +kernel
theorem dX8_ends_66 : decode cX8_ends 66 = .ok (.iload_n 1, 1) := by decide +kernel
theorem dX8_ends_67 : decode cX8_ends 67 = .ok (.if_icmp .ge 21, 3) := by decide +kernel
theorem dX8_ends_70 : decode cX8_ends 70 = .ok (.aload_n 0, 1) := by decide +kernel
theorem dX8_ends_71 : decode cX8_ends 71 = .ok (.getfield 88, 3) := by decide +kernel
theorem dX8_ends_74 : decode cX8_ends 74 = .ok (.iload_n 2, 1) := by decide +kernel
theorem dX8_ends_75 : decode cX8_ends 75 = .ok (.aload_n 0, 1) := by decide +kernel
theorem dX8_ends_76 : decode cX8_ends 76 = .ok (.getfield 47, 3) := by decide +kernel
theorem dX8_ends_79 : decode cX8_ends 79 = .ok (.iload_n 2, 1) := by decide +kernel
theorem dX8_ends_80 : decode cX8_ends 80 = .ok (.iaload, 1) := by decide +kernel
theorem dX8_ends_81 : decode cX8_ends 81 = .ok (.iastore, 1) := by decide +kernel
theorem dX8_ends_82 : decode cX8_ends 82 = .ok (.iinc 2 1, 3) := by decide +kernel
theorem dX8_ends_85 : decode cX8_ends 85 = .ok (.goto (-20), 3) := by decide +kernel
theorem dX8_ends_88 : decode cX8_ends 88 = .ok (.aload_n 0, 1) := by decide +kernel
theorem dX8_ends_89 : decode cX8_ends 89 = .ok (.aload_n 0, 1) := by decide +kernel
theorem dX8_ends_90 : decode cX8_ends 90 = .ok (.getfield 62, 3) := by decide +kernel
theorem dX8_ends_93 : decode cX8_ends 93 = .ok (.iconst 0, 1) := by decide +kernel
theorem dX8_ends_94 : decode cX8_ends 94 = .ok (.iaload, 1) := by decide +kernel
theorem dX8_ends_95 : decode cX8_ends 95 = .ok (.putfield 243, 3) := by decide +kernel
theorem dX8_ends_98 : decode cX8_ends 98 = .ok (.iconst 0, 1) := by decide +kernel
theorem dX8_ends_99 : decode cX8_ends 99 = .ok (.istore_n 2, 1) := by decide +kernel
theorem dX8_ends_100 : decode cX8_ends 100 = .ok (.iload_n 2, 1) := by decide +kernel
theorem dX8_ends_101 : decode cX8_ends 101 = .ok (.aload_n 0, 1) := by decide +kernel
theorem dX8_ends_102 : decode cX8_ends 102 = .ok (.getfield 243, 3) := by decide +kernel
theorem dX8_ends_105 : decode cX8_ends 105 = .ok (.if_icmp .ge 33, 3) := by decide +kernel
theorem dX8_ends_108 : decode cX8_ends 108 = .ok (.aload_n 0, 1) := by decide +kernel
theorem dX8_ends_109 : decode cX8_ends 109 = .ok (.getfield 91, 3) := by decide +kernel
theorem dX8_ends_112 : decode cX8_ends 112 = .ok (.iload_n 2, 1) := by decide +kernel
theorem dX8_ends_113 : decode cX8_ends 113 = .ok (.aload_n 0, 1) := by decide +kernel
theorem dX8_ends_114 : decode cX8_ends 114 = .ok (.getfield 56, 3) := by decide +kernel
theorem dX8_ends_117 : decode cX8_ends 117 = .ok (.iload_n 2, 1) := by decide +kernel
theorem dX8_ends_118 : decode cX8_ends 118 = .ok (.iaload, 1) := by decide +kernel
theorem dX8_ends_119 : decode cX8_ends 119 = .ok (.iastore, 1) := by decide +kernel
theorem dX8_ends_120 : decode cX8_ends 120 = .ok (.aload_n 0, 1) := by decide +kernel
theorem dX8_ends_121 : decode cX8_ends 121 = .ok (.getfield 94, 3) := by decide +kernel
theorem dX8_ends_124 : decode cX8_ends 124 = .ok (.iload_n 2, 1) := by decide +kernel
theorem dX8_ends_125 : decode cX8_ends 125 = .ok (.aload_n 0, 1) := by decide +kernel
theorem dX8_ends_126 : decode cX8_ends 126 = .ok (.getfield 59, 3) := by decide +kernel
theorem dX8_ends_129 : decode cX8_ends 129 = .ok (.iload_n 2, 1) := by decide +kernel
theorem dX8_ends_130 : decode cX8_ends 130 = .ok (.laload, 1) := by decide +kernel
theorem dX8_ends_131 : decode cX8_ends 131 = .ok (.lastore, 1) := by decide +kernel
theorem dX8_ends_132 : decode cX8_ends 132 = .ok (.iinc 2 1, 3) := by decide +kernel
theorem dX8_ends_135 : decode cX8_ends 135 = .ok (.goto (-35), 3) := by decide +kernel
theorem dX8_ends_138 : decode cX8_ends 138 = .ok (.iconst 1, 1) := by decide +kernel
theorem dX8_ends_139 : decode cX8_ends 139 = .ok (.ireturn, 1) := by decide +kernel
theorem dX8_decision_0 : decode cX8_decision 0 = .ok (.aload_n 0, 1) := by decide +kernel
theorem dX8_decision_1 : decode cX8_decision 1 = .ok (.iconst 0, 1) := by decide +kernel
theorem dX8_decision_2 : decode cX8_decision 2 = .ok (.putfield 97, 3) := by decide +kernel
theorem dX8_decision_5 : decode cX8_decision 5 = .ok (.iload_n 1, 1) := by decide +kernel
theorem dX8_decision_6 : decode cX8_decision 6 = .ok (.ifCond .lt 20, 3) := by decide +kernel
theorem dX8_decision_9 : decode cX8_decision 9 = .ok (.iload_n 1, 1) := by decide +kernel
theorem dX8_decision_10 : decode cX8_decision 10 = .ok (.aload_n 0, 1) := by decide +kernel
theorem dX8_decision_11 : decode cX8_decision 11 = .ok (.getfield 240, 3) := by decide +kernel
theorem dX8_decision_14 : decode cX8_decision 14 = .ok (.if_icmp .ge 12, 3) := by decide +kernel
theorem dX8_decision_17 : decode cX8_decision 17 = .ok (.aload_n 0, 1) := by decide +kernel
theorem dX8_decision_18 : decode cX8_decision 18 = .ok (.getfield 88, 3) := by decide +kernel
theorem dX8_decision_21 : decode cX8_decision 21 = .ok (.iload_n 1, 1) := by decide +kernel
theorem dX8_decision_22 : decode cX8_decision 22 = .ok (.iaload, 1) := by decide +kernel
theorem dX8_decision_23 : decode cX8_decision 23 = .ok (.goto 4, 3) := by decide +kernel
theorem dX8_decision_26 : decode cX8_decision 26 = .ok (.iconst (-1), 1) := by decide +kernel
theorem dX8_decision_27 : decode cX8_decision 27 = .ok (.ireturn, 1) := by decide +kernel
theorem dX8_token__0 : decode cX8_token_ 0 = .ok (.aload_n 0, 1) := by decide +kernel
theorem dX8_token__1 : decode cX8_token_ 1 = .ok (.iload_n 1, 1) := by decide +kernel
theorem dX8_token__2 : decode cX8_token_ 2 = .ok (.ifCond .lt 20, 3) := by decide +kernel
theorem dX8_token__5 : decode cX8_token_ 5 = .ok (.iload_n 1, 1) := by decide +kernel
theorem dX8_token__6 : decode cX8_token_ 6 = .ok (.aload_n 0, 1) := by decide +kernel
theorem dX8_token__7 : decode cX8_token_ 7 = .ok (.getfield 243, 3) := by decide +kernel
theorem dX8_token__10 : decode cX8_token_ 10 = .ok (.if_icmp .ge 12, 3) := by decide +kernel
theorem dX8_token__13 : decode cX8_token_ 13 = .ok (.iload_n 2, 1) := by decide +kernel
theorem dX8_token__14 : decode cX8_token_ 14 = .ok (.ifCond .lt 8, 3) := by decide +kernel
theorem dX8_token__17 : decode cX8_token_ 17 = .ok (.iload_n 2, 1) := by decide +kernel
theorem dX8_token__18 : decode cX8_token_ 18 = .ok (.iconst 1, 1) := by decide +kernel
theorem dX8_token__19 : decode cX8_token_ 19 = .ok (.if_icmp .le 7, 3) := by decide +kernel
theorem dX8_token__22 : decode cX8_token_ 22 = .ok (.iconst 1, 1) := by decide +kernel
theorem dX8_token__23 : decode cX8_token_ 23 = .ok (.goto 4, 3) := by decide +kernel
theorem dX8_token__26 : decode cX8_token_ 26 = .ok (.iconst 0, 1) := by decide +kernel
theorem dX8_token__27 : decode cX8_token_ 27 = .ok (.putfield 97, 3) := by decide +kernel
theorem dX8_token__30 : decode cX8_token_ 30 = .ok (.aload_n 0, 1) := by decide +kernel
theorem dX8_token__31 : decode cX8_token_ 31 = .ok (.getfield 97, 3) := by decide +kernel
theorem dX8_token__34 : decode cX8_token_ 34 = .ok (.ifCond .le 7, 3) := by decide +kernel
theorem dX8_token__37 : decode cX8_token_ 37 = .ok (.lconst 0, 1) := by decide +kernel
theorem dX8_token__38 : decode cX8_token_ 38 = .ok (.goto 23, 3) := by decide +kernel
theorem dX8_token__41 : decode cX8_token_ 41 = .ok (.iload_n 2, 1) := by decide +kernel
theorem dX8_token__42 : decode cX8_token_ 42 = .ok (.ifCond .ne 13, 3) := by decide +kernel
theorem dX8_token__45 : decode cX8_token_ 45 = .ok (.aload_n 0, 1) := by decide +kernel
theorem dX8_token__46 : decode cX8_token_ 46 = .ok (.getfield 91, 3) := by decide +kernel
theorem dX8_token__49 : decode cX8_token_ 49 = .ok (.iload_n 1, 1) := by decide +kernel
theorem dX8_token__50 : decode cX8_token_ 50 = .ok (.iaload, 1) := by decide +kernel
theorem dX8_token__51 : decode cX8_token_ 51 = .ok (.i2l, 1) := by decide +kernel
theorem dX8_token__52 : decode cX8_token_ 52 = .ok (.goto 9, 3) := by decide +kernel
theorem dX8_token__55 : decode cX8_token_ 55 = .ok (.aload_n 0, 1) := by decide +kernel
theorem dX8_token__56 : decode cX8_token_ 56 = .ok (.getfield 94, 3) := by decide +kernel
theorem dX8_token__59 : decode cX8_token_ 59 = .ok (.iload_n 1, 1) := by decide +kernel
theorem dX8_token__60 : decode cX8_token_ 60 = .ok (.laload, 1) := by decide +kernel
theorem dX8_token__61 : decode cX8_token_ 61 = .ok (.lreturn, 1) := by decide +kernel
theorem dX8_count_0 : decode cX8_count 0 = .ok (.aload_n 0, 1) := by decide +kernel
theorem dX8_count_1 : decode cX8_count 1 = .ok (.iconst 0, 1) := by decide +kernel
theorem dX8_count_2 : decode cX8_count 2 = .ok (.putfield 97, 3) := by decide +kernel
theorem dX8_count_5 : decode cX8_count 5 = .ok (.iload_n 1, 1) := by decide +kernel
theorem dX8_count_6 : decode cX8_count 6 = .ok (.tableswitch 95 0 8 #[50, 55, 60, 65, 70, 75, 80, 85, 90], 50) := by decide +kernel
theorem dX8_count_56 : decode cX8_count 56 = .ok (.aload_n 0, 1) := by decide +kernel
theorem dX8_count_57 : decode cX8_count 57 = .ok (.getfield 101, 3) := by decide +kernel
theorem dX8_count_60 : decode cX8_count 60 = .ok (.ireturn, 1) := by decide +kernel
theorem dX8_count_61 : decode cX8_count 61 = .ok (.aload_n 0, 1) := by decide +kernel
theorem dX8_count_62 : decode cX8_count 62 = .ok (.getfield 222, 3) := by decide +kernel
theorem dX8_count_65 : decode cX8_count 65 = .ok (.ireturn, 1) := by decide +kernel
theorem dX8_count_66 : decode cX8_count 66 = .ok (.aload_n 0, 1) := by decide +kernel
theorem dX8_count_67 : decode cX8_count 67 = .ok (.getfield 225, 3) := by decide +kernel
theorem dX8_count_70 : decode cX8_count 70 = .ok (.ireturn, 1) := by decide +kernel
theorem dX8_count_71 : decode cX8_count 71 = .ok (.aload_n 0, 1) := by decide +kernel
theorem dX8_count_72 : decode cX8_count 72 = .ok (.getfield 228, 3) := by decide +kernel
theorem dX8_count_75 : decode cX8_count 75 = .ok (.ireturn, 1) := by decide +kernel
theorem dX8_count_76 : decode cX8_count 76 = .ok (.aload_n 0, 1) := by decide +kernel
theorem dX8_count_77 : decode cX8_count 77 = .ok (.getfield 231, 3) := by decide +kernel
theorem dX8_count_80 : decode cX8_count 80 = .ok (.ireturn, 1) := by decide +kernel
theorem dX8_count_81 : decode cX8_count 81 = .ok (.aload_n 0, 1) := by decide +kernel
theorem dX8_count_82 : decode cX8_count 82 = .ok (.getfield 234, 3) := by decide +kernel
theorem dX8_count_85 : decode cX8_count 85 = .ok (.ireturn, 1) := by decide +kernel
theorem dX8_count_86 : decode cX8_count 86 = .ok (.aload_n 0, 1) := by decide +kernel
theorem dX8_count_87 : decode cX8_count 87 = .ok (.getfield 237, 3) := by decide +kernel
theorem dX8_count_90 : decode cX8_count 90 = .ok (.ireturn, 1) := by decide +kernel
theorem dX8_count_91 : decode cX8_count 91 = .ok (.aload_n 0, 1) := by decide +kernel
theorem dX8_count_92 : decode cX8_count 92 = .ok (.getfield 240, 3) := by decide +kernel
theorem dX8_count_95 : decode cX8_count 95 = .ok (.ireturn, 1) := by decide +kernel
theorem dX8_count_96 : decode cX8_count 96 = .ok (.aload_n 0, 1) := by decide +kernel
theorem dX8_count_97 : decode cX8_count 97 = .ok (.getfield 243, 3) := by decide +kernel
theorem dX8_count_100 : decode cX8_count 100 = .ok (.ireturn, 1) := by decide +kernel
theorem dX8_count_101 : decode cX8_count 101 = .ok (.iconst (-1), 1) := by decide +kernel
theorem dX8_count_102 : decode cX8_count 102 = .ok (.ireturn, 1) := by decide +kernel
theorem dJ9_max_7cf53_0 : decode cJ9_max_7cf53 0 = .ok (.iload_n 0, 1) := by decide +kernel
theorem dJ9_max_7cf53_1 : decode cJ9_max_7cf53 1 = .ok (.iload_n 1, 1) := by decide +kernel
theorem dJ9_max_7cf53_2 : decode cJ9_max_7cf53 2 = .ok (.if_icmp .lt 7, 3) := by decide +kernel
theorem dJ9_max_7cf53_5 : decode cJ9_max_7cf53 5 = .ok (.iload_n 0, 1) := by decide +kernel
theorem dJ9_max_7cf53_6 : decode cJ9_max_7cf53 6 = .ok (.goto 4, 3) := by decide +kernel
theorem dJ9_max_7cf53_9 : decode cJ9_max_7cf53 9 = .ok (.iload_n 1, 1) := by decide +kernel
theorem dJ9_max_7cf53_10 : decode cJ9_max_7cf53 10 = .ok (.ireturn, 1) := by decide +kernel
theorem dJ9_min_7cf53_0 : decode cJ9_min_7cf53 0 = .ok (.iload_n 0, 1) := by decide +kernel
theorem dJ9_min_7cf53_1 : decode cJ9_min_7cf53 1 = .ok (.iload_n 1, 1) := by decide +kernel
theorem dJ9_min_7cf53_2 : decode cJ9_min_7cf53 2 = .ok (.if_icmp .gt 7, 3) := by decide +kernel
theorem dJ9_min_7cf53_5 : decode cJ9_min_7cf53 5 = .ok (.iload_n 0, 1) := by decide +kernel
theorem dJ9_min_7cf53_6 : decode cJ9_min_7cf53 6 = .ok (.goto 4, 3) := by decide +kernel
theorem dJ9_min_7cf53_9 : decode cJ9_min_7cf53 9 = .ok (.iload_n 1, 1) := by decide +kernel
theorem dJ9_min_7cf53_10 : decode cJ9_min_7cf53 10 = .ok (.ireturn, 1) := by decide +kernel
theorem dJ9_min_f86c9_0 : decode cJ9_min_f86c9 0 = .ok (.lload_n 0, 1) := by decide +kernel
theorem dJ9_min_f86c9_1 : decode cJ9_min_f86c9 1 = .ok (.lload_n 2, 1) := by decide +kernel
theorem dJ9_min_f86c9_2 : decode cJ9_min_f86c9 2 = .ok (.lcmp, 1) := by decide +kernel
theorem dJ9_min_f86c9_3 : decode cJ9_min_f86c9 3 = .ok (.ifCond .gt 7, 3) := by decide +kernel
theorem dJ9_min_f86c9_6 : decode cJ9_min_f86c9 6 = .ok (.lload_n 0, 1) := by decide +kernel
theorem dJ9_min_f86c9_7 : decode cJ9_min_f86c9 7 = .ok (.goto 4, 3) := by decide +kernel
theorem dJ9_min_f86c9_10 : decode cJ9_min_f86c9 10 = .ok (.lload_n 2, 1) := by decide +kernel
theorem dJ9_min_f86c9_11 : decode cJ9_min_f86c9 11 = .ok (.lreturn, 1) := by decide +kernel
theorem dJ7_fill_53178_0 : decode cJ7_fill_53178 0 = .ok (.iconst 0, 1) := by decide +kernel
theorem dJ7_fill_53178_1 : decode cJ7_fill_53178 1 = .ok (.istore_n 2, 1) := by decide +kernel
theorem dJ7_fill_53178_2 : decode cJ7_fill_53178 2 = .ok (.aload_n 0, 1) := by decide +kernel
theorem dJ7_fill_53178_3 : decode cJ7_fill_53178 3 = .ok (.arraylength, 1) := by decide +kernel
theorem dJ7_fill_53178_4 : decode cJ7_fill_53178 4 = .ok (.istore_n 3, 1) := by decide +kernel
theorem dJ7_fill_53178_5 : decode cJ7_fill_53178 5 = .ok (.iload_n 2, 1) := by decide +kernel
theorem dJ7_fill_53178_6 : decode cJ7_fill_53178 6 = .ok (.iload_n 3, 1) := by decide +kernel
theorem dJ7_fill_53178_7 : decode cJ7_fill_53178 7 = .ok (.if_icmp .ge 13, 3) := by decide +kernel
theorem dJ7_fill_53178_10 : decode cJ7_fill_53178 10 = .ok (.aload_n 0, 1) := by decide +kernel
theorem dJ7_fill_53178_11 : decode cJ7_fill_53178 11 = .ok (.iload_n 2, 1) := by decide +kernel
theorem dJ7_fill_53178_12 : decode cJ7_fill_53178 12 = .ok (.iload_n 1, 1) := by decide +kernel
theorem dJ7_fill_53178_13 : decode cJ7_fill_53178 13 = .ok (.iastore, 1) := by decide +kernel
theorem dJ7_fill_53178_14 : decode cJ7_fill_53178 14 = .ok (.iinc 2 1, 3) := by decide +kernel
theorem dJ7_fill_53178_17 : decode cJ7_fill_53178 17 = .ok (.goto (-12), 3) := by decide +kernel
theorem dJ7_fill_53178_20 : decode cJ7_fill_53178 20 = .ok (.return_, 1) := by decide +kernel
theorem dJ7_copyOf_59c91_0 : decode cJ7_copyOf_59c91 0 = .ok (.iload_n 1, 1) := by decide +kernel
theorem dJ7_copyOf_59c91_1 : decode cJ7_copyOf_59c91 1 = .ok (.aload_n 0, 1) := by decide +kernel
theorem dJ7_copyOf_59c91_2 : decode cJ7_copyOf_59c91 2 = .ok (.arraylength, 1) := by decide +kernel
theorem dJ7_copyOf_59c91_3 : decode cJ7_copyOf_59c91 3 = .ok (.if_icmp .ne 11, 3) := by decide +kernel
theorem dJ7_copyOf_59c91_6 : decode cJ7_copyOf_59c91 6 = .ok (.aload_n 0, 1) := by decide +kernel
theorem dJ7_copyOf_59c91_7 : decode cJ7_copyOf_59c91 7 = .ok (.invokevirtual 316, 3) := by decide +kernel
theorem dJ7_copyOf_59c91_10 : decode cJ7_copyOf_59c91 10 = .ok (.checkcast 317, 3) := by decide +kernel
theorem dJ7_copyOf_59c91_13 : decode cJ7_copyOf_59c91 13 = .ok (.areturn, 1) := by decide +kernel
theorem dJ7_copyOf_59c91_14 : decode cJ7_copyOf_59c91 14 = .ok (.iload_n 1, 1) := by decide +kernel
theorem dJ7_copyOf_59c91_15 : decode cJ7_copyOf_59c91 15 = .ok (.newarray .int, 2) := by decide +kernel
theorem dJ7_copyOf_59c91_17 : decode cJ7_copyOf_59c91 17 = .ok (.astore_n 2, 1) := by decide +kernel
theorem dJ7_copyOf_59c91_18 : decode cJ7_copyOf_59c91 18 = .ok (.aload_n 0, 1) := by decide +kernel
theorem dJ7_copyOf_59c91_19 : decode cJ7_copyOf_59c91 19 = .ok (.iconst 0, 1) := by decide +kernel
theorem dJ7_copyOf_59c91_20 : decode cJ7_copyOf_59c91 20 = .ok (.aload_n 2, 1) := by decide +kernel
theorem dJ7_copyOf_59c91_21 : decode cJ7_copyOf_59c91 21 = .ok (.iconst 0, 1) := by decide +kernel
theorem dJ7_copyOf_59c91_22 : decode cJ7_copyOf_59c91 22 = .ok (.aload_n 0, 1) := by decide +kernel
theorem dJ7_copyOf_59c91_23 : decode cJ7_copyOf_59c91 23 = .ok (.arraylength, 1) := by decide +kernel
theorem dJ7_copyOf_59c91_24 : decode cJ7_copyOf_59c91 24 = .ok (.iload_n 1, 1) := by decide +kernel
theorem dJ7_copyOf_59c91_25 : decode cJ7_copyOf_59c91 25 = .ok (.invokestatic 304, 3) := by decide +kernel
theorem dJ7_copyOf_59c91_28 : decode cJ7_copyOf_59c91 28 = .ok (.invokestatic 150, 3) := by decide +kernel
theorem dJ7_copyOf_59c91_31 : decode cJ7_copyOf_59c91 31 = .ok (.aload_n 2, 1) := by decide +kernel
theorem dJ7_copyOf_59c91_32 : decode cJ7_copyOf_59c91 32 = .ok (.areturn, 1) := by decide +kernel
theorem dJ7_copyOf_c38d5_0 : decode cJ7_copyOf_c38d5 0 = .ok (.iload_n 1, 1) := by decide +kernel
theorem dJ7_copyOf_c38d5_1 : decode cJ7_copyOf_c38d5 1 = .ok (.aload_n 0, 1) := by decide +kernel
theorem dJ7_copyOf_c38d5_2 : decode cJ7_copyOf_c38d5 2 = .ok (.arraylength, 1) := by decide +kernel
theorem dJ7_copyOf_c38d5_3 : decode cJ7_copyOf_c38d5 3 = .ok (.if_icmp .ne 11, 3) := by decide +kernel
theorem dJ7_copyOf_c38d5_6 : decode cJ7_copyOf_c38d5 6 = .ok (.aload_n 0, 1) := by decide +kernel
theorem dJ7_copyOf_c38d5_7 : decode cJ7_copyOf_c38d5 7 = .ok (.invokevirtual 319, 3) := by decide +kernel
theorem dJ7_copyOf_c38d5_10 : decode cJ7_copyOf_c38d5 10 = .ok (.checkcast 320, 3) := by decide +kernel
theorem dJ7_copyOf_c38d5_13 : decode cJ7_copyOf_c38d5 13 = .ok (.areturn, 1) := by decide +kernel
theorem dJ7_copyOf_c38d5_14 : decode cJ7_copyOf_c38d5 14 = .ok (.iload_n 1, 1) := by decide +kernel
theorem dJ7_copyOf_c38d5_15 : decode cJ7_copyOf_c38d5 15 = .ok (.newarray .long, 2) := by decide +kernel
theorem dJ7_copyOf_c38d5_17 : decode cJ7_copyOf_c38d5 17 = .ok (.astore_n 2, 1) := by decide +kernel
theorem dJ7_copyOf_c38d5_18 : decode cJ7_copyOf_c38d5 18 = .ok (.aload_n 0, 1) := by decide +kernel
theorem dJ7_copyOf_c38d5_19 : decode cJ7_copyOf_c38d5 19 = .ok (.iconst 0, 1) := by decide +kernel
theorem dJ7_copyOf_c38d5_20 : decode cJ7_copyOf_c38d5 20 = .ok (.aload_n 2, 1) := by decide +kernel
theorem dJ7_copyOf_c38d5_21 : decode cJ7_copyOf_c38d5 21 = .ok (.iconst 0, 1) := by decide +kernel
theorem dJ7_copyOf_c38d5_22 : decode cJ7_copyOf_c38d5 22 = .ok (.aload_n 0, 1) := by decide +kernel
theorem dJ7_copyOf_c38d5_23 : decode cJ7_copyOf_c38d5 23 = .ok (.arraylength, 1) := by decide +kernel
theorem dJ7_copyOf_c38d5_24 : decode cJ7_copyOf_c38d5 24 = .ok (.iload_n 1, 1) := by decide +kernel
theorem dJ7_copyOf_c38d5_25 : decode cJ7_copyOf_c38d5 25 = .ok (.invokestatic 304, 3) := by decide +kernel
theorem dJ7_copyOf_c38d5_28 : decode cJ7_copyOf_c38d5 28 = .ok (.invokestatic 150, 3) := by decide +kernel
theorem dJ7_copyOf_c38d5_31 : decode cJ7_copyOf_c38d5 31 = .ok (.aload_n 2, 1) := by decide +kernel
theorem dJ7_copyOf_c38d5_32 : decode cJ7_copyOf_c38d5 32 = .ok (.areturn, 1) := by decide +kernel
theorem dL_choice_0 : decode cL_choice 0 = .ok (.aload_n 3, 1) := by decide +kernel
theorem dL_choice_1 : decode cL_choice 1 = .ok (.iconst 0, 1) := by decide +kernel
theorem dL_choice_2 : decode cL_choice 2 = .ok (.aload_n 0, 1) := by decide +kernel
theorem dL_choice_3 : decode cL_choice 3 = .ok (.iload_n 1, 1) := by decide +kernel
theorem dL_choice_4 : decode cL_choice 4 = .ok (.iload_n 2, 1) := by decide +kernel
theorem dL_choice_5 : decode cL_choice 5 = .ok (.invokevirtual 7, 3) := by decide +kernel
theorem dL_choice_8 : decode cL_choice 8 = .ok (.i2l, 1) := by decide +kernel
theorem dL_choice_9 : decode cL_choice 9 = .ok (.lastore, 1) := by decide +kernel
theorem dL_choice_10 : decode cL_choice 10 = .ok (.goto 7, 3) := by decide +kernel
theorem dL_choice_13 : decode cL_choice 13 = .ok (.astore 4, 2) := by decide +kernel
theorem dL_choice_15 : decode cL_choice 15 = .ok (.iconst 1, 1) := by decide +kernel
theorem dL_choice_16 : decode cL_choice 16 = .ok (.ireturn, 1) := by decide +kernel
theorem dL_choice_17 : decode cL_choice 17 = .ok (.iconst 0, 1) := by decide +kernel
theorem dL_choice_18 : decode cL_choice 18 = .ok (.ireturn, 1) := by decide +kernel
theorem dL_pair_0 : decode cL_pair 0 = .ok (.aload_n 3, 1) := by decide +kernel
theorem dL_pair_1 : decode cL_pair 1 = .ok (.iconst 0, 1) := by decide +kernel
theorem dL_pair_2 : decode cL_pair 2 = .ok (.aload_n 0, 1) := by decide +kernel
theorem dL_pair_3 : decode cL_pair 3 = .ok (.iload_n 1, 1) := by decide +kernel
theorem dL_pair_4 : decode cL_pair 4 = .ok (.iload_n 2, 1) := by decide +kernel
theorem dL_pair_5 : decode cL_pair 5 = .ok (.invokevirtual 15, 3) := by decide +kernel
theorem dL_pair_8 : decode cL_pair 8 = .ok (.i2l, 1) := by decide +kernel
theorem dL_pair_9 : decode cL_pair 9 = .ok (.lastore, 1) := by decide +kernel
theorem dL_pair_10 : decode cL_pair 10 = .ok (.goto 7, 3) := by decide +kernel
theorem dL_pair_13 : decode cL_pair 13 = .ok (.astore 4, 2) := by decide +kernel
theorem dL_pair_15 : decode cL_pair 15 = .ok (.iconst 1, 1) := by decide +kernel
theorem dL_pair_16 : decode cL_pair 16 = .ok (.ireturn, 1) := by decide +kernel
theorem dL_pair_17 : decode cL_pair 17 = .ok (.iconst 0, 1) := by decide +kernel
theorem dL_pair_18 : decode cL_pair 18 = .ok (.ireturn, 1) := by decide +kernel
theorem dL_part_0 : decode cL_part 0 = .ok (.aload_n 3, 1) := by decide +kernel
theorem dL_part_1 : decode cL_part 1 = .ok (.iconst 0, 1) := by decide +kernel
theorem dL_part_2 : decode cL_part 2 = .ok (.aload_n 0, 1) := by decide +kernel
theorem dL_part_3 : decode cL_part 3 = .ok (.iload_n 1, 1) := by decide +kernel
theorem dL_part_4 : decode cL_part 4 = .ok (.iload_n 2, 1) := by decide +kernel
theorem dL_part_5 : decode cL_part 5 = .ok (.invokevirtual 18, 3) := by decide +kernel
theorem dL_part_8 : decode cL_part 8 = .ok (.i2l, 1) := by decide +kernel
theorem dL_part_9 : decode cL_part 9 = .ok (.lastore, 1) := by decide +kernel
theorem dL_part_10 : decode cL_part 10 = .ok (.goto 7, 3) := by decide +kernel
theorem dL_part_13 : decode cL_part 13 = .ok (.astore 4, 2) := by decide +kernel
theorem dL_part_15 : decode cL_part 15 = .ok (.iconst 1, 1) := by decide +kernel
theorem dL_part_16 : decode cL_part 16 = .ok (.ireturn, 1) := by decide +kernel
theorem dL_part_17 : decode cL_part 17 = .ok (.iconst 0, 1) := by decide +kernel
theorem dL_part_18 : decode cL_part 18 = .ok (.ireturn, 1) := by decide +kernel
theorem dL_op_0 : decode cL_op 0 = .ok (.aload 4, 2) := by decide +kernel
theorem dL_op_2 : decode cL_op 2 = .ok (.iconst 0, 1) := by decide +kernel
theorem dL_op_3 : decode cL_op 3 = .ok (.aload_n 0, 1) := by decide +kernel
theorem dL_op_4 : decode cL_op 4 = .ok (.iload_n 1, 1) := by decide +kernel
theorem dL_op_5 : decode cL_op 5 = .ok (.iload_n 2, 1) := by decide +kernel
theorem dL_op_6 : decode cL_op 6 = .ok (.iload_n 3, 1) := by decide +kernel
theorem dL_op_7 : decode cL_op 7 = .ok (.invokevirtual 22, 3) := by decide +kernel
theorem dL_op_10 : decode cL_op 10 = .ok (.i2l, 1) := by decide +kernel
theorem dL_op_11 : decode cL_op 11 = .ok (.lastore, 1) := by decide +kernel
theorem dL_op_12 : decode cL_op 12 = .ok (.goto 7, 3) := by decide +kernel
theorem dL_op_15 : decode cL_op 15 = .ok (.astore 5, 2) := by decide +kernel
theorem dL_op_17 : decode cL_op 17 = .ok (.iconst 1, 1) := by decide +kernel
theorem dL_op_18 : decode cL_op 18 = .ok (.ireturn, 1) := by decide +kernel
theorem dL_op_19 : decode cL_op 19 = .ok (.iconst 0, 1) := by decide +kernel
theorem dL_op_20 : decode cL_op 20 = .ok (.ireturn, 1) := by decide +kernel
theorem dL_when_0 : decode cL_when 0 = .ok (.aload 4, 2) := by decide +kernel
theorem dL_when_2 : decode cL_when 2 = .ok (.iconst 0, 1) := by decide +kernel
theorem dL_when_3 : decode cL_when 3 = .ok (.aload_n 0, 1) := by decide +kernel
theorem dL_when_4 : decode cL_when 4 = .ok (.iload_n 1, 1) := by decide +kernel
theorem dL_when_5 : decode cL_when 5 = .ok (.iload_n 2, 1) := by decide +kernel
theorem dL_when_6 : decode cL_when 6 = .ok (.iload_n 3, 1) := by decide +kernel
theorem dL_when_7 : decode cL_when 7 = .ok (.invokevirtual 26, 3) := by decide +kernel
theorem dL_when_10 : decode cL_when 10 = .ok (.i2l, 1) := by decide +kernel
theorem dL_when_11 : decode cL_when 11 = .ok (.lastore, 1) := by decide +kernel
theorem dL_when_12 : decode cL_when 12 = .ok (.goto 7, 3) := by decide +kernel
theorem dL_when_15 : decode cL_when 15 = .ok (.astore 5, 2) := by decide +kernel
theorem dL_when_17 : decode cL_when 17 = .ok (.iconst 1, 1) := by decide +kernel
theorem dL_when_18 : decode cL_when 18 = .ok (.ireturn, 1) := by decide +kernel
theorem dL_when_19 : decode cL_when 19 = .ok (.iconst 0, 1) := by decide +kernel
theorem dL_when_20 : decode cL_when 20 = .ok (.ireturn, 1) := by decide +kernel
theorem dL_set_0 : decode cL_set 0 = .ok (.aload_n 3, 1) := by decide +kernel
theorem dL_set_1 : decode cL_set 1 = .ok (.iconst 0, 1) := by decide +kernel
theorem dL_set_2 : decode cL_set 2 = .ok (.aload_n 0, 1) := by decide +kernel
theorem dL_set_3 : decode cL_set 3 = .ok (.iload_n 1, 1) := by decide +kernel
theorem dL_set_4 : decode cL_set 4 = .ok (.iload_n 2, 1) := by decide +kernel
theorem dL_set_5 : decode cL_set 5 = .ok (.invokevirtual 29, 3) := by decide +kernel
theorem dL_set_8 : decode cL_set 8 = .ok (.i2l, 1) := by decide +kernel
theorem dL_set_9 : decode cL_set 9 = .ok (.lastore, 1) := by decide +kernel
theorem dL_set_10 : decode cL_set 10 = .ok (.goto 7, 3) := by decide +kernel
theorem dL_set_13 : decode cL_set 13 = .ok (.astore 4, 2) := by decide +kernel
theorem dL_set_15 : decode cL_set 15 = .ok (.iconst 1, 1) := by decide +kernel
theorem dL_set_16 : decode cL_set 16 = .ok (.ireturn, 1) := by decide +kernel
theorem dL_set_17 : decode cL_set 17 = .ok (.iconst 0, 1) := by decide +kernel
theorem dL_set_18 : decode cL_set 18 = .ok (.ireturn, 1) := by decide +kernel
theorem dL_fold_0 : decode cL_fold 0 = .ok (.aload_n 3, 1) := by decide +kernel
theorem dL_fold_1 : decode cL_fold 1 = .ok (.iconst 0, 1) := by decide +kernel
theorem dL_fold_2 : decode cL_fold 2 = .ok (.aload_n 0, 1) := by decide +kernel
theorem dL_fold_3 : decode cL_fold 3 = .ok (.iload_n 1, 1) := by decide +kernel
theorem dL_fold_4 : decode cL_fold 4 = .ok (.iload_n 2, 1) := by decide +kernel
theorem dL_fold_5 : decode cL_fold 5 = .ok (.invokevirtual 32, 3) := by decide +kernel
theorem dL_fold_8 : decode cL_fold 8 = .ok (.i2l, 1) := by decide +kernel
theorem dL_fold_9 : decode cL_fold 9 = .ok (.lastore, 1) := by decide +kernel
theorem dL_fold_10 : decode cL_fold 10 = .ok (.goto 7, 3) := by decide +kernel
theorem dL_fold_13 : decode cL_fold 13 = .ok (.astore 4, 2) := by decide +kernel
theorem dL_fold_15 : decode cL_fold 15 = .ok (.iconst 1, 1) := by decide +kernel
theorem dL_fold_16 : decode cL_fold 16 = .ok (.ireturn, 1) := by decide +kernel
theorem dL_fold_17 : decode cL_fold 17 = .ok (.iconst 0, 1) := by decide +kernel
theorem dL_fold_18 : decode cL_fold 18 = .ok (.ireturn, 1) := by decide +kernel
theorem dL_node_0 : decode cL_node 0 = .ok (.aload_n 3, 1) := by decide +kernel
theorem dL_node_1 : decode cL_node 1 = .ok (.iconst 0, 1) := by decide +kernel
theorem dL_node_2 : decode cL_node 2 = .ok (.aload_n 0, 1) := by decide +kernel
theorem dL_node_3 : decode cL_node 3 = .ok (.iload_n 1, 1) := by decide +kernel
theorem dL_node_4 : decode cL_node 4 = .ok (.iload_n 2, 1) := by decide +kernel
theorem dL_node_5 : decode cL_node 5 = .ok (.invokevirtual 35, 3) := by decide +kernel
theorem dL_node_8 : decode cL_node 8 = .ok (.i2l, 1) := by decide +kernel
theorem dL_node_9 : decode cL_node 9 = .ok (.lastore, 1) := by decide +kernel
theorem dL_node_10 : decode cL_node 10 = .ok (.goto 7, 3) := by decide +kernel
theorem dL_node_13 : decode cL_node 13 = .ok (.astore 4, 2) := by decide +kernel
theorem dL_node_15 : decode cL_node 15 = .ok (.iconst 1, 1) := by decide +kernel
theorem dL_node_16 : decode cL_node 16 = .ok (.ireturn, 1) := by decide +kernel
theorem dL_node_17 : decode cL_node 17 = .ok (.iconst 0, 1) := by decide +kernel
theorem dL_node_18 : decode cL_node 18 = .ok (.ireturn, 1) := by decide +kernel
theorem dL_ask_0 : decode cL_ask 0 = .ok (.aload_n 0, 1) := by decide +kernel
theorem dL_ask_1 : decode cL_ask 1 = .ok (.iload_n 1, 1) := by decide +kernel
theorem dL_ask_2 : decode cL_ask 2 = .ok (.iload_n 2, 1) := by decide +kernel
theorem dL_ask_3 : decode cL_ask 3 = .ok (.iload_n 3, 1) := by decide +kernel
theorem dL_ask_4 : decode cL_ask 4 = .ok (.invokevirtual 40, 3) := by decide +kernel
theorem dL_ask_7 : decode cL_ask 7 = .ok (.goto 7, 3) := by decide +kernel
theorem dL_ask_10 : decode cL_ask 10 = .ok (.astore 4, 2) := by decide +kernel
theorem dL_ask_12 : decode cL_ask 12 = .ok (.iconst 1, 1) := by decide +kernel
theorem dL_ask_13 : decode cL_ask 13 = .ok (.ireturn, 1) := by decide +kernel
theorem dL_ask_14 : decode cL_ask 14 = .ok (.iconst 0, 1) := by decide +kernel
theorem dL_ask_15 : decode cL_ask 15 = .ok (.ireturn, 1) := by decide +kernel
theorem dL_next_0 : decode cL_next 0 = .ok (.aload_n 1, 1) := by decide +kernel
theorem dL_next_1 : decode cL_next 1 = .ok (.iconst 0, 1) := by decide +kernel
theorem dL_next_2 : decode cL_next 2 = .ok (.aload_n 0, 1) := by decide +kernel
theorem dL_next_3 : decode cL_next 3 = .ok (.invokevirtual 44, 3) := by decide +kernel
theorem dL_next_6 : decode cL_next 6 = .ok (.i2l, 1) := by decide +kernel
theorem dL_next_7 : decode cL_next 7 = .ok (.lastore, 1) := by decide +kernel
theorem dL_next_8 : decode cL_next 8 = .ok (.goto 6, 3) := by decide +kernel
theorem dL_next_11 : decode cL_next 11 = .ok (.astore_n 2, 1) := by decide +kernel
theorem dL_next_12 : decode cL_next 12 = .ok (.iconst 1, 1) := by decide +kernel
theorem dL_next_13 : decode cL_next 13 = .ok (.ireturn, 1) := by decide +kernel
theorem dL_next_14 : decode cL_next 14 = .ok (.iconst 0, 1) := by decide +kernel
theorem dL_next_15 : decode cL_next 15 = .ok (.ireturn, 1) := by decide +kernel
theorem dL_token_0 : decode cL_token 0 = .ok (.aload_n 3, 1) := by decide +kernel
theorem dL_token_1 : decode cL_token 1 = .ok (.iconst 0, 1) := by decide +kernel
theorem dL_token_2 : decode cL_token 2 = .ok (.aload_n 0, 1) := by decide +kernel
theorem dL_token_3 : decode cL_token 3 = .ok (.iload_n 1, 1) := by decide +kernel
theorem dL_token_4 : decode cL_token 4 = .ok (.iload_n 2, 1) := by decide +kernel
theorem dL_token_5 : decode cL_token 5 = .ok (.invokevirtual 50, 3) := by decide +kernel
theorem dL_token_8 : decode cL_token 8 = .ok (.lastore, 1) := by decide +kernel
theorem dL_token_9 : decode cL_token 9 = .ok (.goto 7, 3) := by decide +kernel
theorem dL_token_12 : decode cL_token 12 = .ok (.astore 4, 2) := by decide +kernel
theorem dL_token_14 : decode cL_token 14 = .ok (.iconst 1, 1) := by decide +kernel
theorem dL_token_15 : decode cL_token 15 = .ok (.ireturn, 1) := by decide +kernel
theorem dL_token_16 : decode cL_token 16 = .ok (.iconst 0, 1) := by decide +kernel
theorem dL_token_17 : decode cL_token 17 = .ok (.ireturn, 1) := by decide +kernel
theorem dL_law_0 : decode cL_law 0 = .ok (.new 8, 3) := by decide +kernel
theorem dL_law_3 : decode cL_law 3 = .ok (.dup, 1) := by decide +kernel
theorem dL_law_4 : decode cL_law 4 = .ok (.invokespecial 54, 3) := by decide +kernel
theorem dL_law_7 : decode cL_law 7 = .ok (.astore_n 1, 1) := by decide +kernel
theorem dL_law_8 : decode cL_law 8 = .ok (.new 55, 3) := by decide +kernel
theorem dL_law_11 : decode cL_law 11 = .ok (.dup, 1) := by decide +kernel
theorem dL_law_12 : decode cL_law 12 = .ok (.invokespecial 57, 3) := by decide +kernel
theorem dL_law_15 : decode cL_law 15 = .ok (.astore_n 2, 1) := by decide +kernel
theorem dL_law_16 : decode cL_law 16 = .ok (.iconst 1, 1) := by decide +kernel
theorem dL_law_17 : decode cL_law 17 = .ok (.newarray .long, 2) := by decide +kernel
theorem dL_law_19 : decode cL_law 19 = .ok (.astore_n 3, 1) := by decide +kernel
theorem dL_law_20 : decode cL_law 20 = .ok (.iconst 0, 1) := by decide +kernel
theorem dL_law_21 : decode cL_law 21 = .ok (.istore 4, 2) := by decide +kernel
theorem dL_law_23 : decode cL_law 23 = .ok (.iload 4, 2) := by decide +kernel
theorem dL_law_25 : decode cL_law 25 = .ok (.aload_n 0, 1) := by decide +kernel
theorem dL_law_26 : decode cL_law 26 = .ok (.arraylength, 1) := by decide +kernel
theorem dL_law_27 : decode cL_law 27 = .ok (.iconst 4, 1) := by decide +kernel
theorem dL_law_28 : decode cL_law 28 = .ok (.isub, 1) := by decide +kernel
theorem dL_law_29 : decode cL_law 29 = .ok (.if_icmp .gt 981, 3) := by decide +kernel
theorem dL_law_32 : decode cL_law 32 = .ok (.aload_n 0, 1) := by decide +kernel
theorem dL_law_33 : decode cL_law 33 = .ok (.iload 4, 2) := by decide +kernel
theorem dL_law_35 : decode cL_law 35 = .ok (.iaload, 1) := by decide +kernel
theorem dL_law_36 : decode cL_law 36 = .ok (.bipush 15, 2) := by decide +kernel
theorem dL_law_38 : decode cL_law 38 = .ok (.iand, 1) := by decide +kernel
theorem dL_law_39 : decode cL_law 39 = .ok (.tableswitch 965 0 15 #[77, 134, 202, 215, 283, 367, 447, 527, 595, 663, 676, 744, 804, 848, 873, 940], 77) := by decide +kernel
theorem dL_law_116 : decode cL_law 116 = .ok (.aload_n 1, 1) := by decide +kernel
theorem dL_law_117 : decode cL_law 117 = .ok (.aload_n 0, 1) := by decide +kernel
theorem dL_law_118 : decode cL_law 118 = .ok (.iload 4, 2) := by decide +kernel
theorem dL_law_120 : decode cL_law 120 = .ok (.iconst 1, 1) := by decide +kernel
theorem dL_law_121 : decode cL_law 121 = .ok (.iadd, 1) := by decide +kernel
theorem dL_law_122 : decode cL_law 122 = .ok (.iaload, 1) := by decide +kernel
theorem dL_law_123 : decode cL_law 123 = .ok (.i2l, 1) := by decide +kernel
theorem dL_law_124 : decode cL_law 124 = .ok (.bipush 32, 2) := by decide +kernel
theorem dL_law_126 : decode cL_law 126 = .ok (.lshl, 1) := by decide +kernel
theorem dL_law_127 : decode cL_law 127 = .ok (.aload_n 0, 1) := by decide +kernel
theorem dL_law_128 : decode cL_law 128 = .ok (.iload 4, 2) := by decide +kernel
theorem dL_law_130 : decode cL_law 130 = .ok (.iconst 2, 1) := by decide +kernel
theorem dL_law_131 : decode cL_law 131 = .ok (.iadd, 1) := by decide +kernel
theorem dL_law_132 : decode cL_law 132 = .ok (.iaload, 1) := by decide +kernel
theorem dL_law_133 : decode cL_law 133 = .ok (.i2l, 1) := by decide +kernel
theorem dL_law_134 : decode cL_law 134 = .ok (.ldc2_w 58, 3) := by decide +kernel
theorem dL_law_137 : decode cL_law 137 = .ok (.land, 1) := by decide +kernel
theorem dL_law_138 : decode cL_law 138 = .ok (.lor, 1) := by decide +kernel
theorem dL_law_139 : decode cL_law 139 = .ok (.invokevirtual 60, 3) := by decide +kernel
theorem dL_law_142 : decode cL_law 142 = .ok (.aload_n 2, 1) := by decide +kernel
theorem dL_law_143 : decode cL_law 143 = .ok (.aload_n 0, 1) := by decide +kernel
theorem dL_law_144 : decode cL_law 144 = .ok (.iload 4, 2) := by decide +kernel
theorem dL_law_146 : decode cL_law 146 = .ok (.iconst 1, 1) := by decide +kernel
theorem dL_law_147 : decode cL_law 147 = .ok (.iadd, 1) := by decide +kernel
theorem dL_law_148 : decode cL_law 148 = .ok (.iaload, 1) := by decide +kernel
theorem dL_law_149 : decode cL_law 149 = .ok (.i2l, 1) := by decide +kernel
theorem dL_law_150 : decode cL_law 150 = .ok (.bipush 32, 2) := by decide +kernel
theorem dL_law_152 : decode cL_law 152 = .ok (.lshl, 1) := by decide +kernel
theorem dL_law_153 : decode cL_law 153 = .ok (.aload_n 0, 1) := by decide +kernel
theorem dL_law_154 : decode cL_law 154 = .ok (.iload 4, 2) := by decide +kernel
theorem dL_law_156 : decode cL_law 156 = .ok (.iconst 2, 1) := by decide +kernel
theorem dL_law_157 : decode cL_law 157 = .ok (.iadd, 1) := by decide +kernel
theorem dL_law_158 : decode cL_law 158 = .ok (.iaload, 1) := by decide +kernel
theorem dL_law_159 : decode cL_law 159 = .ok (.i2l, 1) := by decide +kernel
theorem dL_law_160 : decode cL_law 160 = .ok (.ldc2_w 58, 3) := by decide +kernel
theorem dL_law_163 : decode cL_law 163 = .ok (.land, 1) := by decide +kernel
theorem dL_law_164 : decode cL_law 164 = .ok (.lor, 1) := by decide +kernel
theorem dL_law_165 : decode cL_law 165 = .ok (.invokevirtual 64, 3) := by decide +kernel
theorem dL_law_168 : decode cL_law 168 = .ok (.if_icmp .eq 836, 3) := by decide +kernel
theorem dL_law_171 : decode cL_law 171 = .ok (.iconst 0, 1) := by decide +kernel
theorem dL_law_172 : decode cL_law 172 = .ok (.ireturn, 1) := by decide +kernel
theorem dL_law_173 : decode cL_law 173 = .ok (.aload_n 1, 1) := by decide +kernel
theorem dL_law_174 : decode cL_law 174 = .ok (.aload_n 0, 1) := by decide +kernel
theorem dL_law_175 : decode cL_law 175 = .ok (.iload 4, 2) := by decide +kernel
theorem dL_law_177 : decode cL_law 177 = .ok (.iconst 1, 1) := by decide +kernel
theorem dL_law_178 : decode cL_law 178 = .ok (.iadd, 1) := by decide +kernel
theorem dL_law_179 : decode cL_law 179 = .ok (.iaload, 1) := by decide +kernel
theorem dL_law_180 : decode cL_law 180 = .ok (.aload_n 0, 1) := by decide +kernel
theorem dL_law_181 : decode cL_law 181 = .ok (.iload 4, 2) := by decide +kernel
theorem dL_law_183 : decode cL_law 183 = .ok (.iconst 2, 1) := by decide +kernel
theorem dL_law_184 : decode cL_law 184 = .ok (.iadd, 1) := by decide +kernel
theorem dL_law_185 : decode cL_law 185 = .ok (.iaload, 1) := by decide +kernel
theorem dL_law_186 : decode cL_law 186 = .ok (.aload_n 3, 1) := by decide +kernel
theorem dL_law_187 : decode cL_law 187 = .ok (.invokestatic 65, 3) := by decide +kernel
theorem dL_law_190 : decode cL_law 190 = .ok (.istore 5, 2) := by decide +kernel
theorem dL_law_192 : decode cL_law 192 = .ok (.aload_n 2, 1) := by decide +kernel
theorem dL_law_193 : decode cL_law 193 = .ok (.aload_n 0, 1) := by decide +kernel
theorem dL_law_194 : decode cL_law 194 = .ok (.iload 4, 2) := by decide +kernel
theorem dL_law_196 : decode cL_law 196 = .ok (.iconst 1, 1) := by decide +kernel
theorem dL_law_197 : decode cL_law 197 = .ok (.iadd, 1) := by decide +kernel
theorem dL_law_198 : decode cL_law 198 = .ok (.iaload, 1) := by decide +kernel
theorem dL_law_199 : decode cL_law 199 = .ok (.aload_n 0, 1) := by decide +kernel
theorem dL_law_200 : decode cL_law 200 = .ok (.iload 4, 2) := by decide +kernel
theorem dL_law_202 : decode cL_law 202 = .ok (.iconst 2, 1) := by decide +kernel
theorem dL_law_203 : decode cL_law 203 = .ok (.iadd, 1) := by decide +kernel
theorem dL_law_204 : decode cL_law 204 = .ok (.iaload, 1) := by decide +kernel
theorem dL_law_205 : decode cL_law 205 = .ok (.invokevirtual 70, 3) := by decide +kernel
theorem dL_law_208 : decode cL_law 208 = .ok (.istore 6, 2) := by decide +kernel
theorem dL_law_210 : decode cL_law 210 = .ok (.aload_n 2, 1) := by decide +kernel
theorem dL_law_211 : decode cL_law 211 = .ok (.invokevirtual 71, 3) := by decide +kernel
theorem dL_law_214 : decode cL_law 214 = .ok (.iload 5, 2) := by decide +kernel
theorem dL_law_216 : decode cL_law 216 = .ok (.if_icmp .eq 5, 3) := by decide +kernel
theorem dL_law_219 : decode cL_law 219 = .ok (.iconst 0, 1) := by decide +kernel
theorem dL_law_220 : decode cL_law 220 = .ok (.ireturn, 1) := by decide +kernel
theorem dL_law_221 : decode cL_law 221 = .ok (.iload 5, 2) := by decide +kernel
theorem dL_law_223 : decode cL_law 223 = .ok (.ifCond .ne 15, 3) := by decide +kernel
theorem dL_law_226 : decode cL_law 226 = .ok (.aload_n 3, 1) := by decide +kernel
theorem dL_law_227 : decode cL_law 227 = .ok (.iconst 0, 1) := by decide +kernel
theorem dL_law_228 : decode cL_law 228 = .ok (.laload, 1) := by decide +kernel
theorem dL_law_229 : decode cL_law 229 = .ok (.iload 6, 2) := by decide +kernel
theorem dL_law_231 : decode cL_law 231 = .ok (.i2l, 1) := by decide +kernel
theorem dL_law_232 : decode cL_law 232 = .ok (.lcmp, 1) := by decide +kernel
theorem dL_law_233 : decode cL_law 233 = .ok (.ifCond .eq 5, 3) := by decide +kernel
theorem dL_law_236 : decode cL_law 236 = .ok (.iconst 0, 1) := by decide +kernel
theorem dL_law_237 : decode cL_law 237 = .ok (.ireturn, 1) := by decide +kernel
theorem dL_law_238 : decode cL_law 238 = .ok (.goto 766, 3) := by decide +kernel
theorem dL_law_241 : decode cL_law 241 = .ok (.aload_n 1, 1) := by decide +kernel
theorem dL_law_242 : decode cL_law 242 = .ok (.invokevirtual 74, 3) := by decide +kernel
theorem dL_law_245 : decode cL_law 245 = .ok (.aload_n 2, 1) := by decide +kernel
theorem dL_law_246 : decode cL_law 246 = .ok (.invokevirtual 77, 3) := by decide +kernel
theorem dL_law_249 : decode cL_law 249 = .ok (.if_icmp .eq 755, 3) := by decide +kernel
theorem dL_law_252 : decode cL_law 252 = .ok (.iconst 0, 1) := by decide +kernel
theorem dL_law_253 : decode cL_law 253 = .ok (.ireturn, 1) := by decide +kernel
theorem dL_law_254 : decode cL_law 254 = .ok (.aload_n 1, 1) := by decide +kernel
theorem dL_law_255 : decode cL_law 255 = .ok (.aload_n 0, 1) := by decide +kernel
theorem dL_law_256 : decode cL_law 256 = .ok (.iload 4, 2) := by decide +kernel
theorem dL_law_258 : decode cL_law 258 = .ok (.iconst 1, 1) := by decide +kernel
theorem dL_law_259 : decode cL_law 259 = .ok (.iadd, 1) := by decide +kernel
theorem dL_law_260 : decode cL_law 260 = .ok (.iaload, 1) := by decide +kernel
theorem dL_law_261 : decode cL_law 261 = .ok (.aload_n 0, 1) := by decide +kernel
theorem dL_law_262 : decode cL_law 262 = .ok (.iload 4, 2) := by decide +kernel
theorem dL_law_264 : decode cL_law 264 = .ok (.iconst 2, 1) := by decide +kernel
theorem dL_law_265 : decode cL_law 265 = .ok (.iadd, 1) := by decide +kernel
theorem dL_law_266 : decode cL_law 266 = .ok (.iaload, 1) := by decide +kernel
theorem dL_law_267 : decode cL_law 267 = .ok (.aload_n 3, 1) := by decide +kernel
theorem dL_law_268 : decode cL_law 268 = .ok (.invokestatic 78, 3) := by decide +kernel
theorem dL_law_271 : decode cL_law 271 = .ok (.istore 5, 2) := by decide +kernel
theorem dL_law_273 : decode cL_law 273 = .ok (.aload_n 2, 1) := by decide +kernel
theorem dL_law_274 : decode cL_law 274 = .ok (.aload_n 0, 1) := by decide +kernel
theorem dL_law_275 : decode cL_law 275 = .ok (.iload 4, 2) := by decide +kernel
theorem dL_law_277 : decode cL_law 277 = .ok (.iconst 1, 1) := by decide +kernel
theorem dL_law_278 : decode cL_law 278 = .ok (.iadd, 1) := by decide +kernel
theorem dL_law_279 : decode cL_law 279 = .ok (.iaload, 1) := by decide +kernel
theorem dL_law_280 : decode cL_law 280 = .ok (.aload_n 0, 1) := by decide +kernel
theorem dL_law_281 : decode cL_law 281 = .ok (.iload 4, 2) := by decide +kernel
theorem dL_law_283 : decode cL_law 283 = .ok (.iconst 2, 1) := by decide +kernel
theorem dL_law_284 : decode cL_law 284 = .ok (.iadd, 1) := by decide +kernel
theorem dL_law_285 : decode cL_law 285 = .ok (.iaload, 1) := by decide +kernel
theorem dL_law_286 : decode cL_law 286 = .ok (.invokevirtual 80, 3) := by decide +kernel
theorem dL_law_289 : decode cL_law 289 = .ok (.istore 6, 2) := by decide +kernel
theorem dL_law_291 : decode cL_law 291 = .ok (.aload_n 2, 1) := by decide +kernel
theorem dL_law_292 : decode cL_law 292 = .ok (.invokevirtual 71, 3) := by decide +kernel
theorem dL_law_295 : decode cL_law 295 = .ok (.iload 5, 2) := by decide +kernel
theorem dL_law_297 : decode cL_law 297 = .ok (.if_icmp .eq 5, 3) := by decide +kernel
theorem dL_law_300 : decode cL_law 300 = .ok (.iconst 0, 1) := by decide +kernel
theorem dL_law_301 : decode cL_law 301 = .ok (.ireturn, 1) := by decide +kernel
theorem dL_law_302 : decode cL_law 302 = .ok (.iload 5, 2) := by decide +kernel
theorem dL_law_304 : decode cL_law 304 = .ok (.ifCond .ne 15, 3) := by decide +kernel
theorem dL_law_307 : decode cL_law 307 = .ok (.aload_n 3, 1) := by decide +kernel
theorem dL_law_308 : decode cL_law 308 = .ok (.iconst 0, 1) := by decide +kernel
theorem dL_law_309 : decode cL_law 309 = .ok (.laload, 1) := by decide +kernel
theorem dL_law_310 : decode cL_law 310 = .ok (.iload 6, 2) := by decide +kernel
theorem dL_law_312 : decode cL_law 312 = .ok (.i2l, 1) := by decide +kernel
theorem dL_law_313 : decode cL_law 313 = .ok (.lcmp, 1) := by decide +kernel
theorem dL_law_314 : decode cL_law 314 = .ok (.ifCond .eq 5, 3) := by decide +kernel
theorem dL_law_317 : decode cL_law 317 = .ok (.iconst 0, 1) := by decide +kernel
theorem dL_law_318 : decode cL_law 318 = .ok (.ireturn, 1) := by decide +kernel
theorem dL_law_319 : decode cL_law 319 = .ok (.goto 685, 3) := by decide +kernel
theorem dL_law_322 : decode cL_law 322 = .ok (.aload_n 1, 1) := by decide +kernel
theorem dL_law_323 : decode cL_law 323 = .ok (.aload_n 0, 1) := by decide +kernel
theorem dL_law_324 : decode cL_law 324 = .ok (.iload 4, 2) := by decide +kernel
theorem dL_law_326 : decode cL_law 326 = .ok (.iconst 1, 1) := by decide +kernel
theorem dL_law_327 : decode cL_law 327 = .ok (.iadd, 1) := by decide +kernel
theorem dL_law_328 : decode cL_law 328 = .ok (.iaload, 1) := by decide +kernel
theorem dL_law_329 : decode cL_law 329 = .ok (.aload_n 0, 1) := by decide +kernel
theorem dL_law_330 : decode cL_law 330 = .ok (.iload 4, 2) := by decide +kernel
theorem dL_law_332 : decode cL_law 332 = .ok (.iconst 2, 1) := by decide +kernel
theorem dL_law_333 : decode cL_law 333 = .ok (.iadd, 1) := by decide +kernel
theorem dL_law_334 : decode cL_law 334 = .ok (.iaload, 1) := by decide +kernel
theorem dL_law_335 : decode cL_law 335 = .ok (.ifCond .eq 7, 3) := by decide +kernel
theorem dL_law_338 : decode cL_law 338 = .ok (.iconst 1, 1) := by decide +kernel
theorem dL_law_339 : decode cL_law 339 = .ok (.goto 4, 3) := by decide +kernel
theorem dL_law_342 : decode cL_law 342 = .ok (.iconst 0, 1) := by decide +kernel
theorem dL_law_343 : decode cL_law 343 = .ok (.aload_n 3, 1) := by decide +kernel
theorem dL_law_344 : decode cL_law 344 = .ok (.invokestatic 81, 3) := by decide +kernel
theorem dL_law_347 : decode cL_law 347 = .ok (.istore 5, 2) := by decide +kernel
theorem dL_law_349 : decode cL_law 349 = .ok (.aload_n 2, 1) := by decide +kernel
theorem dL_law_350 : decode cL_law 350 = .ok (.aload_n 0, 1) := by decide +kernel
theorem dL_law_351 : decode cL_law 351 = .ok (.iload 4, 2) := by decide +kernel
theorem dL_law_353 : decode cL_law 353 = .ok (.iconst 1, 1) := by decide +kernel
theorem dL_law_354 : decode cL_law 354 = .ok (.iadd, 1) := by decide +kernel
theorem dL_law_355 : decode cL_law 355 = .ok (.iaload, 1) := by decide +kernel
theorem dL_law_356 : decode cL_law 356 = .ok (.aload_n 0, 1) := by decide +kernel
theorem dL_law_357 : decode cL_law 357 = .ok (.iload 4, 2) := by decide +kernel
theorem dL_law_359 : decode cL_law 359 = .ok (.iconst 2, 1) := by decide +kernel
theorem dL_law_360 : decode cL_law 360 = .ok (.iadd, 1) := by decide +kernel
theorem dL_law_361 : decode cL_law 361 = .ok (.iaload, 1) := by decide +kernel
theorem dL_law_362 : decode cL_law 362 = .ok (.ifCond .eq 7, 3) := by decide +kernel
theorem dL_law_365 : decode cL_law 365 = .ok (.iconst 1, 1) := by decide +kernel
theorem dL_law_366 : decode cL_law 366 = .ok (.goto 4, 3) := by decide +kernel
theorem dL_law_369 : decode cL_law 369 = .ok (.iconst 0, 1) := by decide +kernel
theorem dL_law_370 : decode cL_law 370 = .ok (.invokevirtual 84, 3) := by decide +kernel
theorem dL_law_373 : decode cL_law 373 = .ok (.istore 6, 2) := by decide +kernel
theorem dL_law_375 : decode cL_law 375 = .ok (.aload_n 2, 1) := by decide +kernel
theorem dL_law_376 : decode cL_law 376 = .ok (.invokevirtual 71, 3) := by decide +kernel
theorem dL_law_379 : decode cL_law 379 = .ok (.iload 5, 2) := by decide +kernel
theorem dL_law_381 : decode cL_law 381 = .ok (.if_icmp .eq 5, 3) := by decide +kernel
theorem dL_law_384 : decode cL_law 384 = .ok (.iconst 0, 1) := by decide +kernel
theorem dL_law_385 : decode cL_law 385 = .ok (.ireturn, 1) := by decide +kernel
theorem dL_law_386 : decode cL_law 386 = .ok (.iload 5, 2) := by decide +kernel
theorem dL_law_388 : decode cL_law 388 = .ok (.ifCond .ne 15, 3) := by decide +kernel
theorem dL_law_391 : decode cL_law 391 = .ok (.aload_n 3, 1) := by decide +kernel
theorem dL_law_392 : decode cL_law 392 = .ok (.iconst 0, 1) := by decide +kernel
theorem dL_law_393 : decode cL_law 393 = .ok (.laload, 1) := by decide +kernel
theorem dL_law_394 : decode cL_law 394 = .ok (.iload 6, 2) := by decide +kernel
theorem dL_law_396 : decode cL_law 396 = .ok (.i2l, 1) := by decide +kernel
theorem dL_law_397 : decode cL_law 397 = .ok (.lcmp, 1) := by decide +kernel
theorem dL_law_398 : decode cL_law 398 = .ok (.ifCond .eq 5, 3) := by decide +kernel
theorem dL_law_401 : decode cL_law 401 = .ok (.iconst 0, 1) := by decide +kernel
theorem dL_law_402 : decode cL_law 402 = .ok (.ireturn, 1) := by decide +kernel
theorem dL_law_403 : decode cL_law 403 = .ok (.goto 601, 3) := by decide +kernel
theorem dL_law_406 : decode cL_law 406 = .ok (.aload_n 1, 1) := by decide +kernel
theorem dL_law_407 : decode cL_law 407 = .ok (.aload_n 0, 1) := by decide +kernel
theorem dL_law_408 : decode cL_law 408 = .ok (.iload 4, 2) := by decide +kernel
theorem dL_law_410 : decode cL_law 410 = .ok (.iconst 1, 1) := by decide +kernel
theorem dL_law_411 : decode cL_law 411 = .ok (.iadd, 1) := by decide +kernel
theorem dL_law_412 : decode cL_law 412 = .ok (.iaload, 1) := by decide +kernel
theorem dL_law_413 : decode cL_law 413 = .ok (.aload_n 0, 1) := by decide +kernel
theorem dL_law_414 : decode cL_law 414 = .ok (.iload 4, 2) := by decide +kernel
theorem dL_law_416 : decode cL_law 416 = .ok (.iconst 2, 1) := by decide +kernel
theorem dL_law_417 : decode cL_law 417 = .ok (.iadd, 1) := by decide +kernel
theorem dL_law_418 : decode cL_law 418 = .ok (.iaload, 1) := by decide +kernel
theorem dL_law_419 : decode cL_law 419 = .ok (.aload_n 0, 1) := by decide +kernel
theorem dL_law_420 : decode cL_law 420 = .ok (.iload 4, 2) := by decide +kernel
theorem dL_law_422 : decode cL_law 422 = .ok (.iconst 3, 1) := by decide +kernel
theorem dL_law_423 : decode cL_law 423 = .ok (.iadd, 1) := by decide +kernel
theorem dL_law_424 : decode cL_law 424 = .ok (.iaload, 1) := by decide +kernel
theorem dL_law_425 : decode cL_law 425 = .ok (.aload_n 3, 1) := by decide +kernel
theorem dL_law_426 : decode cL_law 426 = .ok (.invokestatic 85, 3) := by decide +kernel
theorem dL_law_429 : decode cL_law 429 = .ok (.istore 5, 2) := by decide +kernel
theorem dL_law_431 : decode cL_law 431 = .ok (.aload_n 2, 1) := by decide +kernel
theorem dL_law_432 : decode cL_law 432 = .ok (.aload_n 0, 1) := by decide +kernel
theorem dL_law_433 : decode cL_law 433 = .ok (.iload 4, 2) := by decide +kernel
theorem dL_law_435 : decode cL_law 435 = .ok (.iconst 1, 1) := by decide +kernel
theorem dL_law_436 : decode cL_law 436 = .ok (.iadd, 1) := by decide +kernel
theorem dL_law_437 : decode cL_law 437 = .ok (.iaload, 1) := by decide +kernel
theorem dL_law_438 : decode cL_law 438 = .ok (.aload_n 0, 1) := by decide +kernel
theorem dL_law_439 : decode cL_law 439 = .ok (.iload 4, 2) := by decide +kernel
theorem dL_law_441 : decode cL_law 441 = .ok (.iconst 2, 1) := by decide +kernel
theorem dL_law_442 : decode cL_law 442 = .ok (.iadd, 1) := by decide +kernel
theorem dL_law_443 : decode cL_law 443 = .ok (.iaload, 1) := by decide +kernel
theorem dL_law_444 : decode cL_law 444 = .ok (.aload_n 0, 1) := by decide +kernel
theorem dL_law_445 : decode cL_law 445 = .ok (.iload 4, 2) := by decide +kernel
theorem dL_law_447 : decode cL_law 447 = .ok (.iconst 3, 1) := by decide +kernel
theorem dL_law_448 : decode cL_law 448 = .ok (.iadd, 1) := by decide +kernel
theorem dL_law_449 : decode cL_law 449 = .ok (.iaload, 1) := by decide +kernel
theorem dL_law_450 : decode cL_law 450 = .ok (.invokevirtual 88, 3) := by decide +kernel
theorem dL_law_453 : decode cL_law 453 = .ok (.istore 6, 2) := by decide +kernel
theorem dL_law_455 : decode cL_law 455 = .ok (.aload_n 2, 1) := by decide +kernel
theorem dL_law_456 : decode cL_law 456 = .ok (.invokevirtual 71, 3) := by decide +kernel
theorem dL_law_459 : decode cL_law 459 = .ok (.iload 5, 2) := by decide +kernel
theorem dL_law_461 : decode cL_law 461 = .ok (.if_icmp .eq 5, 3) := by decide +kernel
theorem dL_law_464 : decode cL_law 464 = .ok (.iconst 0, 1) := by decide +kernel
theorem dL_law_465 : decode cL_law 465 = .ok (.ireturn, 1) := by decide +kernel
theorem dL_law_466 : decode cL_law 466 = .ok (.iload 5, 2) := by decide +kernel
theorem dL_law_468 : decode cL_law 468 = .ok (.ifCond .ne 15, 3) := by decide +kernel
theorem dL_law_471 : decode cL_law 471 = .ok (.aload_n 3, 1) := by decide +kernel
theorem dL_law_472 : decode cL_law 472 = .ok (.iconst 0, 1) := by decide +kernel
theorem dL_law_473 : decode cL_law 473 = .ok (.laload, 1) := by decide +kernel
theorem dL_law_474 : decode cL_law 474 = .ok (.iload 6, 2) := by decide +kernel
theorem dL_law_476 : decode cL_law 476 = .ok (.i2l, 1) := by decide +kernel
theorem dL_law_477 : decode cL_law 477 = .ok (.lcmp, 1) := by decide +kernel
theorem dL_law_478 : decode cL_law 478 = .ok (.ifCond .eq 5, 3) := by decide +kernel
theorem dL_law_481 : decode cL_law 481 = .ok (.iconst 0, 1) := by decide +kernel
theorem dL_law_482 : decode cL_law 482 = .ok (.ireturn, 1) := by decide +kernel
theorem dL_law_483 : decode cL_law 483 = .ok (.goto 521, 3) := by decide +kernel
theorem dL_law_486 : decode cL_law 486 = .ok (.aload_n 1, 1) := by decide +kernel
theorem dL_law_487 : decode cL_law 487 = .ok (.aload_n 0, 1) := by decide +kernel
theorem dL_law_488 : decode cL_law 488 = .ok (.iload 4, 2) := by decide +kernel
theorem dL_law_490 : decode cL_law 490 = .ok (.iconst 1, 1) := by decide +kernel
theorem dL_law_491 : decode cL_law 491 = .ok (.iadd, 1) := by decide +kernel
theorem dL_law_492 : decode cL_law 492 = .ok (.iaload, 1) := by decide +kernel
theorem dL_law_493 : decode cL_law 493 = .ok (.aload_n 0, 1) := by decide +kernel
theorem dL_law_494 : decode cL_law 494 = .ok (.iload 4, 2) := by decide +kernel
theorem dL_law_496 : decode cL_law 496 = .ok (.iconst 2, 1) := by decide +kernel
theorem dL_law_497 : decode cL_law 497 = .ok (.iadd, 1) := by decide +kernel
theorem dL_law_498 : decode cL_law 498 = .ok (.iaload, 1) := by decide +kernel
theorem dL_law_499 : decode cL_law 499 = .ok (.aload_n 0, 1) := by decide +kernel
theorem dL_law_500 : decode cL_law 500 = .ok (.iload 4, 2) := by decide +kernel
theorem dL_law_502 : decode cL_law 502 = .ok (.iconst 3, 1) := by decide +kernel
theorem dL_law_503 : decode cL_law 503 = .ok (.iadd, 1) := by decide +kernel
theorem dL_law_504 : decode cL_law 504 = .ok (.iaload, 1) := by decide +kernel
theorem dL_law_505 : decode cL_law 505 = .ok (.aload_n 3, 1) := by decide +kernel
theorem dL_law_506 : decode cL_law 506 = .ok (.invokestatic 89, 3) := by decide +kernel
theorem dL_law_509 : decode cL_law 509 = .ok (.istore 5, 2) := by decide +kernel
theorem dL_law_511 : decode cL_law 511 = .ok (.aload_n 2, 1) := by decide +kernel
theorem dL_law_512 : decode cL_law 512 = .ok (.aload_n 0, 1) := by decide +kernel
theorem dL_law_513 : decode cL_law 513 = .ok (.iload 4, 2) := by decide +kernel
theorem dL_law_515 : decode cL_law 515 = .ok (.iconst 1, 1) := by decide +kernel
theorem dL_law_516 : decode cL_law 516 = .ok (.iadd, 1) := by decide +kernel
theorem dL_law_517 : decode cL_law 517 = .ok (.iaload, 1) := by decide +kernel
theorem dL_law_518 : decode cL_law 518 = .ok (.aload_n 0, 1) := by decide +kernel
theorem dL_law_519 : decode cL_law 519 = .ok (.iload 4, 2) := by decide +kernel
theorem dL_law_521 : decode cL_law 521 = .ok (.iconst 2, 1) := by decide +kernel
theorem dL_law_522 : decode cL_law 522 = .ok (.iadd, 1) := by decide +kernel
theorem dL_law_523 : decode cL_law 523 = .ok (.iaload, 1) := by decide +kernel
theorem dL_law_524 : decode cL_law 524 = .ok (.aload_n 0, 1) := by decide +kernel
theorem dL_law_525 : decode cL_law 525 = .ok (.iload 4, 2) := by decide +kernel
theorem dL_law_527 : decode cL_law 527 = .ok (.iconst 3, 1) := by decide +kernel
theorem dL_law_528 : decode cL_law 528 = .ok (.iadd, 1) := by decide +kernel
theorem dL_law_529 : decode cL_law 529 = .ok (.iaload, 1) := by decide +kernel
theorem dL_law_530 : decode cL_law 530 = .ok (.invokevirtual 91, 3) := by decide +kernel
theorem dL_law_533 : decode cL_law 533 = .ok (.istore 6, 2) := by decide +kernel
theorem dL_law_535 : decode cL_law 535 = .ok (.aload_n 2, 1) := by decide +kernel
theorem dL_law_536 : decode cL_law 536 = .ok (.invokevirtual 71, 3) := by decide +kernel
theorem dL_law_539 : decode cL_law 539 = .ok (.iload 5, 2) := by decide +kernel
theorem dL_law_541 : decode cL_law 541 = .ok (.if_icmp .eq 5, 3) := by decide +kernel
theorem dL_law_544 : decode cL_law 544 = .ok (.iconst 0, 1) := by decide +kernel
theorem dL_law_545 : decode cL_law 545 = .ok (.ireturn, 1) := by decide +kernel
theorem dL_law_546 : decode cL_law 546 = .ok (.iload 5, 2) := by decide +kernel
theorem dL_law_548 : decode cL_law 548 = .ok (.ifCond .ne 15, 3) := by decide +kernel
theorem dL_law_551 : decode cL_law 551 = .ok (.aload_n 3, 1) := by decide +kernel
theorem dL_law_552 : decode cL_law 552 = .ok (.iconst 0, 1) := by decide +kernel
theorem dL_law_553 : decode cL_law 553 = .ok (.laload, 1) := by decide +kernel
theorem dL_law_554 : decode cL_law 554 = .ok (.iload 6, 2) := by decide +kernel
theorem dL_law_556 : decode cL_law 556 = .ok (.i2l, 1) := by decide +kernel
theorem dL_law_557 : decode cL_law 557 = .ok (.lcmp, 1) := by decide +kernel
theorem dL_law_558 : decode cL_law 558 = .ok (.ifCond .eq 5, 3) := by decide +kernel
theorem dL_law_561 : decode cL_law 561 = .ok (.iconst 0, 1) := by decide +kernel
theorem dL_law_562 : decode cL_law 562 = .ok (.ireturn, 1) := by decide +kernel
theorem dL_law_563 : decode cL_law 563 = .ok (.goto 441, 3) := by decide +kernel
theorem dL_law_566 : decode cL_law 566 = .ok (.aload_n 1, 1) := by decide +kernel
theorem dL_law_567 : decode cL_law 567 = .ok (.aload_n 0, 1) := by decide +kernel
theorem dL_law_568 : decode cL_law 568 = .ok (.iload 4, 2) := by decide +kernel
theorem dL_law_570 : decode cL_law 570 = .ok (.iconst 1, 1) := by decide +kernel
theorem dL_law_571 : decode cL_law 571 = .ok (.iadd, 1) := by decide +kernel
theorem dL_law_572 : decode cL_law 572 = .ok (.iaload, 1) := by decide +kernel
theorem dL_law_573 : decode cL_law 573 = .ok (.aload_n 0, 1) := by decide +kernel
theorem dL_law_574 : decode cL_law 574 = .ok (.iload 4, 2) := by decide +kernel
theorem dL_law_576 : decode cL_law 576 = .ok (.iconst 2, 1) := by decide +kernel
theorem dL_law_577 : decode cL_law 577 = .ok (.iadd, 1) := by decide +kernel
theorem dL_law_578 : decode cL_law 578 = .ok (.iaload, 1) := by decide +kernel
theorem dL_law_579 : decode cL_law 579 = .ok (.aload_n 3, 1) := by decide +kernel
theorem dL_law_580 : decode cL_law 580 = .ok (.invokestatic 92, 3) := by decide +kernel
theorem dL_law_583 : decode cL_law 583 = .ok (.istore 5, 2) := by decide +kernel
theorem dL_law_585 : decode cL_law 585 = .ok (.aload_n 2, 1) := by decide +kernel
theorem dL_law_586 : decode cL_law 586 = .ok (.aload_n 0, 1) := by decide +kernel
theorem dL_law_587 : decode cL_law 587 = .ok (.iload 4, 2) := by decide +kernel
theorem dL_law_589 : decode cL_law 589 = .ok (.iconst 1, 1) := by decide +kernel
theorem dL_law_590 : decode cL_law 590 = .ok (.iadd, 1) := by decide +kernel
theorem dL_law_591 : decode cL_law 591 = .ok (.iaload, 1) := by decide +kernel
theorem dL_law_592 : decode cL_law 592 = .ok (.aload_n 0, 1) := by decide +kernel
theorem dL_law_593 : decode cL_law 593 = .ok (.iload 4, 2) := by decide +kernel
theorem dL_law_595 : decode cL_law 595 = .ok (.iconst 2, 1) := by decide +kernel
theorem dL_law_596 : decode cL_law 596 = .ok (.iadd, 1) := by decide +kernel
theorem dL_law_597 : decode cL_law 597 = .ok (.iaload, 1) := by decide +kernel
theorem dL_law_598 : decode cL_law 598 = .ok (.invokevirtual 94, 3) := by decide +kernel
theorem dL_law_601 : decode cL_law 601 = .ok (.istore 6, 2) := by decide +kernel
theorem dL_law_603 : decode cL_law 603 = .ok (.aload_n 2, 1) := by decide +kernel
theorem dL_law_604 : decode cL_law 604 = .ok (.invokevirtual 71, 3) := by decide +kernel
theorem dL_law_607 : decode cL_law 607 = .ok (.iload 5, 2) := by decide +kernel
theorem dL_law_609 : decode cL_law 609 = .ok (.if_icmp .eq 5, 3) := by decide +kernel
theorem dL_law_612 : decode cL_law 612 = .ok (.iconst 0, 1) := by decide +kernel
theorem dL_law_613 : decode cL_law 613 = .ok (.ireturn, 1) := by decide +kernel
theorem dL_law_614 : decode cL_law 614 = .ok (.iload 5, 2) := by decide +kernel
theorem dL_law_616 : decode cL_law 616 = .ok (.ifCond .ne 15, 3) := by decide +kernel
theorem dL_law_619 : decode cL_law 619 = .ok (.aload_n 3, 1) := by decide +kernel
theorem dL_law_620 : decode cL_law 620 = .ok (.iconst 0, 1) := by decide +kernel
theorem dL_law_621 : decode cL_law 621 = .ok (.laload, 1) := by decide +kernel
theorem dL_law_622 : decode cL_law 622 = .ok (.iload 6, 2) := by decide +kernel
theorem dL_law_624 : decode cL_law 624 = .ok (.i2l, 1) := by decide +kernel
theorem dL_law_625 : decode cL_law 625 = .ok (.lcmp, 1) := by decide +kernel
theorem dL_law_626 : decode cL_law 626 = .ok (.ifCond .eq 5, 3) := by decide +kernel
theorem dL_law_629 : decode cL_law 629 = .ok (.iconst 0, 1) := by decide +kernel
theorem dL_law_630 : decode cL_law 630 = .ok (.ireturn, 1) := by decide +kernel
theorem dL_law_631 : decode cL_law 631 = .ok (.goto 373, 3) := by decide +kernel
theorem dL_law_634 : decode cL_law 634 = .ok (.aload_n 1, 1) := by decide +kernel
theorem dL_law_635 : decode cL_law 635 = .ok (.aload_n 0, 1) := by decide +kernel
theorem dL_law_636 : decode cL_law 636 = .ok (.iload 4, 2) := by decide +kernel
theorem dL_law_638 : decode cL_law 638 = .ok (.iconst 1, 1) := by decide +kernel
theorem dL_law_639 : decode cL_law 639 = .ok (.iadd, 1) := by decide +kernel
theorem dL_law_640 : decode cL_law 640 = .ok (.iaload, 1) := by decide +kernel
theorem dL_law_641 : decode cL_law 641 = .ok (.aload_n 0, 1) := by decide +kernel
theorem dL_law_642 : decode cL_law 642 = .ok (.iload 4, 2) := by decide +kernel
theorem dL_law_644 : decode cL_law 644 = .ok (.iconst 2, 1) := by decide +kernel
theorem dL_law_645 : decode cL_law 645 = .ok (.iadd, 1) := by decide +kernel
theorem dL_law_646 : decode cL_law 646 = .ok (.iaload, 1) := by decide +kernel
theorem dL_law_647 : decode cL_law 647 = .ok (.aload_n 3, 1) := by decide +kernel
theorem dL_law_648 : decode cL_law 648 = .ok (.invokestatic 95, 3) := by decide +kernel
theorem dL_law_651 : decode cL_law 651 = .ok (.istore 5, 2) := by decide +kernel
theorem dL_law_653 : decode cL_law 653 = .ok (.aload_n 2, 1) := by decide +kernel
theorem dL_law_654 : decode cL_law 654 = .ok (.aload_n 0, 1) := by decide +kernel
theorem dL_law_655 : decode cL_law 655 = .ok (.iload 4, 2) := by decide +kernel
theorem dL_law_657 : decode cL_law 657 = .ok (.iconst 1, 1) := by decide +kernel
theorem dL_law_658 : decode cL_law 658 = .ok (.iadd, 1) := by decide +kernel
theorem dL_law_659 : decode cL_law 659 = .ok (.iaload, 1) := by decide +kernel
theorem dL_law_660 : decode cL_law 660 = .ok (.aload_n 0, 1) := by decide +kernel
theorem dL_law_661 : decode cL_law 661 = .ok (.iload 4, 2) := by decide +kernel
theorem dL_law_663 : decode cL_law 663 = .ok (.iconst 2, 1) := by decide +kernel
theorem dL_law_664 : decode cL_law 664 = .ok (.iadd, 1) := by decide +kernel
theorem dL_law_665 : decode cL_law 665 = .ok (.iaload, 1) := by decide +kernel
theorem dL_law_666 : decode cL_law 666 = .ok (.invokevirtual 97, 3) := by decide +kernel
theorem dL_law_669 : decode cL_law 669 = .ok (.istore 6, 2) := by decide +kernel
theorem dL_law_671 : decode cL_law 671 = .ok (.aload_n 2, 1) := by decide +kernel
theorem dL_law_672 : decode cL_law 672 = .ok (.invokevirtual 71, 3) := by decide +kernel
theorem dL_law_675 : decode cL_law 675 = .ok (.iload 5, 2) := by decide +kernel
theorem dL_law_677 : decode cL_law 677 = .ok (.if_icmp .eq 5, 3) := by decide +kernel
theorem dL_law_680 : decode cL_law 680 = .ok (.iconst 0, 1) := by decide +kernel
theorem dL_law_681 : decode cL_law 681 = .ok (.ireturn, 1) := by decide +kernel
theorem dL_law_682 : decode cL_law 682 = .ok (.iload 5, 2) := by decide +kernel
theorem dL_law_684 : decode cL_law 684 = .ok (.ifCond .ne 15, 3) := by decide +kernel
theorem dL_law_687 : decode cL_law 687 = .ok (.aload_n 3, 1) := by decide +kernel
theorem dL_law_688 : decode cL_law 688 = .ok (.iconst 0, 1) := by decide +kernel
theorem dL_law_689 : decode cL_law 689 = .ok (.laload, 1) := by decide +kernel
theorem dL_law_690 : decode cL_law 690 = .ok (.iload 6, 2) := by decide +kernel
theorem dL_law_692 : decode cL_law 692 = .ok (.i2l, 1) := by decide +kernel
theorem dL_law_693 : decode cL_law 693 = .ok (.lcmp, 1) := by decide +kernel
theorem dL_law_694 : decode cL_law 694 = .ok (.ifCond .eq 5, 3) := by decide +kernel
theorem dL_law_697 : decode cL_law 697 = .ok (.iconst 0, 1) := by decide +kernel
theorem dL_law_698 : decode cL_law 698 = .ok (.ireturn, 1) := by decide +kernel
theorem dL_law_699 : decode cL_law 699 = .ok (.goto 305, 3) := by decide +kernel
theorem dL_law_702 : decode cL_law 702 = .ok (.aload_n 1, 1) := by decide +kernel
theorem dL_law_703 : decode cL_law 703 = .ok (.invokevirtual 98, 3) := by decide +kernel
theorem dL_law_706 : decode cL_law 706 = .ok (.aload_n 2, 1) := by decide +kernel
theorem dL_law_707 : decode cL_law 707 = .ok (.invokevirtual 101, 3) := by decide +kernel
theorem dL_law_710 : decode cL_law 710 = .ok (.if_icmp .eq 294, 3) := by decide +kernel
theorem dL_law_713 : decode cL_law 713 = .ok (.iconst 0, 1) := by decide +kernel
theorem dL_law_714 : decode cL_law 714 = .ok (.ireturn, 1) := by decide +kernel
theorem dL_law_715 : decode cL_law 715 = .ok (.aload_n 1, 1) := by decide +kernel
theorem dL_law_716 : decode cL_law 716 = .ok (.aload_n 0, 1) := by decide +kernel
theorem dL_law_717 : decode cL_law 717 = .ok (.iload 4, 2) := by decide +kernel
theorem dL_law_719 : decode cL_law 719 = .ok (.iconst 1, 1) := by decide +kernel
theorem dL_law_720 : decode cL_law 720 = .ok (.iadd, 1) := by decide +kernel
theorem dL_law_721 : decode cL_law 721 = .ok (.iaload, 1) := by decide +kernel
theorem dL_law_722 : decode cL_law 722 = .ok (.aload_n 0, 1) := by decide +kernel
theorem dL_law_723 : decode cL_law 723 = .ok (.iload 4, 2) := by decide +kernel
theorem dL_law_725 : decode cL_law 725 = .ok (.iconst 2, 1) := by decide +kernel
theorem dL_law_726 : decode cL_law 726 = .ok (.iadd, 1) := by decide +kernel
theorem dL_law_727 : decode cL_law 727 = .ok (.iaload, 1) := by decide +kernel
theorem dL_law_728 : decode cL_law 728 = .ok (.aload_n 3, 1) := by decide +kernel
theorem dL_law_729 : decode cL_law 729 = .ok (.invokestatic 102, 3) := by decide +kernel
theorem dL_law_732 : decode cL_law 732 = .ok (.istore 5, 2) := by decide +kernel
theorem dL_law_734 : decode cL_law 734 = .ok (.aload_n 2, 1) := by decide +kernel
theorem dL_law_735 : decode cL_law 735 = .ok (.aload_n 0, 1) := by decide +kernel
theorem dL_law_736 : decode cL_law 736 = .ok (.iload 4, 2) := by decide +kernel
theorem dL_law_738 : decode cL_law 738 = .ok (.iconst 1, 1) := by decide +kernel
theorem dL_law_739 : decode cL_law 739 = .ok (.iadd, 1) := by decide +kernel
theorem dL_law_740 : decode cL_law 740 = .ok (.iaload, 1) := by decide +kernel
theorem dL_law_741 : decode cL_law 741 = .ok (.aload_n 0, 1) := by decide +kernel
theorem dL_law_742 : decode cL_law 742 = .ok (.iload 4, 2) := by decide +kernel
theorem dL_law_744 : decode cL_law 744 = .ok (.iconst 2, 1) := by decide +kernel
theorem dL_law_745 : decode cL_law 745 = .ok (.iadd, 1) := by decide +kernel
theorem dL_law_746 : decode cL_law 746 = .ok (.iaload, 1) := by decide +kernel
theorem dL_law_747 : decode cL_law 747 = .ok (.invokevirtual 104, 3) := by decide +kernel
theorem dL_law_750 : decode cL_law 750 = .ok (.istore 6, 2) := by decide +kernel
theorem dL_law_752 : decode cL_law 752 = .ok (.aload_n 2, 1) := by decide +kernel
theorem dL_law_753 : decode cL_law 753 = .ok (.invokevirtual 71, 3) := by decide +kernel
theorem dL_law_756 : decode cL_law 756 = .ok (.iload 5, 2) := by decide +kernel
theorem dL_law_758 : decode cL_law 758 = .ok (.if_icmp .eq 5, 3) := by decide +kernel
theorem dL_law_761 : decode cL_law 761 = .ok (.iconst 0, 1) := by decide +kernel
theorem dL_law_762 : decode cL_law 762 = .ok (.ireturn, 1) := by decide +kernel
theorem dL_law_763 : decode cL_law 763 = .ok (.iload 5, 2) := by decide +kernel
theorem dL_law_765 : decode cL_law 765 = .ok (.ifCond .ne 15, 3) := by decide +kernel
theorem dL_law_768 : decode cL_law 768 = .ok (.aload_n 3, 1) := by decide +kernel
theorem dL_law_769 : decode cL_law 769 = .ok (.iconst 0, 1) := by decide +kernel
theorem dL_law_770 : decode cL_law 770 = .ok (.laload, 1) := by decide +kernel
theorem dL_law_771 : decode cL_law 771 = .ok (.iload 6, 2) := by decide +kernel
theorem dL_law_773 : decode cL_law 773 = .ok (.i2l, 1) := by decide +kernel
theorem dL_law_774 : decode cL_law 774 = .ok (.lcmp, 1) := by decide +kernel
theorem dL_law_775 : decode cL_law 775 = .ok (.ifCond .eq 5, 3) := by decide +kernel
theorem dL_law_778 : decode cL_law 778 = .ok (.iconst 0, 1) := by decide +kernel
theorem dL_law_779 : decode cL_law 779 = .ok (.ireturn, 1) := by decide +kernel
theorem dL_law_780 : decode cL_law 780 = .ok (.goto 224, 3) := by decide +kernel
theorem dL_law_783 : decode cL_law 783 = .ok (.aload_n 1, 1) := by decide +kernel
theorem dL_law_784 : decode cL_law 784 = .ok (.aload_n 0, 1) := by decide +kernel
theorem dL_law_785 : decode cL_law 785 = .ok (.iload 4, 2) := by decide +kernel
theorem dL_law_787 : decode cL_law 787 = .ok (.iconst 1, 1) := by decide +kernel
theorem dL_law_788 : decode cL_law 788 = .ok (.iadd, 1) := by decide +kernel
theorem dL_law_789 : decode cL_law 789 = .ok (.iaload, 1) := by decide +kernel
theorem dL_law_790 : decode cL_law 790 = .ok (.aload_n 0, 1) := by decide +kernel
theorem dL_law_791 : decode cL_law 791 = .ok (.iload 4, 2) := by decide +kernel
theorem dL_law_793 : decode cL_law 793 = .ok (.iconst 2, 1) := by decide +kernel
theorem dL_law_794 : decode cL_law 794 = .ok (.iadd, 1) := by decide +kernel
theorem dL_law_795 : decode cL_law 795 = .ok (.iaload, 1) := by decide +kernel
theorem dL_law_796 : decode cL_law 796 = .ok (.aload_n 0, 1) := by decide +kernel
theorem dL_law_797 : decode cL_law 797 = .ok (.iload 4, 2) := by decide +kernel
theorem dL_law_799 : decode cL_law 799 = .ok (.iconst 3, 1) := by decide +kernel
theorem dL_law_800 : decode cL_law 800 = .ok (.iadd, 1) := by decide +kernel
theorem dL_law_801 : decode cL_law 801 = .ok (.iaload, 1) := by decide +kernel
theorem dL_law_802 : decode cL_law 802 = .ok (.invokestatic 105, 3) := by decide +kernel
theorem dL_law_805 : decode cL_law 805 = .ok (.istore 5, 2) := by decide +kernel
theorem dL_law_807 : decode cL_law 807 = .ok (.aload_n 2, 1) := by decide +kernel
theorem dL_law_808 : decode cL_law 808 = .ok (.aload_n 0, 1) := by decide +kernel
theorem dL_law_809 : decode cL_law 809 = .ok (.iload 4, 2) := by decide +kernel
theorem dL_law_811 : decode cL_law 811 = .ok (.iconst 1, 1) := by decide +kernel
theorem dL_law_812 : decode cL_law 812 = .ok (.iadd, 1) := by decide +kernel
theorem dL_law_813 : decode cL_law 813 = .ok (.iaload, 1) := by decide +kernel
theorem dL_law_814 : decode cL_law 814 = .ok (.aload_n 0, 1) := by decide +kernel
theorem dL_law_815 : decode cL_law 815 = .ok (.iload 4, 2) := by decide +kernel
theorem dL_law_817 : decode cL_law 817 = .ok (.iconst 2, 1) := by decide +kernel
theorem dL_law_818 : decode cL_law 818 = .ok (.iadd, 1) := by decide +kernel
theorem dL_law_819 : decode cL_law 819 = .ok (.iaload, 1) := by decide +kernel
theorem dL_law_820 : decode cL_law 820 = .ok (.aload_n 0, 1) := by decide +kernel
theorem dL_law_821 : decode cL_law 821 = .ok (.iload 4, 2) := by decide +kernel
theorem dL_law_823 : decode cL_law 823 = .ok (.iconst 3, 1) := by decide +kernel
theorem dL_law_824 : decode cL_law 824 = .ok (.iadd, 1) := by decide +kernel
theorem dL_law_825 : decode cL_law 825 = .ok (.iaload, 1) := by decide +kernel
theorem dL_law_826 : decode cL_law 826 = .ok (.invokevirtual 108, 3) := by decide +kernel
theorem dL_law_829 : decode cL_law 829 = .ok (.aload_n 2, 1) := by decide +kernel
theorem dL_law_830 : decode cL_law 830 = .ok (.invokevirtual 71, 3) := by decide +kernel
theorem dL_law_833 : decode cL_law 833 = .ok (.iload 5, 2) := by decide +kernel
theorem dL_law_835 : decode cL_law 835 = .ok (.if_icmp .eq 5, 3) := by decide +kernel
theorem dL_law_838 : decode cL_law 838 = .ok (.iconst 0, 1) := by decide +kernel
theorem dL_law_839 : decode cL_law 839 = .ok (.ireturn, 1) := by decide +kernel
theorem dL_law_840 : decode cL_law 840 = .ok (.goto 164, 3) := by decide +kernel
theorem dL_law_843 : decode cL_law 843 = .ok (.aload_n 1, 1) := by decide +kernel
theorem dL_law_844 : decode cL_law 844 = .ok (.aload_n 3, 1) := by decide +kernel
theorem dL_law_845 : decode cL_law 845 = .ok (.invokestatic 109, 3) := by decide +kernel
theorem dL_law_848 : decode cL_law 848 = .ok (.istore 5, 2) := by decide +kernel
theorem dL_law_850 : decode cL_law 850 = .ok (.aload_n 2, 1) := by decide +kernel
theorem dL_law_851 : decode cL_law 851 = .ok (.invokevirtual 112, 3) := by decide +kernel
theorem dL_law_854 : decode cL_law 854 = .ok (.istore 6, 2) := by decide +kernel
theorem dL_law_856 : decode cL_law 856 = .ok (.aload_n 2, 1) := by decide +kernel
theorem dL_law_857 : decode cL_law 857 = .ok (.invokevirtual 71, 3) := by decide +kernel
theorem dL_law_860 : decode cL_law 860 = .ok (.iload 5, 2) := by decide +kernel
theorem dL_law_862 : decode cL_law 862 = .ok (.if_icmp .eq 5, 3) := by decide +kernel
theorem dL_law_865 : decode cL_law 865 = .ok (.iconst 0, 1) := by decide +kernel
theorem dL_law_866 : decode cL_law 866 = .ok (.ireturn, 1) := by decide +kernel
theorem dL_law_867 : decode cL_law 867 = .ok (.iload 5, 2) := by decide +kernel
theorem dL_law_869 : decode cL_law 869 = .ok (.ifCond .ne 15, 3) := by decide +kernel
theorem dL_law_872 : decode cL_law 872 = .ok (.aload_n 3, 1) := by decide +kernel
theorem dL_law_873 : decode cL_law 873 = .ok (.iconst 0, 1) := by decide +kernel
theorem dL_law_874 : decode cL_law 874 = .ok (.laload, 1) := by decide +kernel
theorem dL_law_875 : decode cL_law 875 = .ok (.iload 6, 2) := by decide +kernel
theorem dL_law_877 : decode cL_law 877 = .ok (.i2l, 1) := by decide +kernel
theorem dL_law_878 : decode cL_law 878 = .ok (.lcmp, 1) := by decide +kernel
theorem dL_law_879 : decode cL_law 879 = .ok (.ifCond .eq 5, 3) := by decide +kernel
theorem dL_law_882 : decode cL_law 882 = .ok (.iconst 0, 1) := by decide +kernel
theorem dL_law_883 : decode cL_law 883 = .ok (.ireturn, 1) := by decide +kernel
theorem dL_law_884 : decode cL_law 884 = .ok (.goto 120, 3) := by decide +kernel
theorem dL_law_887 : decode cL_law 887 = .ok (.aload_n 1, 1) := by decide +kernel
theorem dL_law_888 : decode cL_law 888 = .ok (.aload_n 0, 1) := by decide +kernel
theorem dL_law_889 : decode cL_law 889 = .ok (.iload 4, 2) := by decide +kernel
theorem dL_law_891 : decode cL_law 891 = .ok (.iconst 1, 1) := by decide +kernel
theorem dL_law_892 : decode cL_law 892 = .ok (.iadd, 1) := by decide +kernel
theorem dL_law_893 : decode cL_law 893 = .ok (.iaload, 1) := by decide +kernel
theorem dL_law_894 : decode cL_law 894 = .ok (.invokevirtual 113, 3) := by decide +kernel
theorem dL_law_897 : decode cL_law 897 = .ok (.aload_n 2, 1) := by decide +kernel
theorem dL_law_898 : decode cL_law 898 = .ok (.aload_n 0, 1) := by decide +kernel
theorem dL_law_899 : decode cL_law 899 = .ok (.iload 4, 2) := by decide +kernel
theorem dL_law_901 : decode cL_law 901 = .ok (.iconst 1, 1) := by decide +kernel
theorem dL_law_902 : decode cL_law 902 = .ok (.iadd, 1) := by decide +kernel
theorem dL_law_903 : decode cL_law 903 = .ok (.iaload, 1) := by decide +kernel
theorem dL_law_904 : decode cL_law 904 = .ok (.invokevirtual 117, 3) := by decide +kernel
theorem dL_law_907 : decode cL_law 907 = .ok (.if_icmp .eq 97, 3) := by decide +kernel
theorem dL_law_910 : decode cL_law 910 = .ok (.iconst 0, 1) := by decide +kernel
theorem dL_law_911 : decode cL_law 911 = .ok (.ireturn, 1) := by decide +kernel
theorem dL_law_912 : decode cL_law 912 = .ok (.aload_n 1, 1) := by decide +kernel
theorem dL_law_913 : decode cL_law 913 = .ok (.aload_n 0, 1) := by decide +kernel
theorem dL_law_914 : decode cL_law 914 = .ok (.iload 4, 2) := by decide +kernel
theorem dL_law_916 : decode cL_law 916 = .ok (.iconst 1, 1) := by decide +kernel
theorem dL_law_917 : decode cL_law 917 = .ok (.iadd, 1) := by decide +kernel
theorem dL_law_918 : decode cL_law 918 = .ok (.iaload, 1) := by decide +kernel
theorem dL_law_919 : decode cL_law 919 = .ok (.aload_n 0, 1) := by decide +kernel
theorem dL_law_920 : decode cL_law 920 = .ok (.iload 4, 2) := by decide +kernel
theorem dL_law_922 : decode cL_law 922 = .ok (.iconst 2, 1) := by decide +kernel
theorem dL_law_923 : decode cL_law 923 = .ok (.iadd, 1) := by decide +kernel
theorem dL_law_924 : decode cL_law 924 = .ok (.iaload, 1) := by decide +kernel
theorem dL_law_925 : decode cL_law 925 = .ok (.aload_n 3, 1) := by decide +kernel
theorem dL_law_926 : decode cL_law 926 = .ok (.invokestatic 118, 3) := by decide +kernel
theorem dL_law_929 : decode cL_law 929 = .ok (.istore 5, 2) := by decide +kernel
theorem dL_law_931 : decode cL_law 931 = .ok (.aload_n 2, 1) := by decide +kernel
theorem dL_law_932 : decode cL_law 932 = .ok (.aload_n 0, 1) := by decide +kernel
theorem dL_law_933 : decode cL_law 933 = .ok (.iload 4, 2) := by decide +kernel
theorem dL_law_935 : decode cL_law 935 = .ok (.iconst 1, 1) := by decide +kernel
theorem dL_law_936 : decode cL_law 936 = .ok (.iadd, 1) := by decide +kernel
theorem dL_law_937 : decode cL_law 937 = .ok (.iaload, 1) := by decide +kernel
theorem dL_law_938 : decode cL_law 938 = .ok (.aload_n 0, 1) := by decide +kernel
theorem dL_law_939 : decode cL_law 939 = .ok (.iload 4, 2) := by decide +kernel
theorem dL_law_941 : decode cL_law 941 = .ok (.iconst 2, 1) := by decide +kernel
theorem dL_law_942 : decode cL_law 942 = .ok (.iadd, 1) := by decide +kernel
theorem dL_law_943 : decode cL_law 943 = .ok (.iaload, 1) := by decide +kernel
theorem dL_law_944 : decode cL_law 944 = .ok (.invokevirtual 120, 3) := by decide +kernel
theorem dL_law_947 : decode cL_law 947 = .ok (.lstore 6, 2) := by decide +kernel
theorem dL_law_949 : decode cL_law 949 = .ok (.aload_n 2, 1) := by decide +kernel
theorem dL_law_950 : decode cL_law 950 = .ok (.invokevirtual 71, 3) := by decide +kernel
theorem dL_law_953 : decode cL_law 953 = .ok (.iload 5, 2) := by decide +kernel
theorem dL_law_955 : decode cL_law 955 = .ok (.if_icmp .eq 5, 3) := by decide +kernel
theorem dL_law_958 : decode cL_law 958 = .ok (.iconst 0, 1) := by decide +kernel
theorem dL_law_959 : decode cL_law 959 = .ok (.ireturn, 1) := by decide +kernel
theorem dL_law_960 : decode cL_law 960 = .ok (.iload 5, 2) := by decide +kernel
theorem dL_law_962 : decode cL_law 962 = .ok (.ifCond .ne 14, 3) := by decide +kernel
theorem dL_law_965 : decode cL_law 965 = .ok (.aload_n 3, 1) := by decide +kernel
theorem dL_law_966 : decode cL_law 966 = .ok (.iconst 0, 1) := by decide +kernel
theorem dL_law_967 : decode cL_law 967 = .ok (.laload, 1) := by decide +kernel
theorem dL_law_968 : decode cL_law 968 = .ok (.lload 6, 2) := by decide +kernel
theorem dL_law_970 : decode cL_law 970 = .ok (.lcmp, 1) := by decide +kernel
theorem dL_law_971 : decode cL_law 971 = .ok (.ifCond .eq 5, 3) := by decide +kernel
theorem dL_law_974 : decode cL_law 974 = .ok (.iconst 0, 1) := by decide +kernel
theorem dL_law_975 : decode cL_law 975 = .ok (.ireturn, 1) := by decide +kernel
theorem dL_law_976 : decode cL_law 976 = .ok (.goto 28, 3) := by decide +kernel
theorem dL_law_979 : decode cL_law 979 = .ok (.aload_n 1, 1) := by decide +kernel
theorem dL_law_980 : decode cL_law 980 = .ok (.aload_n 0, 1) := by decide +kernel
theorem dL_law_981 : decode cL_law 981 = .ok (.iload 4, 2) := by decide +kernel
theorem dL_law_983 : decode cL_law 983 = .ok (.iconst 1, 1) := by decide +kernel
theorem dL_law_984 : decode cL_law 984 = .ok (.iadd, 1) := by decide +kernel
theorem dL_law_985 : decode cL_law 985 = .ok (.iaload, 1) := by decide +kernel
theorem dL_law_986 : decode cL_law 986 = .ok (.invokevirtual 121, 3) := by decide +kernel
theorem dL_law_989 : decode cL_law 989 = .ok (.aload_n 2, 1) := by decide +kernel
theorem dL_law_990 : decode cL_law 990 = .ok (.aload_n 0, 1) := by decide +kernel
theorem dL_law_991 : decode cL_law 991 = .ok (.iload 4, 2) := by decide +kernel
theorem dL_law_993 : decode cL_law 993 = .ok (.iconst 1, 1) := by decide +kernel
theorem dL_law_994 : decode cL_law 994 = .ok (.iadd, 1) := by decide +kernel
theorem dL_law_995 : decode cL_law 995 = .ok (.iaload, 1) := by decide +kernel
theorem dL_law_996 : decode cL_law 996 = .ok (.invokevirtual 124, 3) := by decide +kernel
theorem dL_law_999 : decode cL_law 999 = .ok (.if_icmp .eq 5, 3) := by decide +kernel
theorem dL_law_1002 : decode cL_law 1002 = .ok (.iconst 0, 1) := by decide +kernel
theorem dL_law_1003 : decode cL_law 1003 = .ok (.ireturn, 1) := by decide +kernel
theorem dL_law_1004 : decode cL_law 1004 = .ok (.iinc 4 4, 3) := by decide +kernel
theorem dL_law_1007 : decode cL_law 1007 = .ok (.goto (-984), 3) := by decide +kernel
theorem dL_law_1010 : decode cL_law 1010 = .ok (.iconst 1, 1) := by decide +kernel
theorem dL_law_1011 : decode cL_law 1011 = .ok (.ireturn, 1) := by decide +kernel
end
section
/-! THE WALKS' BASE. A walk speaks of an abstract heap: cells by their numbers (0 the script, 1, 2, .. the made ones in their order), values whose references are such numbers; how many cells and slots have been spent. 'J .. a b': from the frame a the machine goes to the frame b. -/
abbrev AC : Type := (Nat × (Nat → Int32)) ⊕ ((Nat × (Nat → Int64)) ⊕ (Nat × List Value))
def ia (n : Nat) (f : Nat → Int32) : AC := .inl (n, f)
def la (n : Nat) (f : Nat → Int64) : AC := .inr (.inl (n, f))
def ob (c : Nat) (fs : List Value) : AC := .inr (.inr (c, fs))
/-- cells; how many are made; cells and slots spent -/
abbrev AH : Type := (Nat → AC) × (Nat × (Nat × Nat))
def hs (h : AH) (o : Nat) (c : AC) : AH := (va_up h.1 o c, h.2)
def hw (h : AH) (c : AC) (z : Nat) : AH := (va_up h.1 (h.2.1 + 1) c, (h.2.1 + 1, (h.2.2.1 + 1, h.2.2.2 + z)))
def mv (ad : Nat → Nat) : Value → Value
  | .ref i => .ref (ad i)
  | v => v
def cv (cI cJ : ClassId) (ad : Nat → Nat) : AC → va_E
  | .inl (n, f) => .inl (cI, n, .inl f)
  | .inr (.inl (n, f)) => .inl (cJ, n, .inr (.inl f))
  | .inr (.inr (c, fs)) => .inr (c, fs.map (mv ad))
def wl (cI cJ : ClassId) (ad : Nat → Nat) (h : AH) : va_W := (List.range h.2.1).map (fun j => (ad (j + 1), cv cI cJ ad (h.1 (j + 1))))
def okv (n : Nat) : Value → Prop
  | .ref i => i ≤ n
  | _ => True
def okc (n : Nat) : AC → Prop
  | .inr (.inr (_, fs)) => ∀ v ∈ fs, okv n v
  | _ => True
def okh (h : AH) : Prop := (∃ L xs, h.1 0 = ia L xs) ∧ ∀ i, okc h.2.1 (h.1 i)
def okl (n : Nat) (ls : List (Nat × Value)) : Prop := ∀ q ∈ ls, okv n q.2
def oks (n : Nat) (st : List Value) : Prop := ∀ v ∈ st, okv n v
def lk : List (Nat × Value) → Nat → Option Value
  | [], _ => none
  | (j, v) :: r, i => if j = i then some v else lk r i
def ml (ad : Nat → Nat) (ls : List (Nat × Value)) : List (Nat × Value) := ls.map (fun q => (q.1, mv ad q.2))
theorem lk_in {v : Value} {i : Nat} : ∀ {ls : List (Nat × Value)}, lk ls i = some v → (i, v) ∈ ls
  | [], h => by cases h
  | (j, w) :: r, h => by
    unfold lk at h
    by_cases e : j = i
    · rw [if_pos e] at h; cases h; subst e; exact List.mem_cons_self
    · rw [if_neg e] at h; exact List.mem_cons_of_mem _ (lk_in h)
theorem ml_in {ad : Nat → Nat} {ls : List (Nat × Value)} {i : Nat} {v : Value} (h : (i, v) ∈ ls) : (i, mv ad v) ∈ ml ad ls := List.mem_map.mpr ⟨(i, v), h, rfl⟩
theorem okv_le {n m : Nat} (h : n ≤ m) : ∀ {v : Value}, okv n v → okv m v
  | .ref _, q => Nat.le_trans q h
  | .int _, _ => trivial
  | .long _, _ => trivial
  | .float _, _ => trivial
  | .double _, _ => trivial
  | .null, _ => trivial
  | .retAddr _, _ => trivial
theorem mv_ext {n : Nat} {ad ad' : Nat → Nat} (h : ∀ i, i ≤ n → ad' i = ad i) : ∀ {v : Value}, okv n v → mv ad' v = mv ad v := by
  intro v hv
  cases v <;> first | rfl | (show Value.ref _ = Value.ref _; rw [h _ hv])
theorem okc_le {n m : Nat} (h : n ≤ m) {c : AC} (q : okc n c) : okc m c := by
  match c, q with
  | .inl _, _ => trivial
  | .inr (.inl _), _ => trivial
  | .inr (.inr (_, fs)), q => exact fun v hv => okv_le h (q v hv)
theorem cv_ext {n : Nat} {ad ad' : Nat → Nat} (h : ∀ i, i ≤ n → ad' i = ad i) {cI cJ : ClassId} {c : AC} (q : okc n c) : cv cI cJ ad' c = cv cI cJ ad c := by
  match c, q with
  | .inl (_, _), _ => rfl
  | .inr (.inl (_, _)), _ => rfl
  | .inr (.inr (k, fs)), q =>
    show Sum.inr (k, fs.map (mv ad')) = Sum.inr (k, fs.map (mv ad))
    rw [List.map_congr_left (fun v hv => mv_ext h (q v hv))]
theorem st_ext {n : Nat} {ad ad' : Nat → Nat} (h : ∀ i, i ≤ n → ad' i = ad i) {st : List Value} (q : oks n st) : st.map (mv ad') = st.map (mv ad) := List.map_congr_left (fun v hv => mv_ext h (q v hv))
theorem ml_ext {n : Nat} {ad ad' : Nat → Nat} (h : ∀ i, i ≤ n → ad' i = ad i) {ls : List (Nat × Value)} (q : okl n ls) : ml ad' ls = ml ad ls := List.map_congr_left (fun v hv => by rw [mv_ext h (q v hv)])
theorem wl_get {cI cJ : ClassId} {ad : Nat → Nat} {h : AH} {j : Nat} (hj : j < h.2.1) : (wl cI cJ ad h)[j]? = some (ad (j + 1), cv cI cJ ad (h.1 (j + 1))) := by
  unfold wl
  rw [List.getElem?_map, List.getElem?_range hj]
  rfl
theorem wl_set {cI cJ : ClassId} {ad : Nat → Nat} {h : AH} {j : Nat} {c : AC} : (wl cI cJ ad h).set j (ad (j + 1), cv cI cJ ad c) = wl cI cJ ad (hs h (j + 1) c) := by
  apply List.ext_getElem?
  intro i
  by_cases hi : i < h.2.1
  · rw [wl_get (h := hs h (j + 1) c) hi, List.getElem?_set]
    by_cases e : j = i
    · subst e
      have hl : j < (wl cI cJ ad h).length := by simpa [wl] using hi
      rw [if_pos rfl, if_pos hl]
      simp [hs, va_up]
    · rw [if_neg e, wl_get hi]
      have e2 : ¬ i + 1 = j + 1 := fun q => e (Nat.succ.inj q).symm
      simp [hs, va_up, e2, Ne.symm e]
  · rw [List.getElem?_eq_none (by simpa [wl] using hi), List.getElem?_eq_none (by simpa [wl, hs] using hi)]
theorem wl_push {cI cJ : ClassId} {ad : Nat → Nat} {h : AH} {c : AC} {z q : Nat} (ho : okh h) (hc : okc h.2.1 c) : wl cI cJ ad h ++ [(q, cv cI cJ ad c)] = wl cI cJ (va_up ad (h.2.1 + 1) q) (hw h c z) := by
  have hx : ∀ i, i ≤ h.2.1 → va_up ad (h.2.1 + 1) q i = ad i := fun i hi => by
    have : ¬ i = h.2.1 + 1 := by omega
    simp [va_up, this]
  show _ = (List.range (h.2.1 + 1)).map _
  rw [List.range_succ, List.map_append]
  congr 1
  · unfold wl
    apply List.map_congr_left
    intro j hj
    have hj := List.mem_range.mp hj
    have e : ¬ j + 1 = h.2.1 + 1 := by omega
    rw [hx _ (by omega)]
    congr 1
    show cv cI cJ ad (h.1 (j + 1)) = cv cI cJ _ (va_up h.1 (h.2.1 + 1) c (j + 1))
    simp only [va_up, if_neg e]
    exact (cv_ext hx (ho.2 _)).symm
  · show [_] = [_]
    congr 2
    · simp [va_up]
    · show cv cI cJ ad c = cv cI cJ _ (va_up h.1 (h.2.1 + 1) c (h.2.1 + 1))
      simp only [va_up, if_pos]
      exact (cv_ext hx hc).symm
theorem okh_set {h : AH} {o : Nat} {c : AC} (ho : okh h) (h0 : 0 < o) (hc : okc h.2.1 c) : okh (hs h o c) := by
  obtain ⟨⟨L, xs, e⟩, q⟩ := ho
  refine ⟨⟨L, xs, ?_⟩, fun i => ?_⟩
  · have : ¬ 0 = o := by omega
    simpa [hs, va_up, this] using e
  · show okc h.2.1 (va_up h.1 o c i)
    unfold va_up
    split
    · exact hc
    · exact q i
theorem okh_new {h : AH} {c : AC} {z : Nat} (ho : okh h) (hc : okc h.2.1 c) : okh (hw h c z) := by
  obtain ⟨⟨L, xs, e⟩, q⟩ := ho
  refine ⟨⟨L, xs, ?_⟩, fun i => ?_⟩
  · have : ¬ 0 = h.2.1 + 1 := by omega
    simpa [hw, va_up, this] using e
  · show okc (h.2.1 + 1) (va_up h.1 (h.2.1 + 1) c i)
    unfold va_up
    split
    · exact okc_le (Nat.le_succ _) hc
    · exact okc_le (Nat.le_succ _) (q i)
/-- a method: name, code, locals, answer, handlers -/
abbrev MD : Type := MethodName × (ByteArray × (Nat × (Option FieldType × List (Nat × Nat × Nat × Nat))))
/-- the words that hold in every method -/
def gw : List Cond := lw_tbl.filter goodWord
theorem gm {ws : List Cond} (g : GoodIn lw_tbl ws) {w : Cond} (h : w ∈ ws) : w ∈ gw := by
  obtain ⟨h1, h2⟩ := g w h
  refine List.mem_filter.mpr ⟨h1, ?_⟩
  rcases h2 with q | ⟨ty, rfl⟩
  · cases w <;> first | exact q | rfl
  · rfl
theorem gw_good : GoodIn gw gw := fun w h => ⟨h, good_of_word (List.mem_filter.mp h).2⟩
def Cx (M : MD) (p : Program) (s : State) (m : MethodId) (args : Array Value) (meth : Method) (c : Code) : Prop :=
  p.tables.exec = Jvm.exec ∧ c.code = M.2.1 ∧ c.maxLocals = M.2.2.1 ∧ s.vm.findClass M.1.cls = some m.cls ∧ (∀ w ∈ gw, w.before args s = true) ∧ meth.sig.returnType = M.2.2.2.1 ∧ meth.locks = false ∧ meth.name = M.1.name ∧ c.exceptionTable.toList = tableOf M.2.2.2.2
/-- the String constants that the class throws with -/
def strs : List (Nat × String) := [(51, "there is no such node, or no such thing to tell of it"), (79, "there is no search"), (101, "there is no such token, or no such thing to tell of it"), (134, "there is no such node, kind, mode or bound")]
/-- words that the tables decide, kept from call to call by rows of their own -/
def xw : List Cond := [.methodLinkNest RX7 9 yX2_init "SharedChoices", .methodLinkNest RX3 11 yX1_init "SharedChoices", .methodLinkNest RX3 20 yX0_init "SharedChoices",
  .castable "java/lang/IllegalArgumentException" "java/lang/IllegalArgumentException", .castable "java/util/NoSuchElementException" "java/util/NoSuchElementException", .castable "java/lang/IllegalStateException" "java/lang/IllegalStateException",
  .declares ⟨"java/lang/RuntimeException", "<init>", "(Ljava/lang/String;)V"⟩, .declares ⟨"java/lang/Exception", "<init>", "(Ljava/lang/String;)V"⟩, .declares ⟨"java/lang/Throwable", "<init>", "(Ljava/lang/String;)V"⟩]
theorem xw_warm {s U : State} (hW : s.WarmedH U.vm) : ∀ w ∈ xw, va_Nw w s → va_Nw w U := by
  intro w hw h
  simp only [xw, List.mem_cons, List.not_mem_nil, or_false] at hw
  rcases hw with rfl | rfl | rfl | rfl | rfl | rfl | rfl | rfl | rfl <;> first | exact va_Nw.warmM hW h | exact va_Nw.warmC hW h | exact va_Nw.warmD hW h
theorem xw_same {s U : State} (hv : s.vm = U.vm) : ∀ w ∈ xw, va_Nw w s → va_Nw w U := by
  intro w hw h
  simp only [xw, List.mem_cons, List.not_mem_nil, or_false] at hw
  rcases hw with rfl | rfl | rfl | rfl | rfl | rfl | rfl | rfl | rfl <;> exact va_Nw.same rfl hv h
/-- what a throw reads of the heap -/
def Zs (A : Nat → Prop) (U : State) (H : Heap) : Prop := vx_Zq Bundle.tN "UNASSIGNED_STACK" Bundle.steD A U H ∧ vx_Zq Bundle.tN "SUPPRESSED_SENTINEL" Bundle.listD A U H ∧ (∀ q ∈ strs, ∃ sa, vk_R RX7 q.1 q.2 sa U) ∧ ∀ w ∈ xw, va_Nw w U
def Hd (D : va_G) (cI cJ : ClassId) (A : Nat → Prop) (H0 : Heap) (ad : Nat → Nat) (h : AH) (H : Heap) (locs : List Loc) : Prop :=
  va_P D vwCl (wl cI cJ ad h) H ∧ va_D A (wl cI cJ ad h) ∧ va_S A H0 H locs ∧ okh h
/-- the heap, the locals, the stack; with k the script too -/
def Pt (k : Bool) (M : MD) (D : va_G) (cI cJ : ClassId) (A : Nat → Prop) (s : State) (ad : Nat → Nat) (ls : List (Nat × Value)) (st : List Value) (h : AH) (H : Heap) (locs : List Loc) (lsA : Array Slot) : Prop :=
  Hd D cI cJ A s.heap ad h H locs ∧ lv_has lsA M.2.2.1 (ml ad ls) ∧ okl h.2.1 ls ∧ oks h.2.1 st ∧ (k = true → ∃ L xs, h.1 0 = ia L xs ∧ va_X (ad 0) L xs s s.heap ∧ ad 0 < s.heap.size ∧ ¬ A (ad 0))
/-- what stands around -/
def Gx (M : MD) (p : Program) (l : Launch) (R : Room) (s : State) (m : MethodId) (args : Array Value) (meth : Method) (c : Code) (D : va_G) (cI cJ : ClassId) (A : Nat → Prop) (d : Nat) : Prop :=
  Cx M p s m args meth c ∧ (d ≤ R.frames ∧ 64 * d ≤ R.locals) ∧ va_K D vwCl [(cI, .int), (cJ, .long)] s ∧ (∀ q, s.heap.size ≤ q → A q) ∧ l.stackTraces = false ∧ Zs A s s.heap
def J (k : Bool) (M : MD) (d pc : Nat) (ls : List (Nat × Value)) (st : List Value) (h : AH) (pc' : Nat) (ls' : List (Nat × Value)) (st' : List Value) (h' : AH) : Prop :=
  (h.2.1 ≤ h'.2.1 ∧ h.2.2.1 ≤ h'.2.2.1 ∧ h.2.2.2 ≤ h'.2.2.2) ∧
  ∀ (p : Program) (l : Launch) (e : Env) (R : Room) (s : State) (m : MethodId) (args : Array Value) (below : List Frame) (meth : Method) (c : Code) (Q : State → Prop) (D : va_G) (cI cJ : ClassId) (A : Nat → Prop) (cb sb : Nat),
    Gx M p l R s m args meth c D cI cJ A d → (cb ≤ h.2.2.1 ∧ sb ≤ h.2.2.2 ∧ h'.2.2.1 - cb ≤ R.cells ∧ h'.2.2.2 - sb ≤ R.slots) →
    ∀ (ad : Nat → Nat) (H : Heap) (locs : List Loc) (lsA : Array Slot), Pt k M D cI cJ A s ad ls st h H locs lsA →
    (∀ (ad' : Nat → Nat) (H' : Heap) (locs' : List Loc) (lsA' : Array Slot), (∀ i, i ≤ h.2.1 → ad' i = ad i) → Pt k M D cI cJ A s ad' ls' st' h' H' locs' lsA' →
      W p l e R s m args below meth c H' locs' (h'.2.2.1 - cb) (h'.2.2.2 - sb) Q (F0 m pc' lsA' (st'.map (mv ad')))) →
    W p l e R s m args below meth c H locs (h.2.2.1 - cb) (h.2.2.2 - sb) Q (F0 m pc lsA (st.map (mv ad)))
theorem J.rf {k : Bool} {M : MD} {d pc : Nat} {ls : List (Nat × Value)} {st : List Value} {h : AH} : J k M d pc ls st h pc ls st h :=
  ⟨⟨Nat.le_refl _, Nat.le_refl _, Nat.le_refl _⟩, fun p l e R s m args below meth c Q D cI cJ A cb sb _ _ ad H locs lsA P K => K ad H locs lsA (fun _ _ => rfl) P⟩
theorem J.tr {k : Bool} {M : MD} {d p1 p2 p3 : Nat} {l1 l2 l3 : List (Nat × Value)} {s1 s2 s3 : List Value} {h1 h2 h3 : AH} (a : J k M d p1 l1 s1 h1 p2 l2 s2 h2) (b : J k M d p2 l2 s2 h2 p3 l3 s3 h3) : J k M d p1 l1 s1 h1 p3 l3 s3 h3 := by
  obtain ⟨⟨a1, a2, a3⟩, a⟩ := a
  obtain ⟨⟨b1, b2, b3⟩, b⟩ := b
  refine ⟨⟨Nat.le_trans a1 b1, Nat.le_trans a2 b2, Nat.le_trans a3 b3⟩, fun p l e R s m args below meth c Q D cI cJ A cb sb g r ad H locs lsA P K => ?_⟩
  refine a p l e R s m args below meth c Q D cI cJ A cb sb g ⟨r.1, r.2.1, by omega, by omega⟩ ad H locs lsA P (fun ad' H' locs' lsA' he P' => ?_)
  exact b p l e R s m args below meth c Q D cI cJ A cb sb g ⟨by omega, by omega, r.2.2.1, r.2.2.2⟩ ad' H' locs' lsA' P' (fun ad'' H'' locs'' lsA'' he' P'' => K ad'' H'' locs'' lsA'' (fun i hi => (he' i (Nat.le_trans hi a1)).trans (he i hi)) P'')
end
section
/-- a step that leaves heap and locals as they are -/
theorem J.pure {k : Bool} {M : MD} {d pc q : Nat} {ls : List (Nat × Value)} {st : List Value} {h : AH} {st' : List Value} (hok : oks h.2.1 st → oks h.2.1 st')
    (hw : ∀ (p : Program) (l : Launch) (e : Env) (R : Room) (s : State) (m : MethodId) (args : Array Value) (below : List Frame) (meth : Method) (c : Code) (Q : State → Prop) (ad : Nat → Nat) (H : Heap) (locs : List Loc) (cells slots : Nat) (lsA : Array Slot), Cx M p s m args meth c → lv_has lsA M.2.2.1 (ml ad ls) →
      W p l e R s m args below meth c H locs cells slots Q (F0 m q lsA (st'.map (mv ad))) → W p l e R s m args below meth c H locs cells slots Q (F0 m pc lsA (st.map (mv ad)))) : J k M d pc ls st h q ls st' h := by
  refine ⟨⟨Nat.le_refl _, Nat.le_refl _, Nat.le_refl _⟩, fun p l e R s m args below meth c Q D cI cJ A cb sb g r ad H locs lsA P K => ?_⟩
  exact hw p l e R s m args below meth c Q ad H locs _ _ lsA g.1 P.2.1 (K ad H locs lsA (fun _ _ => rfl) ⟨P.1, P.2.1, P.2.2.1, hok P.2.2.2.1, P.2.2.2.2⟩)
/-- a step that changes the locals -/
theorem J.loc {k : Bool} {M : MD} {d pc q : Nat} {ls : List (Nat × Value)} {st : List Value} {h : AH} {ls' : List (Nat × Value)} {st' : List Value} (hok : oks h.2.1 st → oks h.2.1 st') (hokl : okl h.2.1 ls → oks h.2.1 st → okl h.2.1 ls')
    (hw : ∀ (p : Program) (l : Launch) (e : Env) (R : Room) (s : State) (m : MethodId) (args : Array Value) (below : List Frame) (meth : Method) (c : Code) (Q : State → Prop) (ad : Nat → Nat) (H : Heap) (locs : List Loc) (cells slots : Nat) (lsA : Array Slot), Cx M p s m args meth c → lv_has lsA M.2.2.1 (ml ad ls) →
      (∀ lsA' : Array Slot, lv_has lsA' M.2.2.1 (ml ad ls') → W p l e R s m args below meth c H locs cells slots Q (F0 m q lsA' (st'.map (mv ad)))) → W p l e R s m args below meth c H locs cells slots Q (F0 m pc lsA (st.map (mv ad)))) : J k M d pc ls st h q ls' st' h := by
  refine ⟨⟨Nat.le_refl _, Nat.le_refl _, Nat.le_refl _⟩, fun p l e R s m args below meth c Q D cI cJ A cb sb g r ad H locs lsA P K => ?_⟩
  exact hw p l e R s m args below meth c Q ad H locs _ _ lsA g.1 P.2.1 (fun lsA' hl => K ad H locs lsA' (fun _ _ => rfl) ⟨P.1, hl, hokl P.2.2.1 P.2.2.2.1, hok P.2.2.2.1, P.2.2.2.2⟩)
theorem oks_c {n : Nat} {v : Value} {st : List Value} (hv : okv n v) (h : oks n st) : oks n (v :: st) := fun w hw => (List.mem_cons.mp hw).elim (fun e => e ▸ hv) (h w)
theorem oks_t {n : Nat} {v : Value} {st : List Value} (h : oks n (v :: st)) : oks n st := fun w hw => h w (List.mem_cons_of_mem _ hw)
theorem oks_h {n : Nat} {v : Value} {st : List Value} (h : oks n (v :: st)) : okv n v := h v List.mem_cons_self
theorem Cx.x {M : MD} {p : Program} {s : State} {m : MethodId} {args : Array Value} {meth : Method} {c : Code} (h : Cx M p s m args meth c) : p.tables.exec = Jvm.exec := h.1
theorem Cx.b {M : MD} {p : Program} {s : State} {m : MethodId} {args : Array Value} {meth : Method} {c : Code} (h : Cx M p s m args meth c) : c.code = M.2.1 := h.2.1
theorem Cx.o {M : MD} {p : Program} {s : State} {m : MethodId} {args : Array Value} {meth : Method} {c : Code} (h : Cx M p s m args meth c) : s.vm.findClass M.1.cls = some m.cls := h.2.2.2.1
theorem Cx.w {M : MD} {p : Program} {s : State} {m : MethodId} {args : Array Value} {meth : Method} {c : Code} (h : Cx M p s m args meth c) : ∀ w ∈ gw, w.before args s = true := h.2.2.2.2.1
theorem lv_lk {ad : Nat → Nat} {ls : List (Nat × Value)} {i nL : Nat} {v : Value} {lsA : Array Slot} (h : lv_has lsA nL (ml ad ls)) (hl : lk ls i = some v) : lsA[i]? = some (.val (mv ad v)) := h.2.2 (i, mv ad v) (ml_in (lk_in hl))
theorem okl_lk {n : Nat} {ls : List (Nat × Value)} {i : Nat} {v : Value} (h : okl n ls) (hl : lk ls i = some v) : okv n v := h (i, v) (lk_in hl)
def lf1 (i : Nat) (ls : List (Nat × Value)) : List (Nat × Value) := ls.filter (fun q => !(q.1 == i) && !(q.1 + 1 == i && q.2.category == 2))
def lf2 (i : Nat) (ls : List (Nat × Value)) : List (Nat × Value) := ls.filter (fun q => !(q.1 == i) && (!(q.1 == i + 1) && !(q.1 + 1 == i && q.2.category == 2)))
theorem mv_cat {ad : Nat → Nat} {v : Value} : (mv ad v).category = v.category := by cases v <;> rfl
theorem lf1_ml {ad : Nat → Nat} {i : Nat} {ls : List (Nat × Value)} : (ml ad ls).filter (fun q => !(q.1 == i) && !(q.1 + 1 == i && q.2.category == 2)) = ml ad (lf1 i ls) := by
  unfold ml lf1
  rw [List.filter_map]
  congr 1
  apply List.filter_congr
  intro x _
  simp [Function.comp, mv_cat]
theorem lf2_ml {ad : Nat → Nat} {i : Nat} {ls : List (Nat × Value)} : (ml ad ls).filter (fun q => !(q.1 == i) && (!(q.1 == i + 1) && !(q.1 + 1 == i && q.2.category == 2))) = ml ad (lf2 i ls) := by
  unfold ml lf2
  rw [List.filter_map]
  congr 1
  apply List.filter_congr
  intro x _
  simp [Function.comp, mv_cat]
theorem okl_lf1 {n i : Nat} {ls : List (Nat × Value)} (h : okl n ls) : okl n (lf1 i ls) := fun q hq => h q (List.mem_filter.mp hq).1
theorem okl_lf2 {n i : Nat} {ls : List (Nat × Value)} (h : okl n ls) : okl n (lf2 i ls) := fun q hq => h q (List.mem_filter.mp hq).1
theorem okl_c {n i : Nat} {v : Value} {ls : List (Nat × Value)} (hv : okv n v) (h : okl n ls) : okl n ((i, v) :: ls) := fun w hw => (List.mem_cons.mp hw).elim (fun e => e ▸ hv) (h w)

theorem s_iconst {k : Bool} {M : MD} {d pc q : Nat} {ls : List (Nat × Value)} {st : List Value} {h : AH} {n : Int} {v : Int32} (hd : decode M.2.1 pc = .ok (.iconst n, 1)) (hq : pc + 1 = q) (hv : Int32.ofInt n = v) : J k M d pc ls (st) h q ls (.int v :: st) h := by
  subst hq
  exact J.pure (fun o => oks_c trivial o) (fun p l e R s m args below meth c Q ad H locs cells slots lsA C hl K => lv_iconst C.x C.b hd hv K)
theorem s_bipush {k : Bool} {M : MD} {d pc q : Nat} {ls : List (Nat × Value)} {st : List Value} {h : AH} {n : Int} {v : Int32} (hd : decode M.2.1 pc = .ok (.bipush n, 2)) (hq : pc + 2 = q) (hv : (Int8.ofInt n).toInt32 = v) : J k M d pc ls (st) h q ls (.int v :: st) h := by
  subst hq
  exact J.pure (fun o => oks_c trivial o) (fun p l e R s m args below meth c Q ad H locs cells slots lsA C hl K => lv_bipush C.x C.b hd hv K)
theorem s_sipush {k : Bool} {M : MD} {d pc q : Nat} {ls : List (Nat × Value)} {st : List Value} {h : AH} {n : Int} {v : Int32} (hd : decode M.2.1 pc = .ok (.sipush n, 3)) (hq : pc + 3 = q) (hv : (Int16.ofInt n).toInt32 = v) : J k M d pc ls (st) h q ls (.int v :: st) h := by
  subst hq
  exact J.pure (fun o => oks_c trivial o) (fun p l e R s m args below meth c Q ad H locs cells slots lsA C hl K => lv_sipush C.x C.b hd hv K)
theorem s_lconst {k : Bool} {M : MD} {d pc q : Nat} {ls : List (Nat × Value)} {st : List Value} {h : AH} {n : Fin 2} {v : Int64} (hd : decode M.2.1 pc = .ok (.lconst n, 1)) (hq : pc + 1 = q) (hv : Int64.ofNat (n : Nat) = v) : J k M d pc ls (st) h q ls (.long v :: st) h := by
  subst hq
  exact J.pure (fun o => oks_c trivial o) (fun p l e R s m args below meth c Q ad H locs cells slots lsA C hl K => lv_lconst C.x C.b hd hv K)
theorem s_null {k : Bool} {M : MD} {d pc q : Nat} {ls : List (Nat × Value)} {st : List Value} {h : AH}  (hd : decode M.2.1 pc = .ok (.aconst_null, 1)) (hq : pc + 1 = q) : J k M d pc ls (st) h q ls (.null :: st) h := by
  subst hq
  exact J.pure (fun o => oks_c trivial o) (fun p l e R s m args below meth c Q ad H locs cells slots lsA C hl K => lv_null C.x C.b hd K)
theorem s_ldc {k : Bool} {M : MD} {d pc q : Nat} {ls : List (Nat × Value)} {st : List Value} {h : AH} {ix : Nat} {v : Int32} (hd : decode M.2.1 pc = .ok (.ldc ix, 2)) (hq : pc + 2 = q) (hc : Cond.constant M.1.cls ix v ∈ gw) : J k M d pc ls (st) h q ls (.int v :: st) h := by
  subst hq
  exact J.pure (fun o => oks_c trivial o) (fun p l e R s m args below meth c Q ad H locs cells slots lsA C hl K => lv_ldc C.x C.b C.o (C.w _ hc) hd K)
theorem s_ldc2 {k : Bool} {M : MD} {d pc q : Nat} {ls : List (Nat × Value)} {st : List Value} {h : AH} {ix : Nat} {v : Int64} (hd : decode M.2.1 pc = .ok (.ldc2_w ix, 3)) (hq : pc + 3 = q) (hc : Cond.constantLong M.1.cls ix v ∈ gw) : J k M d pc ls (st) h q ls (.long v :: st) h := by
  subst hq
  exact J.pure (fun o => oks_c trivial o) (fun p l e R s m args below meth c Q ad H locs cells slots lsA C hl K => lv_ldc2 C.x C.b C.o (C.w _ hc) hd K)
theorem s_iload_n {k : Bool} {M : MD} {d pc q : Nat} {ls : List (Nat × Value)} {st : List Value} {h : AH} {i : Fin 4} {x : Int32} (hd : decode M.2.1 pc = .ok (.iload_n i, 1)) (hq : pc + 1 = q) (hk : lk ls i = some (.int x)) : J k M d pc ls (st) h q ls (.int x :: st) h := by
  subst hq
  exact J.pure (fun o => oks_c trivial o) (fun p l e R s m args below meth c Q ad H locs cells slots lsA C hl K => lv_iload_n C.x C.b hd rfl (lv_lk hl hk) K)
theorem s_iload {k : Bool} {M : MD} {d pc q : Nat} {ls : List (Nat × Value)} {st : List Value} {h : AH} {i : Nat} {x : Int32} (hd : decode M.2.1 pc = .ok (.iload i, 2)) (hq : pc + 2 = q) (hk : lk ls i = some (.int x)) : J k M d pc ls (st) h q ls (.int x :: st) h := by
  subst hq
  exact J.pure (fun o => oks_c trivial o) (fun p l e R s m args below meth c Q ad H locs cells slots lsA C hl K => lv_iload C.x C.b hd (lv_lk hl hk) K)
theorem s_lload_n {k : Bool} {M : MD} {d pc q : Nat} {ls : List (Nat × Value)} {st : List Value} {h : AH} {i : Fin 4} {x : Int64} (hd : decode M.2.1 pc = .ok (.lload_n i, 1)) (hq : pc + 1 = q) (hk : lk ls i = some (.long x)) : J k M d pc ls (st) h q ls (.long x :: st) h := by
  subst hq
  exact J.pure (fun o => oks_c trivial o) (fun p l e R s m args below meth c Q ad H locs cells slots lsA C hl K => lv_lload_n C.x C.b hd rfl (lv_lk hl hk) K)
theorem s_lload {k : Bool} {M : MD} {d pc q : Nat} {ls : List (Nat × Value)} {st : List Value} {h : AH} {i : Nat} {x : Int64} (hd : decode M.2.1 pc = .ok (.lload i, 2)) (hq : pc + 2 = q) (hk : lk ls i = some (.long x)) : J k M d pc ls (st) h q ls (.long x :: st) h := by
  subst hq
  exact J.pure (fun o => oks_c trivial o) (fun p l e R s m args below meth c Q ad H locs cells slots lsA C hl K => lv_lload C.x C.b hd (lv_lk hl hk) K)
theorem s_aload_n {k : Bool} {M : MD} {d pc q : Nat} {ls : List (Nat × Value)} {st : List Value} {h : AH} {i : Fin 4} {o : Nat} (hd : decode M.2.1 pc = .ok (.aload_n i, 1)) (hq : pc + 1 = q) (hk : lk ls i = some (.ref o)) : J k M d pc ls st h q ls (.ref o :: st) h := by
  subst hq
  refine ⟨⟨Nat.le_refl _, Nat.le_refl _, Nat.le_refl _⟩, fun p l e R s m args below meth c Q D cI cJ A cb sb g r ad H locs lsA P K => ?_⟩
  have C := g.1
  exact lv_aload_n C.x C.b hd rfl (lv_lk P.2.1 hk) (K ad H locs lsA (fun _ _ => rfl) ⟨P.1, P.2.1, P.2.2.1, oks_c (okl_lk P.2.2.1 hk) P.2.2.2.1, P.2.2.2.2⟩)
theorem s_aload {k : Bool} {M : MD} {d pc q : Nat} {ls : List (Nat × Value)} {st : List Value} {h : AH} {i : Nat} {o : Nat} (hd : decode M.2.1 pc = .ok (.aload i, 2)) (hq : pc + 2 = q) (hk : lk ls i = some (.ref o)) : J k M d pc ls st h q ls (.ref o :: st) h := by
  subst hq
  refine ⟨⟨Nat.le_refl _, Nat.le_refl _, Nat.le_refl _⟩, fun p l e R s m args below meth c Q D cI cJ A cb sb g r ad H locs lsA P K => ?_⟩
  have C := g.1
  exact lv_aload C.x C.b hd (lv_lk P.2.1 hk) (K ad H locs lsA (fun _ _ => rfl) ⟨P.1, P.2.1, P.2.2.1, oks_c (okl_lk P.2.2.1 hk) P.2.2.2.1, P.2.2.2.2⟩)
theorem s_iadd {k : Bool} {M : MD} {d pc q : Nat} {ls : List (Nat × Value)} {st : List Value} {h : AH} {x y : Int32} (hd : decode M.2.1 pc = .ok (.iadd, 1)) (hq : pc + 1 = q) : J k M d pc ls (.int y :: .int x :: st) h q ls (.int (x + y) :: st) h := by
  subst hq
  exact J.pure (fun o => oks_c trivial (oks_t (oks_t o))) (fun p l e R s m args below meth c Q ad H locs cells slots lsA C hl K => lv_iadd C.x C.b hd K)
theorem s_isub {k : Bool} {M : MD} {d pc q : Nat} {ls : List (Nat × Value)} {st : List Value} {h : AH} {x y : Int32} (hd : decode M.2.1 pc = .ok (.isub, 1)) (hq : pc + 1 = q) : J k M d pc ls (.int y :: .int x :: st) h q ls (.int (x - y) :: st) h := by
  subst hq
  exact J.pure (fun o => oks_c trivial (oks_t (oks_t o))) (fun p l e R s m args below meth c Q ad H locs cells slots lsA C hl K => lv_isub C.x C.b hd K)
theorem s_imul {k : Bool} {M : MD} {d pc q : Nat} {ls : List (Nat × Value)} {st : List Value} {h : AH} {x y : Int32} (hd : decode M.2.1 pc = .ok (.imul, 1)) (hq : pc + 1 = q) : J k M d pc ls (.int y :: .int x :: st) h q ls (.int (x * y) :: st) h := by
  subst hq
  exact J.pure (fun o => oks_c trivial (oks_t (oks_t o))) (fun p l e R s m args below meth c Q ad H locs cells slots lsA C hl K => lv_imul C.x C.b hd K)
theorem s_iand {k : Bool} {M : MD} {d pc q : Nat} {ls : List (Nat × Value)} {st : List Value} {h : AH} {x y : Int32} (hd : decode M.2.1 pc = .ok (.iand, 1)) (hq : pc + 1 = q) : J k M d pc ls (.int y :: .int x :: st) h q ls (.int (x &&& y) :: st) h := by
  subst hq
  exact J.pure (fun o => oks_c trivial (oks_t (oks_t o))) (fun p l e R s m args below meth c Q ad H locs cells slots lsA C hl K => lv_iand C.x C.b hd K)
theorem s_ladd {k : Bool} {M : MD} {d pc q : Nat} {ls : List (Nat × Value)} {st : List Value} {h : AH} {x y : Int64} (hd : decode M.2.1 pc = .ok (.ladd, 1)) (hq : pc + 1 = q) : J k M d pc ls (.long y :: .long x :: st) h q ls (.long (x + y) :: st) h := by
  subst hq
  exact J.pure (fun o => oks_c trivial (oks_t (oks_t o))) (fun p l e R s m args below meth c Q ad H locs cells slots lsA C hl K => lv_ladd C.x C.b hd K)
theorem s_lsub {k : Bool} {M : MD} {d pc q : Nat} {ls : List (Nat × Value)} {st : List Value} {h : AH} {x y : Int64} (hd : decode M.2.1 pc = .ok (.lsub, 1)) (hq : pc + 1 = q) : J k M d pc ls (.long y :: .long x :: st) h q ls (.long (x - y) :: st) h := by
  subst hq
  exact J.pure (fun o => oks_c trivial (oks_t (oks_t o))) (fun p l e R s m args below meth c Q ad H locs cells slots lsA C hl K => lv_lsub C.x C.b hd K)
theorem s_lmul {k : Bool} {M : MD} {d pc q : Nat} {ls : List (Nat × Value)} {st : List Value} {h : AH} {x y : Int64} (hd : decode M.2.1 pc = .ok (.lmul, 1)) (hq : pc + 1 = q) : J k M d pc ls (.long y :: .long x :: st) h q ls (.long (x * y) :: st) h := by
  subst hq
  exact J.pure (fun o => oks_c trivial (oks_t (oks_t o))) (fun p l e R s m args below meth c Q ad H locs cells slots lsA C hl K => lv_lmul C.x C.b hd K)
theorem s_land {k : Bool} {M : MD} {d pc q : Nat} {ls : List (Nat × Value)} {st : List Value} {h : AH} {x y : Int64} (hd : decode M.2.1 pc = .ok (.land, 1)) (hq : pc + 1 = q) : J k M d pc ls (.long y :: .long x :: st) h q ls (.long (x &&& y) :: st) h := by
  subst hq
  exact J.pure (fun o => oks_c trivial (oks_t (oks_t o))) (fun p l e R s m args below meth c Q ad H locs cells slots lsA C hl K => lv_land C.x C.b hd K)
theorem s_lor {k : Bool} {M : MD} {d pc q : Nat} {ls : List (Nat × Value)} {st : List Value} {h : AH} {x y : Int64} (hd : decode M.2.1 pc = .ok (.lor, 1)) (hq : pc + 1 = q) : J k M d pc ls (.long y :: .long x :: st) h q ls (.long (x ||| y) :: st) h := by
  subst hq
  exact J.pure (fun o => oks_c trivial (oks_t (oks_t o))) (fun p l e R s m args below meth c Q ad H locs cells slots lsA C hl K => lv_lor C.x C.b hd K)
theorem s_idiv {k : Bool} {M : MD} {d pc q : Nat} {ls : List (Nat × Value)} {st : List Value} {h : AH} {x y : Int32} (hd : decode M.2.1 pc = .ok (.idiv, 1)) (hq : pc + 1 = q) (hne : ¬ y = 0) : J k M d pc ls (.int y :: .int x :: st) h q ls (.int (x / y) :: st) h := by
  subst hq
  exact J.pure (fun o => oks_c trivial (oks_t (oks_t o))) (fun p l e R s m args below meth c Q ad H locs cells slots lsA C hl K => lv_idiv C.x C.b hd hne K)
theorem s_irem {k : Bool} {M : MD} {d pc q : Nat} {ls : List (Nat × Value)} {st : List Value} {h : AH} {x y : Int32} (hd : decode M.2.1 pc = .ok (.irem, 1)) (hq : pc + 1 = q) (hne : ¬ y = 0) : J k M d pc ls (.int y :: .int x :: st) h q ls (.int (x - x / y * y) :: st) h := by
  subst hq
  exact J.pure (fun o => oks_c trivial (oks_t (oks_t o))) (fun p l e R s m args below meth c Q ad H locs cells slots lsA C hl K => lv_irem C.x C.b hd hne K)
theorem s_ldiv {k : Bool} {M : MD} {d pc q : Nat} {ls : List (Nat × Value)} {st : List Value} {h : AH} {x y : Int64} (hd : decode M.2.1 pc = .ok (.ldiv, 1)) (hq : pc + 1 = q) (hne : ¬ y = 0) : J k M d pc ls (.long y :: .long x :: st) h q ls (.long (x / y) :: st) h := by
  subst hq
  exact J.pure (fun o => oks_c trivial (oks_t (oks_t o))) (fun p l e R s m args below meth c Q ad H locs cells slots lsA C hl K => lv_ldiv C.x C.b hd hne K)
theorem s_i2l {k : Bool} {M : MD} {d pc q : Nat} {ls : List (Nat × Value)} {st : List Value} {h : AH} {x : Int32} (hd : decode M.2.1 pc = .ok (.i2l, 1)) (hq : pc + 1 = q) : J k M d pc ls (.int x :: st) h q ls (.long x.toInt64 :: st) h := by
  subst hq
  exact J.pure (fun o => oks_c trivial (oks_t o)) (fun p l e R s m args below meth c Q ad H locs cells slots lsA C hl K => lv_i2l C.x C.b hd rfl K)
theorem s_l2i {k : Bool} {M : MD} {d pc q : Nat} {ls : List (Nat × Value)} {st : List Value} {h : AH} {x : Int64} (hd : decode M.2.1 pc = .ok (.l2i, 1)) (hq : pc + 1 = q) : J k M d pc ls (.long x :: st) h q ls (.int x.toInt32 :: st) h := by
  subst hq
  exact J.pure (fun o => oks_c trivial (oks_t o)) (fun p l e R s m args below meth c Q ad H locs cells slots lsA C hl K => lv_l2i C.x C.b hd rfl K)
theorem s_lushr {k : Bool} {M : MD} {d pc q : Nat} {ls : List (Nat × Value)} {st : List Value} {h : AH} {x : Int64} {y : Int32} (hd : decode M.2.1 pc = .ok (.lushr, 1)) (hq : pc + 1 = q) : J k M d pc ls (.int y :: .long x :: st) h q ls (.long ((x.toUInt64 >>> (y.toInt64.toUInt64 &&& Int64.toUInt64 63)).toInt64) :: st) h := by
  subst hq
  exact J.pure (fun o => oks_c trivial (oks_t (oks_t o))) (fun p l e R s m args below meth c Q ad H locs cells slots lsA C hl K => lv_lushr C.x C.b hd rfl K)
theorem s_lshl {k : Bool} {M : MD} {d pc q : Nat} {ls : List (Nat × Value)} {st : List Value} {h : AH} {x : Int64} {y : Int32} (hd : decode M.2.1 pc = .ok (.lshl, 1)) (hq : pc + 1 = q) : J k M d pc ls (.int y :: .long x :: st) h q ls (.long (x <<< (y.toInt64 &&& 63)) :: st) h := by
  subst hq
  exact J.pure (fun o => oks_c trivial (oks_t (oks_t o))) (fun p l e R s m args below meth c Q ad H locs cells slots lsA C hl K => lv_lshl C.x C.b hd rfl K)
theorem s_dup {k : Bool} {M : MD} {d pc q : Nat} {ls : List (Nat × Value)} {st : List Value} {h : AH} {v : Value} (hd : decode M.2.1 pc = .ok (.dup, 1)) (hq : pc + 1 = q) (hc : v.category = 1) : J k M d pc ls (v :: st) h q ls (v :: v :: st) h := by
  subst hq
  exact J.pure (fun o => oks_c (oks_h o) o) (fun p l e R s m args below meth c Q ad H locs cells slots lsA C hl K => lv_dup C.x C.b hd (mv_cat.trans hc) K)
theorem s_pop {k : Bool} {M : MD} {d pc q : Nat} {ls : List (Nat × Value)} {st : List Value} {h : AH} {v : Value} (hd : decode M.2.1 pc = .ok (.pop, 1)) (hq : pc + 1 = q) (hc : v.category = 1) : J k M d pc ls (v :: st) h q ls (st) h := by
  subst hq
  exact J.pure (fun o => oks_t o) (fun p l e R s m args below meth c Q ad H locs cells slots lsA C hl K => lv_pop C.x C.b hd (mv_cat.trans hc) K)
theorem s_dup2 {k : Bool} {M : MD} {d pc q : Nat} {ls : List (Nat × Value)} {st : List Value} {h : AH} {v w : Value} (hd : decode M.2.1 pc = .ok (.dup2, 1)) (hq : pc + 1 = q) (hc : v.category = 1) (hc2 : w.category = 1) : J k M d pc ls (v :: w :: st) h q ls (v :: w :: v :: w :: st) h := by
  subst hq
  exact J.pure (fun o => oks_c (oks_h o) (oks_c (oks_h (oks_t o)) o)) (fun p l e R s m args below meth c Q ad H locs cells slots lsA C hl K => lv_dup2_11 C.x C.b hd (mv_cat.trans hc) (mv_cat.trans hc2) K)
theorem s_goto {k : Bool} {M : MD} {d pc q : Nat} {ls : List (Nat × Value)} {st : List Value} {h : AH} {off : Int} (hd : decode M.2.1 pc = .ok (.goto off, 3)) (hq : (pc : Int) + off = (q : Int)) : J k M d pc ls (st) h q ls (st) h := by
  exact J.pure (fun o => o) (fun p l e R s m args below meth c Q ad H locs cells slots lsA C hl K => lv_goto C.x C.b hd hq K)

theorem s_istore_n {k : Bool} {M : MD} {d pc q : Nat} {ls : List (Nat × Value)} {st : List Value} {h : AH} {i : Fin 4} {x : Int32} {ls' : List (Nat × Value)} (hd : decode M.2.1 pc = .ok (.istore_n i, 1)) (hq : pc + 1 = q) (hn : (i : Nat) < M.2.2.1) (hk : ((i : Nat), Value.int x) :: lf1 (i : Nat) ls = ls') : J k M d pc ls (.int x :: st) h q ls' st h := by
  subst hq
  subst hk
  exact J.loc (fun o => oks_t o) (fun o o2 => okl_c (oks_h o2) (okl_lf1 o)) (fun p l e R s m args below meth c Q ad H locs cells slots lsA C hl K => lv_istore_n C.x C.b hd rfl hl hn (by rw [lf1_ml]; rfl) K)
theorem s_istore {k : Bool} {M : MD} {d pc q : Nat} {ls : List (Nat × Value)} {st : List Value} {h : AH} {i : Nat} {x : Int32} {ls' : List (Nat × Value)} (hd : decode M.2.1 pc = .ok (.istore i, 2)) (hq : pc + 2 = q) (hn : i < M.2.2.1) (hk : (i, Value.int x) :: lf1 i ls = ls') : J k M d pc ls (.int x :: st) h q ls' st h := by
  subst hq
  subst hk
  exact J.loc (fun o => oks_t o) (fun o o2 => okl_c (oks_h o2) (okl_lf1 o)) (fun p l e R s m args below meth c Q ad H locs cells slots lsA C hl K => lv_istore C.x C.b hd hl hn (by rw [lf1_ml]; rfl) K)
theorem s_lstore_n {k : Bool} {M : MD} {d pc q : Nat} {ls : List (Nat × Value)} {st : List Value} {h : AH} {i : Fin 4} {x : Int64} {ls' : List (Nat × Value)} (hd : decode M.2.1 pc = .ok (.lstore_n i, 1)) (hq : pc + 1 = q) (hn : (i : Nat) + 1 < M.2.2.1) (hk : ((i : Nat), Value.long x) :: lf2 (i : Nat) ls = ls') : J k M d pc ls (.long x :: st) h q ls' st h := by
  subst hq
  subst hk
  exact J.loc (fun o => oks_t o) (fun o o2 => okl_c (oks_h o2) (okl_lf2 o)) (fun p l e R s m args below meth c Q ad H locs cells slots lsA C hl K => lv_lstore_n C.x C.b hd rfl hl hn (by rw [lf2_ml]; rfl) K)
theorem s_lstore {k : Bool} {M : MD} {d pc q : Nat} {ls : List (Nat × Value)} {st : List Value} {h : AH} {i : Nat} {x : Int64} {ls' : List (Nat × Value)} (hd : decode M.2.1 pc = .ok (.lstore i, 2)) (hq : pc + 2 = q) (hn : i + 1 < M.2.2.1) (hk : (i, Value.long x) :: lf2 i ls = ls') : J k M d pc ls (.long x :: st) h q ls' st h := by
  subst hq
  subst hk
  exact J.loc (fun o => oks_t o) (fun o o2 => okl_c (oks_h o2) (okl_lf2 o)) (fun p l e R s m args below meth c Q ad H locs cells slots lsA C hl K => lv_lstore C.x C.b hd hl hn (by rw [lf2_ml]; rfl) K)
theorem s_astore_n {k : Bool} {M : MD} {d pc q : Nat} {ls : List (Nat × Value)} {st : List Value} {h : AH} {i : Fin 4} {x : Nat} {ls' : List (Nat × Value)} (hd : decode M.2.1 pc = .ok (.astore_n i, 1)) (hq : pc + 1 = q) (hn : (i : Nat) < M.2.2.1) (hk : ((i : Nat), Value.ref x) :: lf1 (i : Nat) ls = ls') : J k M d pc ls (.ref x :: st) h q ls' st h := by
  subst hq
  subst hk
  exact J.loc (fun o => oks_t o) (fun o o2 => okl_c (oks_h o2) (okl_lf1 o)) (fun p l e R s m args below meth c Q ad H locs cells slots lsA C hl K => lv_astore_n C.x C.b hd rfl hl hn (by rw [lf1_ml]; rfl) K)
theorem s_astore {k : Bool} {M : MD} {d pc q : Nat} {ls : List (Nat × Value)} {st : List Value} {h : AH} {i : Nat} {x : Nat} {ls' : List (Nat × Value)} (hd : decode M.2.1 pc = .ok (.astore i, 2)) (hq : pc + 2 = q) (hn : i < M.2.2.1) (hk : (i, Value.ref x) :: lf1 i ls = ls') : J k M d pc ls (.ref x :: st) h q ls' st h := by
  subst hq
  subst hk
  exact J.loc (fun o => oks_t o) (fun o o2 => okl_c (oks_h o2) (okl_lf1 o)) (fun p l e R s m args below meth c Q ad H locs cells slots lsA C hl K => lv_astore C.x C.b hd hl hn (by rw [lf1_ml]; rfl) K)
theorem s_iinc {k : Bool} {M : MD} {d pc q : Nat} {ls : List (Nat × Value)} {st : List Value} {h : AH} {i : Nat} {n : Int} {x v : Int32} {ls' : List (Nat × Value)} (hd : decode M.2.1 pc = .ok (.iinc i n, 3)) (hq : pc + 3 = q) (hn : i < M.2.2.1) (hx : lk ls i = some (.int x)) (hv : x + Int32.ofInt n = v) (hk : (i, Value.int v) :: lf1 i ls = ls') : J k M d pc ls st h q ls' st h := by
  subst hq
  subst hk
  refine J.loc (fun o => o) (fun o _ => okl_c trivial (okl_lf1 o)) (fun p l e R s m args below meth c Q ad H locs cells slots lsA C hl K => ?_)
  obtain ⟨j, hj⟩ := List.getElem?_of_mem (ml_in (ad := ad) (lk_in hx))
  exact lv_iinc C.x C.b hd hl hj hv hn (by rw [lf1_ml]; rfl) K
theorem s_if_eq_t {k : Bool} {M : MD} {d pc q : Nat} {ls : List (Nat × Value)} {st : List Value} {h : AH} {x : Int32} {off : Int} (hd : decode M.2.1 pc = .ok (.ifCond .eq off, 3)) (hq : (pc : Int) + off = (q : Int)) (hc : x = 0) : J k M d pc ls (.int x :: st) h q ls st h :=
  J.pure (fun o => (oks_t o)) (fun p l e R s m args below meth c Q ad H locs cells slots lsA C hl K => lv_if_eq C.x C.b hd hq (fun _ => K) (fun n => absurd hc n))
theorem s_if_eq_f {k : Bool} {M : MD} {d pc q : Nat} {ls : List (Nat × Value)} {st : List Value} {h : AH} {x : Int32} {off : Int} {tg : Nat} (hd : decode M.2.1 pc = .ok (.ifCond .eq off, 3)) (ht : (pc : Int) + off = (tg : Int)) (hq : pc + 3 = q) (hc : ¬ (x = 0)) : J k M d pc ls (.int x :: st) h q ls st h := by
  subst hq
  exact J.pure (fun o => (oks_t o)) (fun p l e R s m args below meth c Q ad H locs cells slots lsA C hl K => lv_if_eq C.x C.b hd ht (fun n => absurd n hc) (fun _ => K))
theorem s_icmp_eq_t {k : Bool} {M : MD} {d pc q : Nat} {ls : List (Nat × Value)} {st : List Value} {h : AH} {x y : Int32} {off : Int} (hd : decode M.2.1 pc = .ok (.if_icmp .eq off, 3)) (hq : (pc : Int) + off = (q : Int)) (hc : x = y) : J k M d pc ls (.int y :: .int x :: st) h q ls st h :=
  J.pure (fun o => (oks_t (oks_t o))) (fun p l e R s m args below meth c Q ad H locs cells slots lsA C hl K => lv_icmp_eq C.x C.b hd hq (fun _ => K) (fun n => absurd hc n))
theorem s_icmp_eq_f {k : Bool} {M : MD} {d pc q : Nat} {ls : List (Nat × Value)} {st : List Value} {h : AH} {x y : Int32} {off : Int} {tg : Nat} (hd : decode M.2.1 pc = .ok (.if_icmp .eq off, 3)) (ht : (pc : Int) + off = (tg : Int)) (hq : pc + 3 = q) (hc : ¬ (x = y)) : J k M d pc ls (.int y :: .int x :: st) h q ls st h := by
  subst hq
  exact J.pure (fun o => (oks_t (oks_t o))) (fun p l e R s m args below meth c Q ad H locs cells slots lsA C hl K => lv_icmp_eq C.x C.b hd ht (fun n => absurd n hc) (fun _ => K))
theorem s_if_ne_t {k : Bool} {M : MD} {d pc q : Nat} {ls : List (Nat × Value)} {st : List Value} {h : AH} {x : Int32} {off : Int} (hd : decode M.2.1 pc = .ok (.ifCond .ne off, 3)) (hq : (pc : Int) + off = (q : Int)) (hc : ¬ x = 0) : J k M d pc ls (.int x :: st) h q ls st h :=
  J.pure (fun o => (oks_t o)) (fun p l e R s m args below meth c Q ad H locs cells slots lsA C hl K => lv_if_ne C.x C.b hd hq (fun _ => K) (fun n => absurd n hc))
theorem s_if_ne_f {k : Bool} {M : MD} {d pc q : Nat} {ls : List (Nat × Value)} {st : List Value} {h : AH} {x : Int32} {off : Int} {tg : Nat} (hd : decode M.2.1 pc = .ok (.ifCond .ne off, 3)) (ht : (pc : Int) + off = (tg : Int)) (hq : pc + 3 = q) (hc : x = 0) : J k M d pc ls (.int x :: st) h q ls st h := by
  subst hq
  exact J.pure (fun o => (oks_t o)) (fun p l e R s m args below meth c Q ad H locs cells slots lsA C hl K => lv_if_ne C.x C.b hd ht (fun n => absurd hc n) (fun _ => K))
theorem s_icmp_ne_t {k : Bool} {M : MD} {d pc q : Nat} {ls : List (Nat × Value)} {st : List Value} {h : AH} {x y : Int32} {off : Int} (hd : decode M.2.1 pc = .ok (.if_icmp .ne off, 3)) (hq : (pc : Int) + off = (q : Int)) (hc : ¬ x = y) : J k M d pc ls (.int y :: .int x :: st) h q ls st h :=
  J.pure (fun o => (oks_t (oks_t o))) (fun p l e R s m args below meth c Q ad H locs cells slots lsA C hl K => lv_icmp_ne C.x C.b hd hq (fun _ => K) (fun n => absurd n hc))
theorem s_icmp_ne_f {k : Bool} {M : MD} {d pc q : Nat} {ls : List (Nat × Value)} {st : List Value} {h : AH} {x y : Int32} {off : Int} {tg : Nat} (hd : decode M.2.1 pc = .ok (.if_icmp .ne off, 3)) (ht : (pc : Int) + off = (tg : Int)) (hq : pc + 3 = q) (hc : x = y) : J k M d pc ls (.int y :: .int x :: st) h q ls st h := by
  subst hq
  exact J.pure (fun o => (oks_t (oks_t o))) (fun p l e R s m args below meth c Q ad H locs cells slots lsA C hl K => lv_icmp_ne C.x C.b hd ht (fun n => absurd hc n) (fun _ => K))
theorem s_if_lt_t {k : Bool} {M : MD} {d pc q : Nat} {ls : List (Nat × Value)} {st : List Value} {h : AH} {x : Int32} {off : Int} (hd : decode M.2.1 pc = .ok (.ifCond .lt off, 3)) (hq : (pc : Int) + off = (q : Int)) (hc : x < 0) : J k M d pc ls (.int x :: st) h q ls st h :=
  J.pure (fun o => (oks_t o)) (fun p l e R s m args below meth c Q ad H locs cells slots lsA C hl K => lv_if_lt C.x C.b hd hq (fun _ => K) (fun n => absurd hc n))
theorem s_if_lt_f {k : Bool} {M : MD} {d pc q : Nat} {ls : List (Nat × Value)} {st : List Value} {h : AH} {x : Int32} {off : Int} {tg : Nat} (hd : decode M.2.1 pc = .ok (.ifCond .lt off, 3)) (ht : (pc : Int) + off = (tg : Int)) (hq : pc + 3 = q) (hc : ¬ (x < 0)) : J k M d pc ls (.int x :: st) h q ls st h := by
  subst hq
  exact J.pure (fun o => (oks_t o)) (fun p l e R s m args below meth c Q ad H locs cells slots lsA C hl K => lv_if_lt C.x C.b hd ht (fun n => absurd n hc) (fun _ => K))
theorem s_icmp_lt_t {k : Bool} {M : MD} {d pc q : Nat} {ls : List (Nat × Value)} {st : List Value} {h : AH} {x y : Int32} {off : Int} (hd : decode M.2.1 pc = .ok (.if_icmp .lt off, 3)) (hq : (pc : Int) + off = (q : Int)) (hc : x < y) : J k M d pc ls (.int y :: .int x :: st) h q ls st h :=
  J.pure (fun o => (oks_t (oks_t o))) (fun p l e R s m args below meth c Q ad H locs cells slots lsA C hl K => lv_icmp_lt C.x C.b hd hq (fun _ => K) (fun n => absurd hc n))
theorem s_icmp_lt_f {k : Bool} {M : MD} {d pc q : Nat} {ls : List (Nat × Value)} {st : List Value} {h : AH} {x y : Int32} {off : Int} {tg : Nat} (hd : decode M.2.1 pc = .ok (.if_icmp .lt off, 3)) (ht : (pc : Int) + off = (tg : Int)) (hq : pc + 3 = q) (hc : ¬ (x < y)) : J k M d pc ls (.int y :: .int x :: st) h q ls st h := by
  subst hq
  exact J.pure (fun o => (oks_t (oks_t o))) (fun p l e R s m args below meth c Q ad H locs cells slots lsA C hl K => lv_icmp_lt C.x C.b hd ht (fun n => absurd n hc) (fun _ => K))
theorem s_if_ge_t {k : Bool} {M : MD} {d pc q : Nat} {ls : List (Nat × Value)} {st : List Value} {h : AH} {x : Int32} {off : Int} (hd : decode M.2.1 pc = .ok (.ifCond .ge off, 3)) (hq : (pc : Int) + off = (q : Int)) (hc : 0 ≤ x) : J k M d pc ls (.int x :: st) h q ls st h :=
  J.pure (fun o => (oks_t o)) (fun p l e R s m args below meth c Q ad H locs cells slots lsA C hl K => lv_if_ge C.x C.b hd hq (fun _ => K) (fun n => absurd hc n))
theorem s_if_ge_f {k : Bool} {M : MD} {d pc q : Nat} {ls : List (Nat × Value)} {st : List Value} {h : AH} {x : Int32} {off : Int} {tg : Nat} (hd : decode M.2.1 pc = .ok (.ifCond .ge off, 3)) (ht : (pc : Int) + off = (tg : Int)) (hq : pc + 3 = q) (hc : ¬ (0 ≤ x)) : J k M d pc ls (.int x :: st) h q ls st h := by
  subst hq
  exact J.pure (fun o => (oks_t o)) (fun p l e R s m args below meth c Q ad H locs cells slots lsA C hl K => lv_if_ge C.x C.b hd ht (fun n => absurd n hc) (fun _ => K))
theorem s_icmp_ge_t {k : Bool} {M : MD} {d pc q : Nat} {ls : List (Nat × Value)} {st : List Value} {h : AH} {x y : Int32} {off : Int} (hd : decode M.2.1 pc = .ok (.if_icmp .ge off, 3)) (hq : (pc : Int) + off = (q : Int)) (hc : y ≤ x) : J k M d pc ls (.int y :: .int x :: st) h q ls st h :=
  J.pure (fun o => (oks_t (oks_t o))) (fun p l e R s m args below meth c Q ad H locs cells slots lsA C hl K => lv_icmp_ge C.x C.b hd hq (fun _ => K) (fun n => absurd hc n))
theorem s_icmp_ge_f {k : Bool} {M : MD} {d pc q : Nat} {ls : List (Nat × Value)} {st : List Value} {h : AH} {x y : Int32} {off : Int} {tg : Nat} (hd : decode M.2.1 pc = .ok (.if_icmp .ge off, 3)) (ht : (pc : Int) + off = (tg : Int)) (hq : pc + 3 = q) (hc : ¬ (y ≤ x)) : J k M d pc ls (.int y :: .int x :: st) h q ls st h := by
  subst hq
  exact J.pure (fun o => (oks_t (oks_t o))) (fun p l e R s m args below meth c Q ad H locs cells slots lsA C hl K => lv_icmp_ge C.x C.b hd ht (fun n => absurd n hc) (fun _ => K))
theorem s_if_gt_t {k : Bool} {M : MD} {d pc q : Nat} {ls : List (Nat × Value)} {st : List Value} {h : AH} {x : Int32} {off : Int} (hd : decode M.2.1 pc = .ok (.ifCond .gt off, 3)) (hq : (pc : Int) + off = (q : Int)) (hc : 0 < x) : J k M d pc ls (.int x :: st) h q ls st h :=
  J.pure (fun o => (oks_t o)) (fun p l e R s m args below meth c Q ad H locs cells slots lsA C hl K => lv_if_gt C.x C.b hd hq (fun _ => K) (fun n => absurd hc n))
theorem s_if_gt_f {k : Bool} {M : MD} {d pc q : Nat} {ls : List (Nat × Value)} {st : List Value} {h : AH} {x : Int32} {off : Int} {tg : Nat} (hd : decode M.2.1 pc = .ok (.ifCond .gt off, 3)) (ht : (pc : Int) + off = (tg : Int)) (hq : pc + 3 = q) (hc : ¬ (0 < x)) : J k M d pc ls (.int x :: st) h q ls st h := by
  subst hq
  exact J.pure (fun o => (oks_t o)) (fun p l e R s m args below meth c Q ad H locs cells slots lsA C hl K => lv_if_gt C.x C.b hd ht (fun n => absurd n hc) (fun _ => K))
theorem s_icmp_gt_t {k : Bool} {M : MD} {d pc q : Nat} {ls : List (Nat × Value)} {st : List Value} {h : AH} {x y : Int32} {off : Int} (hd : decode M.2.1 pc = .ok (.if_icmp .gt off, 3)) (hq : (pc : Int) + off = (q : Int)) (hc : y < x) : J k M d pc ls (.int y :: .int x :: st) h q ls st h :=
  J.pure (fun o => (oks_t (oks_t o))) (fun p l e R s m args below meth c Q ad H locs cells slots lsA C hl K => lv_icmp_gt C.x C.b hd hq (fun _ => K) (fun n => absurd hc n))
theorem s_icmp_gt_f {k : Bool} {M : MD} {d pc q : Nat} {ls : List (Nat × Value)} {st : List Value} {h : AH} {x y : Int32} {off : Int} {tg : Nat} (hd : decode M.2.1 pc = .ok (.if_icmp .gt off, 3)) (ht : (pc : Int) + off = (tg : Int)) (hq : pc + 3 = q) (hc : ¬ (y < x)) : J k M d pc ls (.int y :: .int x :: st) h q ls st h := by
  subst hq
  exact J.pure (fun o => (oks_t (oks_t o))) (fun p l e R s m args below meth c Q ad H locs cells slots lsA C hl K => lv_icmp_gt C.x C.b hd ht (fun n => absurd n hc) (fun _ => K))
theorem s_if_le_t {k : Bool} {M : MD} {d pc q : Nat} {ls : List (Nat × Value)} {st : List Value} {h : AH} {x : Int32} {off : Int} (hd : decode M.2.1 pc = .ok (.ifCond .le off, 3)) (hq : (pc : Int) + off = (q : Int)) (hc : x ≤ 0) : J k M d pc ls (.int x :: st) h q ls st h :=
  J.pure (fun o => (oks_t o)) (fun p l e R s m args below meth c Q ad H locs cells slots lsA C hl K => lv_if_le C.x C.b hd hq (fun _ => K) (fun n => absurd hc n))
theorem s_if_le_f {k : Bool} {M : MD} {d pc q : Nat} {ls : List (Nat × Value)} {st : List Value} {h : AH} {x : Int32} {off : Int} {tg : Nat} (hd : decode M.2.1 pc = .ok (.ifCond .le off, 3)) (ht : (pc : Int) + off = (tg : Int)) (hq : pc + 3 = q) (hc : ¬ (x ≤ 0)) : J k M d pc ls (.int x :: st) h q ls st h := by
  subst hq
  exact J.pure (fun o => (oks_t o)) (fun p l e R s m args below meth c Q ad H locs cells slots lsA C hl K => lv_if_le C.x C.b hd ht (fun n => absurd n hc) (fun _ => K))
theorem s_icmp_le_t {k : Bool} {M : MD} {d pc q : Nat} {ls : List (Nat × Value)} {st : List Value} {h : AH} {x y : Int32} {off : Int} (hd : decode M.2.1 pc = .ok (.if_icmp .le off, 3)) (hq : (pc : Int) + off = (q : Int)) (hc : x ≤ y) : J k M d pc ls (.int y :: .int x :: st) h q ls st h :=
  J.pure (fun o => (oks_t (oks_t o))) (fun p l e R s m args below meth c Q ad H locs cells slots lsA C hl K => lv_icmp_le C.x C.b hd hq (fun _ => K) (fun n => absurd hc n))
theorem s_icmp_le_f {k : Bool} {M : MD} {d pc q : Nat} {ls : List (Nat × Value)} {st : List Value} {h : AH} {x y : Int32} {off : Int} {tg : Nat} (hd : decode M.2.1 pc = .ok (.if_icmp .le off, 3)) (ht : (pc : Int) + off = (tg : Int)) (hq : pc + 3 = q) (hc : ¬ (x ≤ y)) : J k M d pc ls (.int y :: .int x :: st) h q ls st h := by
  subst hq
  exact J.pure (fun o => (oks_t (oks_t o))) (fun p l e R s m args below meth c Q ad H locs cells slots lsA C hl K => lv_icmp_le C.x C.b hd ht (fun n => absurd n hc) (fun _ => K))
theorem s_lcmp {k : Bool} {M : MD} {d pc q : Nat} {ls : List (Nat × Value)} {st : List Value} {h : AH} {x y : Int64} (hd : decode M.2.1 pc = .ok (.lcmp, 1)) (hq : pc + 1 = q) : J k M d pc ls (.long y :: .long x :: st) h q ls (.int (lg_cmp x y) :: st) h := by
  subst hq
  exact J.pure (fun o => oks_c trivial (oks_t (oks_t o))) (fun p l e R s m args below meth c Q ad H locs cells slots lsA C hl K => W.lcmp C.x C.b hd K)
theorem s_aload_nN {k : Bool} {M : MD} {d pc q : Nat} {ls : List (Nat × Value)} {st : List Value} {h : AH} {i : Fin 4} (hd : decode M.2.1 pc = .ok (.aload_n i, 1)) (hq : pc + 1 = q) (hk : lk ls i = some .null) : J k M d pc ls (st) h q ls (.null :: st) h := by
  subst hq
  exact J.pure (fun o => oks_c trivial o) (fun p l e R s m args below meth c Q ad H locs cells slots lsA C hl K => lv_aload_nN C.x C.b hd rfl (lv_lk hl hk) K)
theorem s_aloadN {k : Bool} {M : MD} {d pc q : Nat} {ls : List (Nat × Value)} {st : List Value} {h : AH} {i : Nat} (hd : decode M.2.1 pc = .ok (.aload i, 2)) (hq : pc + 2 = q) (hk : lk ls i = some .null) : J k M d pc ls (st) h q ls (.null :: st) h := by
  subst hq
  exact J.pure (fun o => oks_c trivial o) (fun p l e R s m args below meth c Q ad H locs cells slots lsA C hl K => lv_aloadN C.x C.b hd (lv_lk hl hk) K)
theorem s_astore_nN {k : Bool} {M : MD} {d pc q : Nat} {ls : List (Nat × Value)} {st : List Value} {h : AH} {i : Fin 4} {ls' : List (Nat × Value)} (hd : decode M.2.1 pc = .ok (.astore_n i, 1)) (hq : pc + 1 = q) (hn : (i : Nat) < M.2.2.1) (hk : ((i : Nat), Value.null) :: lf1 (i : Nat) ls = ls') : J k M d pc ls (.null :: st) h q ls' st h := by
  subst hq
  subst hk
  exact J.loc (fun o => oks_t o) (fun o o2 => okl_c (oks_h o2) (okl_lf1 o)) (fun p l e R s m args below meth c Q ad H locs cells slots lsA C hl K => lv_astore_nN C.x C.b hd rfl hl hn (by rw [lf1_ml]; rfl) K)
theorem s_astoreN {k : Bool} {M : MD} {d pc q : Nat} {ls : List (Nat × Value)} {st : List Value} {h : AH} {i : Nat} {ls' : List (Nat × Value)} (hd : decode M.2.1 pc = .ok (.astore i, 2)) (hq : pc + 2 = q) (hn : i < M.2.2.1) (hk : (i, Value.null) :: lf1 i ls = ls') : J k M d pc ls (.null :: st) h q ls' st h := by
  subst hq
  subst hk
  exact J.loc (fun o => oks_t o) (fun o o2 => okl_c (oks_h o2) (okl_lf1 o)) (fun p l e R s m args below meth c Q ad H locs cells slots lsA C hl K => lv_astoreN C.x C.b hd hl hn (by rw [lf1_ml]; rfl) K)
theorem s_ifnull_r {k : Bool} {M : MD} {d pc q : Nat} {ls : List (Nat × Value)} {st : List Value} {h : AH} {off : Int} {o : Nat} (hd : decode M.2.1 pc = .ok (.ifnull off, 3)) (hq : pc + 3 = q) : J k M d pc ls (.ref o :: st) h q ls st h := by
  subst hq
  exact J.pure (fun o => oks_t o) (fun p l e R s m args below meth c Q ad H locs cells slots lsA C hl K => lv_ifnull C.x C.b hd K)
theorem s_ifnull_n {k : Bool} {M : MD} {d pc q : Nat} {ls : List (Nat × Value)} {st : List Value} {h : AH} {off : Int} (hd : decode M.2.1 pc = .ok (.ifnull off, 3)) (hq : (pc : Int) + off = (q : Int)) : J k M d pc ls (.null :: st) h q ls st h :=
  J.pure (fun o => oks_t o) (fun p l e R s m args below meth c Q ad H locs cells slots lsA C hl K => lv_ifnullN C.x C.b hd hq K)
theorem s_ifnonnull_r {k : Bool} {M : MD} {d pc q : Nat} {ls : List (Nat × Value)} {st : List Value} {h : AH} {off : Int} {o : Nat} (hd : decode M.2.1 pc = .ok (.ifnonnull off, 3)) (hq : (pc : Int) + off = (q : Int)) : J k M d pc ls (.ref o :: st) h q ls st h :=
  J.pure (fun o => oks_t o) (fun p l e R s m args below meth c Q ad H locs cells slots lsA C hl K => lv_ifnonnull C.x C.b hd hq K)
theorem s_ifnonnull_n {k : Bool} {M : MD} {d pc q : Nat} {ls : List (Nat × Value)} {st : List Value} {h : AH} {off : Int} (hd : decode M.2.1 pc = .ok (.ifnonnull off, 3)) (hq : pc + 3 = q) : J k M d pc ls (.null :: st) h q ls st h := by
  subst hq
  exact J.pure (fun o => oks_t o) (fun p l e R s m args below meth c Q ad H locs cells slots lsA C hl K => lv_ifnonnullN C.x C.b hd K)
theorem s_lookup {k : Bool} {M : MD} {d pc q : Nat} {ls : List (Nat × Value)} {st : List Value} {h : AH} {dflt : Int} {ps : Array (Int × Int)} {len : Nat} {x : Int32} {off : Int} (hd : decode M.2.1 pc = .ok (.lookupswitch dflt ps, len)) (hp : (ps.toList.zip (ps.toList.drop 1)).all (fun (a, next) => a.1 < next.1) = true) (ho : Op.lookupswitch.offset ps.toList dflt x.toInt = off) (hq : (pc : Int) + off = (q : Int)) : J k M d pc ls (.int x :: st) h q ls st h :=
  J.pure (fun o => oks_t o) (fun p l e R s m args below meth c Q ad H locs cells slots lsA C hl K => lv_lookup C.x C.b hd hp ho hq K)
theorem s_tabOut {k : Bool} {M : MD} {d pc q : Nat} {ls : List (Nat × Value)} {st : List Value} {h : AH} {dflt lo hi : Int} {offs : Array Int} {len : Nat} {x : Int32} (hd : decode M.2.1 pc = .ok (.tableswitch dflt lo hi offs, len)) (hx : x.toInt < lo ∨ hi < x.toInt) (hq : (pc : Int) + dflt = (q : Int)) : J k M d pc ls (.int x :: st) h q ls st h :=
  J.pure (fun o => oks_t o) (fun p l e R s m args below meth c Q ad H locs cells slots lsA C hl K => lv_tableOut C.x C.b hd hx hq K)
theorem s_tabIn {k : Bool} {M : MD} {d pc q : Nat} {ls : List (Nat × Value)} {st : List Value} {h : AH} {dflt lo hi : Int} {offs : Array Int} {len : Nat} {x : Int32} {off : Int} (hd : decode M.2.1 pc = .ok (.tableswitch dflt lo hi offs, len)) (h1 : ¬ x.toInt < lo) (h2 : ¬ hi < x.toInt) (ho : offs[(x.toInt - lo).toNat]? = some off) (hq : (pc : Int) + off = (q : Int)) : J k M d pc ls (.int x :: st) h q ls st h :=
  J.pure (fun o => oks_t o) (fun p l e R s m args below meth c Q ad H locs cells slots lsA C hl K => lv_tableIn C.x C.b hd h1 h2 ho hq K)
end
section
/-! steps that read and write the heap -/
theorem ia_ob {n : Nat} {f : Nat → Int32} {c : Nat} {fs : List Value} (h : ia n f = ob c fs) : False := by cases h
theorem ia_la {n m : Nat} {f : Nat → Int32} {g : Nat → Int64} (h : ia n f = la m g) : False := by cases h
theorem okh_pos {h : AH} (ho : okh h) {o c : Nat} {fs : List Value} (e : h.1 o = ob c fs) : 0 < o := by
  rcases Nat.eq_zero_or_pos o with q | q
  · subst q
    obtain ⟨⟨L, xs, e0⟩, -⟩ := ho
    exact absurd (e0.symm.trans e) ia_ob
  · exact q
theorem okh_posL {h : AH} (ho : okh h) {o n : Nat} {f : Nat → Int64} (e : h.1 o = la n f) : 0 < o := by
  rcases Nat.eq_zero_or_pos o with q | q
  · subst q
    obtain ⟨⟨L, xs, e0⟩, -⟩ := ho
    exact absurd (e0.symm.trans e) ia_la
  · exact q
theorem okh_f {h : AH} (ho : okh h) {o c j : Nat} {fs : List Value} {v : Value} (e : h.1 o = ob c fs) (hv : fs[j]? = some v) : okv h.2.1 v := by
  have q := ho.2 o
  rw [e] at q
  exact q v (List.mem_of_getElem? hv)
theorem okh_o {h : AH} (ho : okh h) {o c : Nat} {fs : List Value} (e : h.1 o = ob c fs) : ∀ v ∈ fs, okv h.2.1 v := by
  have q := ho.2 o
  rw [e] at q
  exact q
/-- the cell o in the world's list -/
theorem wl_at {cI cJ : ClassId} {ad : Nat → Nat} {h : AH} {o : Nat} {c : AC} (h0 : 0 < o) (hn : o ≤ h.2.1) (e : h.1 o = c) : (wl cI cJ ad h)[o - 1]? = some (ad o, cv cI cJ ad c) := by
  obtain ⟨j, rfl⟩ : ∃ j, o = j + 1 := ⟨o - 1, by omega⟩
  rw [Nat.add_sub_cancel, wl_get (by omega), e]
theorem wl_put {cI cJ : ClassId} {ad : Nat → Nat} {h : AH} {o : Nat} {c : AC} (h0 : 0 < o) : (wl cI cJ ad h).set (o - 1) (ad o, cv cI cJ ad c) = wl cI cJ ad (hs h o c) := by
  obtain ⟨j, rfl⟩ : ∃ j, o = j + 1 := ⟨o - 1, by omega⟩
  rw [Nat.add_sub_cancel, wl_set]
/-- a field by its entry in the pool: the number of its class, its slot -/
def FL (own : String) (ix ci kf : Nat) : Prop := ∃ (C : String) (T : u_T) (N : Nat), vwCl[ci]? = some (C, T, N) ∧ (∀ w ∈ u_ws C T N, w ∈ gw) ∧ kf < N ∧ Cond.fieldLink own ix (T kf).1 (T kf).2.1 (T kf).2.2.1 ∈ gw
/-- .. and what may be stored there -/
def FP (own : String) (ix ci kf : Nat) (fin : Bool) (ft : FieldType) : Prop := ∃ (C : String) (T : u_T) (N : Nat) (ty : Nat → FieldType), vwCl[ci]? = some (C, T, N) ∧ (∀ w ∈ u_ws C T N, w ∈ gw) ∧ kf < N ∧ Cond.fieldLink own ix (T kf).1 (T kf).2.1 (T kf).2.2.1 ∈ gw ∧
  (∀ k, k < N → parseFieldDescriptor (T k).2.2.1 = some (ty k)) ∧ (∀ a, a < N → ∀ b, b < N → a ≠ b → (T a).2.1 ≠ (T b).2.1) ∧ (T kf).2.2.2 = fin ∧ parseFieldDescriptor (T kf).2.2.1 = some ft ∧ (T kf).1 = own
theorem FP.l {own : String} {ix ci kf : Nat} {fin : Bool} {ft : FieldType} (h : FP own ix ci kf fin ft) : FL own ix ci kf := by
  obtain ⟨C, T, N, ty, h1, h2, h3, h4, -⟩ := h
  exact ⟨C, T, N, h1, h2, h3, h4⟩
section HEAP
variable {k : Bool} {M : MD} {d pc q : Nat} {ls : List (Nat × Value)} {st : List Value} {h : AH}
theorem Pt.with {D : va_G} {cI cJ : ClassId} {A : Nat → Prop} {s : State} {ad : Nat → Nat} {st' : List Value} {H : Heap} {locs : List Loc} {lsA : Array Slot} (P : Pt k M D cI cJ A s ad ls st h H locs lsA) (hs : oks h.2.1 st') : Pt k M D cI cJ A s ad ls st' h H locs lsA := ⟨P.1, P.2.1, P.2.2.1, hs, P.2.2.2.2⟩
theorem s_getf {ix ci kf o : Nat} {fs : List Value} {v : Value} (hd : decode M.2.1 pc = .ok (.getfield ix, 3)) (hq : pc + 3 = q) (hf : FL M.1.cls ix ci kf) (ho : h.1 o = ob ci fs) (hv : fs[kf]? = some v) : J k M d pc ls (.ref o :: st) h q ls (v :: st) h := by
  subst hq
  refine ⟨⟨Nat.le_refl _, Nat.le_refl _, Nat.le_refl _⟩, fun p l e R s m args below meth c Q D cI cJ A cb sb g r ad H locs lsA P K => ?_⟩
  obtain ⟨C, T, N, h1, h2, h3, h4⟩ := hf
  have X := g.1
  have he := wl_at (cI := cI) (cJ := cJ) (ad := ad) (okh_pos P.1.2.2.2 ho) (oks_h P.2.2.2.1) ho
  exact va_get (D := D) (v := mv ad v) X.x X.b X.w h2 X.o g.2.2.1 P.1.1 (o - 1) he h1 kf h3 (X.w _ h4) (fun _ h9 => h9) (by rw [List.getElem?_map, hv]; rfl) hd (K ad H locs lsA (fun _ _ => rfl) (P.with (oks_c (okh_f P.1.2.2.2 ho hv) (oks_t P.2.2.2.1))))
theorem set_ok {n j : Nat} {fs : List Value} {v : Value} (h : ∀ w ∈ fs, okv n w) (hv : okv n v) : ∀ w ∈ fs.set j v, okv n w := fun w hw => (List.mem_or_eq_of_mem_set hw).elim (h w) (fun e => e ▸ hv)
theorem s_put {ix ci kf o : Nat} {ft : FieldType} {fs : List Value} {v : Value} (hd : decode M.2.1 pc = .ok (.putfield ix, 3)) (hq : pc + 3 = q) (hf : FP M.1.cls ix ci kf false ft) (ho : h.1 o = ob ci fs) (hl : kf < fs.length) (hft : ∀ ad, narrow ft (mv ad v) = mv ad v ∧ fits ft (mv ad v) = true) : J k M d pc ls (v :: .ref o :: st) h q ls st (hs h o (ob ci (fs.set kf v))) := by
  subst hq
  refine ⟨⟨Nat.le_refl _, Nat.le_refl _, Nat.le_refl _⟩, fun p l e R s m args below meth c Q D cI cJ A cb sb g r ad H locs lsA P K => ?_⟩
  obtain ⟨C, T, N, ty, h1, h2, h3, h4, h5, h6, h7, h8, h9⟩ := hf
  have X := g.1
  have o0 := okh_pos P.1.2.2.2 ho
  have he := wl_at (cI := cI) (cJ := cJ) (ad := ad) o0 (oks_h (oks_t P.2.2.2.1)) ho
  refine va_put (D := D) (v := mv ad v) X.x X.b X.w h2 ty h5 h6 X.o g.2.2.1 P.1.1 P.1.2.1 P.1.2.2.1 (o - 1) he h1 kf h3 (X.w _ h4) (fun _ h9 => h9) h7 h8 (hft ad).1 (hft ad).2 (by rw [List.length_map]; exact hl) hd (fun H1 locs1 hP hD hS => ?_)
  have ew : (wl cI cJ ad h).set (o - 1) (ad o, .inr (ci, (fs.map (mv ad)).set kf (mv ad v))) = wl cI cJ ad (hs h o (ob ci (fs.set kf v))) := by
    rw [← wl_put o0, ← List.map_set]
    rfl
  rw [ew] at hP hD
  refine K ad H1 locs1 lsA (fun _ _ => rfl) ⟨⟨hP, hD, hS, okh_set P.1.2.2.2 o0 (set_ok (okh_o P.1.2.2.2 ho) (oks_h P.2.2.2.1))⟩, P.2.1, P.2.2.1, oks_t (oks_t P.2.2.2.1), fun kk => ?_⟩
  obtain ⟨L, xs, e0, e1⟩ := P.2.2.2.2 kk
  exact ⟨L, xs, by rw [← e0]; show va_up h.1 o _ 0 = _; simp [va_up, Nat.ne_of_lt o0], e1⟩
theorem s_putF {ix ci kf o : Nat} {ft : FieldType} {fs : List Value} {v : Value} (hd : decode M.2.1 pc = .ok (.putfield ix, 3)) (hq : pc + 3 = q) (hf : FP M.1.cls ix ci kf true ft) (hi : M.1.name = "<init>") (ho : h.1 o = ob ci fs) (hl : kf < fs.length) (hft : ∀ ad, narrow ft (mv ad v) = mv ad v ∧ fits ft (mv ad v) = true) : J k M d pc ls (v :: .ref o :: st) h q ls st (hs h o (ob ci (fs.set kf v))) := by
  subst hq
  refine ⟨⟨Nat.le_refl _, Nat.le_refl _, Nat.le_refl _⟩, fun p l e R s m args below meth c Q D cI cJ A cb sb g r ad H locs lsA P K => ?_⟩
  obtain ⟨C, T, N, ty, h1, h2, h3, h4, h5, h6, h7, h8, h9⟩ := hf
  have X := g.1
  have o0 := okh_pos P.1.2.2.2 ho
  have he := wl_at (cI := cI) (cJ := cJ) (ad := ad) o0 (oks_h (oks_t P.2.2.2.1)) ho
  refine va_putF (D := D) (v := mv ad v) X.x X.b X.w h2 ty h5 h6 X.o g.2.2.1 P.1.1 P.1.2.1 P.1.2.2.1 (o - 1) he h1 kf h3 (X.w _ h4) (fun _ h9 => h9) h7 (X.2.2.2.2.2.2.2.1.trans hi) h9 h8 (hft ad).1 (hft ad).2 (by rw [List.length_map]; exact hl) hd (fun H1 locs1 hP hD hS => ?_)
  have ew : (wl cI cJ ad h).set (o - 1) (ad o, .inr (ci, (fs.map (mv ad)).set kf (mv ad v))) = wl cI cJ ad (hs h o (ob ci (fs.set kf v))) := by
    rw [← wl_put o0, ← List.map_set]
    rfl
  rw [ew] at hP hD
  refine K ad H1 locs1 lsA (fun _ _ => rfl) ⟨⟨hP, hD, hS, okh_set P.1.2.2.2 o0 (set_ok (okh_o P.1.2.2.2 ho) (oks_h P.2.2.2.1))⟩, P.2.1, P.2.2.1, oks_t (oks_t P.2.2.2.1), fun kk => ?_⟩
  obtain ⟨L, xs, e0, e1⟩ := P.2.2.2.2 kk
  exact ⟨L, xs, by rw [← e0]; show va_up h.1 o _ 0 = _; simp [va_up, Nat.ne_of_lt o0], e1⟩
theorem s_iald {o n : Nat} {f : Nat → Int32} {i : Int32} (hd : decode M.2.1 pc = .ok (.iaload, 1)) (hq : pc + 1 = q) (o0 : 0 < o) (ho : h.1 o = ia n f) (hi : vp_in i n) : J k M d pc ls (.int i :: .ref o :: st) h q ls (.int (f i.toNatClampNeg) :: st) h := by
  subst hq
  refine ⟨⟨Nat.le_refl _, Nat.le_refl _, Nat.le_refl _⟩, fun p l e R s m args below meth c Q D cI cJ A cb sb g r ad H locs lsA P K => ?_⟩
  have X := g.1
  have he := wl_at (cI := cI) (cJ := cJ) (ad := ad) o0 (oks_h (oks_t P.2.2.2.1)) ho
  exact va_iald (D := D) X.x X.b g.2.2.1 P.1.1 (o - 1) 0 he rfl hi hd (K ad H locs lsA (fun _ _ => rfl) (P.with (oks_c trivial (oks_t (oks_t P.2.2.2.1)))))
theorem s_lald {o n : Nat} {f : Nat → Int64} {i : Int32} (hd : decode M.2.1 pc = .ok (.laload, 1)) (hq : pc + 1 = q) (ho : h.1 o = la n f) (hi : vp_in i n) : J k M d pc ls (.int i :: .ref o :: st) h q ls (.long (f i.toNatClampNeg) :: st) h := by
  subst hq
  refine ⟨⟨Nat.le_refl _, Nat.le_refl _, Nat.le_refl _⟩, fun p l e R s m args below meth c Q D cI cJ A cb sb g r ad H locs lsA P K => ?_⟩
  have X := g.1
  have he := wl_at (cI := cI) (cJ := cJ) (ad := ad) (okh_posL P.1.2.2.2 ho) (oks_h (oks_t P.2.2.2.1)) ho
  exact va_lald (D := D) X.x X.b g.2.2.1 P.1.1 (o - 1) 1 he rfl hi hd (K ad H locs lsA (fun _ _ => rfl) (P.with (oks_c trivial (oks_t (oks_t P.2.2.2.1)))))
theorem s_iast {o n : Nat} {f : Nat → Int32} {i x : Int32} (hd : decode M.2.1 pc = .ok (.iastore, 1)) (hq : pc + 1 = q) (o0 : 0 < o) (ho : h.1 o = ia n f) (hi : vp_in i n) : J k M d pc ls (.int x :: .int i :: .ref o :: st) h q ls st (hs h o (ia n (upd f i.toNatClampNeg x))) := by
  subst hq
  refine ⟨⟨Nat.le_refl _, Nat.le_refl _, Nat.le_refl _⟩, fun p l e R s m args below meth c Q D cI cJ A cb sb g r ad H locs lsA P K => ?_⟩
  have X := g.1
  have he := wl_at (cI := cI) (cJ := cJ) (ad := ad) o0 (oks_h (oks_t (oks_t P.2.2.2.1))) ho
  refine va_iast (D := D) X.x X.b g.2.2.1 P.1.1 P.1.2.1 P.1.2.2.1 (o - 1) 0 he rfl hi hd (fun H1 locs1 hP hD hS => ?_)
  have ew : (wl cI cJ ad h).set (o - 1) (ad o, .inl (cI, n, .inl (upd f i.toNatClampNeg x))) = wl cI cJ ad (hs h o (ia n (upd f i.toNatClampNeg x))) := by
    rw [← wl_put o0]
    rfl
  rw [ew] at hP hD
  refine K ad H1 locs1 lsA (fun _ _ => rfl) ⟨⟨hP, hD, hS, okh_set P.1.2.2.2 o0 trivial⟩, P.2.1, P.2.2.1, oks_t (oks_t (oks_t P.2.2.2.1)), fun kk => ?_⟩
  obtain ⟨L, xs, e0, e1⟩ := P.2.2.2.2 kk
  exact ⟨L, xs, by rw [← e0]; show va_up h.1 o _ 0 = _; simp [va_up, Nat.ne_of_lt o0], e1⟩
theorem s_last {o n : Nat} {f : Nat → Int64} {i : Int32} {x : Int64} (hd : decode M.2.1 pc = .ok (.lastore, 1)) (hq : pc + 1 = q) (ho : h.1 o = la n f) (hi : vp_in i n) : J k M d pc ls (.long x :: .int i :: .ref o :: st) h q ls st (hs h o (la n (vp_updL f i.toNatClampNeg x))) := by
  subst hq
  refine ⟨⟨Nat.le_refl _, Nat.le_refl _, Nat.le_refl _⟩, fun p l e R s m args below meth c Q D cI cJ A cb sb g r ad H locs lsA P K => ?_⟩
  have X := g.1
  have o0 := okh_posL P.1.2.2.2 ho
  have he := wl_at (cI := cI) (cJ := cJ) (ad := ad) o0 (oks_h (oks_t (oks_t P.2.2.2.1))) ho
  refine va_last (D := D) X.x X.b g.2.2.1 P.1.1 P.1.2.1 P.1.2.2.1 (o - 1) 1 he rfl hi hd (fun H1 locs1 hP hD hS => ?_)
  have ew : (wl cI cJ ad h).set (o - 1) (ad o, .inl (cJ, n, .inr (.inl (vp_updL f i.toNatClampNeg x)))) = wl cI cJ ad (hs h o (la n (vp_updL f i.toNatClampNeg x))) := by
    rw [← wl_put o0]
    rfl
  rw [ew] at hP hD
  refine K ad H1 locs1 lsA (fun _ _ => rfl) ⟨⟨hP, hD, hS, okh_set P.1.2.2.2 o0 trivial⟩, P.2.1, P.2.2.1, oks_t (oks_t (oks_t P.2.2.2.1)), fun kk => ?_⟩
  obtain ⟨L, xs, e0, e1⟩ := P.2.2.2.2 kk
  exact ⟨L, xs, by rw [← e0]; show va_up h.1 o _ 0 = _; simp [va_up, Nat.ne_of_lt o0], e1⟩
theorem s_alenI {o n : Nat} {f : Nat → Int32} {v : Int32} (hd : decode M.2.1 pc = .ok (.arraylength, 1)) (hq : pc + 1 = q) (o0 : 0 < o) (ho : h.1 o = ia n f) (hv : nI n = v) : J k M d pc ls (.ref o :: st) h q ls (.int v :: st) h := by
  subst hq
  refine ⟨⟨Nat.le_refl _, Nat.le_refl _, Nat.le_refl _⟩, fun p l e R s m args below meth c Q D cI cJ A cb sb g r ad H locs lsA P K => ?_⟩
  have X := g.1
  have he := wl_at (cI := cI) (cJ := cJ) (ad := ad) o0 (oks_h P.2.2.2.1) ho
  exact va_alen (D := D) X.x X.b g.2.2.1 P.1.1 (o - 1) 0 he rfl hv hd (K ad H locs lsA (fun _ _ => rfl) (P.with (oks_c trivial (oks_t P.2.2.2.1))))
theorem s_alenL {o n : Nat} {f : Nat → Int64} {v : Int32} (hd : decode M.2.1 pc = .ok (.arraylength, 1)) (hq : pc + 1 = q) (ho : h.1 o = la n f) (hv : nI n = v) : J k M d pc ls (.ref o :: st) h q ls (.int v :: st) h := by
  subst hq
  refine ⟨⟨Nat.le_refl _, Nat.le_refl _, Nat.le_refl _⟩, fun p l e R s m args below meth c Q D cI cJ A cb sb g r ad H locs lsA P K => ?_⟩
  have X := g.1
  have he := wl_at (cI := cI) (cJ := cJ) (ad := ad) (okh_posL P.1.2.2.2 ho) (oks_h P.2.2.2.1) ho
  exact va_alen (D := D) X.x X.b g.2.2.1 P.1.1 (o - 1) 1 he rfl hv hd (K ad H locs lsA (fun _ _ => rfl) (P.with (oks_c trivial (oks_t P.2.2.2.1))))
/-- the script -/
theorem s_sld {n : Nat} {f : Nat → Int32} {i : Int32} (hd : decode M.2.1 pc = .ok (.iaload, 1)) (hq : pc + 1 = q) (ho : h.1 0 = ia n f) (hi : vp_in i n) : J true M d pc ls (.int i :: .ref 0 :: st) h q ls (.int (f i.toNatClampNeg) :: st) h := by
  subst hq
  refine ⟨⟨Nat.le_refl _, Nat.le_refl _, Nat.le_refl _⟩, fun p l e R s m args below meth c Q D cI cJ A cb sb g r ad H locs lsA P K => ?_⟩
  have X := g.1
  obtain ⟨L, xs, e0, e1, e2, e3⟩ := P.2.2.2.2 rfl
  cases ho.symm.trans e0
  exact va_sld X.x X.b e1 e2 e3 P.1.2.2.1 hi hd (K ad H locs lsA (fun _ _ => rfl) (P.with (oks_c trivial (oks_t (oks_t P.2.2.2.1)))))
theorem s_slen {n : Nat} {f : Nat → Int32} {v : Int32} (hd : decode M.2.1 pc = .ok (.arraylength, 1)) (hq : pc + 1 = q) (ho : h.1 0 = ia n f) (hv : nI n = v) : J true M d pc ls (.ref 0 :: st) h q ls (.int v :: st) h := by
  subst hv
  subst hq
  refine ⟨⟨Nat.le_refl _, Nat.le_refl _, Nat.le_refl _⟩, fun p l e R s m args below meth c Q D cI cJ A cb sb g r ad H locs lsA P K => ?_⟩
  have X := g.1
  obtain ⟨L, xs, e0, e1, e2, e3⟩ := P.2.2.2.2 rfl
  cases ho.symm.trans e0
  exact va_slen X.x X.b e1 e2 e3 P.1.2.2.1 hd (K ad H locs lsA (fun _ _ => rfl) (P.with (oks_c trivial (oks_t P.2.2.2.1))))
/-- a world with one cell more -/
theorem Pt.new {D : va_G} {cI cJ : ClassId} {A : Nat → Prop} {s : State} {ad : Nat → Nat} {st' : List Value} {H H1 : Heap} {locs : List Loc} {lsA : Array Slot} {ac : AC} {z a : Nat} (P : Pt k M D cI cJ A s ad ls st h H locs lsA) (hac : okc h.2.1 ac) (hP : va_P D vwCl (wl cI cJ ad h ++ [(a, cv cI cJ ad ac)]) H1) (hD : va_D A (wl cI cJ ad h ++ [(a, cv cI cJ ad ac)])) (hS : va_S A s.heap H1 locs) (hs : oks h.2.1 st') :
    (∀ i, i ≤ h.2.1 → va_up ad (h.2.1 + 1) a i = ad i) ∧ Pt k M D cI cJ A s (va_up ad (h.2.1 + 1) a) ls (.ref (h.2.1 + 1) :: st') (hw h ac z) H1 locs lsA := by
  have hx : ∀ i, i ≤ h.2.1 → va_up ad (h.2.1 + 1) a i = ad i := fun i hi => by
    have : ¬ i = h.2.1 + 1 := by omega
    simp [va_up, this]
  rw [wl_push (z := z) P.1.2.2.2 hac] at hP hD
  refine ⟨hx, ⟨hP, hD, hS, okh_new P.1.2.2.2 hac⟩, by rw [ml_ext hx P.2.2.1]; exact P.2.1, fun w hw => okv_le (Nat.le_succ _) (P.2.2.1 w hw), oks_c (Nat.le_refl _) (fun w hw => okv_le (Nat.le_succ _) (hs w hw)), fun kk => ?_⟩
  obtain ⟨L, xs, e0, e1⟩ := P.2.2.2.2 kk
  refine ⟨L, xs, by rw [← e0]; show va_up h.1 (h.2.1 + 1) ac 0 = h.1 0; simp [va_up], ?_⟩
  rw [hx 0 (Nat.zero_le _)]
  exact e1
theorem Pt.stk {D : va_G} {cI cJ : ClassId} {A : Nat → Prop} {s : State} {ad ad' : Nat → Nat} {H : Heap} {locs : List Loc} {lsA : Array Slot} (P : Pt k M D cI cJ A s ad ls st h H locs lsA) (hx : ∀ i, i ≤ h.2.1 → ad' i = ad i) : st.map (mv ad') = st.map (mv ad) := st_ext hx P.2.2.2.1
/-- an object by its class's entry in the pool: the number of its class, the fields at first -/
def NL (own : String) (ix ci N : Nat) (fs : List Value) : Prop := ∃ (C : String) (T : u_T) (ty : Nat → FieldType), vwCl[ci]? = some (C, T, N) ∧ (∀ w ∈ u_ws C T N, w ∈ gw) ∧ (∀ k, k < N → parseFieldDescriptor (T k).2.2.1 = some (ty k)) ∧ Cond.classLink own ix C ∈ gw ∧ Cond.instantiable C N ∈ gw ∧ Cond.initialized C ∈ gw ∧ (∀ j, j < N → defaultValue (ty j) = vp_V fs j) ∧ (∀ v ∈ fs, ∀ ad, mv ad v = v) ∧ ∀ v ∈ fs, ∀ n, okv n v
theorem s_new {ix ci N : Nat} {fs : List Value} (hd : decode M.2.1 pc = .ok (.new ix, 3)) (hq : pc + 3 = q) (hf : NL M.1.cls ix ci N fs) : J k M d pc ls st h q ls (.ref (h.2.1 + 1) :: st) (hw h (ob ci fs) N) := by
  subst hq
  refine ⟨⟨Nat.le_succ _, Nat.le_succ _, Nat.le_add_right _ _⟩, fun p l e R s m args below meth c Q D cI cJ A cb sb g r ad H locs lsA P K => ?_⟩
  have X := g.1
  obtain ⟨C, T, ty, h1, h2, h3, h4, h5, h6, h7, h8, h9⟩ := hf
  have efs : fs.map (mv ad) = fs := by
    rw [List.map_congr_left (fun v hv => h8 v hv ad), List.map_id'']
    exact fun _ => rfl
  refine va_new (D := D) (fs := fs) X.x X.b X.w h2 ty h3 X.o (X.w _ h4) (X.w _ h5) (X.w _ h6) g.2.2.1 P.1.1 P.1.2.1 P.1.2.2.1 g.2.2.2.1 h1 h7 (Nat.le_trans (by show _ ≤ h.2.2.1 + 1 - cb; have := r.1; omega) r.2.2.1) (Nat.le_trans (by show _ ≤ h.2.2.2 + N - sb; have := r.2.1; omega) r.2.2.2) hd (fun a H1 hP hD hS => ?_)
  have ec : (Sum.inr (ci, fs) : va_E) = cv cI cJ ad (ob ci fs) := by
    show _ = Sum.inr (ci, fs.map (mv ad))
    rw [efs]
  rw [ec] at hP hD
  obtain ⟨hx, P'⟩ := P.new (z := N) (ac := ob ci fs) (fun v hv => h9 v hv _) hP hD hS P.2.2.2.1
  have := K _ H1 locs lsA hx P'
  rw [List.map_cons, P.stk hx] at this
  have e2 : mv (va_up ad (h.2.1 + 1) a) (.ref (h.2.1 + 1)) = .ref a := by simp [mv, va_up]
  rw [e2] at this
  exact W.cs (by show _ = h.2.2.1 + 1 - cb; have := r.1; omega) (by show _ = h.2.2.2 + N - sb; have := r.2.1; omega) this
theorem K_cls {D : va_G} {tys : List (ClassId × FieldType)} {s : State} {cA cI : ClassId} {ty : FieldType} {i : Nat} (h1 : va_K D vwCl tys s) (hi : tys[i]? = some (cI, ty)) (hn : ∀ C, ty ≠ .object C) (h2 : va_RA s cA ty) : cA = cI := by
  have q := (h1.2 i _ hi).2
  cases ty <;> first | exact absurd rfl (hn _) | exact Option.some.inj (h2.symm.trans q)
theorem s_newI {n : Int32} {N : Nat} (hd : decode M.2.1 pc = .ok (.newarray .int, 2)) (hq : pc + 2 = q) (hn : ¬ n < 0) (hN : n.toNatClampNeg = N) (hb : N ≤ 1000000) : J k M d pc ls (.int n :: st) h q ls (.ref (h.2.1 + 1) :: st) (hw h (ia N (fun _ => 0)) N) := by
  subst hq
  refine ⟨⟨Nat.le_succ _, Nat.le_succ _, Nat.le_add_right _ _⟩, fun p l e R s m args below meth c Q D cI cJ A cb sb g r ad H locs lsA P K => ?_⟩
  have X := g.1
  refine va_newa (D := D) (a0 := (N, .inl (fun _ => 0))) X.x X.b (X.w _ (gm (ws := wsL_law0) gi_law0 (by decide +kernel))) rfl g.2.2.1 P.1.1 P.1.2.1 P.1.2.2.1 g.2.2.2.1 (fun cA => rfl) hn hN (by show N * 4 ≤ _; omega) (Nat.le_trans (by show _ ≤ h.2.2.1 + 1 - cb; have := r.1; omega) r.2.2.1) (Nat.le_trans (by show _ ≤ h.2.2.2 + N - sb; have := r.2.1; omega) r.2.2.2) hd (fun a cA H1 hK hP hD hS => ?_)
  have ecA : cA = cI := K_cls g.2.2.1 (i := 0) rfl (fun _ h => by cases h) (hK.2 2 _ rfl).2
  subst ecA
  obtain ⟨hx, P'⟩ := P.new (z := N) (ac := ia N (fun _ => 0)) trivial hP hD hS (oks_t P.2.2.2.1)
  have := K _ H1 locs lsA hx P'
  rw [List.map_cons, st_ext hx (oks_t P.2.2.2.1)] at this
  have e2 : mv (va_up ad (h.2.1 + 1) a) (.ref (h.2.1 + 1)) = .ref a := by simp [mv, va_up]
  rw [e2] at this
  exact W.cs (by show _ = h.2.2.1 + 1 - cb; have := r.1; omega) (by show _ = h.2.2.2 + N - sb; have := r.2.1; omega) this
theorem s_newL {n : Int32} {N : Nat} (hd : decode M.2.1 pc = .ok (.newarray .long, 2)) (hq : pc + 2 = q) (hn : ¬ n < 0) (hN : n.toNatClampNeg = N) (hb : N ≤ 1000000) : J k M d pc ls (.int n :: st) h q ls (.ref (h.2.1 + 1) :: st) (hw h (la N (fun _ => 0)) N) := by
  subst hq
  refine ⟨⟨Nat.le_succ _, Nat.le_succ _, Nat.le_add_right _ _⟩, fun p l e R s m args below meth c Q D cI cJ A cb sb g r ad H locs lsA P K => ?_⟩
  have X := g.1
  refine va_newa (D := D) (a0 := (N, .inr (.inl (fun _ => 0)))) X.x X.b (X.w _ (gm (ws := wsL_law0) gi_law0 (by decide +kernel))) rfl g.2.2.1 P.1.1 P.1.2.1 P.1.2.2.1 g.2.2.2.1 (fun cA => rfl) hn hN (by show N * 8 ≤ _; omega) (Nat.le_trans (by show _ ≤ h.2.2.1 + 1 - cb; have := r.1; omega) r.2.2.1) (Nat.le_trans (by show _ ≤ h.2.2.2 + N - sb; have := r.2.1; omega) r.2.2.2) hd (fun a cA H1 hK hP hD hS => ?_)
  have ecA : cA = cJ := K_cls g.2.2.1 (i := 1) rfl (fun _ h => by cases h) (hK.2 2 _ rfl).2
  subst ecA
  obtain ⟨hx, P'⟩ := P.new (z := N) (ac := la N (fun _ => 0)) trivial hP hD hS (oks_t P.2.2.2.1)
  have := K _ H1 locs lsA hx P'
  rw [List.map_cons, st_ext hx (oks_t P.2.2.2.1)] at this
  have e2 : mv (va_up ad (h.2.1 + 1) a) (.ref (h.2.1 + 1)) = .ref a := by simp [mv, va_up]
  rw [e2] at this
  exact W.cs (by show _ = h.2.2.1 + 1 - cb; have := r.1; omega) (by show _ = h.2.2.2 + N - sb; have := r.2.1; omega) this
end HEAP
end
section
/-! a method's end, its contract, calls -/
/-- at its return, with this answer -/
def RetAt (M : MD) (pc : Nat) (st : List Value) : Option Value → Prop
  | none => decode M.2.1 pc = .ok (.return_, 1) ∧ M.2.2.2.1 = none ∧ st = []
  | some (.int x) => decode M.2.1 pc = .ok (.ireturn, 1) ∧ st = [.int x] ∧ ∃ ty, M.2.2.2.1 = some ty ∧ narrow ty (.int x) = .int x
  | some (.long x) => decode M.2.1 pc = .ok (.lreturn, 1) ∧ st = [.long x] ∧ M.2.2.2.1 = some .long
  | some (.ref o) => decode M.2.1 pc = .ok (.areturn, 1) ∧ st = [.ref o] ∧ ∃ rt, M.2.2.2.1 = some rt ∧ ((∃ n, rt = .object n) ∨ ∃ t, rt = .array t)
  | some .null => decode M.2.1 pc = .ok (.areturn, 1) ∧ st = [.null] ∧ ∃ rt, M.2.2.2.1 = some rt ∧ ((∃ n, rt = .object n) ∨ ∃ t, rt = .array t)
  | _ => False
/-- from the frame on, the method returns v and leaves the heap h' -/
def E (k : Bool) (M : MD) (d pc : Nat) (ls : List (Nat × Value)) (st : List Value) (h : AH) (v : Option Value) (h' : AH) : Prop := ∃ pc' ls' st', RetAt M pc' st' v ∧ J k M d pc ls st h pc' ls' st' h'
theorem E.st {k : Bool} {M : MD} {d p1 p2 : Nat} {l1 l2 : List (Nat × Value)} {s1 s2 : List Value} {h1 h2 : AH} {v : Option Value} {h' : AH} (a : J k M d p1 l1 s1 h1 p2 l2 s2 h2) (b : E k M d p2 l2 s2 h2 v h') : E k M d p1 l1 s1 h1 v h' := by
  obtain ⟨pc', ls', st', r, j⟩ := b
  exact ⟨pc', ls', st', r, a.tr j⟩
/-- the method's contract -/
def CM (M : MD) (d : Nat) (as : List Value) (h : AH) (v : Option Value) (h' : AH) : Prop := E false M d 0 (lv_args 0 as) [] h v h'
theorem la_ml {ad : Nat → Nat} : ∀ {as : List Value} {i : Nat}, lv_args i (as.map (mv ad)) = ml ad (lv_args i as)
  | [], _ => rfl
  | v :: r, i => by
    show (i, mv ad v) :: lv_args _ (r.map (mv ad)) = (i, mv ad v) :: ml ad (lv_args _ r)
    rw [la_ml, mv_cat]
theorem sl_ml {ad : Nat → Nat} : ∀ {as : List Value}, (lg_sl (as.map (mv ad))).length = (lg_sl as).length
  | [] => rfl
  | v :: r => by
    have ih := sl_ml (ad := ad) (as := r)
    unfold lg_sl at ih ⊢
    simp only [List.map_cons, List.flatMap_cons, List.length_append, mv_cat, ih]
    split <;> rfl
theorem la_ok {n : Nat} : ∀ {as : List Value} {i : Nat}, oks n as → okl n (lv_args i as)
  | [], _, _ => fun _ h => by cases h
  | v :: r, i, h => okl_c (oks_h h) (la_ok (oks_t h))
def Pcc (D : va_G) (cI cJ : ClassId) (ad : Nat → Nat) (as : List Value) (h : AH) (sz : Nat) : Array Value → State → Prop := fun a U =>
  a = (as.map (mv ad)).toArray ∧ U.heap.size = sz ∧ va_P D vwCl (wl cI cJ ad h) U.heap ∧ va_K D vwCl [(cI, .int), (cJ, .long)] U ∧ va_D (fun _ => True) (wl cI cJ ad h) ∧ Zs (va_A (wl cI cJ ad h) sz) U U.heap
def Qcc (D : va_G) (cI cJ : ClassId) (ad : Nat → Nat) (v : Option Value) (h h1 : AH) (sz : Nat) : Array Value → State → Outcome → State → Prop := fun _ st oc t =>
  (∃ ad' : Nat → Nat, oc = .returned (v.map (mv ad')) ∧ (∀ i, i ≤ h.2.1 → ad' i = ad i) ∧ va_P D vwCl (wl cI cJ ad' h1) t.heap ∧ va_D (va_A (wl cI cJ ad h) sz) (wl cI cJ ad' h1) ∧ okh h1 ∧ oks h1.2.1 v.toList) ∧ va_F (va_A (wl cI cJ ad h) sz) st t
def rmm (d mc ms : Nat) : Room := { frames := d, cells := mc, slots := ms, locals := 64 * d }
theorem Zs.moved {A : Nat → Prop} {u U : State} {H : Heap} (hvm : u.vm.Alike U.vm) (hs : ∀ own k tx a, vk_R own k tx a u → vk_R own k tx a U) (hw : ∀ w ∈ xw, va_Nw w u → va_Nw w U) (h : Zs A u H) : Zs A U H := ⟨vx_Zq.moved hvm h.1, vx_Zq.moved hvm h.2.1, (fun q hq => by obtain ⟨sa, e⟩ := h.2.2.1 q hq; exact ⟨sa, hs _ _ _ _ e⟩), fun w hm => hw w hm (h.2.2.2 w hm)⟩
theorem Zs.kept {A : Nat → Prop} {U : State} {H H1 : Heap} (h : Zs A U H) (hq : ∀ a : Nat, a < H.size → ¬ A a → H1[a]? = H[a]?) : Zs A U H1 := ⟨vx_Zq.kept h.1 hq, vx_Zq.kept h.2.1 hq, h.2.2⟩
theorem Zs.narrow {A B : Nat → Prop} {U : State} {H : Heap} (h : Zs A U H) (hAB : ∀ q, B q → A q) : Zs B U H := ⟨vx_Zq.narrow h.1 hAB, vx_Zq.narrow h.2.1 hAB, h.2.2⟩
theorem Pcc.blind {D : va_G} {cI cJ : ClassId} {ad : Nat → Nat} {as : List Value} {h : AH} {sz : Nat} : FrameBlind (Pcc D cI cJ ad as h sz) := fun a U g mk q => by
  obtain ⟨q0, q1, q2, q3, q4, q5⟩ := q
  exact ⟨q0, q1, q2, va_K.moved (u := U) (U := U.calling g mk a) (Vm.Alike.refl U.vm) q3, q4, Zs.moved (u := U) (U := U.calling g mk a) (Vm.Alike.refl U.vm) (fun _ _ _ _ e => vk_R.same rfl e) (xw_same rfl) q5⟩
/-- a walk's end gives the machine's end -/
theorem ret_W {k : Bool} {M : MD} {p : Program} {l : Launch} {e : Env} {R : Room} {s : State} {m : MethodId} {args : Array Value} {below : List Frame} {meth : Method} {c : Code} {D : va_G} {cI cJ : ClassId} {A : Nat → Prop} {Qc : Array Value → State → Outcome → State → Prop} {ad : Nat → Nat} {H : Heap} {locs : List Loc} {lsA : Array Slot} {cells slots pc : Nat} {ls : List (Nat × Value)} {st : List Value} {h : AH} {v : Option Value}
    (X : Cx M p s m args meth c) (P : Pt k M D cI cJ A s ad ls st h H locs lsA) (r : RetAt M pc st v) (hq : ∀ t : State, t.heap = H → s.WarmedH t.vm → oks h.2.1 v.toList → Qc args s (.returned (v.map (mv ad))) t) :
    W p l e R s m args below meth c H locs cells slots (MQ below Qc args s cells slots A) (F0 m pc lsA (st.map (mv ad))) := by
  have hr := X.2.2.2.2.2.1
  have hl := X.2.2.2.2.2.2.1
  have hf := P.1.2.2.1.2.2
  have hs := P.2.2.2.1
  match v, r with
  | none, r =>
    obtain ⟨r1, r2, rfl⟩ := r
    exact W.vret X.x X.b (hr.trans r2) (fun t ht hW => hq t ht hW (fun _ h => by cases h)) hf r1 hl
  | some (.int x), r =>
    obtain ⟨r1, rfl, ty, r2, r3⟩ := r
    exact W.zret X.x X.b (hr.trans r2) r3 (fun t ht hW => hq t ht hW hs) hf r1 hl
  | some (.long x), r =>
    obtain ⟨r1, rfl, r2⟩ := r
    exact W.lret X.x X.b (hr.trans r2) (fun t ht hW => hq t ht hW hs) hf r1 hl
  | some (.ref o), r =>
    obtain ⟨r1, rfl, rt, r2, r3⟩ := r
    exact W.aret X.x X.b (hr.trans r2) r3 (Or.inr ⟨_, rfl⟩) (fun t ht hW => hq t ht hW hs) hf r1 hl
  | some .null, r =>
    obtain ⟨r1, rfl, rt, r2, r3⟩ := r
    exact W.aret X.x X.b (hr.trans r2) r3 (Or.inl rfl) (fun t ht hW => hq t ht hW hs) hf r1 hl
  | some (.float _), r => exact r.elim
  | some (.double _), r => exact r.elim
  | some (.retAddr _), r => exact r.elim
/-- a code row's table is empty -/
theorem code_table {l : Launch} {p : Program} {y : MethodName} {S : Spec} {cc : ByteArray} {maxL : Nat} {ret : Option FieldType} {e : Env} {s s₁ : State} {m : MethodId} {args : Array Value} {below : List Frame} {meth : Method} {c : Code} (B : BodyLoose p l y S cc maxL ret e s m args below meth c s₁) (h : (Cond.code y cc maxL ret).before args s = true) : c.exceptionTable.toList = [] := by
  obtain ⟨meth9, c9, h1, h2, -, -, -, -, h6, -⟩ := Cond.code_spec B.named h
  cases Option.some.inj (h1.symm.trans B.method)
  cases Option.some.inj (h2.symm.trans (Stand.of_body B).code)
  exact List.isEmpty_iff.mp (by simpa using h6)
theorem met_of {M : MD} {d : Nat} {as : List Value} {h h1 : AH} {v : Option Value} (hp : plainName M.1.cls = true) (hh : M.2.2.2.2 = []) (hc : Cond.code M.1 M.2.1 M.2.2.1 M.2.2.2.1 ∈ gw) (hlen : (lg_sl as).length ≤ M.2.2.1) (hJ : CM M d as h v h1) (ho : okh h) (hoa : oks h.2.1 as) {l : Launch} (hl : l.stackTraces = false) (D : va_G) (cI cJ : ClassId) (ad : Nat → Nat) (sz : Nat) :
    Met l M.1 (Cond.code M.1 M.2.1 M.2.2.1 M.2.2.2.1 :: gw) (rmm d (h1.2.2.1 - h.2.2.1) (h1.2.2.2 - h.2.2.2)) (Pcc D cI cJ ad as h sz) (Qcc D cI cJ ad v h h1 sz) (h1.2.2.1 - h.2.2.1) (h1.2.2.2 - h.2.2.2) (va_A (wl cI cJ ad h) sz) := by
  obtain ⟨pc', ls', st', hret, hj⟩ := hJ
  refine Met.ofW (cc := M.2.1) (maxL := M.2.2.1) (ret := M.2.2.2.1) hp rfl ?_
  intro p e s m args below meth c s₁ B hml hv
  obtain ⟨rfl, hsz, hP, hK, hD0, hZ⟩ := hv
  have hts := atoms_spec (ws := Cond.code M.1 M.2.1 M.2.2.1 M.2.2.2.1 :: gw) B.pre
  subst hsz
  have hD := hD0.self (sz := s.heap.size)
  have X : Cx M p s m (as.map (mv ad)).toArray meth c := ⟨B.exec, B.bytes, hml, findClass_of_methodNamed B.named, fun w hw => hts w (List.mem_cons_of_mem _ hw), B.returns, B.notSynchronized, (name_of_methodNamed B.named B.method).1, by rw [hh]; exact (code_table B (hts _ List.mem_cons_self)).trans rfl⟩
  have hl0 := lv_entry (as.map (mv ad)) (n := M.2.2.1) (by rw [sl_ml]; exact hlen)
  rw [lg_entry_eq]
  generalize (lg_sl (as.map (mv ad)) ++ List.replicate (M.2.2.1 - (lg_sl (as.map (mv ad))).length) Slot.unset).toArray = lsA at hl0 ⊢
  rw [la_ml] at hl0
  have G : Gx M p l (rmm d (h1.2.2.1 - h.2.2.1) (h1.2.2.2 - h.2.2.2)) s m (as.map (mv ad)).toArray meth c D cI cJ (va_A (wl cI cJ ad h) s.heap.size) d := ⟨X, ⟨Nat.le_refl _, Nat.le_refl _⟩, hK, fun q hq => Or.inr hq, hl, hZ⟩
  have P : Pt false M D cI cJ (va_A (wl cI cJ ad h) s.heap.size) s ad (lv_args 0 as) [] h s.heap [] lsA := ⟨⟨hP, hD, va_S.rf, ho⟩, hl0, la_ok hoa, (fun _ h => by cases h), (fun h => by cases h)⟩
  have key := hj.2 p l e (rmm d (h1.2.2.1 - h.2.2.1) (h1.2.2.2 - h.2.2.2)) s m (as.map (mv ad)).toArray below meth c (MQ below (Qcc D cI cJ ad v h h1 s.heap.size) (as.map (mv ad)).toArray s (h1.2.2.1 - h.2.2.1) (h1.2.2.2 - h.2.2.2) (va_A (wl cI cJ ad h) s.heap.size)) D cI cJ (va_A (wl cI cJ ad h) s.heap.size) h.2.2.1 h.2.2.2 G ⟨Nat.le_refl _, Nat.le_refl _, Nat.le_refl _, Nat.le_refl _⟩ ad s.heap [] lsA P (fun ad' H' locs' lsA' hx P' => ?_)
  · rw [Nat.sub_self, Nat.sub_self] at key
    exact key
  · exact ret_W X P' hret (fun t ht hW ho' => ⟨⟨ad', rfl, hx, by rw [ht]; exact P'.1.1, P'.1.2.1, P'.1.2.2.2, ho'⟩, P'.1.2.2.1.F ht⟩)
theorem ext_app {ad ad' : Nat → Nat} {n : Nat} (hx : ∀ i, i ≤ n → ad' i = ad i) {rest : List Value} (ho : oks n rest) (v : Option Value) : (v.map (mv ad')).toList ++ rest.map (mv ad) = (v.toList ++ rest).map (mv ad') := by
  rw [List.map_append, st_ext hx ho]
  cases v <;> rfl
theorem oks_app {n : Nat} {a b : List Value} (ha : oks n a) (hb : oks n b) : oks n (a ++ b) := fun w hw => (List.mem_append.mp hw).elim (ha w) (hb w)
theorem oks_r {n : Nat} {a b : List Value} (h : oks n (a ++ b)) : oks n b := fun w hw => h w (List.mem_append_right _ hw)
theorem oks_l {n : Nat} {a b : List Value} (h : oks n (a ++ b)) : oks n a := fun w hw => h w (List.mem_append_left _ hw)
section CALLS
variable {p : Program} {l : Launch} {e : Env} {R : Room} {s : State} {m : MethodId} {args : Array Value} {below : List Frame} {meth : Method} {c : Code} {Q : State → Prop} {D : va_G} {cI cJ : ClassId} {A : Nat → Prop} {ad : Nat → Nat} {H : Heap} {locs : List Loc} {lsA : Array Slot} {cells slots mc ms : Nat}
variable {k : Bool} {M K : MD} {d d' pc q : Nat} {ls : List (Nat × Value)} {st rest as : List Value} {h h1 : AH} {v : Option Value}
theorem Pt.free (P : Pt k M D cI cJ A s ad ls st h H locs lsA) (hA : ∀ q, s.heap.size ≤ q → A q) : ∀ q, va_A (wl cI cJ ad h) H.size q → A q := fun q hq => hq.elim (fun ⟨i, e, he⟩ => P.1.2.1.2 i _ he) (fun hq => hA q (Nat.le_trans P.1.2.2.1.1 hq))
/-- behind a call -/
theorem run_W {st0 : List Value} {a : Array Value} (hr : va_Run p l e R s m args below meth c H locs cells slots mc ms (F0 m pc lsA st0) (rest.map (mv ad)) (Qcc D cI cJ ad v h h1 H.size a) (va_A (wl cI cJ ad h) H.size))
    (P : Pt k M D cI cJ A s ad ls rest h H locs lsA) (hA : ∀ q, s.heap.size ≤ q → A q) (hn : h.2.1 ≤ h1.2.1) (h0 : k = true → h1.1 0 = h.1 0)
    (kk : ∀ (ad' : Nat → Nat) (H' : Heap) (locs' : List Loc) (lsA' : Array Slot), (∀ i, i ≤ h.2.1 → ad' i = ad i) → Pt k M D cI cJ A s ad' ls (v.toList ++ rest) h1 H' locs' lsA' → W p l e R s m args below meth c H' locs' (cells + mc) (slots + ms) Q (F0 m (pc + 3) lsA' ((v.toList ++ rest).map (mv ad')))) :
    W p l e R s m args below meth c H locs cells slots Q (F0 m pc lsA st0) := by
  intro T hT X
  obtain ⟨v', st₀, t, T', L, e0, X', hL, e1, e2, ⟨⟨ad', hv, hx, hP1, hD1, ho1, hov⟩, hz, hk⟩, stt⟩ := hr T hT X
  cases hv
  rw [e0] at hz hk
  have hF := P.free hA
  obtain ⟨t2, a1, b1⟩ := kk ad' T'.heap (locs ++ L) lsA hx ⟨⟨by rw [e1]; exact hP1, hD1.weaken (fun _ q _ hq => hF _ hq), ⟨Nat.le_trans P.1.2.2.1.1 (by rw [e1]; exact hz), fun q h1 h2 => by
      rw [e1, hk q (Nat.lt_of_lt_of_le h1 P.1.2.2.1.1) (fun z => h2 (hF q z))]; exact P.1.2.2.1.2.1 q h1 h2, fun q hq => by
      rcases List.mem_append.mp hq with h | h
      · exact P.1.2.2.1.2.2 q h
      · exact hF _ (hL q h)⟩, ho1⟩, by rw [ml_ext hx P.2.2.1]; exact P.2.1, fun w hw => okv_le hn (P.2.2.1 w hw), oks_app hov (fun w hw => okv_le hn (P.2.2.2.1 w hw)), fun kt => by
      obtain ⟨L, xs, f0, f1⟩ := P.2.2.2.2 kt
      exact ⟨L, xs, (h0 kt).trans f0, by rw [hx 0 (Nat.zero_le _)]; exact f1⟩⟩ T' rfl X'
  rw [← ext_app hx P.2.2.2.1 v] at a1
  exact ⟨t2, stt t2 a1, b1⟩
/-- the start of a call -/
theorem pre_P (P : Pt k M D cI cJ A s ad ls st h H locs lsA) (hK : va_K D vwCl [(cI, .int), (cJ, .long)] s) (hA : ∀ q, s.heap.size ≤ q → A q) (hZ : Zs A s s.heap) : ∀ U : State, U.heap = H → s.WarmedH U.vm → Pcc D cI cJ ad as h H.size (as.map (mv ad)).toArray U := by
  intro U hU hW
  have hz : Zs A s H := hZ.kept P.1.2.2.1.2.1
  exact ⟨rfl, by rw [hU], by rw [hU]; exact P.1.1, va_K.moved hW.alike hK, P.1.2.1.weaken (fun _ _ _ _ => trivial), by rw [hU]; exact ((hz.moved hW.alike (fun _ _ _ _ e => vk_R.warm hW e) (xw_warm hW)).narrow (P.free hA))⟩
/-- an instance method by its entry in the pool -/
def LV (own : String) (ix : Nat) (K : MD) (n ci : Nat) : Prop := plainName K.1.cls = true ∧ K.2.2.2.2 = [] ∧ Cond.code K.1 K.2.1 K.2.2.1 K.2.2.2.1 ∈ gw ∧ Cond.methodLink own ix K.1 ∈ gw ∧ Cond.instanceMethod K.1 ∈ gw ∧ Cond.selects K.1.cls K.1 K.1 ∈ gw ∧ Cond.initialized K.1.cls ∈ gw ∧ (K.1.cls ≠ "java/lang/invoke/MethodHandle" ∧ K.1.cls ≠ "java/lang/invoke/VarHandle" ∧ (parseMethodDescriptor K.1.desc).map (fun d => d.parameters.length) = some n) ∧ K.2.2.1 ≤ 40 ∧ ∃ T N, vwCl[ci]? = some (K.1.cls, T, N)
theorem gw_c {w : Cond} {ws : List Cond} (h : w ∈ gw) (hs : GoodIn gw ws) : GoodIn gw (w :: ws) := fun w' hw' => (List.mem_cons.mp hw').elim (fun e => e ▸ gw_good w h) (hs w')
theorem s_invv {ix n ci o : Nat} {fs : List Value} (hd : decode M.2.1 pc = .ok (.invokevirtual ix, 3)) (hq : pc + 3 = q) (hf : LV M.1.cls ix K n ci) (hdd : d' < d) (hn : as.length = n) (hlen : (lg_sl (.ref o :: as)).length ≤ K.2.2.1) (hst : st = as.reverse ++ .ref o :: rest) (hcat : (rest.map fun v => v.category).sum ≤ 8) (ho : h.1 o = ob ci fs) (hM : CM K d' (.ref o :: as) h v h1) (h0 : k = true → h1.1 0 = h.1 0) : J k M d pc ls st h q ls (v.toList ++ rest) h1 := by
  subst hq
  subst hst
  obtain ⟨pcK, lsK, stK, hrK, hjK⟩ := id hM
  refine ⟨hjK.1, fun p l e R s m args below meth c Q D cI cJ A cb sb g r ad H locs lsA P kk => ?_⟩
  obtain ⟨f1, f2, f3, f4, f5, f6, f7, f8, f9, T, N, f10⟩ := hf
  obtain ⟨X, gr, gK, gA, gl, gZ⟩ := id g
  have hos := P.2.2.2.1
  have hor := oks_t (oks_r hos)
  have hoo := oks_h (oks_r hos)
  have hoa : oks h.2.1 as := fun w hw => oks_l hos w (List.mem_reverse.mpr hw)
  have hM := met_of f1 f2 f3 hlen hM P.1.2.2.2 (oks_c hoo hoa) gl D cI cJ ad H.size
  have he := wl_at (cI := cI) (cJ := cJ) (ad := ad) (okh_pos P.1.2.2.2 ho) hoo ho
  have hb := pre_P (as := .ref o :: as) P gK gA gZ
  have cw : CallW R s args M.1.cls K.1.cls ix K.1 K.2.1 K.2.2.1 K.2.2.2.1 (Cond.code K.1 K.2.1 K.2.2.1 K.2.2.2.1 :: gw) (rmm d' (h1.2.2.1 - h.2.2.1) (h1.2.2.2 - h.2.2.2)) (h1.2.2.1 - h.2.2.1) (h1.2.2.2 - h.2.2.2) n :=
    cwV n X.w (by unfold wsV; exact gw_c f4 (gw_c f5 (gw_c f6 (gw_c f7 (gw_c f3 gw_good))))) rfl rfl rfl ⟨rfl, f8⟩ ⟨by show d' + 1 ≤ _; omega, by show 8 + (K.2.2.1 + 11) + 64 * d' ≤ _; omega⟩
  have hr := va_runV (e := e) (meth := meth) (n := n) (C := K.1.cls) (b := ad o) (As := as.map (mv ad)) (rest := rest.map (mv ad)) (g := F0 m pc lsA ((as.reverse ++ .ref o :: rest).map (mv ad))) (cells := h.2.2.1 - cb) (slots := h.2.2.2 - sb) (locs := locs) (below := below) (H := H) (Ts := gw) (own := M.1.cls) (index := ix) (nL := M.2.2.1)
    ⟨X.x, X.b, X.2.2.1, X.o, X.w⟩ hM
    cw
    ⟨Pcc.blind, va_recv gK P.1.1 f10 he, hb⟩ rfl (by rw [List.length_map]; exact hn) P.2.1.1 (by rw [List.map_append, List.map_reverse]; rfl) (lv_room (by rw [List.map_map]; simpa [Function.comp_def, mv_cat] using hcat)) hd (by have := hjK.1; omega)
  refine run_W (rest := rest) hr (P.with hor) gA hjK.1.1 h0 (fun ad' H' locs' lsA' hx P' => W.cs (by have := hjK.1; omega) (by have := hjK.1; omega) (kk ad' H' locs' lsA' hx P'))
/-- a static method by its entry in the pool -/
def LSt (own : String) (ix : Nat) (K : MD) (n : Nat) : Prop := plainName K.1.cls = true ∧ K.2.2.2.2 = [] ∧ Cond.code K.1 K.2.1 K.2.2.1 K.2.2.2.1 ∈ gw ∧ Cond.methodLink own ix K.1 ∈ gw ∧ Cond.static K.1 ∈ gw ∧ Cond.initialized K.1.cls ∈ gw ∧ (K.1.cls ≠ "java/lang/invoke/MethodHandle" ∧ K.1.cls ≠ "java/lang/invoke/VarHandle" ∧ (parseMethodDescriptor K.1.desc).map (fun d => d.parameters.length) = some n) ∧ K.2.2.1 ≤ 40
theorem s_invs {ix n : Nat} (hd : decode M.2.1 pc = .ok (.invokestatic ix, 3)) (hq : pc + 3 = q) (hf : LSt M.1.cls ix K n) (hdd : d' < d) (hn : as.length = n) (hlen : (lg_sl as).length ≤ K.2.2.1) (hst : st = as.reverse ++ rest) (hcat : (rest.map fun v => v.category).sum ≤ 8) (hM : CM K d' as h v h1) (h0 : k = true → h1.1 0 = h.1 0) : J k M d pc ls st h q ls (v.toList ++ rest) h1 := by
  subst hq
  subst hst
  obtain ⟨pcK, lsK, stK, hrK, hjK⟩ := id hM
  refine ⟨hjK.1, fun p l e R s m args below meth c Q D cI cJ A cb sb g r ad H locs lsA P kk => ?_⟩
  obtain ⟨f1, f2, f3, f4, f5, f7, f8, f9⟩ := hf
  obtain ⟨X, gr, gK, gA, gl, gZ⟩ := id g
  have hos := P.2.2.2.1
  have hor := oks_r hos
  have hoa : oks h.2.1 as := fun w hw => oks_l hos w (List.mem_reverse.mpr hw)
  have hM := met_of f1 f2 f3 hlen hM P.1.2.2.2 hoa gl D cI cJ ad H.size
  have hb := pre_P (as := as) P gK gA gZ
  have cw : CallB R s args M.1.cls ix K.1 K.2.1 K.2.2.1 K.2.2.2.1 (Cond.code K.1 K.2.1 K.2.2.1 K.2.2.2.1 :: gw) (rmm d' (h1.2.2.1 - h.2.2.1) (h1.2.2.2 - h.2.2.2)) (h1.2.2.1 - h.2.2.1) (h1.2.2.2 - h.2.2.2) n ∧ (Cond.static K.1).before args s = true :=
    va_cwS n X.w (by unfold va_wsS; exact gw_c f4 (gw_c f5 (gw_c f7 (gw_c f3 gw_good)))) rfl rfl rfl f8 ⟨by show d' + 1 ≤ _; omega, by show 8 + (K.2.2.1 + 11) + 64 * d' ≤ _; omega⟩
  have hr := va_runS (e := e) (meth := meth) (n := n) (As := as.map (mv ad)) (rest := rest.map (mv ad)) (g := F0 m pc lsA ((as.reverse ++ rest).map (mv ad))) (cells := h.2.2.1 - cb) (slots := h.2.2.2 - sb) (locs := locs) (below := below) (H := H) (Ts := gw) (own := M.1.cls) (index := ix) (nL := M.2.2.1)
    ⟨X.x, X.b, X.2.2.1, X.o, X.w⟩ hM cw
    ⟨Pcc.blind, hb⟩ rfl (by rw [List.length_map]; exact hn) P.2.1.1 (by rw [List.map_append, List.map_reverse]) (lv_room (by rw [List.map_map]; simpa [Function.comp_def, mv_cat] using hcat)) hd (by have := hjK.1; omega)
  refine run_W (rest := rest) hr (P.with hor) gA hjK.1.1 h0 (fun ad' H' locs' lsA' hx P' => W.cs (by have := hjK.1; omega) (by have := hjK.1; omega) (kk ad' H' locs' lsA' hx P'))
/-- a constructor by its entry in the pool -/
def LI (own : String) (ix : Nat) (K : MD) (n : Nat) : Prop := plainName K.1.cls = true ∧ K.2.2.2.2 = [] ∧ Cond.code K.1 K.2.1 K.2.2.1 none ∈ gw ∧ Cond.methodLink own ix K.1 ∈ gw ∧ Cond.instanceMethod K.1 ∈ gw ∧ Cond.initialized K.1.cls ∈ gw ∧ (K.1.cls ≠ "java/lang/invoke/MethodHandle" ∧ K.1.cls ≠ "java/lang/invoke/VarHandle" ∧ (parseMethodDescriptor K.1.desc).map (fun d => d.parameters.length) = some n) ∧ K.2.2.1 ≤ 40 ∧ K.1.name = "<init>" ∧ K.2.2.2.1 = none
theorem s_invi {ix n o : Nat} (hd : decode M.2.1 pc = .ok (.invokespecial ix, 3)) (hq : pc + 3 = q) (hf : LI M.1.cls ix K n) (hdd : d' < d) (hn : as.length = n) (hlen : (lg_sl (.ref o :: as)).length ≤ K.2.2.1) (hst : st = as.reverse ++ .ref o :: rest) (hcat : (rest.map fun v => v.category).sum ≤ 8) (hM : CM K d' (.ref o :: as) h v h1) (h0 : k = true → h1.1 0 = h.1 0) : J k M d pc ls st h q ls (v.toList ++ rest) h1 := by
  subst hq
  subst hst
  obtain ⟨pcK, lsK, stK, hrK, hjK⟩ := id hM
  refine ⟨hjK.1, fun p l e R s m args below meth c Q D cI cJ A cb sb g r ad H locs lsA P kk => ?_⟩
  obtain ⟨f1, f2, f3, f4, f5, f7, f8, f9, f10, f11⟩ := hf
  obtain ⟨X, gr, gK, gA, gl, gZ⟩ := id g
  have hos := P.2.2.2.1
  have hor := oks_t (oks_r hos)
  have hoo := oks_h (oks_r hos)
  have hoa : oks h.2.1 as := fun w hw => oks_l hos w (List.mem_reverse.mpr hw)
  have hM := met_of f1 f2 (by rw [f11]; exact f3) hlen hM P.1.2.2.2 (oks_c hoo hoa) gl D cI cJ ad H.size
  rw [f11] at hM
  have hb := pre_P (as := .ref o :: as) P gK gA gZ
  have cw : CallB R s args M.1.cls ix K.1 K.2.1 K.2.2.1 none (Cond.code K.1 K.2.1 K.2.2.1 none :: gw) (rmm d' (h1.2.2.1 - h.2.2.1) (h1.2.2.2 - h.2.2.2)) (h1.2.2.1 - h.2.2.1) (h1.2.2.2 - h.2.2.2) n ∧ K.1.name = "<init>" ∧ (Cond.instanceMethod K.1).before args s = true :=
    cwI n X.w (gw_c f3 gw_good) rfl rfl rfl (X.w _ f7) (X.w _ f4) (X.w _ f5) f10 f8 ⟨by show d' + 1 ≤ _; omega, by show 8 + (K.2.2.1 + 11) + 64 * d' ≤ _; omega⟩
  have hr := va_runI (e := e) (meth := meth) (n := n) (b := ad o) (As := as.map (mv ad)) (rest := rest.map (mv ad)) (g := F0 m pc lsA ((as.reverse ++ .ref o :: rest).map (mv ad))) (cells := h.2.2.1 - cb) (slots := h.2.2.2 - sb) (locs := locs) (below := below) (H := H) (Ts := gw) (own := M.1.cls) (index := ix) (nL := M.2.2.1)
    ⟨X.x, X.b, X.2.2.1, X.o, X.w⟩ hM cw
    ⟨Pcc.blind, hb⟩ rfl (by rw [List.length_map]; exact hn) P.2.1.1 (by rw [List.map_append, List.map_reverse]; rfl) (lv_room (by rw [List.map_map]; simpa [Function.comp_def, mv_cat] using hcat)) hd (by have := hjK.1; omega)
  refine run_W (rest := rest) hr (P.with hor) gA hjK.1.1 h0 (fun ad' H' locs' lsA' hx P' => W.cs (by have := hjK.1; omega) (by have := hjK.1; omega) (kk ad' H' locs' lsA' hx P'))
/-- a private constructor of a nest mate -/
def LN (own : String) (ix : Nat) (K : MD) (n : Nat) : Prop := plainName K.1.cls = true ∧ K.2.2.2.2 = [] ∧ Cond.code K.1 K.2.1 K.2.2.1 none ∈ gw ∧ Cond.methodLinkNest own ix K.1 "SharedChoices" ∈ xw ∧ Cond.instanceMethod K.1 ∈ gw ∧ Cond.initialized K.1.cls ∈ gw ∧ (K.1.cls ≠ "java/lang/invoke/MethodHandle" ∧ K.1.cls ≠ "java/lang/invoke/VarHandle" ∧ (parseMethodDescriptor K.1.desc).map (fun d => d.parameters.length) = some n) ∧ K.2.2.1 ≤ 40 ∧ K.1.name = "<init>" ∧ K.2.2.2.1 = none
theorem s_invn {ix n o : Nat} (hd : decode M.2.1 pc = .ok (.invokespecial ix, 3)) (hq : pc + 3 = q) (hf : LN M.1.cls ix K n) (hdd : d' < d) (hn : as.length = n) (hlen : (lg_sl (.ref o :: as)).length ≤ K.2.2.1) (hst : st = as.reverse ++ .ref o :: rest) (hcat : (rest.map fun v => v.category).sum ≤ 8) (hM : CM K d' (.ref o :: as) h v h1) (h0 : k = true → h1.1 0 = h.1 0) : J k M d pc ls st h q ls (v.toList ++ rest) h1 := by
  subst hq
  subst hst
  obtain ⟨pcK, lsK, stK, hrK, hjK⟩ := id hM
  refine ⟨hjK.1, fun p l e R s m args below meth c Q D cI cJ A cb sb g r ad H locs lsA P kk => ?_⟩
  obtain ⟨f1, f2, f3, f4, f5, f7, f8, f9, f10, f11⟩ := hf
  obtain ⟨X, gr, gK, gA, gl, gZ⟩ := id g
  have hos := P.2.2.2.1
  have hor := oks_t (oks_r hos)
  have hoo := oks_h (oks_r hos)
  have hoa : oks h.2.1 as := fun w hw => oks_l hos w (List.mem_reverse.mpr hw)
  have hM := met_of f1 f2 (by rw [f11]; exact f3) hlen hM P.1.2.2.2 (oks_c hoo hoa) gl D cI cJ ad H.size
  rw [f11] at hM
  have hb := pre_P (as := .ref o :: as) P gK gA gZ
  have cw : va_CN R s args M.1.cls ix K.1 "SharedChoices" K.2.1 K.2.2.1 none (Cond.code K.1 K.2.1 K.2.2.1 none :: gw) (rmm d' (h1.2.2.1 - h.2.2.1) (h1.2.2.2 - h.2.2.2)) (h1.2.2.1 - h.2.2.1) (h1.2.2.2 - h.2.2.2) n ∧ K.1.name = "<init>" ∧ (Cond.instanceMethod K.1).before args s = true :=
    ⟨va_cnB n X.w (gw_c f3 gw_good) rfl rfl rfl (gZ.2.2.2 _ f4) (X.w _ f7) f8 ⟨by show d' + 1 ≤ _; omega, by show 8 + (K.2.2.1 + 11) + 64 * d' ≤ _; omega⟩, f10, X.w _ f5⟩
  have hr := va_runIN (e := e) (meth := meth) (n := n) (b := ad o) (As := as.map (mv ad)) (rest := rest.map (mv ad)) (g := F0 m pc lsA ((as.reverse ++ .ref o :: rest).map (mv ad))) (cells := h.2.2.1 - cb) (slots := h.2.2.2 - sb) (locs := locs) (below := below) (H := H) (Ts := gw) (own := M.1.cls) (index := ix) (nL := M.2.2.1)
    ⟨X.x, X.b, X.2.2.1, X.o, X.w⟩ hM cw
    ⟨Pcc.blind, hb⟩ rfl (by rw [List.length_map]; exact hn) P.2.1.1 (by rw [List.map_append, List.map_reverse]; rfl) (lv_room (by rw [List.map_map]; simpa [Function.comp_def, mv_cat] using hcat)) hd (by have := hjK.1; omega)
  refine run_W (rest := rest) hr (P.with hor) gA hjK.1.1 h0 (fun ad' H' locs' lsA' hx P' => W.cs (by have := hjK.1; omega) (by have := hjK.1; omega) (kk ad' H' locs' lsA' hx P'))
/-- Object's constructor -/
theorem s_obj {ix o : Nat} (hd : decode M.2.1 pc = .ok (.invokespecial ix, 3)) (hq : pc + 3 = q) (hf : Cond.methodLink M.1.cls ix Lib.objectInit ∈ gw) (hg : Cond.instanceMethod Lib.objectInit ∈ gw ∧ Cond.code Lib.objectInit ⟨#[0xb1]⟩ 1 none ∈ gw) (hdd : 0 < d) (hcat : (st.map fun v => v.category).sum ≤ 8) : J k M d pc ls (.ref o :: st) h q ls st h := by
  subst hq
  refine ⟨⟨Nat.le_refl _, Nat.le_refl _, Nat.le_refl _⟩, fun p l e R s m args below meth c Q D cI cJ A cb sb g r ad H locs lsA P K => ?_⟩
  have X := g.1
  have hc : ((st.map (mv ad)).map fun v => v.category).sum ≤ 8 := by rw [List.map_map]; simpa [Function.comp_def, mv_cat] using hcat
  exact W.objInit X.x X.b X.o (X.w _ hf) (X.w _ hg.1) (X.w _ hg.2) rfl (P.2.1.1.trans X.2.2.1.symm) rfl hd (by have := g.2.1; omega) (by have := lv_room (m := m) (pc := pc) (ls := lsA) (rest := st.map (mv ad)) hc; have := g.2.1; show 2 * (F0 m pc lsA (st.map (mv ad))).monitorRoom + _ + 12 ≤ _; omega) (K ad H locs lsA (fun _ _ => rfl) (P.with (oks_t P.2.2.2.1)))
/-- two references -/
theorem wl_inj (P : Pt k M D cI cJ A s ad ls st h H locs lsA) {i j : Nat} (i0 : 0 < i) (j0 : 0 < j) (hi : i ≤ h.2.1) (hj : j ≤ h.2.1) (e : ad i = ad j) : i = j := by
  have h1 := wl_at (cI := cI) (cJ := cJ) (ad := ad) i0 hi rfl
  have h2 := wl_at (cI := cI) (cJ := cJ) (ad := ad) j0 hj rfl
  have := P.1.2.1.1 _ _ _ _ h1 h2 e
  omega
theorem s_acmpeq_t {o : Nat} {off : Int} (hd : decode M.2.1 pc = .ok (.if_acmp .eq off, 3)) (hq : (pc : Int) + off = (q : Int)) : J k M d pc ls (.ref o :: .ref o :: st) h q ls st h :=
  J.pure (fun o => oks_t (oks_t o)) (fun p l e R s m args below meth c Q ad H locs cells slots lsA C hl K => lv_acmp_eq (rx := some (ad o)) (ry := some (ad o)) C.x C.b hd hq (fun _ => K) (fun n => absurd rfl n))
theorem s_acmpeq_f {o o2 : Nat} {off : Int} {tg : Nat} (hd : decode M.2.1 pc = .ok (.if_acmp .eq off, 3)) (ht : (pc : Int) + off = (tg : Int)) (hq : pc + 3 = q) (i0 : 0 < o) (j0 : 0 < o2) (hne : o ≠ o2) : J k M d pc ls (.ref o2 :: .ref o :: st) h q ls st h := by
  subst hq
  refine ⟨⟨Nat.le_refl _, Nat.le_refl _, Nat.le_refl _⟩, fun p l e R s m args below meth c Q D cI cJ A cb sb g r ad H locs lsA P K => ?_⟩
  have X := g.1
  exact lv_acmp_eq (rx := some (ad o)) (ry := some (ad o2)) X.x X.b hd ht (fun n => absurd (wl_inj P i0 j0 (oks_h (oks_t P.2.2.2.1)) (oks_h P.2.2.2.1) (Option.some.inj n)) hne) (fun _ => K ad H locs lsA (fun _ _ => rfl) (P.with (oks_t (oks_t P.2.2.2.1))))
end CALLS
end
section
abbrev mX7_init : MD := (yX7_init, (cX7_init, (2, (none, []))))
abbrev mX2_init : MD := (yX2_init, (cX2_init, (1, (none, []))))
abbrev mX3_init : MD := (yX3_init, (cX3_init, (2, (none, []))))
abbrev mX1_init : MD := (yX1_init, (cX1_init, (1, (none, []))))
abbrev mX4_init : MD := (yX4_init, (cX4_init, (2, (none, []))))
abbrev mX0_init : MD := (yX0_init, (cX0_init, (1, (none, []))))
abbrev mX6_init : MD := (yX6_init, (cX6_init, (2, (none, []))))
abbrev mX5_init : MD := (yX5_init, (cX5_init, (2, (none, []))))
abbrev mX5_nest : MD := (yX5_nest, (cX5_nest, (4, (none, []))))
abbrev mX8_init : MD := (yX8_init, (cX8_init, (1, (none, []))))
abbrev mX7_number : MD := (yX7_number, (cX7_number, (3, ((some .int), []))))
abbrev mX2_addNumber : MD := (yX2_addNumber, (cX2_addNumber, (4, ((some .int), []))))
abbrev mX2_add : MD := (yX2_add, (cX2_add, (6, ((some .int), []))))
abbrev mX8_number : MD := (yX8_number, (cX8_number, (3, ((some .int), []))))
abbrev mX8_make : MD := (yX8_make, (cX8_make, (7, ((some .int), []))))
abbrev mL_choice : MD := (yL_choice, (cL_choice, (5, ((some .int), [(0, 10, 13, 13)]))))
abbrev mX7_choice : MD := (yX7_choice, (cX7_choice, (3, ((some .int), []))))
abbrev mX2_has : MD := (yX2_has, (cX2_has, (2, ((some .boolean), []))))
abbrev mX7_demand : MD := (yX7_demand, (cX7_demand, (1, (none, []))))
abbrev mX8_choice : MD := (yX8_choice, (cX8_choice, (3, ((some .int), []))))
abbrev mX8_isNode : MD := (yX8_isNode, (cX8_isNode, (2, ((some .boolean), []))))
abbrev mX8_refused : MD := (yX8_refused, (cX8_refused, (2, ((some .boolean), []))))
abbrev mX8_thrown : MD := (yX8_thrown, (cX8_thrown, (1, ((some .int), []))))
abbrev mX7_fail : MD := (yX7_fail, (cX7_fail, (1, ((some .int), []))))
abbrev mX8_fail : MD := (yX8_fail, (cX8_fail, (1, ((some .int), []))))
abbrev mL_pair : MD := (yL_pair, (cL_pair, (5, ((some .int), [(0, 10, 13, 13)]))))
abbrev mX7_pair : MD := (yX7_pair, (cX7_pair, (3, ((some .int), []))))
abbrev mX8_pair : MD := (yX8_pair, (cX8_pair, (3, ((some .int), []))))
abbrev mL_part : MD := (yL_part, (cL_part, (5, ((some .int), [(0, 10, 13, 13)]))))
abbrev mX7_part : MD := (yX7_part, (cX7_part, (3, ((some .int), []))))
abbrev mX8_part : MD := (yX8_part, (cX8_part, (3, ((some .int), []))))
abbrev mL_op : MD := (yL_op, (cL_op, (6, ((some .int), [(0, 12, 15, 13)]))))
abbrev mX7_op : MD := (yX7_op, (cX7_op, (4, ((some .int), []))))
abbrev mX8_op : MD := (yX8_op, (cX8_op, (4, ((some .int), []))))
abbrev mL_when : MD := (yL_when, (cL_when, (6, ((some .int), [(0, 12, 15, 13)]))))
abbrev mX7_when : MD := (yX7_when, (cX7_when, (4, ((some .int), []))))
abbrev mX8_when : MD := (yX8_when, (cX8_when, (4, ((some .int), []))))
abbrev mL_set : MD := (yL_set, (cL_set, (5, ((some .int), [(0, 10, 13, 13)]))))
abbrev mX7_set : MD := (yX7_set, (cX7_set, (3, ((some .int), []))))
abbrev mX2_size : MD := (yX2_size, (cX2_size, (1, ((some .int), []))))
abbrev mX8_set : MD := (yX8_set, (cX8_set, (3, ((some .int), []))))
abbrev mL_fold : MD := (yL_fold, (cL_fold, (5, ((some .int), [(0, 10, 13, 13)]))))
abbrev mX7_fold : MD := (yX7_fold, (cX7_fold, (3, ((some .int), []))))
abbrev mX8_fold : MD := (yX8_fold, (cX8_fold, (3, ((some .int), []))))
abbrev mX7_clear : MD := (yX7_clear, (cX7_clear, (2, ((some .int), []))))
abbrev mX2_forget : MD := (yX2_forget, (cX2_forget, (1, (none, []))))
abbrev mX3_forget : MD := (yX3_forget, (cX3_forget, (1, (none, []))))
abbrev mX0_forget : MD := (yX0_forget, (cX0_forget, (1, (none, []))))
abbrev mX1_forget : MD := (yX1_forget, (cX1_forget, (1, (none, []))))
abbrev mX4_cutTo : MD := (yX4_cutTo, (cX4_cutTo, (2, (none, []))))
abbrev mX8_clear : MD := (yX8_clear, (cX8_clear, (2, ((some .int), []))))
abbrev mX8_forget : MD := (yX8_forget, (cX8_forget, (1, (none, []))))
abbrev mL_node : MD := (yL_node, (cL_node, (5, ((some .int), [(0, 10, 13, 38)]))))
abbrev mX7_node : MD := (yX7_node, (cX7_node, (3, ((some .int), []))))
abbrev mX2_sortOf : MD := (yX2_sortOf, (cX2_sortOf, (2, ((some .int), []))))
abbrev mX2_firstOf : MD := (yX2_firstOf, (cX2_firstOf, (2, ((some .int), []))))
abbrev mX2_secondOf : MD := (yX2_secondOf, (cX2_secondOf, (2, ((some .int), []))))
abbrev mX2_thirdOf : MD := (yX2_thirdOf, (cX2_thirdOf, (2, ((some .int), []))))
abbrev mX8_node : MD := (yX8_node, (cX8_node, (3, ((some .int), []))))
abbrev mL_ask : MD := (yL_ask, (cL_ask, (5, ((some .int), [(0, 7, 10, 13)]))))
abbrev mX7_ask : MD := (yX7_ask, (cX7_ask, (4, (none, []))))
abbrev mX3_begin : MD := (yX3_begin, (cX3_begin, (4, (none, []))))
abbrev mX0_put : MD := (yX0_put, (cX0_put, (4, (none, []))))
abbrev mX8_ask : MD := (yX8_ask, (cX8_ask, (4, (none, []))))
abbrev mL_next : MD := (yL_next, (cL_next, (3, ((some .int), [(0, 8, 11, 48)]))))
abbrev mX7_next : MD := (yX7_next, (cX7_next, (1, ((some .int), []))))
abbrev mX3_isThere : MD := (yX3_isThere, (cX3_isThere, (1, ((some .boolean), []))))
abbrev mX3_goOn : MD := (yX3_goOn, (cX3_goOn, (2, ((some .int), []))))
abbrev mX0_isEmpty : MD := (yX0_isEmpty, (cX0_isEmpty, (1, ((some .boolean), []))))
abbrev mX3_openNextWindow : MD := (yX3_openNextWindow, (cX3_openNextWindow, (1, (none, []))))
abbrev mX0_takeAllOf : MD := (yX0_takeAllOf, (cX0_takeAllOf, (3, (none, []))))
abbrev mX0_lastAlternatives : MD := (yX0_lastAlternatives, (cX0_lastAlternatives, (1, ((some .long), []))))
abbrev mX0_lastLength : MD := (yX0_lastLength, (cX0_lastLength, (1, ((some .int), []))))
abbrev mX0_dropLast : MD := (yX0_dropLast, (cX0_dropLast, (1, (none, []))))
abbrev mX3_comesToValue : MD := (yX3_comesToValue, (cX3_comesToValue, (7, ((some .boolean), []))))
abbrev m_Math_min : MD := (Lib.Math.min.name, (Lib.Math.min.code, (2, ((some .int), []))))
abbrev mX3_mostDecisions : MD := (yX3_mostDecisions, (cX3_mostDecisions, (1, ((some .int), []))))
abbrev mX6_goWay : MD := (yX6_goWay, (cX6_goWay, (5, ((some .int), []))))
abbrev mX5_beginOfSearch : MD := (yX5_beginOfSearch, (cX5_beginOfSearch, (4, (none, []))))
abbrev mX5_begin : MD := (yX5_begin, (cX5_begin, (1, (none, []))))
abbrev mX4_size : MD := (yX4_size, (cX4_size, (1, ((some .int), []))))
abbrev mJ7_fill_53178 : MD := (yJ7_fill_53178, (cJ7_fill_53178, (4, (none, []))))
abbrev mX6_tellInFull : MD := (yX6_tellInFull, (cX6_tellInFull, (5, ((some .int), []))))
abbrev mX5_tell : MD := (yX5_tell, (cX5_tell, (4, ((some .boolean), []))))
abbrev mX4_add : MD := (yX4_add, (cX4_add, (4, ((some .boolean), []))))
abbrev mX4_makeRoom : MD := (yX4_makeRoom, (cX4_makeRoom, (4, ((some .boolean), []))))
abbrev m_Math_max : MD := (Lib.Math.max.name, (Lib.Math.max.code, (2, ((some .int), []))))
abbrev mJ7_copyOf_59c91 : MD := (yJ7_copyOf_59c91, (cJ7_copyOf_59c91, (3, ((some (.array .int)), []))))
abbrev mJ7_copyOf_c38d5 : MD := (yJ7_copyOf_c38d5, (cJ7_copyOf_c38d5, (3, ((some (.array .long)), []))))
abbrev mX5_tellAll : MD := (yX5_tellAll, (cX5_tellAll, (4, ((some .boolean), []))))
abbrev mX4_addFrom : MD := (yX4_addFrom, (cX4_addFrom, (4, ((some .boolean), []))))
abbrev mX6_goWaysOfSet : MD := (yX6_goWaysOfSet, (cX6_goWaysOfSet, (6, ((some .int), []))))
abbrev mX5_beginOfSet : MD := (yX5_beginOfSet, (cX5_beginOfSet, (2, (none, []))))
abbrev mX5_tokens : MD := (yX5_tokens, (cX5_tokens, (1, ((some (.object "SharedChoices$Tokens")), []))))
abbrev mX5_listValue : MD := (yX5_listValue, (cX5_listValue, (1, (none, []))))
abbrev mX4_putNumber : MD := (yX4_putNumber, (cX4_putNumber, (4, (none, []))))
abbrev mX4_has : MD := (yX4_has, (cX4_has, (2, ((some .boolean), []))))
abbrev mX5_dropValue : MD := (yX5_dropValue, (cX5_dropValue, (1, (none, []))))
abbrev mX5_turn : MD := (yX5_turn, (cX5_turn, (4, ((some .boolean), []))))
abbrev mX6_valueOf : MD := (yX6_valueOf, (cX6_valueOf, (4, ((some .int), []))))
abbrev mX6_homeOf : MD := (yX6_homeOf, (cX6_homeOf, (3, ((some (.object "SharedChoices$Way")), []))))
abbrev mX5_isInside : MD := (yX5_isInside, (cX5_isInside, (2, ((some .boolean), []))))
abbrev mX5_around : MD := (yX5_around, (cX5_around, (1, ((some (.object "SharedChoices$Way")), []))))
abbrev mX5_hasValue : MD := (yX5_hasValue, (cX5_hasValue, (2, ((some .boolean), []))))
abbrev mX5_kindOf : MD := (yX5_kindOf, (cX5_kindOf, (2, ((some .int), []))))
abbrev mX5_numberOf : MD := (yX5_numberOf, (cX5_numberOf, (2, ((some .long), []))))
abbrev mX5_lengthOf : MD := (yX5_lengthOf, (cX5_lengthOf, (2, ((some .int), []))))
abbrev mX6_take : MD := (yX6_take, (cX6_take, (5, ((some .int), []))))
abbrev mX6_workChoice : MD := (yX6_workChoice, (cX6_workChoice, (3, ((some .int), []))))
abbrev mX5_decide : MD := (yX5_decide, (cX5_decide, (2, ((some .int), []))))
abbrev mX6_workFold : MD := (yX6_workFold, (cX6_workFold, (5, ((some .int), []))))
abbrev mX4_numberAt : MD := (yX4_numberAt, (cX4_numberAt, (2, ((some .long), []))))
abbrev mX6_takeNumber : MD := (yX6_takeNumber, (cX6_takeNumber, (3, ((some .int), []))))
abbrev mX6_foldNumbers : MD := (yX6_foldNumbers, (cX6_foldNumbers, (9, ((some .int), []))))
abbrev m_MathLoose_min_long : MD := (Lib.MathLoose.min_long.x, (Lib.MathLoose.min_long.code, (4, ((some .long), []))))
abbrev mX4_kindAt : MD := (yX4_kindAt, (cX4_kindAt, (2, ((some .int), []))))
abbrev mX6_workOp : MD := (yX6_workOp, (cX6_workOp, (5, ((some .int), []))))
abbrev mX6_reckon : MD := (yX6_reckon, (cX6_reckon, (6, ((some .int), []))))
abbrev mX6_workOut : MD := (yX6_workOut, (cX6_workOut, (3, ((some .int), []))))
abbrev mX2_numberOf : MD := (yX2_numberOf, (cX2_numberOf, (2, ((some .long), []))))
abbrev mX5_keep : MD := (yX5_keep, (cX5_keep, (6, (none, []))))
abbrev mX6_workPart : MD := (yX6_workPart, (cX6_workPart, (5, ((some .int), []))))
abbrev mX6_workSet : MD := (yX6_workSet, (cX6_workSet, (7, ((some .int), []))))
abbrev mX5_inner : MD := (yX5_inner, (cX5_inner, (1, ((some (.object "SharedChoices$Way")), []))))
abbrev mX6_takeList : MD := (yX6_takeList, (cX6_takeList, (4, ((some .int), []))))
abbrev mX6_workWhen : MD := (yX6_workWhen, (cX6_workWhen, (3, ((some .int), []))))
abbrev mX6_decisions : MD := (yX6_decisions, (cX6_decisions, (1, ((some .int), []))))
abbrev mX5_decisions : MD := (yX5_decisions, (cX5_decisions, (1, ((some .int), []))))
abbrev mX3_putOtherAlternatives : MD := (yX3_putOtherAlternatives, (cX3_putOtherAlternatives, (5, (none, []))))
abbrev mX3_endsAsValue : MD := (yX3_endsAsValue, (cX3_endsAsValue, (4, ((some .boolean), []))))
abbrev mX1_keep : MD := (yX1_keep, (cX1_keep, (5, (none, []))))
abbrev mX6_tokens : MD := (yX6_tokens, (cX6_tokens, (1, ((some (.object "SharedChoices$Tokens")), []))))
abbrev mX6_labour : MD := (yX6_labour, (cX6_labour, (1, ((some .int), []))))
abbrev mX3_stopAtDecision : MD := (yX3_stopAtDecision, (cX3_stopAtDecision, (4, (none, []))))
abbrev mX8_next : MD := (yX8_next, (cX8_next, (2, ((some .int), []))))
abbrev mX8_fetch : MD := (yX8_fetch, (cX8_fetch, (3, ((some .int), []))))
abbrev mX8_go : MD := (yX8_go, (cX8_go, (2, (none, []))))
abbrev mX8_beginWay : MD := (yX8_beginWay, (cX8_beginWay, (2, (none, []))))
abbrev mX8_tellFull : MD := (yX8_tellFull, (cX8_tellFull, (6, (none, []))))
abbrev mX8_cellOf : MD := (yX8_cellOf, (cX8_cellOf, (2, ((some .int), []))))
abbrev mX8_levelOf : MD := (yX8_levelOf, (cX8_levelOf, (3, ((some .int), []))))
abbrev mX8_token : MD := (yX8_token, (cX8_token, (5, (none, []))))
abbrev mX8_behind : MD := (yX8_behind, (cX8_behind, (5, ((some .int), []))))
abbrev mX8_choose : MD := (yX8_choose, (cX8_choose, (4, (none, []))))
abbrev mX8_foldUp : MD := (yX8_foldUp, (cX8_foldUp, (10, (none, []))))
abbrev mX8_tell : MD := (yX8_tell, (cX8_tell, (4, (none, []))))
abbrev mX8_goAll : MD := (yX8_goAll, (cX8_goAll, (8, (none, []))))
abbrev mX8_collect : MD := (yX8_collect, (cX8_collect, (2, (none, []))))
abbrev mX8_nextWay : MD := (yX8_nextWay, (cX8_nextWay, (2, ((some .boolean), []))))
abbrev mX8_keep : MD := (yX8_keep, (cX8_keep, (6, (none, []))))
abbrev mX8_lay : MD := (yX8_lay, (cX8_lay, (7, (none, []))))
abbrev mX8_need : MD := (yX8_need, (cX8_need, (3, (none, []))))
abbrev mX8_needAs : MD := (yX8_needAs, (cX8_needAs, (3, (none, []))))
abbrev mX8_reckon : MD := (yX8_reckon, (cX8_reckon, (7, (none, []))))
abbrev mX8_take : MD := (yX8_take, (cX8_take, (4, (none, []))))
abbrev mX8_workOut : MD := (yX8_workOut, (cX8_workOut, (3, (none, []))))
abbrev mX8_decide : MD := (yX8_decide, (cX8_decide, (5, (none, []))))
abbrev mX8_copy : MD := (yX8_copy, (cX8_copy, (6, (none, []))))
abbrev mX8_ends : MD := (yX8_ends, (cX8_ends, (3, ((some .boolean), []))))
abbrev mX7_decision : MD := (yX7_decision, (cX7_decision, (2, ((some .int), []))))
abbrev mX3_latest : MD := (yX3_latest, (cX3_latest, (1, ((some (.object "SharedChoices$Latest")), []))))
abbrev mX1_alternativeAt : MD := (yX1_alternativeAt, (cX1_alternativeAt, (2, ((some .int), []))))
abbrev mX8_decision : MD := (yX8_decision, (cX8_decision, (2, ((some .int), []))))
abbrev mL_token : MD := (yL_token, (cL_token, (5, ((some .int), [(0, 9, 12, 38)]))))
abbrev mX7_token : MD := (yX7_token, (cX7_token, (4, ((some .long), []))))
abbrev mX1_tokens : MD := (yX1_tokens, (cX1_tokens, (1, ((some (.object "SharedChoices$Tokens")), []))))
abbrev mX8_token_ : MD := (yX8_token_, (cX8_token_, (3, ((some .long), []))))
abbrev mX7_count : MD := (yX7_count, (cX7_count, (2, ((some .int), []))))
abbrev mX3_places : MD := (yX3_places, (cX3_places, (1, ((some .int), []))))
abbrev mX3_values : MD := (yX3_values, (cX3_values, (1, ((some .int), []))))
abbrev mX3_failed : MD := (yX3_failed, (cX3_failed, (1, ((some .int), []))))
abbrev mX3_givenUp : MD := (yX3_givenUp, (cX3_givenUp, (1, ((some .int), []))))
abbrev mX3_cut : MD := (yX3_cut, (cX3_cut, (1, ((some .int), []))))
abbrev mX1_labour : MD := (yX1_labour, (cX1_labour, (1, ((some .int), []))))
abbrev mX1_decisions : MD := (yX1_decisions, (cX1_decisions, (1, ((some .int), []))))
abbrev mX8_count : MD := (yX8_count, (cX8_count, (2, ((some .int), []))))
theorem fX7_10 : FP RX7 10 7 0 true (.object "SharedChoices$Nodes") := ⟨RX7, TX7, 2, tyX7, rfl, (fun w h => gm gi_wsX70 h), by decide, gm gi_wsL_law0_r1 (List.mem_of_getElem? (i := 17) rfl), tyX7_ok, nmX7, rfl, tyX7_ok 0 (by decide), rfl⟩
theorem fX7_21 : FP RX7 21 7 1 true (.object "SharedChoices$Search") := ⟨RX7, TX7, 2, tyX7, rfl, (fun w h => gm gi_wsX70 h), by decide, gm gi_wsL_law0_r1 (List.mem_of_getElem? (i := 21) rfl), tyX7_ok, nmX7, rfl, tyX7_ok 1 (by decide), rfl⟩
theorem fX2_9 : FP RX2 9 2 0 true (.array .int) := ⟨RX2, TX2, 6, tyX2, rfl, (fun w h => gm gi_wsX20 h), by decide, gm gi_wsL_law0_r2 (List.mem_of_getElem? (i := 2) rfl), tyX2_ok, nmX2, rfl, tyX2_ok 0 (by decide), rfl⟩
theorem fX2_15 : FP RX2 15 2 1 true (.array .int) := ⟨RX2, TX2, 6, tyX2, rfl, (fun w h => gm gi_wsX20 h), by decide, gm gi_wsL_law0_r2 (List.mem_of_getElem? (i := 3) rfl), tyX2_ok, nmX2, rfl, tyX2_ok 1 (by decide), rfl⟩
theorem fX2_18 : FP RX2 18 2 2 true (.array .int) := ⟨RX2, TX2, 6, tyX2, rfl, (fun w h => gm gi_wsX20 h), by decide, gm gi_wsL_law0_r2 (List.mem_of_getElem? (i := 4) rfl), tyX2_ok, nmX2, rfl, tyX2_ok 2 (by decide), rfl⟩
theorem fX2_21 : FP RX2 21 2 3 true (.array .int) := ⟨RX2, TX2, 6, tyX2, rfl, (fun w h => gm gi_wsX20 h), by decide, gm gi_wsL_law0_r2 (List.mem_of_getElem? (i := 5) rfl), tyX2_ok, nmX2, rfl, tyX2_ok 3 (by decide), rfl⟩
theorem fX2_24 : FP RX2 24 2 4 true (.array .long) := ⟨RX2, TX2, 6, tyX2, rfl, (fun w h => gm gi_wsX20 h), by decide, gm gi_wsL_law0_r2 (List.mem_of_getElem? (i := 6) rfl), tyX2_ok, nmX2, rfl, tyX2_ok 4 (by decide), rfl⟩
theorem fX3_12 : FP RX3 12 3 1 true (.object "SharedChoices$Latest") := ⟨RX3, TX3, 15, tyX3, rfl, (fun w h => gm gi_wsX30 h), by decide, gm gi_wsL_law0_r2 (List.mem_of_getElem? (i := 14) rfl), tyX3_ok, nmX3, rfl, tyX3_ok 1 (by decide), rfl⟩
theorem fX3_21 : FP RX3 21 3 2 true (.object "SharedChoices$Beginnings") := ⟨RX3, TX3, 15, tyX3, rfl, (fun w h => gm gi_wsX30 h), by decide, gm gi_wsL_law0_r2 (List.mem_of_getElem? (i := 18) rfl), tyX3_ok, nmX3, rfl, tyX3_ok 2 (by decide), rfl⟩
theorem fX3_25 : FP RX3 25 3 3 true (.object "SharedChoices$Beginnings") := ⟨RX3, TX3, 15, tyX3, rfl, (fun w h => gm gi_wsX30 h), by decide, gm gi_wsL_law0_r2 (List.mem_of_getElem? (i := 19) rfl), tyX3_ok, nmX3, rfl, tyX3_ok 3 (by decide), rfl⟩
theorem fX3_28 : FP RX3 28 3 8 false (.int) := ⟨RX3, TX3, 15, tyX3, rfl, (fun w h => gm gi_wsX30 h), by decide, gm gi_wsL_law0_r2 (List.mem_of_getElem? (i := 20) rfl), tyX3_ok, nmX3, rfl, tyX3_ok 8 (by decide), rfl⟩
theorem fX3_37 : FP RX3 37 3 0 true (.object "SharedChoices$Work") := ⟨RX3, TX3, 15, tyX3, rfl, (fun w h => gm gi_wsX30 h), by decide, gm gi_wsL_law0_r3 (List.mem_of_getElem? (i := 0) rfl), tyX3_ok, nmX3, rfl, tyX3_ok 0 (by decide), rfl⟩
theorem fX1_14 : FP RX1 14 1 0 true (.object "SharedChoices$Tokens") := ⟨RX1, TX1, 4, tyX1, rfl, (fun w h => gm gi_wsX10 h), by decide, gm gi_wsL_law0_r3 (List.mem_of_getElem? (i := 7) rfl), tyX1_ok, nmX1, rfl, tyX1_ok 0 (by decide), rfl⟩
theorem fX4_11 : FP RX4 11 4 1 false (.array .int) := ⟨RX4, TX4, 4, tyX4, rfl, (fun w h => gm gi_wsX40 h), by decide, gm gi_wsL_law0_r3 (List.mem_of_getElem? (i := 12) rfl), tyX4_ok, nmX4, rfl, tyX4_ok 1 (by decide), rfl⟩
theorem fX4_15 : FP RX4 15 4 2 false (.array .long) := ⟨RX4, TX4, 4, tyX4, rfl, (fun w h => gm gi_wsX40 h), by decide, gm gi_wsL_law0_r3 (List.mem_of_getElem? (i := 13) rfl), tyX4_ok, nmX4, rfl, tyX4_ok 2 (by decide), rfl⟩
theorem fX4_19 : FP RX4 19 4 0 true (.int) := ⟨RX4, TX4, 4, tyX4, rfl, (fun w h => gm gi_wsX40 h), by decide, gm gi_wsL_law0_r3 (List.mem_of_getElem? (i := 14) rfl), tyX4_ok, nmX4, rfl, tyX4_ok 0 (by decide), rfl⟩
theorem fX0_9 : FP RX0 9 0 0 true (.array .long) := ⟨RX0, TX0, 3, tyX0, rfl, (fun w h => gm gi_wsX00 h), by decide, gm gi_wsL_law0_r3 (List.mem_of_getElem? (i := 18) rfl), tyX0_ok, nmX0, rfl, tyX0_ok 0 (by decide), rfl⟩
theorem fX0_15 : FP RX0 15 0 1 true (.array .int) := ⟨RX0, TX0, 3, tyX0, rfl, (fun w h => gm gi_wsX00 h), by decide, gm gi_wsL_law0_r3 (List.mem_of_getElem? (i := 19) rfl), tyX0_ok, nmX0, rfl, tyX0_ok 1 (by decide), rfl⟩
theorem fX6_14 : FP RX6 14 6 1 true (.object "SharedChoices$Way") := ⟨RX6, TX6, 10, tyX6, rfl, (fun w h => gm gi_wsX60 h), by decide, gm gi_wsL_law0_r4 (List.mem_of_getElem? (i := 3) rfl), tyX6_ok, nmX6, rfl, tyX6_ok 1 (by decide), rfl⟩
theorem fX6_20 : FP RX6 20 6 2 false (.object "SharedChoices$Way") := ⟨RX6, TX6, 10, tyX6, rfl, (fun w h => gm gi_wsX60 h), by decide, gm gi_wsL_law0_r4 (List.mem_of_getElem? (i := 4) rfl), tyX6_ok, nmX6, rfl, tyX6_ok 2 (by decide), rfl⟩
theorem fX6_29 : FP RX6 29 6 4 true (.object "SharedChoices$Tokens") := ⟨RX6, TX6, 10, tyX6, rfl, (fun w h => gm gi_wsX60 h), by decide, gm gi_wsL_law0_r4 (List.mem_of_getElem? (i := 7) rfl), tyX6_ok, nmX6, rfl, tyX6_ok 4 (by decide), rfl⟩
theorem fX6_33 : FP RX6 33 6 9 false (.object "SharedChoices$Way") := ⟨RX6, TX6, 10, tyX6, rfl, (fun w h => gm gi_wsX60 h), by decide, gm gi_wsL_law0_r4 (List.mem_of_getElem? (i := 8) rfl), tyX6_ok, nmX6, rfl, tyX6_ok 9 (by decide), rfl⟩
theorem fX6_36 : FP RX6 36 6 0 true (.object "SharedChoices$Nodes") := ⟨RX6, TX6, 10, tyX6, rfl, (fun w h => gm gi_wsX60 h), by decide, gm gi_wsL_law0_r4 (List.mem_of_getElem? (i := 9) rfl), tyX6_ok, nmX6, rfl, tyX6_ok 0 (by decide), rfl⟩
theorem fX5_9 : FP RX5 9 5 3 true (.array .int) := ⟨RX5, TX5, 12, tyX5, rfl, (fun w h => gm gi_wsX50 h), by decide, gm gi_wsL_law0_r4 (List.mem_of_getElem? (i := 14) rfl), tyX5_ok, nmX5, rfl, tyX5_ok 3 (by decide), rfl⟩
theorem fX5_15 : FP RX5 15 5 4 true (.array .long) := ⟨RX5, TX5, 12, tyX5, rfl, (fun w h => gm gi_wsX50 h), by decide, gm gi_wsL_law0_r4 (List.mem_of_getElem? (i := 15) rfl), tyX5_ok, nmX5, rfl, tyX5_ok 4 (by decide), rfl⟩
theorem fX5_19 : FP RX5 19 5 5 true (.array .int) := ⟨RX5, TX5, 12, tyX5, rfl, (fun w h => gm gi_wsX50 h), by decide, gm gi_wsL_law0_r4 (List.mem_of_getElem? (i := 16) rfl), tyX5_ok, nmX5, rfl, tyX5_ok 5 (by decide), rfl⟩
theorem fX5_27 : FP RX5 27 5 9 true (.object "SharedChoices$Tokens") := ⟨RX5, TX5, 12, tyX5, rfl, (fun w h => gm gi_wsX50 h), by decide, gm gi_wsL_law0_r4 (List.mem_of_getElem? (i := 18) rfl), tyX5_ok, nmX5, rfl, tyX5_ok 9 (by decide), rfl⟩
theorem fX5_31 : FP RX5 31 5 0 true (.object "SharedChoices$Way") := ⟨RX5, TX5, 12, tyX5, rfl, (fun w h => gm gi_wsX50 h), by decide, gm gi_wsL_law0_r4 (List.mem_of_getElem? (i := 19) rfl), tyX5_ok, nmX5, rfl, tyX5_ok 0 (by decide), rfl⟩
theorem fX5_35 : FP RX5 35 5 1 false (.object "SharedChoices$Way") := ⟨RX5, TX5, 12, tyX5, rfl, (fun w h => gm gi_wsX50 h), by decide, gm gi_wsL_law0_r5 (List.mem_of_getElem? (i := 3) rfl), tyX5_ok, nmX5, rfl, tyX5_ok 1 (by decide), rfl⟩
theorem fX8_9 : FP RX8 9 8 2 true (.array .int) := ⟨RX8, TX8, 53, tyX8, rfl, (fun w h => gm gi_wsX80 h), by decide, gm gi_wsL_law0_r5 (List.mem_of_getElem? (i := 9) rfl), tyX8_ok, nmX8, rfl, tyX8_ok 2 (by decide), rfl⟩
theorem fX8_13 : FP RX8 13 8 3 true (.array .long) := ⟨RX8, TX8, 53, tyX8, rfl, (fun w h => gm gi_wsX80 h), by decide, gm gi_wsL_law0_r5 (List.mem_of_getElem? (i := 10) rfl), tyX8_ok, nmX8, rfl, tyX8_ok 3 (by decide), rfl⟩
theorem fX8_17 : FP RX8 17 8 4 true (.array .int) := ⟨RX8, TX8, 53, tyX8, rfl, (fun w h => gm gi_wsX80 h), by decide, gm gi_wsL_law0_r5 (List.mem_of_getElem? (i := 11) rfl), tyX8_ok, nmX8, rfl, tyX8_ok 4 (by decide), rfl⟩
theorem fX8_20 : FP RX8 20 8 5 true (.array .int) := ⟨RX8, TX8, 53, tyX8, rfl, (fun w h => gm gi_wsX80 h), by decide, gm gi_wsL_law0_r5 (List.mem_of_getElem? (i := 12) rfl), tyX8_ok, nmX8, rfl, tyX8_ok 5 (by decide), rfl⟩
theorem fX8_23 : FP RX8 23 8 6 true (.array .int) := ⟨RX8, TX8, 53, tyX8, rfl, (fun w h => gm gi_wsX80 h), by decide, gm gi_wsL_law0_r5 (List.mem_of_getElem? (i := 13) rfl), tyX8_ok, nmX8, rfl, tyX8_ok 6 (by decide), rfl⟩
theorem fX8_26 : FP RX8 26 8 8 true (.array .int) := ⟨RX8, TX8, 53, tyX8, rfl, (fun w h => gm gi_wsX80 h), by decide, gm gi_wsL_law0_r5 (List.mem_of_getElem? (i := 14) rfl), tyX8_ok, nmX8, rfl, tyX8_ok 8 (by decide), rfl⟩
theorem fX8_29 : FP RX8 29 8 9 true (.array .int) := ⟨RX8, TX8, 53, tyX8, rfl, (fun w h => gm gi_wsX80 h), by decide, gm gi_wsL_law0_r5 (List.mem_of_getElem? (i := 15) rfl), tyX8_ok, nmX8, rfl, tyX8_ok 9 (by decide), rfl⟩
theorem fX8_32 : FP RX8 32 8 10 true (.array .long) := ⟨RX8, TX8, 53, tyX8, rfl, (fun w h => gm gi_wsX80 h), by decide, gm gi_wsL_law0_r5 (List.mem_of_getElem? (i := 16) rfl), tyX8_ok, nmX8, rfl, tyX8_ok 10 (by decide), rfl⟩
theorem fX8_35 : FP RX8 35 8 11 true (.array .int) := ⟨RX8, TX8, 53, tyX8, rfl, (fun w h => gm gi_wsX80 h), by decide, gm gi_wsL_law0_r5 (List.mem_of_getElem? (i := 17) rfl), tyX8_ok, nmX8, rfl, tyX8_ok 11 (by decide), rfl⟩
theorem fX8_38 : FP RX8 38 8 12 true (.array .int) := ⟨RX8, TX8, 53, tyX8, rfl, (fun w h => gm gi_wsX80 h), by decide, gm gi_wsL_law0_r5 (List.mem_of_getElem? (i := 18) rfl), tyX8_ok, nmX8, rfl, tyX8_ok 12 (by decide), rfl⟩
theorem fX8_41 : FP RX8 41 8 13 false (.array .int) := ⟨RX8, TX8, 53, tyX8, rfl, (fun w h => gm gi_wsX80 h), by decide, gm gi_wsL_law0_r5 (List.mem_of_getElem? (i := 19) rfl), tyX8_ok, nmX8, rfl, tyX8_ok 13 (by decide), rfl⟩
theorem fX8_44 : FP RX8 44 8 14 false (.array .long) := ⟨RX8, TX8, 53, tyX8, rfl, (fun w h => gm gi_wsX80 h), by decide, gm gi_wsL_law0_r5 (List.mem_of_getElem? (i := 20) rfl), tyX8_ok, nmX8, rfl, tyX8_ok 14 (by decide), rfl⟩
theorem fX8_47 : FP RX8 47 8 16 true (.array .int) := ⟨RX8, TX8, 53, tyX8, rfl, (fun w h => gm gi_wsX80 h), by decide, gm gi_wsL_law0_r5 (List.mem_of_getElem? (i := 21) rfl), tyX8_ok, nmX8, rfl, tyX8_ok 16 (by decide), rfl⟩
theorem fX8_50 : FP RX8 50 8 17 true (.array .int) := ⟨RX8, TX8, 53, tyX8, rfl, (fun w h => gm gi_wsX80 h), by decide, gm gi_wsL_law0_r5 (List.mem_of_getElem? (i := 22) rfl), tyX8_ok, nmX8, rfl, tyX8_ok 17 (by decide), rfl⟩
theorem fX8_53 : FP RX8 53 8 18 true (.array .int) := ⟨RX8, TX8, 53, tyX8, rfl, (fun w h => gm gi_wsX80 h), by decide, gm gi_wsL_law0_r5 (List.mem_of_getElem? (i := 23) rfl), tyX8_ok, nmX8, rfl, tyX8_ok 18 (by decide), rfl⟩
theorem fX8_56 : FP RX8 56 8 19 true (.array .int) := ⟨RX8, TX8, 53, tyX8, rfl, (fun w h => gm gi_wsX80 h), by decide, gm gi_wsL_law0_r6 (List.mem_of_getElem? (i := 0) rfl), tyX8_ok, nmX8, rfl, tyX8_ok 19 (by decide), rfl⟩
theorem fX8_59 : FP RX8 59 8 20 true (.array .long) := ⟨RX8, TX8, 53, tyX8, rfl, (fun w h => gm gi_wsX80 h), by decide, gm gi_wsL_law0_r6 (List.mem_of_getElem? (i := 1) rfl), tyX8_ok, nmX8, rfl, tyX8_ok 20 (by decide), rfl⟩
theorem fX8_62 : FP RX8 62 8 21 true (.array .int) := ⟨RX8, TX8, 53, tyX8, rfl, (fun w h => gm gi_wsX80 h), by decide, gm gi_wsL_law0_r6 (List.mem_of_getElem? (i := 2) rfl), tyX8_ok, nmX8, rfl, tyX8_ok 21 (by decide), rfl⟩
theorem fX8_65 : FP RX8 65 8 22 true (.array .int) := ⟨RX8, TX8, 53, tyX8, rfl, (fun w h => gm gi_wsX80 h), by decide, gm gi_wsL_law0_r6 (List.mem_of_getElem? (i := 3) rfl), tyX8_ok, nmX8, rfl, tyX8_ok 22 (by decide), rfl⟩
theorem fX8_68 : FP RX8 68 8 23 true (.array .long) := ⟨RX8, TX8, 53, tyX8, rfl, (fun w h => gm gi_wsX80 h), by decide, gm gi_wsL_law0_r6 (List.mem_of_getElem? (i := 4) rfl), tyX8_ok, nmX8, rfl, tyX8_ok 23 (by decide), rfl⟩
theorem fX8_71 : FP RX8 71 8 24 true (.array .int) := ⟨RX8, TX8, 53, tyX8, rfl, (fun w h => gm gi_wsX80 h), by decide, gm gi_wsL_law0_r6 (List.mem_of_getElem? (i := 5) rfl), tyX8_ok, nmX8, rfl, tyX8_ok 24 (by decide), rfl⟩
theorem fX8_75 : FP RX8 75 8 35 true (.array .int) := ⟨RX8, TX8, 53, tyX8, rfl, (fun w h => gm gi_wsX80 h), by decide, gm gi_wsL_law0_r6 (List.mem_of_getElem? (i := 7) rfl), tyX8_ok, nmX8, rfl, tyX8_ok 35 (by decide), rfl⟩
theorem fX8_78 : FP RX8 78 8 36 true (.array .int) := ⟨RX8, TX8, 53, tyX8, rfl, (fun w h => gm gi_wsX80 h), by decide, gm gi_wsL_law0_r6 (List.mem_of_getElem? (i := 8) rfl), tyX8_ok, nmX8, rfl, tyX8_ok 36 (by decide), rfl⟩
theorem fX8_82 : FP RX8 82 8 38 true (.array .int) := ⟨RX8, TX8, 53, tyX8, rfl, (fun w h => gm gi_wsX80 h), by decide, gm gi_wsL_law0_r6 (List.mem_of_getElem? (i := 10) rfl), tyX8_ok, nmX8, rfl, tyX8_ok 38 (by decide), rfl⟩
theorem fX8_85 : FP RX8 85 8 39 true (.array .int) := ⟨RX8, TX8, 53, tyX8, rfl, (fun w h => gm gi_wsX80 h), by decide, gm gi_wsL_law0_r6 (List.mem_of_getElem? (i := 11) rfl), tyX8_ok, nmX8, rfl, tyX8_ok 39 (by decide), rfl⟩
theorem fX8_88 : FP RX8 88 8 49 true (.array .int) := ⟨RX8, TX8, 53, tyX8, rfl, (fun w h => gm gi_wsX80 h), by decide, gm gi_wsL_law0_r6 (List.mem_of_getElem? (i := 12) rfl), tyX8_ok, nmX8, rfl, tyX8_ok 49 (by decide), rfl⟩
theorem fX8_91 : FP RX8 91 8 51 true (.array .int) := ⟨RX8, TX8, 53, tyX8, rfl, (fun w h => gm gi_wsX80 h), by decide, gm gi_wsL_law0_r6 (List.mem_of_getElem? (i := 13) rfl), tyX8_ok, nmX8, rfl, tyX8_ok 51 (by decide), rfl⟩
theorem fX8_94 : FP RX8 94 8 52 true (.array .long) := ⟨RX8, TX8, 53, tyX8, rfl, (fun w h => gm gi_wsX80 h), by decide, gm gi_wsL_law0_r6 (List.mem_of_getElem? (i := 14) rfl), tyX8_ok, nmX8, rfl, tyX8_ok 52 (by decide), rfl⟩
theorem fX2_28 : FP RX2 28 2 5 false (.int) := ⟨RX2, TX2, 6, tyX2, rfl, (fun w h => gm gi_wsX20 h), by decide, gm gi_wsL_law0_r7 (List.mem_of_getElem? (i := 3) rfl), tyX2_ok, nmX2, rfl, tyX2_ok 5 (by decide), rfl⟩
theorem fX8_97 : FP RX8 97 8 0 false (.int) := ⟨RX8, TX8, 53, tyX8, rfl, (fun w h => gm gi_wsX80 h), by decide, gm gi_wsL_law0_r7 (List.mem_of_getElem? (i := 8) rfl), tyX8_ok, nmX8, rfl, tyX8_ok 0 (by decide), rfl⟩
theorem fX8_101 : FP RX8 101 8 1 false (.int) := ⟨RX8, TX8, 53, tyX8, rfl, (fun w h => gm gi_wsX80 h), by decide, gm gi_wsL_law0_r7 (List.mem_of_getElem? (i := 13) rfl), tyX8_ok, nmX8, rfl, tyX8_ok 1 (by decide), rfl⟩
theorem fX3_41 : FP RX3 41 3 4 false (.boolean) := ⟨RX3, TX3, 15, tyX3, rfl, (fun w h => gm gi_wsX30 h), by decide, gm gi_wsL_law0_r12 (List.mem_of_getElem? (i := 19) rfl), tyX3_ok, nmX3, rfl, tyX3_ok 4 (by decide), rfl⟩
theorem fX3_60 : FP RX3 60 3 5 false (.boolean) := ⟨RX3, TX3, 15, tyX3, rfl, (fun w h => gm gi_wsX30 h), by decide, gm gi_wsL_law0_r12 (List.mem_of_getElem? (i := 20) rfl), tyX3_ok, nmX3, rfl, tyX3_ok 5 (by decide), rfl⟩
theorem fX3_45 : FP RX3 45 3 10 false (.int) := ⟨RX3, TX3, 15, tyX3, rfl, (fun w h => gm gi_wsX30 h), by decide, gm gi_wsL_law0_r12 (List.mem_of_getElem? (i := 21) rfl), tyX3_ok, nmX3, rfl, tyX3_ok 10 (by decide), rfl⟩
theorem fX3_48 : FP RX3 48 3 11 false (.int) := ⟨RX3, TX3, 15, tyX3, rfl, (fun w h => gm gi_wsX30 h), by decide, gm gi_wsL_law0_r12 (List.mem_of_getElem? (i := 22) rfl), tyX3_ok, nmX3, rfl, tyX3_ok 11 (by decide), rfl⟩
theorem fX3_51 : FP RX3 51 3 12 false (.int) := ⟨RX3, TX3, 15, tyX3, rfl, (fun w h => gm gi_wsX30 h), by decide, gm gi_wsL_law0_r12 (List.mem_of_getElem? (i := 23) rfl), tyX3_ok, nmX3, rfl, tyX3_ok 12 (by decide), rfl⟩
theorem fX3_54 : FP RX3 54 3 13 false (.int) := ⟨RX3, TX3, 15, tyX3, rfl, (fun w h => gm gi_wsX30 h), by decide, gm gi_wsL_law0_r13 (List.mem_of_getElem? (i := 0) rfl), tyX3_ok, nmX3, rfl, tyX3_ok 13 (by decide), rfl⟩
theorem fX3_57 : FP RX3 57 3 14 false (.int) := ⟨RX3, TX3, 15, tyX3, rfl, (fun w h => gm gi_wsX30 h), by decide, gm gi_wsL_law0_r13 (List.mem_of_getElem? (i := 1) rfl), tyX3_ok, nmX3, rfl, tyX3_ok 14 (by decide), rfl⟩
theorem fX0_19 : FP RX0 19 0 2 false (.int) := ⟨RX0, TX0, 3, tyX0, rfl, (fun w h => gm gi_wsX00 h), by decide, gm gi_wsL_law0_r13 (List.mem_of_getElem? (i := 6) rfl), tyX0_ok, nmX0, rfl, tyX0_ok 2 (by decide), rfl⟩
theorem fX1_27 : FP RX1 27 1 1 false (.long) := ⟨RX1, TX1, 4, tyX1, rfl, (fun w h => gm gi_wsX10 h), by decide, gm gi_wsL_law0_r13 (List.mem_of_getElem? (i := 11) rfl), tyX1_ok, nmX1, rfl, tyX1_ok 1 (by decide), rfl⟩
theorem fX1_20 : FP RX1 20 1 2 false (.int) := ⟨RX1, TX1, 4, tyX1, rfl, (fun w h => gm gi_wsX10 h), by decide, gm gi_wsL_law0_r13 (List.mem_of_getElem? (i := 12) rfl), tyX1_ok, nmX1, rfl, tyX1_ok 2 (by decide), rfl⟩
theorem fX1_24 : FP RX1 24 1 3 false (.int) := ⟨RX1, TX1, 4, tyX1, rfl, (fun w h => gm gi_wsX10 h), by decide, gm gi_wsL_law0_r13 (List.mem_of_getElem? (i := 13) rfl), tyX1_ok, nmX1, rfl, tyX1_ok 3 (by decide), rfl⟩
theorem fX4_23 : FP RX4 23 4 3 false (.int) := ⟨RX4, TX4, 4, tyX4, rfl, (fun w h => gm gi_wsX40 h), by decide, gm gi_wsL_law0_r13 (List.mem_of_getElem? (i := 18) rfl), tyX4_ok, nmX4, rfl, tyX4_ok 3 (by decide), rfl⟩
theorem fX8_203 : FP RX8 203 8 29 false (.boolean) := ⟨RX8, TX8, 53, tyX8, rfl, (fun w h => gm gi_wsX80 h), by decide, gm gi_wsL_law0_r14 (List.mem_of_getElem? (i := 3) rfl), tyX8_ok, nmX8, rfl, tyX8_ok 29 (by decide), rfl⟩
theorem fX8_207 : FP RX8 207 8 30 false (.boolean) := ⟨RX8, TX8, 53, tyX8, rfl, (fun w h => gm gi_wsX80 h), by decide, gm gi_wsL_law0_r14 (List.mem_of_getElem? (i := 4) rfl), tyX8_ok, nmX8, rfl, tyX8_ok 30 (by decide), rfl⟩
theorem fX8_210 : FP RX8 210 8 34 false (.int) := ⟨RX8, TX8, 53, tyX8, rfl, (fun w h => gm gi_wsX80 h), by decide, gm gi_wsL_law0_r14 (List.mem_of_getElem? (i := 5) rfl), tyX8_ok, nmX8, rfl, tyX8_ok 34 (by decide), rfl⟩
theorem fX8_213 : FP RX8 213 8 37 false (.int) := ⟨RX8, TX8, 53, tyX8, rfl, (fun w h => gm gi_wsX80 h), by decide, gm gi_wsL_law0_r14 (List.mem_of_getElem? (i := 6) rfl), tyX8_ok, nmX8, rfl, tyX8_ok 37 (by decide), rfl⟩
theorem fX8_216 : FP RX8 216 8 40 false (.int) := ⟨RX8, TX8, 53, tyX8, rfl, (fun w h => gm gi_wsX80 h), by decide, gm gi_wsL_law0_r14 (List.mem_of_getElem? (i := 7) rfl), tyX8_ok, nmX8, rfl, tyX8_ok 40 (by decide), rfl⟩
theorem fX8_219 : FP RX8 219 8 41 false (.int) := ⟨RX8, TX8, 53, tyX8, rfl, (fun w h => gm gi_wsX80 h), by decide, gm gi_wsL_law0_r14 (List.mem_of_getElem? (i := 8) rfl), tyX8_ok, nmX8, rfl, tyX8_ok 41 (by decide), rfl⟩
theorem fX8_222 : FP RX8 222 8 42 false (.int) := ⟨RX8, TX8, 53, tyX8, rfl, (fun w h => gm gi_wsX80 h), by decide, gm gi_wsL_law0_r14 (List.mem_of_getElem? (i := 9) rfl), tyX8_ok, nmX8, rfl, tyX8_ok 42 (by decide), rfl⟩
theorem fX8_225 : FP RX8 225 8 43 false (.int) := ⟨RX8, TX8, 53, tyX8, rfl, (fun w h => gm gi_wsX80 h), by decide, gm gi_wsL_law0_r14 (List.mem_of_getElem? (i := 10) rfl), tyX8_ok, nmX8, rfl, tyX8_ok 43 (by decide), rfl⟩
theorem fX8_228 : FP RX8 228 8 44 false (.int) := ⟨RX8, TX8, 53, tyX8, rfl, (fun w h => gm gi_wsX80 h), by decide, gm gi_wsL_law0_r14 (List.mem_of_getElem? (i := 11) rfl), tyX8_ok, nmX8, rfl, tyX8_ok 44 (by decide), rfl⟩
theorem fX8_231 : FP RX8 231 8 45 false (.int) := ⟨RX8, TX8, 53, tyX8, rfl, (fun w h => gm gi_wsX80 h), by decide, gm gi_wsL_law0_r14 (List.mem_of_getElem? (i := 12) rfl), tyX8_ok, nmX8, rfl, tyX8_ok 45 (by decide), rfl⟩
theorem fX8_234 : FP RX8 234 8 46 false (.int) := ⟨RX8, TX8, 53, tyX8, rfl, (fun w h => gm gi_wsX80 h), by decide, gm gi_wsL_law0_r14 (List.mem_of_getElem? (i := 13) rfl), tyX8_ok, nmX8, rfl, tyX8_ok 46 (by decide), rfl⟩
theorem fX8_237 : FP RX8 237 8 47 false (.int) := ⟨RX8, TX8, 53, tyX8, rfl, (fun w h => gm gi_wsX80 h), by decide, gm gi_wsL_law0_r14 (List.mem_of_getElem? (i := 14) rfl), tyX8_ok, nmX8, rfl, tyX8_ok 47 (by decide), rfl⟩
theorem fX8_240 : FP RX8 240 8 48 false (.int) := ⟨RX8, TX8, 53, tyX8, rfl, (fun w h => gm gi_wsX80 h), by decide, gm gi_wsL_law0_r14 (List.mem_of_getElem? (i := 15) rfl), tyX8_ok, nmX8, rfl, tyX8_ok 48 (by decide), rfl⟩
theorem fX8_243 : FP RX8 243 8 50 false (.int) := ⟨RX8, TX8, 53, tyX8, rfl, (fun w h => gm gi_wsX80 h), by decide, gm gi_wsL_law0_r14 (List.mem_of_getElem? (i := 16) rfl), tyX8_ok, nmX8, rfl, tyX8_ok 50 (by decide), rfl⟩
theorem fX3_68 : FP RX3 68 3 6 false (.int) := ⟨RX3, TX3, 15, tyX3, rfl, (fun w h => gm gi_wsX30 h), by decide, gm gi_wsL_law0_r16 (List.mem_of_getElem? (i := 11) rfl), tyX3_ok, nmX3, rfl, tyX3_ok 6 (by decide), rfl⟩
theorem fX3_71 : FP RX3 71 3 7 false (.int) := ⟨RX3, TX3, 15, tyX3, rfl, (fun w h => gm gi_wsX30 h), by decide, gm gi_wsL_law0_r16 (List.mem_of_getElem? (i := 12) rfl), tyX3_ok, nmX3, rfl, tyX3_ok 7 (by decide), rfl⟩
theorem fX3_74 : FP RX3 74 3 9 false (.int) := ⟨RX3, TX3, 15, tyX3, rfl, (fun w h => gm gi_wsX30 h), by decide, gm gi_wsL_law0_r16 (List.mem_of_getElem? (i := 13) rfl), tyX3_ok, nmX3, rfl, tyX3_ok 9 (by decide), rfl⟩
theorem fX8_246 : FP RX8 246 8 31 false (.int) := ⟨RX8, TX8, 53, tyX8, rfl, (fun w h => gm gi_wsX80 h), by decide, gm gi_wsL_law0_r16 (List.mem_of_getElem? (i := 23) rfl), tyX8_ok, nmX8, rfl, tyX8_ok 31 (by decide), rfl⟩
theorem fX8_249 : FP RX8 249 8 32 false (.int) := ⟨RX8, TX8, 53, tyX8, rfl, (fun w h => gm gi_wsX80 h), by decide, gm gi_wsL_law0_r17 (List.mem_of_getElem? (i := 0) rfl), tyX8_ok, nmX8, rfl, tyX8_ok 32 (by decide), rfl⟩
theorem fX8_252 : FP RX8 252 8 33 false (.int) := ⟨RX8, TX8, 53, tyX8, rfl, (fun w h => gm gi_wsX80 h), by decide, gm gi_wsL_law0_r17 (List.mem_of_getElem? (i := 1) rfl), tyX8_ok, nmX8, rfl, tyX8_ok 33 (by decide), rfl⟩
theorem fX6_43 : FP RX6 43 6 3 false (.int) := ⟨RX6, TX6, 10, tyX6, rfl, (fun w h => gm gi_wsX60 h), by decide, gm gi_wsL_law0_r19 (List.mem_of_getElem? (i := 16) rfl), tyX6_ok, nmX6, rfl, tyX6_ok 3 (by decide), rfl⟩
theorem fX5_48 : FP RX5 48 5 2 false (.int) := ⟨RX5, TX5, 12, tyX5, rfl, (fun w h => gm gi_wsX50 h), by decide, gm gi_wsL_law0_r19 (List.mem_of_getElem? (i := 22) rfl), tyX5_ok, nmX5, rfl, tyX5_ok 2 (by decide), rfl⟩
theorem fX5_51 : FP RX5 51 5 6 false (.long) := ⟨RX5, TX5, 12, tyX5, rfl, (fun w h => gm gi_wsX50 h), by decide, gm gi_wsL_law0_r19 (List.mem_of_getElem? (i := 23) rfl), tyX5_ok, nmX5, rfl, tyX5_ok 6 (by decide), rfl⟩
theorem fX5_55 : FP RX5 55 5 8 false (.int) := ⟨RX5, TX5, 12, tyX5, rfl, (fun w h => gm gi_wsX50 h), by decide, gm gi_wsL_law0_r20 (List.mem_of_getElem? (i := 0) rfl), tyX5_ok, nmX5, rfl, tyX5_ok 8 (by decide), rfl⟩
theorem fX5_41 : FP RX5 41 5 7 false (.int) := ⟨RX5, TX5, 12, tyX5, rfl, (fun w h => gm gi_wsX50 h), by decide, gm gi_wsL_law0_r20 (List.mem_of_getElem? (i := 6) rfl), tyX5_ok, nmX5, rfl, tyX5_ok 7 (by decide), rfl⟩
theorem fX5_72 : FP RX5 72 5 10 false (.int) := ⟨RX5, TX5, 12, tyX5, rfl, (fun w h => gm gi_wsX50 h), by decide, gm gi_wsL_law0_r20 (List.mem_of_getElem? (i := 7) rfl), tyX5_ok, nmX5, rfl, tyX5_ok 10 (by decide), rfl⟩
theorem fX6_69 : FP RX6 69 6 5 false (.int) := ⟨RX6, TX6, 10, tyX6, rfl, (fun w h => gm gi_wsX60 h), by decide, gm gi_wsL_law0_r20 (List.mem_of_getElem? (i := 20) rfl), tyX6_ok, nmX6, rfl, tyX6_ok 5 (by decide), rfl⟩
theorem fX6_72 : FP RX6 72 6 6 false (.long) := ⟨RX6, TX6, 10, tyX6, rfl, (fun w h => gm gi_wsX60 h), by decide, gm gi_wsL_law0_r20 (List.mem_of_getElem? (i := 21) rfl), tyX6_ok, nmX6, rfl, tyX6_ok 6 (by decide), rfl⟩
theorem fX6_80 : FP RX6 80 6 7 false (.int) := ⟨RX6, TX6, 10, tyX6, rfl, (fun w h => gm gi_wsX60 h), by decide, gm gi_wsL_law0_r20 (List.mem_of_getElem? (i := 22) rfl), tyX6_ok, nmX6, rfl, tyX6_ok 7 (by decide), rfl⟩
theorem fX5_45 : FP RX5 45 5 11 false (.int) := ⟨RX5, TX5, 12, tyX5, rfl, (fun w h => gm gi_wsX50 h), by decide, gm gi_wsL_law0_r23 (List.mem_of_getElem? (i := 8) rfl), tyX5_ok, nmX5, rfl, tyX5_ok 11 (by decide), rfl⟩
theorem fX6_120 : FP RX6 120 6 8 false (.int) := ⟨RX6, TX6, 10, tyX6, rfl, (fun w h => gm gi_wsX60 h), by decide, gm gi_wsL_law0_r24 (List.mem_of_getElem? (i := 11) rfl), tyX6_ok, nmX6, rfl, tyX6_ok 8 (by decide), rfl⟩
theorem fX8_126 : FP RX8 126 8 26 false (.int) := ⟨RX8, TX8, 53, tyX8, rfl, (fun w h => gm gi_wsX80 h), by decide, gm gi_wsL_law0_r30 (List.mem_of_getElem? (i := 18) rfl), tyX8_ok, nmX8, rfl, tyX8_ok 26 (by decide), rfl⟩
theorem fX8_119 : FP RX8 119 8 7 false (.int) := ⟨RX8, TX8, 53, tyX8, rfl, (fun w h => gm gi_wsX80 h), by decide, gm gi_wsL_law0_r31 (List.mem_of_getElem? (i := 3) rfl), tyX8_ok, nmX8, rfl, tyX8_ok 7 (by decide), rfl⟩
theorem fX8_135 : FP RX8 135 8 25 false (.int) := ⟨RX8, TX8, 53, tyX8, rfl, (fun w h => gm gi_wsX80 h), by decide, gm gi_wsL_law0_r31 (List.mem_of_getElem? (i := 4) rfl), tyX8_ok, nmX8, rfl, tyX8_ok 25 (by decide), rfl⟩
theorem fX8_184 : FP RX8 184 8 15 false (.int) := ⟨RX8, TX8, 53, tyX8, rfl, (fun w h => gm gi_wsX80 h), by decide, gm gi_wsL_law0_r31 (List.mem_of_getElem? (i := 5) rfl), tyX8_ok, nmX8, rfl, tyX8_ok 15 (by decide), rfl⟩
theorem fX8_132 : FP RX8 132 8 28 false (.int) := ⟨RX8, TX8, 53, tyX8, rfl, (fun w h => gm gi_wsX80 h), by decide, gm gi_wsL_law0_r33 (List.mem_of_getElem? (i := 0) rfl), tyX8_ok, nmX8, rfl, tyX8_ok 28 (by decide), rfl⟩
theorem fX8_129 : FP RX8 129 8 27 false (.int) := ⟨RX8, TX8, 53, tyX8, rfl, (fun w h => gm gi_wsX80 h), by decide, gm gi_wsL_law0_r33 (List.mem_of_getElem? (i := 1) rfl), tyX8_ok, nmX8, rfl, tyX8_ok 27 (by decide), rfl⟩
theorem nL_8 : NL RL 8 7 2 [.null, .null] := ⟨RX7, TX7, tyX7, rfl, (fun w h => gm gi_wsX70 h), tyX7_ok, gm gi_wsL_law0_r1 (List.mem_of_getElem? (i := 0) rfl), gm gi_wsL_law0_r1 (List.mem_of_getElem? (i := 1) rfl), gm gi_wsL_law0_r1 (List.mem_of_getElem? (i := 2) rfl), (by decide +kernel), (by intro v hv ad; simp only [List.mem_cons, List.not_mem_nil, or_false] at hv; rcases hv with rfl | rfl <;> rfl), (by intro v hv n; simp only [List.mem_cons, List.not_mem_nil, or_false] at hv; rcases hv with rfl | rfl <;> trivial)⟩
theorem nL_55 : NL RL 55 8 53 [.int 0, .int 0, .null, .null, .null, .null, .null, .int 0, .null, .null, .null, .null, .null, .null, .null, .int 0, .null, .null, .null, .null, .null, .null, .null, .null, .null, .int 0, .int 0, .int 0, .int 0, .int 0, .int 0, .int 0, .int 0, .int 0, .int 0, .null, .null, .int 0, .null, .null, .int 0, .int 0, .int 0, .int 0, .int 0, .int 0, .int 0, .int 0, .int 0, .null, .int 0, .null, .null] := ⟨RX8, TX8, tyX8, rfl, (fun w h => gm gi_wsX80 h), tyX8_ok, gm gi_wsL_law0_r1 (List.mem_of_getElem? (i := 3) rfl), gm gi_wsL_law0_r1 (List.mem_of_getElem? (i := 4) rfl), gm gi_wsL_law0_r1 (List.mem_of_getElem? (i := 5) rfl), (by decide +kernel), (by intro v hv ad; simp only [List.mem_cons, List.not_mem_nil, or_false] at hv; rcases hv with rfl | rfl | rfl | rfl | rfl | rfl | rfl | rfl | rfl | rfl | rfl | rfl | rfl | rfl | rfl | rfl | rfl | rfl | rfl | rfl | rfl | rfl | rfl | rfl | rfl | rfl | rfl | rfl | rfl | rfl | rfl | rfl | rfl | rfl | rfl | rfl | rfl | rfl | rfl | rfl | rfl | rfl | rfl | rfl | rfl | rfl | rfl | rfl | rfl | rfl | rfl | rfl | rfl <;> rfl), (by intro v hv n; simp only [List.mem_cons, List.not_mem_nil, or_false] at hv; rcases hv with rfl | rfl | rfl | rfl | rfl | rfl | rfl | rfl | rfl | rfl | rfl | rfl | rfl | rfl | rfl | rfl | rfl | rfl | rfl | rfl | rfl | rfl | rfl | rfl | rfl | rfl | rfl | rfl | rfl | rfl | rfl | rfl | rfl | rfl | rfl | rfl | rfl | rfl | rfl | rfl | rfl | rfl | rfl | rfl | rfl | rfl | rfl | rfl | rfl | rfl | rfl | rfl | rfl <;> trivial)⟩
theorem nX7_7 : NL RX7 7 2 6 [.null, .null, .null, .null, .null, .int 0] := ⟨RX2, TX2, tyX2, rfl, (fun w h => gm gi_wsX20 h), tyX2_ok, gm gi_wsL_law0_r1 (List.mem_of_getElem? (i := 14) rfl), gm gi_wsL_law0_r1 (List.mem_of_getElem? (i := 15) rfl), gm gi_wsL_law0_r1 (List.mem_of_getElem? (i := 16) rfl), (by decide +kernel), (by intro v hv ad; simp only [List.mem_cons, List.not_mem_nil, or_false] at hv; rcases hv with rfl | rfl | rfl | rfl | rfl | rfl <;> rfl), (by intro v hv n; simp only [List.mem_cons, List.not_mem_nil, or_false] at hv; rcases hv with rfl | rfl | rfl | rfl | rfl | rfl <;> trivial)⟩
theorem nX7_16 : NL RX7 16 3 15 [.null, .null, .null, .null, .int 0, .int 0, .int 0, .int 0, .int 0, .int 0, .int 0, .int 0, .int 0, .int 0, .int 0] := ⟨RX3, TX3, tyX3, rfl, (fun w h => gm gi_wsX30 h), tyX3_ok, gm gi_wsL_law0_r1 (List.mem_of_getElem? (i := 18) rfl), gm gi_wsL_law0_r1 (List.mem_of_getElem? (i := 19) rfl), gm gi_wsL_law0_r1 (List.mem_of_getElem? (i := 20) rfl), (by decide +kernel), (by intro v hv ad; simp only [List.mem_cons, List.not_mem_nil, or_false] at hv; rcases hv with rfl | rfl | rfl | rfl | rfl | rfl | rfl | rfl | rfl | rfl | rfl | rfl | rfl | rfl | rfl <;> rfl), (by intro v hv n; simp only [List.mem_cons, List.not_mem_nil, or_false] at hv; rcases hv with rfl | rfl | rfl | rfl | rfl | rfl | rfl | rfl | rfl | rfl | rfl | rfl | rfl | rfl | rfl <;> trivial)⟩
theorem nX3_9 : NL RX3 9 1 4 [.null, .long 0, .int 0, .int 0] := ⟨RX1, TX1, tyX1, rfl, (fun w h => gm gi_wsX10 h), tyX1_ok, gm gi_wsL_law0_r2 (List.mem_of_getElem? (i := 11) rfl), gm gi_wsL_law0_r2 (List.mem_of_getElem? (i := 12) rfl), gm gi_wsL_law0_r2 (List.mem_of_getElem? (i := 13) rfl), (by decide +kernel), (by intro v hv ad; simp only [List.mem_cons, List.not_mem_nil, or_false] at hv; rcases hv with rfl | rfl | rfl | rfl <;> rfl), (by intro v hv n; simp only [List.mem_cons, List.not_mem_nil, or_false] at hv; rcases hv with rfl | rfl | rfl | rfl <;> trivial)⟩
theorem nX3_18 : NL RX3 18 0 3 [.null, .null, .int 0] := ⟨RX0, TX0, tyX0, rfl, (fun w h => gm gi_wsX00 h), tyX0_ok, gm gi_wsL_law0_r2 (List.mem_of_getElem? (i := 15) rfl), gm gi_wsL_law0_r2 (List.mem_of_getElem? (i := 16) rfl), gm gi_wsL_law0_r2 (List.mem_of_getElem? (i := 17) rfl), (by decide +kernel), (by intro v hv ad; simp only [List.mem_cons, List.not_mem_nil, or_false] at hv; rcases hv with rfl | rfl | rfl <;> rfl), (by intro v hv n; simp only [List.mem_cons, List.not_mem_nil, or_false] at hv; rcases hv with rfl | rfl | rfl <;> trivial)⟩
theorem nX3_32 : NL RX3 32 6 10 [.null, .null, .null, .int 0, .null, .int 0, .long 0, .int 0, .int 0, .null] := ⟨RX6, TX6, tyX6, rfl, (fun w h => gm gi_wsX60 h), tyX6_ok, gm gi_wsL_law0_r2 (List.mem_of_getElem? (i := 21) rfl), gm gi_wsL_law0_r2 (List.mem_of_getElem? (i := 22) rfl), gm gi_wsL_law0_r2 (List.mem_of_getElem? (i := 23) rfl), (by decide +kernel), (by intro v hv ad; simp only [List.mem_cons, List.not_mem_nil, or_false] at hv; rcases hv with rfl | rfl | rfl | rfl | rfl | rfl | rfl | rfl | rfl | rfl <;> rfl), (by intro v hv n; simp only [List.mem_cons, List.not_mem_nil, or_false] at hv; rcases hv with rfl | rfl | rfl | rfl | rfl | rfl | rfl | rfl | rfl | rfl <;> trivial)⟩
theorem nX1_9 : NL RX1 9 4 4 [.int 0, .null, .null, .int 0] := ⟨RX4, TX4, tyX4, rfl, (fun w h => gm gi_wsX40 h), tyX4_ok, gm gi_wsL_law0_r3 (List.mem_of_getElem? (i := 4) rfl), gm gi_wsL_law0_r3 (List.mem_of_getElem? (i := 5) rfl), gm gi_wsL_law0_r3 (List.mem_of_getElem? (i := 6) rfl), (by decide +kernel), (by intro v hv ad; simp only [List.mem_cons, List.not_mem_nil, or_false] at hv; rcases hv with rfl | rfl | rfl | rfl <;> rfl), (by intro v hv n; simp only [List.mem_cons, List.not_mem_nil, or_false] at hv; rcases hv with rfl | rfl | rfl | rfl <;> trivial)⟩
theorem nX6_9 : NL RX6 9 5 12 [.null, .null, .int 0, .null, .null, .null, .long 0, .int 0, .int 0, .null, .int 0, .int 0] := ⟨RX5, TX5, tyX5, rfl, (fun w h => gm gi_wsX50 h), tyX5_ok, gm gi_wsL_law0_r4 (List.mem_of_getElem? (i := 0) rfl), gm gi_wsL_law0_r4 (List.mem_of_getElem? (i := 1) rfl), gm gi_wsL_law0_r4 (List.mem_of_getElem? (i := 2) rfl), (by decide +kernel), (by intro v hv ad; simp only [List.mem_cons, List.not_mem_nil, or_false] at hv; rcases hv with rfl | rfl | rfl | rfl | rfl | rfl | rfl | rfl | rfl | rfl | rfl | rfl <;> rfl), (by intro v hv n; simp only [List.mem_cons, List.not_mem_nil, or_false] at hv; rcases hv with rfl | rfl | rfl | rfl | rfl | rfl | rfl | rfl | rfl | rfl | rfl | rfl <;> trivial)⟩
theorem nX6_23 : NL RX6 23 4 4 [.int 0, .null, .null, .int 0] := ⟨RX4, TX4, tyX4, rfl, (fun w h => gm gi_wsX40 h), tyX4_ok, gm gi_wsL_law0_r4 (List.mem_of_getElem? (i := 5) rfl), gm gi_wsL_law0_r3 (List.mem_of_getElem? (i := 5) rfl), gm gi_wsL_law0_r3 (List.mem_of_getElem? (i := 6) rfl), (by decide +kernel), (by intro v hv ad; simp only [List.mem_cons, List.not_mem_nil, or_false] at hv; rcases hv with rfl | rfl | rfl | rfl <;> rfl), (by intro v hv n; simp only [List.mem_cons, List.not_mem_nil, or_false] at hv; rcases hv with rfl | rfl | rfl | rfl <;> trivial)⟩
theorem nX5_22 : NL RX5 22 4 4 [.int 0, .null, .null, .int 0] := ⟨RX4, TX4, tyX4, rfl, (fun w h => gm gi_wsX40 h), tyX4_ok, gm gi_wsL_law0_r4 (List.mem_of_getElem? (i := 17) rfl), gm gi_wsL_law0_r3 (List.mem_of_getElem? (i := 5) rfl), gm gi_wsL_law0_r3 (List.mem_of_getElem? (i := 6) rfl), (by decide +kernel), (by intro v hv ad; simp only [List.mem_cons, List.not_mem_nil, or_false] at hv; rcases hv with rfl | rfl | rfl | rfl <;> rfl), (by intro v hv n; simp only [List.mem_cons, List.not_mem_nil, or_false] at hv; rcases hv with rfl | rfl | rfl | rfl <;> trivial)⟩
theorem nX5_10 : NL RX5 10 5 12 [.null, .null, .int 0, .null, .null, .null, .long 0, .int 0, .int 0, .null, .int 0, .int 0] := ⟨RX5, TX5, tyX5, rfl, (fun w h => gm gi_wsX50 h), tyX5_ok, gm gi_wsL_law0_r5 (List.mem_of_getElem? (i := 2) rfl), gm gi_wsL_law0_r4 (List.mem_of_getElem? (i := 1) rfl), gm gi_wsL_law0_r4 (List.mem_of_getElem? (i := 2) rfl), (by decide +kernel), (by intro v hv ad; simp only [List.mem_cons, List.not_mem_nil, or_false] at hv; rcases hv with rfl | rfl | rfl | rfl | rfl | rfl | rfl | rfl | rfl | rfl | rfl | rfl <;> rfl), (by intro v hv n; simp only [List.mem_cons, List.not_mem_nil, or_false] at hv; rcases hv with rfl | rfl | rfl | rfl | rfl | rfl | rfl | rfl | rfl | rfl | rfl | rfl <;> trivial)⟩
theorem lL_54 : LI RL 54 mX7_init 0 := ⟨by decide +kernel, rfl, gm gi_wsL_law0_r1 (List.mem_of_getElem? (i := 10) rfl), gm gi_wsL_law0_r1 (List.mem_of_getElem? (i := 8) rfl), gm gi_wsL_law0_r1 (List.mem_of_getElem? (i := 9) rfl), gm gi_wsL_law0_r1 (List.mem_of_getElem? (i := 2) rfl), (by decide +kernel), by decide, rfl, rfl⟩
theorem lX7_18 : LI RX7 18 mX3_init 1 := ⟨by decide +kernel, rfl, gm gi_wsL_law0_r2 (List.mem_of_getElem? (i := 9) rfl), gm gi_wsL_law0_r2 (List.mem_of_getElem? (i := 7) rfl), gm gi_wsL_law0_r2 (List.mem_of_getElem? (i := 8) rfl), gm gi_wsL_law0_r1 (List.mem_of_getElem? (i := 20) rfl), (by decide +kernel), by decide, rfl, rfl⟩
theorem lX1_11 : LI RX1 11 mX4_init 1 := ⟨by decide +kernel, rfl, gm gi_wsL_law0_r3 (List.mem_of_getElem? (i := 10) rfl), gm gi_wsL_law0_r3 (List.mem_of_getElem? (i := 8) rfl), gm gi_wsL_law0_r3 (List.mem_of_getElem? (i := 9) rfl), gm gi_wsL_law0_r3 (List.mem_of_getElem? (i := 6) rfl), (by decide +kernel), by decide, rfl, rfl⟩
theorem lX3_34 : LI RX3 34 mX6_init 1 := ⟨by decide +kernel, rfl, gm gi_wsL_law0_r3 (List.mem_of_getElem? (i := 22) rfl), gm gi_wsL_law0_r3 (List.mem_of_getElem? (i := 20) rfl), gm gi_wsL_law0_r3 (List.mem_of_getElem? (i := 21) rfl), gm gi_wsL_law0_r2 (List.mem_of_getElem? (i := 23) rfl), (by decide +kernel), by decide, rfl, rfl⟩
theorem lX6_11 : LI RX6 11 mX5_init 1 := ⟨by decide +kernel, rfl, gm gi_wsL_law0_r4 (List.mem_of_getElem? (i := 12) rfl), gm gi_wsL_law0_r4 (List.mem_of_getElem? (i := 10) rfl), gm gi_wsL_law0_r4 (List.mem_of_getElem? (i := 11) rfl), gm gi_wsL_law0_r4 (List.mem_of_getElem? (i := 2) rfl), (by decide +kernel), by decide, rfl, rfl⟩
theorem lX5_24 : LI RX5 24 mX4_init 1 := ⟨by decide +kernel, rfl, gm gi_wsL_law0_r3 (List.mem_of_getElem? (i := 10) rfl), gm gi_wsL_law0_r4 (List.mem_of_getElem? (i := 20) rfl), gm gi_wsL_law0_r3 (List.mem_of_getElem? (i := 9) rfl), gm gi_wsL_law0_r3 (List.mem_of_getElem? (i := 6) rfl), (by decide +kernel), by decide, rfl, rfl⟩
theorem lX6_26 : LI RX6 26 mX4_init 1 := ⟨by decide +kernel, rfl, gm gi_wsL_law0_r3 (List.mem_of_getElem? (i := 10) rfl), gm gi_wsL_law0_r4 (List.mem_of_getElem? (i := 21) rfl), gm gi_wsL_law0_r3 (List.mem_of_getElem? (i := 9) rfl), gm gi_wsL_law0_r3 (List.mem_of_getElem? (i := 6) rfl), (by decide +kernel), by decide, rfl, rfl⟩
theorem lX6_40 : LV RX6 40 mX5_nest 1 5 := ⟨by decide +kernel, rfl, gm gi_wsL_law0_r5 (List.mem_of_getElem? (i := 1) rfl), gm gi_wsL_law0_r4 (List.mem_of_getElem? (i := 22) rfl), gm gi_wsL_law0_r4 (List.mem_of_getElem? (i := 23) rfl), gm gi_wsL_law0_r5 (List.mem_of_getElem? (i := 0) rfl), gm gi_wsL_law0_r4 (List.mem_of_getElem? (i := 2) rfl), (by decide +kernel), by decide, TX5, 12, rfl⟩
theorem lX5_38 : LI RX5 38 mX5_init 1 := ⟨by decide +kernel, rfl, gm gi_wsL_law0_r4 (List.mem_of_getElem? (i := 12) rfl), gm gi_wsL_law0_r5 (List.mem_of_getElem? (i := 4) rfl), gm gi_wsL_law0_r4 (List.mem_of_getElem? (i := 11) rfl), gm gi_wsL_law0_r4 (List.mem_of_getElem? (i := 2) rfl), (by decide +kernel), by decide, rfl, rfl⟩
theorem lL_57 : LI RL 57 mX8_init 0 := ⟨by decide +kernel, rfl, gm gi_wsL_law0_r5 (List.mem_of_getElem? (i := 7) rfl), gm gi_wsL_law0_r5 (List.mem_of_getElem? (i := 5) rfl), gm gi_wsL_law0_r5 (List.mem_of_getElem? (i := 6) rfl), gm gi_wsL_law0_r1 (List.mem_of_getElem? (i := 5) rfl), (by decide +kernel), by decide, rfl, rfl⟩
theorem lL_60 : LV RL 60 mX7_number 1 7 := ⟨by decide +kernel, rfl, gm gi_wsL_law0_r6 (List.mem_of_getElem? (i := 18) rfl), gm gi_wsL_law0_r6 (List.mem_of_getElem? (i := 15) rfl), gm gi_wsL_law0_r6 (List.mem_of_getElem? (i := 16) rfl), gm gi_wsL_law0_r6 (List.mem_of_getElem? (i := 17) rfl), gm gi_wsL_law0_r1 (List.mem_of_getElem? (i := 2) rfl), (by decide +kernel), by decide, TX7, 2, rfl⟩
theorem lX7_25 : LV RX7 25 mX2_addNumber 1 2 := ⟨by decide +kernel, rfl, gm gi_wsL_law0_r6 (List.mem_of_getElem? (i := 22) rfl), gm gi_wsL_law0_r6 (List.mem_of_getElem? (i := 19) rfl), gm gi_wsL_law0_r6 (List.mem_of_getElem? (i := 20) rfl), gm gi_wsL_law0_r6 (List.mem_of_getElem? (i := 21) rfl), gm gi_wsL_law0_r1 (List.mem_of_getElem? (i := 16) rfl), (by decide +kernel), by decide, TX2, 6, rfl⟩
theorem lX2_32 : LV RX2 32 mX2_add 4 2 := ⟨by decide +kernel, rfl, gm gi_wsL_law0_r7 (List.mem_of_getElem? (i := 2) rfl), gm gi_wsL_law0_r6 (List.mem_of_getElem? (i := 23) rfl), gm gi_wsL_law0_r7 (List.mem_of_getElem? (i := 0) rfl), gm gi_wsL_law0_r7 (List.mem_of_getElem? (i := 1) rfl), gm gi_wsL_law0_r1 (List.mem_of_getElem? (i := 16) rfl), (by decide +kernel), by decide, TX2, 6, rfl⟩
theorem lL_64 : LV RL 64 mX8_number 1 8 := ⟨by decide +kernel, rfl, gm gi_wsL_law0_r7 (List.mem_of_getElem? (i := 7) rfl), gm gi_wsL_law0_r7 (List.mem_of_getElem? (i := 4) rfl), gm gi_wsL_law0_r7 (List.mem_of_getElem? (i := 5) rfl), gm gi_wsL_law0_r7 (List.mem_of_getElem? (i := 6) rfl), gm gi_wsL_law0_r1 (List.mem_of_getElem? (i := 5) rfl), (by decide +kernel), by decide, TX8, 53, rfl⟩
theorem lX8_104 : LV RX8 104 mX8_make 5 8 := ⟨by decide +kernel, rfl, gm gi_wsL_law0_r7 (List.mem_of_getElem? (i := 12) rfl), gm gi_wsL_law0_r7 (List.mem_of_getElem? (i := 9) rfl), gm gi_wsL_law0_r7 (List.mem_of_getElem? (i := 10) rfl), gm gi_wsL_law0_r7 (List.mem_of_getElem? (i := 11) rfl), gm gi_wsL_law0_r1 (List.mem_of_getElem? (i := 5) rfl), (by decide +kernel), by decide, TX8, 53, rfl⟩
theorem lL_7 : LV RL 7 mX7_choice 2 7 := ⟨by decide +kernel, rfl, gm gi_wsL_law0_r7 (List.mem_of_getElem? (i := 22) rfl), gm gi_wsL_law0_r7 (List.mem_of_getElem? (i := 19) rfl), gm gi_wsL_law0_r7 (List.mem_of_getElem? (i := 20) rfl), gm gi_wsL_law0_r7 (List.mem_of_getElem? (i := 21) rfl), gm gi_wsL_law0_r1 (List.mem_of_getElem? (i := 2) rfl), (by decide +kernel), by decide, TX7, 2, rfl⟩
theorem lX7_29 : LV RX7 29 mX2_has 1 2 := ⟨by decide +kernel, rfl, gm gi_wsL_law0_r8 (List.mem_of_getElem? (i := 2) rfl), gm gi_wsL_law0_r7 (List.mem_of_getElem? (i := 23) rfl), gm gi_wsL_law0_r8 (List.mem_of_getElem? (i := 0) rfl), gm gi_wsL_law0_r8 (List.mem_of_getElem? (i := 1) rfl), gm gi_wsL_law0_r1 (List.mem_of_getElem? (i := 16) rfl), (by decide +kernel), by decide, TX2, 6, rfl⟩
theorem lX7_33 : LSt RX7 33 mX7_demand 1 := ⟨by decide +kernel, rfl, gm gi_wsL_law0_r8 (List.mem_of_getElem? (i := 5) rfl), gm gi_wsL_law0_r8 (List.mem_of_getElem? (i := 3) rfl), gm gi_wsL_law0_r8 (List.mem_of_getElem? (i := 4) rfl), gm gi_wsL_law0_r1 (List.mem_of_getElem? (i := 2) rfl), (by decide +kernel), by decide⟩
theorem lX7_37 : LV RX7 37 mX2_add 4 2 := ⟨by decide +kernel, rfl, gm gi_wsL_law0_r7 (List.mem_of_getElem? (i := 2) rfl), gm gi_wsL_law0_r8 (List.mem_of_getElem? (i := 8) rfl), gm gi_wsL_law0_r7 (List.mem_of_getElem? (i := 0) rfl), gm gi_wsL_law0_r7 (List.mem_of_getElem? (i := 1) rfl), gm gi_wsL_law0_r1 (List.mem_of_getElem? (i := 16) rfl), (by decide +kernel), by decide, TX2, 6, rfl⟩
theorem lL_70 : LV RL 70 mX8_choice 2 8 := ⟨by decide +kernel, rfl, gm gi_wsL_law0_r8 (List.mem_of_getElem? (i := 12) rfl), gm gi_wsL_law0_r8 (List.mem_of_getElem? (i := 9) rfl), gm gi_wsL_law0_r8 (List.mem_of_getElem? (i := 10) rfl), gm gi_wsL_law0_r8 (List.mem_of_getElem? (i := 11) rfl), gm gi_wsL_law0_r1 (List.mem_of_getElem? (i := 5) rfl), (by decide +kernel), by decide, TX8, 53, rfl⟩
theorem lX8_108 : LV RX8 108 mX8_isNode 1 8 := ⟨by decide +kernel, rfl, gm gi_wsL_law0_r8 (List.mem_of_getElem? (i := 16) rfl), gm gi_wsL_law0_r8 (List.mem_of_getElem? (i := 13) rfl), gm gi_wsL_law0_r8 (List.mem_of_getElem? (i := 14) rfl), gm gi_wsL_law0_r8 (List.mem_of_getElem? (i := 15) rfl), gm gi_wsL_law0_r1 (List.mem_of_getElem? (i := 5) rfl), (by decide +kernel), by decide, TX8, 53, rfl⟩
theorem lX8_112 : LV RX8 112 mX8_refused 1 8 := ⟨by decide +kernel, rfl, gm gi_wsL_law0_r8 (List.mem_of_getElem? (i := 20) rfl), gm gi_wsL_law0_r8 (List.mem_of_getElem? (i := 17) rfl), gm gi_wsL_law0_r8 (List.mem_of_getElem? (i := 18) rfl), gm gi_wsL_law0_r8 (List.mem_of_getElem? (i := 19) rfl), gm gi_wsL_law0_r1 (List.mem_of_getElem? (i := 5) rfl), (by decide +kernel), by decide, TX8, 53, rfl⟩
theorem lL_71 : LV RL 71 mX8_thrown 0 8 := ⟨by decide +kernel, rfl, gm gi_wsL_law0_r9 (List.mem_of_getElem? (i := 0) rfl), gm gi_wsL_law0_r8 (List.mem_of_getElem? (i := 21) rfl), gm gi_wsL_law0_r8 (List.mem_of_getElem? (i := 22) rfl), gm gi_wsL_law0_r8 (List.mem_of_getElem? (i := 23) rfl), gm gi_wsL_law0_r1 (List.mem_of_getElem? (i := 5) rfl), (by decide +kernel), by decide, TX8, 53, rfl⟩
theorem lL_74 : LV RL 74 mX7_fail 0 7 := ⟨by decide +kernel, rfl, gm gi_wsL_law0_r9 (List.mem_of_getElem? (i := 4) rfl), gm gi_wsL_law0_r9 (List.mem_of_getElem? (i := 1) rfl), gm gi_wsL_law0_r9 (List.mem_of_getElem? (i := 2) rfl), gm gi_wsL_law0_r9 (List.mem_of_getElem? (i := 3) rfl), gm gi_wsL_law0_r1 (List.mem_of_getElem? (i := 2) rfl), (by decide +kernel), by decide, TX7, 2, rfl⟩
theorem lL_77 : LV RL 77 mX8_fail 0 8 := ⟨by decide +kernel, rfl, gm gi_wsL_law0_r9 (List.mem_of_getElem? (i := 8) rfl), gm gi_wsL_law0_r9 (List.mem_of_getElem? (i := 5) rfl), gm gi_wsL_law0_r9 (List.mem_of_getElem? (i := 6) rfl), gm gi_wsL_law0_r9 (List.mem_of_getElem? (i := 7) rfl), gm gi_wsL_law0_r1 (List.mem_of_getElem? (i := 5) rfl), (by decide +kernel), by decide, TX8, 53, rfl⟩
theorem lL_15 : LV RL 15 mX7_pair 2 7 := ⟨by decide +kernel, rfl, gm gi_wsL_law0_r9 (List.mem_of_getElem? (i := 15) rfl), gm gi_wsL_law0_r9 (List.mem_of_getElem? (i := 12) rfl), gm gi_wsL_law0_r9 (List.mem_of_getElem? (i := 13) rfl), gm gi_wsL_law0_r9 (List.mem_of_getElem? (i := 14) rfl), gm gi_wsL_law0_r1 (List.mem_of_getElem? (i := 2) rfl), (by decide +kernel), by decide, TX7, 2, rfl⟩
theorem lL_80 : LV RL 80 mX8_pair 2 8 := ⟨by decide +kernel, rfl, gm gi_wsL_law0_r9 (List.mem_of_getElem? (i := 19) rfl), gm gi_wsL_law0_r9 (List.mem_of_getElem? (i := 16) rfl), gm gi_wsL_law0_r9 (List.mem_of_getElem? (i := 17) rfl), gm gi_wsL_law0_r9 (List.mem_of_getElem? (i := 18) rfl), gm gi_wsL_law0_r1 (List.mem_of_getElem? (i := 5) rfl), (by decide +kernel), by decide, TX8, 53, rfl⟩
theorem lL_18 : LV RL 18 mX7_part 2 7 := ⟨by decide +kernel, rfl, gm gi_wsL_law0_r10 (List.mem_of_getElem? (i := 2) rfl), gm gi_wsL_law0_r9 (List.mem_of_getElem? (i := 23) rfl), gm gi_wsL_law0_r10 (List.mem_of_getElem? (i := 0) rfl), gm gi_wsL_law0_r10 (List.mem_of_getElem? (i := 1) rfl), gm gi_wsL_law0_r1 (List.mem_of_getElem? (i := 2) rfl), (by decide +kernel), by decide, TX7, 2, rfl⟩
theorem lL_84 : LV RL 84 mX8_part 2 8 := ⟨by decide +kernel, rfl, gm gi_wsL_law0_r10 (List.mem_of_getElem? (i := 6) rfl), gm gi_wsL_law0_r10 (List.mem_of_getElem? (i := 3) rfl), gm gi_wsL_law0_r10 (List.mem_of_getElem? (i := 4) rfl), gm gi_wsL_law0_r10 (List.mem_of_getElem? (i := 5) rfl), gm gi_wsL_law0_r1 (List.mem_of_getElem? (i := 5) rfl), (by decide +kernel), by decide, TX8, 53, rfl⟩
theorem lL_22 : LV RL 22 mX7_op 3 7 := ⟨by decide +kernel, rfl, gm gi_wsL_law0_r10 (List.mem_of_getElem? (i := 13) rfl), gm gi_wsL_law0_r10 (List.mem_of_getElem? (i := 10) rfl), gm gi_wsL_law0_r10 (List.mem_of_getElem? (i := 11) rfl), gm gi_wsL_law0_r10 (List.mem_of_getElem? (i := 12) rfl), gm gi_wsL_law0_r1 (List.mem_of_getElem? (i := 2) rfl), (by decide +kernel), by decide, TX7, 2, rfl⟩
theorem lL_88 : LV RL 88 mX8_op 3 8 := ⟨by decide +kernel, rfl, gm gi_wsL_law0_r10 (List.mem_of_getElem? (i := 17) rfl), gm gi_wsL_law0_r10 (List.mem_of_getElem? (i := 14) rfl), gm gi_wsL_law0_r10 (List.mem_of_getElem? (i := 15) rfl), gm gi_wsL_law0_r10 (List.mem_of_getElem? (i := 16) rfl), gm gi_wsL_law0_r1 (List.mem_of_getElem? (i := 5) rfl), (by decide +kernel), by decide, TX8, 53, rfl⟩
theorem lL_26 : LV RL 26 mX7_when 3 7 := ⟨by decide +kernel, rfl, gm gi_wsL_law0_r11 (List.mem_of_getElem? (i := 0) rfl), gm gi_wsL_law0_r10 (List.mem_of_getElem? (i := 21) rfl), gm gi_wsL_law0_r10 (List.mem_of_getElem? (i := 22) rfl), gm gi_wsL_law0_r10 (List.mem_of_getElem? (i := 23) rfl), gm gi_wsL_law0_r1 (List.mem_of_getElem? (i := 2) rfl), (by decide +kernel), by decide, TX7, 2, rfl⟩
theorem lL_91 : LV RL 91 mX8_when 3 8 := ⟨by decide +kernel, rfl, gm gi_wsL_law0_r11 (List.mem_of_getElem? (i := 4) rfl), gm gi_wsL_law0_r11 (List.mem_of_getElem? (i := 1) rfl), gm gi_wsL_law0_r11 (List.mem_of_getElem? (i := 2) rfl), gm gi_wsL_law0_r11 (List.mem_of_getElem? (i := 3) rfl), gm gi_wsL_law0_r1 (List.mem_of_getElem? (i := 5) rfl), (by decide +kernel), by decide, TX8, 53, rfl⟩
theorem lL_29 : LV RL 29 mX7_set 2 7 := ⟨by decide +kernel, rfl, gm gi_wsL_law0_r11 (List.mem_of_getElem? (i := 11) rfl), gm gi_wsL_law0_r11 (List.mem_of_getElem? (i := 8) rfl), gm gi_wsL_law0_r11 (List.mem_of_getElem? (i := 9) rfl), gm gi_wsL_law0_r11 (List.mem_of_getElem? (i := 10) rfl), gm gi_wsL_law0_r1 (List.mem_of_getElem? (i := 2) rfl), (by decide +kernel), by decide, TX7, 2, rfl⟩
theorem lX7_41 : LV RX7 41 mX2_size 0 2 := ⟨by decide +kernel, rfl, gm gi_wsL_law0_r11 (List.mem_of_getElem? (i := 15) rfl), gm gi_wsL_law0_r11 (List.mem_of_getElem? (i := 12) rfl), gm gi_wsL_law0_r11 (List.mem_of_getElem? (i := 13) rfl), gm gi_wsL_law0_r11 (List.mem_of_getElem? (i := 14) rfl), gm gi_wsL_law0_r1 (List.mem_of_getElem? (i := 16) rfl), (by decide +kernel), by decide, TX2, 6, rfl⟩
theorem lL_94 : LV RL 94 mX8_set 2 8 := ⟨by decide +kernel, rfl, gm gi_wsL_law0_r11 (List.mem_of_getElem? (i := 19) rfl), gm gi_wsL_law0_r11 (List.mem_of_getElem? (i := 16) rfl), gm gi_wsL_law0_r11 (List.mem_of_getElem? (i := 17) rfl), gm gi_wsL_law0_r11 (List.mem_of_getElem? (i := 18) rfl), gm gi_wsL_law0_r1 (List.mem_of_getElem? (i := 5) rfl), (by decide +kernel), by decide, TX8, 53, rfl⟩
theorem lL_32 : LV RL 32 mX7_fold 2 7 := ⟨by decide +kernel, rfl, gm gi_wsL_law0_r12 (List.mem_of_getElem? (i := 2) rfl), gm gi_wsL_law0_r11 (List.mem_of_getElem? (i := 23) rfl), gm gi_wsL_law0_r12 (List.mem_of_getElem? (i := 0) rfl), gm gi_wsL_law0_r12 (List.mem_of_getElem? (i := 1) rfl), gm gi_wsL_law0_r1 (List.mem_of_getElem? (i := 2) rfl), (by decide +kernel), by decide, TX7, 2, rfl⟩
theorem lL_97 : LV RL 97 mX8_fold 2 8 := ⟨by decide +kernel, rfl, gm gi_wsL_law0_r12 (List.mem_of_getElem? (i := 6) rfl), gm gi_wsL_law0_r12 (List.mem_of_getElem? (i := 3) rfl), gm gi_wsL_law0_r12 (List.mem_of_getElem? (i := 4) rfl), gm gi_wsL_law0_r12 (List.mem_of_getElem? (i := 5) rfl), gm gi_wsL_law0_r1 (List.mem_of_getElem? (i := 5) rfl), (by decide +kernel), by decide, TX8, 53, rfl⟩
theorem lL_98 : LV RL 98 mX7_clear 0 7 := ⟨by decide +kernel, rfl, gm gi_wsL_law0_r12 (List.mem_of_getElem? (i := 10) rfl), gm gi_wsL_law0_r12 (List.mem_of_getElem? (i := 7) rfl), gm gi_wsL_law0_r12 (List.mem_of_getElem? (i := 8) rfl), gm gi_wsL_law0_r12 (List.mem_of_getElem? (i := 9) rfl), gm gi_wsL_law0_r1 (List.mem_of_getElem? (i := 2) rfl), (by decide +kernel), by decide, TX7, 2, rfl⟩
theorem lX7_45 : LV RX7 45 mX2_forget 0 2 := ⟨by decide +kernel, rfl, gm gi_wsL_law0_r12 (List.mem_of_getElem? (i := 14) rfl), gm gi_wsL_law0_r12 (List.mem_of_getElem? (i := 11) rfl), gm gi_wsL_law0_r12 (List.mem_of_getElem? (i := 12) rfl), gm gi_wsL_law0_r12 (List.mem_of_getElem? (i := 13) rfl), gm gi_wsL_law0_r1 (List.mem_of_getElem? (i := 16) rfl), (by decide +kernel), by decide, TX2, 6, rfl⟩
theorem lX7_48 : LV RX7 48 mX3_forget 0 3 := ⟨by decide +kernel, rfl, gm gi_wsL_law0_r12 (List.mem_of_getElem? (i := 18) rfl), gm gi_wsL_law0_r12 (List.mem_of_getElem? (i := 15) rfl), gm gi_wsL_law0_r12 (List.mem_of_getElem? (i := 16) rfl), gm gi_wsL_law0_r12 (List.mem_of_getElem? (i := 17) rfl), gm gi_wsL_law0_r1 (List.mem_of_getElem? (i := 20) rfl), (by decide +kernel), by decide, TX3, 15, rfl⟩
theorem lX3_63 : LV RX3 63 mX0_forget 0 0 := ⟨by decide +kernel, rfl, gm gi_wsL_law0_r13 (List.mem_of_getElem? (i := 5) rfl), gm gi_wsL_law0_r13 (List.mem_of_getElem? (i := 2) rfl), gm gi_wsL_law0_r13 (List.mem_of_getElem? (i := 3) rfl), gm gi_wsL_law0_r13 (List.mem_of_getElem? (i := 4) rfl), gm gi_wsL_law0_r2 (List.mem_of_getElem? (i := 17) rfl), (by decide +kernel), by decide, TX0, 3, rfl⟩
theorem lX3_66 : LV RX3 66 mX1_forget 0 1 := ⟨by decide +kernel, rfl, gm gi_wsL_law0_r13 (List.mem_of_getElem? (i := 10) rfl), gm gi_wsL_law0_r13 (List.mem_of_getElem? (i := 7) rfl), gm gi_wsL_law0_r13 (List.mem_of_getElem? (i := 8) rfl), gm gi_wsL_law0_r13 (List.mem_of_getElem? (i := 9) rfl), gm gi_wsL_law0_r2 (List.mem_of_getElem? (i := 13) rfl), (by decide +kernel), by decide, TX1, 4, rfl⟩
theorem lX1_31 : LV RX1 31 mX4_cutTo 1 4 := ⟨by decide +kernel, rfl, gm gi_wsL_law0_r13 (List.mem_of_getElem? (i := 17) rfl), gm gi_wsL_law0_r13 (List.mem_of_getElem? (i := 14) rfl), gm gi_wsL_law0_r13 (List.mem_of_getElem? (i := 15) rfl), gm gi_wsL_law0_r13 (List.mem_of_getElem? (i := 16) rfl), gm gi_wsL_law0_r3 (List.mem_of_getElem? (i := 6) rfl), (by decide +kernel), by decide, TX4, 4, rfl⟩
theorem lL_101 : LV RL 101 mX8_clear 0 8 := ⟨by decide +kernel, rfl, gm gi_wsL_law0_r13 (List.mem_of_getElem? (i := 22) rfl), gm gi_wsL_law0_r13 (List.mem_of_getElem? (i := 19) rfl), gm gi_wsL_law0_r13 (List.mem_of_getElem? (i := 20) rfl), gm gi_wsL_law0_r13 (List.mem_of_getElem? (i := 21) rfl), gm gi_wsL_law0_r1 (List.mem_of_getElem? (i := 5) rfl), (by decide +kernel), by decide, TX8, 53, rfl⟩
theorem lX8_116 : LV RX8 116 mX8_forget 0 8 := ⟨by decide +kernel, rfl, gm gi_wsL_law0_r14 (List.mem_of_getElem? (i := 2) rfl), gm gi_wsL_law0_r13 (List.mem_of_getElem? (i := 23) rfl), gm gi_wsL_law0_r14 (List.mem_of_getElem? (i := 0) rfl), gm gi_wsL_law0_r14 (List.mem_of_getElem? (i := 1) rfl), gm gi_wsL_law0_r1 (List.mem_of_getElem? (i := 5) rfl), (by decide +kernel), by decide, TX8, 53, rfl⟩
theorem lL_35 : LV RL 35 mX7_node 2 7 := ⟨by decide +kernel, rfl, gm gi_wsL_law0_r15 (List.mem_of_getElem? (i := 0) rfl), gm gi_wsL_law0_r14 (List.mem_of_getElem? (i := 21) rfl), gm gi_wsL_law0_r14 (List.mem_of_getElem? (i := 22) rfl), gm gi_wsL_law0_r14 (List.mem_of_getElem? (i := 23) rfl), gm gi_wsL_law0_r1 (List.mem_of_getElem? (i := 2) rfl), (by decide +kernel), by decide, TX7, 2, rfl⟩
theorem lX7_56 : LV RX7 56 mX2_sortOf 1 2 := ⟨by decide +kernel, rfl, gm gi_wsL_law0_r15 (List.mem_of_getElem? (i := 6) rfl), gm gi_wsL_law0_r15 (List.mem_of_getElem? (i := 3) rfl), gm gi_wsL_law0_r15 (List.mem_of_getElem? (i := 4) rfl), gm gi_wsL_law0_r15 (List.mem_of_getElem? (i := 5) rfl), gm gi_wsL_law0_r1 (List.mem_of_getElem? (i := 16) rfl), (by decide +kernel), by decide, TX2, 6, rfl⟩
theorem lX2_36 : LV RX2 36 mX2_has 1 2 := ⟨by decide +kernel, rfl, gm gi_wsL_law0_r8 (List.mem_of_getElem? (i := 2) rfl), gm gi_wsL_law0_r15 (List.mem_of_getElem? (i := 7) rfl), gm gi_wsL_law0_r8 (List.mem_of_getElem? (i := 0) rfl), gm gi_wsL_law0_r8 (List.mem_of_getElem? (i := 1) rfl), gm gi_wsL_law0_r1 (List.mem_of_getElem? (i := 16) rfl), (by decide +kernel), by decide, TX2, 6, rfl⟩
theorem lX7_60 : LV RX7 60 mX2_firstOf 1 2 := ⟨by decide +kernel, rfl, gm gi_wsL_law0_r15 (List.mem_of_getElem? (i := 11) rfl), gm gi_wsL_law0_r15 (List.mem_of_getElem? (i := 8) rfl), gm gi_wsL_law0_r15 (List.mem_of_getElem? (i := 9) rfl), gm gi_wsL_law0_r15 (List.mem_of_getElem? (i := 10) rfl), gm gi_wsL_law0_r1 (List.mem_of_getElem? (i := 16) rfl), (by decide +kernel), by decide, TX2, 6, rfl⟩
theorem lX7_63 : LV RX7 63 mX2_secondOf 1 2 := ⟨by decide +kernel, rfl, gm gi_wsL_law0_r15 (List.mem_of_getElem? (i := 15) rfl), gm gi_wsL_law0_r15 (List.mem_of_getElem? (i := 12) rfl), gm gi_wsL_law0_r15 (List.mem_of_getElem? (i := 13) rfl), gm gi_wsL_law0_r15 (List.mem_of_getElem? (i := 14) rfl), gm gi_wsL_law0_r1 (List.mem_of_getElem? (i := 16) rfl), (by decide +kernel), by decide, TX2, 6, rfl⟩
theorem lX7_66 : LV RX7 66 mX2_thirdOf 1 2 := ⟨by decide +kernel, rfl, gm gi_wsL_law0_r15 (List.mem_of_getElem? (i := 19) rfl), gm gi_wsL_law0_r15 (List.mem_of_getElem? (i := 16) rfl), gm gi_wsL_law0_r15 (List.mem_of_getElem? (i := 17) rfl), gm gi_wsL_law0_r15 (List.mem_of_getElem? (i := 18) rfl), gm gi_wsL_law0_r1 (List.mem_of_getElem? (i := 16) rfl), (by decide +kernel), by decide, TX2, 6, rfl⟩
theorem lL_104 : LV RL 104 mX8_node 2 8 := ⟨by decide +kernel, rfl, gm gi_wsL_law0_r15 (List.mem_of_getElem? (i := 23) rfl), gm gi_wsL_law0_r15 (List.mem_of_getElem? (i := 20) rfl), gm gi_wsL_law0_r15 (List.mem_of_getElem? (i := 21) rfl), gm gi_wsL_law0_r15 (List.mem_of_getElem? (i := 22) rfl), gm gi_wsL_law0_r1 (List.mem_of_getElem? (i := 5) rfl), (by decide +kernel), by decide, TX8, 53, rfl⟩
theorem lL_40 : LV RL 40 mX7_ask 3 7 := ⟨by decide +kernel, rfl, gm gi_wsL_law0_r16 (List.mem_of_getElem? (i := 6) rfl), gm gi_wsL_law0_r16 (List.mem_of_getElem? (i := 3) rfl), gm gi_wsL_law0_r16 (List.mem_of_getElem? (i := 4) rfl), gm gi_wsL_law0_r16 (List.mem_of_getElem? (i := 5) rfl), gm gi_wsL_law0_r1 (List.mem_of_getElem? (i := 2) rfl), (by decide +kernel), by decide, TX7, 2, rfl⟩
theorem lX7_69 : LV RX7 69 mX3_begin 3 3 := ⟨by decide +kernel, rfl, gm gi_wsL_law0_r16 (List.mem_of_getElem? (i := 10) rfl), gm gi_wsL_law0_r16 (List.mem_of_getElem? (i := 7) rfl), gm gi_wsL_law0_r16 (List.mem_of_getElem? (i := 8) rfl), gm gi_wsL_law0_r16 (List.mem_of_getElem? (i := 9) rfl), gm gi_wsL_law0_r1 (List.mem_of_getElem? (i := 20) rfl), (by decide +kernel), by decide, TX3, 15, rfl⟩
theorem lX3_67 : LV RX3 67 mX3_forget 0 3 := ⟨by decide +kernel, rfl, gm gi_wsL_law0_r12 (List.mem_of_getElem? (i := 18) rfl), gm gi_wsL_law0_r16 (List.mem_of_getElem? (i := 14) rfl), gm gi_wsL_law0_r12 (List.mem_of_getElem? (i := 16) rfl), gm gi_wsL_law0_r12 (List.mem_of_getElem? (i := 17) rfl), gm gi_wsL_law0_r1 (List.mem_of_getElem? (i := 20) rfl), (by decide +kernel), by decide, TX3, 15, rfl⟩
theorem lX3_77 : LV RX3 77 mX0_put 2 0 := ⟨by decide +kernel, rfl, gm gi_wsL_law0_r16 (List.mem_of_getElem? (i := 18) rfl), gm gi_wsL_law0_r16 (List.mem_of_getElem? (i := 15) rfl), gm gi_wsL_law0_r16 (List.mem_of_getElem? (i := 16) rfl), gm gi_wsL_law0_r16 (List.mem_of_getElem? (i := 17) rfl), gm gi_wsL_law0_r2 (List.mem_of_getElem? (i := 17) rfl), (by decide +kernel), by decide, TX0, 3, rfl⟩
theorem lL_108 : LV RL 108 mX8_ask 3 8 := ⟨by decide +kernel, rfl, gm gi_wsL_law0_r16 (List.mem_of_getElem? (i := 22) rfl), gm gi_wsL_law0_r16 (List.mem_of_getElem? (i := 19) rfl), gm gi_wsL_law0_r16 (List.mem_of_getElem? (i := 20) rfl), gm gi_wsL_law0_r16 (List.mem_of_getElem? (i := 21) rfl), gm gi_wsL_law0_r1 (List.mem_of_getElem? (i := 5) rfl), (by decide +kernel), by decide, TX8, 53, rfl⟩
theorem lL_44 : LV RL 44 mX7_next 0 7 := ⟨by decide +kernel, rfl, gm gi_wsL_law0_r17 (List.mem_of_getElem? (i := 9) rfl), gm gi_wsL_law0_r17 (List.mem_of_getElem? (i := 6) rfl), gm gi_wsL_law0_r17 (List.mem_of_getElem? (i := 7) rfl), gm gi_wsL_law0_r17 (List.mem_of_getElem? (i := 8) rfl), gm gi_wsL_law0_r1 (List.mem_of_getElem? (i := 2) rfl), (by decide +kernel), by decide, TX7, 2, rfl⟩
theorem lX7_73 : LV RX7 73 mX3_isThere 0 3 := ⟨by decide +kernel, rfl, gm gi_wsL_law0_r17 (List.mem_of_getElem? (i := 15) rfl), gm gi_wsL_law0_r17 (List.mem_of_getElem? (i := 12) rfl), gm gi_wsL_law0_r17 (List.mem_of_getElem? (i := 13) rfl), gm gi_wsL_law0_r17 (List.mem_of_getElem? (i := 14) rfl), gm gi_wsL_law0_r1 (List.mem_of_getElem? (i := 20) rfl), (by decide +kernel), by decide, TX3, 15, rfl⟩
theorem lX7_82 : LV RX7 82 mX3_goOn 0 3 := ⟨by decide +kernel, rfl, gm gi_wsL_law0_r17 (List.mem_of_getElem? (i := 19) rfl), gm gi_wsL_law0_r17 (List.mem_of_getElem? (i := 16) rfl), gm gi_wsL_law0_r17 (List.mem_of_getElem? (i := 17) rfl), gm gi_wsL_law0_r17 (List.mem_of_getElem? (i := 18) rfl), gm gi_wsL_law0_r1 (List.mem_of_getElem? (i := 20) rfl), (by decide +kernel), by decide, TX3, 15, rfl⟩
theorem lX3_81 : LV RX3 81 mX0_isEmpty 0 0 := ⟨by decide +kernel, rfl, gm gi_wsL_law0_r17 (List.mem_of_getElem? (i := 23) rfl), gm gi_wsL_law0_r17 (List.mem_of_getElem? (i := 20) rfl), gm gi_wsL_law0_r17 (List.mem_of_getElem? (i := 21) rfl), gm gi_wsL_law0_r17 (List.mem_of_getElem? (i := 22) rfl), gm gi_wsL_law0_r2 (List.mem_of_getElem? (i := 17) rfl), (by decide +kernel), by decide, TX0, 3, rfl⟩
theorem lX3_85 : LV RX3 85 mX3_openNextWindow 0 3 := ⟨by decide +kernel, rfl, gm gi_wsL_law0_r18 (List.mem_of_getElem? (i := 3) rfl), gm gi_wsL_law0_r18 (List.mem_of_getElem? (i := 0) rfl), gm gi_wsL_law0_r18 (List.mem_of_getElem? (i := 1) rfl), gm gi_wsL_law0_r18 (List.mem_of_getElem? (i := 2) rfl), gm gi_wsL_law0_r1 (List.mem_of_getElem? (i := 20) rfl), (by decide +kernel), by decide, TX3, 15, rfl⟩
theorem lX3_91 : LV RX3 91 mX0_takeAllOf 1 0 := ⟨by decide +kernel, rfl, gm gi_wsL_law0_r18 (List.mem_of_getElem? (i := 7) rfl), gm gi_wsL_law0_r18 (List.mem_of_getElem? (i := 4) rfl), gm gi_wsL_law0_r18 (List.mem_of_getElem? (i := 5) rfl), gm gi_wsL_law0_r18 (List.mem_of_getElem? (i := 6) rfl), gm gi_wsL_law0_r2 (List.mem_of_getElem? (i := 17) rfl), (by decide +kernel), by decide, TX0, 3, rfl⟩
theorem lX0_23 : LV RX0 23 mX0_lastAlternatives 0 0 := ⟨by decide +kernel, rfl, gm gi_wsL_law0_r18 (List.mem_of_getElem? (i := 11) rfl), gm gi_wsL_law0_r18 (List.mem_of_getElem? (i := 8) rfl), gm gi_wsL_law0_r18 (List.mem_of_getElem? (i := 9) rfl), gm gi_wsL_law0_r18 (List.mem_of_getElem? (i := 10) rfl), gm gi_wsL_law0_r2 (List.mem_of_getElem? (i := 17) rfl), (by decide +kernel), by decide, TX0, 3, rfl⟩
theorem lX0_27 : LV RX0 27 mX0_lastLength 0 0 := ⟨by decide +kernel, rfl, gm gi_wsL_law0_r18 (List.mem_of_getElem? (i := 15) rfl), gm gi_wsL_law0_r18 (List.mem_of_getElem? (i := 12) rfl), gm gi_wsL_law0_r18 (List.mem_of_getElem? (i := 13) rfl), gm gi_wsL_law0_r18 (List.mem_of_getElem? (i := 14) rfl), gm gi_wsL_law0_r2 (List.mem_of_getElem? (i := 17) rfl), (by decide +kernel), by decide, TX0, 3, rfl⟩
theorem lX0_31 : LV RX0 31 mX0_put 2 0 := ⟨by decide +kernel, rfl, gm gi_wsL_law0_r16 (List.mem_of_getElem? (i := 18) rfl), gm gi_wsL_law0_r18 (List.mem_of_getElem? (i := 16) rfl), gm gi_wsL_law0_r16 (List.mem_of_getElem? (i := 16) rfl), gm gi_wsL_law0_r16 (List.mem_of_getElem? (i := 17) rfl), gm gi_wsL_law0_r2 (List.mem_of_getElem? (i := 17) rfl), (by decide +kernel), by decide, TX0, 3, rfl⟩
theorem lX0_35 : LV RX0 35 mX0_dropLast 0 0 := ⟨by decide +kernel, rfl, gm gi_wsL_law0_r18 (List.mem_of_getElem? (i := 20) rfl), gm gi_wsL_law0_r18 (List.mem_of_getElem? (i := 17) rfl), gm gi_wsL_law0_r18 (List.mem_of_getElem? (i := 18) rfl), gm gi_wsL_law0_r18 (List.mem_of_getElem? (i := 19) rfl), gm gi_wsL_law0_r2 (List.mem_of_getElem? (i := 17) rfl), (by decide +kernel), by decide, TX0, 3, rfl⟩
theorem lX3_88 : LV RX3 88 mX3_comesToValue 0 3 := ⟨by decide +kernel, rfl, gm gi_wsL_law0_r19 (List.mem_of_getElem? (i := 0) rfl), gm gi_wsL_law0_r18 (List.mem_of_getElem? (i := 21) rfl), gm gi_wsL_law0_r18 (List.mem_of_getElem? (i := 22) rfl), gm gi_wsL_law0_r18 (List.mem_of_getElem? (i := 23) rfl), gm gi_wsL_law0_r1 (List.mem_of_getElem? (i := 20) rfl), (by decide +kernel), by decide, TX3, 15, rfl⟩
theorem lX3_95 : LV RX3 95 mX0_lastAlternatives 0 0 := ⟨by decide +kernel, rfl, gm gi_wsL_law0_r18 (List.mem_of_getElem? (i := 11) rfl), gm gi_wsL_law0_r19 (List.mem_of_getElem? (i := 5) rfl), gm gi_wsL_law0_r18 (List.mem_of_getElem? (i := 9) rfl), gm gi_wsL_law0_r18 (List.mem_of_getElem? (i := 10) rfl), gm gi_wsL_law0_r2 (List.mem_of_getElem? (i := 17) rfl), (by decide +kernel), by decide, TX0, 3, rfl⟩
theorem lX3_99 : LV RX3 99 mX0_lastLength 0 0 := ⟨by decide +kernel, rfl, gm gi_wsL_law0_r18 (List.mem_of_getElem? (i := 15) rfl), gm gi_wsL_law0_r19 (List.mem_of_getElem? (i := 6) rfl), gm gi_wsL_law0_r18 (List.mem_of_getElem? (i := 13) rfl), gm gi_wsL_law0_r18 (List.mem_of_getElem? (i := 14) rfl), gm gi_wsL_law0_r2 (List.mem_of_getElem? (i := 17) rfl), (by decide +kernel), by decide, TX0, 3, rfl⟩
theorem lX3_103 : LV RX3 103 mX0_dropLast 0 0 := ⟨by decide +kernel, rfl, gm gi_wsL_law0_r18 (List.mem_of_getElem? (i := 20) rfl), gm gi_wsL_law0_r19 (List.mem_of_getElem? (i := 7) rfl), gm gi_wsL_law0_r18 (List.mem_of_getElem? (i := 18) rfl), gm gi_wsL_law0_r18 (List.mem_of_getElem? (i := 19) rfl), gm gi_wsL_law0_r2 (List.mem_of_getElem? (i := 17) rfl), (by decide +kernel), by decide, TX0, 3, rfl⟩
theorem lX3_106 : LV RX3 106 mX3_mostDecisions 0 3 := ⟨by decide +kernel, rfl, gm gi_wsL_law0_r19 (List.mem_of_getElem? (i := 11) rfl), gm gi_wsL_law0_r19 (List.mem_of_getElem? (i := 8) rfl), gm gi_wsL_law0_r19 (List.mem_of_getElem? (i := 9) rfl), gm gi_wsL_law0_r19 (List.mem_of_getElem? (i := 10) rfl), gm gi_wsL_law0_r1 (List.mem_of_getElem? (i := 20) rfl), (by decide +kernel), by decide, TX3, 15, rfl⟩
theorem lX3_115 : LV RX3 115 mX6_goWay 3 6 := ⟨by decide +kernel, rfl, gm gi_wsL_law0_r19 (List.mem_of_getElem? (i := 15) rfl), gm gi_wsL_law0_r19 (List.mem_of_getElem? (i := 12) rfl), gm gi_wsL_law0_r19 (List.mem_of_getElem? (i := 13) rfl), gm gi_wsL_law0_r19 (List.mem_of_getElem? (i := 14) rfl), gm gi_wsL_law0_r2 (List.mem_of_getElem? (i := 23) rfl), (by decide +kernel), by decide, TX6, 10, rfl⟩
theorem lX6_55 : LV RX6 55 mX4_cutTo 1 4 := ⟨by decide +kernel, rfl, gm gi_wsL_law0_r13 (List.mem_of_getElem? (i := 17) rfl), gm gi_wsL_law0_r19 (List.mem_of_getElem? (i := 17) rfl), gm gi_wsL_law0_r13 (List.mem_of_getElem? (i := 15) rfl), gm gi_wsL_law0_r13 (List.mem_of_getElem? (i := 16) rfl), gm gi_wsL_law0_r3 (List.mem_of_getElem? (i := 6) rfl), (by decide +kernel), by decide, TX4, 4, rfl⟩
theorem lX6_58 : LV RX6 58 mX5_beginOfSearch 2 5 := ⟨by decide +kernel, rfl, gm gi_wsL_law0_r19 (List.mem_of_getElem? (i := 21) rfl), gm gi_wsL_law0_r19 (List.mem_of_getElem? (i := 18) rfl), gm gi_wsL_law0_r19 (List.mem_of_getElem? (i := 19) rfl), gm gi_wsL_law0_r19 (List.mem_of_getElem? (i := 20) rfl), gm gi_wsL_law0_r4 (List.mem_of_getElem? (i := 2) rfl), (by decide +kernel), by decide, TX5, 12, rfl⟩
theorem lX5_58 : LV RX5 58 mX4_cutTo 1 4 := ⟨by decide +kernel, rfl, gm gi_wsL_law0_r13 (List.mem_of_getElem? (i := 17) rfl), gm gi_wsL_law0_r20 (List.mem_of_getElem? (i := 1) rfl), gm gi_wsL_law0_r13 (List.mem_of_getElem? (i := 15) rfl), gm gi_wsL_law0_r13 (List.mem_of_getElem? (i := 16) rfl), gm gi_wsL_law0_r3 (List.mem_of_getElem? (i := 6) rfl), (by decide +kernel), by decide, TX4, 4, rfl⟩
theorem lX5_61 : LV RX5 61 mX5_begin 0 5 := ⟨by decide +kernel, rfl, gm gi_wsL_law0_r20 (List.mem_of_getElem? (i := 5) rfl), gm gi_wsL_law0_r20 (List.mem_of_getElem? (i := 2) rfl), gm gi_wsL_law0_r20 (List.mem_of_getElem? (i := 3) rfl), gm gi_wsL_law0_r20 (List.mem_of_getElem? (i := 4) rfl), gm gi_wsL_law0_r4 (List.mem_of_getElem? (i := 2) rfl), (by decide +kernel), by decide, TX5, 12, rfl⟩
theorem lX5_68 : LV RX5 68 mX4_size 0 4 := ⟨by decide +kernel, rfl, gm gi_wsL_law0_r20 (List.mem_of_getElem? (i := 11) rfl), gm gi_wsL_law0_r20 (List.mem_of_getElem? (i := 8) rfl), gm gi_wsL_law0_r20 (List.mem_of_getElem? (i := 9) rfl), gm gi_wsL_law0_r20 (List.mem_of_getElem? (i := 10) rfl), gm gi_wsL_law0_r3 (List.mem_of_getElem? (i := 6) rfl), (by decide +kernel), by decide, TX4, 4, rfl⟩
theorem lX5_75 : LSt RX5 75 mJ7_fill_53178 2 := ⟨by decide +kernel, rfl, gm gi_wsL_law0_r20 (List.mem_of_getElem? (i := 15) rfl), gm gi_wsL_law0_r20 (List.mem_of_getElem? (i := 12) rfl), gm gi_wsL_law0_r20 (List.mem_of_getElem? (i := 13) rfl), gm gi_wsL_law0_r20 (List.mem_of_getElem? (i := 14) rfl), (by decide +kernel), by decide⟩
theorem lX6_62 : LV RX6 62 mX6_tellInFull 2 6 := ⟨by decide +kernel, rfl, gm gi_wsL_law0_r20 (List.mem_of_getElem? (i := 19) rfl), gm gi_wsL_law0_r20 (List.mem_of_getElem? (i := 16) rfl), gm gi_wsL_law0_r20 (List.mem_of_getElem? (i := 17) rfl), gm gi_wsL_law0_r20 (List.mem_of_getElem? (i := 18) rfl), gm gi_wsL_law0_r2 (List.mem_of_getElem? (i := 23) rfl), (by decide +kernel), by decide, TX6, 10, rfl⟩
theorem lX6_66 : LV RX6 66 mX6_valueOf 2 6 := ⟨by decide +kernel, rfl, gm gi_wsL_law0_r24 (List.mem_of_getElem? (i := 10) rfl), gm gi_wsL_law0_r21 (List.mem_of_getElem? (i := 0) rfl), gm gi_wsL_law0_r21 (List.mem_of_getElem? (i := 1) rfl), gm gi_wsL_law0_r21 (List.mem_of_getElem? (i := 2) rfl), gm gi_wsL_law0_r2 (List.mem_of_getElem? (i := 23) rfl), (by decide +kernel), by decide, TX6, 10, rfl⟩
theorem lX6_76 : LV RX6 76 mX5_tell 2 5 := ⟨by decide +kernel, rfl, gm gi_wsL_law0_r21 (List.mem_of_getElem? (i := 6) rfl), gm gi_wsL_law0_r21 (List.mem_of_getElem? (i := 3) rfl), gm gi_wsL_law0_r21 (List.mem_of_getElem? (i := 4) rfl), gm gi_wsL_law0_r21 (List.mem_of_getElem? (i := 5) rfl), gm gi_wsL_law0_r4 (List.mem_of_getElem? (i := 2) rfl), (by decide +kernel), by decide, TX5, 12, rfl⟩
theorem lX5_64 : LV RX5 64 mX4_add 2 4 := ⟨by decide +kernel, rfl, gm gi_wsL_law0_r21 (List.mem_of_getElem? (i := 10) rfl), gm gi_wsL_law0_r21 (List.mem_of_getElem? (i := 7) rfl), gm gi_wsL_law0_r21 (List.mem_of_getElem? (i := 8) rfl), gm gi_wsL_law0_r21 (List.mem_of_getElem? (i := 9) rfl), gm gi_wsL_law0_r3 (List.mem_of_getElem? (i := 6) rfl), (by decide +kernel), by decide, TX4, 4, rfl⟩
theorem lX4_30 : LV RX4 30 mX4_makeRoom 1 4 := ⟨by decide +kernel, rfl, gm gi_wsL_law0_r21 (List.mem_of_getElem? (i := 14) rfl), gm gi_wsL_law0_r21 (List.mem_of_getElem? (i := 11) rfl), gm gi_wsL_law0_r21 (List.mem_of_getElem? (i := 12) rfl), gm gi_wsL_law0_r21 (List.mem_of_getElem? (i := 13) rfl), gm gi_wsL_law0_r3 (List.mem_of_getElem? (i := 6) rfl), (by decide +kernel), by decide, TX4, 4, rfl⟩
theorem lX4_48 : LSt RX4 48 mJ7_copyOf_59c91 2 := ⟨by decide +kernel, rfl, gm gi_wsL_law0_r21 (List.mem_of_getElem? (i := 21) rfl), gm gi_wsL_law0_r21 (List.mem_of_getElem? (i := 19) rfl), gm gi_wsL_law0_r21 (List.mem_of_getElem? (i := 20) rfl), gm gi_wsL_law0_r20 (List.mem_of_getElem? (i := 14) rfl), (by decide +kernel), by decide⟩
theorem lX4_54 : LSt RX4 54 mJ7_copyOf_c38d5 2 := ⟨by decide +kernel, rfl, gm gi_wsL_law0_r22 (List.mem_of_getElem? (i := 11) rfl), gm gi_wsL_law0_r22 (List.mem_of_getElem? (i := 9) rfl), gm gi_wsL_law0_r22 (List.mem_of_getElem? (i := 10) rfl), gm gi_wsL_law0_r20 (List.mem_of_getElem? (i := 14) rfl), (by decide +kernel), by decide⟩
theorem lX6_83 : LV RX6 83 mX5_tellAll 3 5 := ⟨by decide +kernel, rfl, gm gi_wsL_law0_r22 (List.mem_of_getElem? (i := 19) rfl), gm gi_wsL_law0_r22 (List.mem_of_getElem? (i := 16) rfl), gm gi_wsL_law0_r22 (List.mem_of_getElem? (i := 17) rfl), gm gi_wsL_law0_r22 (List.mem_of_getElem? (i := 18) rfl), gm gi_wsL_law0_r4 (List.mem_of_getElem? (i := 2) rfl), (by decide +kernel), by decide, TX5, 12, rfl⟩
theorem lX5_89 : LV RX5 89 mX4_addFrom 3 4 := ⟨by decide +kernel, rfl, gm gi_wsL_law0_r22 (List.mem_of_getElem? (i := 23) rfl), gm gi_wsL_law0_r22 (List.mem_of_getElem? (i := 20) rfl), gm gi_wsL_law0_r22 (List.mem_of_getElem? (i := 21) rfl), gm gi_wsL_law0_r22 (List.mem_of_getElem? (i := 22) rfl), gm gi_wsL_law0_r3 (List.mem_of_getElem? (i := 6) rfl), (by decide +kernel), by decide, TX4, 4, rfl⟩
theorem lX6_89 : LV RX6 89 mX2_firstOf 1 2 := ⟨by decide +kernel, rfl, gm gi_wsL_law0_r15 (List.mem_of_getElem? (i := 11) rfl), gm gi_wsL_law0_r23 (List.mem_of_getElem? (i := 1) rfl), gm gi_wsL_law0_r15 (List.mem_of_getElem? (i := 9) rfl), gm gi_wsL_law0_r15 (List.mem_of_getElem? (i := 10) rfl), gm gi_wsL_law0_r1 (List.mem_of_getElem? (i := 16) rfl), (by decide +kernel), by decide, TX2, 6, rfl⟩
theorem lX6_95 : LV RX6 95 mX2_secondOf 1 2 := ⟨by decide +kernel, rfl, gm gi_wsL_law0_r15 (List.mem_of_getElem? (i := 15) rfl), gm gi_wsL_law0_r23 (List.mem_of_getElem? (i := 2) rfl), gm gi_wsL_law0_r15 (List.mem_of_getElem? (i := 13) rfl), gm gi_wsL_law0_r15 (List.mem_of_getElem? (i := 14) rfl), gm gi_wsL_law0_r1 (List.mem_of_getElem? (i := 16) rfl), (by decide +kernel), by decide, TX2, 6, rfl⟩
theorem lX6_208 : LV RX6 208 mX5_beginOfSet 1 5 := ⟨by decide +kernel, rfl, gm gi_wsL_law0_r23 (List.mem_of_getElem? (i := 7) rfl), gm gi_wsL_law0_r23 (List.mem_of_getElem? (i := 4) rfl), gm gi_wsL_law0_r23 (List.mem_of_getElem? (i := 5) rfl), gm gi_wsL_law0_r23 (List.mem_of_getElem? (i := 6) rfl), gm gi_wsL_law0_r4 (List.mem_of_getElem? (i := 2) rfl), (by decide +kernel), by decide, TX5, 12, rfl⟩
theorem lX6_51 : LV RX6 51 mX5_tokens 0 5 := ⟨by decide +kernel, rfl, gm gi_wsL_law0_r23 (List.mem_of_getElem? (i := 12) rfl), gm gi_wsL_law0_r23 (List.mem_of_getElem? (i := 9) rfl), gm gi_wsL_law0_r23 (List.mem_of_getElem? (i := 10) rfl), gm gi_wsL_law0_r23 (List.mem_of_getElem? (i := 11) rfl), gm gi_wsL_law0_r4 (List.mem_of_getElem? (i := 2) rfl), (by decide +kernel), by decide, TX5, 12, rfl⟩
theorem lX6_197 : LV RX6 197 mX4_size 0 4 := ⟨by decide +kernel, rfl, gm gi_wsL_law0_r20 (List.mem_of_getElem? (i := 11) rfl), gm gi_wsL_law0_r23 (List.mem_of_getElem? (i := 13) rfl), gm gi_wsL_law0_r20 (List.mem_of_getElem? (i := 9) rfl), gm gi_wsL_law0_r20 (List.mem_of_getElem? (i := 10) rfl), gm gi_wsL_law0_r3 (List.mem_of_getElem? (i := 6) rfl), (by decide +kernel), by decide, TX4, 4, rfl⟩
theorem lX6_211 : LV RX6 211 mX5_listValue 0 5 := ⟨by decide +kernel, rfl, gm gi_wsL_law0_r23 (List.mem_of_getElem? (i := 17) rfl), gm gi_wsL_law0_r23 (List.mem_of_getElem? (i := 14) rfl), gm gi_wsL_law0_r23 (List.mem_of_getElem? (i := 15) rfl), gm gi_wsL_law0_r23 (List.mem_of_getElem? (i := 16) rfl), gm gi_wsL_law0_r4 (List.mem_of_getElem? (i := 2) rfl), (by decide +kernel), by decide, TX5, 12, rfl⟩
theorem lX5_81 : LV RX5 81 mX4_putNumber 2 4 := ⟨by decide +kernel, rfl, gm gi_wsL_law0_r23 (List.mem_of_getElem? (i := 21) rfl), gm gi_wsL_law0_r23 (List.mem_of_getElem? (i := 18) rfl), gm gi_wsL_law0_r23 (List.mem_of_getElem? (i := 19) rfl), gm gi_wsL_law0_r23 (List.mem_of_getElem? (i := 20) rfl), gm gi_wsL_law0_r3 (List.mem_of_getElem? (i := 6) rfl), (by decide +kernel), by decide, TX4, 4, rfl⟩
theorem lX4_26 : LV RX4 26 mX4_has 1 4 := ⟨by decide +kernel, rfl, gm gi_wsL_law0_r24 (List.mem_of_getElem? (i := 1) rfl), gm gi_wsL_law0_r23 (List.mem_of_getElem? (i := 22) rfl), gm gi_wsL_law0_r23 (List.mem_of_getElem? (i := 23) rfl), gm gi_wsL_law0_r24 (List.mem_of_getElem? (i := 0) rfl), gm gi_wsL_law0_r3 (List.mem_of_getElem? (i := 6) rfl), (by decide +kernel), by decide, TX4, 4, rfl⟩
theorem lX6_214 : LV RX6 214 mX5_dropValue 0 5 := ⟨by decide +kernel, rfl, gm gi_wsL_law0_r24 (List.mem_of_getElem? (i := 5) rfl), gm gi_wsL_law0_r24 (List.mem_of_getElem? (i := 2) rfl), gm gi_wsL_law0_r24 (List.mem_of_getElem? (i := 3) rfl), gm gi_wsL_law0_r24 (List.mem_of_getElem? (i := 4) rfl), gm gi_wsL_law0_r4 (List.mem_of_getElem? (i := 2) rfl), (by decide +kernel), by decide, TX5, 12, rfl⟩
theorem lX6_217 : LV RX6 217 mX5_turn 0 5 := ⟨by decide +kernel, rfl, gm gi_wsL_law0_r24 (List.mem_of_getElem? (i := 9) rfl), gm gi_wsL_law0_r24 (List.mem_of_getElem? (i := 6) rfl), gm gi_wsL_law0_r24 (List.mem_of_getElem? (i := 7) rfl), gm gi_wsL_law0_r24 (List.mem_of_getElem? (i := 8) rfl), gm gi_wsL_law0_r4 (List.mem_of_getElem? (i := 2) rfl), (by decide +kernel), by decide, TX5, 12, rfl⟩
theorem lX6_98 : LV RX6 98 mX6_homeOf 1 6 := ⟨by decide +kernel, rfl, gm gi_wsL_law0_r24 (List.mem_of_getElem? (i := 15) rfl), gm gi_wsL_law0_r24 (List.mem_of_getElem? (i := 12) rfl), gm gi_wsL_law0_r24 (List.mem_of_getElem? (i := 13) rfl), gm gi_wsL_law0_r24 (List.mem_of_getElem? (i := 14) rfl), gm gi_wsL_law0_r2 (List.mem_of_getElem? (i := 23) rfl), (by decide +kernel), by decide, TX6, 10, rfl⟩
theorem lX6_126 : LV RX6 126 mX5_isInside 1 5 := ⟨by decide +kernel, rfl, gm gi_wsL_law0_r24 (List.mem_of_getElem? (i := 19) rfl), gm gi_wsL_law0_r24 (List.mem_of_getElem? (i := 16) rfl), gm gi_wsL_law0_r24 (List.mem_of_getElem? (i := 17) rfl), gm gi_wsL_law0_r24 (List.mem_of_getElem? (i := 18) rfl), gm gi_wsL_law0_r4 (List.mem_of_getElem? (i := 2) rfl), (by decide +kernel), by decide, TX5, 12, rfl⟩
theorem lX6_129 : LV RX6 129 mX5_around 0 5 := ⟨by decide +kernel, rfl, gm gi_wsL_law0_r24 (List.mem_of_getElem? (i := 23) rfl), gm gi_wsL_law0_r24 (List.mem_of_getElem? (i := 20) rfl), gm gi_wsL_law0_r24 (List.mem_of_getElem? (i := 21) rfl), gm gi_wsL_law0_r24 (List.mem_of_getElem? (i := 22) rfl), gm gi_wsL_law0_r4 (List.mem_of_getElem? (i := 2) rfl), (by decide +kernel), by decide, TX5, 12, rfl⟩
theorem lX6_102 : LV RX6 102 mX5_hasValue 1 5 := ⟨by decide +kernel, rfl, gm gi_wsL_law0_r25 (List.mem_of_getElem? (i := 3) rfl), gm gi_wsL_law0_r25 (List.mem_of_getElem? (i := 0) rfl), gm gi_wsL_law0_r25 (List.mem_of_getElem? (i := 1) rfl), gm gi_wsL_law0_r25 (List.mem_of_getElem? (i := 2) rfl), gm gi_wsL_law0_r4 (List.mem_of_getElem? (i := 2) rfl), (by decide +kernel), by decide, TX5, 12, rfl⟩
theorem lX6_106 : LV RX6 106 mX5_kindOf 1 5 := ⟨by decide +kernel, rfl, gm gi_wsL_law0_r25 (List.mem_of_getElem? (i := 7) rfl), gm gi_wsL_law0_r25 (List.mem_of_getElem? (i := 4) rfl), gm gi_wsL_law0_r25 (List.mem_of_getElem? (i := 5) rfl), gm gi_wsL_law0_r25 (List.mem_of_getElem? (i := 6) rfl), gm gi_wsL_law0_r4 (List.mem_of_getElem? (i := 2) rfl), (by decide +kernel), by decide, TX5, 12, rfl⟩
theorem lX5_85 : LV RX5 85 mX5_hasValue 1 5 := ⟨by decide +kernel, rfl, gm gi_wsL_law0_r25 (List.mem_of_getElem? (i := 3) rfl), gm gi_wsL_law0_r25 (List.mem_of_getElem? (i := 8) rfl), gm gi_wsL_law0_r25 (List.mem_of_getElem? (i := 1) rfl), gm gi_wsL_law0_r25 (List.mem_of_getElem? (i := 2) rfl), gm gi_wsL_law0_r4 (List.mem_of_getElem? (i := 2) rfl), (by decide +kernel), by decide, TX5, 12, rfl⟩
theorem lX6_109 : LV RX6 109 mX5_numberOf 1 5 := ⟨by decide +kernel, rfl, gm gi_wsL_law0_r25 (List.mem_of_getElem? (i := 12) rfl), gm gi_wsL_law0_r25 (List.mem_of_getElem? (i := 9) rfl), gm gi_wsL_law0_r25 (List.mem_of_getElem? (i := 10) rfl), gm gi_wsL_law0_r25 (List.mem_of_getElem? (i := 11) rfl), gm gi_wsL_law0_r4 (List.mem_of_getElem? (i := 2) rfl), (by decide +kernel), by decide, TX5, 12, rfl⟩
theorem lX6_113 : LV RX6 113 mX5_lengthOf 1 5 := ⟨by decide +kernel, rfl, gm gi_wsL_law0_r25 (List.mem_of_getElem? (i := 16) rfl), gm gi_wsL_law0_r25 (List.mem_of_getElem? (i := 13) rfl), gm gi_wsL_law0_r25 (List.mem_of_getElem? (i := 14) rfl), gm gi_wsL_law0_r25 (List.mem_of_getElem? (i := 15) rfl), gm gi_wsL_law0_r4 (List.mem_of_getElem? (i := 2) rfl), (by decide +kernel), by decide, TX5, 12, rfl⟩
theorem lX6_116 : LV RX6 116 mX6_take 3 6 := ⟨by decide +kernel, rfl, gm gi_wsL_law0_r25 (List.mem_of_getElem? (i := 20) rfl), gm gi_wsL_law0_r25 (List.mem_of_getElem? (i := 17) rfl), gm gi_wsL_law0_r25 (List.mem_of_getElem? (i := 18) rfl), gm gi_wsL_law0_r25 (List.mem_of_getElem? (i := 19) rfl), gm gi_wsL_law0_r2 (List.mem_of_getElem? (i := 23) rfl), (by decide +kernel), by decide, TX6, 10, rfl⟩
theorem lX6_123 : LV RX6 123 mX6_workOut 1 6 := ⟨by decide +kernel, rfl, gm gi_wsL_law0_r27 (List.mem_of_getElem? (i := 8) rfl), gm gi_wsL_law0_r25 (List.mem_of_getElem? (i := 21) rfl), gm gi_wsL_law0_r25 (List.mem_of_getElem? (i := 22) rfl), gm gi_wsL_law0_r25 (List.mem_of_getElem? (i := 23) rfl), gm gi_wsL_law0_r2 (List.mem_of_getElem? (i := 23) rfl), (by decide +kernel), by decide, TX6, 10, rfl⟩
theorem lX6_164 : LV RX6 164 mX5_decide 0 5 := ⟨by decide +kernel, rfl, gm gi_wsL_law0_r26 (List.mem_of_getElem? (i := 4) rfl), gm gi_wsL_law0_r26 (List.mem_of_getElem? (i := 1) rfl), gm gi_wsL_law0_r26 (List.mem_of_getElem? (i := 2) rfl), gm gi_wsL_law0_r26 (List.mem_of_getElem? (i := 3) rfl), gm gi_wsL_law0_r4 (List.mem_of_getElem? (i := 2) rfl), (by decide +kernel), by decide, TX5, 12, rfl⟩
theorem lX6_174 : LV RX6 174 mX4_numberAt 1 4 := ⟨by decide +kernel, rfl, gm gi_wsL_law0_r26 (List.mem_of_getElem? (i := 9) rfl), gm gi_wsL_law0_r26 (List.mem_of_getElem? (i := 6) rfl), gm gi_wsL_law0_r26 (List.mem_of_getElem? (i := 7) rfl), gm gi_wsL_law0_r26 (List.mem_of_getElem? (i := 8) rfl), gm gi_wsL_law0_r3 (List.mem_of_getElem? (i := 6) rfl), (by decide +kernel), by decide, TX4, 4, rfl⟩
theorem lX6_137 : LV RX6 137 mX6_takeNumber 1 6 := ⟨by decide +kernel, rfl, gm gi_wsL_law0_r26 (List.mem_of_getElem? (i := 13) rfl), gm gi_wsL_law0_r26 (List.mem_of_getElem? (i := 10) rfl), gm gi_wsL_law0_r26 (List.mem_of_getElem? (i := 11) rfl), gm gi_wsL_law0_r26 (List.mem_of_getElem? (i := 12) rfl), gm gi_wsL_law0_r2 (List.mem_of_getElem? (i := 23) rfl), (by decide +kernel), by decide, TX6, 10, rfl⟩
theorem lX6_177 : LV RX6 177 mX6_foldNumbers 3 6 := ⟨by decide +kernel, rfl, gm gi_wsL_law0_r26 (List.mem_of_getElem? (i := 17) rfl), gm gi_wsL_law0_r26 (List.mem_of_getElem? (i := 14) rfl), gm gi_wsL_law0_r26 (List.mem_of_getElem? (i := 15) rfl), gm gi_wsL_law0_r26 (List.mem_of_getElem? (i := 16) rfl), gm gi_wsL_law0_r2 (List.mem_of_getElem? (i := 23) rfl), (by decide +kernel), by decide, TX6, 10, rfl⟩
theorem lX6_185 : LV RX6 185 mX4_kindAt 1 4 := ⟨by decide +kernel, rfl, gm gi_wsL_law0_r27 (List.mem_of_getElem? (i := 1) rfl), gm gi_wsL_law0_r26 (List.mem_of_getElem? (i := 22) rfl), gm gi_wsL_law0_r26 (List.mem_of_getElem? (i := 23) rfl), gm gi_wsL_law0_r27 (List.mem_of_getElem? (i := 0) rfl), gm gi_wsL_law0_r3 (List.mem_of_getElem? (i := 6) rfl), (by decide +kernel), by decide, TX4, 4, rfl⟩
theorem lX6_167 : LV RX6 167 mX2_thirdOf 1 2 := ⟨by decide +kernel, rfl, gm gi_wsL_law0_r15 (List.mem_of_getElem? (i := 19) rfl), gm gi_wsL_law0_r27 (List.mem_of_getElem? (i := 3) rfl), gm gi_wsL_law0_r15 (List.mem_of_getElem? (i := 17) rfl), gm gi_wsL_law0_r15 (List.mem_of_getElem? (i := 18) rfl), gm gi_wsL_law0_r1 (List.mem_of_getElem? (i := 16) rfl), (by decide +kernel), by decide, TX2, 6, rfl⟩
theorem lX6_170 : LV RX6 170 mX6_reckon 3 6 := ⟨by decide +kernel, rfl, gm gi_wsL_law0_r27 (List.mem_of_getElem? (i := 7) rfl), gm gi_wsL_law0_r27 (List.mem_of_getElem? (i := 4) rfl), gm gi_wsL_law0_r27 (List.mem_of_getElem? (i := 5) rfl), gm gi_wsL_law0_r27 (List.mem_of_getElem? (i := 6) rfl), gm gi_wsL_law0_r2 (List.mem_of_getElem? (i := 23) rfl), (by decide +kernel), by decide, TX6, 10, rfl⟩
theorem lX6_133 : LV RX6 133 mX2_sortOf 1 2 := ⟨by decide +kernel, rfl, gm gi_wsL_law0_r15 (List.mem_of_getElem? (i := 6) rfl), gm gi_wsL_law0_r27 (List.mem_of_getElem? (i := 9) rfl), gm gi_wsL_law0_r15 (List.mem_of_getElem? (i := 4) rfl), gm gi_wsL_law0_r15 (List.mem_of_getElem? (i := 5) rfl), gm gi_wsL_law0_r1 (List.mem_of_getElem? (i := 16) rfl), (by decide +kernel), by decide, TX2, 6, rfl⟩
theorem lX6_136 : LV RX6 136 mX2_numberOf 1 2 := ⟨by decide +kernel, rfl, gm gi_wsL_law0_r27 (List.mem_of_getElem? (i := 13) rfl), gm gi_wsL_law0_r27 (List.mem_of_getElem? (i := 10) rfl), gm gi_wsL_law0_r27 (List.mem_of_getElem? (i := 11) rfl), gm gi_wsL_law0_r27 (List.mem_of_getElem? (i := 12) rfl), gm gi_wsL_law0_r1 (List.mem_of_getElem? (i := 16) rfl), (by decide +kernel), by decide, TX2, 6, rfl⟩
theorem lX6_141 : LV RX6 141 mX6_workChoice 1 6 := ⟨by decide +kernel, rfl, gm gi_wsL_law0_r26 (List.mem_of_getElem? (i := 0) rfl), gm gi_wsL_law0_r27 (List.mem_of_getElem? (i := 14) rfl), gm gi_wsL_law0_r27 (List.mem_of_getElem? (i := 15) rfl), gm gi_wsL_law0_r27 (List.mem_of_getElem? (i := 16) rfl), gm gi_wsL_law0_r2 (List.mem_of_getElem? (i := 23) rfl), (by decide +kernel), by decide, TX6, 10, rfl⟩
theorem lX6_144 : LV RX6 144 mX6_workPart 2 6 := ⟨by decide +kernel, rfl, gm gi_wsL_law0_r28 (List.mem_of_getElem? (i := 12) rfl), gm gi_wsL_law0_r27 (List.mem_of_getElem? (i := 17) rfl), gm gi_wsL_law0_r27 (List.mem_of_getElem? (i := 18) rfl), gm gi_wsL_law0_r27 (List.mem_of_getElem? (i := 19) rfl), gm gi_wsL_law0_r2 (List.mem_of_getElem? (i := 23) rfl), (by decide +kernel), by decide, TX6, 10, rfl⟩
theorem lX6_148 : LV RX6 148 mX6_workOp 1 6 := ⟨by decide +kernel, rfl, gm gi_wsL_law0_r27 (List.mem_of_getElem? (i := 2) rfl), gm gi_wsL_law0_r27 (List.mem_of_getElem? (i := 20) rfl), gm gi_wsL_law0_r27 (List.mem_of_getElem? (i := 21) rfl), gm gi_wsL_law0_r27 (List.mem_of_getElem? (i := 22) rfl), gm gi_wsL_law0_r2 (List.mem_of_getElem? (i := 23) rfl), (by decide +kernel), by decide, TX6, 10, rfl⟩
theorem lX6_151 : LV RX6 151 mX6_workWhen 1 6 := ⟨by decide +kernel, rfl, gm gi_wsL_law0_r29 (List.mem_of_getElem? (i := 2) rfl), gm gi_wsL_law0_r27 (List.mem_of_getElem? (i := 23) rfl), gm gi_wsL_law0_r28 (List.mem_of_getElem? (i := 0) rfl), gm gi_wsL_law0_r28 (List.mem_of_getElem? (i := 1) rfl), gm gi_wsL_law0_r2 (List.mem_of_getElem? (i := 23) rfl), (by decide +kernel), by decide, TX6, 10, rfl⟩
theorem lX6_154 : LV RX6 154 mX6_workSet 1 6 := ⟨by decide +kernel, rfl, gm gi_wsL_law0_r28 (List.mem_of_getElem? (i := 13) rfl), gm gi_wsL_law0_r28 (List.mem_of_getElem? (i := 2) rfl), gm gi_wsL_law0_r28 (List.mem_of_getElem? (i := 3) rfl), gm gi_wsL_law0_r28 (List.mem_of_getElem? (i := 4) rfl), gm gi_wsL_law0_r2 (List.mem_of_getElem? (i := 23) rfl), (by decide +kernel), by decide, TX6, 10, rfl⟩
theorem lX6_157 : LV RX6 157 mX6_workFold 1 6 := ⟨by decide +kernel, rfl, gm gi_wsL_law0_r26 (List.mem_of_getElem? (i := 5) rfl), gm gi_wsL_law0_r28 (List.mem_of_getElem? (i := 5) rfl), gm gi_wsL_law0_r28 (List.mem_of_getElem? (i := 6) rfl), gm gi_wsL_law0_r28 (List.mem_of_getElem? (i := 7) rfl), gm gi_wsL_law0_r2 (List.mem_of_getElem? (i := 23) rfl), (by decide +kernel), by decide, TX6, 10, rfl⟩
theorem lX6_160 : LV RX6 160 mX5_keep 4 5 := ⟨by decide +kernel, rfl, gm gi_wsL_law0_r28 (List.mem_of_getElem? (i := 11) rfl), gm gi_wsL_law0_r28 (List.mem_of_getElem? (i := 8) rfl), gm gi_wsL_law0_r28 (List.mem_of_getElem? (i := 9) rfl), gm gi_wsL_law0_r28 (List.mem_of_getElem? (i := 10) rfl), gm gi_wsL_law0_r4 (List.mem_of_getElem? (i := 2) rfl), (by decide +kernel), by decide, TX5, 12, rfl⟩
theorem lX6_194 : LV RX6 194 mX5_inner 0 5 := ⟨by decide +kernel, rfl, gm gi_wsL_law0_r28 (List.mem_of_getElem? (i := 17) rfl), gm gi_wsL_law0_r28 (List.mem_of_getElem? (i := 14) rfl), gm gi_wsL_law0_r28 (List.mem_of_getElem? (i := 15) rfl), gm gi_wsL_law0_r28 (List.mem_of_getElem? (i := 16) rfl), gm gi_wsL_law0_r4 (List.mem_of_getElem? (i := 2) rfl), (by decide +kernel), by decide, TX5, 12, rfl⟩
theorem lX6_200 : LV RX6 200 mX6_goWaysOfSet 3 6 := ⟨by decide +kernel, rfl, gm gi_wsL_law0_r23 (List.mem_of_getElem? (i := 3) rfl), gm gi_wsL_law0_r28 (List.mem_of_getElem? (i := 18) rfl), gm gi_wsL_law0_r28 (List.mem_of_getElem? (i := 19) rfl), gm gi_wsL_law0_r28 (List.mem_of_getElem? (i := 20) rfl), gm gi_wsL_law0_r2 (List.mem_of_getElem? (i := 23) rfl), (by decide +kernel), by decide, TX6, 10, rfl⟩
theorem lX6_204 : LV RX6 204 mX6_takeList 1 6 := ⟨by decide +kernel, rfl, gm gi_wsL_law0_r29 (List.mem_of_getElem? (i := 0) rfl), gm gi_wsL_law0_r28 (List.mem_of_getElem? (i := 21) rfl), gm gi_wsL_law0_r28 (List.mem_of_getElem? (i := 22) rfl), gm gi_wsL_law0_r28 (List.mem_of_getElem? (i := 23) rfl), gm gi_wsL_law0_r2 (List.mem_of_getElem? (i := 23) rfl), (by decide +kernel), by decide, TX6, 10, rfl⟩
theorem lX6_221 : LV RX6 221 mX4_addFrom 3 4 := ⟨by decide +kernel, rfl, gm gi_wsL_law0_r22 (List.mem_of_getElem? (i := 23) rfl), gm gi_wsL_law0_r29 (List.mem_of_getElem? (i := 1) rfl), gm gi_wsL_law0_r22 (List.mem_of_getElem? (i := 21) rfl), gm gi_wsL_law0_r22 (List.mem_of_getElem? (i := 22) rfl), gm gi_wsL_law0_r3 (List.mem_of_getElem? (i := 6) rfl), (by decide +kernel), by decide, TX4, 4, rfl⟩
theorem lX3_119 : LV RX3 119 mX6_decisions 0 6 := ⟨by decide +kernel, rfl, gm gi_wsL_law0_r29 (List.mem_of_getElem? (i := 6) rfl), gm gi_wsL_law0_r29 (List.mem_of_getElem? (i := 3) rfl), gm gi_wsL_law0_r29 (List.mem_of_getElem? (i := 4) rfl), gm gi_wsL_law0_r29 (List.mem_of_getElem? (i := 5) rfl), gm gi_wsL_law0_r2 (List.mem_of_getElem? (i := 23) rfl), (by decide +kernel), by decide, TX6, 10, rfl⟩
theorem lX6_47 : LV RX6 47 mX5_decisions 0 5 := ⟨by decide +kernel, rfl, gm gi_wsL_law0_r29 (List.mem_of_getElem? (i := 10) rfl), gm gi_wsL_law0_r29 (List.mem_of_getElem? (i := 7) rfl), gm gi_wsL_law0_r29 (List.mem_of_getElem? (i := 8) rfl), gm gi_wsL_law0_r29 (List.mem_of_getElem? (i := 9) rfl), gm gi_wsL_law0_r4 (List.mem_of_getElem? (i := 2) rfl), (by decide +kernel), by decide, TX5, 12, rfl⟩
theorem lX3_122 : LV RX3 122 mX3_putOtherAlternatives 2 3 := ⟨by decide +kernel, rfl, gm gi_wsL_law0_r29 (List.mem_of_getElem? (i := 14) rfl), gm gi_wsL_law0_r29 (List.mem_of_getElem? (i := 11) rfl), gm gi_wsL_law0_r29 (List.mem_of_getElem? (i := 12) rfl), gm gi_wsL_law0_r29 (List.mem_of_getElem? (i := 13) rfl), gm gi_wsL_law0_r1 (List.mem_of_getElem? (i := 20) rfl), (by decide +kernel), by decide, TX3, 15, rfl⟩
theorem lX3_125 : LV RX3 125 mX3_endsAsValue 2 3 := ⟨by decide +kernel, rfl, gm gi_wsL_law0_r29 (List.mem_of_getElem? (i := 18) rfl), gm gi_wsL_law0_r29 (List.mem_of_getElem? (i := 15) rfl), gm gi_wsL_law0_r29 (List.mem_of_getElem? (i := 16) rfl), gm gi_wsL_law0_r29 (List.mem_of_getElem? (i := 17) rfl), gm gi_wsL_law0_r1 (List.mem_of_getElem? (i := 20) rfl), (by decide +kernel), by decide, TX3, 15, rfl⟩
theorem lX3_129 : LV RX3 129 mX1_keep 2 1 := ⟨by decide +kernel, rfl, gm gi_wsL_law0_r29 (List.mem_of_getElem? (i := 22) rfl), gm gi_wsL_law0_r29 (List.mem_of_getElem? (i := 19) rfl), gm gi_wsL_law0_r29 (List.mem_of_getElem? (i := 20) rfl), gm gi_wsL_law0_r29 (List.mem_of_getElem? (i := 21) rfl), gm gi_wsL_law0_r2 (List.mem_of_getElem? (i := 13) rfl), (by decide +kernel), by decide, TX1, 4, rfl⟩
theorem lX1_34 : LV RX1 34 mX6_tokens 0 6 := ⟨by decide +kernel, rfl, gm gi_wsL_law0_r30 (List.mem_of_getElem? (i := 2) rfl), gm gi_wsL_law0_r29 (List.mem_of_getElem? (i := 23) rfl), gm gi_wsL_law0_r30 (List.mem_of_getElem? (i := 0) rfl), gm gi_wsL_law0_r30 (List.mem_of_getElem? (i := 1) rfl), gm gi_wsL_law0_r2 (List.mem_of_getElem? (i := 23) rfl), (by decide +kernel), by decide, TX6, 10, rfl⟩
theorem lX1_39 : LV RX1 39 mX4_size 0 4 := ⟨by decide +kernel, rfl, gm gi_wsL_law0_r20 (List.mem_of_getElem? (i := 11) rfl), gm gi_wsL_law0_r30 (List.mem_of_getElem? (i := 3) rfl), gm gi_wsL_law0_r20 (List.mem_of_getElem? (i := 9) rfl), gm gi_wsL_law0_r20 (List.mem_of_getElem? (i := 10) rfl), gm gi_wsL_law0_r3 (List.mem_of_getElem? (i := 6) rfl), (by decide +kernel), by decide, TX4, 4, rfl⟩
theorem lX1_43 : LV RX1 43 mX4_addFrom 3 4 := ⟨by decide +kernel, rfl, gm gi_wsL_law0_r22 (List.mem_of_getElem? (i := 23) rfl), gm gi_wsL_law0_r30 (List.mem_of_getElem? (i := 4) rfl), gm gi_wsL_law0_r22 (List.mem_of_getElem? (i := 21) rfl), gm gi_wsL_law0_r22 (List.mem_of_getElem? (i := 22) rfl), gm gi_wsL_law0_r3 (List.mem_of_getElem? (i := 6) rfl), (by decide +kernel), by decide, TX4, 4, rfl⟩
theorem lX1_47 : LV RX1 47 mX6_decisions 0 6 := ⟨by decide +kernel, rfl, gm gi_wsL_law0_r29 (List.mem_of_getElem? (i := 6) rfl), gm gi_wsL_law0_r30 (List.mem_of_getElem? (i := 5) rfl), gm gi_wsL_law0_r29 (List.mem_of_getElem? (i := 4) rfl), gm gi_wsL_law0_r29 (List.mem_of_getElem? (i := 5) rfl), gm gi_wsL_law0_r2 (List.mem_of_getElem? (i := 23) rfl), (by decide +kernel), by decide, TX6, 10, rfl⟩
theorem lX1_49 : LV RX1 49 mX6_labour 0 6 := ⟨by decide +kernel, rfl, gm gi_wsL_law0_r30 (List.mem_of_getElem? (i := 9) rfl), gm gi_wsL_law0_r30 (List.mem_of_getElem? (i := 6) rfl), gm gi_wsL_law0_r30 (List.mem_of_getElem? (i := 7) rfl), gm gi_wsL_law0_r30 (List.mem_of_getElem? (i := 8) rfl), gm gi_wsL_law0_r2 (List.mem_of_getElem? (i := 23) rfl), (by decide +kernel), by decide, TX6, 10, rfl⟩
theorem lX3_133 : LV RX3 133 mX3_stopAtDecision 2 3 := ⟨by decide +kernel, rfl, gm gi_wsL_law0_r30 (List.mem_of_getElem? (i := 13) rfl), gm gi_wsL_law0_r30 (List.mem_of_getElem? (i := 10) rfl), gm gi_wsL_law0_r30 (List.mem_of_getElem? (i := 11) rfl), gm gi_wsL_law0_r30 (List.mem_of_getElem? (i := 12) rfl), gm gi_wsL_law0_r1 (List.mem_of_getElem? (i := 20) rfl), (by decide +kernel), by decide, TX3, 15, rfl⟩
theorem lL_112 : LV RL 112 mX8_next 0 8 := ⟨by decide +kernel, rfl, gm gi_wsL_law0_r30 (List.mem_of_getElem? (i := 17) rfl), gm gi_wsL_law0_r30 (List.mem_of_getElem? (i := 14) rfl), gm gi_wsL_law0_r30 (List.mem_of_getElem? (i := 15) rfl), gm gi_wsL_law0_r30 (List.mem_of_getElem? (i := 16) rfl), gm gi_wsL_law0_r1 (List.mem_of_getElem? (i := 5) rfl), (by decide +kernel), by decide, TX8, 53, rfl⟩
theorem lX8_255 : LV RX8 255 mX8_fetch 0 8 := ⟨by decide +kernel, rfl, gm gi_wsL_law0_r30 (List.mem_of_getElem? (i := 22) rfl), gm gi_wsL_law0_r30 (List.mem_of_getElem? (i := 19) rfl), gm gi_wsL_law0_r30 (List.mem_of_getElem? (i := 20) rfl), gm gi_wsL_law0_r30 (List.mem_of_getElem? (i := 21) rfl), gm gi_wsL_law0_r1 (List.mem_of_getElem? (i := 5) rfl), (by decide +kernel), by decide, TX8, 53, rfl⟩
theorem lX8_259 : LV RX8 259 mX8_go 1 8 := ⟨by decide +kernel, rfl, gm gi_wsL_law0_r31 (List.mem_of_getElem? (i := 2) rfl), gm gi_wsL_law0_r30 (List.mem_of_getElem? (i := 23) rfl), gm gi_wsL_law0_r31 (List.mem_of_getElem? (i := 0) rfl), gm gi_wsL_law0_r31 (List.mem_of_getElem? (i := 1) rfl), gm gi_wsL_law0_r1 (List.mem_of_getElem? (i := 5) rfl), (by decide +kernel), by decide, TX8, 53, rfl⟩
theorem lX8_187 : LV RX8 187 mX8_beginWay 0 8 := ⟨by decide +kernel, rfl, gm gi_wsL_law0_r31 (List.mem_of_getElem? (i := 9) rfl), gm gi_wsL_law0_r31 (List.mem_of_getElem? (i := 6) rfl), gm gi_wsL_law0_r31 (List.mem_of_getElem? (i := 7) rfl), gm gi_wsL_law0_r31 (List.mem_of_getElem? (i := 8) rfl), gm gi_wsL_law0_r1 (List.mem_of_getElem? (i := 5) rfl), (by decide +kernel), by decide, TX8, 53, rfl⟩
theorem lX8_179 : LV RX8 179 mX8_tellFull 1 8 := ⟨by decide +kernel, rfl, gm gi_wsL_law0_r31 (List.mem_of_getElem? (i := 13) rfl), gm gi_wsL_law0_r31 (List.mem_of_getElem? (i := 10) rfl), gm gi_wsL_law0_r31 (List.mem_of_getElem? (i := 11) rfl), gm gi_wsL_law0_r31 (List.mem_of_getElem? (i := 12) rfl), gm gi_wsL_law0_r1 (List.mem_of_getElem? (i := 5) rfl), (by decide +kernel), by decide, TX8, 53, rfl⟩
theorem lX8_168 : LV RX8 168 mX8_need 1 8 := ⟨by decide +kernel, rfl, gm gi_wsL_law0_r33 (List.mem_of_getElem? (i := 18) rfl), gm gi_wsL_law0_r31 (List.mem_of_getElem? (i := 15) rfl), gm gi_wsL_law0_r31 (List.mem_of_getElem? (i := 16) rfl), gm gi_wsL_law0_r31 (List.mem_of_getElem? (i := 17) rfl), gm gi_wsL_law0_r1 (List.mem_of_getElem? (i := 5) rfl), (by decide +kernel), by decide, TX8, 53, rfl⟩
theorem lX8_153 : LV RX8 153 mX8_cellOf 1 8 := ⟨by decide +kernel, rfl, gm gi_wsL_law0_r31 (List.mem_of_getElem? (i := 21) rfl), gm gi_wsL_law0_r31 (List.mem_of_getElem? (i := 18) rfl), gm gi_wsL_law0_r31 (List.mem_of_getElem? (i := 19) rfl), gm gi_wsL_law0_r31 (List.mem_of_getElem? (i := 20) rfl), gm gi_wsL_law0_r1 (List.mem_of_getElem? (i := 5) rfl), (by decide +kernel), by decide, TX8, 53, rfl⟩
theorem lX8_122 : LV RX8 122 mX8_levelOf 1 8 := ⟨by decide +kernel, rfl, gm gi_wsL_law0_r32 (List.mem_of_getElem? (i := 1) rfl), gm gi_wsL_law0_r31 (List.mem_of_getElem? (i := 22) rfl), gm gi_wsL_law0_r31 (List.mem_of_getElem? (i := 23) rfl), gm gi_wsL_law0_r32 (List.mem_of_getElem? (i := 0) rfl), gm gi_wsL_law0_r1 (List.mem_of_getElem? (i := 5) rfl), (by decide +kernel), by decide, TX8, 53, rfl⟩
theorem lX8_171 : LV RX8 171 mX8_token 2 8 := ⟨by decide +kernel, rfl, gm gi_wsL_law0_r32 (List.mem_of_getElem? (i := 5) rfl), gm gi_wsL_law0_r32 (List.mem_of_getElem? (i := 2) rfl), gm gi_wsL_law0_r32 (List.mem_of_getElem? (i := 3) rfl), gm gi_wsL_law0_r32 (List.mem_of_getElem? (i := 4) rfl), gm gi_wsL_law0_r1 (List.mem_of_getElem? (i := 5) rfl), (by decide +kernel), by decide, TX8, 53, rfl⟩
theorem lX8_174 : LV RX8 174 mX8_behind 1 8 := ⟨by decide +kernel, rfl, gm gi_wsL_law0_r32 (List.mem_of_getElem? (i := 9) rfl), gm gi_wsL_law0_r32 (List.mem_of_getElem? (i := 6) rfl), gm gi_wsL_law0_r32 (List.mem_of_getElem? (i := 7) rfl), gm gi_wsL_law0_r32 (List.mem_of_getElem? (i := 8) rfl), gm gi_wsL_law0_r1 (List.mem_of_getElem? (i := 5) rfl), (by decide +kernel), by decide, TX8, 53, rfl⟩
theorem lX8_156 : LV RX8 156 mX8_take 2 8 := ⟨by decide +kernel, rfl, gm gi_wsL_law0_r34 (List.mem_of_getElem? (i := 0) rfl), gm gi_wsL_law0_r32 (List.mem_of_getElem? (i := 12) rfl), gm gi_wsL_law0_r32 (List.mem_of_getElem? (i := 13) rfl), gm gi_wsL_law0_r32 (List.mem_of_getElem? (i := 14) rfl), gm gi_wsL_law0_r1 (List.mem_of_getElem? (i := 5) rfl), (by decide +kernel), by decide, TX8, 53, rfl⟩
theorem lX8_150 : LV RX8 150 mX8_needAs 2 8 := ⟨by decide +kernel, rfl, gm gi_wsL_law0_r33 (List.mem_of_getElem? (i := 22) rfl), gm gi_wsL_law0_r32 (List.mem_of_getElem? (i := 16) rfl), gm gi_wsL_law0_r32 (List.mem_of_getElem? (i := 17) rfl), gm gi_wsL_law0_r32 (List.mem_of_getElem? (i := 18) rfl), gm gi_wsL_law0_r1 (List.mem_of_getElem? (i := 5) rfl), (by decide +kernel), by decide, TX8, 53, rfl⟩
theorem lX8_142 : LV RX8 142 mX8_tell 2 8 := ⟨by decide +kernel, rfl, gm gi_wsL_law0_r32 (List.mem_of_getElem? (i := 22) rfl), gm gi_wsL_law0_r32 (List.mem_of_getElem? (i := 19) rfl), gm gi_wsL_law0_r32 (List.mem_of_getElem? (i := 20) rfl), gm gi_wsL_law0_r32 (List.mem_of_getElem? (i := 21) rfl), gm gi_wsL_law0_r1 (List.mem_of_getElem? (i := 5) rfl), (by decide +kernel), by decide, TX8, 53, rfl⟩
theorem lX8_190 : LV RX8 190 mX8_collect 0 8 := ⟨by decide +kernel, rfl, gm gi_wsL_law0_r33 (List.mem_of_getElem? (i := 5) rfl), gm gi_wsL_law0_r33 (List.mem_of_getElem? (i := 2) rfl), gm gi_wsL_law0_r33 (List.mem_of_getElem? (i := 3) rfl), gm gi_wsL_law0_r33 (List.mem_of_getElem? (i := 4) rfl), gm gi_wsL_law0_r1 (List.mem_of_getElem? (i := 5) rfl), (by decide +kernel), by decide, TX8, 53, rfl⟩
theorem lX8_193 : LV RX8 193 mX8_nextWay 0 8 := ⟨by decide +kernel, rfl, gm gi_wsL_law0_r33 (List.mem_of_getElem? (i := 9) rfl), gm gi_wsL_law0_r33 (List.mem_of_getElem? (i := 6) rfl), gm gi_wsL_law0_r33 (List.mem_of_getElem? (i := 7) rfl), gm gi_wsL_law0_r33 (List.mem_of_getElem? (i := 8) rfl), gm gi_wsL_law0_r1 (List.mem_of_getElem? (i := 5) rfl), (by decide +kernel), by decide, TX8, 53, rfl⟩
theorem lX8_197 : LV RX8 197 mX8_keep 2 8 := ⟨by decide +kernel, rfl, gm gi_wsL_law0_r33 (List.mem_of_getElem? (i := 13) rfl), gm gi_wsL_law0_r33 (List.mem_of_getElem? (i := 10) rfl), gm gi_wsL_law0_r33 (List.mem_of_getElem? (i := 11) rfl), gm gi_wsL_law0_r33 (List.mem_of_getElem? (i := 12) rfl), gm gi_wsL_law0_r1 (List.mem_of_getElem? (i := 5) rfl), (by decide +kernel), by decide, TX8, 53, rfl⟩
theorem lX8_200 : LV RX8 200 mX8_lay 2 8 := ⟨by decide +kernel, rfl, gm gi_wsL_law0_r33 (List.mem_of_getElem? (i := 17) rfl), gm gi_wsL_law0_r33 (List.mem_of_getElem? (i := 14) rfl), gm gi_wsL_law0_r33 (List.mem_of_getElem? (i := 15) rfl), gm gi_wsL_law0_r33 (List.mem_of_getElem? (i := 16) rfl), gm gi_wsL_law0_r1 (List.mem_of_getElem? (i := 5) rfl), (by decide +kernel), by decide, TX8, 53, rfl⟩
theorem lX8_138 : LV RX8 138 mX8_workOut 1 8 := ⟨by decide +kernel, rfl, gm gi_wsL_law0_r34 (List.mem_of_getElem? (i := 1) rfl), gm gi_wsL_law0_r33 (List.mem_of_getElem? (i := 19) rfl), gm gi_wsL_law0_r33 (List.mem_of_getElem? (i := 20) rfl), gm gi_wsL_law0_r33 (List.mem_of_getElem? (i := 21) rfl), gm gi_wsL_law0_r1 (List.mem_of_getElem? (i := 5) rfl), (by decide +kernel), by decide, TX8, 53, rfl⟩
theorem lX8_146 : LV RX8 146 mX8_choose 2 8 := ⟨by decide +kernel, rfl, gm gi_wsL_law0_r32 (List.mem_of_getElem? (i := 11) rfl), gm gi_wsL_law0_r34 (List.mem_of_getElem? (i := 2) rfl), gm gi_wsL_law0_r34 (List.mem_of_getElem? (i := 3) rfl), gm gi_wsL_law0_r34 (List.mem_of_getElem? (i := 4) rfl), gm gi_wsL_law0_r1 (List.mem_of_getElem? (i := 5) rfl), (by decide +kernel), by decide, TX8, 53, rfl⟩
theorem lX8_159 : LV RX8 159 mX8_reckon 2 8 := ⟨by decide +kernel, rfl, gm gi_wsL_law0_r33 (List.mem_of_getElem? (i := 23) rfl), gm gi_wsL_law0_r34 (List.mem_of_getElem? (i := 5) rfl), gm gi_wsL_law0_r34 (List.mem_of_getElem? (i := 6) rfl), gm gi_wsL_law0_r34 (List.mem_of_getElem? (i := 7) rfl), gm gi_wsL_law0_r1 (List.mem_of_getElem? (i := 5) rfl), (by decide +kernel), by decide, TX8, 53, rfl⟩
theorem lX8_162 : LV RX8 162 mX8_goAll 2 8 := ⟨by decide +kernel, rfl, gm gi_wsL_law0_r32 (List.mem_of_getElem? (i := 23) rfl), gm gi_wsL_law0_r34 (List.mem_of_getElem? (i := 8) rfl), gm gi_wsL_law0_r34 (List.mem_of_getElem? (i := 9) rfl), gm gi_wsL_law0_r34 (List.mem_of_getElem? (i := 10) rfl), gm gi_wsL_law0_r1 (List.mem_of_getElem? (i := 5) rfl), (by decide +kernel), by decide, TX8, 53, rfl⟩
theorem lX8_165 : LV RX8 165 mX8_foldUp 2 8 := ⟨by decide +kernel, rfl, gm gi_wsL_law0_r32 (List.mem_of_getElem? (i := 15) rfl), gm gi_wsL_law0_r34 (List.mem_of_getElem? (i := 11) rfl), gm gi_wsL_law0_r34 (List.mem_of_getElem? (i := 12) rfl), gm gi_wsL_law0_r34 (List.mem_of_getElem? (i := 13) rfl), gm gi_wsL_law0_r1 (List.mem_of_getElem? (i := 5) rfl), (by decide +kernel), by decide, TX8, 53, rfl⟩
theorem lX8_262 : LV RX8 262 mX8_decide 1 8 := ⟨by decide +kernel, rfl, gm gi_wsL_law0_r34 (List.mem_of_getElem? (i := 17) rfl), gm gi_wsL_law0_r34 (List.mem_of_getElem? (i := 14) rfl), gm gi_wsL_law0_r34 (List.mem_of_getElem? (i := 15) rfl), gm gi_wsL_law0_r34 (List.mem_of_getElem? (i := 16) rfl), gm gi_wsL_law0_r1 (List.mem_of_getElem? (i := 5) rfl), (by decide +kernel), by decide, TX8, 53, rfl⟩
theorem lX8_268 : LV RX8 268 mX8_copy 4 8 := ⟨by decide +kernel, rfl, gm gi_wsL_law0_r34 (List.mem_of_getElem? (i := 21) rfl), gm gi_wsL_law0_r34 (List.mem_of_getElem? (i := 18) rfl), gm gi_wsL_law0_r34 (List.mem_of_getElem? (i := 19) rfl), gm gi_wsL_law0_r34 (List.mem_of_getElem? (i := 20) rfl), gm gi_wsL_law0_r1 (List.mem_of_getElem? (i := 5) rfl), (by decide +kernel), by decide, TX8, 53, rfl⟩
theorem lX8_265 : LV RX8 265 mX8_ends 1 8 := ⟨by decide +kernel, rfl, gm gi_wsL_law0_r35 (List.mem_of_getElem? (i := 1) rfl), gm gi_wsL_law0_r34 (List.mem_of_getElem? (i := 22) rfl), gm gi_wsL_law0_r34 (List.mem_of_getElem? (i := 23) rfl), gm gi_wsL_law0_r35 (List.mem_of_getElem? (i := 0) rfl), gm gi_wsL_law0_r1 (List.mem_of_getElem? (i := 5) rfl), (by decide +kernel), by decide, TX8, 53, rfl⟩
theorem lL_113 : LV RL 113 mX7_decision 1 7 := ⟨by decide +kernel, rfl, gm gi_wsL_law0_r35 (List.mem_of_getElem? (i := 5) rfl), gm gi_wsL_law0_r35 (List.mem_of_getElem? (i := 2) rfl), gm gi_wsL_law0_r35 (List.mem_of_getElem? (i := 3) rfl), gm gi_wsL_law0_r35 (List.mem_of_getElem? (i := 4) rfl), gm gi_wsL_law0_r1 (List.mem_of_getElem? (i := 2) rfl), (by decide +kernel), by decide, TX7, 2, rfl⟩
theorem lX7_85 : LV RX7 85 mX3_latest 0 3 := ⟨by decide +kernel, rfl, gm gi_wsL_law0_r35 (List.mem_of_getElem? (i := 9) rfl), gm gi_wsL_law0_r35 (List.mem_of_getElem? (i := 6) rfl), gm gi_wsL_law0_r35 (List.mem_of_getElem? (i := 7) rfl), gm gi_wsL_law0_r35 (List.mem_of_getElem? (i := 8) rfl), gm gi_wsL_law0_r1 (List.mem_of_getElem? (i := 20) rfl), (by decide +kernel), by decide, TX3, 15, rfl⟩
theorem lX7_89 : LV RX7 89 mX1_alternativeAt 1 1 := ⟨by decide +kernel, rfl, gm gi_wsL_law0_r35 (List.mem_of_getElem? (i := 13) rfl), gm gi_wsL_law0_r35 (List.mem_of_getElem? (i := 10) rfl), gm gi_wsL_law0_r35 (List.mem_of_getElem? (i := 11) rfl), gm gi_wsL_law0_r35 (List.mem_of_getElem? (i := 12) rfl), gm gi_wsL_law0_r2 (List.mem_of_getElem? (i := 13) rfl), (by decide +kernel), by decide, TX1, 4, rfl⟩
theorem lL_117 : LV RL 117 mX8_decision 1 8 := ⟨by decide +kernel, rfl, gm gi_wsL_law0_r35 (List.mem_of_getElem? (i := 17) rfl), gm gi_wsL_law0_r35 (List.mem_of_getElem? (i := 14) rfl), gm gi_wsL_law0_r35 (List.mem_of_getElem? (i := 15) rfl), gm gi_wsL_law0_r35 (List.mem_of_getElem? (i := 16) rfl), gm gi_wsL_law0_r1 (List.mem_of_getElem? (i := 5) rfl), (by decide +kernel), by decide, TX8, 53, rfl⟩
theorem lL_50 : LV RL 50 mX7_token 2 7 := ⟨by decide +kernel, rfl, gm gi_wsL_law0_r36 (List.mem_of_getElem? (i := 0) rfl), gm gi_wsL_law0_r35 (List.mem_of_getElem? (i := 21) rfl), gm gi_wsL_law0_r35 (List.mem_of_getElem? (i := 22) rfl), gm gi_wsL_law0_r35 (List.mem_of_getElem? (i := 23) rfl), gm gi_wsL_law0_r1 (List.mem_of_getElem? (i := 2) rfl), (by decide +kernel), by decide, TX7, 2, rfl⟩
theorem lX7_94 : LV RX7 94 mX1_tokens 0 1 := ⟨by decide +kernel, rfl, gm gi_wsL_law0_r36 (List.mem_of_getElem? (i := 4) rfl), gm gi_wsL_law0_r36 (List.mem_of_getElem? (i := 1) rfl), gm gi_wsL_law0_r36 (List.mem_of_getElem? (i := 2) rfl), gm gi_wsL_law0_r36 (List.mem_of_getElem? (i := 3) rfl), gm gi_wsL_law0_r2 (List.mem_of_getElem? (i := 13) rfl), (by decide +kernel), by decide, TX1, 4, rfl⟩
theorem lX7_98 : LV RX7 98 mX4_has 1 4 := ⟨by decide +kernel, rfl, gm gi_wsL_law0_r24 (List.mem_of_getElem? (i := 1) rfl), gm gi_wsL_law0_r36 (List.mem_of_getElem? (i := 5) rfl), gm gi_wsL_law0_r23 (List.mem_of_getElem? (i := 23) rfl), gm gi_wsL_law0_r24 (List.mem_of_getElem? (i := 0) rfl), gm gi_wsL_law0_r3 (List.mem_of_getElem? (i := 6) rfl), (by decide +kernel), by decide, TX4, 4, rfl⟩
theorem lX7_103 : LV RX7 103 mX4_kindAt 1 4 := ⟨by decide +kernel, rfl, gm gi_wsL_law0_r27 (List.mem_of_getElem? (i := 1) rfl), gm gi_wsL_law0_r36 (List.mem_of_getElem? (i := 6) rfl), gm gi_wsL_law0_r26 (List.mem_of_getElem? (i := 23) rfl), gm gi_wsL_law0_r27 (List.mem_of_getElem? (i := 0) rfl), gm gi_wsL_law0_r3 (List.mem_of_getElem? (i := 6) rfl), (by decide +kernel), by decide, TX4, 4, rfl⟩
theorem lX7_106 : LV RX7 106 mX4_numberAt 1 4 := ⟨by decide +kernel, rfl, gm gi_wsL_law0_r26 (List.mem_of_getElem? (i := 9) rfl), gm gi_wsL_law0_r36 (List.mem_of_getElem? (i := 7) rfl), gm gi_wsL_law0_r26 (List.mem_of_getElem? (i := 7) rfl), gm gi_wsL_law0_r26 (List.mem_of_getElem? (i := 8) rfl), gm gi_wsL_law0_r3 (List.mem_of_getElem? (i := 6) rfl), (by decide +kernel), by decide, TX4, 4, rfl⟩
theorem lL_120 : LV RL 120 mX8_token_ 2 8 := ⟨by decide +kernel, rfl, gm gi_wsL_law0_r36 (List.mem_of_getElem? (i := 11) rfl), gm gi_wsL_law0_r36 (List.mem_of_getElem? (i := 8) rfl), gm gi_wsL_law0_r36 (List.mem_of_getElem? (i := 9) rfl), gm gi_wsL_law0_r36 (List.mem_of_getElem? (i := 10) rfl), gm gi_wsL_law0_r1 (List.mem_of_getElem? (i := 5) rfl), (by decide +kernel), by decide, TX8, 53, rfl⟩
theorem lL_121 : LV RL 121 mX7_count 1 7 := ⟨by decide +kernel, rfl, gm gi_wsL_law0_r36 (List.mem_of_getElem? (i := 15) rfl), gm gi_wsL_law0_r36 (List.mem_of_getElem? (i := 12) rfl), gm gi_wsL_law0_r36 (List.mem_of_getElem? (i := 13) rfl), gm gi_wsL_law0_r36 (List.mem_of_getElem? (i := 14) rfl), gm gi_wsL_law0_r1 (List.mem_of_getElem? (i := 2) rfl), (by decide +kernel), by decide, TX7, 2, rfl⟩
theorem lX7_110 : LV RX7 110 mX3_places 0 3 := ⟨by decide +kernel, rfl, gm gi_wsL_law0_r36 (List.mem_of_getElem? (i := 19) rfl), gm gi_wsL_law0_r36 (List.mem_of_getElem? (i := 16) rfl), gm gi_wsL_law0_r36 (List.mem_of_getElem? (i := 17) rfl), gm gi_wsL_law0_r36 (List.mem_of_getElem? (i := 18) rfl), gm gi_wsL_law0_r1 (List.mem_of_getElem? (i := 20) rfl), (by decide +kernel), by decide, TX3, 15, rfl⟩
theorem lX7_113 : LV RX7 113 mX3_values 0 3 := ⟨by decide +kernel, rfl, gm gi_wsL_law0_r36 (List.mem_of_getElem? (i := 23) rfl), gm gi_wsL_law0_r36 (List.mem_of_getElem? (i := 20) rfl), gm gi_wsL_law0_r36 (List.mem_of_getElem? (i := 21) rfl), gm gi_wsL_law0_r36 (List.mem_of_getElem? (i := 22) rfl), gm gi_wsL_law0_r1 (List.mem_of_getElem? (i := 20) rfl), (by decide +kernel), by decide, TX3, 15, rfl⟩
theorem lX7_116 : LV RX7 116 mX3_failed 0 3 := ⟨by decide +kernel, rfl, gm gi_wsL_law0_r37 (List.mem_of_getElem? (i := 3) rfl), gm gi_wsL_law0_r37 (List.mem_of_getElem? (i := 0) rfl), gm gi_wsL_law0_r37 (List.mem_of_getElem? (i := 1) rfl), gm gi_wsL_law0_r37 (List.mem_of_getElem? (i := 2) rfl), gm gi_wsL_law0_r1 (List.mem_of_getElem? (i := 20) rfl), (by decide +kernel), by decide, TX3, 15, rfl⟩
theorem lX7_119 : LV RX7 119 mX3_givenUp 0 3 := ⟨by decide +kernel, rfl, gm gi_wsL_law0_r37 (List.mem_of_getElem? (i := 7) rfl), gm gi_wsL_law0_r37 (List.mem_of_getElem? (i := 4) rfl), gm gi_wsL_law0_r37 (List.mem_of_getElem? (i := 5) rfl), gm gi_wsL_law0_r37 (List.mem_of_getElem? (i := 6) rfl), gm gi_wsL_law0_r1 (List.mem_of_getElem? (i := 20) rfl), (by decide +kernel), by decide, TX3, 15, rfl⟩
theorem lX7_122 : LV RX7 122 mX3_cut 0 3 := ⟨by decide +kernel, rfl, gm gi_wsL_law0_r37 (List.mem_of_getElem? (i := 11) rfl), gm gi_wsL_law0_r37 (List.mem_of_getElem? (i := 8) rfl), gm gi_wsL_law0_r37 (List.mem_of_getElem? (i := 9) rfl), gm gi_wsL_law0_r37 (List.mem_of_getElem? (i := 10) rfl), gm gi_wsL_law0_r1 (List.mem_of_getElem? (i := 20) rfl), (by decide +kernel), by decide, TX3, 15, rfl⟩
theorem lX7_125 : LV RX7 125 mX1_labour 0 1 := ⟨by decide +kernel, rfl, gm gi_wsL_law0_r37 (List.mem_of_getElem? (i := 15) rfl), gm gi_wsL_law0_r37 (List.mem_of_getElem? (i := 12) rfl), gm gi_wsL_law0_r37 (List.mem_of_getElem? (i := 13) rfl), gm gi_wsL_law0_r37 (List.mem_of_getElem? (i := 14) rfl), gm gi_wsL_law0_r2 (List.mem_of_getElem? (i := 13) rfl), (by decide +kernel), by decide, TX1, 4, rfl⟩
theorem lX7_128 : LV RX7 128 mX1_decisions 0 1 := ⟨by decide +kernel, rfl, gm gi_wsL_law0_r37 (List.mem_of_getElem? (i := 19) rfl), gm gi_wsL_law0_r37 (List.mem_of_getElem? (i := 16) rfl), gm gi_wsL_law0_r37 (List.mem_of_getElem? (i := 17) rfl), gm gi_wsL_law0_r37 (List.mem_of_getElem? (i := 18) rfl), gm gi_wsL_law0_r2 (List.mem_of_getElem? (i := 13) rfl), (by decide +kernel), by decide, TX1, 4, rfl⟩
theorem lX7_131 : LV RX7 131 mX4_size 0 4 := ⟨by decide +kernel, rfl, gm gi_wsL_law0_r20 (List.mem_of_getElem? (i := 11) rfl), gm gi_wsL_law0_r37 (List.mem_of_getElem? (i := 20) rfl), gm gi_wsL_law0_r20 (List.mem_of_getElem? (i := 9) rfl), gm gi_wsL_law0_r20 (List.mem_of_getElem? (i := 10) rfl), gm gi_wsL_law0_r3 (List.mem_of_getElem? (i := 6) rfl), (by decide +kernel), by decide, TX4, 4, rfl⟩
theorem lL_124 : LV RL 124 mX8_count 1 8 := ⟨by decide +kernel, rfl, gm gi_wsL_law0_r38 (List.mem_of_getElem? (i := 0) rfl), gm gi_wsL_law0_r37 (List.mem_of_getElem? (i := 21) rfl), gm gi_wsL_law0_r37 (List.mem_of_getElem? (i := 22) rfl), gm gi_wsL_law0_r37 (List.mem_of_getElem? (i := 23) rfl), gm gi_wsL_law0_r1 (List.mem_of_getElem? (i := 5) rfl), (by decide +kernel), by decide, TX8, 53, rfl⟩
theorem lX7_9 : LN RX7 9 mX2_init 0 := ⟨by decide +kernel, rfl, gm gi_wsL_law0_r1 (List.mem_of_getElem? (i := 23) rfl), (by simp [xw]), gm gi_wsL_law0_r1 (List.mem_of_getElem? (i := 22) rfl), gm gi_wsL_law0_r1 (List.mem_of_getElem? (i := 16) rfl), (by decide +kernel), by decide, rfl, rfl⟩
theorem lX3_11 : LN RX3 11 mX1_init 0 := ⟨by decide +kernel, rfl, gm gi_wsL_law0_r3 (List.mem_of_getElem? (i := 2) rfl), (by simp [xw]), gm gi_wsL_law0_r3 (List.mem_of_getElem? (i := 1) rfl), gm gi_wsL_law0_r2 (List.mem_of_getElem? (i := 13) rfl), (by decide +kernel), by decide, rfl, rfl⟩
theorem lX3_20 : LN RX3 20 mX0_init 0 := ⟨by decide +kernel, rfl, gm gi_wsL_law0_r3 (List.mem_of_getElem? (i := 16) rfl), (by simp [xw]), gm gi_wsL_law0_r3 (List.mem_of_getElem? (i := 15) rfl), gm gi_wsL_law0_r2 (List.mem_of_getElem? (i := 17) rfl), (by decide +kernel), by decide, rfl, rfl⟩
theorem oX7_1 : Cond.methodLink RX7 1 objectInit ∈ gw := gm gi_wsL_law0_r1 (List.mem_of_getElem? (i := 11) rfl)
theorem oX2_3 : Cond.methodLink RX2 3 objectInit ∈ gw := gm gi_wsL_law0_r2 (List.mem_of_getElem? (i := 0) rfl)
theorem oX3_3 : Cond.methodLink RX3 3 objectInit ∈ gw := gm gi_wsL_law0_r2 (List.mem_of_getElem? (i := 10) rfl)
theorem oX1_3 : Cond.methodLink RX1 3 objectInit ∈ gw := gm gi_wsL_law0_r3 (List.mem_of_getElem? (i := 3) rfl)
theorem oX4_3 : Cond.methodLink RX4 3 objectInit ∈ gw := gm gi_wsL_law0_r3 (List.mem_of_getElem? (i := 11) rfl)
theorem oX0_3 : Cond.methodLink RX0 3 objectInit ∈ gw := gm gi_wsL_law0_r3 (List.mem_of_getElem? (i := 17) rfl)
theorem oX6_3 : Cond.methodLink RX6 3 objectInit ∈ gw := gm gi_wsL_law0_r3 (List.mem_of_getElem? (i := 23) rfl)
theorem kX6_25 : Cond.constant RX6 25 (36000) ∈ gw := gm gi_wsL_law0_r4 (List.mem_of_getElem? (i := 6) rfl)
theorem oX5_3 : Cond.methodLink RX5 3 objectInit ∈ gw := gm gi_wsL_law0_r4 (List.mem_of_getElem? (i := 13) rfl)
theorem oX8_1 : Cond.methodLink RX8 1 objectInit ∈ gw := gm gi_wsL_law0_r5 (List.mem_of_getElem? (i := 8) rfl)
theorem kX8_74 : Cond.constant RX8 74 (65536) ∈ gw := gm gi_wsL_law0_r6 (List.mem_of_getElem? (i := 6) rfl)
theorem kX8_81 : Cond.constant RX8 81 (131072) ∈ gw := gm gi_wsL_law0_r6 (List.mem_of_getElem? (i := 9) rfl)
theorem kX6_87 : Cond.constantLong RX6 87 (2) ∈ gw := gm gi_wsL_law0_r20 (List.mem_of_getElem? (i := 23) rfl)
theorem kX6_183 : Cond.constantLong RX6 183 (9223372036854775807) ∈ gw := gm gi_wsL_law0_r26 (List.mem_of_getElem? (i := 18) rfl)
theorem kX8_177 : Cond.constantLong RX8 177 (2) ∈ gw := gm gi_wsL_law0_r31 (List.mem_of_getElem? (i := 14) rfl)
theorem kX8_182 : Cond.constantLong RX8 182 (-1) ∈ gw := gm gi_wsL_law0_r32 (List.mem_of_getElem? (i := 10) rfl)
theorem oi_gw : Cond.instanceMethod Lib.objectInit ∈ gw ∧ Cond.code Lib.objectInit ⟨#[0xb1]⟩ 1 none ∈ gw := ⟨gm gi_wsL_law0_r1 (List.mem_of_getElem? (i := 12) rfl), gm gi_wsL_law0_r1 (List.mem_of_getElem? (i := 13) rfl)⟩
end
section
/-! objects by a function of their fields; Math, arraycopy; ends -/
def fo (N : Nat) (F : Nat → Value) : List Value := (List.range N).map F
theorem fo_get {N k : Nat} {F : Nat → Value} (h : k < N) : (fo N F)[k]? = some (F k) := by
  unfold fo
  rw [List.getElem?_map, List.getElem?_range h]
  rfl
theorem fo_len {N : Nat} {F : Nat → Value} : (fo N F).length = N := by simp [fo]
theorem fo_set {N k : Nat} {F : Nat → Value} {v : Value} : (fo N F).set k v = fo N (va_up F k v) := by
  apply List.ext_getElem?
  intro i
  by_cases hi : i < N
  · rw [fo_get hi, List.getElem?_set]
    by_cases e : k = i
    · subst e
      rw [if_pos rfl, if_pos (by rw [fo_len]; exact hi)]
      simp [va_up]
    · rw [if_neg e, fo_get hi]
      simp [va_up, Ne.symm e]
  · rw [List.getElem?_eq_none (by simpa [fo] using hi), List.getElem?_eq_none (by simpa [fo] using hi)]
theorem hs_eq {h : AH} {o : Nat} {c : AC} : (hs h o c).1 o = c := by simp [hs, va_up]
theorem hs_ne {h : AH} {o x : Nat} {c : AC} (e : x ≠ o) : (hs h o c).1 x = h.1 x := by simp [hs, va_up, e]
theorem hw_eq {h : AH} {c : AC} {z : Nat} : (hw h c z).1 (h.2.1 + 1) = c := by simp [hw, va_up]
theorem hw_ne {h : AH} {x : Nat} {c : AC} {z : Nat} (e : x ≤ h.2.1) : (hw h c z).1 x = h.1 x := by
  have : ¬ x = h.2.1 + 1 := by omega
  simp [hw, va_up, this]
theorem up_eq {α : Type} {F : Nat → α} {k : Nat} {v : α} : va_up F k v k = v := by simp [va_up]
theorem up_ne {α : Type} {F : Nat → α} {k j : Nat} {v : α} (e : j ≠ k) : va_up F k v j = F j := by simp [va_up, e]
theorem ne_oi {h : AH} {x y c n : Nat} {fs : List Value} {f : Nat → Int32} (a : h.1 x = ob c fs) (b : h.1 y = ia n f) : x ≠ y := fun e => by subst e; cases a.symm.trans b
theorem ne_ol {h : AH} {x y c n : Nat} {fs : List Value} {f : Nat → Int64} (a : h.1 x = ob c fs) (b : h.1 y = la n f) : x ≠ y := fun e => by subst e; cases a.symm.trans b
theorem ne_il {h : AH} {x y m n : Nat} {g : Nat → Int32} {f : Nat → Int64} (a : h.1 x = ia m g) (b : h.1 y = la n f) : x ≠ y := fun e => by subst e; cases a.symm.trans b
theorem ob_c {c c2 : Nat} {fs fs2 : List Value} (h : ob c fs = ob c2 fs2) : c = c2 := by cases h; rfl
theorem ne_oo {h : AH} {x y c c2 : Nat} {fs fs2 : List Value} (a : h.1 x = ob c fs) (b : h.1 y = ob c2 fs2) (e : c ≠ c2) : x ≠ y := fun q => by subst q; exact e (ob_c (a.symm.trans b))
section MORE
variable {k : Bool} {M : MD} {d pc q : Nat} {ls : List (Nat × Value)} {st : List Value} {h : AH}
theorem s_gf {ix ci kf o N : Nat} {F : Nat → Value} {v : Value} (hd : decode M.2.1 pc = .ok (.getfield ix, 3)) (hq : pc + 3 = q) (hf : FL M.1.cls ix ci kf) (ho : h.1 o = ob ci (fo N F)) (hk : kf < N) (hv : F kf = v) : J k M d pc ls (.ref o :: st) h q ls (v :: st) h := s_getf hd hq hf ho (by rw [fo_get hk, hv])
theorem s_pf {ix ci kf o N : Nat} {ft : FieldType} {F : Nat → Value} {v : Value} (hd : decode M.2.1 pc = .ok (.putfield ix, 3)) (hq : pc + 3 = q) (hf : FP M.1.cls ix ci kf false ft) (ho : h.1 o = ob ci (fo N F)) (hk : kf < N) (hft : ∀ ad, narrow ft (mv ad v) = mv ad v ∧ fits ft (mv ad v) = true) : J k M d pc ls (v :: .ref o :: st) h q ls st (hs h o (ob ci (fo N (va_up F kf v)))) := by
  have := s_put (k := k) (d := d) (ls := ls) (st := st) hd hq hf ho (by rw [fo_len]; exact hk) hft
  rwa [fo_set] at this
theorem s_pff {ix ci kf o N : Nat} {ft : FieldType} {F : Nat → Value} {v : Value} (hd : decode M.2.1 pc = .ok (.putfield ix, 3)) (hq : pc + 3 = q) (hf : FP M.1.cls ix ci kf true ft) (hi : M.1.name = "<init>") (ho : h.1 o = ob ci (fo N F)) (hk : kf < N) (hft : ∀ ad, narrow ft (mv ad v) = mv ad v ∧ fits ft (mv ad v) = true) : J k M d pc ls (v :: .ref o :: st) h q ls st (hs h o (ob ci (fo N (va_up F kf v)))) := by
  have := s_putF (k := k) (d := d) (ls := ls) (st := st) hd hq hf hi ho (by rw [fo_len]; exact hk) hft
  rwa [fo_set] at this
theorem E.v {v : Option Value} {h' : AH} (hd : decode M.2.1 pc = .ok (.return_, 1)) (hr : M.2.2.2.1 = none) (e1 : v = none) (e2 : h = h') : E k M d pc ls [] h v h' := by
  subst e1; subst e2; exact ⟨pc, ls, [], ⟨hd, hr, rfl⟩, J.rf⟩
theorem E.i {x : Int32} {ty : FieldType} {v : Option Value} {h' : AH} (hd : decode M.2.1 pc = .ok (.ireturn, 1)) (hr : M.2.2.2.1 = some ty) (hn : narrow ty (.int x) = .int x) (e1 : v = some (.int x)) (e2 : h = h') : E k M d pc ls [.int x] h v h' := by
  subst e1; subst e2; exact ⟨pc, ls, _, ⟨hd, rfl, ty, hr, hn⟩, J.rf⟩
theorem E.l {x : Int64} {v : Option Value} {h' : AH} (hd : decode M.2.1 pc = .ok (.lreturn, 1)) (hr : M.2.2.2.1 = some .long) (e1 : v = some (.long x)) (e2 : h = h') : E k M d pc ls [.long x] h v h' := by
  subst e1; subst e2; exact ⟨pc, ls, _, ⟨hd, rfl, hr⟩, J.rf⟩
theorem E.a {o : Nat} {rt : FieldType} {v : Option Value} {h' : AH} (hd : decode M.2.1 pc = .ok (.areturn, 1)) (hr : M.2.2.2.1 = some rt) (ht : (∃ n, rt = .object n) ∨ ∃ t, rt = .array t) (e1 : v = some (.ref o)) (e2 : h = h') : E k M d pc ls [.ref o] h v h' := by
  subst e1; subst e2; exact ⟨pc, ls, _, ⟨hd, rfl, rt, hr, ht⟩, J.rf⟩
theorem E.n {rt : FieldType} {v : Option Value} {h' : AH} (hd : decode M.2.1 pc = .ok (.areturn, 1)) (hr : M.2.2.2.1 = some rt) (ht : (∃ n, rt = .object n) ∨ ∃ t, rt = .array t) (e1 : v = some .null) (e2 : h = h') : E k M d pc ls [.null] h v h' := by
  subst e1; subst e2; exact ⟨pc, ls, _, ⟨hd, rfl, rt, hr, ht⟩, J.rf⟩
theorem s_mmin {ix : Nat} {x y : Int32} (hd : decode M.2.1 pc = .ok (.invokestatic ix, 3)) (hq : pc + 3 = q) (hl : Cond.methodLink M.1.cls ix Lib.Math.min.name ∈ gw) (hdd : 0 < d) (hcat : (st.map fun v => v.category).sum ≤ 8) : J k M d pc ls (.int y :: .int x :: st) h q ls (.int (if y < x then y else x) :: st) h := by
  subst hq
  refine ⟨⟨Nat.le_refl _, Nat.le_refl _, Nat.le_refl _⟩, fun p l e R s m args below meth c Q D cI cJ A cb sb g r ad H locs lsA P K => ?_⟩
  have X := g.1
  have hc : ((st.map (mv ad)).map fun v => v.category).sum ≤ 8 := by rw [List.map_map]; simpa [Function.comp_def, mv_cat] using hcat
  exact va_mmin X.x X.b (X.2.2.1.trans P.2.1.1.symm) X.o (X.w _ hl) (X.w _ (gm gi_wsL_law0_r19 (List.mem_of_getElem? (i := 2) rfl))) (X.w _ (gm gi_wsL_law0_r19 (List.mem_of_getElem? (i := 3) rfl))) (X.w _ (gm gi_wsL_law0_r19 (List.mem_of_getElem? (i := 4) rfl))) (by have := g.2.1; omega) (by have := g.2.1; omega) r.2.2.1 r.2.2.2 hd (K ad H locs lsA (fun _ _ => rfl) (P.with (oks_c trivial (oks_t (oks_t P.2.2.2.1)))))
theorem s_mmax {ix : Nat} {x y : Int32} (hd : decode M.2.1 pc = .ok (.invokestatic ix, 3)) (hq : pc + 3 = q) (hl : Cond.methodLink M.1.cls ix Lib.Math.max.name ∈ gw) (hdd : 0 < d) (hcat : (st.map fun v => v.category).sum ≤ 8) : J k M d pc ls (.int y :: .int x :: st) h q ls (.int (if x < y then y else x) :: st) h := by
  subst hq
  refine ⟨⟨Nat.le_refl _, Nat.le_refl _, Nat.le_refl _⟩, fun p l e R s m args below meth c Q D cI cJ A cb sb g r ad H locs lsA P K => ?_⟩
  have X := g.1
  have hc : ((st.map (mv ad)).map fun v => v.category).sum ≤ 8 := by rw [List.map_map]; simpa [Function.comp_def, mv_cat] using hcat
  exact va_mmax X.x X.b (X.2.2.1.trans P.2.1.1.symm) X.o (X.w _ hl) (X.w _ (gm gi_wsL_law0_r21 (List.mem_of_getElem? (i := 17) rfl))) (X.w _ (gm gi_wsL_law0_r19 (List.mem_of_getElem? (i := 3) rfl))) (X.w _ (gm gi_wsL_law0_r21 (List.mem_of_getElem? (i := 18) rfl))) (by have := g.2.1; omega) (by have := g.2.1; omega) r.2.2.1 r.2.2.2 hd (K ad H locs lsA (fun _ _ => rfl) (P.with (oks_c trivial (oks_t (oks_t P.2.2.2.1)))))
theorem s_mminL {ix : Nat} {x y : Int64} (hd : decode M.2.1 pc = .ok (.invokestatic ix, 3)) (hq : pc + 3 = q) (hl : Cond.methodLink M.1.cls ix Lib.MathLoose.min_long.x ∈ gw) (hdd : 0 < d) (hcat : (st.map fun v => v.category).sum ≤ 8) : J k M d pc ls (.long y :: .long x :: st) h q ls (.long (if y < x then y else x) :: st) h := by
  subst hq
  refine ⟨⟨Nat.le_refl _, Nat.le_refl _, Nat.le_refl _⟩, fun p l e R s m args below meth c Q D cI cJ A cb sb g r ad H locs lsA P K => ?_⟩
  have X := g.1
  have hc : ((st.map (mv ad)).map fun v => v.category).sum ≤ 8 := by rw [List.map_map]; simpa [Function.comp_def, mv_cat] using hcat
  exact va_mmin_long X.x X.b (X.2.2.1.trans P.2.1.1.symm) X.o (X.w _ hl) (X.w _ (gm gi_wsL_law0_r26 (List.mem_of_getElem? (i := 20) rfl))) (X.w _ (gm gi_wsL_law0_r19 (List.mem_of_getElem? (i := 3) rfl))) (X.w _ (gm gi_wsL_law0_r26 (List.mem_of_getElem? (i := 21) rfl))) (by have := g.2.1; omega) (by have := g.2.1; omega) r.2.2.1 r.2.2.2 hd (K ad H locs lsA (fun _ _ => rfl) (P.with (oks_c trivial (oks_t (oks_t P.2.2.2.1)))))
theorem s_copyI {ix o o2 n n2 : Nat} {f g : Nat → Int32} {sp dp len : Int32} (hd : decode M.2.1 pc = .ok (.invokestatic ix, 3)) (hq : pc + 3 = q) (hl : Cond.methodLink M.1.cls ix arraycopyName ∈ gw) (hdd : 1 < d) (hcat : (st.map fun v => v.category).sum ≤ 8) (o0 : 0 < o) (o20 : 0 < o2) (ho : h.1 o = ia n f) (ho2 : h.1 o2 = ia n2 g) (h1 : ¬ sp < 0) (h2 : ¬ dp < 0) (h3 : ¬ len < 0) (h4 : sp.toNatClampNeg + len.toNatClampNeg ≤ n) (h5 : dp.toNatClampNeg + len.toNatClampNeg ≤ n2) :
    J k M d pc ls (.int len :: .int dp :: .ref o2 :: .int sp :: .ref o :: st) h q ls st (hs h o2 (ia n2 (va_cpy f g sp.toNatClampNeg dp.toNatClampNeg len.toNatClampNeg))) := by
  subst hq
  refine ⟨⟨Nat.le_refl _, Nat.le_refl _, Nat.le_refl _⟩, fun p l e R s m args below meth c Q D cI cJ A cb sb gg r ad H locs lsA P K => ?_⟩
  have X := gg.1
  have hc : ((st.map (mv ad)).map fun v => v.category).sum ≤ 8 := by rw [List.map_map]; simpa [Function.comp_def, mv_cat] using hcat
  have q1 := P.2.2.2.1
  have he2 := wl_at (cI := cI) (cJ := cJ) (ad := ad) o20 (oks_h (oks_t (oks_t q1))) ho2
  have he := wl_at (cI := cI) (cJ := cJ) (ad := ad) o0 (oks_h (oks_t (oks_t (oks_t (oks_t q1))))) ho
  have hw : nativeFrameWords "java/lang/System" "arraycopy" 5 + 11 ≤ 64 := by decide +kernel
  refine va_copyi (D := D) X.x X.b (X.2.2.1.trans P.2.1.1.symm) X.o (X.w _ hl) (X.w _ (gm gi_wsL_law0_r22 (List.mem_of_getElem? (i := 6) rfl))) (X.w _ (gm gi_wsL_law0_r22 (List.mem_of_getElem? (i := 7) rfl))) (X.w _ (gm gi_wsL_law0_r22 (List.mem_of_getElem? (i := 8) rfl))) gg.2.2.1 P.1.1 P.1.2.1 P.1.2.2.1 (o - 1) (o2 - 1) 0 0 he he2 rfl rfl rfl h1 h2 h3 h4 h5 (fun _ _ => rfl) (by have := gg.2.1; omega) (by have := gg.2.1; omega) hd (fun H1 locs1 hP hD hS => ?_)
  have ew : (wl cI cJ ad h).set (o2 - 1) (ad o2, .inl (cI, n2, .inl (va_cpy f g sp.toNatClampNeg dp.toNatClampNeg len.toNatClampNeg))) = wl cI cJ ad (hs h o2 (ia n2 (va_cpy f g sp.toNatClampNeg dp.toNatClampNeg len.toNatClampNeg))) := by
    rw [← wl_put o20]
    rfl
  rw [ew] at hP hD
  refine K ad H1 locs1 lsA (fun _ _ => rfl) ⟨⟨hP, hD, hS, okh_set P.1.2.2.2 o20 trivial⟩, P.2.1, P.2.2.1, oks_t (oks_t (oks_t (oks_t (oks_t q1)))), fun kk => ?_⟩
  obtain ⟨L, xs, e0, e1⟩ := P.2.2.2.2 kk
  exact ⟨L, xs, by rw [← e0]; show va_up h.1 o2 _ 0 = _; simp [va_up, Nat.ne_of_lt o20], e1⟩
theorem s_copyL {ix o o2 n n2 : Nat} {f g : Nat → Int64} {sp dp len : Int32} (hd : decode M.2.1 pc = .ok (.invokestatic ix, 3)) (hq : pc + 3 = q) (hl : Cond.methodLink M.1.cls ix arraycopyName ∈ gw) (hdd : 1 < d) (hcat : (st.map fun v => v.category).sum ≤ 8) (ho : h.1 o = la n f) (ho2 : h.1 o2 = la n2 g) (h1 : ¬ sp < 0) (h2 : ¬ dp < 0) (h3 : ¬ len < 0) (h4 : sp.toNatClampNeg + len.toNatClampNeg ≤ n) (h5 : dp.toNatClampNeg + len.toNatClampNeg ≤ n2) :
    J k M d pc ls (.int len :: .int dp :: .ref o2 :: .int sp :: .ref o :: st) h q ls st (hs h o2 (la n2 (va_cpy f g sp.toNatClampNeg dp.toNatClampNeg len.toNatClampNeg))) := by
  subst hq
  refine ⟨⟨Nat.le_refl _, Nat.le_refl _, Nat.le_refl _⟩, fun p l e R s m args below meth c Q D cI cJ A cb sb gg r ad H locs lsA P K => ?_⟩
  have X := gg.1
  have hc : ((st.map (mv ad)).map fun v => v.category).sum ≤ 8 := by rw [List.map_map]; simpa [Function.comp_def, mv_cat] using hcat
  have q1 := P.2.2.2.1
  have o20 := okh_posL P.1.2.2.2 ho2
  have he2 := wl_at (cI := cI) (cJ := cJ) (ad := ad) o20 (oks_h (oks_t (oks_t q1))) ho2
  have he := wl_at (cI := cI) (cJ := cJ) (ad := ad) (okh_posL P.1.2.2.2 ho) (oks_h (oks_t (oks_t (oks_t (oks_t q1))))) ho
  have hw : nativeFrameWords "java/lang/System" "arraycopy" 5 + 11 ≤ 64 := by decide +kernel
  refine va_copyl (D := D) X.x X.b (X.2.2.1.trans P.2.1.1.symm) X.o (X.w _ hl) (X.w _ (gm gi_wsL_law0_r22 (List.mem_of_getElem? (i := 6) rfl))) (X.w _ (gm gi_wsL_law0_r22 (List.mem_of_getElem? (i := 7) rfl))) (X.w _ (gm gi_wsL_law0_r22 (List.mem_of_getElem? (i := 8) rfl))) gg.2.2.1 P.1.1 P.1.2.1 P.1.2.2.1 (o - 1) (o2 - 1) 1 1 he he2 rfl rfl rfl h1 h2 h3 h4 h5 (fun _ _ => rfl) (by have := gg.2.1; omega) (by have := gg.2.1; omega) hd (fun H1 locs1 hP hD hS => ?_)
  have ew : (wl cI cJ ad h).set (o2 - 1) (ad o2, .inl (cJ, n2, .inr (.inl (va_cpy f g sp.toNatClampNeg dp.toNatClampNeg len.toNatClampNeg)))) = wl cI cJ ad (hs h o2 (la n2 (va_cpy f g sp.toNatClampNeg dp.toNatClampNeg len.toNatClampNeg))) := by
    rw [← wl_put o20]
    rfl
  rw [ew] at hP hD
  refine K ad H1 locs1 lsA (fun _ _ => rfl) ⟨⟨hP, hD, hS, okh_set P.1.2.2.2 o20 trivial⟩, P.2.1, P.2.2.1, oks_t (oks_t (oks_t (oks_t (oks_t q1)))), fun kk => ?_⟩
  obtain ⟨L, xs, e0, e1⟩ := P.2.2.2.2 kk
  exact ⟨L, xs, by rw [← e0]; show va_up h.1 o2 _ 0 = _; simp [va_up, Nat.ne_of_lt o20], e1⟩
end MORE
end
