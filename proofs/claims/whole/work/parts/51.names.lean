/-- a private method of a class that the tables say can be made, by its rows of tables_1 -/
def lw_okq (q : MethodName × Nat) : Prop := (q.1.cls ≠ "java/lang/invoke/MethodHandle" ∧ q.1.cls ≠ "java/lang/invoke/VarHandle") ∧ Cond.instantiable q.1.cls q.2 ∈ tables_1 ∧ Cond.privateMethod q.1 ∈ tables_1 ∧ Cond.instanceMethod q.1 ∈ tables_1
theorem lw_p0 : lw_okq (⟨"AskedTable$Records", "stateBehind", "(III)I"⟩, 9) := ⟨⟨by decide +kernel, by decide +kernel⟩, List.mem_of_getElem? (i := 53) (by decide +kernel), List.mem_of_getElem? (i := 373) (by decide +kernel), List.mem_of_getElem? (i := 374) (by decide +kernel)⟩
theorem lw_p1 : lw_okq (⟨"AskedTable$Records", "endRecord", "(I)I"⟩, 9) := ⟨⟨by decide +kernel, by decide +kernel⟩, List.mem_of_getElem? (i := 53) (by decide +kernel), List.mem_of_getElem? (i := 377) (by decide +kernel), List.mem_of_getElem? (i := 378) (by decide +kernel)⟩
theorem lw_p2 : lw_okq (⟨"AskedTable$Records", "endField", "(IZ)V"⟩, 9) := ⟨⟨by decide +kernel, by decide +kernel⟩, List.mem_of_getElem? (i := 53) (by decide +kernel), List.mem_of_getElem? (i := 381) (by decide +kernel), List.mem_of_getElem? (i := 382) (by decide +kernel)⟩
theorem lw_p3 : lw_okq (⟨"java/lang/Throwable", "fillInStackTrace", "(I)Ljava/lang/Throwable;"⟩, 6) := ⟨⟨by decide +kernel, by decide +kernel⟩, List.mem_of_getElem? (i := 425) (by decide +kernel), List.mem_of_getElem? (i := 423) (by decide +kernel), List.mem_of_getElem? (i := 424) (by decide +kernel)⟩
theorem lw_p4 : lw_okq (⟨"AskedTable$Table", "addUndoubled", "(LAskedTable$Chars;II)V"⟩, 9) := ⟨⟨by decide +kernel, by decide +kernel⟩, List.mem_of_getElem? (i := 96) (by decide +kernel), List.mem_of_getElem? (i := 593) (by decide +kernel), List.mem_of_getElem? (i := 594) (by decide +kernel)⟩
theorem lw_p5 : lw_okq (⟨"AskedTable$Chars", "isWhole", "(II)Z"⟩, 2) := ⟨⟨by decide +kernel, by decide +kernel⟩, List.mem_of_getElem? (i := 35) (by decide +kernel), List.mem_of_getElem? (i := 603) (by decide +kernel), List.mem_of_getElem? (i := 604) (by decide +kernel)⟩
theorem lw_p6 : lw_okq (⟨"AskedTable$Chars", "isDate", "(II)Z"⟩, 2) := ⟨⟨by decide +kernel, by decide +kernel⟩, List.mem_of_getElem? (i := 35) (by decide +kernel), List.mem_of_getElem? (i := 617) (by decide +kernel), List.mem_of_getElem? (i := 618) (by decide +kernel)⟩
theorem lw_p7 : lw_okq (⟨"AskedTable$Table", "findType", "(I)I"⟩, 9) := ⟨⟨by decide +kernel, by decide +kernel⟩, List.mem_of_getElem? (i := 96) (by decide +kernel), List.mem_of_getElem? (i := 627) (by decide +kernel), List.mem_of_getElem? (i := 628) (by decide +kernel)⟩
theorem lw_p8 : lw_okq (⟨"AskedTable$Table", "allFit", "(II)Z"⟩, 9) := ⟨⟨by decide +kernel, by decide +kernel⟩, List.mem_of_getElem? (i := 96) (by decide +kernel), List.mem_of_getElem? (i := 631) (by decide +kernel), List.mem_of_getElem? (i := 632) (by decide +kernel)⟩
theorem lw_p9 : lw_okq (⟨"AskedTable$Table", "cellAt", "(II)I"⟩, 9) := ⟨⟨by decide +kernel, by decide +kernel⟩, List.mem_of_getElem? (i := 96) (by decide +kernel), List.mem_of_getElem? (i := 635) (by decide +kernel), List.mem_of_getElem? (i := 636) (by decide +kernel)⟩
theorem lw_p10 : lw_okq (⟨"AskedTable$Table", "isGone", "(I)Z"⟩, 9) := ⟨⟨by decide +kernel, by decide +kernel⟩, List.mem_of_getElem? (i := 96) (by decide +kernel), List.mem_of_getElem? (i := 639) (by decide +kernel), List.mem_of_getElem? (i := 640) (by decide +kernel)⟩
theorem lw_p11 : lw_okq (⟨"AskedTable$Table", "fits", "(II)Z"⟩, 9) := ⟨⟨by decide +kernel, by decide +kernel⟩, List.mem_of_getElem? (i := 96) (by decide +kernel), List.mem_of_getElem? (i := 643) (by decide +kernel), List.mem_of_getElem? (i := 644) (by decide +kernel)⟩
theorem lw_p12 : lw_okq (⟨"AskedTable$Question", "takeWord", "(LAskedTable$Word;)Z"⟩, 10) := ⟨⟨by decide +kernel, by decide +kernel⟩, List.mem_of_getElem? (i := 136) (by decide +kernel), List.mem_of_getElem? (i := 768) (by decide +kernel), List.mem_of_getElem? (i := 769) (by decide +kernel)⟩
theorem lw_p13 : lw_okq (⟨"AskedTable$Question", "pass", "(LAskedTable$Token;Z)V"⟩, 10) := ⟨⟨by decide +kernel, by decide +kernel⟩, List.mem_of_getElem? (i := 136) (by decide +kernel), List.mem_of_getElem? (i := 776) (by decide +kernel), List.mem_of_getElem? (i := 777) (by decide +kernel)⟩
theorem lw_p14 : lw_okq (⟨"AskedTable$Question", "readAggregate", "()V"⟩, 10) := ⟨⟨by decide +kernel, by decide +kernel⟩, List.mem_of_getElem? (i := 136) (by decide +kernel), List.mem_of_getElem? (i := 780) (by decide +kernel), List.mem_of_getElem? (i := 781) (by decide +kernel)⟩
theorem lw_p15 : lw_okq (⟨"AskedTable$Question", "readKind", "(I)V"⟩, 10) := ⟨⟨by decide +kernel, by decide +kernel⟩, List.mem_of_getElem? (i := 136) (by decide +kernel), List.mem_of_getElem? (i := 792) (by decide +kernel), List.mem_of_getElem? (i := 793) (by decide +kernel)⟩
def lw_privs_1 : List (MethodName × Nat) := [(⟨"AskedTable$Records", "stateBehind", "(III)I"⟩, 9), (⟨"AskedTable$Records", "endRecord", "(I)I"⟩, 9), (⟨"AskedTable$Records", "endField", "(IZ)V"⟩, 9), (⟨"java/lang/Throwable", "fillInStackTrace", "(I)Ljava/lang/Throwable;"⟩, 6), (⟨"AskedTable$Table", "addUndoubled", "(LAskedTable$Chars;II)V"⟩, 9), (⟨"AskedTable$Chars", "isWhole", "(II)Z"⟩, 2), (⟨"AskedTable$Chars", "isDate", "(II)Z"⟩, 2), (⟨"AskedTable$Table", "findType", "(I)I"⟩, 9), (⟨"AskedTable$Table", "allFit", "(II)Z"⟩, 9), (⟨"AskedTable$Table", "cellAt", "(II)I"⟩, 9), (⟨"AskedTable$Table", "isGone", "(I)Z"⟩, 9), (⟨"AskedTable$Table", "fits", "(II)Z"⟩, 9), (⟨"AskedTable$Question", "takeWord", "(LAskedTable$Word;)Z"⟩, 10), (⟨"AskedTable$Question", "pass", "(LAskedTable$Token;Z)V"⟩, 10), (⟨"AskedTable$Question", "readAggregate", "()V"⟩, 10), (⟨"AskedTable$Question", "readKind", "(I)V"⟩, 10)]
theorem lw_r1 : ∀ q ∈ lw_privs_1, lw_okq q := List.forall_mem_cons.mpr ⟨lw_p0, List.forall_mem_cons.mpr ⟨lw_p1, List.forall_mem_cons.mpr ⟨lw_p2, List.forall_mem_cons.mpr ⟨lw_p3, List.forall_mem_cons.mpr ⟨lw_p4, List.forall_mem_cons.mpr ⟨lw_p5, List.forall_mem_cons.mpr ⟨lw_p6, List.forall_mem_cons.mpr ⟨lw_p7, List.forall_mem_cons.mpr ⟨lw_p8, List.forall_mem_cons.mpr ⟨lw_p9, List.forall_mem_cons.mpr ⟨lw_p10, List.forall_mem_cons.mpr ⟨lw_p11, List.forall_mem_cons.mpr ⟨lw_p12, List.forall_mem_cons.mpr ⟨lw_p13, List.forall_mem_cons.mpr ⟨lw_p14, List.forall_mem_cons.mpr ⟨lw_p15, fun _ h => absurd h List.not_mem_nil⟩⟩⟩⟩⟩⟩⟩⟩⟩⟩⟩⟩⟩⟩⟩⟩
theorem lw_p16 : lw_okq (⟨"AskedTable$Question", "readName", "(Z)I"⟩, 10) := ⟨⟨by decide +kernel, by decide +kernel⟩, List.mem_of_getElem? (i := 136) (by decide +kernel), List.mem_of_getElem? (i := 796) (by decide +kernel), List.mem_of_getElem? (i := 797) (by decide +kernel)⟩
theorem lw_p17 : lw_okq (⟨"AskedTable$Question", "readCondition", "(I)V"⟩, 10) := ⟨⟨by decide +kernel, by decide +kernel⟩, List.mem_of_getElem? (i := 136) (by decide +kernel), List.mem_of_getElem? (i := 805) (by decide +kernel), List.mem_of_getElem? (i := 806) (by decide +kernel)⟩
theorem lw_p18 : lw_okq (⟨"AskedTable$Question", "readAll", "(I)V"⟩, 10) := ⟨⟨by decide +kernel, by decide +kernel⟩, List.mem_of_getElem? (i := 136) (by decide +kernel), List.mem_of_getElem? (i := 809) (by decide +kernel), List.mem_of_getElem? (i := 810) (by decide +kernel)⟩
theorem lw_p19 : lw_okq (⟨"AskedTable$Question", "readPart", "(I)V"⟩, 10) := ⟨⟨by decide +kernel, by decide +kernel⟩, List.mem_of_getElem? (i := 136) (by decide +kernel), List.mem_of_getElem? (i := 813) (by decide +kernel), List.mem_of_getElem? (i := 814) (by decide +kernel)⟩
theorem lw_p20 : lw_okq (⟨"AskedTable$Question", "addStep", "(I)V"⟩, 10) := ⟨⟨by decide +kernel, by decide +kernel⟩, List.mem_of_getElem? (i := 136) (by decide +kernel), List.mem_of_getElem? (i := 819) (by decide +kernel), List.mem_of_getElem? (i := 820) (by decide +kernel)⟩
theorem lw_p21 : lw_okq (⟨"AskedTable$Question", "readComparison", "()V"⟩, 10) := ⟨⟨by decide +kernel, by decide +kernel⟩, List.mem_of_getElem? (i := 136) (by decide +kernel), List.mem_of_getElem? (i := 823) (by decide +kernel), List.mem_of_getElem? (i := 824) (by decide +kernel)⟩
theorem lw_p22 : lw_okq (⟨"AskedTable$Question", "readWord", "(LAskedTable$Word;)V"⟩, 10) := ⟨⟨by decide +kernel, by decide +kernel⟩, List.mem_of_getElem? (i := 136) (by decide +kernel), List.mem_of_getElem? (i := 831) (by decide +kernel), List.mem_of_getElem? (i := 832) (by decide +kernel)⟩
theorem lw_p23 : lw_okq (⟨"AskedTable$Question", "readSort", "(I)V"⟩, 10) := ⟨⟨by decide +kernel, by decide +kernel⟩, List.mem_of_getElem? (i := 136) (by decide +kernel), List.mem_of_getElem? (i := 835) (by decide +kernel), List.mem_of_getElem? (i := 836) (by decide +kernel)⟩
theorem lw_p24 : lw_okq (⟨"AskedTable$Question", "truthOf", "(ILAskedTable$Chars;LAskedTable$Table;)I"⟩, 10) := ⟨⟨by decide +kernel, by decide +kernel⟩, List.mem_of_getElem? (i := 136) (by decide +kernel), List.mem_of_getElem? (i := 852) (by decide +kernel), List.mem_of_getElem? (i := 853) (by decide +kernel)⟩
theorem lw_p25 : lw_okq (⟨"AskedTable$Question", "truthIn", "(IILAskedTable$Chars;LAskedTable$Table;)I"⟩, 10) := ⟨⟨by decide +kernel, by decide +kernel⟩, List.mem_of_getElem? (i := 136) (by decide +kernel), List.mem_of_getElem? (i := 856) (by decide +kernel), List.mem_of_getElem? (i := 857) (by decide +kernel)⟩
theorem lw_p26 : lw_okq (⟨"AskedTable$Answer", "addLine", "(IILAskedTable$Table;)Z"⟩, 12) := ⟨⟨by decide +kernel, by decide +kernel⟩, List.mem_of_getElem? (i := 241) (by decide +kernel), List.mem_of_getElem? (i := 905) (by decide +kernel), List.mem_of_getElem? (i := 906) (by decide +kernel)⟩
theorem lw_p27 : lw_okq (⟨"AskedTable$Answer", "sumUp", "(IIILAskedTable$Table;)Z"⟩, 12) := ⟨⟨by decide +kernel, by decide +kernel⟩, List.mem_of_getElem? (i := 241) (by decide +kernel), List.mem_of_getElem? (i := 911) (by decide +kernel), List.mem_of_getElem? (i := 912) (by decide +kernel)⟩
theorem lw_p28 : lw_okq (⟨"AskedTable$Answer", "findBest", "(IIILAskedTable$Table;)V"⟩, 12) := ⟨⟨by decide +kernel, by decide +kernel⟩, List.mem_of_getElem? (i := 241) (by decide +kernel), List.mem_of_getElem? (i := 917) (by decide +kernel), List.mem_of_getElem? (i := 918) (by decide +kernel)⟩
theorem lw_p29 : lw_okq (⟨"AskedTable$Answer", "isBest", "()Z"⟩, 12) := ⟨⟨by decide +kernel, by decide +kernel⟩, List.mem_of_getElem? (i := 241) (by decide +kernel), List.mem_of_getElem? (i := 949) (by decide +kernel), List.mem_of_getElem? (i := 950) (by decide +kernel)⟩
theorem lw_p30 : lw_okq (⟨"AskedTable$Table", "addStretch", "(IIZLAskedTable$Chars;)V"⟩, 9) := ⟨⟨by decide +kernel, by decide +kernel⟩, List.mem_of_getElem? (i := 96) (by decide +kernel), List.mem_of_getElem? (i := 978) (by decide +kernel), List.mem_of_getElem? (i := 979) (by decide +kernel)⟩
theorem lw_p31 : lw_okq (⟨"AskedTable$Table", "needsMarks", "(I)Z"⟩, 9) := ⟨⟨by decide +kernel, by decide +kernel⟩, List.mem_of_getElem? (i := 96) (by decide +kernel), List.mem_of_getElem? (i := 990) (by decide +kernel), List.mem_of_getElem? (i := 991) (by decide +kernel)⟩
def lw_privs_2 : List (MethodName × Nat) := [(⟨"AskedTable$Question", "readName", "(Z)I"⟩, 10), (⟨"AskedTable$Question", "readCondition", "(I)V"⟩, 10), (⟨"AskedTable$Question", "readAll", "(I)V"⟩, 10), (⟨"AskedTable$Question", "readPart", "(I)V"⟩, 10), (⟨"AskedTable$Question", "addStep", "(I)V"⟩, 10), (⟨"AskedTable$Question", "readComparison", "()V"⟩, 10), (⟨"AskedTable$Question", "readWord", "(LAskedTable$Word;)V"⟩, 10), (⟨"AskedTable$Question", "readSort", "(I)V"⟩, 10), (⟨"AskedTable$Question", "truthOf", "(ILAskedTable$Chars;LAskedTable$Table;)I"⟩, 10), (⟨"AskedTable$Question", "truthIn", "(IILAskedTable$Chars;LAskedTable$Table;)I"⟩, 10), (⟨"AskedTable$Answer", "addLine", "(IILAskedTable$Table;)Z"⟩, 12), (⟨"AskedTable$Answer", "sumUp", "(IIILAskedTable$Table;)Z"⟩, 12), (⟨"AskedTable$Answer", "findBest", "(IIILAskedTable$Table;)V"⟩, 12), (⟨"AskedTable$Answer", "isBest", "()Z"⟩, 12), (⟨"AskedTable$Table", "addStretch", "(IIZLAskedTable$Chars;)V"⟩, 9), (⟨"AskedTable$Table", "needsMarks", "(I)Z"⟩, 9)]
theorem lw_r2 : ∀ q ∈ lw_privs_2, lw_okq q := List.forall_mem_cons.mpr ⟨lw_p16, List.forall_mem_cons.mpr ⟨lw_p17, List.forall_mem_cons.mpr ⟨lw_p18, List.forall_mem_cons.mpr ⟨lw_p19, List.forall_mem_cons.mpr ⟨lw_p20, List.forall_mem_cons.mpr ⟨lw_p21, List.forall_mem_cons.mpr ⟨lw_p22, List.forall_mem_cons.mpr ⟨lw_p23, List.forall_mem_cons.mpr ⟨lw_p24, List.forall_mem_cons.mpr ⟨lw_p25, List.forall_mem_cons.mpr ⟨lw_p26, List.forall_mem_cons.mpr ⟨lw_p27, List.forall_mem_cons.mpr ⟨lw_p28, List.forall_mem_cons.mpr ⟨lw_p29, List.forall_mem_cons.mpr ⟨lw_p30, List.forall_mem_cons.mpr ⟨lw_p31, fun _ h => absurd h List.not_mem_nil⟩⟩⟩⟩⟩⟩⟩⟩⟩⟩⟩⟩⟩⟩⟩⟩
theorem lw_p32 : lw_okq (⟨"AskedTable$Answer", "writeLine", "(ILAskedTable$Chars;LAskedTable$Table;)V"⟩, 12) := ⟨⟨by decide +kernel, by decide +kernel⟩, List.mem_of_getElem? (i := 241) (by decide +kernel), List.mem_of_getElem? (i := 1001) (by decide +kernel), List.mem_of_getElem? (i := 1002) (by decide +kernel)⟩
theorem lw_p33 : lw_okq (⟨"AskedTableModel", "cutText", "()Z"⟩, 49) := ⟨⟨by decide +kernel, by decide +kernel⟩, List.mem_of_getElem? (i := 1026) (by decide +kernel), List.mem_of_getElem? (i := 1197) (by decide +kernel), List.mem_of_getElem? (i := 1198) (by decide +kernel)⟩
theorem lw_p34 : lw_okq (⟨"AskedTableModel", "passField", "(I)I"⟩, 49) := ⟨⟨by decide +kernel, by decide +kernel⟩, List.mem_of_getElem? (i := 1026) (by decide +kernel), List.mem_of_getElem? (i := 1201) (by decide +kernel), List.mem_of_getElem? (i := 1202) (by decide +kernel)⟩
theorem lw_p35 : lw_okq (⟨"AskedTableModel", "field", "(IIZ)V"⟩, 49) := ⟨⟨by decide +kernel, by decide +kernel⟩, List.mem_of_getElem? (i := 1026) (by decide +kernel), List.mem_of_getElem? (i := 1205) (by decide +kernel), List.mem_of_getElem? (i := 1206) (by decide +kernel)⟩
theorem lw_p36 : lw_okq (⟨"AskedTableModel", "isEven", "()Z"⟩, 49) := ⟨⟨by decide +kernel, by decide +kernel⟩, List.mem_of_getElem? (i := 1026) (by decide +kernel), List.mem_of_getElem? (i := 1209) (by decide +kernel), List.mem_of_getElem? (i := 1210) (by decide +kernel)⟩
theorem lw_p37 : lw_okq (⟨"AskedTableModel", "areNames", "()Z"⟩, 49) := ⟨⟨by decide +kernel, by decide +kernel⟩, List.mem_of_getElem? (i := 1026) (by decide +kernel), List.mem_of_getElem? (i := 1213) (by decide +kernel), List.mem_of_getElem? (i := 1214) (by decide +kernel)⟩
theorem lw_p38 : lw_okq (⟨"AskedTableModel", "word", "(II)J"⟩, 49) := ⟨⟨by decide +kernel, by decide +kernel⟩, List.mem_of_getElem? (i := 1026) (by decide +kernel), List.mem_of_getElem? (i := 1220) (by decide +kernel), List.mem_of_getElem? (i := 1221) (by decide +kernel)⟩
theorem lw_p39 : lw_okq (⟨"AskedTableModel", "keep", "(II)V"⟩, 49) := ⟨⟨by decide +kernel, by decide +kernel⟩, List.mem_of_getElem? (i := 1026) (by decide +kernel), List.mem_of_getElem? (i := 1237) (by decide +kernel), List.mem_of_getElem? (i := 1238) (by decide +kernel)⟩
theorem lw_p40 : lw_okq (⟨"AskedTableModel", "findType", "(I)V"⟩, 49) := ⟨⟨by decide +kernel, by decide +kernel⟩, List.mem_of_getElem? (i := 1026) (by decide +kernel), List.mem_of_getElem? (i := 1241) (by decide +kernel), List.mem_of_getElem? (i := 1242) (by decide +kernel)⟩
theorem lw_p41 : lw_okq (⟨"AskedTableModel", "isNone", "(II)Z"⟩, 49) := ⟨⟨by decide +kernel, by decide +kernel⟩, List.mem_of_getElem? (i := 1026) (by decide +kernel), List.mem_of_getElem? (i := 1245) (by decide +kernel), List.mem_of_getElem? (i := 1246) (by decide +kernel)⟩
theorem lw_p42 : lw_okq (⟨"AskedTableModel", "fitsAll", "(II)Z"⟩, 49) := ⟨⟨by decide +kernel, by decide +kernel⟩, List.mem_of_getElem? (i := 1026) (by decide +kernel), List.mem_of_getElem? (i := 1249) (by decide +kernel), List.mem_of_getElem? (i := 1250) (by decide +kernel)⟩
theorem lw_p43 : lw_okq (⟨"AskedTableModel", "fits", "(II)Z"⟩, 49) := ⟨⟨by decide +kernel, by decide +kernel⟩, List.mem_of_getElem? (i := 1026) (by decide +kernel), List.mem_of_getElem? (i := 1253) (by decide +kernel), List.mem_of_getElem? (i := 1254) (by decide +kernel)⟩
theorem lw_p44 : lw_okq (⟨"AskedTableModel", "isDate", "(II)Z"⟩, 49) := ⟨⟨by decide +kernel, by decide +kernel⟩, List.mem_of_getElem? (i := 1026) (by decide +kernel), List.mem_of_getElem? (i := 1257) (by decide +kernel), List.mem_of_getElem? (i := 1258) (by decide +kernel)⟩
theorem lw_p45 : lw_okq (⟨"AskedTableModel", "digits", "(II)I"⟩, 49) := ⟨⟨by decide +kernel, by decide +kernel⟩, List.mem_of_getElem? (i := 1026) (by decide +kernel), List.mem_of_getElem? (i := 1261) (by decide +kernel), List.mem_of_getElem? (i := 1262) (by decide +kernel)⟩
theorem lw_p46 : lw_okq (⟨"AskedTableModel", "isWhole", "(II)Z"⟩, 49) := ⟨⟨by decide +kernel, by decide +kernel⟩, List.mem_of_getElem? (i := 1026) (by decide +kernel), List.mem_of_getElem? (i := 1270) (by decide +kernel), List.mem_of_getElem? (i := 1271) (by decide +kernel)⟩
theorem lw_p47 : lw_okq (⟨"AskedTableModel", "isColumn", "(I)Z"⟩, 49) := ⟨⟨by decide +kernel, by decide +kernel⟩, List.mem_of_getElem? (i := 1026) (by decide +kernel), List.mem_of_getElem? (i := 1286) (by decide +kernel), List.mem_of_getElem? (i := 1287) (by decide +kernel)⟩
def lw_privs_3 : List (MethodName × Nat) := [(⟨"AskedTable$Answer", "writeLine", "(ILAskedTable$Chars;LAskedTable$Table;)V"⟩, 12), (⟨"AskedTableModel", "cutText", "()Z"⟩, 49), (⟨"AskedTableModel", "passField", "(I)I"⟩, 49), (⟨"AskedTableModel", "field", "(IIZ)V"⟩, 49), (⟨"AskedTableModel", "isEven", "()Z"⟩, 49), (⟨"AskedTableModel", "areNames", "()Z"⟩, 49), (⟨"AskedTableModel", "word", "(II)J"⟩, 49), (⟨"AskedTableModel", "keep", "(II)V"⟩, 49), (⟨"AskedTableModel", "findType", "(I)V"⟩, 49), (⟨"AskedTableModel", "isNone", "(II)Z"⟩, 49), (⟨"AskedTableModel", "fitsAll", "(II)Z"⟩, 49), (⟨"AskedTableModel", "fits", "(II)Z"⟩, 49), (⟨"AskedTableModel", "isDate", "(II)Z"⟩, 49), (⟨"AskedTableModel", "digits", "(II)I"⟩, 49), (⟨"AskedTableModel", "isWhole", "(II)Z"⟩, 49), (⟨"AskedTableModel", "isColumn", "(I)Z"⟩, 49)]
theorem lw_r3 : ∀ q ∈ lw_privs_3, lw_okq q := List.forall_mem_cons.mpr ⟨lw_p32, List.forall_mem_cons.mpr ⟨lw_p33, List.forall_mem_cons.mpr ⟨lw_p34, List.forall_mem_cons.mpr ⟨lw_p35, List.forall_mem_cons.mpr ⟨lw_p36, List.forall_mem_cons.mpr ⟨lw_p37, List.forall_mem_cons.mpr ⟨lw_p38, List.forall_mem_cons.mpr ⟨lw_p39, List.forall_mem_cons.mpr ⟨lw_p40, List.forall_mem_cons.mpr ⟨lw_p41, List.forall_mem_cons.mpr ⟨lw_p42, List.forall_mem_cons.mpr ⟨lw_p43, List.forall_mem_cons.mpr ⟨lw_p44, List.forall_mem_cons.mpr ⟨lw_p45, List.forall_mem_cons.mpr ⟨lw_p46, List.forall_mem_cons.mpr ⟨lw_p47, fun _ h => absurd h List.not_mem_nil⟩⟩⟩⟩⟩⟩⟩⟩⟩⟩⟩⟩⟩⟩⟩⟩
theorem lw_p48 : lw_okq (⟨"AskedTableModel", "isCell", "(II)Z"⟩, 49) := ⟨⟨by decide +kernel, by decide +kernel⟩, List.mem_of_getElem? (i := 1026) (by decide +kernel), List.mem_of_getElem? (i := 1294) (by decide +kernel), List.mem_of_getElem? (i := 1295) (by decide +kernel)⟩
theorem lw_p49 : lw_okq (⟨"AskedTableModel", "fail", "(I)I"⟩, 49) := ⟨⟨by decide +kernel, by decide +kernel⟩, List.mem_of_getElem? (i := 1026) (by decide +kernel), List.mem_of_getElem? (i := 1306) (by decide +kernel), List.mem_of_getElem? (i := 1307) (by decide +kernel)⟩
theorem lw_p50 : lw_okq (⟨"AskedTableModel", "next", "()V"⟩, 49) := ⟨⟨by decide +kernel, by decide +kernel⟩, List.mem_of_getElem? (i := 1026) (by decide +kernel), List.mem_of_getElem? (i := 1310) (by decide +kernel), List.mem_of_getElem? (i := 1311) (by decide +kernel)⟩
theorem lw_p51 : lw_okq (⟨"AskedTableModel", "passMark", "(II)V"⟩, 49) := ⟨⟨by decide +kernel, by decide +kernel⟩, List.mem_of_getElem? (i := 1026) (by decide +kernel), List.mem_of_getElem? (i := 1314) (by decide +kernel), List.mem_of_getElem? (i := 1315) (by decide +kernel)⟩
theorem lw_p52 : lw_okq (⟨"AskedTableModel", "question", "()Z"⟩, 49) := ⟨⟨by decide +kernel, by decide +kernel⟩, List.mem_of_getElem? (i := 1026) (by decide +kernel), List.mem_of_getElem? (i := 1318) (by decide +kernel), List.mem_of_getElem? (i := 1319) (by decide +kernel)⟩
theorem lw_p53 : lw_okq (⟨"AskedTableModel", "isWord", "(J)Z"⟩, 49) := ⟨⟨by decide +kernel, by decide +kernel⟩, List.mem_of_getElem? (i := 1026) (by decide +kernel), List.mem_of_getElem? (i := 1323) (by decide +kernel), List.mem_of_getElem? (i := 1324) (by decide +kernel)⟩
theorem lw_p54 : lw_okq (⟨"AskedTableModel", "wrong", "()Z"⟩, 49) := ⟨⟨by decide +kernel, by decide +kernel⟩, List.mem_of_getElem? (i := 1026) (by decide +kernel), List.mem_of_getElem? (i := 1331) (by decide +kernel), List.mem_of_getElem? (i := 1332) (by decide +kernel)⟩
theorem lw_p55 : lw_okq (⟨"AskedTableModel", "passSign", "(I)Z"⟩, 49) := ⟨⟨by decide +kernel, by decide +kernel⟩, List.mem_of_getElem? (i := 1026) (by decide +kernel), List.mem_of_getElem? (i := 1335) (by decide +kernel), List.mem_of_getElem? (i := 1336) (by decide +kernel)⟩
theorem lw_p56 : lw_okq (⟨"AskedTableModel", "isSign", "(I)Z"⟩, 49) := ⟨⟨by decide +kernel, by decide +kernel⟩, List.mem_of_getElem? (i := 1026) (by decide +kernel), List.mem_of_getElem? (i := 1339) (by decide +kernel), List.mem_of_getElem? (i := 1340) (by decide +kernel)⟩
theorem lw_p57 : lw_okq (⟨"AskedTableModel", "named", "()I"⟩, 49) := ⟨⟨by decide +kernel, by decide +kernel⟩, List.mem_of_getElem? (i := 1026) (by decide +kernel), List.mem_of_getElem? (i := 1343) (by decide +kernel), List.mem_of_getElem? (i := 1344) (by decide +kernel)⟩
theorem lw_p58 : lw_okq (⟨"AskedTableModel", "passName", "()Z"⟩, 49) := ⟨⟨by decide +kernel, by decide +kernel⟩, List.mem_of_getElem? (i := 1026) (by decide +kernel), List.mem_of_getElem? (i := 1348) (by decide +kernel), List.mem_of_getElem? (i := 1349) (by decide +kernel)⟩
theorem lw_p59 : lw_okq (⟨"AskedTableModel", "condition", "()Z"⟩, 49) := ⟨⟨by decide +kernel, by decide +kernel⟩, List.mem_of_getElem? (i := 1026) (by decide +kernel), List.mem_of_getElem? (i := 1352) (by decide +kernel), List.mem_of_getElem? (i := 1353) (by decide +kernel)⟩
theorem lw_p60 : lw_okq (⟨"AskedTableModel", "part", "()Z"⟩, 49) := ⟨⟨by decide +kernel, by decide +kernel⟩, List.mem_of_getElem? (i := 1026) (by decide +kernel), List.mem_of_getElem? (i := 1356) (by decide +kernel), List.mem_of_getElem? (i := 1357) (by decide +kernel)⟩
theorem lw_p61 : lw_okq (⟨"AskedTableModel", "depth", "()I"⟩, 49) := ⟨⟨by decide +kernel, by decide +kernel⟩, List.mem_of_getElem? (i := 1026) (by decide +kernel), List.mem_of_getElem? (i := 1360) (by decide +kernel), List.mem_of_getElem? (i := 1361) (by decide +kernel)⟩
theorem lw_p62 : lw_okq (⟨"AskedTableModel", "comparison", "()Z"⟩, 49) := ⟨⟨by decide +kernel, by decide +kernel⟩, List.mem_of_getElem? (i := 1026) (by decide +kernel), List.mem_of_getElem? (i := 1364) (by decide +kernel), List.mem_of_getElem? (i := 1365) (by decide +kernel)⟩
theorem lw_p63 : lw_okq (⟨"AskedTableModel", "passWord", "(J)Z"⟩, 49) := ⟨⟨by decide +kernel, by decide +kernel⟩, List.mem_of_getElem? (i := 1026) (by decide +kernel), List.mem_of_getElem? (i := 1368) (by decide +kernel), List.mem_of_getElem? (i := 1369) (by decide +kernel)⟩
def lw_privs_4 : List (MethodName × Nat) := [(⟨"AskedTableModel", "isCell", "(II)Z"⟩, 49), (⟨"AskedTableModel", "fail", "(I)I"⟩, 49), (⟨"AskedTableModel", "next", "()V"⟩, 49), (⟨"AskedTableModel", "passMark", "(II)V"⟩, 49), (⟨"AskedTableModel", "question", "()Z"⟩, 49), (⟨"AskedTableModel", "isWord", "(J)Z"⟩, 49), (⟨"AskedTableModel", "wrong", "()Z"⟩, 49), (⟨"AskedTableModel", "passSign", "(I)Z"⟩, 49), (⟨"AskedTableModel", "isSign", "(I)Z"⟩, 49), (⟨"AskedTableModel", "named", "()I"⟩, 49), (⟨"AskedTableModel", "passName", "()Z"⟩, 49), (⟨"AskedTableModel", "condition", "()Z"⟩, 49), (⟨"AskedTableModel", "part", "()Z"⟩, 49), (⟨"AskedTableModel", "depth", "()I"⟩, 49), (⟨"AskedTableModel", "comparison", "()Z"⟩, 49), (⟨"AskedTableModel", "passWord", "(J)Z"⟩, 49)]
theorem lw_r4 : ∀ q ∈ lw_privs_4, lw_okq q := List.forall_mem_cons.mpr ⟨lw_p48, List.forall_mem_cons.mpr ⟨lw_p49, List.forall_mem_cons.mpr ⟨lw_p50, List.forall_mem_cons.mpr ⟨lw_p51, List.forall_mem_cons.mpr ⟨lw_p52, List.forall_mem_cons.mpr ⟨lw_p53, List.forall_mem_cons.mpr ⟨lw_p54, List.forall_mem_cons.mpr ⟨lw_p55, List.forall_mem_cons.mpr ⟨lw_p56, List.forall_mem_cons.mpr ⟨lw_p57, List.forall_mem_cons.mpr ⟨lw_p58, List.forall_mem_cons.mpr ⟨lw_p59, List.forall_mem_cons.mpr ⟨lw_p60, List.forall_mem_cons.mpr ⟨lw_p61, List.forall_mem_cons.mpr ⟨lw_p62, List.forall_mem_cons.mpr ⟨lw_p63, fun _ h => absurd h List.not_mem_nil⟩⟩⟩⟩⟩⟩⟩⟩⟩⟩⟩⟩⟩⟩⟩⟩
theorem lw_p64 : lw_okq (⟨"AskedTableModel", "addStep", "(I)V"⟩, 49) := ⟨⟨by decide +kernel, by decide +kernel⟩, List.mem_of_getElem? (i := 1026) (by decide +kernel), List.mem_of_getElem? (i := 1372) (by decide +kernel), List.mem_of_getElem? (i := 1373) (by decide +kernel)⟩
theorem lw_p65 : lw_okq (⟨"AskedTableModel", "operator", "()I"⟩, 49) := ⟨⟨by decide +kernel, by decide +kernel⟩, List.mem_of_getElem? (i := 1026) (by decide +kernel), List.mem_of_getElem? (i := 1376) (by decide +kernel), List.mem_of_getElem? (i := 1377) (by decide +kernel)⟩
theorem lw_p66 : lw_okq (⟨"AskedTableModel", "release", "(II)V"⟩, 49) := ⟨⟨by decide +kernel, by decide +kernel⟩, List.mem_of_getElem? (i := 1026) (by decide +kernel), List.mem_of_getElem? (i := 1383) (by decide +kernel), List.mem_of_getElem? (i := 1384) (by decide +kernel)⟩
theorem lw_p67 : lw_okq (⟨"AskedTableModel", "chooseRows", "()V"⟩, 49) := ⟨⟨by decide +kernel, by decide +kernel⟩, List.mem_of_getElem? (i := 1026) (by decide +kernel), List.mem_of_getElem? (i := 1387) (by decide +kernel), List.mem_of_getElem? (i := 1388) (by decide +kernel)⟩
theorem lw_p68 : lw_okq (⟨"AskedTableModel", "isChosen", "(I)Z"⟩, 49) := ⟨⟨by decide +kernel, by decide +kernel⟩, List.mem_of_getElem? (i := 1026) (by decide +kernel), List.mem_of_getElem? (i := 1391) (by decide +kernel), List.mem_of_getElem? (i := 1392) (by decide +kernel)⟩
theorem lw_p69 : lw_okq (⟨"AskedTableModel", "compared", "(II)I"⟩, 49) := ⟨⟨by decide +kernel, by decide +kernel⟩, List.mem_of_getElem? (i := 1026) (by decide +kernel), List.mem_of_getElem? (i := 1395) (by decide +kernel), List.mem_of_getElem? (i := 1396) (by decide +kernel)⟩
theorem lw_p70 : lw_okq (⟨"AskedTableModel", "compareCells", "(IIII)I"⟩, 49) := ⟨⟨by decide +kernel, by decide +kernel⟩, List.mem_of_getElem? (i := 1026) (by decide +kernel), List.mem_of_getElem? (i := 1399) (by decide +kernel), List.mem_of_getElem? (i := 1400) (by decide +kernel)⟩
theorem lw_p71 : lw_okq (⟨"AskedTableModel", "compareValues", "(JJ)I"⟩, 49) := ⟨⟨by decide +kernel, by decide +kernel⟩, List.mem_of_getElem? (i := 1026) (by decide +kernel), List.mem_of_getElem? (i := 1403) (by decide +kernel), List.mem_of_getElem? (i := 1404) (by decide +kernel)⟩
theorem lw_p72 : lw_okq (⟨"AskedTableModel", "compareTexts", "(IIII)I"⟩, 49) := ⟨⟨by decide +kernel, by decide +kernel⟩, List.mem_of_getElem? (i := 1026) (by decide +kernel), List.mem_of_getElem? (i := 1407) (by decide +kernel), List.mem_of_getElem? (i := 1408) (by decide +kernel)⟩
theorem lw_p73 : lw_okq (⟨"AskedTableModel", "isBefore", "(II)Z"⟩, 49) := ⟨⟨by decide +kernel, by decide +kernel⟩, List.mem_of_getElem? (i := 1026) (by decide +kernel), List.mem_of_getElem? (i := 1414) (by decide +kernel), List.mem_of_getElem? (i := 1415) (by decide +kernel)⟩
theorem lw_p74 : lw_okq (⟨"AskedTableModel", "aggregateAll", "()Z"⟩, 49) := ⟨⟨by decide +kernel, by decide +kernel⟩, List.mem_of_getElem? (i := 1026) (by decide +kernel), List.mem_of_getElem? (i := 1418) (by decide +kernel), List.mem_of_getElem? (i := 1419) (by decide +kernel)⟩
theorem lw_p75 : lw_okq (⟨"AskedTableModel", "begin", "(II)V"⟩, 49) := ⟨⟨by decide +kernel, by decide +kernel⟩, List.mem_of_getElem? (i := 1026) (by decide +kernel), List.mem_of_getElem? (i := 1422) (by decide +kernel), List.mem_of_getElem? (i := 1423) (by decide +kernel)⟩
theorem lw_p76 : lw_okq (⟨"AskedTableModel", "lineOf", "(I)I"⟩, 49) := ⟨⟨by decide +kernel, by decide +kernel⟩, List.mem_of_getElem? (i := 1026) (by decide +kernel), List.mem_of_getElem? (i := 1426) (by decide +kernel), List.mem_of_getElem? (i := 1427) (by decide +kernel)⟩
theorem lw_p77 : lw_okq (⟨"AskedTableModel", "compareLine", "(II)I"⟩, 49) := ⟨⟨by decide +kernel, by decide +kernel⟩, List.mem_of_getElem? (i := 1026) (by decide +kernel), List.mem_of_getElem? (i := 1430) (by decide +kernel), List.mem_of_getElem? (i := 1431) (by decide +kernel)⟩
theorem lw_p78 : lw_okq (⟨"AskedTableModel", "moveLine", "(II)V"⟩, 49) := ⟨⟨by decide +kernel, by decide +kernel⟩, List.mem_of_getElem? (i := 1026) (by decide +kernel), List.mem_of_getElem? (i := 1434) (by decide +kernel), List.mem_of_getElem? (i := 1435) (by decide +kernel)⟩
theorem lw_p79 : lw_okq (⟨"AskedTableModel", "gather", "(II)Z"⟩, 49) := ⟨⟨by decide +kernel, by decide +kernel⟩, List.mem_of_getElem? (i := 1026) (by decide +kernel), List.mem_of_getElem? (i := 1438) (by decide +kernel), List.mem_of_getElem? (i := 1439) (by decide +kernel)⟩
def lw_privs_5 : List (MethodName × Nat) := [(⟨"AskedTableModel", "addStep", "(I)V"⟩, 49), (⟨"AskedTableModel", "operator", "()I"⟩, 49), (⟨"AskedTableModel", "release", "(II)V"⟩, 49), (⟨"AskedTableModel", "chooseRows", "()V"⟩, 49), (⟨"AskedTableModel", "isChosen", "(I)Z"⟩, 49), (⟨"AskedTableModel", "compared", "(II)I"⟩, 49), (⟨"AskedTableModel", "compareCells", "(IIII)I"⟩, 49), (⟨"AskedTableModel", "compareValues", "(JJ)I"⟩, 49), (⟨"AskedTableModel", "compareTexts", "(IIII)I"⟩, 49), (⟨"AskedTableModel", "isBefore", "(II)Z"⟩, 49), (⟨"AskedTableModel", "aggregateAll", "()Z"⟩, 49), (⟨"AskedTableModel", "begin", "(II)V"⟩, 49), (⟨"AskedTableModel", "lineOf", "(I)I"⟩, 49), (⟨"AskedTableModel", "compareLine", "(II)I"⟩, 49), (⟨"AskedTableModel", "moveLine", "(II)V"⟩, 49), (⟨"AskedTableModel", "gather", "(II)Z"⟩, 49)]
theorem lw_r5 : ∀ q ∈ lw_privs_5, lw_okq q := List.forall_mem_cons.mpr ⟨lw_p64, List.forall_mem_cons.mpr ⟨lw_p65, List.forall_mem_cons.mpr ⟨lw_p66, List.forall_mem_cons.mpr ⟨lw_p67, List.forall_mem_cons.mpr ⟨lw_p68, List.forall_mem_cons.mpr ⟨lw_p69, List.forall_mem_cons.mpr ⟨lw_p70, List.forall_mem_cons.mpr ⟨lw_p71, List.forall_mem_cons.mpr ⟨lw_p72, List.forall_mem_cons.mpr ⟨lw_p73, List.forall_mem_cons.mpr ⟨lw_p74, List.forall_mem_cons.mpr ⟨lw_p75, List.forall_mem_cons.mpr ⟨lw_p76, List.forall_mem_cons.mpr ⟨lw_p77, List.forall_mem_cons.mpr ⟨lw_p78, List.forall_mem_cons.mpr ⟨lw_p79, fun _ h => absurd h List.not_mem_nil⟩⟩⟩⟩⟩⟩⟩⟩⟩⟩⟩⟩⟩⟩⟩⟩
theorem lw_p80 : lw_okq (⟨"AskedTableModel", "sayNames", "()V"⟩, 49) := ⟨⟨by decide +kernel, by decide +kernel⟩, List.mem_of_getElem? (i := 1026) (by decide +kernel), List.mem_of_getElem? (i := 1462) (by decide +kernel), List.mem_of_getElem? (i := 1463) (by decide +kernel)⟩
theorem lw_p81 : lw_okq (⟨"AskedTableModel", "say", "(I)V"⟩, 49) := ⟨⟨by decide +kernel, by decide +kernel⟩, List.mem_of_getElem? (i := 1026) (by decide +kernel), List.mem_of_getElem? (i := 1466) (by decide +kernel), List.mem_of_getElem? (i := 1467) (by decide +kernel)⟩
theorem lw_p82 : lw_okq (⟨"AskedTableModel", "sayWord", "(J)V"⟩, 49) := ⟨⟨by decide +kernel, by decide +kernel⟩, List.mem_of_getElem? (i := 1026) (by decide +kernel), List.mem_of_getElem? (i := 1470) (by decide +kernel), List.mem_of_getElem? (i := 1471) (by decide +kernel)⟩
theorem lw_p83 : lw_okq (⟨"AskedTableModel", "sayRow", "(I)V"⟩, 49) := ⟨⟨by decide +kernel, by decide +kernel⟩, List.mem_of_getElem? (i := 1026) (by decide +kernel), List.mem_of_getElem? (i := 1474) (by decide +kernel), List.mem_of_getElem? (i := 1475) (by decide +kernel)⟩
theorem lw_p84 : lw_okq (⟨"AskedTableModel", "sayCell", "(II)V"⟩, 49) := ⟨⟨by decide +kernel, by decide +kernel⟩, List.mem_of_getElem? (i := 1026) (by decide +kernel), List.mem_of_getElem? (i := 1478) (by decide +kernel), List.mem_of_getElem? (i := 1479) (by decide +kernel)⟩
theorem lw_p85 : lw_okq (⟨"AskedTableModel", "sayLine", "(I)V"⟩, 49) := ⟨⟨by decide +kernel, by decide +kernel⟩, List.mem_of_getElem? (i := 1026) (by decide +kernel), List.mem_of_getElem? (i := 1482) (by decide +kernel), List.mem_of_getElem? (i := 1483) (by decide +kernel)⟩
theorem lw_p86 : lw_okq (⟨"AskedTableModel", "sayNumber", "(J)V"⟩, 49) := ⟨⟨by decide +kernel, by decide +kernel⟩, List.mem_of_getElem? (i := 1026) (by decide +kernel), List.mem_of_getElem? (i := 1486) (by decide +kernel), List.mem_of_getElem? (i := 1487) (by decide +kernel)⟩
def lw_privs_6 : List (MethodName × Nat) := [(⟨"AskedTableModel", "sayNames", "()V"⟩, 49), (⟨"AskedTableModel", "say", "(I)V"⟩, 49), (⟨"AskedTableModel", "sayWord", "(J)V"⟩, 49), (⟨"AskedTableModel", "sayRow", "(I)V"⟩, 49), (⟨"AskedTableModel", "sayCell", "(II)V"⟩, 49), (⟨"AskedTableModel", "sayLine", "(I)V"⟩, 49), (⟨"AskedTableModel", "sayNumber", "(J)V"⟩, 49)]
theorem lw_r6 : ∀ q ∈ lw_privs_6, lw_okq q := List.forall_mem_cons.mpr ⟨lw_p80, List.forall_mem_cons.mpr ⟨lw_p81, List.forall_mem_cons.mpr ⟨lw_p82, List.forall_mem_cons.mpr ⟨lw_p83, List.forall_mem_cons.mpr ⟨lw_p84, List.forall_mem_cons.mpr ⟨lw_p85, List.forall_mem_cons.mpr ⟨lw_p86, fun _ h => absurd h List.not_mem_nil⟩⟩⟩⟩⟩⟩⟩
def lw_privs : List (MethodName × Nat) := lw_privs_1 ++ (lw_privs_2 ++ (lw_privs_3 ++ (lw_privs_4 ++ (lw_privs_5 ++ (lw_privs_6)))))
def lw_tbl : List Cond := k2_sels lw_privs ++ tables_1
theorem lw_privs_ok : ∀ q ∈ lw_privs, lw_okq q := by
  show ∀ q ∈ lw_privs_1 ++ (lw_privs_2 ++ (lw_privs_3 ++ (lw_privs_4 ++ (lw_privs_5 ++ (lw_privs_6))))), lw_okq q
  exact List.forall_mem_append.mpr ⟨lw_r1, List.forall_mem_append.mpr ⟨lw_r2, List.forall_mem_append.mpr ⟨lw_r3, List.forall_mem_append.mpr ⟨lw_r4, List.forall_mem_append.mpr ⟨lw_r5, lw_r6⟩⟩⟩⟩⟩
def RX0 : String := "AskedTable$Answer"
def TX0 : u_T := fun k => match k with
  | 0 => ("AskedTable$Answer", "given", "Z", false)
  | 1 => ("AskedTable$Answer", "kind", "LAskedTable$Word;", false)
  | 2 => ("AskedTable$Answer", "column", "I", false)
  | 3 => ("AskedTable$Answer", "key", "I", false)
  | 4 => ("AskedTable$Answer", "size", "I", false)
  | 5 => ("AskedTable$Answer", "chosen", "I", false)
  | 6 => ("AskedTable$Answer", "rows", "[I", true)
  | 7 => ("AskedTable$Answer", "counts", "[I", true)
  | 8 => ("AskedTable$Answer", "keyRows", "[I", true)
  | 9 => ("AskedTable$Answer", "bestRows", "[I", true)
  | 10 => ("AskedTable$Answer", "values", "[J", true)
  | _ => ("AskedTable$Answer", "lacking", "[Z", true)
def tyX0 : Nat → FieldType := fun k => match k with
  | 0 => .boolean
  | 1 => .object "AskedTable$Word"
  | 2 => .int
  | 3 => .int
  | 4 => .int
  | 5 => .int
  | 6 => .array .int
  | 7 => .array .int
  | 8 => .array .int
  | 9 => .array .int
  | 10 => .array .long
  | _ => .array .boolean
abbrev wsX00 : List Cond := u_ws RX0 TX0 12
theorem nmX0 : ∀ a, a < 12 → ∀ b, b < 12 → a ≠ b → (TX0 a).2.1 ≠ (TX0 b).2.1 := by decide +kernel
theorem tyX0_ok : ∀ k, k < 12 → parseFieldDescriptor (TX0 k).2.2.1 = some (tyX0 k) := by decide +kernel
def RX1 : String := "AskedTable$Chars"
def TX1 : u_T := fun k => match k with
  | 0 => ("AskedTable$Chars", "chars", "[C", true)
  | _ => ("AskedTable$Chars", "length", "I", false)
def tyX1 : Nat → FieldType := fun k => match k with
  | 0 => .array .char
  | _ => .int
abbrev wsX10 : List Cond := u_ws RX1 TX1 2
theorem nmX1 : ∀ a, a < 2 → ∀ b, b < 2 → a ≠ b → (TX1 a).2.1 ≠ (TX1 b).2.1 := by decide +kernel
theorem tyX1_ok : ∀ k, k < 2 → parseFieldDescriptor (TX1 k).2.2.1 = some (tyX1 k) := by decide +kernel
def RX2 : String := "AskedTable$Question"
def TX2 : u_T := fun k => match k with
  | 0 => ("AskedTable$Question", "tokens", "LAskedTable$Tokens;", true)
  | 1 => ("AskedTable$Question", "steps", "[I", true)
  | 2 => ("AskedTable$Question", "stack", "[I", true)
  | 3 => ("AskedTable$Question", "stepCount", "I", false)
  | 4 => ("AskedTable$Question", "place", "I", false)
  | 5 => ("AskedTable$Question", "wrongAt", "I", false)
  | 6 => ("AskedTable$Question", "kind", "LAskedTable$Word;", false)
  | 7 => ("AskedTable$Question", "column", "I", false)
  | 8 => ("AskedTable$Question", "key", "I", false)
  | _ => ("AskedTable$Question", "falling", "Z", false)
def tyX2 : Nat → FieldType := fun k => match k with
  | 0 => .object "AskedTable$Tokens"
  | 1 => .array .int
  | 2 => .array .int
  | 3 => .int
  | 4 => .int
  | 5 => .int
  | 6 => .object "AskedTable$Word"
  | 7 => .int
  | 8 => .int
  | _ => .boolean
abbrev wsX20 : List Cond := u_ws RX2 TX2 10
theorem nmX2 : ∀ a, a < 10 → ∀ b, b < 10 → a ≠ b → (TX2 a).2.1 ≠ (TX2 b).2.1 := by decide +kernel
theorem tyX2_ok : ∀ k, k < 10 → parseFieldDescriptor (TX2 k).2.2.1 = some (tyX2 k) := by decide +kernel
def RX3 : String := "AskedTable$Records"
def TX3 : u_T := fun k => match k with
  | 0 => ("AskedTable$Records", "from", "[I", true)
  | 1 => ("AskedTable$Records", "to", "[I", true)
  | 2 => ("AskedTable$Records", "quoted", "[Z", true)
  | 3 => ("AskedTable$Records", "fields", "I", false)
  | 4 => ("AskedTable$Records", "count", "I", false)
  | 5 => ("AskedTable$Records", "width", "I", false)
  | 6 => ("AskedTable$Records", "fieldsOfRecord", "I", false)
  | 7 => ("AskedTable$Records", "fieldStart", "I", false)
  | _ => ("AskedTable$Records", "sameWidth", "Z", false)
def tyX3 : Nat → FieldType := fun k => match k with
  | 0 => .array .int
  | 1 => .array .int
  | 2 => .array .boolean
  | 3 => .int
  | 4 => .int
  | 5 => .int
  | 6 => .int
  | 7 => .int
  | _ => .boolean
abbrev wsX30 : List Cond := u_ws RX3 TX3 9
theorem nmX3 : ∀ a, a < 9 → ∀ b, b < 9 → a ≠ b → (TX3 a).2.1 ≠ (TX3 b).2.1 := by decide +kernel
theorem tyX3_ok : ∀ k, k < 9 → parseFieldDescriptor (TX3 k).2.2.1 = some (tyX3 k) := by decide +kernel
def RX4 : String := "AskedTable$Table"
def TX4 : u_T := fun k => match k with
  | 0 => ("AskedTable$Table", "chars", "LAskedTable$Chars;", true)
  | 1 => ("AskedTable$Table", "from", "[I", true)
  | 2 => ("AskedTable$Table", "to", "[I", true)
  | 3 => ("AskedTable$Table", "quoted", "[Z", true)
  | 4 => ("AskedTable$Table", "shape", "[I", true)
  | 5 => ("AskedTable$Table", "values", "[J", true)
  | 6 => ("AskedTable$Table", "types", "[I", true)
  | 7 => ("AskedTable$Table", "rows", "I", false)
  | _ => ("AskedTable$Table", "columns", "I", false)
def tyX4 : Nat → FieldType := fun k => match k with
  | 0 => .object "AskedTable$Chars"
  | 1 => .array .int
  | 2 => .array .int
  | 3 => .array .boolean
  | 4 => .array .int
  | 5 => .array .long
  | 6 => .array .int
  | 7 => .int
  | _ => .int
abbrev wsX40 : List Cond := u_ws RX4 TX4 9
theorem nmX4 : ∀ a, a < 9 → ∀ b, b < 9 → a ≠ b → (TX4 a).2.1 ≠ (TX4 b).2.1 := by decide +kernel
theorem tyX4_ok : ∀ k, k < 9 → parseFieldDescriptor (TX4 k).2.2.1 = some (tyX4 k) := by decide +kernel
def RX5 : String := "AskedTable$Token"
def TX5 : u_T := fun k => match k with
  | 0 => ("AskedTable$Token", "kind", "I", false)
  | 1 => ("AskedTable$Token", "from", "I", false)
  | 2 => ("AskedTable$Token", "to", "I", false)
  | 3 => ("AskedTable$Token", "word", "LAskedTable$Word;", false)
  | 4 => ("AskedTable$Token", "column", "I", false)
  | 5 => ("AskedTable$Token", "sort", "I", false)
  | 6 => ("AskedTable$Token", "value", "J", false)
  | _ => ("AskedTable$Token", "outcomes", "I", false)
def tyX5 : Nat → FieldType := fun k => match k with
  | 0 => .int
  | 1 => .int
  | 2 => .int
  | 3 => .object "AskedTable$Word"
  | 4 => .int
  | 5 => .int
  | 6 => .long
  | _ => .int
abbrev wsX50 : List Cond := u_ws RX5 TX5 8
theorem nmX5 : ∀ a, a < 8 → ∀ b, b < 8 → a ≠ b → (TX5 a).2.1 ≠ (TX5 b).2.1 := by decide +kernel
theorem tyX5_ok : ∀ k, k < 8 → parseFieldDescriptor (TX5 k).2.2.1 = some (tyX5 k) := by decide +kernel
def RX6 : String := "AskedTable$Tokens"
def TX6 : u_T := fun k => match k with
  | 0 => ("AskedTable$Tokens", "tokens", "[LAskedTable$Token;", true)
  | _ => ("AskedTable$Tokens", "count", "I", false)
def tyX6 : Nat → FieldType := fun k => match k with
  | 0 => .array (.object "AskedTable$Token")
  | _ => .int
abbrev wsX60 : List Cond := u_ws RX6 TX6 2
theorem nmX6 : ∀ a, a < 2 → ∀ b, b < 2 → a ≠ b → (TX6 a).2.1 ≠ (TX6 b).2.1 := by decide +kernel
theorem tyX6_ok : ∀ k, k < 2 → parseFieldDescriptor (TX6 k).2.2.1 = some (tyX6 k) := by decide +kernel
def RX7 : String := "AskedTable$Word"
def TX7 : u_T := fun k => match k with
  | _ => ("", "", "", false)
def tyX7 : Nat → FieldType := fun k => match k with
  | _ => .int
abbrev wsX70 : List Cond := u_ws RX7 TX7 0
theorem nmX7 : ∀ a, a < 0 → ∀ b, b < 0 → a ≠ b → (TX7 a).2.1 ≠ (TX7 b).2.1 := by decide +kernel
theorem tyX7_ok : ∀ k, k < 0 → parseFieldDescriptor (TX7 k).2.2.1 = some (tyX7 k) := by decide +kernel
def RX8 : String := "AskedTable"
def TX8 : u_T := fun k => match k with
  | 0 => ("AskedTable", "text", "LAskedTable$Chars;", true)
  | 1 => ("AskedTable", "question", "LAskedTable$Chars;", true)
  | 2 => ("AskedTable", "written", "LAskedTable$Chars;", true)
  | 3 => ("AskedTable", "records", "LAskedTable$Records;", true)
  | 4 => ("AskedTable", "table", "LAskedTable$Table;", true)
  | 5 => ("AskedTable", "asked", "LAskedTable$Question;", true)
  | 6 => ("AskedTable", "answer", "LAskedTable$Answer;", true)
  | _ => ("AskedTable", "faultPlace", "I", false)
def tyX8 : Nat → FieldType := fun k => match k with
  | 0 => .object "AskedTable$Chars"
  | 1 => .object "AskedTable$Chars"
  | 2 => .object "AskedTable$Chars"
  | 3 => .object "AskedTable$Records"
  | 4 => .object "AskedTable$Table"
  | 5 => .object "AskedTable$Question"
  | 6 => .object "AskedTable$Answer"
  | _ => .int
abbrev wsX80 : List Cond := u_ws RX8 TX8 8
theorem nmX8 : ∀ a, a < 8 → ∀ b, b < 8 → a ≠ b → (TX8 a).2.1 ≠ (TX8 b).2.1 := by decide +kernel
theorem tyX8_ok : ∀ k, k < 8 → parseFieldDescriptor (TX8 k).2.2.1 = some (tyX8 k) := by decide +kernel
def RX9 : String := "AskedTableModel"
def TX9 : u_T := fun k => match k with
  | 0 => ("AskedTableModel", "thrown", "I", false)
  | 1 => ("AskedTableModel", "row", "[I", true)
  | 2 => ("AskedTableModel", "size", "I", false)
  | 3 => ("AskedTableModel", "asked", "I", false)
  | 4 => ("AskedTableModel", "columns", "I", false)
  | 5 => ("AskedTableModel", "rows", "I", false)
  | 6 => ("AskedTableModel", "names", "[J", true)
  | 7 => ("AskedTableModel", "types", "[I", true)
  | 8 => ("AskedTableModel", "used", "I", false)
  | 9 => ("AskedTableModel", "from", "[I", true)
  | 10 => ("AskedTableModel", "wide", "[I", true)
  | 11 => ("AskedTableModel", "quoted", "[Z", true)
  | 12 => ("AskedTableModel", "values", "[J", true)
  | 13 => ("AskedTableModel", "fields", "I", false)
  | 14 => ("AskedTableModel", "fieldFrom", "[I", true)
  | 15 => ("AskedTableModel", "fieldTo", "[I", true)
  | 16 => ("AskedTableModel", "fieldQuoted", "[Z", true)
  | 17 => ("AskedTableModel", "records", "I", false)
  | 18 => ("AskedTableModel", "record", "[I", true)
  | 19 => ("AskedTableModel", "good", "Z", false)
  | 20 => ("AskedTableModel", "number", "J", false)
  | 21 => ("AskedTableModel", "at", "I", false)
  | 22 => ("AskedTableModel", "token", "I", false)
  | 23 => ("AskedTableModel", "tokenFrom", "I", false)
  | 24 => ("AskedTableModel", "tokenTo", "I", false)
  | 25 => ("AskedTableModel", "fault", "I", false)
  | 26 => ("AskedTableModel", "steps", "I", false)
  | 27 => ("AskedTableModel", "step", "[I", true)
  | 28 => ("AskedTableModel", "column", "[I", true)
  | 29 => ("AskedTableModel", "sign", "[I", true)
  | 30 => ("AskedTableModel", "other", "[I", true)
  | 31 => ("AskedTableModel", "otherFrom", "[I", true)
  | 32 => ("AskedTableModel", "otherTo", "[I", true)
  | 33 => ("AskedTableModel", "constant", "[J", true)
  | 34 => ("AskedTableModel", "waits", "I", false)
  | 35 => ("AskedTableModel", "waiting", "[I", true)
  | 36 => ("AskedTableModel", "truth", "[I", true)
  | 37 => ("AskedTableModel", "lines", "I", false)
  | 38 => ("AskedTableModel", "what", "I", false)
  | 39 => ("AskedTableModel", "by", "I", false)
  | 40 => ("AskedTableModel", "of", "I", false)
  | 41 => ("AskedTableModel", "line", "[I", true)
  | 42 => ("AskedTableModel", "members", "[I", true)
  | 43 => ("AskedTableModel", "sums", "[J", true)
  | 44 => ("AskedTableModel", "best", "[I", true)
  | 45 => ("AskedTableModel", "outs", "I", false)
  | 46 => ("AskedTableModel", "out", "[I", true)
  | 47 => ("AskedTableModel", "order", "I", false)
  | _ => ("AskedTableModel", "descends", "Z", false)
def tyX9 : Nat → FieldType := fun k => match k with
  | 0 => .int
  | 1 => .array .int
  | 2 => .int
  | 3 => .int
  | 4 => .int
  | 5 => .int
  | 6 => .array .long
  | 7 => .array .int
  | 8 => .int
  | 9 => .array .int
  | 10 => .array .int
  | 11 => .array .boolean
  | 12 => .array .long
  | 13 => .int
  | 14 => .array .int
  | 15 => .array .int
  | 16 => .array .boolean
  | 17 => .int
  | 18 => .array .int
  | 19 => .boolean
  | 20 => .long
  | 21 => .int
  | 22 => .int
  | 23 => .int
  | 24 => .int
  | 25 => .int
  | 26 => .int
  | 27 => .array .int
  | 28 => .array .int
  | 29 => .array .int
  | 30 => .array .int
  | 31 => .array .int
  | 32 => .array .int
  | 33 => .array .long
  | 34 => .int
  | 35 => .array .int
  | 36 => .array .int
  | 37 => .int
  | 38 => .int
  | 39 => .int
  | 40 => .int
  | 41 => .array .int
  | 42 => .array .int
  | 43 => .array .long
  | 44 => .array .int
  | 45 => .int
  | 46 => .array .int
  | 47 => .int
  | _ => .boolean
abbrev wsX90 : List Cond := u_ws RX9 TX9 49
theorem nmX9 : ∀ a, a < 49 → ∀ b, b < 49 → a ≠ b → (TX9 a).2.1 ≠ (TX9 b).2.1 := by decide +kernel
theorem tyX9_ok : ∀ k, k < 49 → parseFieldDescriptor (TX9 k).2.2.1 = some (tyX9 k) := by decide +kernel
def RL : String := "AskedTableLaw"
abbrev vwCl : List vw_C := [(RX0, TX0, 12), (RX1, TX1, 2), (RX2, TX2, 10), (RX3, TX3, 9), (RX4, TX4, 9), (RX5, TX5, 8), (RX6, TX6, 2), (RX8, TX8, 8), (RX9, TX9, 49)]
