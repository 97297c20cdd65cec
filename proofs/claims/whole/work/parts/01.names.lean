-- ===== PART A: goes FIRST, ahead of the names: the tables' words, and 'selects' of the private methods out of them =====
/-- a private method of a class that the tables say can be made, by its rows of tables_1 -/
def lw_okq (q : MethodName × Nat) : Prop := (q.1.cls ≠ "java/lang/invoke/MethodHandle" ∧ q.1.cls ≠ "java/lang/invoke/VarHandle") ∧ Cond.instantiable q.1.cls q.2 ∈ tables_1 ∧ Cond.privateMethod q.1 ∈ tables_1 ∧ Cond.instanceMethod q.1 ∈ tables_1
theorem lw_p0 : lw_okq (⟨"FortyReports", "tell", "(I)I"⟩, 10) := ⟨⟨by decide +kernel, by decide +kernel⟩, List.mem_of_getElem? (i := 18) (by decide +kernel), List.mem_of_getElem? (i := 270) (by decide +kernel), List.mem_of_getElem? (i := 271) (by decide +kernel)⟩
theorem lw_p1 : lw_okq (⟨"FortyReports", "isChild", "(I)Z"⟩, 10) := ⟨⟨by decide +kernel, by decide +kernel⟩, List.mem_of_getElem? (i := 18) (by decide +kernel), List.mem_of_getElem? (i := 283) (by decide +kernel), List.mem_of_getElem? (i := 284) (by decide +kernel)⟩
theorem lw_p2 : lw_okq (⟨"FortyReports", "maySet", "(III)Z"⟩, 10) := ⟨⟨by decide +kernel, by decide +kernel⟩, List.mem_of_getElem? (i := 18) (by decide +kernel), List.mem_of_getElem? (i := 298) (by decide +kernel), List.mem_of_getElem? (i := 299) (by decide +kernel)⟩
theorem lw_p3 : lw_okq (⟨"FortyReports", "isLine", "(I)Z"⟩, 10) := ⟨⟨by decide +kernel, by decide +kernel⟩, List.mem_of_getElem? (i := 18) (by decide +kernel), List.mem_of_getElem? (i := 322) (by decide +kernel), List.mem_of_getElem? (i := 323) (by decide +kernel)⟩
theorem lw_p4 : lw_okq (⟨"FortyReports$Pen", "weighUsable", "(LFortyReports$School;I)I"⟩, 5) := ⟨⟨by decide +kernel, by decide +kernel⟩, List.mem_of_getElem? (i := 117) (by decide +kernel), List.mem_of_getElem? (i := 384) (by decide +kernel), List.mem_of_getElem? (i := 385) (by decide +kernel)⟩
theorem lw_p5 : lw_okq (⟨"FortyReports$Pen", "worthiest", "(I)I"⟩, 5) := ⟨⟨by decide +kernel, by decide +kernel⟩, List.mem_of_getElem? (i := 117) (by decide +kernel), List.mem_of_getElem? (i := 392) (by decide +kernel), List.mem_of_getElem? (i := 393) (by decide +kernel)⟩
theorem lw_p6 : lw_okq (⟨"FortyReports", "isSetOfChildren", "(I)Z"⟩, 10) := ⟨⟨by decide +kernel, by decide +kernel⟩, List.mem_of_getElem? (i := 18) (by decide +kernel), List.mem_of_getElem? (i := 415) (by decide +kernel), List.mem_of_getElem? (i := 416) (by decide +kernel)⟩
theorem lw_p7 : lw_okq (⟨"FortyReports$HeapText", "advance", "()V"⟩, 6) := ⟨⟨by decide +kernel, by decide +kernel⟩, List.mem_of_getElem? (i := 179) (by decide +kernel), List.mem_of_getElem? (i := 573) (by decide +kernel), List.mem_of_getElem? (i := 574) (by decide +kernel)⟩
theorem lw_p8 : lw_okq (⟨"FortyReports$HeapText", "takeItem", "(LFortyReports$School;)Z"⟩, 6) := ⟨⟨by decide +kernel, by decide +kernel⟩, List.mem_of_getElem? (i := 179) (by decide +kernel), List.mem_of_getElem? (i := 584) (by decide +kernel), List.mem_of_getElem? (i := 585) (by decide +kernel)⟩
theorem lw_p9 : lw_okq (⟨"FortyReports$HeapText", "isName", "(Ljava/lang/String;)Z"⟩, 6) := ⟨⟨by decide +kernel, by decide +kernel⟩, List.mem_of_getElem? (i := 179) (by decide +kernel), List.mem_of_getElem? (i := 589) (by decide +kernel), List.mem_of_getElem? (i := 590) (by decide +kernel)⟩
theorem lw_p10 : lw_okq (⟨"FortyReports$HeapText", "nameAmong", "(Ljava/lang/String;)I"⟩, 6) := ⟨⟨by decide +kernel, by decide +kernel⟩, List.mem_of_getElem? (i := 179) (by decide +kernel), List.mem_of_getElem? (i := 593) (by decide +kernel), List.mem_of_getElem? (i := 594) (by decide +kernel)⟩
theorem lw_p11 : lw_okq (⟨"FortyReports$HeapText", "isNameWithin", "(Ljava/lang/String;II)Z"⟩, 6) := ⟨⟨by decide +kernel, by decide +kernel⟩, List.mem_of_getElem? (i := 179) (by decide +kernel), List.mem_of_getElem? (i := 645) (by decide +kernel), List.mem_of_getElem? (i := 646) (by decide +kernel)⟩
theorem lw_p12 : lw_okq (⟨"FortyReports$HeapText", "takeChild", "(LFortyReports$School;)Z"⟩, 6) := ⟨⟨by decide +kernel, by decide +kernel⟩, List.mem_of_getElem? (i := 179) (by decide +kernel), List.mem_of_getElem? (i := 649) (by decide +kernel), List.mem_of_getElem? (i := 650) (by decide +kernel)⟩
theorem lw_p13 : lw_okq (⟨"FortyReports$HeapText", "takeNumber", "(II)I"⟩, 6) := ⟨⟨by decide +kernel, by decide +kernel⟩, List.mem_of_getElem? (i := 179) (by decide +kernel), List.mem_of_getElem? (i := 654) (by decide +kernel), List.mem_of_getElem? (i := 655) (by decide +kernel)⟩
theorem lw_p14 : lw_okq (⟨"FortyReports$HeapText", "takeLine", "(LFortyReports$School;)Z"⟩, 6) := ⟨⟨by decide +kernel, by decide +kernel⟩, List.mem_of_getElem? (i := 179) (by decide +kernel), List.mem_of_getElem? (i := 664) (by decide +kernel), List.mem_of_getElem? (i := 665) (by decide +kernel)⟩
theorem lw_p15 : lw_okq (⟨"FortyReportsModel", "finds", "(I)I"⟩, 26) := ⟨⟨by decide +kernel, by decide +kernel⟩, List.mem_of_getElem? (i := 745) (by decide +kernel), List.mem_of_getElem? (i := 842) (by decide +kernel), List.mem_of_getElem? (i := 843) (by decide +kernel)⟩
def lw_privs_1 : List (MethodName × Nat) := [(⟨"FortyReports", "tell", "(I)I"⟩, 10), (⟨"FortyReports", "isChild", "(I)Z"⟩, 10), (⟨"FortyReports", "maySet", "(III)Z"⟩, 10), (⟨"FortyReports", "isLine", "(I)Z"⟩, 10), (⟨"FortyReports$Pen", "weighUsable", "(LFortyReports$School;I)I"⟩, 5), (⟨"FortyReports$Pen", "worthiest", "(I)I"⟩, 5), (⟨"FortyReports", "isSetOfChildren", "(I)Z"⟩, 10), (⟨"FortyReports$HeapText", "advance", "()V"⟩, 6), (⟨"FortyReports$HeapText", "takeItem", "(LFortyReports$School;)Z"⟩, 6), (⟨"FortyReports$HeapText", "isName", "(Ljava/lang/String;)Z"⟩, 6), (⟨"FortyReports$HeapText", "nameAmong", "(Ljava/lang/String;)I"⟩, 6), (⟨"FortyReports$HeapText", "isNameWithin", "(Ljava/lang/String;II)Z"⟩, 6), (⟨"FortyReports$HeapText", "takeChild", "(LFortyReports$School;)Z"⟩, 6), (⟨"FortyReports$HeapText", "takeNumber", "(II)I"⟩, 6), (⟨"FortyReports$HeapText", "takeLine", "(LFortyReports$School;)Z"⟩, 6), (⟨"FortyReportsModel", "finds", "(I)I"⟩, 26)]
theorem lw_r1 : ∀ q ∈ lw_privs_1, lw_okq q := List.forall_mem_cons.mpr ⟨lw_p0, List.forall_mem_cons.mpr ⟨lw_p1, List.forall_mem_cons.mpr ⟨lw_p2, List.forall_mem_cons.mpr ⟨lw_p3, List.forall_mem_cons.mpr ⟨lw_p4, List.forall_mem_cons.mpr ⟨lw_p5, List.forall_mem_cons.mpr ⟨lw_p6, List.forall_mem_cons.mpr ⟨lw_p7, List.forall_mem_cons.mpr ⟨lw_p8, List.forall_mem_cons.mpr ⟨lw_p9, List.forall_mem_cons.mpr ⟨lw_p10, List.forall_mem_cons.mpr ⟨lw_p11, List.forall_mem_cons.mpr ⟨lw_p12, List.forall_mem_cons.mpr ⟨lw_p13, List.forall_mem_cons.mpr ⟨lw_p14, List.forall_mem_cons.mpr ⟨lw_p15, fun _ h => absurd h List.not_mem_nil⟩⟩⟩⟩⟩⟩⟩⟩⟩⟩⟩⟩⟩⟩⟩⟩
theorem lw_p16 : lw_okq (⟨"FortyReportsModel", "comes", "(IIII)V"⟩, 26) := ⟨⟨by decide +kernel, by decide +kernel⟩, List.mem_of_getElem? (i := 745) (by decide +kernel), List.mem_of_getElem? (i := 847) (by decide +kernel), List.mem_of_getElem? (i := 848) (by decide +kernel)⟩
theorem lw_p17 : lw_okq (⟨"FortyReportsModel", "store", "(III)V"⟩, 26) := ⟨⟨by decide +kernel, by decide +kernel⟩, List.mem_of_getElem? (i := 745) (by decide +kernel), List.mem_of_getElem? (i := 851) (by decide +kernel), List.mem_of_getElem? (i := 852) (by decide +kernel)⟩
theorem lw_p18 : lw_okq (⟨"FortyReportsModel", "isChild", "(I)Z"⟩, 26) := ⟨⟨by decide +kernel, by decide +kernel⟩, List.mem_of_getElem? (i := 745) (by decide +kernel), List.mem_of_getElem? (i := 859) (by decide +kernel), List.mem_of_getElem? (i := 860) (by decide +kernel)⟩
theorem lw_p19 : lw_okq (⟨"FortyReportsModel", "get", "(II)I"⟩, 26) := ⟨⟨by decide +kernel, by decide +kernel⟩, List.mem_of_getElem? (i := 745) (by decide +kernel), List.mem_of_getElem? (i := 863) (by decide +kernel), List.mem_of_getElem? (i := 864) (by decide +kernel)⟩
theorem lw_p20 : lw_okq (⟨"FortyReportsModel", "wordsOf", "(I)I"⟩, 26) := ⟨⟨by decide +kernel, by decide +kernel⟩, List.mem_of_getElem? (i := 745) (by decide +kernel), List.mem_of_getElem? (i := 867) (by decide +kernel), List.mem_of_getElem? (i := 868) (by decide +kernel)⟩
theorem lw_p21 : lw_okq (⟨"FortyReportsModel", "lineAt", "(II)I"⟩, 26) := ⟨⟨by decide +kernel, by decide +kernel⟩, List.mem_of_getElem? (i := 745) (by decide +kernel), List.mem_of_getElem? (i := 871) (by decide +kernel), List.mem_of_getElem? (i := 872) (by decide +kernel)⟩
theorem lw_p22 : lw_okq (⟨"FortyReportsModel", "becomes", "(II)I"⟩, 26) := ⟨⟨by decide +kernel, by decide +kernel⟩, List.mem_of_getElem? (i := 745) (by decide +kernel), List.mem_of_getElem? (i := 879) (by decide +kernel), List.mem_of_getElem? (i := 880) (by decide +kernel)⟩
theorem lw_p23 : lw_okq (⟨"FortyReportsModel", "adds", "(IIIII)V"⟩, 26) := ⟨⟨by decide +kernel, by decide +kernel⟩, List.mem_of_getElem? (i := 745) (by decide +kernel), List.mem_of_getElem? (i := 887) (by decide +kernel), List.mem_of_getElem? (i := 888) (by decide +kernel)⟩
theorem lw_p24 : lw_okq (⟨"FortyReportsModel", "isLine", "(I)Z"⟩, 26) := ⟨⟨by decide +kernel, by decide +kernel⟩, List.mem_of_getElem? (i := 745) (by decide +kernel), List.mem_of_getElem? (i := 895) (by decide +kernel), List.mem_of_getElem? (i := 896) (by decide +kernel)⟩
theorem lw_p25 : lw_okq (⟨"FortyReportsModel", "saysOf", "(I)I"⟩, 26) := ⟨⟨by decide +kernel, by decide +kernel⟩, List.mem_of_getElem? (i := 745) (by decide +kernel), List.mem_of_getElem? (i := 899) (by decide +kernel), List.mem_of_getElem? (i := 900) (by decide +kernel)⟩
theorem lw_p26 : lw_okq (⟨"FortyReportsModel", "doesFit", "(II)Z"⟩, 26) := ⟨⟨by decide +kernel, by decide +kernel⟩, List.mem_of_getElem? (i := 745) (by decide +kernel), List.mem_of_getElem? (i := 903) (by decide +kernel), List.mem_of_getElem? (i := 904) (by decide +kernel)⟩
theorem lw_p27 : lw_okq (⟨"FortyReportsModel", "worthOf", "(I)I"⟩, 26) := ⟨⟨by decide +kernel, by decide +kernel⟩, List.mem_of_getElem? (i := 745) (by decide +kernel), List.mem_of_getElem? (i := 907) (by decide +kernel), List.mem_of_getElem? (i := 908) (by decide +kernel)⟩
theorem lw_p28 : lw_okq (⟨"FortyReportsModel", "fitting", "(I)I"⟩, 26) := ⟨⟨by decide +kernel, by decide +kernel⟩, List.mem_of_getElem? (i := 745) (by decide +kernel), List.mem_of_getElem? (i := 931) (by decide +kernel), List.mem_of_getElem? (i := 932) (by decide +kernel)⟩
theorem lw_p29 : lw_okq (⟨"FortyReportsModel", "writes", "(I)V"⟩, 26) := ⟨⟨by decide +kernel, by decide +kernel⟩, List.mem_of_getElem? (i := 745) (by decide +kernel), List.mem_of_getElem? (i := 943) (by decide +kernel), List.mem_of_getElem? (i := 944) (by decide +kernel)⟩
theorem lw_p30 : lw_okq (⟨"FortyReportsModel", "isHeaped", "(I)Z"⟩, 26) := ⟨⟨by decide +kernel, by decide +kernel⟩, List.mem_of_getElem? (i := 745) (by decide +kernel), List.mem_of_getElem? (i := 947) (by decide +kernel), List.mem_of_getElem? (i := 948) (by decide +kernel)⟩
theorem lw_p31 : lw_okq (⟨"FortyReportsModel", "mostWorth", "(I)I"⟩, 26) := ⟨⟨by decide +kernel, by decide +kernel⟩, List.mem_of_getElem? (i := 745) (by decide +kernel), List.mem_of_getElem? (i := 951) (by decide +kernel), List.mem_of_getElem? (i := 952) (by decide +kernel)⟩
def lw_privs_2 : List (MethodName × Nat) := [(⟨"FortyReportsModel", "comes", "(IIII)V"⟩, 26), (⟨"FortyReportsModel", "store", "(III)V"⟩, 26), (⟨"FortyReportsModel", "isChild", "(I)Z"⟩, 26), (⟨"FortyReportsModel", "get", "(II)I"⟩, 26), (⟨"FortyReportsModel", "wordsOf", "(I)I"⟩, 26), (⟨"FortyReportsModel", "lineAt", "(II)I"⟩, 26), (⟨"FortyReportsModel", "becomes", "(II)I"⟩, 26), (⟨"FortyReportsModel", "adds", "(IIIII)V"⟩, 26), (⟨"FortyReportsModel", "isLine", "(I)Z"⟩, 26), (⟨"FortyReportsModel", "saysOf", "(I)I"⟩, 26), (⟨"FortyReportsModel", "doesFit", "(II)Z"⟩, 26), (⟨"FortyReportsModel", "worthOf", "(I)I"⟩, 26), (⟨"FortyReportsModel", "fitting", "(I)I"⟩, 26), (⟨"FortyReportsModel", "writes", "(I)V"⟩, 26), (⟨"FortyReportsModel", "isHeaped", "(I)Z"⟩, 26), (⟨"FortyReportsModel", "mostWorth", "(I)I"⟩, 26)]
theorem lw_r2 : ∀ q ∈ lw_privs_2, lw_okq q := List.forall_mem_cons.mpr ⟨lw_p16, List.forall_mem_cons.mpr ⟨lw_p17, List.forall_mem_cons.mpr ⟨lw_p18, List.forall_mem_cons.mpr ⟨lw_p19, List.forall_mem_cons.mpr ⟨lw_p20, List.forall_mem_cons.mpr ⟨lw_p21, List.forall_mem_cons.mpr ⟨lw_p22, List.forall_mem_cons.mpr ⟨lw_p23, List.forall_mem_cons.mpr ⟨lw_p24, List.forall_mem_cons.mpr ⟨lw_p25, List.forall_mem_cons.mpr ⟨lw_p26, List.forall_mem_cons.mpr ⟨lw_p27, List.forall_mem_cons.mpr ⟨lw_p28, List.forall_mem_cons.mpr ⟨lw_p29, List.forall_mem_cons.mpr ⟨lw_p30, List.forall_mem_cons.mpr ⟨lw_p31, fun _ h => absurd h List.not_mem_nil⟩⟩⟩⟩⟩⟩⟩⟩⟩⟩⟩⟩⟩⟩⟩⟩
theorem lw_p32 : lw_okq (⟨"FortyReportsModel", "year", "()V"⟩, 26) := ⟨⟨by decide +kernel, by decide +kernel⟩, List.mem_of_getElem? (i := 745) (by decide +kernel), List.mem_of_getElem? (i := 977) (by decide +kernel), List.mem_of_getElem? (i := 978) (by decide +kernel)⟩
theorem lw_p33 : lw_okq (⟨"FortyReportsModel", "whoseIs", "(I)I"⟩, 26) := ⟨⟨by decide +kernel, by decide +kernel⟩, List.mem_of_getElem? (i := 745) (by decide +kernel), List.mem_of_getElem? (i := 989) (by decide +kernel), List.mem_of_getElem? (i := 990) (by decide +kernel)⟩
theorem lw_p34 : lw_okq (⟨"FortyReportsModel", "canBe", "(II)Z"⟩, 26) := ⟨⟨by decide +kernel, by decide +kernel⟩, List.mem_of_getElem? (i := 745) (by decide +kernel), List.mem_of_getElem? (i := 993) (by decide +kernel), List.mem_of_getElem? (i := 994) (by decide +kernel)⟩
theorem lw_p35 : lw_okq (⟨"FortyReportsModel", "bitsAbout", "(I)I"⟩, 26) := ⟨⟨by decide +kernel, by decide +kernel⟩, List.mem_of_getElem? (i := 745) (by decide +kernel), List.mem_of_getElem? (i := 1001) (by decide +kernel), List.mem_of_getElem? (i := 1002) (by decide +kernel)⟩
theorem lw_p36 : lw_okq (⟨"FortyReportsModel", "alikeWith", "(I)I"⟩, 26) := ⟨⟨by decide +kernel, by decide +kernel⟩, List.mem_of_getElem? (i := 745) (by decide +kernel), List.mem_of_getElem? (i := 1012) (by decide +kernel), List.mem_of_getElem? (i := 1013) (by decide +kernel)⟩
theorem lw_p37 : lw_okq (⟨"FortyReportsModel", "planned", "(I)I"⟩, 26) := ⟨⟨by decide +kernel, by decide +kernel⟩, List.mem_of_getElem? (i := 745) (by decide +kernel), List.mem_of_getElem? (i := 1033) (by decide +kernel), List.mem_of_getElem? (i := 1034) (by decide +kernel)⟩
theorem lw_p38 : lw_okq (⟨"FortyReportsModel", "isOrder", "(III)Z"⟩, 26) := ⟨⟨by decide +kernel, by decide +kernel⟩, List.mem_of_getElem? (i := 745) (by decide +kernel), List.mem_of_getElem? (i := 1045) (by decide +kernel), List.mem_of_getElem? (i := 1046) (by decide +kernel)⟩
theorem lw_p39 : lw_okq (⟨"FortyReportsModel", "allDiffer", "(II)Z"⟩, 26) := ⟨⟨by decide +kernel, by decide +kernel⟩, List.mem_of_getElem? (i := 745) (by decide +kernel), List.mem_of_getElem? (i := 1053) (by decide +kernel), List.mem_of_getElem? (i := 1054) (by decide +kernel)⟩
theorem lw_p40 : lw_okq (⟨"FortyReportsModel", "lookedAt", "(II)I"⟩, 26) := ⟨⟨by decide +kernel, by decide +kernel⟩, List.mem_of_getElem? (i := 745) (by decide +kernel), List.mem_of_getElem? (i := 1061) (by decide +kernel), List.mem_of_getElem? (i := 1062) (by decide +kernel)⟩
theorem lw_p41 : lw_okq (⟨"FortyReportsModel", "writtenNow", "(I)I"⟩, 26) := ⟨⟨by decide +kernel, by decide +kernel⟩, List.mem_of_getElem? (i := 745) (by decide +kernel), List.mem_of_getElem? (i := 1073) (by decide +kernel), List.mem_of_getElem? (i := 1074) (by decide +kernel)⟩
theorem lw_p42 : lw_okq (⟨"FortyReportsModel", "next", "()V"⟩, 26) := ⟨⟨by decide +kernel, by decide +kernel⟩, List.mem_of_getElem? (i := 745) (by decide +kernel), List.mem_of_getElem? (i := 1089) (by decide +kernel), List.mem_of_getElem? (i := 1090) (by decide +kernel)⟩
theorem lw_p43 : lw_okq (⟨"FortyReportsModel", "isAt", "(III)Z"⟩, 26) := ⟨⟨by decide +kernel, by decide +kernel⟩, List.mem_of_getElem? (i := 745) (by decide +kernel), List.mem_of_getElem? (i := 1093) (by decide +kernel), List.mem_of_getElem? (i := 1094) (by decide +kernel)⟩
theorem lw_p44 : lw_okq (⟨"FortyReportsModel", "nameHere", "()I"⟩, 26) := ⟨⟨by decide +kernel, by decide +kernel⟩, List.mem_of_getElem? (i := 745) (by decide +kernel), List.mem_of_getElem? (i := 1097) (by decide +kernel), List.mem_of_getElem? (i := 1098) (by decide +kernel)⟩
theorem lw_p45 : lw_okq (⟨"FortyReportsModel", "item", "()V"⟩, 26) := ⟨⟨by decide +kernel, by decide +kernel⟩, List.mem_of_getElem? (i := 745) (by decide +kernel), List.mem_of_getElem? (i := 1101) (by decide +kernel), List.mem_of_getElem? (i := 1102) (by decide +kernel)⟩
theorem lw_p46 : lw_okq (⟨"FortyReportsModel", "lineItem", "()V"⟩, 26) := ⟨⟨by decide +kernel, by decide +kernel⟩, List.mem_of_getElem? (i := 745) (by decide +kernel), List.mem_of_getElem? (i := 1105) (by decide +kernel), List.mem_of_getElem? (i := 1106) (by decide +kernel)⟩
theorem lw_p47 : lw_okq (⟨"FortyReportsModel", "takesName", "(II)I"⟩, 26) := ⟨⟨by decide +kernel, by decide +kernel⟩, List.mem_of_getElem? (i := 745) (by decide +kernel), List.mem_of_getElem? (i := 1109) (by decide +kernel), List.mem_of_getElem? (i := 1110) (by decide +kernel)⟩
def lw_privs_3 : List (MethodName × Nat) := [(⟨"FortyReportsModel", "year", "()V"⟩, 26), (⟨"FortyReportsModel", "whoseIs", "(I)I"⟩, 26), (⟨"FortyReportsModel", "canBe", "(II)Z"⟩, 26), (⟨"FortyReportsModel", "bitsAbout", "(I)I"⟩, 26), (⟨"FortyReportsModel", "alikeWith", "(I)I"⟩, 26), (⟨"FortyReportsModel", "planned", "(I)I"⟩, 26), (⟨"FortyReportsModel", "isOrder", "(III)Z"⟩, 26), (⟨"FortyReportsModel", "allDiffer", "(II)Z"⟩, 26), (⟨"FortyReportsModel", "lookedAt", "(II)I"⟩, 26), (⟨"FortyReportsModel", "writtenNow", "(I)I"⟩, 26), (⟨"FortyReportsModel", "next", "()V"⟩, 26), (⟨"FortyReportsModel", "isAt", "(III)Z"⟩, 26), (⟨"FortyReportsModel", "nameHere", "()I"⟩, 26), (⟨"FortyReportsModel", "item", "()V"⟩, 26), (⟨"FortyReportsModel", "lineItem", "()V"⟩, 26), (⟨"FortyReportsModel", "takesName", "(II)I"⟩, 26)]
theorem lw_r3 : ∀ q ∈ lw_privs_3, lw_okq q := List.forall_mem_cons.mpr ⟨lw_p32, List.forall_mem_cons.mpr ⟨lw_p33, List.forall_mem_cons.mpr ⟨lw_p34, List.forall_mem_cons.mpr ⟨lw_p35, List.forall_mem_cons.mpr ⟨lw_p36, List.forall_mem_cons.mpr ⟨lw_p37, List.forall_mem_cons.mpr ⟨lw_p38, List.forall_mem_cons.mpr ⟨lw_p39, List.forall_mem_cons.mpr ⟨lw_p40, List.forall_mem_cons.mpr ⟨lw_p41, List.forall_mem_cons.mpr ⟨lw_p42, List.forall_mem_cons.mpr ⟨lw_p43, List.forall_mem_cons.mpr ⟨lw_p44, List.forall_mem_cons.mpr ⟨lw_p45, List.forall_mem_cons.mpr ⟨lw_p46, List.forall_mem_cons.mpr ⟨lw_p47, fun _ h => absurd h List.not_mem_nil⟩⟩⟩⟩⟩⟩⟩⟩⟩⟩⟩⟩⟩⟩⟩⟩
theorem lw_p48 : lw_okq (⟨"FortyReportsModel", "takesNumber", "(II)I"⟩, 26) := ⟨⟨by decide +kernel, by decide +kernel⟩, List.mem_of_getElem? (i := 745) (by decide +kernel), List.mem_of_getElem? (i := 1113) (by decide +kernel), List.mem_of_getElem? (i := 1114) (by decide +kernel)⟩
theorem lw_p49 : lw_okq (⟨"FortyReportsModel", "perhaps", "(IIII)I"⟩, 26) := ⟨⟨by decide +kernel, by decide +kernel⟩, List.mem_of_getElem? (i := 745) (by decide +kernel), List.mem_of_getElem? (i := 1117) (by decide +kernel), List.mem_of_getElem? (i := 1118) (by decide +kernel)⟩
theorem lw_p50 : lw_okq (⟨"FortyReportsModel", "isName", "(I)Z"⟩, 26) := ⟨⟨by decide +kernel, by decide +kernel⟩, List.mem_of_getElem? (i := 745) (by decide +kernel), List.mem_of_getElem? (i := 1121) (by decide +kernel), List.mem_of_getElem? (i := 1122) (by decide +kernel)⟩
theorem lw_p51 : lw_okq (⟨"FortyReportsModel", "childItem", "()V"⟩, 26) := ⟨⟨by decide +kernel, by decide +kernel⟩, List.mem_of_getElem? (i := 745) (by decide +kernel), List.mem_of_getElem? (i := 1125) (by decide +kernel), List.mem_of_getElem? (i := 1126) (by decide +kernel)⟩
theorem lw_p52 : lw_okq (⟨"FortyReportsModel", "has", "(III)Z"⟩, 26) := ⟨⟨by decide +kernel, by decide +kernel⟩, List.mem_of_getElem? (i := 745) (by decide +kernel), List.mem_of_getElem? (i := 1145) (by decide +kernel), List.mem_of_getElem? (i := 1146) (by decide +kernel)⟩
theorem lw_p53 : lw_okq (⟨"FortyReportsModel", "reportMany", "()I"⟩, 26) := ⟨⟨by decide +kernel, by decide +kernel⟩, List.mem_of_getElem? (i := 745) (by decide +kernel), List.mem_of_getElem? (i := 1173) (by decide +kernel), List.mem_of_getElem? (i := 1174) (by decide +kernel)⟩
theorem lw_p54 : lw_okq (⟨"FortyReportsModel", "wordsAll", "()I"⟩, 26) := ⟨⟨by decide +kernel, by decide +kernel⟩, List.mem_of_getElem? (i := 745) (by decide +kernel), List.mem_of_getElem? (i := 1177) (by decide +kernel), List.mem_of_getElem? (i := 1178) (by decide +kernel)⟩
def lw_privs_4 : List (MethodName × Nat) := [(⟨"FortyReportsModel", "takesNumber", "(II)I"⟩, 26), (⟨"FortyReportsModel", "perhaps", "(IIII)I"⟩, 26), (⟨"FortyReportsModel", "isName", "(I)Z"⟩, 26), (⟨"FortyReportsModel", "childItem", "()V"⟩, 26), (⟨"FortyReportsModel", "has", "(III)Z"⟩, 26), (⟨"FortyReportsModel", "reportMany", "()I"⟩, 26), (⟨"FortyReportsModel", "wordsAll", "()I"⟩, 26)]
theorem lw_r4 : ∀ q ∈ lw_privs_4, lw_okq q := List.forall_mem_cons.mpr ⟨lw_p48, List.forall_mem_cons.mpr ⟨lw_p49, List.forall_mem_cons.mpr ⟨lw_p50, List.forall_mem_cons.mpr ⟨lw_p51, List.forall_mem_cons.mpr ⟨lw_p52, List.forall_mem_cons.mpr ⟨lw_p53, List.forall_mem_cons.mpr ⟨lw_p54, fun _ h => absurd h List.not_mem_nil⟩⟩⟩⟩⟩⟩⟩
def lw_privs : List (MethodName × Nat) := lw_privs_1 ++ (lw_privs_2 ++ (lw_privs_3 ++ (lw_privs_4)))
def lw_tbl : List Cond := k2_sels lw_privs ++ tables_1
theorem lw_privs_ok : ∀ q ∈ lw_privs, lw_okq q := by
  show ∀ q ∈ lw_privs_1 ++ (lw_privs_2 ++ (lw_privs_3 ++ (lw_privs_4))), lw_okq q
  exact List.forall_mem_append.mpr ⟨lw_r1, List.forall_mem_append.mpr ⟨lw_r2, List.forall_mem_append.mpr ⟨lw_r3, lw_r4⟩⟩⟩

/-! ===== BEGIN words of one list among another's, by their places ===== -/
theorem goodIn_r {big : List Cond} (ws : List Cond) (ps : List Nat) (hp : ws = ps.filterMap (fun i => big[i]?)) (h : ws.all goodWord = true) : GoodIn big ws := by
  intro w hw
  have h1 := List.all_eq_true.mp h w hw
  rw [hp] at hw
  obtain ⟨i, -, hi⟩ := List.mem_filterMap.mp hw
  have hm : w ∈ big := by first | exact List.mem_of_getElem? hi | exact List.getElem?_mem hi
  exact ⟨hm, good_of_word h1⟩
theorem goodIn_app {big a b : List Cond} (ha : GoodIn big a) (hb : GoodIn big b) : GoodIn big (a ++ b) := fun w h => (List.mem_append.mp h).elim (ha w) (hb w)
theorem goodIn_ca {big a b : List Cond} {c : Cond} (ha : GoodIn big (c :: a)) (hb : GoodIn big b) : GoodIn big (c :: (a ++ b)) := fun w h => (List.mem_cons.mp h).elim (fun e => ha w (List.mem_cons.mpr (Or.inl e))) (fun h => (List.mem_append.mp h).elim (fun h => ha w (List.mem_cons.mpr (Or.inr h))) (hb w))
theorem goodIn_sub {big ws : List Cond} (hm : ∀ w ∈ ws, w ∈ big) (h : ws.all goodWord = true) : GoodIn big ws := fun w hw => ⟨hm w hw, good_of_word (List.all_eq_true.mp h w hw)⟩
/-! ===== END ===== -/

/-! ===== BEGIN printed: names, fields, word lists, decode rows ===== -/
def RX0 : String := "FortyReports$HeapText"
def TX0 : u_T := fun k => match k with
  | 0 => ("FortyReports$HeapText", "bytes", "[B", true)
  | 1 => ("FortyReports$HeapText", "size", "I", false)
  | 2 => ("FortyReports$HeapText", "token", "I", false)
  | 3 => ("FortyReports$HeapText", "start", "I", false)
  | 4 => ("FortyReports$HeapText", "end", "I", false)
  | _ => ("FortyReports$HeapText", "number", "I", false)
def tyX0 : Nat → FieldType := fun k => match k with
  | 0 => .array .byte
  | 1 => .int
  | 2 => .int
  | 3 => .int
  | 4 => .int
  | _ => .int
abbrev wsX00 : List Cond := u_ws RX0 TX0 6
theorem nmX0 : ∀ a, a < 6 → ∀ b, b < 6 → a ≠ b → (TX0 a).2.1 ≠ (TX0 b).2.1 := by decide +kernel
theorem tyX0_ok : ∀ k, k < 6 → parseFieldDescriptor (TX0 k).2.2.1 = some (tyX0 k) := by decide +kernel
abbrev cX0_init : ByteArray := prog_2_method_1_code
def yX0_init : MethodName := ⟨RX0, "<init>", "()V"⟩
abbrev cX0_tellInto : ByteArray := prog_2_method_2_code
def yX0_tellInto : MethodName := ⟨RX0, "tellInto", "(LFortyReports$School;)I"⟩
abbrev cX0_takeItem : ByteArray := prog_2_method_3_code
def yX0_takeItem : MethodName := ⟨RX0, "takeItem", "(LFortyReports$School;)Z"⟩
abbrev cX0_takeLine : ByteArray := prog_2_method_4_code
def yX0_takeLine : MethodName := ⟨RX0, "takeLine", "(LFortyReports$School;)Z"⟩
abbrev cX0_takeChild : ByteArray := prog_2_method_5_code
def yX0_takeChild : MethodName := ⟨RX0, "takeChild", "(LFortyReports$School;)Z"⟩
abbrev cX0_takeNumber : ByteArray := prog_2_method_6_code
def yX0_takeNumber : MethodName := ⟨RX0, "takeNumber", "(II)I"⟩
abbrev cX0_isName : ByteArray := prog_2_method_7_code
def yX0_isName : MethodName := ⟨RX0, "isName", "(Ljava/lang/String;)Z"⟩
abbrev cX0_nameAmong : ByteArray := prog_2_method_8_code
def yX0_nameAmong : MethodName := ⟨RX0, "nameAmong", "(Ljava/lang/String;)I"⟩
abbrev cX0_isNameWithin : ByteArray := prog_2_method_9_code
def yX0_isNameWithin : MethodName := ⟨RX0, "isNameWithin", "(Ljava/lang/String;II)Z"⟩
abbrev cX0_advance : ByteArray := prog_2_method_10_code
def yX0_advance : MethodName := ⟨RX0, "advance", "()V"⟩
abbrev cX0_isLetter : ByteArray := prog_2_method_11_code
def yX0_isLetter : MethodName := ⟨RX0, "isLetter", "(B)Z"⟩
abbrev cX0_isDigit : ByteArray := prog_2_method_12_code
def yX0_isDigit : MethodName := ⟨RX0, "isDigit", "(B)Z"⟩
def RX1 : String := "FortyReports$Pen"
def TX1 : u_T := fun k => match k with
  | 0 => ("FortyReports$Pen", "used", "[I", true)
  | 1 => ("FortyReports$Pen", "usedLines", "I", false)
  | 2 => ("FortyReports$Pen", "said", "I", false)
  | 3 => ("FortyReports$Pen", "says", "[I", true)
  | _ => ("FortyReports$Pen", "worth", "[I", true)
def tyX1 : Nat → FieldType := fun k => match k with
  | 0 => .array .int
  | 1 => .int
  | 2 => .int
  | 3 => .array .int
  | _ => .array .int
abbrev wsX10 : List Cond := u_ws RX1 TX1 5
theorem nmX1 : ∀ a, a < 5 → ∀ b, b < 5 → a ≠ b → (TX1 a).2.1 ≠ (TX1 b).2.1 := by decide +kernel
theorem tyX1_ok : ∀ k, k < 5 → parseFieldDescriptor (TX1 k).2.2.1 = some (tyX1 k) := by decide +kernel
abbrev cX1_init : ByteArray := prog_3_method_1_code
def yX1_init : MethodName := ⟨RX1, "<init>", "()V"⟩
abbrev cX1_choose : ByteArray := prog_3_method_2_code
def yX1_choose : MethodName := ⟨RX1, "choose", "(LFortyReports$School;I)V"⟩
abbrev cX1_writeDown : ByteArray := prog_3_method_3_code
def yX1_writeDown : MethodName := ⟨RX1, "writeDown", "(LFortyReports$School;I)V"⟩
abbrev cX1_weighUsable : ByteArray := prog_3_method_4_code
def yX1_weighUsable : MethodName := ⟨RX1, "weighUsable", "(LFortyReports$School;I)I"⟩
abbrev cX1_worthiest : ByteArray := prog_3_method_5_code
def yX1_worthiest : MethodName := ⟨RX1, "worthiest", "(I)I"⟩
def RX2 : String := "FortyReports$Planner"
def TX2 : u_T := fun k => match k with
  | 0 => ("FortyReports$Planner", "best", "[I", true)
  | 1 => ("FortyReports$Planner", "most", "I", false)
  | 2 => ("FortyReports$Planner", "tried", "[I", true)
  | 3 => ("FortyReports$Planner", "trial", "LFortyReports$School;", true)
  | _ => ("FortyReports$Planner", "pen", "LFortyReports$Pen;", true)
def tyX2 : Nat → FieldType := fun k => match k with
  | 0 => .array .int
  | 1 => .int
  | 2 => .array .int
  | 3 => .object "FortyReports$School"
  | _ => .object "FortyReports$Pen"
abbrev wsX20 : List Cond := u_ws RX2 TX2 5
theorem nmX2 : ∀ a, a < 5 → ∀ b, b < 5 → a ≠ b → (TX2 a).2.1 ≠ (TX2 b).2.1 := by decide +kernel
theorem tyX2_ok : ∀ k, k < 5 → parseFieldDescriptor (TX2 k).2.2.1 = some (tyX2 k) := by decide +kernel
abbrev cX2_init : ByteArray := prog_4_method_1_code
def yX2_init : MethodName := ⟨RX2, "<init>", "(LFortyReports$School;LFortyReports$Pen;)V"⟩
abbrev cX2_plansOf : ByteArray := prog_4_method_2_code
def yX2_plansOf : MethodName := ⟨RX2, "plansOf", "(I)I"⟩
abbrev cX2_takeDigits : ByteArray := prog_4_method_3_code
def yX2_takeDigits : MethodName := ⟨RX2, "takeDigits", "(III)Z"⟩
abbrev cX2_follow : ByteArray := prog_4_method_4_code
def yX2_follow : MethodName := ⟨RX2, "follow", "(LFortyReports$School;I)I"⟩
abbrev cX2_begin : ByteArray := prog_4_method_5_code
def yX2_begin : MethodName := ⟨RX2, "begin", "(LFortyReports$School;)V"⟩
abbrev cX2_seek : ByteArray := prog_4_method_6_code
def yX2_seek : MethodName := ⟨RX2, "seek", "(LFortyReports$Planner;III)V"⟩
def RX3 : String := "FortyReports$School"
def TX3 : u_T := fun k => match k with
  | 0 => ("FortyReports$School", "children", "I", false)
  | 1 => ("FortyReports$School", "traits", "[I", true)
  | 2 => ("FortyReports$School", "seen", "[I", true)
  | 3 => ("FortyReports$School", "sex", "[I", true)
  | 4 => ("FortyReports$School", "brother", "[I", true)
  | 5 => ("FortyReports$School", "reports", "[I", true)
  | 6 => ("FortyReports$School", "lines", "I", false)
  | 7 => ("FortyReports$School", "kind", "[I", true)
  | 8 => ("FortyReports$School", "trait", "[I", true)
  | 9 => ("FortyReports$School", "low", "[I", true)
  | 10 => ("FortyReports$School", "high", "[I", true)
  | 11 => ("FortyReports$School", "words", "[I", true)
  | 12 => ("FortyReports$School", "tired", "I", false)
  | 13 => ("FortyReports$School", "patience", "I", false)
  | 14 => ("FortyReports$School", "length", "I", false)
  | _ => ("FortyReports$School", "wear", "I", false)
def tyX3 : Nat → FieldType := fun k => match k with
  | 0 => .int
  | 1 => .array .int
  | 2 => .array .int
  | 3 => .array .int
  | 4 => .array .int
  | 5 => .array .int
  | 6 => .int
  | 7 => .array .int
  | 8 => .array .int
  | 9 => .array .int
  | 10 => .array .int
  | 11 => .array .int
  | 12 => .int
  | 13 => .int
  | 14 => .int
  | _ => .int
abbrev wsX30 : List Cond := u_ws RX3 TX3 16
theorem nmX3 : ∀ a, a < 16 → ∀ b, b < 16 → a ≠ b → (TX3 a).2.1 ≠ (TX3 b).2.1 := by decide +kernel
theorem tyX3_ok : ∀ k, k < 16 → parseFieldDescriptor (TX3 k).2.2.1 = some (tyX3 k) := by decide +kernel
abbrev cX3_init : ByteArray := prog_5_method_1_code
def yX3_init : MethodName := ⟨RX3, "<init>", "()V"⟩
abbrev cX3_become : ByteArray := prog_5_method_2_code
def yX3_become : MethodName := ⟨RX3, "become", "(LFortyReports$School;)V"⟩
abbrev cX3_addChild : ByteArray := prog_5_method_3_code
def yX3_addChild : MethodName := ⟨RX3, "addChild", "()I"⟩
abbrev cX3_addLine : ByteArray := prog_5_method_4_code
def yX3_addLine : MethodName := ⟨RX3, "addLine", "(IIIII)I"⟩
abbrev cX3_suits : ByteArray := prog_5_method_5_code
def yX3_suits : MethodName := ⟨RX3, "suits", "(II)Z"⟩
abbrev cX3_suitable : ByteArray := prog_5_method_6_code
def yX3_suitable : MethodName := ⟨RX3, "suitable", "(I)I"⟩
abbrev cX3_says : ByteArray := prog_5_method_7_code
def yX3_says : MethodName := ⟨RX3, "says", "(I)I"⟩
abbrev cX3_worth : ByteArray := prog_5_method_8_code
def yX3_worth : MethodName := ⟨RX3, "worth", "(II)I"⟩
abbrev cX3_wordsOf : ByteArray := prog_5_method_9_code
def yX3_wordsOf : MethodName := ⟨RX3, "wordsOf", "(I)I"⟩
abbrev cX3_wordsOfAll : ByteArray := prog_5_method_10_code
def yX3_wordsOfAll : MethodName := ⟨RX3, "wordsOfAll", "()I"⟩
abbrev cX3_writtenReports : ByteArray := prog_5_method_11_code
def yX3_writtenReports : MethodName := ⟨RX3, "writtenReports", "()I"⟩
abbrev cX3_passYear : ByteArray := prog_5_method_12_code
def yX3_passYear : MethodName := ⟨RX3, "passYear", "()V"⟩
abbrev cX3_candidates : ByteArray := prog_5_method_13_code
def yX3_candidates : MethodName := ⟨RX3, "candidates", "(I)I"⟩
abbrev cX3_bitsOfReport : ByteArray := prog_5_method_14_code
def yX3_bitsOfReport : MethodName := ⟨RX3, "bitsOfReport", "(I)I"⟩
abbrev cX3_alikeWith : ByteArray := prog_5_method_15_code
def yX3_alikeWith : MethodName := ⟨RX3, "alikeWith", "(I)I"⟩
abbrev cX3_gainByLooking : ByteArray := prog_5_method_16_code
def yX3_gainByLooking : MethodName := ⟨RX3, "gainByLooking", "(II)I"⟩
def RX4 : String := "FortyReports$Sheet"
def TX4 : u_T := fun k => match k with
  | 0 => ("FortyReports$Sheet", "width", "I", false)
  | 1 => ("FortyReports$Sheet", "size", "I", false)
  | _ => ("FortyReports$Sheet", "numbers", "[J", true)
def tyX4 : Nat → FieldType := fun k => match k with
  | 0 => .int
  | 1 => .int
  | _ => .array .long
abbrev wsX40 : List Cond := u_ws RX4 TX4 3
theorem nmX4 : ∀ a, a < 3 → ∀ b, b < 3 → a ≠ b → (TX4 a).2.1 ≠ (TX4 b).2.1 := by decide +kernel
theorem tyX4_ok : ∀ k, k < 3 → parseFieldDescriptor (TX4 k).2.2.1 = some (tyX4 k) := by decide +kernel
abbrev cX4_init : ByteArray := prog_6_method_1_code
def yX4_init : MethodName := ⟨RX4, "<init>", "()V"⟩
abbrev cX4_isMissing : ByteArray := prog_6_method_2_code
def yX4_isMissing : MethodName := ⟨RX4, "isMissing", "()Z"⟩
abbrev cX4_renew : ByteArray := prog_6_method_3_code
def yX4_renew : MethodName := ⟨RX4, "renew", "(II)V"⟩
abbrev cX4_lowestBits : ByteArray := prog_6_method_4_code
def yX4_lowestBits : MethodName := ⟨RX4, "lowestBits", "(J)J"⟩
abbrev cX4_hasSpan : ByteArray := prog_6_method_5_code
def yX4_hasSpan : MethodName := ⟨RX4, "hasSpan", "(II)Z"⟩
def RX5 : String := "FortyReports$Sieve"
def TX5 : u_T := fun k => match k with
  | 0 => ("FortyReports$Sieve", "suitable", "[I", true)
  | _ => ("FortyReports$Sieve", "size", "I", false)
def tyX5 : Nat → FieldType := fun k => match k with
  | 0 => .array .int
  | _ => .int
abbrev wsX50 : List Cond := u_ws RX5 TX5 2
theorem nmX5 : ∀ a, a < 2 → ∀ b, b < 2 → a ≠ b → (TX5 a).2.1 ≠ (TX5 b).2.1 := by decide +kernel
theorem tyX5_ok : ∀ k, k < 2 → parseFieldDescriptor (TX5 k).2.2.1 = some (tyX5 k) := by decide +kernel
abbrev cX5_init : ByteArray := prog_7_method_1_code
def yX5_init : MethodName := ⟨RX5, "<init>", "()V"⟩
abbrev cX5_gather : ByteArray := prog_7_method_2_code
def yX5_gather : MethodName := ⟨RX5, "gather", "(LFortyReports$School;I)V"⟩
abbrev cX5_parts : ByteArray := prog_7_method_3_code
def yX5_parts : MethodName := ⟨RX5, "parts", "(I)Z"⟩
abbrev cX5_fewest : ByteArray := prog_7_method_4_code
def yX5_fewest : MethodName := ⟨RX5, "fewest", "(I)I"⟩
def RX6 : String := "FortyReports"
def TX6 : u_T := fun k => match k with
  | 0 => ("FortyReports", "school", "LFortyReports$School;", true)
  | 1 => ("FortyReports", "kept", "LFortyReports$School;", true)
  | 2 => ("FortyReports", "trial", "LFortyReports$School;", true)
  | 3 => ("FortyReports", "pen", "LFortyReports$Pen;", true)
  | 4 => ("FortyReports", "planner", "LFortyReports$Planner;", true)
  | 5 => ("FortyReports", "sieve", "LFortyReports$Sieve;", true)
  | 6 => ("FortyReports", "tape", "LFortyReports$HeapText;", true)
  | 7 => ("FortyReports", "sheets", "[LFortyReports$Sheet;", true)
  | 8 => ("FortyReports", "told", "[I", true)
  | _ => ("FortyReports", "isKept", "Z", false)
def tyX6 : Nat → FieldType := fun k => match k with
  | 0 => .object "FortyReports$School"
  | 1 => .object "FortyReports$School"
  | 2 => .object "FortyReports$School"
  | 3 => .object "FortyReports$Pen"
  | 4 => .object "FortyReports$Planner"
  | 5 => .object "FortyReports$Sieve"
  | 6 => .object "FortyReports$HeapText"
  | 7 => .array (.object "FortyReports$Sheet")
  | 8 => .array .int
  | _ => .boolean
abbrev wsX60 : List Cond := u_ws RX6 TX6 10
theorem nmX6 : ∀ a, a < 10 → ∀ b, b < 10 → a ≠ b → (TX6 a).2.1 ≠ (TX6 b).2.1 := by decide +kernel
theorem tyX6_ok : ∀ k, k < 10 → parseFieldDescriptor (TX6 k).2.2.1 = some (tyX6 k) := by decide +kernel
abbrev cX6_init : ByteArray := prog_1_method_1_code
def yX6_init : MethodName := ⟨RX6, "<init>", "()V"⟩
abbrev cX6_child : ByteArray := prog_1_method_2_code
def yX6_child : MethodName := ⟨RX6, "child", "(IIII)I"⟩
abbrev cX6_of : ByteArray := prog_1_method_3_code
def yX6_of : MethodName := ⟨RX6, "of", "(II)I"⟩
abbrev cX6_set : ByteArray := prog_1_method_4_code
def yX6_set : MethodName := ⟨RX6, "set", "(III)I"⟩
abbrev cX6_line : ByteArray := prog_1_method_5_code
def yX6_line : MethodName := ⟨RX6, "line", "(IIIII)I"⟩
abbrev cX6_lineOf : ByteArray := prog_1_method_6_code
def yX6_lineOf : MethodName := ⟨RX6, "lineOf", "(II)I"⟩
abbrev cX6_as : ByteArray := prog_1_method_7_code
def yX6_as : MethodName := ⟨RX6, "as", "(II)I"⟩
abbrev cX6_turn : ByteArray := prog_1_method_8_code
def yX6_turn : MethodName := ⟨RX6, "turn", "(II)I"⟩
abbrev cX6_fits : ByteArray := prog_1_method_9_code
def yX6_fits : MethodName := ⟨RX6, "fits", "(II)I"⟩
abbrev cX6_all : ByteArray := prog_1_method_10_code
def yX6_all : MethodName := ⟨RX6, "all", "(I)I"⟩
abbrev cX6_writer : ByteArray := prog_1_method_11_code
def yX6_writer : MethodName := ⟨RX6, "writer", "(II)I"⟩
abbrev cX6_report : ByteArray := prog_1_method_12_code
def yX6_report : MethodName := ⟨RX6, "report", "(I)I"⟩
abbrev cX6_rest : ByteArray := prog_1_method_13_code
def yX6_rest : MethodName := ⟨RX6, "rest", "(I)I"⟩
abbrev cX6_tear : ByteArray := prog_1_method_14_code
def yX6_tear : MethodName := ⟨RX6, "tear", "(I)I"⟩
abbrev cX6_put : ByteArray := prog_1_method_15_code
def yX6_put : MethodName := ⟨RX6, "put", "(IIZ)I"⟩
abbrev cX6_years : ByteArray := prog_1_method_16_code
def yX6_years : MethodName := ⟨RX6, "years", "(I)I"⟩
abbrev cX6_now : ByteArray := prog_1_method_17_code
def yX6_now : MethodName := ⟨RX6, "now", "(I)I"⟩
abbrev cX6_whose : ByteArray := prog_1_method_18_code
def yX6_whose : MethodName := ⟨RX6, "whose", "(I)I"⟩
abbrev cX6_bits : ByteArray := prog_1_method_19_code
def yX6_bits : MethodName := ⟨RX6, "bits", "(I)I"⟩
abbrev cX6_alike : ByteArray := prog_1_method_20_code
def yX6_alike : MethodName := ⟨RX6, "alike", "(I)I"⟩
abbrev cX6_swaps : ByteArray := prog_1_method_21_code
def yX6_swaps : MethodName := ⟨RX6, "swaps", "()I"⟩
abbrev cX6_plainest : ByteArray := prog_1_method_22_code
def yX6_plainest : MethodName := ⟨RX6, "plainest", "()I"⟩
abbrev cX6_wrong : ByteArray := prog_1_method_23_code
def yX6_wrong : MethodName := ⟨RX6, "wrong", "(I)I"⟩
abbrev cX6_plan : ByteArray := prog_1_method_24_code
def yX6_plan : MethodName := ⟨RX6, "plan", "(II)I"⟩
abbrev cX6_order : ByteArray := prog_1_method_25_code
def yX6_order : MethodName := ⟨RX6, "order", "(II)I"⟩
abbrev cX6_heap : ByteArray := prog_1_method_26_code
def yX6_heap : MethodName := ⟨RX6, "heap", "(I)I"⟩
abbrev cX6_look : ByteArray := prog_1_method_27_code
def yX6_look : MethodName := ⟨RX6, "look", "(II)I"⟩
abbrev cX6_whom : ByteArray := prog_1_method_28_code
def yX6_whom : MethodName := ⟨RX6, "whom", "(I)I"⟩
abbrev cX6_lean : ByteArray := prog_1_method_29_code
def yX6_lean : MethodName := ⟨RX6, "lean", "(I)I"⟩
abbrev cX6_feed : ByteArray := prog_1_method_30_code
def yX6_feed : MethodName := ⟨RX6, "feed", "(II)I"⟩
abbrev cX6_wipe : ByteArray := prog_1_method_31_code
def yX6_wipe : MethodName := ⟨RX6, "wipe", "()I"⟩
abbrev cX6_text : ByteArray := prog_1_method_32_code
def yX6_text : MethodName := ⟨RX6, "text", "()I"⟩
abbrev cX6_sheet : ByteArray := prog_1_method_33_code
def yX6_sheet : MethodName := ⟨RX6, "sheet", "(III)I"⟩
abbrev cX6_write : ByteArray := prog_1_method_34_code
def yX6_write : MethodName := ⟨RX6, "write", "(IIJ)J"⟩
abbrev cX6_copy : ByteArray := prog_1_method_35_code
def yX6_copy : MethodName := ⟨RX6, "copy", "(IIIII)I"⟩
abbrev cX6_lays : ByteArray := prog_1_method_36_code
def yX6_lays : MethodName := ⟨RX6, "lays", "(I)I"⟩
abbrev cX6_read : ByteArray := prog_1_method_37_code
def yX6_read : MethodName := ⟨RX6, "read", "(II)I"⟩
abbrev cX6_image : ByteArray := prog_1_method_38_code
def yX6_image : MethodName := ⟨RX6, "image", "()I"⟩
abbrev cX6_undo : ByteArray := prog_1_method_39_code
def yX6_undo : MethodName := ⟨RX6, "undo", "()I"⟩
abbrev cX6_burn : ByteArray := prog_1_method_40_code
def yX6_burn : MethodName := ⟨RX6, "burn", "()I"⟩
abbrev cX6_count : ByteArray := prog_1_method_41_code
def yX6_count : MethodName := ⟨RX6, "count", "(I)I"⟩
abbrev cX6_status : ByteArray := prog_1_method_42_code
def yX6_status : MethodName := ⟨RX6, "status", "(I)I"⟩
abbrev cX6_tell : ByteArray := prog_1_method_43_code
def yX6_tell : MethodName := ⟨RX6, "tell", "(I)I"⟩
abbrev cX6_isChild : ByteArray := prog_1_method_44_code
def yX6_isChild : MethodName := ⟨RX6, "isChild", "(I)Z"⟩
abbrev cX6_isLine : ByteArray := prog_1_method_45_code
def yX6_isLine : MethodName := ⟨RX6, "isLine", "(I)Z"⟩
abbrev cX6_isSetOfChildren : ByteArray := prog_1_method_46_code
def yX6_isSetOfChildren : MethodName := ⟨RX6, "isSetOfChildren", "(I)Z"⟩
abbrev cX6_maySet : ByteArray := prog_1_method_47_code
def yX6_maySet : MethodName := ⟨RX6, "maySet", "(III)Z"⟩
abbrev cX6_isKind : ByteArray := prog_1_method_48_code
def yX6_isKind : MethodName := ⟨RX6, "isKind", "(I)Z"⟩
abbrev cX6_isSheet : ByteArray := prog_1_method_49_code
def yX6_isSheet : MethodName := ⟨RX6, "isSheet", "(I)Z"⟩
abbrev cX6_isTraitValue : ByteArray := prog_1_method_50_code
def yX6_isTraitValue : MethodName := ⟨RX6, "isTraitValue", "(I)Z"⟩
abbrev cX6_isWithin : ByteArray := prog_1_method_51_code
def yX6_isWithin : MethodName := ⟨RX6, "isWithin", "(III)Z"⟩
abbrev cX6_has : ByteArray := prog_1_method_52_code
def yX6_has : MethodName := ⟨RX6, "has", "(II)Z"⟩
abbrev cX6_isUnder : ByteArray := prog_1_method_53_code
def yX6_isUnder : MethodName := ⟨RX6, "isUnder", "(II)Z"⟩
abbrev cX6_exchange : ByteArray := prog_1_method_54_code
def yX6_exchange : MethodName := ⟨RX6, "exchange", "([III)I"⟩
def RX7 : String := "FortyReportsModel"
def TX7 : u_T := fun k => match k with
  | 0 => ("FortyReportsModel", "now", "[I", true)
  | 1 => ("FortyReportsModel", "kept", "[I", true)
  | 2 => ("FortyReportsModel", "aside", "[I", true)
  | 3 => ("FortyReportsModel", "isKept", "Z", false)
  | 4 => ("FortyReportsModel", "found", "[I", true)
  | 5 => ("FortyReportsModel", "foundAll", "I", false)
  | 6 => ("FortyReportsModel", "used", "[I", true)
  | 7 => ("FortyReportsModel", "usedMany", "I", false)
  | 8 => ("FortyReportsModel", "said", "I", false)
  | 9 => ("FortyReportsModel", "worths", "[I", true)
  | 10 => ("FortyReportsModel", "row", "[I", true)
  | 11 => ("FortyReportsModel", "best", "[I", true)
  | 12 => ("FortyReportsModel", "fitTo", "[I", true)
  | 13 => ("FortyReportsModel", "tape", "[I", true)
  | 14 => ("FortyReportsModel", "taped", "I", false)
  | 15 => ("FortyReportsModel", "names", "[C", true)
  | 16 => ("FortyReportsModel", "nameAt", "[I", true)
  | 17 => ("FortyReportsModel", "at", "I", false)
  | 18 => ("FortyReportsModel", "ends", "I", false)
  | 19 => ("FortyReportsModel", "token", "I", false)
  | 20 => ("FortyReportsModel", "value", "I", false)
  | 21 => ("FortyReportsModel", "isFault", "Z", false)
  | 22 => ("FortyReportsModel", "widths", "[I", true)
  | 23 => ("FortyReportsModel", "sizes", "[I", true)
  | 24 => ("FortyReportsModel", "cells", "[J", true)
  | _ => ("FortyReportsModel", "moved", "[J", true)
def tyX7 : Nat → FieldType := fun k => match k with
  | 0 => .array .int
  | 1 => .array .int
  | 2 => .array .int
  | 3 => .boolean
  | 4 => .array .int
  | 5 => .int
  | 6 => .array .int
  | 7 => .int
  | 8 => .int
  | 9 => .array .int
  | 10 => .array .int
  | 11 => .array .int
  | 12 => .array .int
  | 13 => .array .int
  | 14 => .int
  | 15 => .array .char
  | 16 => .array .int
  | 17 => .int
  | 18 => .int
  | 19 => .int
  | 20 => .int
  | 21 => .boolean
  | 22 => .array .int
  | 23 => .array .int
  | 24 => .array .long
  | _ => .array .long
abbrev wsX70 : List Cond := u_ws RX7 TX7 26
theorem nmX7 : ∀ a, a < 26 → ∀ b, b < 26 → a ≠ b → (TX7 a).2.1 ≠ (TX7 b).2.1 := by decide +kernel
theorem tyX7_ok : ∀ k, k < 26 → parseFieldDescriptor (TX7 k).2.2.1 = some (tyX7 k) := by decide +kernel
abbrev cX7_init : ByteArray := prog_9_method_1_code
def yX7_init : MethodName := ⟨RX7, "<init>", "()V"⟩
abbrev cX7_finds : ByteArray := prog_9_method_2_code
def yX7_finds : MethodName := ⟨RX7, "finds", "(I)I"⟩
abbrev cX7_in : ByteArray := prog_9_method_3_code
def yX7_in : MethodName := ⟨RX7, "in", "(III)Z"⟩
abbrev cX7_within : ByteArray := prog_9_method_4_code
def yX7_within : MethodName := ⟨RX7, "within", "(III)I"⟩
abbrev cX7_copyAll : ByteArray := prog_9_method_5_code
def yX7_copyAll : MethodName := ⟨RX7, "copyAll", "([I[I)V"⟩
abbrev cX7_isChild : ByteArray := prog_9_method_6_code
def yX7_isChild : MethodName := ⟨RX7, "isChild", "(I)Z"⟩
abbrev cX7_isLine : ByteArray := prog_9_method_7_code
def yX7_isLine : MethodName := ⟨RX7, "isLine", "(I)Z"⟩
abbrev cX7_isSet : ByteArray := prog_9_method_8_code
def yX7_isSet : MethodName := ⟨RX7, "isSet", "(JI)Z"⟩
abbrev cX7_get : ByteArray := prog_9_method_9_code
def yX7_get : MethodName := ⟨RX7, "get", "(II)I"⟩
abbrev cX7_store : ByteArray := prog_9_method_10_code
def yX7_store : MethodName := ⟨RX7, "store", "(III)V"⟩
abbrev cX7_lineAt : ByteArray := prog_9_method_11_code
def yX7_lineAt : MethodName := ⟨RX7, "lineAt", "(II)I"⟩
abbrev cX7_becomes : ByteArray := prog_9_method_12_code
def yX7_becomes : MethodName := ⟨RX7, "becomes", "(II)I"⟩
abbrev cX7_bitsOf : ByteArray := prog_9_method_13_code
def yX7_bitsOf : MethodName := ⟨RX7, "bitsOf", "(I)I"⟩
abbrev cX7_comes : ByteArray := prog_9_method_14_code
def yX7_comes : MethodName := ⟨RX7, "comes", "(IIII)V"⟩
abbrev cX7_isTrait : ByteArray := prog_9_method_15_code
def yX7_isTrait : MethodName := ⟨RX7, "isTrait", "(I)Z"⟩
abbrev cX7_child : ByteArray := prog_9_method_16_code
def yX7_child : MethodName := ⟨RX7, "child", "(IIII)I"⟩
abbrev cX7_wordsOf : ByteArray := prog_9_method_17_code
def yX7_wordsOf : MethodName := ⟨RX7, "wordsOf", "(I)I"⟩
abbrev cX7_of : ByteArray := prog_9_method_18_code
def yX7_of : MethodName := ⟨RX7, "of", "(II)I"⟩
abbrev cX7_set : ByteArray := prog_9_method_19_code
def yX7_set : MethodName := ⟨RX7, "set", "(III)I"⟩
abbrev cX7_adds : ByteArray := prog_9_method_20_code
def yX7_adds : MethodName := ⟨RX7, "adds", "(IIIII)V"⟩
abbrev cX7_line : ByteArray := prog_9_method_21_code
def yX7_line : MethodName := ⟨RX7, "line", "(IIIII)I"⟩
abbrev cX7_isHeaped : ByteArray := prog_9_method_22_code
def yX7_isHeaped : MethodName := ⟨RX7, "isHeaped", "(I)Z"⟩
abbrev cX7_doesFit : ByteArray := prog_9_method_23_code
def yX7_doesFit : MethodName := ⟨RX7, "doesFit", "(II)Z"⟩
abbrev cX7_saysOf : ByteArray := prog_9_method_24_code
def yX7_saysOf : MethodName := ⟨RX7, "saysOf", "(I)I"⟩
abbrev cX7_worthOf : ByteArray := prog_9_method_25_code
def yX7_worthOf : MethodName := ⟨RX7, "worthOf", "(I)I"⟩
abbrev cX7_lineOf : ByteArray := prog_9_method_26_code
def yX7_lineOf : MethodName := ⟨RX7, "lineOf", "(II)I"⟩
abbrev cX7_isUnder : ByteArray := prog_9_method_27_code
def yX7_isUnder : MethodName := ⟨RX7, "isUnder", "(II)Z"⟩
abbrev cX7_as : ByteArray := prog_9_method_28_code
def yX7_as : MethodName := ⟨RX7, "as", "(II)I"⟩
abbrev cX7_turn : ByteArray := prog_9_method_29_code
def yX7_turn : MethodName := ⟨RX7, "turn", "(II)I"⟩
abbrev cX7_fits : ByteArray := prog_9_method_30_code
def yX7_fits : MethodName := ⟨RX7, "fits", "(II)I"⟩
abbrev cX7_fitting : ByteArray := prog_9_method_31_code
def yX7_fitting : MethodName := ⟨RX7, "fitting", "(I)I"⟩
abbrev cX7_all : ByteArray := prog_9_method_32_code
def yX7_all : MethodName := ⟨RX7, "all", "(I)I"⟩
abbrev cX7_writer : ByteArray := prog_9_method_33_code
def yX7_writer : MethodName := ⟨RX7, "writer", "(II)I"⟩
abbrev cX7_mostWorth : ByteArray := prog_9_method_34_code
def yX7_mostWorth : MethodName := ⟨RX7, "mostWorth", "(I)I"⟩
abbrev cX7_writes : ByteArray := prog_9_method_35_code
def yX7_writes : MethodName := ⟨RX7, "writes", "(I)V"⟩
abbrev cX7_report : ByteArray := prog_9_method_36_code
def yX7_report : MethodName := ⟨RX7, "report", "(I)I"⟩
abbrev cX7_rest : ByteArray := prog_9_method_37_code
def yX7_rest : MethodName := ⟨RX7, "rest", "(I)I"⟩
abbrev cX7_tear : ByteArray := prog_9_method_38_code
def yX7_tear : MethodName := ⟨RX7, "tear", "(I)I"⟩
abbrev cX7_put : ByteArray := prog_9_method_39_code
def yX7_put : MethodName := ⟨RX7, "put", "(IIZ)I"⟩
abbrev cX7_year : ByteArray := prog_9_method_40_code
def yX7_year : MethodName := ⟨RX7, "year", "()V"⟩
abbrev cX7_years : ByteArray := prog_9_method_41_code
def yX7_years : MethodName := ⟨RX7, "years", "(I)I"⟩
abbrev cX7_now : ByteArray := prog_9_method_42_code
def yX7_now : MethodName := ⟨RX7, "now", "(I)I"⟩
abbrev cX7_canBe : ByteArray := prog_9_method_43_code
def yX7_canBe : MethodName := ⟨RX7, "canBe", "(II)Z"⟩
abbrev cX7_whoseIs : ByteArray := prog_9_method_44_code
def yX7_whoseIs : MethodName := ⟨RX7, "whoseIs", "(I)I"⟩
abbrev cX7_whose : ByteArray := prog_9_method_45_code
def yX7_whose : MethodName := ⟨RX7, "whose", "(I)I"⟩
abbrev cX7_bitsAbout : ByteArray := prog_9_method_46_code
def yX7_bitsAbout : MethodName := ⟨RX7, "bitsAbout", "(I)I"⟩
abbrev cX7_bits : ByteArray := prog_9_method_47_code
def yX7_bits : MethodName := ⟨RX7, "bits", "(I)I"⟩
abbrev cX7_alikeWith : ByteArray := prog_9_method_48_code
def yX7_alikeWith : MethodName := ⟨RX7, "alikeWith", "(I)I"⟩
abbrev cX7_alike : ByteArray := prog_9_method_49_code
def yX7_alike : MethodName := ⟨RX7, "alike", "(I)I"⟩
abbrev cX7_swaps : ByteArray := prog_9_method_50_code
def yX7_swaps : MethodName := ⟨RX7, "swaps", "()I"⟩
abbrev cX7_plainest : ByteArray := prog_9_method_51_code
def yX7_plainest : MethodName := ⟨RX7, "plainest", "()I"⟩
abbrev cX7_wrong : ByteArray := prog_9_method_52_code
def yX7_wrong : MethodName := ⟨RX7, "wrong", "(I)I"⟩
abbrev cX7_planned : ByteArray := prog_9_method_53_code
def yX7_planned : MethodName := ⟨RX7, "planned", "(I)I"⟩
abbrev cX7_plan : ByteArray := prog_9_method_54_code
def yX7_plan : MethodName := ⟨RX7, "plan", "(II)I"⟩
abbrev cX7_order : ByteArray := prog_9_method_55_code
def yX7_order : MethodName := ⟨RX7, "order", "(II)I"⟩
abbrev cX7_isOrder : ByteArray := prog_9_method_56_code
def yX7_isOrder : MethodName := ⟨RX7, "isOrder", "(III)Z"⟩
abbrev cX7_heap : ByteArray := prog_9_method_57_code
def yX7_heap : MethodName := ⟨RX7, "heap", "(I)I"⟩
abbrev cX7_allDiffer : ByteArray := prog_9_method_58_code
def yX7_allDiffer : MethodName := ⟨RX7, "allDiffer", "(II)Z"⟩
abbrev cX7_lookedAt : ByteArray := prog_9_method_59_code
def yX7_lookedAt : MethodName := ⟨RX7, "lookedAt", "(II)I"⟩
abbrev cX7_look : ByteArray := prog_9_method_60_code
def yX7_look : MethodName := ⟨RX7, "look", "(II)I"⟩
abbrev cX7_whom : ByteArray := prog_9_method_61_code
def yX7_whom : MethodName := ⟨RX7, "whom", "(I)I"⟩
abbrev cX7_writtenNow : ByteArray := prog_9_method_62_code
def yX7_writtenNow : MethodName := ⟨RX7, "writtenNow", "(I)I"⟩
abbrev cX7_lean : ByteArray := prog_9_method_63_code
def yX7_lean : MethodName := ⟨RX7, "lean", "(I)I"⟩
abbrev cX7_feed : ByteArray := prog_9_method_64_code
def yX7_feed : MethodName := ⟨RX7, "feed", "(II)I"⟩
abbrev cX7_wipe : ByteArray := prog_9_method_65_code
def yX7_wipe : MethodName := ⟨RX7, "wipe", "()I"⟩
abbrev cX7_isAt : ByteArray := prog_9_method_66_code
def yX7_isAt : MethodName := ⟨RX7, "isAt", "(III)Z"⟩
abbrev cX7_nameHere : ByteArray := prog_9_method_67_code
def yX7_nameHere : MethodName := ⟨RX7, "nameHere", "()I"⟩
abbrev cX7_next : ByteArray := prog_9_method_68_code
def yX7_next : MethodName := ⟨RX7, "next", "()V"⟩
abbrev cX7_isName : ByteArray := prog_9_method_69_code
def yX7_isName : MethodName := ⟨RX7, "isName", "(I)Z"⟩
abbrev cX7_takesName : ByteArray := prog_9_method_70_code
def yX7_takesName : MethodName := ⟨RX7, "takesName", "(II)I"⟩
abbrev cX7_takesNumber : ByteArray := prog_9_method_71_code
def yX7_takesNumber : MethodName := ⟨RX7, "takesNumber", "(II)I"⟩
abbrev cX7_perhaps : ByteArray := prog_9_method_72_code
def yX7_perhaps : MethodName := ⟨RX7, "perhaps", "(IIII)I"⟩
abbrev cX7_lineItem : ByteArray := prog_9_method_73_code
def yX7_lineItem : MethodName := ⟨RX7, "lineItem", "()V"⟩
abbrev cX7_childItem : ByteArray := prog_9_method_74_code
def yX7_childItem : MethodName := ⟨RX7, "childItem", "()V"⟩
abbrev cX7_item : ByteArray := prog_9_method_75_code
def yX7_item : MethodName := ⟨RX7, "item", "()V"⟩
abbrev cX7_text : ByteArray := prog_9_method_76_code
def yX7_text : MethodName := ⟨RX7, "text", "()I"⟩
abbrev cX7_isSheet : ByteArray := prog_9_method_77_code
def yX7_isSheet : MethodName := ⟨RX7, "isSheet", "(I)Z"⟩
abbrev cX7_sheet : ByteArray := prog_9_method_78_code
def yX7_sheet : MethodName := ⟨RX7, "sheet", "(III)I"⟩
abbrev cX7_write : ByteArray := prog_9_method_79_code
def yX7_write : MethodName := ⟨RX7, "write", "(IIJ)J"⟩
abbrev cX7_has : ByteArray := prog_9_method_80_code
def yX7_has : MethodName := ⟨RX7, "has", "(III)Z"⟩
abbrev cX7_copy : ByteArray := prog_9_method_81_code
def yX7_copy : MethodName := ⟨RX7, "copy", "(IIIII)I"⟩
abbrev cX7_lays : ByteArray := prog_9_method_82_code
def yX7_lays : MethodName := ⟨RX7, "lays", "(I)I"⟩
abbrev cX7_read : ByteArray := prog_9_method_83_code
def yX7_read : MethodName := ⟨RX7, "read", "(II)I"⟩
abbrev cX7_image : ByteArray := prog_9_method_84_code
def yX7_image : MethodName := ⟨RX7, "image", "()I"⟩
abbrev cX7_undo : ByteArray := prog_9_method_85_code
def yX7_undo : MethodName := ⟨RX7, "undo", "()I"⟩
abbrev cX7_burn : ByteArray := prog_9_method_86_code
def yX7_burn : MethodName := ⟨RX7, "burn", "()I"⟩
abbrev cX7_reportMany : ByteArray := prog_9_method_87_code
def yX7_reportMany : MethodName := ⟨RX7, "reportMany", "()I"⟩
abbrev cX7_wordsAll : ByteArray := prog_9_method_88_code
def yX7_wordsAll : MethodName := ⟨RX7, "wordsAll", "()I"⟩
abbrev cX7_count : ByteArray := prog_9_method_89_code
def yX7_count : MethodName := ⟨RX7, "count", "(I)I"⟩
abbrev cX7_status : ByteArray := prog_9_method_90_code
def yX7_status : MethodName := ⟨RX7, "status", "(I)I"⟩
def RJx145de : String := "java/io/Serializable"
def TJx145de : u_T := fun k => match k with
  | _ => ("", "", "", false)
def tyJx145de : Nat → FieldType := fun k => match k with
  | _ => .int
abbrev wsJx145de0 : List Cond := u_ws RJx145de TJx145de 0
theorem nmJx145de : ∀ a, a < 0 → ∀ b, b < 0 → a ≠ b → (TJx145de a).2.1 ≠ (TJx145de b).2.1 := by decide +kernel
theorem tyJx145de_ok : ∀ k, k < 0 → parseFieldDescriptor (TJx145de k).2.2.1 = some (tyJx145de k) := by decide +kernel
def RJx9f9b0 : String := "java/lang/CharSequence"
def TJx9f9b0 : u_T := fun k => match k with
  | _ => ("", "", "", false)
def tyJx9f9b0 : Nat → FieldType := fun k => match k with
  | _ => .int
abbrev wsJx9f9b00 : List Cond := u_ws RJx9f9b0 TJx9f9b0 0
theorem nmJx9f9b0 : ∀ a, a < 0 → ∀ b, b < 0 → a ≠ b → (TJx9f9b0 a).2.1 ≠ (TJx9f9b0 b).2.1 := by decide +kernel
theorem tyJx9f9b0_ok : ∀ k, k < 0 → parseFieldDescriptor (TJx9f9b0 k).2.2.1 = some (tyJx9f9b0 k) := by decide +kernel
def RJxb160c : String := "java/lang/Comparable"
def TJxb160c : u_T := fun k => match k with
  | _ => ("", "", "", false)
def tyJxb160c : Nat → FieldType := fun k => match k with
  | _ => .int
abbrev wsJxb160c0 : List Cond := u_ws RJxb160c TJxb160c 0
theorem nmJxb160c : ∀ a, a < 0 → ∀ b, b < 0 → a ≠ b → (TJxb160c a).2.1 ≠ (TJxb160c b).2.1 := by decide +kernel
theorem tyJxb160c_ok : ∀ k, k < 0 → parseFieldDescriptor (TJxb160c k).2.2.1 = some (tyJxb160c k) := by decide +kernel
def RJ6 : String := "java/lang/Integer"
def TJ6 : u_T := fun k => match k with
  | _ => ("", "", "", false)
def tyJ6 : Nat → FieldType := fun k => match k with
  | _ => .int
abbrev wsJ60 : List Cond := u_ws RJ6 TJ6 0
theorem nmJ6 : ∀ a, a < 0 → ∀ b, b < 0 → a ≠ b → (TJ6 a).2.1 ≠ (TJ6 b).2.1 := by decide +kernel
theorem tyJ6_ok : ∀ k, k < 0 → parseFieldDescriptor (TJ6 k).2.2.1 = some (tyJ6 k) := by decide +kernel
abbrev cJ6_numberOfTrailingZeros_0f7a4 : ByteArray := prog_10_method_48_code
def yJ6_numberOfTrailingZeros_0f7a4 : MethodName := ⟨RJ6, "numberOfTrailingZeros", "(I)I"⟩
abbrev cJ6_bitCount_0f7a4 : ByteArray := prog_10_method_49_code
def yJ6_bitCount_0f7a4 : MethodName := ⟨RJ6, "bitCount", "(I)I"⟩
def RJ9 : String := "java/lang/Math"
def TJ9 : u_T := fun k => match k with
  | _ => ("", "", "", false)
def tyJ9 : Nat → FieldType := fun k => match k with
  | _ => .int
abbrev wsJ90 : List Cond := u_ws RJ9 TJ9 0
theorem nmJ9 : ∀ a, a < 0 → ∀ b, b < 0 → a ≠ b → (TJ9 a).2.1 ≠ (TJ9 b).2.1 := by decide +kernel
theorem tyJ9_ok : ∀ k, k < 0 → parseFieldDescriptor (TJ9 k).2.2.1 = some (tyJ9 k) := by decide +kernel
abbrev cJ9_max_7cf53 : ByteArray := prog_11_method_65_code
def yJ9_max_7cf53 : MethodName := ⟨RJ9, "max", "(II)I"⟩
abbrev cJ9_min_7cf53 : ByteArray := prog_11_method_69_code
def yJ9_min_7cf53 : MethodName := ⟨RJ9, "min", "(II)I"⟩
def RJ0 : String := "java/lang/String"
def TJ0 : u_T := fun k => match k with
  | _ => ("", "", "", false)
def tyJ0 : Nat → FieldType := fun k => match k with
  | _ => .int
abbrev wsJ00 : List Cond := u_ws RJ0 TJ0 0
theorem nmJ0 : ∀ a, a < 0 → ∀ b, b < 0 → a ≠ b → (TJ0 a).2.1 ≠ (TJ0 b).2.1 := by decide +kernel
theorem tyJ0_ok : ∀ k, k < 0 → parseFieldDescriptor (TJ0 k).2.2.1 = some (tyJ0 k) := by decide +kernel
abbrev cJ0_length_8abf5 : ByteArray := prog_12_method_54_code
def yJ0_length_8abf5 : MethodName := ⟨RJ0, "length", "()I"⟩
abbrev cJ0_charAt_5068e : ByteArray := prog_12_method_56_code
def yJ0_charAt_5068e : MethodName := ⟨RJ0, "charAt", "(I)C"⟩
abbrev cJ0_coder_7d493 : ByteArray := prog_12_method_152_code
def yJ0_coder_7d493 : MethodName := ⟨RJ0, "coder", "()B"⟩
abbrev cJ0_isLatin1_aae02 : ByteArray := prog_12_method_154_code
def yJ0_isLatin1_aae02 : MethodName := ⟨RJ0, "isLatin1", "()Z"⟩
abbrev cJ0_checkIndex_df160 : ByteArray := prog_12_method_155_code
def yJ0_checkIndex_df160 : MethodName := ⟨RJ0, "checkIndex", "(II)V"⟩
def RJ1 : String := "java/lang/StringLatin1"
def TJ1 : u_T := fun k => match k with
  | _ => ("", "", "", false)
def tyJ1 : Nat → FieldType := fun k => match k with
  | _ => .int
abbrev wsJ10 : List Cond := u_ws RJ1 TJ1 0
theorem nmJ1 : ∀ a, a < 0 → ∀ b, b < 0 → a ≠ b → (TJ1 a).2.1 ≠ (TJ1 b).2.1 := by decide +kernel
theorem tyJ1_ok : ∀ k, k < 0 → parseFieldDescriptor (TJ1 k).2.2.1 = some (tyJ1 k) := by decide +kernel
abbrev cJ1_charAt_3b067 : ByteArray := prog_13_method_2_code
def yJ1_charAt_3b067 : MethodName := ⟨RJ1, "charAt", "([BI)C"⟩
def RJ2 : String := "java/lang/StringUTF16"
def TJ2 : u_T := fun k => match k with
  | _ => ("", "", "", false)
def tyJ2 : Nat → FieldType := fun k => match k with
  | _ => .int
abbrev wsJ20 : List Cond := u_ws RJ2 TJ2 0
theorem nmJ2 : ∀ a, a < 0 → ∀ b, b < 0 → a ≠ b → (TJ2 a).2.1 ≠ (TJ2 b).2.1 := by decide +kernel
theorem tyJ2_ok : ∀ k, k < 0 → parseFieldDescriptor (TJ2 k).2.2.1 = some (tyJ2 k) := by decide +kernel
abbrev cJ2_getChar_3b067 : ByteArray := prog_14_method_5_code
def yJ2_getChar_3b067 : MethodName := ⟨RJ2, "getChar", "([BI)C"⟩
abbrev cJ2_length_9d52b : ByteArray := prog_14_method_6_code
def yJ2_length_9d52b : MethodName := ⟨RJ2, "length", "([B)I"⟩
abbrev cJ2_charAt_3b067 : ByteArray := prog_14_method_83_code
def yJ2_charAt_3b067 : MethodName := ⟨RJ2, "charAt", "([BI)C"⟩
abbrev cJ2_checkIndex_2214a : ByteArray := prog_14_method_91_code
def yJ2_checkIndex_2214a : MethodName := ⟨RJ2, "checkIndex", "(I[B)V"⟩
def RJ10 : String := "java/lang/System"
def TJ10 : u_T := fun k => match k with
  | _ => ("", "", "", false)
def tyJ10 : Nat → FieldType := fun k => match k with
  | _ => .int
abbrev wsJ100 : List Cond := u_ws RJ10 TJ10 0
theorem nmJ10 : ∀ a, a < 0 → ∀ b, b < 0 → a ≠ b → (TJ10 a).2.1 ≠ (TJ10 b).2.1 := by decide +kernel
theorem tyJ10_ok : ∀ k, k < 0 → parseFieldDescriptor (TJ10 k).2.2.1 = some (tyJ10 k) := by decide +kernel
def RJxfd54e : String := "java/lang/constant/Constable"
def TJxfd54e : u_T := fun k => match k with
  | _ => ("", "", "", false)
def tyJxfd54e : Nat → FieldType := fun k => match k with
  | _ => .int
abbrev wsJxfd54e0 : List Cond := u_ws RJxfd54e TJxfd54e 0
theorem nmJxfd54e : ∀ a, a < 0 → ∀ b, b < 0 → a ≠ b → (TJxfd54e a).2.1 ≠ (TJxfd54e b).2.1 := by decide +kernel
theorem tyJxfd54e_ok : ∀ k, k < 0 → parseFieldDescriptor (TJxfd54e k).2.2.1 = some (tyJxfd54e k) := by decide +kernel
def RJx3cf43 : String := "java/lang/constant/ConstantDesc"
def TJx3cf43 : u_T := fun k => match k with
  | _ => ("", "", "", false)
def tyJx3cf43 : Nat → FieldType := fun k => match k with
  | _ => .int
abbrev wsJx3cf430 : List Cond := u_ws RJx3cf43 TJx3cf43 0
theorem nmJx3cf43 : ∀ a, a < 0 → ∀ b, b < 0 → a ≠ b → (TJx3cf43 a).2.1 ≠ (TJx3cf43 b).2.1 := by decide +kernel
theorem tyJx3cf43_ok : ∀ k, k < 0 → parseFieldDescriptor (TJx3cf43 k).2.2.1 = some (tyJx3cf43 k) := by decide +kernel
def RJ7 : String := "java/util/Arrays"
def TJ7 : u_T := fun k => match k with
  | _ => ("", "", "", false)
def tyJ7 : Nat → FieldType := fun k => match k with
  | _ => .int
abbrev wsJ70 : List Cond := u_ws RJ7 TJ7 0
theorem nmJ7 : ∀ a, a < 0 → ∀ b, b < 0 → a ≠ b → (TJ7 a).2.1 ≠ (TJ7 b).2.1 := by decide +kernel
theorem tyJ7_ok : ∀ k, k < 0 → parseFieldDescriptor (TJ7 k).2.2.1 = some (tyJ7 k) := by decide +kernel
abbrev cJ7_fill_d0a16 : ByteArray := prog_16_method_101_code
def yJ7_fill_d0a16 : MethodName := ⟨RJ7, "fill", "([JJ)V"⟩
def RJ3 : String := "jdk/internal/util/Preconditions"
def TJ3 : u_T := fun k => match k with
  | _ => ("", "", "", false)
def tyJ3 : Nat → FieldType := fun k => match k with
  | _ => .int
abbrev wsJ30 : List Cond := u_ws RJ3 TJ3 0
theorem nmJ3 : ∀ a, a < 0 → ∀ b, b < 0 → a ≠ b → (TJ3 a).2.1 ≠ (TJ3 b).2.1 := by decide +kernel
theorem tyJ3_ok : ∀ k, k < 0 → parseFieldDescriptor (TJ3 k).2.2.1 = some (tyJ3 k) := by decide +kernel
abbrev cJ3_checkIndex_8e157 : ByteArray := prog_17_method_11_code
def yJ3_checkIndex_8e157 : MethodName := ⟨RJ3, "checkIndex", "(IILjava/util/function/BiFunction;)I"⟩
def RL : String := "FortyReportsLaw"
abbrev cL_law : ByteArray := code
def yL_law : MethodName := ⟨RL, "law", "([I)Z"⟩
abbrev vwCl : List vw_C := [(RX0, TX0, 6), (RX1, TX1, 5), (RX2, TX2, 5), (RX3, TX3, 16), (RX4, TX4, 3), (RX5, TX5, 2), (RX6, TX6, 10), (RX7, TX7, 26)]
