-- ===== PART A: goes FIRST, ahead of the names: the tables' words, and 'selects' of the private methods out of them =====
/-- a private method of a class that the tables say can be made, by its rows of tables_1 -/
def lw_okq (q : MethodName × Nat) : Prop := (q.1.cls ≠ "java/lang/invoke/MethodHandle" ∧ q.1.cls ≠ "java/lang/invoke/VarHandle") ∧ Cond.instantiable q.1.cls q.2 ∈ tables_1 ∧ Cond.privateMethod q.1 ∈ tables_1 ∧ Cond.instanceMethod q.1 ∈ tables_1
theorem lw_p0 : lw_okq (⟨"HowDeep$Reader", "step", "()V"⟩, 9) := ⟨⟨by decide +kernel, by decide +kernel⟩, List.mem_of_getElem? (i := 88) (by decide +kernel), List.mem_of_getElem? (i := 235) (by decide +kernel), List.mem_of_getElem? (i := 236) (by decide +kernel)⟩
theorem lw_p1 : lw_okq (⟨"HowDeep$Reader", "readWord", "()V"⟩, 9) := ⟨⟨by decide +kernel, by decide +kernel⟩, List.mem_of_getElem? (i := 88) (by decide +kernel), List.mem_of_getElem? (i := 242) (by decide +kernel), List.mem_of_getElem? (i := 243) (by decide +kernel)⟩
theorem lw_p2 : lw_okq (⟨"HowDeep$Reader", "isWord", "(I)Z"⟩, 9) := ⟨⟨by decide +kernel, by decide +kernel⟩, List.mem_of_getElem? (i := 88) (by decide +kernel), List.mem_of_getElem? (i := 246) (by decide +kernel), List.mem_of_getElem? (i := 247) (by decide +kernel)⟩
theorem lw_p3 : lw_okq (⟨"HowDeep$Reader", "readNumber", "()V"⟩, 9) := ⟨⟨by decide +kernel, by decide +kernel⟩, List.mem_of_getElem? (i := 88) (by decide +kernel), List.mem_of_getElem? (i := 255) (by decide +kernel), List.mem_of_getElem? (i := 256) (by decide +kernel)⟩
theorem lw_p4 : lw_okq (⟨"HowDeep$Reader", "reads", "(II)Z"⟩, 9) := ⟨⟨by decide +kernel, by decide +kernel⟩, List.mem_of_getElem? (i := 88) (by decide +kernel), List.mem_of_getElem? (i := 319) (by decide +kernel), List.mem_of_getElem? (i := 320) (by decide +kernel)⟩
theorem lw_p5 : lw_okq (⟨"HowDeep$Reader", "readsPart", "(II)Z"⟩, 9) := ⟨⟨by decide +kernel, by decide +kernel⟩, List.mem_of_getElem? (i := 88) (by decide +kernel), List.mem_of_getElem? (i := 323) (by decide +kernel), List.mem_of_getElem? (i := 324) (by decide +kernel)⟩
theorem lw_p6 : lw_okq (⟨"HowDeep$Reader", "readsNot", "(I)Z"⟩, 9) := ⟨⟨by decide +kernel, by decide +kernel⟩, List.mem_of_getElem? (i := 88) (by decide +kernel), List.mem_of_getElem? (i := 327) (by decide +kernel), List.mem_of_getElem? (i := 328) (by decide +kernel)⟩
theorem lw_p7 : lw_okq (⟨"HowDeep$Reader", "emit", "(I)V"⟩, 9) := ⟨⟨by decide +kernel, by decide +kernel⟩, List.mem_of_getElem? (i := 88) (by decide +kernel), List.mem_of_getElem? (i := 331) (by decide +kernel), List.mem_of_getElem? (i := 332) (by decide +kernel)⟩
theorem lw_p8 : lw_okq (⟨"HowDeep$Reader", "readsOne", "(I)Z"⟩, 9) := ⟨⟨by decide +kernel, by decide +kernel⟩, List.mem_of_getElem? (i := 88) (by decide +kernel), List.mem_of_getElem? (i := 335) (by decide +kernel), List.mem_of_getElem? (i := 336) (by decide +kernel)⟩
theorem lw_p9 : lw_okq (⟨"HowDeep$Reader", "joins", "(I)Z"⟩, 9) := ⟨⟨by decide +kernel, by decide +kernel⟩, List.mem_of_getElem? (i := 88) (by decide +kernel), List.mem_of_getElem? (i := 339) (by decide +kernel), List.mem_of_getElem? (i := 340) (by decide +kernel)⟩
theorem lw_p10 : lw_okq (⟨"HowDeep$Laws", "part", "(II)I"⟩, 11) := ⟨⟨by decide +kernel, by decide +kernel⟩, List.mem_of_getElem? (i := 82) (by decide +kernel), List.mem_of_getElem? (i := 351) (by decide +kernel), List.mem_of_getElem? (i := 352) (by decide +kernel)⟩
theorem lw_p11 : lw_okq (⟨"HowDeep$Laws", "worked", "([II)I"⟩, 11) := ⟨⟨by decide +kernel, by decide +kernel⟩, List.mem_of_getElem? (i := 82) (by decide +kernel), List.mem_of_getElem? (i := 355) (by decide +kernel), List.mem_of_getElem? (i := 356) (by decide +kernel)⟩
theorem lw_p12 : lw_okq (⟨"HowDeep$Laws", "valueOf", "(I)I"⟩, 11) := ⟨⟨by decide +kernel, by decide +kernel⟩, List.mem_of_getElem? (i := 82) (by decide +kernel), List.mem_of_getElem? (i := 361) (by decide +kernel), List.mem_of_getElem? (i := 362) (by decide +kernel)⟩
theorem lw_p13 : lw_okq (⟨"HowDeep$Laws", "weighLayers", "([I)V"⟩, 11) := ⟨⟨by decide +kernel, by decide +kernel⟩, List.mem_of_getElem? (i := 82) (by decide +kernel), List.mem_of_getElem? (i := 375) (by decide +kernel), List.mem_of_getElem? (i := 376) (by decide +kernel)⟩
theorem lw_p14 : lw_okq (⟨"HowDeep", "newLayer", "(III)I"⟩, 10) := ⟨⟨by decide +kernel, by decide +kernel⟩, List.mem_of_getElem? (i := 22) (by decide +kernel), List.mem_of_getElem? (i := 664) (by decide +kernel), List.mem_of_getElem? (i := 665) (by decide +kernel)⟩
theorem lw_p15 : lw_okq (⟨"HowDeep", "isLayer", "(I)Z"⟩, 10) := ⟨⟨by decide +kernel, by decide +kernel⟩, List.mem_of_getElem? (i := 22) (by decide +kernel), List.mem_of_getElem? (i := 679) (by decide +kernel), List.mem_of_getElem? (i := 680) (by decide +kernel)⟩
def lw_privs_1 : List (MethodName × Nat) := [(⟨"HowDeep$Reader", "step", "()V"⟩, 9), (⟨"HowDeep$Reader", "readWord", "()V"⟩, 9), (⟨"HowDeep$Reader", "isWord", "(I)Z"⟩, 9), (⟨"HowDeep$Reader", "readNumber", "()V"⟩, 9), (⟨"HowDeep$Reader", "reads", "(II)Z"⟩, 9), (⟨"HowDeep$Reader", "readsPart", "(II)Z"⟩, 9), (⟨"HowDeep$Reader", "readsNot", "(I)Z"⟩, 9), (⟨"HowDeep$Reader", "emit", "(I)V"⟩, 9), (⟨"HowDeep$Reader", "readsOne", "(I)Z"⟩, 9), (⟨"HowDeep$Reader", "joins", "(I)Z"⟩, 9), (⟨"HowDeep$Laws", "part", "(II)I"⟩, 11), (⟨"HowDeep$Laws", "worked", "([II)I"⟩, 11), (⟨"HowDeep$Laws", "valueOf", "(I)I"⟩, 11), (⟨"HowDeep$Laws", "weighLayers", "([I)V"⟩, 11), (⟨"HowDeep", "newLayer", "(III)I"⟩, 10), (⟨"HowDeep", "isLayer", "(I)Z"⟩, 10)]
theorem lw_r1 : ∀ q ∈ lw_privs_1, lw_okq q := List.forall_mem_cons.mpr ⟨lw_p0, List.forall_mem_cons.mpr ⟨lw_p1, List.forall_mem_cons.mpr ⟨lw_p2, List.forall_mem_cons.mpr ⟨lw_p3, List.forall_mem_cons.mpr ⟨lw_p4, List.forall_mem_cons.mpr ⟨lw_p5, List.forall_mem_cons.mpr ⟨lw_p6, List.forall_mem_cons.mpr ⟨lw_p7, List.forall_mem_cons.mpr ⟨lw_p8, List.forall_mem_cons.mpr ⟨lw_p9, List.forall_mem_cons.mpr ⟨lw_p10, List.forall_mem_cons.mpr ⟨lw_p11, List.forall_mem_cons.mpr ⟨lw_p12, List.forall_mem_cons.mpr ⟨lw_p13, List.forall_mem_cons.mpr ⟨lw_p14, List.forall_mem_cons.mpr ⟨lw_p15, fun _ h => absurd h List.not_mem_nil⟩⟩⟩⟩⟩⟩⟩⟩⟩⟩⟩⟩⟩⟩⟩⟩
theorem lw_p16 : lw_okq (⟨"HowDeep", "isPlace", "(I)Z"⟩, 10) := ⟨⟨by decide +kernel, by decide +kernel⟩, List.mem_of_getElem? (i := 22) (by decide +kernel), List.mem_of_getElem? (i := 740) (by decide +kernel), List.mem_of_getElem? (i := 741) (by decide +kernel)⟩
theorem lw_p17 : lw_okq (⟨"HowDeep$Mind", "dryWith", "([JII)J"⟩, 7) := ⟨⟨by decide +kernel, by decide +kernel⟩, List.mem_of_getElem? (i := 442) (by decide +kernel), List.mem_of_getElem? (i := 791) (by decide +kernel), List.mem_of_getElem? (i := 792) (by decide +kernel)⟩
theorem lw_p18 : lw_okq (⟨"HowDeep$Mind", "sink", "([J)V"⟩, 7) := ⟨⟨by decide +kernel, by decide +kernel⟩, List.mem_of_getElem? (i := 442) (by decide +kernel), List.mem_of_getElem? (i := 796) (by decide +kernel), List.mem_of_getElem? (i := 797) (by decide +kernel)⟩
theorem lw_p19 : lw_okq (⟨"HowDeep$Mind", "goingOn", "(II)J"⟩, 7) := ⟨⟨by decide +kernel, by decide +kernel⟩, List.mem_of_getElem? (i := 442) (by decide +kernel), List.mem_of_getElem? (i := 847) (by decide +kernel), List.mem_of_getElem? (i := 848) (by decide +kernel)⟩
theorem lw_p20 : lw_okq (⟨"HowDeep$Mind", "gain", "(III)J"⟩, 7) := ⟨⟨by decide +kernel, by decide +kernel⟩, List.mem_of_getElem? (i := 442) (by decide +kernel), List.mem_of_getElem? (i := 852) (by decide +kernel), List.mem_of_getElem? (i := 853) (by decide +kernel)⟩
theorem lw_p21 : lw_okq (⟨"HowDeep", "isRule", "(I)Z"⟩, 10) := ⟨⟨by decide +kernel, by decide +kernel⟩, List.mem_of_getElem? (i := 22) (by decide +kernel), List.mem_of_getElem? (i := 890) (by decide +kernel), List.mem_of_getElem? (i := 891) (by decide +kernel)⟩
theorem lw_p22 : lw_okq (⟨"HowDeep$Ledger", "descend", "(IIJI)V"⟩, 7) := ⟨⟨by decide +kernel, by decide +kernel⟩, List.mem_of_getElem? (i := 523) (by decide +kernel), List.mem_of_getElem? (i := 904) (by decide +kernel), List.mem_of_getElem? (i := 905) (by decide +kernel)⟩
theorem lw_p23 : lw_okq (⟨"HowDeep$Ledger", "find", "(IJI)V"⟩, 7) := ⟨⟨by decide +kernel, by decide +kernel⟩, List.mem_of_getElem? (i := 523) (by decide +kernel), List.mem_of_getElem? (i := 917) (by decide +kernel), List.mem_of_getElem? (i := 918) (by decide +kernel)⟩
theorem lw_p24 : lw_okq (⟨"HowDeep$Mind", "toldBy", "(III)J"⟩, 7) := ⟨⟨by decide +kernel, by decide +kernel⟩, List.mem_of_getElem? (i := 442) (by decide +kernel), List.mem_of_getElem? (i := 946) (by decide +kernel), List.mem_of_getElem? (i := 947) (by decide +kernel)⟩
theorem lw_p25 : lw_okq (⟨"HowDeep$Farms", "given", "([II)I"⟩, 3) := ⟨⟨by decide +kernel, by decide +kernel⟩, List.mem_of_getElem? (i := 506) (by decide +kernel), List.mem_of_getElem? (i := 1048) (by decide +kernel), List.mem_of_getElem? (i := 1049) (by decide +kernel)⟩
theorem lw_p26 : lw_okq (⟨"HowDeep$Mind", "teaches", "(II)J"⟩, 7) := ⟨⟨by decide +kernel, by decide +kernel⟩, List.mem_of_getElem? (i := 442) (by decide +kernel), List.mem_of_getElem? (i := 1062) (by decide +kernel), List.mem_of_getElem? (i := 1063) (by decide +kernel)⟩
theorem lw_p27 : lw_okq (⟨"HowDeep$Mind", "mix", "(I)V"⟩, 7) := ⟨⟨by decide +kernel, by decide +kernel⟩, List.mem_of_getElem? (i := 442) (by decide +kernel), List.mem_of_getElem? (i := 1066) (by decide +kernel), List.mem_of_getElem? (i := 1067) (by decide +kernel)⟩
theorem lw_p28 : lw_okq (⟨"HowDeep$Digging", "pick", "([III)I"⟩, 6) := ⟨⟨by decide +kernel, by decide +kernel⟩, List.mem_of_getElem? (i := 555) (by decide +kernel), List.mem_of_getElem? (i := 1086) (by decide +kernel), List.mem_of_getElem? (i := 1087) (by decide +kernel)⟩
theorem lw_p29 : lw_okq (⟨"HowDeep$Digging", "lots", "()J"⟩, 6) := ⟨⟨by decide +kernel, by decide +kernel⟩, List.mem_of_getElem? (i := 555) (by decide +kernel), List.mem_of_getElem? (i := 1090) (by decide +kernel), List.mem_of_getElem? (i := 1091) (by decide +kernel)⟩
theorem lw_p30 : lw_okq (⟨"HowDeepModel", "first", "(IIIII)V"⟩, 62) := ⟨⟨by decide +kernel, by decide +kernel⟩, List.mem_of_getElem? (i := 1164) (by decide +kernel), List.mem_of_getElem? (i := 1183) (by decide +kernel), List.mem_of_getElem? (i := 1184) (by decide +kernel)⟩
theorem lw_p31 : lw_okq (⟨"HowDeepModel", "isLayer", "(I)Z"⟩, 62) := ⟨⟨by decide +kernel, by decide +kernel⟩, List.mem_of_getElem? (i := 1164) (by decide +kernel), List.mem_of_getElem? (i := 1387) (by decide +kernel), List.mem_of_getElem? (i := 1388) (by decide +kernel)⟩
def lw_privs_2 : List (MethodName × Nat) := [(⟨"HowDeep", "isPlace", "(I)Z"⟩, 10), (⟨"HowDeep$Mind", "dryWith", "([JII)J"⟩, 7), (⟨"HowDeep$Mind", "sink", "([J)V"⟩, 7), (⟨"HowDeep$Mind", "goingOn", "(II)J"⟩, 7), (⟨"HowDeep$Mind", "gain", "(III)J"⟩, 7), (⟨"HowDeep", "isRule", "(I)Z"⟩, 10), (⟨"HowDeep$Ledger", "descend", "(IIJI)V"⟩, 7), (⟨"HowDeep$Ledger", "find", "(IJI)V"⟩, 7), (⟨"HowDeep$Mind", "toldBy", "(III)J"⟩, 7), (⟨"HowDeep$Farms", "given", "([II)I"⟩, 3), (⟨"HowDeep$Mind", "teaches", "(II)J"⟩, 7), (⟨"HowDeep$Mind", "mix", "(I)V"⟩, 7), (⟨"HowDeep$Digging", "pick", "([III)I"⟩, 6), (⟨"HowDeep$Digging", "lots", "()J"⟩, 6), (⟨"HowDeepModel", "first", "(IIIII)V"⟩, 62), (⟨"HowDeepModel", "isLayer", "(I)Z"⟩, 62)]
theorem lw_r2 : ∀ q ∈ lw_privs_2, lw_okq q := List.forall_mem_cons.mpr ⟨lw_p16, List.forall_mem_cons.mpr ⟨lw_p17, List.forall_mem_cons.mpr ⟨lw_p18, List.forall_mem_cons.mpr ⟨lw_p19, List.forall_mem_cons.mpr ⟨lw_p20, List.forall_mem_cons.mpr ⟨lw_p21, List.forall_mem_cons.mpr ⟨lw_p22, List.forall_mem_cons.mpr ⟨lw_p23, List.forall_mem_cons.mpr ⟨lw_p24, List.forall_mem_cons.mpr ⟨lw_p25, List.forall_mem_cons.mpr ⟨lw_p26, List.forall_mem_cons.mpr ⟨lw_p27, List.forall_mem_cons.mpr ⟨lw_p28, List.forall_mem_cons.mpr ⟨lw_p29, List.forall_mem_cons.mpr ⟨lw_p30, List.forall_mem_cons.mpr ⟨lw_p31, fun _ h => absurd h List.not_mem_nil⟩⟩⟩⟩⟩⟩⟩⟩⟩⟩⟩⟩⟩⟩⟩⟩
theorem lw_p32 : lw_okq (⟨"HowDeepModel", "holds", "(II)V"⟩, 62) := ⟨⟨by decide +kernel, by decide +kernel⟩, List.mem_of_getElem? (i := 1164) (by decide +kernel), List.mem_of_getElem? (i := 1399) (by decide +kernel), List.mem_of_getElem? (i := 1400) (by decide +kernel)⟩
theorem lw_p33 : lw_okq (⟨"HowDeepModel", "nextToken", "()V"⟩, 62) := ⟨⟨by decide +kernel, by decide +kernel⟩, List.mem_of_getElem? (i := 1164) (by decide +kernel), List.mem_of_getElem? (i := 1413) (by decide +kernel), List.mem_of_getElem? (i := 1414) (by decide +kernel)⟩
theorem lw_p34 : lw_okq (⟨"HowDeepModel", "letters", "()J"⟩, 62) := ⟨⟨by decide +kernel, by decide +kernel⟩, List.mem_of_getElem? (i := 1164) (by decide +kernel), List.mem_of_getElem? (i := 1417) (by decide +kernel), List.mem_of_getElem? (i := 1418) (by decide +kernel)⟩
theorem lw_p35 : lw_okq (⟨"HowDeepModel", "eRead", "()Z"⟩, 62) := ⟨⟨by decide +kernel, by decide +kernel⟩, List.mem_of_getElem? (i := 1164) (by decide +kernel), List.mem_of_getElem? (i := 1421) (by decide +kernel), List.mem_of_getElem? (i := 1422) (by decide +kernel)⟩
theorem lw_p36 : lw_okq (⟨"HowDeepModel", "puts", "(I)V"⟩, 62) := ⟨⟨by decide +kernel, by decide +kernel⟩, List.mem_of_getElem? (i := 1164) (by decide +kernel), List.mem_of_getElem? (i := 1426) (by decide +kernel), List.mem_of_getElem? (i := 1427) (by decide +kernel)⟩
theorem lw_p37 : lw_okq (⟨"HowDeepModel", "unwinds", "(I)V"⟩, 62) := ⟨⟨by decide +kernel, by decide +kernel⟩, List.mem_of_getElem? (i := 1164) (by decide +kernel), List.mem_of_getElem? (i := 1430) (by decide +kernel), List.mem_of_getElem? (i := 1431) (by decide +kernel)⟩
theorem lw_p38 : lw_okq (⟨"HowDeepModel", "opensOne", "(I)Z"⟩, 62) := ⟨⟨by decide +kernel, by decide +kernel⟩, List.mem_of_getElem? (i := 1164) (by decide +kernel), List.mem_of_getElem? (i := 1437) (by decide +kernel), List.mem_of_getElem? (i := 1438) (by decide +kernel)⟩
theorem lw_p39 : lw_okq (⟨"HowDeepModel", "holds", "(I)V"⟩, 62) := ⟨⟨by decide +kernel, by decide +kernel⟩, List.mem_of_getElem? (i := 1164) (by decide +kernel), List.mem_of_getElem? (i := 1441) (by decide +kernel), List.mem_of_getElem? (i := 1442) (by decide +kernel)⟩
theorem lw_p40 : lw_okq (⟨"HowDeepModel", "signOf", "()I"⟩, 62) := ⟨⟨by decide +kernel, by decide +kernel⟩, List.mem_of_getElem? (i := 1164) (by decide +kernel), List.mem_of_getElem? (i := 1445) (by decide +kernel), List.mem_of_getElem? (i := 1446) (by decide +kernel)⟩
theorem lw_p41 : lw_okq (⟨"HowDeepModel", "between", "(I)Z"⟩, 62) := ⟨⟨by decide +kernel, by decide +kernel⟩, List.mem_of_getElem? (i := 1164) (by decide +kernel), List.mem_of_getElem? (i := 1449) (by decide +kernel), List.mem_of_getElem? (i := 1450) (by decide +kernel)⟩
theorem lw_p42 : lw_okq (⟨"HowDeepModel", "costOf", "(I)I"⟩, 62) := ⟨⟨by decide +kernel, by decide +kernel⟩, List.mem_of_getElem? (i := 1164) (by decide +kernel), List.mem_of_getElem? (i := 1461) (by decide +kernel), List.mem_of_getElem? (i := 1462) (by decide +kernel)⟩
theorem lw_p43 : lw_okq (⟨"HowDeepModel", "names", "(II)V"⟩, 62) := ⟨⟨by decide +kernel, by decide +kernel⟩, List.mem_of_getElem? (i := 1164) (by decide +kernel), List.mem_of_getElem? (i := 1465) (by decide +kernel), List.mem_of_getElem? (i := 1466) (by decide +kernel)⟩
theorem lw_p44 : lw_okq (⟨"HowDeepModel", "worth", "(I)I"⟩, 62) := ⟨⟨by decide +kernel, by decide +kernel⟩, List.mem_of_getElem? (i := 1164) (by decide +kernel), List.mem_of_getElem? (i := 1469) (by decide +kernel), List.mem_of_getElem? (i := 1470) (by decide +kernel)⟩
theorem lw_p45 : lw_okq (⟨"HowDeepModel", "waterOf", "(II)I"⟩, 62) := ⟨⟨by decide +kernel, by decide +kernel⟩, List.mem_of_getElem? (i := 1164) (by decide +kernel), List.mem_of_getElem? (i := 1476) (by decide +kernel), List.mem_of_getElem? (i := 1477) (by decide +kernel)⟩
theorem lw_p46 : lw_okq (⟨"HowDeepModel", "fallOf", "(II)I"⟩, 62) := ⟨⟨by decide +kernel, by decide +kernel⟩, List.mem_of_getElem? (i := 1164) (by decide +kernel), List.mem_of_getElem? (i := 1480) (by decide +kernel), List.mem_of_getElem? (i := 1481) (by decide +kernel)⟩
theorem lw_p47 : lw_okq (⟨"HowDeepModel", "isPlace", "(I)Z"⟩, 62) := ⟨⟨by decide +kernel, by decide +kernel⟩, List.mem_of_getElem? (i := 1164) (by decide +kernel), List.mem_of_getElem? (i := 1492) (by decide +kernel), List.mem_of_getElem? (i := 1493) (by decide +kernel)⟩
def lw_privs_3 : List (MethodName × Nat) := [(⟨"HowDeepModel", "holds", "(II)V"⟩, 62), (⟨"HowDeepModel", "nextToken", "()V"⟩, 62), (⟨"HowDeepModel", "letters", "()J"⟩, 62), (⟨"HowDeepModel", "eRead", "()Z"⟩, 62), (⟨"HowDeepModel", "puts", "(I)V"⟩, 62), (⟨"HowDeepModel", "unwinds", "(I)V"⟩, 62), (⟨"HowDeepModel", "opensOne", "(I)Z"⟩, 62), (⟨"HowDeepModel", "holds", "(I)V"⟩, 62), (⟨"HowDeepModel", "signOf", "()I"⟩, 62), (⟨"HowDeepModel", "between", "(I)Z"⟩, 62), (⟨"HowDeepModel", "costOf", "(I)I"⟩, 62), (⟨"HowDeepModel", "names", "(II)V"⟩, 62), (⟨"HowDeepModel", "worth", "(I)I"⟩, 62), (⟨"HowDeepModel", "waterOf", "(II)I"⟩, 62), (⟨"HowDeepModel", "fallOf", "(II)I"⟩, 62), (⟨"HowDeepModel", "isPlace", "(I)Z"⟩, 62)]
theorem lw_r3 : ∀ q ∈ lw_privs_3, lw_okq q := List.forall_mem_cons.mpr ⟨lw_p32, List.forall_mem_cons.mpr ⟨lw_p33, List.forall_mem_cons.mpr ⟨lw_p34, List.forall_mem_cons.mpr ⟨lw_p35, List.forall_mem_cons.mpr ⟨lw_p36, List.forall_mem_cons.mpr ⟨lw_p37, List.forall_mem_cons.mpr ⟨lw_p38, List.forall_mem_cons.mpr ⟨lw_p39, List.forall_mem_cons.mpr ⟨lw_p40, List.forall_mem_cons.mpr ⟨lw_p41, List.forall_mem_cons.mpr ⟨lw_p42, List.forall_mem_cons.mpr ⟨lw_p43, List.forall_mem_cons.mpr ⟨lw_p44, List.forall_mem_cons.mpr ⟨lw_p45, List.forall_mem_cons.mpr ⟨lw_p46, List.forall_mem_cons.mpr ⟨lw_p47, fun _ h => absurd h List.not_mem_nil⟩⟩⟩⟩⟩⟩⟩⟩⟩⟩⟩⟩⟩⟩⟩⟩
theorem lw_p48 : lw_okq (⟨"HowDeepModel", "thinks", "(I)Z"⟩, 62) := ⟨⟨by decide +kernel, by decide +kernel⟩, List.mem_of_getElem? (i := 1164) (by decide +kernel), List.mem_of_getElem? (i := 1513) (by decide +kernel), List.mem_of_getElem? (i := 1514) (by decide +kernel)⟩
theorem lw_p49 : lw_okq (⟨"HowDeepModel", "begins", "(II)V"⟩, 62) := ⟨⟨by decide +kernel, by decide +kernel⟩, List.mem_of_getElem? (i := 1164) (by decide +kernel), List.mem_of_getElem? (i := 1517) (by decide +kernel), List.mem_of_getElem? (i := 1518) (by decide +kernel)⟩
theorem lw_p50 : lw_okq (⟨"HowDeepModel", "dries", "(III)J"⟩, 62) := ⟨⟨by decide +kernel, by decide +kernel⟩, List.mem_of_getElem? (i := 1164) (by decide +kernel), List.mem_of_getElem? (i := 1522) (by decide +kernel), List.mem_of_getElem? (i := 1523) (by decide +kernel)⟩
theorem lw_p51 : lw_okq (⟨"HowDeepModel", "below", "(IJ)V"⟩, 62) := ⟨⟨by decide +kernel, by decide +kernel⟩, List.mem_of_getElem? (i := 1164) (by decide +kernel), List.mem_of_getElem? (i := 1527) (by decide +kernel), List.mem_of_getElem? (i := 1528) (by decide +kernel)⟩
theorem lw_p52 : lw_okq (⟨"HowDeepModel", "allBelow", "(I)I"⟩, 62) := ⟨⟨by decide +kernel, by decide +kernel⟩, List.mem_of_getElem? (i := 1164) (by decide +kernel), List.mem_of_getElem? (i := 1531) (by decide +kernel), List.mem_of_getElem? (i := 1532) (by decide +kernel)⟩
theorem lw_p53 : lw_okq (⟨"HowDeepModel", "wetOf", "(II)J"⟩, 62) := ⟨⟨by decide +kernel, by decide +kernel⟩, List.mem_of_getElem? (i := 1164) (by decide +kernel), List.mem_of_getElem? (i := 1540) (by decide +kernel), List.mem_of_getElem? (i := 1541) (by decide +kernel)⟩
theorem lw_p54 : lw_okq (⟨"HowDeepModel", "goesHere", "(I)Z"⟩, 62) := ⟨⟨by decide +kernel, by decide +kernel⟩, List.mem_of_getElem? (i := 1164) (by decide +kernel), List.mem_of_getElem? (i := 1556) (by decide +kernel), List.mem_of_getElem? (i := 1557) (by decide +kernel)⟩
theorem lw_p55 : lw_okq (⟨"HowDeepModel", "valueOf", "(II)J"⟩, 62) := ⟨⟨by decide +kernel, by decide +kernel⟩, List.mem_of_getElem? (i := 1164) (by decide +kernel), List.mem_of_getElem? (i := 1560) (by decide +kernel), List.mem_of_getElem? (i := 1561) (by decide +kernel)⟩
theorem lw_p56 : lw_okq (⟨"HowDeepModel", "goesOn", "(II)J"⟩, 62) := ⟨⟨by decide +kernel, by decide +kernel⟩, List.mem_of_getElem? (i := 1164) (by decide +kernel), List.mem_of_getElem? (i := 1564) (by decide +kernel), List.mem_of_getElem? (i := 1565) (by decide +kernel)⟩
theorem lw_p57 : lw_okq (⟨"HowDeepModel", "worthOf", "(I)J"⟩, 62) := ⟨⟨by decide +kernel, by decide +kernel⟩, List.mem_of_getElem? (i := 1164) (by decide +kernel), List.mem_of_getElem? (i := 1569) (by decide +kernel), List.mem_of_getElem? (i := 1570) (by decide +kernel)⟩
theorem lw_p58 : lw_okq (⟨"HowDeepModel", "indexOf", "(I)I"⟩, 62) := ⟨⟨by decide +kernel, by decide +kernel⟩, List.mem_of_getElem? (i := 1164) (by decide +kernel), List.mem_of_getElem? (i := 1581) (by decide +kernel), List.mem_of_getElem? (i := 1582) (by decide +kernel)⟩
theorem lw_p59 : lw_okq (⟨"HowDeepModel", "isRule", "(I)Z"⟩, 62) := ⟨⟨by decide +kernel, by decide +kernel⟩, List.mem_of_getElem? (i := 1164) (by decide +kernel), List.mem_of_getElem? (i := 1597) (by decide +kernel), List.mem_of_getElem? (i := 1598) (by decide +kernel)⟩
theorem lw_p60 : lw_okq (⟨"HowDeepModel", "means", "(II)V"⟩, 62) := ⟨⟨by decide +kernel, by decide +kernel⟩, List.mem_of_getElem? (i := 1164) (by decide +kernel), List.mem_of_getElem? (i := 1605) (by decide +kernel), List.mem_of_getElem? (i := 1606) (by decide +kernel)⟩
theorem lw_p61 : lw_okq (⟨"HowDeepModel", "digs", "(IIIIJI)V"⟩, 62) := ⟨⟨by decide +kernel, by decide +kernel⟩, List.mem_of_getElem? (i := 1164) (by decide +kernel), List.mem_of_getElem? (i := 1609) (by decide +kernel), List.mem_of_getElem? (i := 1610) (by decide +kernel)⟩
theorem lw_p62 : lw_okq (⟨"HowDeepModel", "doesDig", "(IIII)Z"⟩, 62) := ⟨⟨by decide +kernel, by decide +kernel⟩, List.mem_of_getElem? (i := 1164) (by decide +kernel), List.mem_of_getElem? (i := 1613) (by decide +kernel), List.mem_of_getElem? (i := 1614) (by decide +kernel)⟩
theorem lw_p63 : lw_okq (⟨"HowDeepModel", "boreOf", "(II)J"⟩, 62) := ⟨⟨by decide +kernel, by decide +kernel⟩, List.mem_of_getElem? (i := 1164) (by decide +kernel), List.mem_of_getElem? (i := 1630) (by decide +kernel), List.mem_of_getElem? (i := 1631) (by decide +kernel)⟩
def lw_privs_4 : List (MethodName × Nat) := [(⟨"HowDeepModel", "thinks", "(I)Z"⟩, 62), (⟨"HowDeepModel", "begins", "(II)V"⟩, 62), (⟨"HowDeepModel", "dries", "(III)J"⟩, 62), (⟨"HowDeepModel", "below", "(IJ)V"⟩, 62), (⟨"HowDeepModel", "allBelow", "(I)I"⟩, 62), (⟨"HowDeepModel", "wetOf", "(II)J"⟩, 62), (⟨"HowDeepModel", "goesHere", "(I)Z"⟩, 62), (⟨"HowDeepModel", "valueOf", "(II)J"⟩, 62), (⟨"HowDeepModel", "goesOn", "(II)J"⟩, 62), (⟨"HowDeepModel", "worthOf", "(I)J"⟩, 62), (⟨"HowDeepModel", "indexOf", "(I)I"⟩, 62), (⟨"HowDeepModel", "isRule", "(I)Z"⟩, 62), (⟨"HowDeepModel", "means", "(II)V"⟩, 62), (⟨"HowDeepModel", "digs", "(IIIIJI)V"⟩, 62), (⟨"HowDeepModel", "doesDig", "(IIII)Z"⟩, 62), (⟨"HowDeepModel", "boreOf", "(II)J"⟩, 62)]
theorem lw_r4 : ∀ q ∈ lw_privs_4, lw_okq q := List.forall_mem_cons.mpr ⟨lw_p48, List.forall_mem_cons.mpr ⟨lw_p49, List.forall_mem_cons.mpr ⟨lw_p50, List.forall_mem_cons.mpr ⟨lw_p51, List.forall_mem_cons.mpr ⟨lw_p52, List.forall_mem_cons.mpr ⟨lw_p53, List.forall_mem_cons.mpr ⟨lw_p54, List.forall_mem_cons.mpr ⟨lw_p55, List.forall_mem_cons.mpr ⟨lw_p56, List.forall_mem_cons.mpr ⟨lw_p57, List.forall_mem_cons.mpr ⟨lw_p58, List.forall_mem_cons.mpr ⟨lw_p59, List.forall_mem_cons.mpr ⟨lw_p60, List.forall_mem_cons.mpr ⟨lw_p61, List.forall_mem_cons.mpr ⟨lw_p62, List.forall_mem_cons.mpr ⟨lw_p63, fun _ h => absurd h List.not_mem_nil⟩⟩⟩⟩⟩⟩⟩⟩⟩⟩⟩⟩⟩⟩⟩⟩
theorem lw_p64 : lw_okq (⟨"HowDeepModel", "tells", "(IIII)J"⟩, 62) := ⟨⟨by decide +kernel, by decide +kernel⟩, List.mem_of_getElem? (i := 1164) (by decide +kernel), List.mem_of_getElem? (i := 1634) (by decide +kernel), List.mem_of_getElem? (i := 1635) (by decide +kernel)⟩
theorem lw_p65 : lw_okq (⟨"HowDeepModel", "divines", "(II)J"⟩, 62) := ⟨⟨by decide +kernel, by decide +kernel⟩, List.mem_of_getElem? (i := 1164) (by decide +kernel), List.mem_of_getElem? (i := 1646) (by decide +kernel), List.mem_of_getElem? (i := 1647) (by decide +kernel)⟩
theorem lw_p66 : lw_okq (⟨"HowDeepModel", "fallen", "(II)J"⟩, 62) := ⟨⟨by decide +kernel, by decide +kernel⟩, List.mem_of_getElem? (i := 1164) (by decide +kernel), List.mem_of_getElem? (i := 1658) (by decide +kernel), List.mem_of_getElem? (i := 1659) (by decide +kernel)⟩
theorem lw_p67 : lw_okq (⟨"HowDeepModel", "costsTo", "(I)I"⟩, 62) := ⟨⟨by decide +kernel, by decide +kernel⟩, List.mem_of_getElem? (i := 1164) (by decide +kernel), List.mem_of_getElem? (i := 1666) (by decide +kernel), List.mem_of_getElem? (i := 1667) (by decide +kernel)⟩
theorem lw_p68 : lw_okq (⟨"HowDeepModel", "findsWell", "(I)V"⟩, 62) := ⟨⟨by decide +kernel, by decide +kernel⟩, List.mem_of_getElem? (i := 1164) (by decide +kernel), List.mem_of_getElem? (i := 1678) (by decide +kernel), List.mem_of_getElem? (i := 1679) (by decide +kernel)⟩
theorem lw_p69 : lw_okq (⟨"HowDeepModel", "partsOf", "(II)I"⟩, 62) := ⟨⟨by decide +kernel, by decide +kernel⟩, List.mem_of_getElem? (i := 1164) (by decide +kernel), List.mem_of_getElem? (i := 1687) (by decide +kernel), List.mem_of_getElem? (i := 1688) (by decide +kernel)⟩
theorem lw_p70 : lw_okq (⟨"HowDeepModel", "learns", "(I)J"⟩, 62) := ⟨⟨by decide +kernel, by decide +kernel⟩, List.mem_of_getElem? (i := 1164) (by decide +kernel), List.mem_of_getElem? (i := 1695) (by decide +kernel), List.mem_of_getElem? (i := 1696) (by decide +kernel)⟩
theorem lw_p71 : lw_okq (⟨"HowDeepModel", "drawsLayer", "(III)I"⟩, 62) := ⟨⟨by decide +kernel, by decide +kernel⟩, List.mem_of_getElem? (i := 1164) (by decide +kernel), List.mem_of_getElem? (i := 1708) (by decide +kernel), List.mem_of_getElem? (i := 1709) (by decide +kernel)⟩
theorem lw_p72 : lw_okq (⟨"HowDeepModel", "draws", "(I)I"⟩, 62) := ⟨⟨by decide +kernel, by decide +kernel⟩, List.mem_of_getElem? (i := 1164) (by decide +kernel), List.mem_of_getElem? (i := 1712) (by decide +kernel), List.mem_of_getElem? (i := 1713) (by decide +kernel)⟩
def lw_privs_5 : List (MethodName × Nat) := [(⟨"HowDeepModel", "tells", "(IIII)J"⟩, 62), (⟨"HowDeepModel", "divines", "(II)J"⟩, 62), (⟨"HowDeepModel", "fallen", "(II)J"⟩, 62), (⟨"HowDeepModel", "costsTo", "(I)I"⟩, 62), (⟨"HowDeepModel", "findsWell", "(I)V"⟩, 62), (⟨"HowDeepModel", "partsOf", "(II)I"⟩, 62), (⟨"HowDeepModel", "learns", "(I)J"⟩, 62), (⟨"HowDeepModel", "drawsLayer", "(III)I"⟩, 62), (⟨"HowDeepModel", "draws", "(I)I"⟩, 62)]
theorem lw_r5 : ∀ q ∈ lw_privs_5, lw_okq q := List.forall_mem_cons.mpr ⟨lw_p64, List.forall_mem_cons.mpr ⟨lw_p65, List.forall_mem_cons.mpr ⟨lw_p66, List.forall_mem_cons.mpr ⟨lw_p67, List.forall_mem_cons.mpr ⟨lw_p68, List.forall_mem_cons.mpr ⟨lw_p69, List.forall_mem_cons.mpr ⟨lw_p70, List.forall_mem_cons.mpr ⟨lw_p71, List.forall_mem_cons.mpr ⟨lw_p72, fun _ h => absurd h List.not_mem_nil⟩⟩⟩⟩⟩⟩⟩⟩⟩
def lw_privs : List (MethodName × Nat) := lw_privs_1 ++ (lw_privs_2 ++ (lw_privs_3 ++ (lw_privs_4 ++ (lw_privs_5))))
def lw_tbl : List Cond := k2_sels lw_privs ++ tables_1
theorem lw_privs_ok : ∀ q ∈ lw_privs, lw_okq q := by
  show ∀ q ∈ lw_privs_1 ++ (lw_privs_2 ++ (lw_privs_3 ++ (lw_privs_4 ++ (lw_privs_5)))), lw_okq q
  exact List.forall_mem_append.mpr ⟨lw_r1, List.forall_mem_append.mpr ⟨lw_r2, List.forall_mem_append.mpr ⟨lw_r3, List.forall_mem_append.mpr ⟨lw_r4, lw_r5⟩⟩⟩⟩
/-! ===== BEGIN words of one list among another's, by their places ===== -/
theorem goodIn_r {big : List Cond} (ws : List Cond) (ps : List Nat) (hp : ws = ps.filterMap (fun i => big[i]?)) (h : ws.all goodWord = true) : GoodIn big ws := by
  intro w hw
  have h1 := List.all_eq_true.mp h w hw
  rw [hp] at hw
  obtain ⟨i, -, hi⟩ := List.mem_filterMap.mp hw
  have hm : w ∈ big := by first | exact List.mem_of_getElem? hi | exact List.getElem?_mem hi
  exact ⟨hm, good_of_word h1⟩
theorem goodIn_app {big a b : List Cond} (ha : GoodIn big a) (hb : GoodIn big b) : GoodIn big (a ++ b) := fun w h => (List.mem_append.mp h).elim (ha w) (hb w)
theorem goodIn_ca {big a b : List Cond} {c : Cond} (ha : GoodIn big (c :: a)) (hb : GoodIn big b) : GoodIn big (c :: (a ++ b)) := fun w h => (List.mem_cons.mp h).elim (fun e => ha w (List.mem_cons.mpr (Or.inl e))) (fun h => (List.mem_append.mp h).elim (fun h => ha w (List.mem_cons.mpr (Or.inr h))) (hb w))
theorem goodIn_sub {big ws : List Cond} (hm : ∀ w ∈ ws, w ∈ big) (h : ws.all goodWord = true) : GoodIn big ws := fun w hw => ⟨hm w hw, good_of_word (List.all_eq_true.mp h w hw)⟩
/-! ===== END ===== -/

def RX0 : String := "HowDeep$Digging"
def TX0 : u_T := fun k => match k with
  | 0 => ("HowDeep$Digging", "mind", "LHowDeep$Mind;", true)
  | 1 => ("HowDeep$Digging", "rules", "LHowDeep$Rules;", true)
  | 2 => ("HowDeep$Digging", "lot", "J", false)
  | 3 => ("HowDeep$Digging", "costs", "I", false)
  | 4 => ("HowDeep$Digging", "waterAt", "I", false)
  | _ => ("HowDeep$Digging", "dug", "I", false)
def tyX0 : Nat → FieldType := fun k => match k with
  | 0 => .object "HowDeep$Mind"
  | 1 => .object "HowDeep$Rules"
  | 2 => .long
  | 3 => .int
  | 4 => .int
  | _ => .int
abbrev wsX00 : List Cond := u_ws RX0 TX0 6
theorem nmX0 : ∀ a, a < 6 → ∀ b, b < 6 → a ≠ b → (TX0 a).2.1 ≠ (TX0 b).2.1 := by decide +kernel
theorem tyX0_ok : ∀ k, k < 6 → parseFieldDescriptor (TX0 k).2.2.1 = some (tyX0 k) := by decide +kernel
abbrev cX0_init : ByteArray := prog_2_method_1_code
def yX0_init : MethodName := ⟨RX0, "<init>", "(LHowDeep$Mind;LHowDeep$Rules;)V"⟩
abbrev cX0_work : ByteArray := prog_2_method_2_code
def yX0_work : MethodName := ⟨RX0, "work", "(III)V"⟩
abbrev cX0_lots : ByteArray := prog_2_method_3_code
def yX0_lots : MethodName := ⟨RX0, "lots", "()J"⟩
abbrev cX0_pick : ByteArray := prog_2_method_4_code
def yX0_pick : MethodName := ⟨RX0, "pick", "([III)I"⟩
def RX1 : String := "HowDeep$Farms"
def TX1 : u_T := fun k => match k with
  | 0 => ("HowDeep$Farms", "places", "[I", true)
  | 1 => ("HowDeep$Farms", "needs", "[I", true)
  | _ => ("HowDeep$Farms", "size", "I", false)
def tyX1 : Nat → FieldType := fun k => match k with
  | 0 => .array .int
  | 1 => .array .int
  | _ => .int
abbrev wsX10 : List Cond := u_ws RX1 TX1 3
theorem nmX1 : ∀ a, a < 3 → ∀ b, b < 3 → a ≠ b → (TX1 a).2.1 ≠ (TX1 b).2.1 := by decide +kernel
theorem tyX1_ok : ∀ k, k < 3 → parseFieldDescriptor (TX1 k).2.2.1 = some (tyX1 k) := by decide +kernel
abbrev cX1_init : ByteArray := prog_3_method_1_code
def yX1_init : MethodName := ⟨RX1, "<init>", "()V"⟩
abbrev cX1_settle : ByteArray := prog_3_method_2_code
def yX1_settle : MethodName := ⟨RX1, "settle", "(II)I"⟩
abbrev cX1_all : ByteArray := prog_3_method_3_code
def yX1_all : MethodName := ⟨RX1, "all", "()I"⟩
abbrev cX1_has : ByteArray := prog_3_method_4_code
def yX1_has : MethodName := ⟨RX1, "has", "(II)Z"⟩
abbrev cX1_walk : ByteArray := prog_3_method_5_code
def yX1_walk : MethodName := ⟨RX1, "walk", "(II)I"⟩
abbrev cX1_wellOf : ByteArray := prog_3_method_6_code
def yX1_wellOf : MethodName := ⟨RX1, "wellOf", "(I)I"⟩
abbrev cX1_leaving : ByteArray := prog_3_method_7_code
def yX1_leaving : MethodName := ⟨RX1, "leaving", "([II)I"⟩
abbrev cX1_given : ByteArray := prog_3_method_8_code
def yX1_given : MethodName := ⟨RX1, "given", "([II)I"⟩
def RX2 : String := "HowDeep$Ground"
def TX2 : u_T := fun k => match k with
  | 0 => ("HowDeep$Ground", "bases", "[I", true)
  | 1 => ("HowDeep$Ground", "salts", "[I", true)
  | 2 => ("HowDeep$Ground", "signs", "[I", true)
  | 3 => ("HowDeep$Ground", "follows", "[[I", true)
  | 4 => ("HowDeep$Ground", "allBelow", "[I", true)
  | 5 => ("HowDeep$Ground", "settings", "[I", true)
  | _ => ("HowDeep$Ground", "layers", "I", false)
def tyX2 : Nat → FieldType := fun k => match k with
  | 0 => .array .int
  | 1 => .array .int
  | 2 => .array .int
  | 3 => .array (.array .int)
  | 4 => .array .int
  | 5 => .array .int
  | _ => .int
abbrev wsX20 : List Cond := u_ws RX2 TX2 7
theorem nmX2 : ∀ a, a < 7 → ∀ b, b < 7 → a ≠ b → (TX2 a).2.1 ≠ (TX2 b).2.1 := by decide +kernel
theorem tyX2_ok : ∀ k, k < 7 → parseFieldDescriptor (TX2 k).2.2.1 = some (tyX2 k) := by decide +kernel
abbrev cX2_init : ByteArray := prog_4_method_1_code
def yX2_init : MethodName := ⟨RX2, "<init>", "()V"⟩
abbrev cX2_lay : ByteArray := prog_4_method_2_code
def yX2_lay : MethodName := ⟨RX2, "lay", "(III)I"⟩
abbrev cX2_deepest : ByteArray := prog_4_method_3_code
def yX2_deepest : MethodName := ⟨RX2, "deepest", "()I"⟩
abbrev cX2_worth : ByteArray := prog_4_method_4_code
def yX2_worth : MethodName := ⟨RX2, "worth", "()I"⟩
abbrev cX2_goodOf : ByteArray := prog_4_method_5_code
def yX2_goodOf : MethodName := ⟨RX2, "goodOf", "(II)I"⟩
abbrev cX2_reweigh : ByteArray := prog_4_method_6_code
def yX2_reweigh : MethodName := ⟨RX2, "reweigh", "(III)I"⟩
def RX3 : String := "HowDeep$Image"
def TX3 : u_T := fun k => match k with
  | 0 => ("HowDeep$Image", "ground", "LHowDeep$Ground;", true)
  | 1 => ("HowDeep$Image", "places", "LHowDeep$Places;", true)
  | 2 => ("HowDeep$Image", "settings", "[I", true)
  | 3 => ("HowDeep$Image", "follows", "[[I", true)
  | 4 => ("HowDeep$Image", "signs", "[[I", true)
  | 5 => ("HowDeep$Image", "dry", "[I", true)
  | 6 => ("HowDeep$Image", "water", "[Z", true)
  | 7 => ("HowDeep$Image", "tied", "[[I", true)
  | 8 => ("HowDeep$Image", "layers", "I", false)
  | 9 => ("HowDeep$Image", "size", "I", false)
  | 10 => ("HowDeep$Image", "law", "I", false)
  | _ => ("HowDeep$Image", "isThere", "Z", false)
def tyX3 : Nat → FieldType := fun k => match k with
  | 0 => .object "HowDeep$Ground"
  | 1 => .object "HowDeep$Places"
  | 2 => .array .int
  | 3 => .array (.array .int)
  | 4 => .array (.array .int)
  | 5 => .array .int
  | 6 => .array .boolean
  | 7 => .array (.array .int)
  | 8 => .int
  | 9 => .int
  | 10 => .int
  | _ => .boolean
abbrev wsX30 : List Cond := u_ws RX3 TX3 12
theorem nmX3 : ∀ a, a < 12 → ∀ b, b < 12 → a ≠ b → (TX3 a).2.1 ≠ (TX3 b).2.1 := by decide +kernel
theorem tyX3_ok : ∀ k, k < 12 → parseFieldDescriptor (TX3 k).2.2.1 = some (tyX3 k) := by decide +kernel
abbrev cX3_init : ByteArray := prog_5_method_1_code
def yX3_init : MethodName := ⟨RX3, "<init>", "(LHowDeep$Ground;LHowDeep$Places;)V"⟩
abbrev cX3_keep : ByteArray := prog_5_method_2_code
def yX3_keep : MethodName := ⟨RX3, "keep", "(I)V"⟩
abbrev cX3_restore : ByteArray := prog_5_method_3_code
def yX3_restore : MethodName := ⟨RX3, "restore", "()V"⟩
abbrev cX3_carry : ByteArray := prog_5_method_4_code
def yX3_carry : MethodName := ⟨RX3, "carry", "([[I[[II)V"⟩
def RX4 : String := "HowDeep$Laws"
def TX4 : u_T := fun k => match k with
  | 0 => ("HowDeep$Laws", "ground", "LHowDeep$Ground;", true)
  | 1 => ("HowDeep$Laws", "reader", "LHowDeep$Reader;", true)
  | 2 => ("HowDeep$Laws", "codes", "[[I", true)
  | 3 => ("HowDeep$Laws", "starts", "[[I", true)
  | 4 => ("HowDeep$Laws", "costs", "[I", true)
  | 5 => ("HowDeep$Laws", "waters", "[[I", true)
  | 6 => ("HowDeep$Laws", "falls", "[[I", true)
  | 7 => ("HowDeep$Laws", "named", "[I", true)
  | 8 => ("HowDeep$Laws", "stack", "[I", true)
  | 9 => ("HowDeep$Laws", "size", "I", false)
  | _ => ("HowDeep$Laws", "inForce", "I", false)
def tyX4 : Nat → FieldType := fun k => match k with
  | 0 => .object "HowDeep$Ground"
  | 1 => .object "HowDeep$Reader"
  | 2 => .array (.array .int)
  | 3 => .array (.array .int)
  | 4 => .array .int
  | 5 => .array (.array .int)
  | 6 => .array (.array .int)
  | 7 => .array .int
  | 8 => .array .int
  | 9 => .int
  | _ => .int
abbrev wsX40 : List Cond := u_ws RX4 TX4 11
theorem nmX4 : ∀ a, a < 11 → ∀ b, b < 11 → a ≠ b → (TX4 a).2.1 ≠ (TX4 b).2.1 := by decide +kernel
theorem tyX4_ok : ∀ k, k < 11 → parseFieldDescriptor (TX4 k).2.2.1 = some (tyX4 k) := by decide +kernel
abbrev cX4_init : ByteArray := prog_6_method_1_code
def yX4_init : MethodName := ⟨RX4, "<init>", "(LHowDeep$Ground;)V"⟩
abbrev cX4_readTape : ByteArray := prog_6_method_2_code
def yX4_readTape : MethodName := ⟨RX4, "readTape", "()I"⟩
abbrev cX4_weigh : ByteArray := prog_6_method_3_code
def yX4_weigh : MethodName := ⟨RX4, "weigh", "()V"⟩
abbrev cX4_weighLayers : ByteArray := prog_6_method_4_code
def yX4_weighLayers : MethodName := ⟨RX4, "weighLayers", "([I)V"⟩
abbrev cX4_part : ByteArray := prog_6_method_5_code
def yX4_part : MethodName := ⟨RX4, "part", "(II)I"⟩
abbrev cX4_worked : ByteArray := prog_6_method_6_code
def yX4_worked : MethodName := ⟨RX4, "worked", "([II)I"⟩
abbrev cX4_valueOf : ByteArray := prog_6_method_7_code
def yX4_valueOf : MethodName := ⟨RX4, "valueOf", "(I)I"⟩
abbrev cX4_turned : ByteArray := prog_6_method_8_code
def yX4_turned : MethodName := ⟨RX4, "turned", "(II)I"⟩
abbrev cX4_joined : ByteArray := prog_6_method_9_code
def yX4_joined : MethodName := ⟨RX4, "joined", "(III)I"⟩
abbrev cX4_truth : ByteArray := prog_6_method_10_code
def yX4_truth : MethodName := ⟨RX4, "truth", "(Z)I"⟩
abbrev cX4_costsOf : ByteArray := prog_6_method_11_code
def yX4_costsOf : MethodName := ⟨RX4, "costsOf", "(I)I"⟩
abbrev cX4_fallen : ByteArray := prog_6_method_12_code
def yX4_fallen : MethodName := ⟨RX4, "fallen", "(II)J"⟩
abbrev cX4_bestLining : ByteArray := prog_6_method_13_code
def yX4_bestLining : MethodName := ⟨RX4, "bestLining", "(I)I"⟩
def RX5 : String := "HowDeep$Ledger"
def TX5 : u_T := fun k => match k with
  | 0 => ("HowDeep$Ledger", "mind", "LHowDeep$Mind;", true)
  | 1 => ("HowDeep$Ledger", "rules", "LHowDeep$Rules;", true)
  | 2 => ("HowDeep$Ledger", "rule", "I", false)
  | 3 => ("HowDeep$Ledger", "spent", "J", false)
  | 4 => ("HowDeep$Ledger", "water", "J", false)
  | 5 => ("HowDeep$Ledger", "ruin", "J", false)
  | _ => ("HowDeep$Ledger", "good", "J", false)
def tyX5 : Nat → FieldType := fun k => match k with
  | 0 => .object "HowDeep$Mind"
  | 1 => .object "HowDeep$Rules"
  | 2 => .int
  | 3 => .long
  | 4 => .long
  | 5 => .long
  | _ => .long
abbrev wsX50 : List Cond := u_ws RX5 TX5 7
theorem nmX5 : ∀ a, a < 7 → ∀ b, b < 7 → a ≠ b → (TX5 a).2.1 ≠ (TX5 b).2.1 := by decide +kernel
theorem tyX5_ok : ∀ k, k < 7 → parseFieldDescriptor (TX5 k).2.2.1 = some (tyX5 k) := by decide +kernel
abbrev cX5_init : ByteArray := prog_7_method_1_code
def yX5_init : MethodName := ⟨RX5, "<init>", "(LHowDeep$Mind;LHowDeep$Rules;)V"⟩
abbrev cX5_reckon : ByteArray := prog_7_method_2_code
def yX5_reckon : MethodName := ⟨RX5, "reckon", "(II)V"⟩
abbrev cX5_descend : ByteArray := prog_7_method_3_code
def yX5_descend : MethodName := ⟨RX5, "descend", "(IIJI)V"⟩
abbrev cX5_find : ByteArray := prog_7_method_4_code
def yX5_find : MethodName := ⟨RX5, "find", "(IJI)V"⟩
def RX6 : String := "HowDeep$Mind"
def TX6 : u_T := fun k => match k with
  | 0 => ("HowDeep$Mind", "ground", "LHowDeep$Ground;", true)
  | 1 => ("HowDeep$Mind", "laws", "LHowDeep$Laws;", true)
  | 2 => ("HowDeep$Mind", "places", "LHowDeep$Places;", true)
  | 3 => ("HowDeep$Mind", "thought", "[[J", true)
  | 4 => ("HowDeep$Mind", "dry", "[J", true)
  | 5 => ("HowDeep$Mind", "mine", "[J", true)
  | _ => ("HowDeep$Mind", "theirs", "[J", true)
def tyX6 : Nat → FieldType := fun k => match k with
  | 0 => .object "HowDeep$Ground"
  | 1 => .object "HowDeep$Laws"
  | 2 => .object "HowDeep$Places"
  | 3 => .array (.array .long)
  | 4 => .array .long
  | 5 => .array .long
  | _ => .array .long
abbrev wsX60 : List Cond := u_ws RX6 TX6 7
theorem nmX6 : ∀ a, a < 7 → ∀ b, b < 7 → a ≠ b → (TX6 a).2.1 ≠ (TX6 b).2.1 := by decide +kernel
theorem tyX6_ok : ∀ k, k < 7 → parseFieldDescriptor (TX6 k).2.2.1 = some (tyX6 k) := by decide +kernel
abbrev cX6_init : ByteArray := prog_8_method_1_code
def yX6_init : MethodName := ⟨RX6, "<init>", "(LHowDeep$Ground;LHowDeep$Laws;LHowDeep$Places;)V"⟩
abbrev cX6_begin : ByteArray := prog_8_method_2_code
def yX6_begin : MethodName := ⟨RX6, "begin", "(I)V"⟩
abbrev cX6_nextYard : ByteArray := prog_8_method_3_code
def yX6_nextYard : MethodName := ⟨RX6, "nextYard", "(I)I"⟩
abbrev cX6_openYard : ByteArray := prog_8_method_4_code
def yX6_openYard : MethodName := ⟨RX6, "openYard", "(I)I"⟩
abbrev cX6_pass : ByteArray := prog_8_method_5_code
def yX6_pass : MethodName := ⟨RX6, "pass", "(II)J"⟩
abbrev cX6_dryWith : ByteArray := prog_8_method_6_code
def yX6_dryWith : MethodName := ⟨RX6, "dryWith", "([JII)J"⟩
abbrev cX6_sink : ByteArray := prog_8_method_7_code
def yX6_sink : MethodName := ⟨RX6, "sink", "([J)V"⟩
abbrev cX6_wetOf : ByteArray := prog_8_method_8_code
def yX6_wetOf : MethodName := ⟨RX6, "wetOf", "(II)J"⟩
abbrev cX6_wet : ByteArray := prog_8_method_9_code
def yX6_wet : MethodName := ⟨RX6, "wet", "(I)J"⟩
abbrev cX6_gain : ByteArray := prog_8_method_10_code
def yX6_gain : MethodName := ⟨RX6, "gain", "(III)J"⟩
abbrev cX6_goingOn : ByteArray := prog_8_method_11_code
def yX6_goingOn : MethodName := ⟨RX6, "goingOn", "(II)J"⟩
abbrev cX6_worthOf : ByteArray := prog_8_method_12_code
def yX6_worthOf : MethodName := ⟨RX6, "worthOf", "(I)J"⟩
abbrev cX6_leastWorth : ByteArray := prog_8_method_13_code
def yX6_leastWorth : MethodName := ⟨RX6, "leastWorth", "(I)I"⟩
abbrev cX6_firstWrong : ByteArray := prog_8_method_14_code
def yX6_firstWrong : MethodName := ⟨RX6, "firstWrong", "(I[II)I"⟩
abbrev cX6_chanceOf : ByteArray := prog_8_method_15_code
def yX6_chanceOf : MethodName := ⟨RX6, "chanceOf", "(I[II)J"⟩
abbrev cX6_toldBy : ByteArray := prog_8_method_16_code
def yX6_toldBy : MethodName := ⟨RX6, "toldBy", "(III)J"⟩
abbrev cX6_boreWorth : ByteArray := prog_8_method_17_code
def yX6_boreWorth : MethodName := ⟨RX6, "boreWorth", "(II)J"⟩
abbrev cX6_bestBore : ByteArray := prog_8_method_18_code
def yX6_bestBore : MethodName := ⟨RX6, "bestBore", "(II)I"⟩
abbrev cX6_wordWorth : ByteArray := prog_8_method_19_code
def yX6_wordWorth : MethodName := ⟨RX6, "wordWorth", "(II)J"⟩
abbrev cX6_leastRight : ByteArray := prog_8_method_20_code
def yX6_leastRight : MethodName := ⟨RX6, "leastRight", "(I)I"⟩
abbrev cX6_spoken : ByteArray := prog_8_method_21_code
def yX6_spoken : MethodName := ⟨RX6, "spoken", "(JJJJI)J"⟩
abbrev cX6_heeded : ByteArray := prog_8_method_22_code
def yX6_heeded : MethodName := ⟨RX6, "heeded", "(JJJJI)J"⟩
abbrev cX6_learning : ByteArray := prog_8_method_23_code
def yX6_learning : MethodName := ⟨RX6, "learning", "(I)J"⟩
abbrev cX6_teaches : ByteArray := prog_8_method_24_code
def yX6_teaches : MethodName := ⟨RX6, "teaches", "(II)J"⟩
abbrev cX6_mix : ByteArray := prog_8_method_25_code
def yX6_mix : MethodName := ⟨RX6, "mix", "(I)V"⟩
def RX7 : String := "HowDeep$Places"
def TX7 : u_T := fun k => match k with
  | 0 => ("HowDeep$Places", "firsts", "[[I", true)
  | 1 => ("HowDeep$Places", "signs", "[[I", true)
  | 2 => ("HowDeep$Places", "dry", "[I", true)
  | 3 => ("HowDeep$Places", "water", "[Z", true)
  | 4 => ("HowDeep$Places", "tied", "[[I", true)
  | _ => ("HowDeep$Places", "size", "I", false)
def tyX7 : Nat → FieldType := fun k => match k with
  | 0 => .array (.array .int)
  | 1 => .array (.array .int)
  | 2 => .array .int
  | 3 => .array .boolean
  | 4 => .array (.array .int)
  | _ => .int
abbrev wsX70 : List Cond := u_ws RX7 TX7 6
theorem nmX7 : ∀ a, a < 6 → ∀ b, b < 6 → a ≠ b → (TX7 a).2.1 ≠ (TX7 b).2.1 := by decide +kernel
theorem tyX7_ok : ∀ k, k < 6 → parseFieldDescriptor (TX7 k).2.2.1 = some (tyX7 k) := by decide +kernel
abbrev cX7_init : ByteArray := prog_9_method_1_code
def yX7_init : MethodName := ⟨RX7, "<init>", "()V"⟩
abbrev cX7_found : ByteArray := prog_9_method_2_code
def yX7_found : MethodName := ⟨RX7, "found", "([II)I"⟩
abbrev cX7_deepen : ByteArray := prog_9_method_3_code
def yX7_deepen : MethodName := ⟨RX7, "deepen", "(II)I"⟩
abbrev cX7_signOf : ByteArray := prog_9_method_4_code
def yX7_signOf : MethodName := ⟨RX7, "signOf", "(II)I"⟩
abbrev cX7_allFirst : ByteArray := prog_9_method_5_code
def yX7_allFirst : MethodName := ⟨RX7, "allFirst", "(I)I"⟩
def RX8 : String := "HowDeep$Reader"
def TX8 : u_T := fun k => match k with
  | 0 => ("HowDeep$Reader", "tape", "[I", true)
  | 1 => ("HowDeep$Reader", "codes", "[I", true)
  | 2 => ("HowDeep$Reader", "starts", "[I", true)
  | 3 => ("HowDeep$Reader", "taped", "I", false)
  | 4 => ("HowDeep$Reader", "used", "I", false)
  | 5 => ("HowDeep$Reader", "place", "I", false)
  | 6 => ("HowDeep$Reader", "start", "I", false)
  | 7 => ("HowDeep$Reader", "token", "I", false)
  | _ => ("HowDeep$Reader", "value", "I", false)
def tyX8 : Nat → FieldType := fun k => match k with
  | 0 => .array .int
  | 1 => .array .int
  | 2 => .array .int
  | 3 => .int
  | 4 => .int
  | 5 => .int
  | 6 => .int
  | 7 => .int
  | _ => .int
abbrev wsX80 : List Cond := u_ws RX8 TX8 9
theorem nmX8 : ∀ a, a < 9 → ∀ b, b < 9 → a ≠ b → (TX8 a).2.1 ≠ (TX8 b).2.1 := by decide +kernel
theorem tyX8_ok : ∀ k, k < 9 → parseFieldDescriptor (TX8 k).2.2.1 = some (tyX8 k) := by decide +kernel
abbrev cX8_init : ByteArray := prog_10_method_1_code
def yX8_init : MethodName := ⟨RX8, "<init>", "()V"⟩
abbrev cX8_record : ByteArray := prog_10_method_2_code
def yX8_record : MethodName := ⟨RX8, "record", "(JI)I"⟩
abbrev cX8_readsText : ByteArray := prog_10_method_3_code
def yX8_readsText : MethodName := ⟨RX8, "readsText", "()Z"⟩
abbrev cX8_step : ByteArray := prog_10_method_4_code
def yX8_step : MethodName := ⟨RX8, "step", "()V"⟩
abbrev cX8_isLetter : ByteArray := prog_10_method_5_code
def yX8_isLetter : MethodName := ⟨RX8, "isLetter", "(I)Z"⟩
abbrev cX8_isDigit : ByteArray := prog_10_method_6_code
def yX8_isDigit : MethodName := ⟨RX8, "isDigit", "(I)Z"⟩
abbrev cX8_readNumber : ByteArray := prog_10_method_7_code
def yX8_readNumber : MethodName := ⟨RX8, "readNumber", "()V"⟩
abbrev cX8_readWord : ByteArray := prog_10_method_8_code
def yX8_readWord : MethodName := ⟨RX8, "readWord", "()V"⟩
abbrev cX8_isWord : ByteArray := prog_10_method_9_code
def yX8_isWord : MethodName := ⟨RX8, "isWord", "(I)Z"⟩
abbrev cX8_reads : ByteArray := prog_10_method_10_code
def yX8_reads : MethodName := ⟨RX8, "reads", "(II)Z"⟩
abbrev cX8_readsPart : ByteArray := prog_10_method_11_code
def yX8_readsPart : MethodName := ⟨RX8, "readsPart", "(II)Z"⟩
abbrev cX8_joins : ByteArray := prog_10_method_12_code
def yX8_joins : MethodName := ⟨RX8, "joins", "(I)Z"⟩
abbrev cX8_readsNot : ByteArray := prog_10_method_13_code
def yX8_readsNot : MethodName := ⟨RX8, "readsNot", "(I)Z"⟩
abbrev cX8_readsOne : ByteArray := prog_10_method_14_code
def yX8_readsOne : MethodName := ⟨RX8, "readsOne", "(I)Z"⟩
abbrev cX8_emit : ByteArray := prog_10_method_15_code
def yX8_emit : MethodName := ⟨RX8, "emit", "(I)V"⟩
def RX9 : String := "HowDeep$Rules"
def TX9 : u_T := fun k => match k with
  | 0 => ("HowDeep$Rules", "mind", "LHowDeep$Mind;", true)
  | 1 => ("HowDeep$Rules", "kinds", "[I", true)
  | 2 => ("HowDeep$Rules", "mores", "[I", true)
  | 3 => ("HowDeep$Rules", "stops", "[I", true)
  | _ => ("HowDeep$Rules", "size", "I", false)
def tyX9 : Nat → FieldType := fun k => match k with
  | 0 => .object "HowDeep$Mind"
  | 1 => .array .int
  | 2 => .array .int
  | 3 => .array .int
  | _ => .int
abbrev wsX90 : List Cond := u_ws RX9 TX9 5
theorem nmX9 : ∀ a, a < 5 → ∀ b, b < 5 → a ≠ b → (TX9 a).2.1 ≠ (TX9 b).2.1 := by decide +kernel
theorem tyX9_ok : ∀ k, k < 5 → parseFieldDescriptor (TX9 k).2.2.1 = some (tyX9 k) := by decide +kernel
abbrev cX9_init : ByteArray := prog_11_method_1_code
def yX9_init : MethodName := ⟨RX9, "<init>", "(LHowDeep$Mind;)V"⟩
abbrev cX9_make : ByteArray := prog_11_method_2_code
def yX9_make : MethodName := ⟨RX9, "make", "(III)I"⟩
abbrev cX9_isOne : ByteArray := prog_11_method_3_code
def yX9_isOne : MethodName := ⟨RX9, "isOne", "(II)Z"⟩
abbrev cX9_goesOn : ByteArray := prog_11_method_4_code
def yX9_goesOn : MethodName := ⟨RX9, "goesOn", "(III)Z"⟩
def RX10 : String := "HowDeep$Sheets"
def TX10 : u_T := fun k => match k with
  | 0 => ("HowDeep$Sheets", "numbers", "[[I", true)
  | 1 => ("HowDeep$Sheets", "sorts", "[I", true)
  | _ => ("HowDeep$Sheets", "sizes", "[I", true)
def tyX10 : Nat → FieldType := fun k => match k with
  | 0 => .array (.array .int)
  | 1 => .array .int
  | _ => .array .int
abbrev wsX100 : List Cond := u_ws RX10 TX10 3
theorem nmX10 : ∀ a, a < 3 → ∀ b, b < 3 → a ≠ b → (TX10 a).2.1 ≠ (TX10 b).2.1 := by decide +kernel
theorem tyX10_ok : ∀ k, k < 3 → parseFieldDescriptor (TX10 k).2.2.1 = some (tyX10 k) := by decide +kernel
abbrev cX10_init : ByteArray := prog_12_method_1_code
def yX10_init : MethodName := ⟨RX10, "<init>", "()V"⟩
abbrev cX10_isMissing : ByteArray := prog_12_method_2_code
def yX10_isMissing : MethodName := ⟨RX10, "isMissing", "(I)Z"⟩
abbrev cX10_lay : ByteArray := prog_12_method_3_code
def yX10_lay : MethodName := ⟨RX10, "lay", "(III)V"⟩
abbrev cX10_has : ByteArray := prog_12_method_4_code
def yX10_has : MethodName := ⟨RX10, "has", "(II)Z"⟩
abbrev cX10_holds : ByteArray := prog_12_method_5_code
def yX10_holds : MethodName := ⟨RX10, "holds", "(III)Z"⟩
abbrev cX10_write : ByteArray := prog_12_method_6_code
def yX10_write : MethodName := ⟨RX10, "write", "(III)V"⟩
abbrev cX10_allWithin : ByteArray := prog_12_method_7_code
def yX10_allWithin : MethodName := ⟨RX10, "allWithin", "(III)Z"⟩
def RX11 : String := "HowDeep"
def TX11 : u_T := fun k => match k with
  | 0 => ("HowDeep", "ground", "LHowDeep$Ground;", true)
  | 1 => ("HowDeep", "laws", "LHowDeep$Laws;", true)
  | 2 => ("HowDeep", "places", "LHowDeep$Places;", true)
  | 3 => ("HowDeep", "sheets", "LHowDeep$Sheets;", true)
  | 4 => ("HowDeep", "rules", "LHowDeep$Rules;", true)
  | 5 => ("HowDeep", "farms", "LHowDeep$Farms;", true)
  | 6 => ("HowDeep", "mind", "LHowDeep$Mind;", true)
  | 7 => ("HowDeep", "ledger", "LHowDeep$Ledger;", true)
  | 8 => ("HowDeep", "digging", "LHowDeep$Digging;", true)
  | _ => ("HowDeep", "kept", "LHowDeep$Image;", true)
def tyX11 : Nat → FieldType := fun k => match k with
  | 0 => .object "HowDeep$Ground"
  | 1 => .object "HowDeep$Laws"
  | 2 => .object "HowDeep$Places"
  | 3 => .object "HowDeep$Sheets"
  | 4 => .object "HowDeep$Rules"
  | 5 => .object "HowDeep$Farms"
  | 6 => .object "HowDeep$Mind"
  | 7 => .object "HowDeep$Ledger"
  | 8 => .object "HowDeep$Digging"
  | _ => .object "HowDeep$Image"
abbrev wsX110 : List Cond := u_ws RX11 TX11 10
theorem nmX11 : ∀ a, a < 10 → ∀ b, b < 10 → a ≠ b → (TX11 a).2.1 ≠ (TX11 b).2.1 := by decide +kernel
theorem tyX11_ok : ∀ k, k < 10 → parseFieldDescriptor (TX11 k).2.2.1 = some (tyX11 k) := by decide +kernel
abbrev cX11_init : ByteArray := prog_1_method_1_code
def yX11_init : MethodName := ⟨RX11, "<init>", "()V"⟩
abbrev cX11_within : ByteArray := prog_1_method_2_code
def yX11_within : MethodName := ⟨RX11, "within", "(III)Z"⟩
abbrev cX11_isSheet : ByteArray := prog_1_method_3_code
def yX11_isSheet : MethodName := ⟨RX11, "isSheet", "(I)Z"⟩
abbrev cX11_isLayer : ByteArray := prog_1_method_4_code
def yX11_isLayer : MethodName := ⟨RX11, "isLayer", "(I)Z"⟩
abbrev cX11_isPlace : ByteArray := prog_1_method_5_code
def yX11_isPlace : MethodName := ⟨RX11, "isPlace", "(I)Z"⟩
abbrev cX11_isRule : ByteArray := prog_1_method_6_code
def yX11_isRule : MethodName := ⟨RX11, "isRule", "(I)Z"⟩
abbrev cX11_layer : ByteArray := prog_1_method_7_code
def yX11_layer : MethodName := ⟨RX11, "layer", "(III)I"⟩
abbrev cX11_newLayer : ByteArray := prog_1_method_8_code
def yX11_newLayer : MethodName := ⟨RX11, "newLayer", "(III)I"⟩
abbrev cX11_follow : ByteArray := prog_1_method_9_code
def yX11_follow : MethodName := ⟨RX11, "follow", "(III)I"⟩
abbrev cX11_set : ByteArray := prog_1_method_10_code
def yX11_set : MethodName := ⟨RX11, "set", "(II)I"⟩
abbrev cX11_count : ByteArray := prog_1_method_11_code
def yX11_count : MethodName := ⟨RX11, "count", "(I)I"⟩
abbrev cX11_feed : ByteArray := prog_1_method_12_code
def yX11_feed : MethodName := ⟨RX11, "feed", "(JI)I"⟩
abbrev cX11_text : ByteArray := prog_1_method_13_code
def yX11_text : MethodName := ⟨RX11, "text", "()I"⟩
abbrev cX11_force : ByteArray := prog_1_method_14_code
def yX11_force : MethodName := ⟨RX11, "force", "(I)I"⟩
abbrev cX11_asks : ByteArray := prog_1_method_15_code
def yX11_asks : MethodName := ⟨RX11, "asks", "(IIII)I"⟩
abbrev cX11_place : ByteArray := prog_1_method_16_code
def yX11_place : MethodName := ⟨RX11, "place", "(I)I"⟩
abbrev cX11_ties : ByteArray := prog_1_method_17_code
def yX11_ties : MethodName := ⟨RX11, "ties", "(III)I"⟩
abbrev cX11_dig : ByteArray := prog_1_method_18_code
def yX11_dig : MethodName := ⟨RX11, "dig", "(II)I"⟩
abbrev cX11_fill : ByteArray := prog_1_method_19_code
def yX11_fill : MethodName := ⟨RX11, "fill", "(I)I"⟩
abbrev cX11_told : ByteArray := prog_1_method_20_code
def yX11_told : MethodName := ⟨RX11, "told", "(II)I"⟩
abbrev cX11_think : ByteArray := prog_1_method_21_code
def yX11_think : MethodName := ⟨RX11, "think", "(II)J"⟩
abbrev cX11_likely : ByteArray := prog_1_method_22_code
def yX11_likely : MethodName := ⟨RX11, "likely", "(I)J"⟩
abbrev cX11_judge : ByteArray := prog_1_method_23_code
def yX11_judge : MethodName := ⟨RX11, "judge", "(II)I"⟩
abbrev cX11_row : ByteArray := prog_1_method_24_code
def yX11_row : MethodName := ⟨RX11, "row", "(II)J"⟩
abbrev cX11_best : ByteArray := prog_1_method_25_code
def yX11_best : MethodName := ⟨RX11, "best", "(I)J"⟩
abbrev cX11_back : ByteArray := prog_1_method_26_code
def yX11_back : MethodName := ⟨RX11, "back", "(I)I"⟩
abbrev cX11_index : ByteArray := prog_1_method_27_code
def yX11_index : MethodName := ⟨RX11, "index", "(I)I"⟩
abbrev cX11_next : ByteArray := prog_1_method_28_code
def yX11_next : MethodName := ⟨RX11, "next", "()I"⟩
abbrev cX11_rule : ByteArray := prog_1_method_29_code
def yX11_rule : MethodName := ⟨RX11, "rule", "(III)I"⟩
abbrev cX11_ruleTold : ByteArray := prog_1_method_30_code
def yX11_ruleTold : MethodName := ⟨RX11, "ruleTold", "(II)I"⟩
abbrev cX11_mean : ByteArray := prog_1_method_31_code
def yX11_mean : MethodName := ⟨RX11, "mean", "(III)J"⟩
abbrev cX11_right : ByteArray := prog_1_method_32_code
def yX11_right : MethodName := ⟨RX11, "right", "(I)I"⟩
abbrev cX11_goesBy : ByteArray := prog_1_method_33_code
def yX11_goesBy : MethodName := ⟨RX11, "goesBy", "(II)I"⟩
abbrev cX11_bore : ByteArray := prog_1_method_34_code
def yX11_bore : MethodName := ⟨RX11, "bore", "(II)J"⟩
abbrev cX11_far : ByteArray := prog_1_method_35_code
def yX11_far : MethodName := ⟨RX11, "far", "(II)I"⟩
abbrev cX11_diviner : ByteArray := prog_1_method_36_code
def yX11_diviner : MethodName := ⟨RX11, "diviner", "(II)J"⟩
abbrev cX11_believe : ByteArray := prog_1_method_37_code
def yX11_believe : MethodName := ⟨RX11, "believe", "(I)I"⟩
abbrev cX11_fall : ByteArray := prog_1_method_38_code
def yX11_fall : MethodName := ⟨RX11, "fall", "(II)J"⟩
abbrev cX11_line : ByteArray := prog_1_method_39_code
def yX11_line : MethodName := ⟨RX11, "line", "(I)I"⟩
abbrev cX11_farm : ByteArray := prog_1_method_40_code
def yX11_farm : MethodName := ⟨RX11, "farm", "(II)I"⟩
abbrev cX11_share : ByteArray := prog_1_method_41_code
def yX11_share : MethodName := ⟨RX11, "share", "(II)I"⟩
abbrev cX11_join : ByteArray := prog_1_method_42_code
def yX11_join : MethodName := ⟨RX11, "join", "(II)I"⟩
abbrev cX11_learn : ByteArray := prog_1_method_43_code
def yX11_learn : MethodName := ⟨RX11, "learn", "(I)J"⟩
abbrev cX11_first : ByteArray := prog_1_method_44_code
def yX11_first : MethodName := ⟨RX11, "first", "()I"⟩
abbrev cX11_drawn : ByteArray := prog_1_method_45_code
def yX11_drawn : MethodName := ⟨RX11, "drawn", "(IIII)I"⟩
abbrev cX11_image : ByteArray := prog_1_method_46_code
def yX11_image : MethodName := ⟨RX11, "image", "()I"⟩
abbrev cX11_undo : ByteArray := prog_1_method_47_code
def yX11_undo : MethodName := ⟨RX11, "undo", "()I"⟩
abbrev cX11_sheet : ByteArray := prog_1_method_48_code
def yX11_sheet : MethodName := ⟨RX11, "sheet", "(III)I"⟩
abbrev cX11_cell : ByteArray := prog_1_method_49_code
def yX11_cell : MethodName := ⟨RX11, "cell", "(III)I"⟩
abbrev cX11_copy : ByteArray := prog_1_method_50_code
def yX11_copy : MethodName := ⟨RX11, "copy", "(IIIII)I"⟩
abbrev cX11_layersBy : ByteArray := prog_1_method_51_code
def yX11_layersBy : MethodName := ⟨RX11, "layersBy", "(IIII)I"⟩
abbrev cX11_taken : ByteArray := prog_1_method_52_code
def yX11_taken : MethodName := ⟨RX11, "taken", "(II)I"⟩
def RX12 : String := "HowDeepModel"
def TX12 : u_T := fun k => match k with
  | 0 => ("HowDeepModel", "deepest", "I", false)
  | 1 => ("HowDeepModel", "prize", "I", false)
  | 2 => ("HowDeepModel", "season", "I", false)
  | 3 => ("HowDeepModel", "purse", "I", false)
  | 4 => ("HowDeepModel", "lining", "I", false)
  | 5 => ("HowDeepModel", "layers", "I", false)
  | 6 => ("HowDeepModel", "base", "[I", true)
  | 7 => ("HowDeepModel", "salt", "[I", true)
  | 8 => ("HowDeepModel", "sign", "[I", true)
  | 9 => ("HowDeepModel", "follows", "[I", true)
  | 10 => ("HowDeepModel", "places", "I", false)
  | 11 => ("HowDeepModel", "firsts", "[I", true)
  | 12 => ("HowDeepModel", "dug", "[I", true)
  | 13 => ("HowDeepModel", "hasWater", "[I", true)
  | 14 => ("HowDeepModel", "dugSign", "[I", true)
  | 15 => ("HowDeepModel", "tied", "[I", true)
  | 16 => ("HowDeepModel", "rules", "I", false)
  | 17 => ("HowDeepModel", "kind", "[I", true)
  | 18 => ("HowDeepModel", "more", "[I", true)
  | 19 => ("HowDeepModel", "stops", "[I", true)
  | 20 => ("HowDeepModel", "farms", "I", false)
  | 21 => ("HowDeepModel", "farmAt", "[I", true)
  | 22 => ("HowDeepModel", "farmNeeds", "[I", true)
  | 23 => ("HowDeepModel", "tape", "[I", true)
  | 24 => ("HowDeepModel", "taped", "I", false)
  | 25 => ("HowDeepModel", "codes", "[I", true)
  | 26 => ("HowDeepModel", "starts", "[I", true)
  | 27 => ("HowDeepModel", "texts", "I", false)
  | 28 => ("HowDeepModel", "rule", "I", false)
  | 29 => ("HowDeepModel", "hasImage", "Z", false)
  | 30 => ("HowDeepModel", "imagePlaces", "I", false)
  | 31 => ("HowDeepModel", "imageRule", "I", false)
  | 32 => ("HowDeepModel", "imageHeld", "[I", true)
  | 33 => ("HowDeepModel", "imageFollows", "[I", true)
  | 34 => ("HowDeepModel", "imageLayers", "I", false)
  | 35 => ("HowDeepModel", "imageDug", "[I", true)
  | 36 => ("HowDeepModel", "imageWater", "[I", true)
  | 37 => ("HowDeepModel", "imageSign", "[I", true)
  | 38 => ("HowDeepModel", "imageTied", "[I", true)
  | 39 => ("HowDeepModel", "sheetSort", "[I", true)
  | 40 => ("HowDeepModel", "sheetSize", "[I", true)
  | 41 => ("HowDeepModel", "cells", "[I", true)
  | 42 => ("HowDeepModel", "at", "I", false)
  | 43 => ("HowDeepModel", "begun", "I", false)
  | 44 => ("HowDeepModel", "token", "I", false)
  | 45 => ("HowDeepModel", "value", "I", false)
  | 46 => ("HowDeepModel", "words", "[J", true)
  | 47 => ("HowDeepModel", "held", "[I", true)
  | 48 => ("HowDeepModel", "heldMany", "I", false)
  | 49 => ("HowDeepModel", "opens", "I", false)
  | 50 => ("HowDeepModel", "out", "I", false)
  | 51 => ("HowDeepModel", "stack", "[I", true)
  | 52 => ("HowDeepModel", "named", "[I", true)
  | 53 => ("HowDeepModel", "thought", "[J", true)
  | 54 => ("HowDeepModel", "dry", "[J", true)
  | 55 => ("HowDeepModel", "spent", "J", false)
  | 56 => ("HowDeepModel", "watered", "J", false)
  | 57 => ("HowDeepModel", "ruined", "J", false)
  | 58 => ("HowDeepModel", "gained", "J", false)
  | 59 => ("HowDeepModel", "wellAt", "I", false)
  | 60 => ("HowDeepModel", "wellWalk", "I", false)
  | _ => ("HowDeepModel", "lot", "J", false)
def tyX12 : Nat → FieldType := fun k => match k with
  | 0 => .int
  | 1 => .int
  | 2 => .int
  | 3 => .int
  | 4 => .int
  | 5 => .int
  | 6 => .array .int
  | 7 => .array .int
  | 8 => .array .int
  | 9 => .array .int
  | 10 => .int
  | 11 => .array .int
  | 12 => .array .int
  | 13 => .array .int
  | 14 => .array .int
  | 15 => .array .int
  | 16 => .int
  | 17 => .array .int
  | 18 => .array .int
  | 19 => .array .int
  | 20 => .int
  | 21 => .array .int
  | 22 => .array .int
  | 23 => .array .int
  | 24 => .int
  | 25 => .array .int
  | 26 => .array .int
  | 27 => .int
  | 28 => .int
  | 29 => .boolean
  | 30 => .int
  | 31 => .int
  | 32 => .array .int
  | 33 => .array .int
  | 34 => .int
  | 35 => .array .int
  | 36 => .array .int
  | 37 => .array .int
  | 38 => .array .int
  | 39 => .array .int
  | 40 => .array .int
  | 41 => .array .int
  | 42 => .int
  | 43 => .int
  | 44 => .int
  | 45 => .int
  | 46 => .array .long
  | 47 => .array .int
  | 48 => .int
  | 49 => .int
  | 50 => .int
  | 51 => .array .int
  | 52 => .array .int
  | 53 => .array .long
  | 54 => .array .long
  | 55 => .long
  | 56 => .long
  | 57 => .long
  | 58 => .long
  | 59 => .int
  | 60 => .int
  | _ => .long
abbrev wsX120 : List Cond := u_ws RX12 TX12 62
theorem nmX12 : ∀ a, a < 62 → ∀ b, b < 62 → a ≠ b → (TX12 a).2.1 ≠ (TX12 b).2.1 := by decide +kernel
theorem tyX12_ok : ∀ k, k < 62 → parseFieldDescriptor (TX12 k).2.2.1 = some (tyX12 k) := by decide +kernel
abbrev cX12_init : ByteArray := prog_14_method_1_code
def yX12_init : MethodName := ⟨RX12, "<init>", "()V"⟩
abbrev cX12_first : ByteArray := prog_14_method_2_code
def yX12_first : MethodName := ⟨RX12, "first", "(IIIII)V"⟩
abbrev cX12_in : ByteArray := prog_14_method_4_code
def yX12_in : MethodName := ⟨RX12, "in", "(III)Z"⟩
abbrev cX12_isLayer : ByteArray := prog_14_method_5_code
def yX12_isLayer : MethodName := ⟨RX12, "isLayer", "(I)Z"⟩
abbrev cX12_isPlace : ByteArray := prog_14_method_6_code
def yX12_isPlace : MethodName := ⟨RX12, "isPlace", "(I)Z"⟩
abbrev cX12_isRule : ByteArray := prog_14_method_7_code
def yX12_isRule : MethodName := ⟨RX12, "isRule", "(I)Z"⟩
abbrev cX12_layer : ByteArray := prog_14_method_8_code
def yX12_layer : MethodName := ⟨RX12, "layer", "(III)I"⟩
abbrev cX12_follow : ByteArray := prog_14_method_9_code
def yX12_follow : MethodName := ⟨RX12, "follow", "(III)I"⟩
abbrev cX12_set : ByteArray := prog_14_method_10_code
def yX12_set : MethodName := ⟨RX12, "set", "(II)I"⟩
abbrev cX12_holds : ByteArray := prog_14_method_11_code
def yX12_holds : MethodName := ⟨RX12, "holds", "(II)V"⟩
abbrev cX12_count : ByteArray := prog_14_method_12_code
def yX12_count : MethodName := ⟨RX12, "count", "(I)I"⟩
abbrev cX12_feed : ByteArray := prog_14_method_13_code
def yX12_feed : MethodName := ⟨RX12, "feed", "(JI)I"⟩
abbrev cX12_letters : ByteArray := prog_14_method_14_code
def yX12_letters : MethodName := ⟨RX12, "letters", "()J"⟩
abbrev cX12_nextToken : ByteArray := prog_14_method_15_code
def yX12_nextToken : MethodName := ⟨RX12, "nextToken", "()V"⟩
abbrev cX12_rank : ByteArray := prog_14_method_16_code
def yX12_rank : MethodName := ⟨RX12, "rank", "(I)I"⟩
abbrev cX12_puts : ByteArray := prog_14_method_17_code
def yX12_puts : MethodName := ⟨RX12, "puts", "(I)V"⟩
abbrev cX12_unwinds : ByteArray := prog_14_method_18_code
def yX12_unwinds : MethodName := ⟨RX12, "unwinds", "(I)V"⟩
abbrev cX12_holds_ : ByteArray := prog_14_method_19_code
def yX12_holds_ : MethodName := ⟨RX12, "holds", "(I)V"⟩
abbrev cX12_opensOne : ByteArray := prog_14_method_20_code
def yX12_opensOne : MethodName := ⟨RX12, "opensOne", "(I)Z"⟩
abbrev cX12_between : ByteArray := prog_14_method_21_code
def yX12_between : MethodName := ⟨RX12, "between", "(I)Z"⟩
abbrev cX12_signOf : ByteArray := prog_14_method_22_code
def yX12_signOf : MethodName := ⟨RX12, "signOf", "()I"⟩
abbrev cX12_eRead : ByteArray := prog_14_method_23_code
def yX12_eRead : MethodName := ⟨RX12, "eRead", "()Z"⟩
abbrev cX12_text : ByteArray := prog_14_method_24_code
def yX12_text : MethodName := ⟨RX12, "text", "()I"⟩
abbrev cX12_two : ByteArray := prog_14_method_25_code
def yX12_two : MethodName := ⟨RX12, "two", "(III)I"⟩
abbrev cX12_worth : ByteArray := prog_14_method_26_code
def yX12_worth : MethodName := ⟨RX12, "worth", "(I)I"⟩
abbrev cX12_force : ByteArray := prog_14_method_27_code
def yX12_force : MethodName := ⟨RX12, "force", "(I)I"⟩
abbrev cX12_names : ByteArray := prog_14_method_28_code
def yX12_names : MethodName := ⟨RX12, "names", "(II)V"⟩
abbrev cX12_costOf : ByteArray := prog_14_method_29_code
def yX12_costOf : MethodName := ⟨RX12, "costOf", "(I)I"⟩
abbrev cX12_waterOf : ByteArray := prog_14_method_30_code
def yX12_waterOf : MethodName := ⟨RX12, "waterOf", "(II)I"⟩
abbrev cX12_fallOf : ByteArray := prog_14_method_31_code
def yX12_fallOf : MethodName := ⟨RX12, "fallOf", "(II)I"⟩
abbrev cX12_asks : ByteArray := prog_14_method_32_code
def yX12_asks : MethodName := ⟨RX12, "asks", "(IIII)I"⟩
abbrev cX12_place : ByteArray := prog_14_method_33_code
def yX12_place : MethodName := ⟨RX12, "place", "(I)I"⟩
abbrev cX12_ties : ByteArray := prog_14_method_34_code
def yX12_ties : MethodName := ⟨RX12, "ties", "(III)I"⟩
abbrev cX12_dig : ByteArray := prog_14_method_35_code
def yX12_dig : MethodName := ⟨RX12, "dig", "(II)I"⟩
abbrev cX12_fill : ByteArray := prog_14_method_36_code
def yX12_fill : MethodName := ⟨RX12, "fill", "(I)I"⟩
abbrev cX12_told : ByteArray := prog_14_method_37_code
def yX12_told : MethodName := ⟨RX12, "told", "(II)I"⟩
abbrev cX12_begins : ByteArray := prog_14_method_38_code
def yX12_begins : MethodName := ⟨RX12, "begins", "(II)V"⟩
abbrev cX12_dries : ByteArray := prog_14_method_39_code
def yX12_dries : MethodName := ⟨RX12, "dries", "(III)J"⟩
abbrev cX12_allBelow : ByteArray := prog_14_method_40_code
def yX12_allBelow : MethodName := ⟨RX12, "allBelow", "(I)I"⟩
abbrev cX12_below : ByteArray := prog_14_method_41_code
def yX12_below : MethodName := ⟨RX12, "below", "(IJ)V"⟩
abbrev cX12_thinks : ByteArray := prog_14_method_42_code
def yX12_thinks : MethodName := ⟨RX12, "thinks", "(I)Z"⟩
abbrev cX12_wetOf : ByteArray := prog_14_method_43_code
def yX12_wetOf : MethodName := ⟨RX12, "wetOf", "(II)J"⟩
abbrev cX12_worthOf : ByteArray := prog_14_method_44_code
def yX12_worthOf : MethodName := ⟨RX12, "worthOf", "(I)J"⟩
abbrev cX12_think : ByteArray := prog_14_method_45_code
def yX12_think : MethodName := ⟨RX12, "think", "(II)J"⟩
abbrev cX12_likely : ByteArray := prog_14_method_46_code
def yX12_likely : MethodName := ⟨RX12, "likely", "(I)J"⟩
abbrev cX12_judge : ByteArray := prog_14_method_47_code
def yX12_judge : MethodName := ⟨RX12, "judge", "(II)I"⟩
abbrev cX12_row : ByteArray := prog_14_method_48_code
def yX12_row : MethodName := ⟨RX12, "row", "(II)J"⟩
abbrev cX12_goesOn : ByteArray := prog_14_method_49_code
def yX12_goesOn : MethodName := ⟨RX12, "goesOn", "(II)J"⟩
abbrev cX12_valueOf : ByteArray := prog_14_method_50_code
def yX12_valueOf : MethodName := ⟨RX12, "valueOf", "(II)J"⟩
abbrev cX12_goesHere : ByteArray := prog_14_method_51_code
def yX12_goesHere : MethodName := ⟨RX12, "goesHere", "(I)Z"⟩
abbrev cX12_best : ByteArray := prog_14_method_52_code
def yX12_best : MethodName := ⟨RX12, "best", "(I)J"⟩
abbrev cX12_back : ByteArray := prog_14_method_53_code
def yX12_back : MethodName := ⟨RX12, "back", "(I)I"⟩
abbrev cX12_indexOf : ByteArray := prog_14_method_54_code
def yX12_indexOf : MethodName := ⟨RX12, "indexOf", "(I)I"⟩
abbrev cX12_index : ByteArray := prog_14_method_55_code
def yX12_index : MethodName := ⟨RX12, "index", "(I)I"⟩
abbrev cX12_next : ByteArray := prog_14_method_56_code
def yX12_next : MethodName := ⟨RX12, "next", "()I"⟩
abbrev cX12_rule : ByteArray := prog_14_method_57_code
def yX12_rule : MethodName := ⟨RX12, "rule", "(III)I"⟩
abbrev cX12_ruleTold : ByteArray := prog_14_method_58_code
def yX12_ruleTold : MethodName := ⟨RX12, "ruleTold", "(II)I"⟩
abbrev cX12_doesDig : ByteArray := prog_14_method_59_code
def yX12_doesDig : MethodName := ⟨RX12, "doesDig", "(IIII)Z"⟩
abbrev cX12_digs : ByteArray := prog_14_method_60_code
def yX12_digs : MethodName := ⟨RX12, "digs", "(IIIIJI)V"⟩
abbrev cX12_means : ByteArray := prog_14_method_61_code
def yX12_means : MethodName := ⟨RX12, "means", "(II)V"⟩
abbrev cX12_mean : ByteArray := prog_14_method_62_code
def yX12_mean : MethodName := ⟨RX12, "mean", "(III)J"⟩
abbrev cX12_right : ByteArray := prog_14_method_63_code
def yX12_right : MethodName := ⟨RX12, "right", "(I)I"⟩
abbrev cX12_goesBy : ByteArray := prog_14_method_64_code
def yX12_goesBy : MethodName := ⟨RX12, "goesBy", "(II)I"⟩
abbrev cX12_tells : ByteArray := prog_14_method_65_code
def yX12_tells : MethodName := ⟨RX12, "tells", "(IIII)J"⟩
abbrev cX12_boreOf : ByteArray := prog_14_method_66_code
def yX12_boreOf : MethodName := ⟨RX12, "boreOf", "(II)J"⟩
abbrev cX12_bore : ByteArray := prog_14_method_67_code
def yX12_bore : MethodName := ⟨RX12, "bore", "(II)J"⟩
abbrev cX12_far : ByteArray := prog_14_method_68_code
def yX12_far : MethodName := ⟨RX12, "far", "(II)I"⟩
abbrev cX12_divines : ByteArray := prog_14_method_69_code
def yX12_divines : MethodName := ⟨RX12, "divines", "(II)J"⟩
abbrev cX12_diviner : ByteArray := prog_14_method_70_code
def yX12_diviner : MethodName := ⟨RX12, "diviner", "(II)J"⟩
abbrev cX12_believe : ByteArray := prog_14_method_71_code
def yX12_believe : MethodName := ⟨RX12, "believe", "(I)I"⟩
abbrev cX12_fallen : ByteArray := prog_14_method_72_code
def yX12_fallen : MethodName := ⟨RX12, "fallen", "(II)J"⟩
abbrev cX12_fall : ByteArray := prog_14_method_73_code
def yX12_fall : MethodName := ⟨RX12, "fall", "(II)J"⟩
abbrev cX12_costsTo : ByteArray := prog_14_method_74_code
def yX12_costsTo : MethodName := ⟨RX12, "costsTo", "(I)I"⟩
abbrev cX12_line : ByteArray := prog_14_method_75_code
def yX12_line : MethodName := ⟨RX12, "line", "(I)I"⟩
abbrev cX12_farm : ByteArray := prog_14_method_76_code
def yX12_farm : MethodName := ⟨RX12, "farm", "(II)I"⟩
abbrev cX12_findsWell : ByteArray := prog_14_method_77_code
def yX12_findsWell : MethodName := ⟨RX12, "findsWell", "(I)V"⟩
abbrev cX12_share : ByteArray := prog_14_method_78_code
def yX12_share : MethodName := ⟨RX12, "share", "(II)I"⟩
abbrev cX12_partsOf : ByteArray := prog_14_method_79_code
def yX12_partsOf : MethodName := ⟨RX12, "partsOf", "(II)I"⟩
abbrev cX12_join : ByteArray := prog_14_method_80_code
def yX12_join : MethodName := ⟨RX12, "join", "(II)I"⟩
abbrev cX12_learns : ByteArray := prog_14_method_81_code
def yX12_learns : MethodName := ⟨RX12, "learns", "(I)J"⟩
abbrev cX12_learn : ByteArray := prog_14_method_82_code
def yX12_learn : MethodName := ⟨RX12, "learn", "(I)J"⟩
abbrev cX12_first_ : ByteArray := prog_14_method_83_code
def yX12_first_ : MethodName := ⟨RX12, "first", "()I"⟩
abbrev cX12_draws : ByteArray := prog_14_method_84_code
def yX12_draws : MethodName := ⟨RX12, "draws", "(I)I"⟩
abbrev cX12_drawsLayer : ByteArray := prog_14_method_85_code
def yX12_drawsLayer : MethodName := ⟨RX12, "drawsLayer", "(III)I"⟩
abbrev cX12_drawn : ByteArray := prog_14_method_86_code
def yX12_drawn : MethodName := ⟨RX12, "drawn", "(IIII)I"⟩
abbrev cX12_image : ByteArray := prog_14_method_87_code
def yX12_image : MethodName := ⟨RX12, "image", "()I"⟩
abbrev cX12_undo : ByteArray := prog_14_method_88_code
def yX12_undo : MethodName := ⟨RX12, "undo", "()I"⟩
abbrev cX12_sheet : ByteArray := prog_14_method_89_code
def yX12_sheet : MethodName := ⟨RX12, "sheet", "(III)I"⟩
abbrev cX12_cell : ByteArray := prog_14_method_90_code
def yX12_cell : MethodName := ⟨RX12, "cell", "(III)I"⟩
abbrev cX12_copy : ByteArray := prog_14_method_91_code
def yX12_copy : MethodName := ⟨RX12, "copy", "(IIIII)I"⟩
abbrev cX12_layersBy : ByteArray := prog_14_method_92_code
def yX12_layersBy : MethodName := ⟨RX12, "layersBy", "(IIII)I"⟩
abbrev cX12_isUnder : ByteArray := prog_14_method_93_code
def yX12_isUnder : MethodName := ⟨RX12, "isUnder", "(II)Z"⟩
abbrev cX12_taken : ByteArray := prog_14_method_94_code
def yX12_taken : MethodName := ⟨RX12, "taken", "(II)I"⟩
def RJ11 : String := "java/lang/Character"
def TJ11 : u_T := fun k => match k with
  | _ => ("", "", "", false)
def tyJ11 : Nat → FieldType := fun k => match k with
  | _ => .int
abbrev wsJ110 : List Cond := u_ws RJ11 TJ11 0
theorem nmJ11 : ∀ a, a < 0 → ∀ b, b < 0 → a ≠ b → (TJ11 a).2.1 ≠ (TJ11 b).2.1 := by decide +kernel
theorem tyJ11_ok : ∀ k, k < 0 → parseFieldDescriptor (TJ11 k).2.2.1 = some (tyJ11 k) := by decide +kernel
abbrev cJ11_isValidCodePoint_9a6ad : ByteArray := prog_15_method_11_code
def yJ11_isValidCodePoint_9a6ad : MethodName := ⟨RJ11, "isValidCodePoint", "(I)Z"⟩
abbrev cJ11_highSurrogate_5068e : ByteArray := prog_15_method_28_code
def yJ11_highSurrogate_5068e : MethodName := ⟨RJ11, "highSurrogate", "(I)C"⟩
abbrev cJ11_lowSurrogate_5068e : ByteArray := prog_15_method_29_code
def yJ11_lowSurrogate_5068e : MethodName := ⟨RJ11, "lowSurrogate", "(I)C"⟩
def RJ9 : String := "java/lang/Math"
def TJ9 : u_T := fun k => match k with
  | _ => ("", "", "", false)
def tyJ9 : Nat → FieldType := fun k => match k with
  | _ => .int
abbrev wsJ90 : List Cond := u_ws RJ9 TJ9 0
theorem nmJ9 : ∀ a, a < 0 → ∀ b, b < 0 → a ≠ b → (TJ9 a).2.1 ≠ (TJ9 b).2.1 := by decide +kernel
theorem tyJ9_ok : ∀ k, k < 0 → parseFieldDescriptor (TJ9 k).2.2.1 = some (tyJ9 k) := by decide +kernel
abbrev cJ9_abs_0f7a4 : ByteArray := prog_16_method_59_code
def yJ9_abs_0f7a4 : MethodName := ⟨RJ9, "abs", "(I)I"⟩
abbrev cJ9_max_7cf53 : ByteArray := prog_16_method_65_code
def yJ9_max_7cf53 : MethodName := ⟨RJ9, "max", "(II)I"⟩
abbrev cJ9_max_f86c9 : ByteArray := prog_16_method_66_code
def yJ9_max_f86c9 : MethodName := ⟨RJ9, "max", "(JJ)J"⟩
abbrev cJ9_min_7cf53 : ByteArray := prog_16_method_69_code
def yJ9_min_7cf53 : MethodName := ⟨RJ9, "min", "(II)I"⟩
def RJ0 : String := "java/lang/String"
def TJ0 : u_T := fun k => match k with
  | _ => ("", "", "", false)
def tyJ0 : Nat → FieldType := fun k => match k with
  | _ => .int
abbrev wsJ00 : List Cond := u_ws RJ0 TJ0 0
theorem nmJ0 : ∀ a, a < 0 → ∀ b, b < 0 → a ≠ b → (TJ0 a).2.1 ≠ (TJ0 b).2.1 := by decide +kernel
theorem tyJ0_ok : ∀ k, k < 0 → parseFieldDescriptor (TJ0 k).2.2.1 = some (tyJ0 k) := by decide +kernel
abbrev cJ0_length_8abf5 : ByteArray := prog_17_method_54_code
def yJ0_length_8abf5 : MethodName := ⟨RJ0, "length", "()I"⟩
abbrev cJ0_charAt_5068e : ByteArray := prog_17_method_56_code
def yJ0_charAt_5068e : MethodName := ⟨RJ0, "charAt", "(I)C"⟩
abbrev cJ0_indexOf_0f7a4 : ByteArray := prog_17_method_79_code
def yJ0_indexOf_0f7a4 : MethodName := ⟨RJ0, "indexOf", "(I)I"⟩
abbrev cJ0_indexOf_7cf53 : ByteArray := prog_17_method_80_code
def yJ0_indexOf_7cf53 : MethodName := ⟨RJ0, "indexOf", "(II)I"⟩
abbrev cJ0_coder_7d493 : ByteArray := prog_17_method_152_code
def yJ0_coder_7d493 : MethodName := ⟨RJ0, "coder", "()B"⟩
abbrev cJ0_isLatin1_aae02 : ByteArray := prog_17_method_154_code
def yJ0_isLatin1_aae02 : MethodName := ⟨RJ0, "isLatin1", "()Z"⟩
abbrev cJ0_checkIndex_df160 : ByteArray := prog_17_method_155_code
def yJ0_checkIndex_df160 : MethodName := ⟨RJ0, "checkIndex", "(II)V"⟩
abbrev cJ0_checkBoundsBeginEnd_23922 : ByteArray := prog_17_method_158_code
def yJ0_checkBoundsBeginEnd_23922 : MethodName := ⟨RJ0, "checkBoundsBeginEnd", "(III)V"⟩
def RJ1 : String := "java/lang/StringLatin1"
def TJ1 : u_T := fun k => match k with
  | _ => ("", "", "", false)
def tyJ1 : Nat → FieldType := fun k => match k with
  | _ => .int
abbrev wsJ10 : List Cond := u_ws RJ1 TJ1 0
theorem nmJ1 : ∀ a, a < 0 → ∀ b, b < 0 → a ≠ b → (TJ1 a).2.1 ≠ (TJ1 b).2.1 := by decide +kernel
theorem tyJ1_ok : ∀ k, k < 0 → parseFieldDescriptor (TJ1 k).2.2.1 = some (tyJ1 k) := by decide +kernel
abbrev cJ1_charAt_3b067 : ByteArray := prog_18_method_2_code
def yJ1_charAt_3b067 : MethodName := ⟨RJ1, "charAt", "([BI)C"⟩
abbrev cJ1_canEncode_9a6ad : ByteArray := prog_18_method_4_code
def yJ1_canEncode_9a6ad : MethodName := ⟨RJ1, "canEncode", "(I)Z"⟩
abbrev cJ1_indexOf_4cfef : ByteArray := prog_18_method_22_code
def yJ1_indexOf_4cfef : MethodName := ⟨RJ1, "indexOf", "([BIII)I"⟩
abbrev cJ1_indexOfChar_4cfef : ByteArray := prog_18_method_23_code
def yJ1_indexOfChar_4cfef : MethodName := ⟨RJ1, "indexOfChar", "([BIII)I"⟩
def RJ2 : String := "java/lang/StringUTF16"
def TJ2 : u_T := fun k => match k with
  | _ => ("", "", "", false)
def tyJ2 : Nat → FieldType := fun k => match k with
  | _ => .int
abbrev wsJ20 : List Cond := u_ws RJ2 TJ2 0
theorem nmJ2 : ∀ a, a < 0 → ∀ b, b < 0 → a ≠ b → (TJ2 a).2.1 ≠ (TJ2 b).2.1 := by decide +kernel
theorem tyJ2_ok : ∀ k, k < 0 → parseFieldDescriptor (TJ2 k).2.2.1 = some (tyJ2 k) := by decide +kernel
abbrev cJ2_getChar_3b067 : ByteArray := prog_19_method_5_code
def yJ2_getChar_3b067 : MethodName := ⟨RJ2, "getChar", "([BI)C"⟩
abbrev cJ2_length_9d52b : ByteArray := prog_19_method_6_code
def yJ2_length_9d52b : MethodName := ⟨RJ2, "length", "([B)I"⟩
abbrev cJ2_indexOf_4cfef : ByteArray := prog_19_method_40_code
def yJ2_indexOf_4cfef : MethodName := ⟨RJ2, "indexOf", "([BIII)I"⟩
abbrev cJ2_indexOfChar_4cfef : ByteArray := prog_19_method_47_code
def yJ2_indexOfChar_4cfef : MethodName := ⟨RJ2, "indexOfChar", "([BIII)I"⟩
abbrev cJ2_indexOfCharUnsafe_4cfef : ByteArray := prog_19_method_48_code
def yJ2_indexOfCharUnsafe_4cfef : MethodName := ⟨RJ2, "indexOfCharUnsafe", "([BIII)I"⟩
abbrev cJ2_indexOfSupplementary_4cfef : ByteArray := prog_19_method_49_code
def yJ2_indexOfSupplementary_4cfef : MethodName := ⟨RJ2, "indexOfSupplementary", "([BIII)I"⟩
abbrev cJ2_charAt_3b067 : ByteArray := prog_19_method_83_code
def yJ2_charAt_3b067 : MethodName := ⟨RJ2, "charAt", "([BI)C"⟩
abbrev cJ2_checkIndex_2214a : ByteArray := prog_19_method_91_code
def yJ2_checkIndex_2214a : MethodName := ⟨RJ2, "checkIndex", "(I[B)V"⟩
abbrev cJ2_checkBoundsBeginEnd_d044e : ByteArray := prog_19_method_93_code
def yJ2_checkBoundsBeginEnd_d044e : MethodName := ⟨RJ2, "checkBoundsBeginEnd", "(II[B)V"⟩
def RJ10 : String := "java/lang/System"
def TJ10 : u_T := fun k => match k with
  | _ => ("", "", "", false)
def tyJ10 : Nat → FieldType := fun k => match k with
  | _ => .int
abbrev wsJ100 : List Cond := u_ws RJ10 TJ10 0
theorem nmJ10 : ∀ a, a < 0 → ∀ b, b < 0 → a ≠ b → (TJ10 a).2.1 ≠ (TJ10 b).2.1 := by decide +kernel
theorem tyJ10_ok : ∀ k, k < 0 → parseFieldDescriptor (TJ10 k).2.2.1 = some (tyJ10 k) := by decide +kernel
def RJ3 : String := "jdk/internal/util/Preconditions"
def TJ3 : u_T := fun k => match k with
  | _ => ("", "", "", false)
def tyJ3 : Nat → FieldType := fun k => match k with
  | _ => .int
abbrev wsJ30 : List Cond := u_ws RJ3 TJ3 0
theorem nmJ3 : ∀ a, a < 0 → ∀ b, b < 0 → a ≠ b → (TJ3 a).2.1 ≠ (TJ3 b).2.1 := by decide +kernel
theorem tyJ3_ok : ∀ k, k < 0 → parseFieldDescriptor (TJ3 k).2.2.1 = some (tyJ3 k) := by decide +kernel
abbrev cJ3_checkIndex_8e157 : ByteArray := prog_21_method_11_code
def yJ3_checkIndex_8e157 : MethodName := ⟨RJ3, "checkIndex", "(IILjava/util/function/BiFunction;)I"⟩
abbrev cJ3_checkFromToIndex_8c36e : ByteArray := prog_21_method_12_code
def yJ3_checkFromToIndex_8c36e : MethodName := ⟨RJ3, "checkFromToIndex", "(IIILjava/util/function/BiFunction;)I"⟩
def RL : String := "HowDeepLaw"
abbrev cL_law : ByteArray := code
def yL_law : MethodName := ⟨RL, "law", "([I)Z"⟩
abbrev vwCl : List vw_C := [(RX0, TX0, 6), (RX1, TX1, 3), (RX2, TX2, 7), (RX3, TX3, 12), (RX4, TX4, 11), (RX5, TX5, 7), (RX6, TX6, 7), (RX7, TX7, 6), (RX8, TX8, 9), (RX9, TX9, 5), (RX10, TX10, 3), (RX11, TX11, 10), (RX12, TX12, 62)]
