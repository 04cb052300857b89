-- part 01: the tables' words (the skeleton's PART A) and the printed names of the reference class; made by wip/whole/gen01.py
/-- a private method of a class that the tables say can be made, by its rows of tables_1 -/
def lw_okq (q : MethodName × Nat) : Prop := (q.1.cls ≠ "java/lang/invoke/MethodHandle" ∧ q.1.cls ≠ "java/lang/invoke/VarHandle") ∧ Cond.instantiable q.1.cls q.2 ∈ tables_1 ∧ Cond.privateMethod q.1 ∈ tables_1 ∧ Cond.instanceMethod q.1 ∈ tables_1
theorem lw_p0 : lw_okq (⟨"AccordHouse", "refusalOf", "(IIIII)I"⟩, 10) := ⟨⟨by decide +kernel, by decide +kernel⟩, List.mem_of_getElem? (i := 33) (by decide +kernel), List.mem_of_getElem? (i := 429) (by decide +kernel), List.mem_of_getElem? (i := 430) (by decide +kernel)⟩
theorem lw_p1 : lw_okq (⟨"AccordHouse", "madeSlot", "(II)I"⟩, 10) := ⟨⟨by decide +kernel, by decide +kernel⟩, List.mem_of_getElem? (i := 33) (by decide +kernel), List.mem_of_getElem? (i := 437) (by decide +kernel), List.mem_of_getElem? (i := 438) (by decide +kernel)⟩
theorem lw_p2 : lw_okq (⟨"AccordHouse", "ruleAt", "(II)C"⟩, 10) := ⟨⟨by decide +kernel, by decide +kernel⟩, List.mem_of_getElem? (i := 33) (by decide +kernel), List.mem_of_getElem? (i := 502) (by decide +kernel), List.mem_of_getElem? (i := 503) (by decide +kernel)⟩
theorem lw_p3 : lw_okq (⟨"AccordHouse", "fits", "(LAccordHouse$Node;II)Z"⟩, 10) := ⟨⟨by decide +kernel, by decide +kernel⟩, List.mem_of_getElem? (i := 33) (by decide +kernel), List.mem_of_getElem? (i := 535) (by decide +kernel), List.mem_of_getElem? (i := 536) (by decide +kernel)⟩
theorem lw_p4 : lw_okq (⟨"AccordHouse", "fitsInsert", "(LAccordHouse$Node;II)Z"⟩, 10) := ⟨⟨by decide +kernel, by decide +kernel⟩, List.mem_of_getElem? (i := 33) (by decide +kernel), List.mem_of_getElem? (i := 539) (by decide +kernel), List.mem_of_getElem? (i := 540) (by decide +kernel)⟩
theorem lw_p5 : lw_okq (⟨"AccordHouse$Text", "gather", "()V"⟩, 8) := ⟨⟨by decide +kernel, by decide +kernel⟩, List.mem_of_getElem? (i := 121) (by decide +kernel), List.mem_of_getElem? (i := 550) (by decide +kernel), List.mem_of_getElem? (i := 551) (by decide +kernel)⟩
theorem lw_p6 : lw_okq (⟨"AccordHouse", "fitsErase", "(LAccordHouse$Node;I)Z"⟩, 10) := ⟨⟨by decide +kernel, by decide +kernel⟩, List.mem_of_getElem? (i := 33) (by decide +kernel), List.mem_of_getElem? (i := 558) (by decide +kernel), List.mem_of_getElem? (i := 559) (by decide +kernel)⟩
theorem lw_p7 : lw_okq (⟨"AccordHouse$Node", "stableOf", "(I)I"⟩, 17) := ⟨⟨by decide +kernel, by decide +kernel⟩, List.mem_of_getElem? (i := 193) (by decide +kernel), List.mem_of_getElem? (i := 579) (by decide +kernel), List.mem_of_getElem? (i := 580) (by decide +kernel)⟩
theorem lw_p8 : lw_okq (⟨"AccordHouse", "isOwned", "(LAccordHouse$Node;I)Z"⟩, 10) := ⟨⟨by decide +kernel, by decide +kernel⟩, List.mem_of_getElem? (i := 33) (by decide +kernel), List.mem_of_getElem? (i := 593) (by decide +kernel), List.mem_of_getElem? (i := 594) (by decide +kernel)⟩
theorem lw_p9 : lw_okq (⟨"AccordHouse$View", "findShares", "(I)V"⟩, 9) := ⟨⟨by decide +kernel, by decide +kernel⟩, List.mem_of_getElem? (i := 266) (by decide +kernel), List.mem_of_getElem? (i := 601) (by decide +kernel), List.mem_of_getElem? (i := 602) (by decide +kernel)⟩
theorem lw_p10 : lw_okq (⟨"AccordHouse", "fitsByValue", "(LAccordHouse$Node;I)Z"⟩, 10) := ⟨⟨by decide +kernel, by decide +kernel⟩, List.mem_of_getElem? (i := 33) (by decide +kernel), List.mem_of_getElem? (i := 620) (by decide +kernel), List.mem_of_getElem? (i := 621) (by decide +kernel)⟩
theorem lw_p11 : lw_okq (⟨"AccordHouse$View", "findMembers", "(I)V"⟩, 9) := ⟨⟨by decide +kernel, by decide +kernel⟩, List.mem_of_getElem? (i := 266) (by decide +kernel), List.mem_of_getElem? (i := 629) (by decide +kernel), List.mem_of_getElem? (i := 630) (by decide +kernel)⟩
theorem lw_p12 : lw_okq (⟨"AccordHouse$View", "forgetKeys", "()V"⟩, 9) := ⟨⟨by decide +kernel, by decide +kernel⟩, List.mem_of_getElem? (i := 266) (by decide +kernel), List.mem_of_getElem? (i := 633) (by decide +kernel), List.mem_of_getElem? (i := 634) (by decide +kernel)⟩
theorem lw_p13 : lw_okq (⟨"java/lang/Throwable", "fillInStackTrace", "(I)Ljava/lang/Throwable;"⟩, 6) := ⟨⟨by decide +kernel, by decide +kernel⟩, List.mem_of_getElem? (i := 708) (by decide +kernel), List.mem_of_getElem? (i := 706) (by decide +kernel), List.mem_of_getElem? (i := 707) (by decide +kernel)⟩
theorem lw_p14 : lw_okq (⟨"AccordHouse$Node", "apply", "(LAccordHouse$Row;)V"⟩, 17) := ⟨⟨by decide +kernel, by decide +kernel⟩, List.mem_of_getElem? (i := 193) (by decide +kernel), List.mem_of_getElem? (i := 1068) (by decide +kernel), List.mem_of_getElem? (i := 1069) (by decide +kernel)⟩
theorem lw_p15 : lw_okq (⟨"AccordHouse$View", "gatherKnown", "(I)V"⟩, 9) := ⟨⟨by decide +kernel, by decide +kernel⟩, List.mem_of_getElem? (i := 266) (by decide +kernel), List.mem_of_getElem? (i := 1099) (by decide +kernel), List.mem_of_getElem? (i := 1100) (by decide +kernel)⟩
def lw_privs_1 : List (MethodName × Nat) := [(⟨"AccordHouse", "refusalOf", "(IIIII)I"⟩, 10), (⟨"AccordHouse", "madeSlot", "(II)I"⟩, 10), (⟨"AccordHouse", "ruleAt", "(II)C"⟩, 10), (⟨"AccordHouse", "fits", "(LAccordHouse$Node;II)Z"⟩, 10), (⟨"AccordHouse", "fitsInsert", "(LAccordHouse$Node;II)Z"⟩, 10), (⟨"AccordHouse$Text", "gather", "()V"⟩, 8), (⟨"AccordHouse", "fitsErase", "(LAccordHouse$Node;I)Z"⟩, 10), (⟨"AccordHouse$Node", "stableOf", "(I)I"⟩, 17), (⟨"AccordHouse", "isOwned", "(LAccordHouse$Node;I)Z"⟩, 10), (⟨"AccordHouse$View", "findShares", "(I)V"⟩, 9), (⟨"AccordHouse", "fitsByValue", "(LAccordHouse$Node;I)Z"⟩, 10), (⟨"AccordHouse$View", "findMembers", "(I)V"⟩, 9), (⟨"AccordHouse$View", "forgetKeys", "()V"⟩, 9), (⟨"java/lang/Throwable", "fillInStackTrace", "(I)Ljava/lang/Throwable;"⟩, 6), (⟨"AccordHouse$Node", "apply", "(LAccordHouse$Row;)V"⟩, 17), (⟨"AccordHouse$View", "gatherKnown", "(I)V"⟩, 9)]
theorem lw_r1 : ∀ q ∈ lw_privs_1, lw_okq q := List.forall_mem_cons.mpr ⟨lw_p0, List.forall_mem_cons.mpr ⟨lw_p1, List.forall_mem_cons.mpr ⟨lw_p2, List.forall_mem_cons.mpr ⟨lw_p3, List.forall_mem_cons.mpr ⟨lw_p4, List.forall_mem_cons.mpr ⟨lw_p5, List.forall_mem_cons.mpr ⟨lw_p6, List.forall_mem_cons.mpr ⟨lw_p7, List.forall_mem_cons.mpr ⟨lw_p8, List.forall_mem_cons.mpr ⟨lw_p9, List.forall_mem_cons.mpr ⟨lw_p10, List.forall_mem_cons.mpr ⟨lw_p11, List.forall_mem_cons.mpr ⟨lw_p12, List.forall_mem_cons.mpr ⟨lw_p13, List.forall_mem_cons.mpr ⟨lw_p14, List.forall_mem_cons.mpr ⟨lw_p15, fun _ h => absurd h List.not_mem_nil⟩⟩⟩⟩⟩⟩⟩⟩⟩⟩⟩⟩⟩⟩⟩⟩
theorem lw_p16 : lw_okq (⟨"AccordHouse$View", "glanceFurther", "(LAccordHouse$Row;[I)V"⟩, 9) := ⟨⟨by decide +kernel, by decide +kernel⟩, List.mem_of_getElem? (i := 266) (by decide +kernel), List.mem_of_getElem? (i := 1117) (by decide +kernel), List.mem_of_getElem? (i := 1118) (by decide +kernel)⟩
theorem lw_p17 : lw_okq (⟨"AccordHouse$Node", "take", "(LAccordHouse$Row;)V"⟩, 17) := ⟨⟨by decide +kernel, by decide +kernel⟩, List.mem_of_getElem? (i := 193) (by decide +kernel), List.mem_of_getElem? (i := 1127) (by decide +kernel), List.mem_of_getElem? (i := 1128) (by decide +kernel)⟩
theorem lw_p18 : lw_okq (⟨"AccordHouse$Ledger", "link", "(LAccordHouse$Row;)V"⟩, 9) := ⟨⟨by decide +kernel, by decide +kernel⟩, List.mem_of_getElem? (i := 220) (by decide +kernel), List.mem_of_getElem? (i := 1145) (by decide +kernel), List.mem_of_getElem? (i := 1146) (by decide +kernel)⟩
theorem lw_p19 : lw_okq (⟨"AccordHouse$Node", "raiseLast", "(II)V"⟩, 17) := ⟨⟨by decide +kernel, by decide +kernel⟩, List.mem_of_getElem? (i := 193) (by decide +kernel), List.mem_of_getElem? (i := 1153) (by decide +kernel), List.mem_of_getElem? (i := 1154) (by decide +kernel)⟩
theorem lw_p20 : lw_okq (⟨"AccordHouse$Node", "tell", "(LAccordHouse$Row;LAccordHouse$Row;)V"⟩, 17) := ⟨⟨by decide +kernel, by decide +kernel⟩, List.mem_of_getElem? (i := 193) (by decide +kernel), List.mem_of_getElem? (i := 1157) (by decide +kernel), List.mem_of_getElem? (i := 1158) (by decide +kernel)⟩
theorem lw_p21 : lw_okq (⟨"AccordHouse$Node", "turn", "(LAccordHouse$Row;III)V"⟩, 17) := ⟨⟨by decide +kernel, by decide +kernel⟩, List.mem_of_getElem? (i := 193) (by decide +kernel), List.mem_of_getElem? (i := 1169) (by decide +kernel), List.mem_of_getElem? (i := 1170) (by decide +kernel)⟩
theorem lw_p22 : lw_okq (⟨"AccordHouse$Text", "commonFrom", "(II)I"⟩, 8) := ⟨⟨by decide +kernel, by decide +kernel⟩, List.mem_of_getElem? (i := 121) (by decide +kernel), List.mem_of_getElem? (i := 1186) (by decide +kernel), List.mem_of_getElem? (i := 1187) (by decide +kernel)⟩
theorem lw_p23 : lw_okq (⟨"AccordHouse", "carryOver", "(LAccordHouse$Node;I)V"⟩, 10) := ⟨⟨by decide +kernel, by decide +kernel⟩, List.mem_of_getElem? (i := 33) (by decide +kernel), List.mem_of_getElem? (i := 1199) (by decide +kernel), List.mem_of_getElem? (i := 1200) (by decide +kernel)⟩
theorem lw_p24 : lw_okq (⟨"AccordHouse", "placeOfCursor", "(LAccordHouse$Node;I)I"⟩, 10) := ⟨⟨by decide +kernel, by decide +kernel⟩, List.mem_of_getElem? (i := 33) (by decide +kernel), List.mem_of_getElem? (i := 1216) (by decide +kernel), List.mem_of_getElem? (i := 1217) (by decide +kernel)⟩
theorem lw_p25 : lw_okq (⟨"AccordHouse", "dispatch", "(IIZ)V"⟩, 10) := ⟨⟨by decide +kernel, by decide +kernel⟩, List.mem_of_getElem? (i := 33) (by decide +kernel), List.mem_of_getElem? (i := 1256) (by decide +kernel), List.mem_of_getElem? (i := 1257) (by decide +kernel)⟩
theorem lw_p26 : lw_okq (⟨"AccordHouse$Node", "nextFor", "(I)LAccordHouse$Row;"⟩, 17) := ⟨⟨by decide +kernel, by decide +kernel⟩, List.mem_of_getElem? (i := 193) (by decide +kernel), List.mem_of_getElem? (i := 1327) (by decide +kernel), List.mem_of_getElem? (i := 1328) (by decide +kernel)⟩
theorem lw_p27 : lw_okq (⟨"AccordHouse$Node", "learnCursor", "(LAccordHouse$Frame;I)V"⟩, 17) := ⟨⟨by decide +kernel, by decide +kernel⟩, List.mem_of_getElem? (i := 193) (by decide +kernel), List.mem_of_getElem? (i := 1348) (by decide +kernel), List.mem_of_getElem? (i := 1349) (by decide +kernel)⟩
theorem lw_p28 : lw_okq (⟨"AccordHouse$Node", "isReady", "(LAccordHouse$Row;)Z"⟩, 17) := ⟨⟨by decide +kernel, by decide +kernel⟩, List.mem_of_getElem? (i := 193) (by decide +kernel), List.mem_of_getElem? (i := 1354) (by decide +kernel), List.mem_of_getElem? (i := 1355) (by decide +kernel)⟩
theorem lw_p29 : lw_okq (⟨"AccordHouse$Node", "await", "(LAccordHouse$Row;)V"⟩, 17) := ⟨⟨by decide +kernel, by decide +kernel⟩, List.mem_of_getElem? (i := 193) (by decide +kernel), List.mem_of_getElem? (i := 1358) (by decide +kernel), List.mem_of_getElem? (i := 1359) (by decide +kernel)⟩
theorem lw_p30 : lw_okq (⟨"AccordHouse$Node", "forgetWaits", "()V"⟩, 17) := ⟨⟨by decide +kernel, by decide +kernel⟩, List.mem_of_getElem? (i := 193) (by decide +kernel), List.mem_of_getElem? (i := 1362) (by decide +kernel), List.mem_of_getElem? (i := 1363) (by decide +kernel)⟩
theorem lw_p31 : lw_okq (⟨"AccordHouse$Node", "firstReady", "()LAccordHouse$Row;"⟩, 17) := ⟨⟨by decide +kernel, by decide +kernel⟩, List.mem_of_getElem? (i := 193) (by decide +kernel), List.mem_of_getElem? (i := 1366) (by decide +kernel), List.mem_of_getElem? (i := 1367) (by decide +kernel)⟩
def lw_privs_2 : List (MethodName × Nat) := [(⟨"AccordHouse$View", "glanceFurther", "(LAccordHouse$Row;[I)V"⟩, 9), (⟨"AccordHouse$Node", "take", "(LAccordHouse$Row;)V"⟩, 17), (⟨"AccordHouse$Ledger", "link", "(LAccordHouse$Row;)V"⟩, 9), (⟨"AccordHouse$Node", "raiseLast", "(II)V"⟩, 17), (⟨"AccordHouse$Node", "tell", "(LAccordHouse$Row;LAccordHouse$Row;)V"⟩, 17), (⟨"AccordHouse$Node", "turn", "(LAccordHouse$Row;III)V"⟩, 17), (⟨"AccordHouse$Text", "commonFrom", "(II)I"⟩, 8), (⟨"AccordHouse", "carryOver", "(LAccordHouse$Node;I)V"⟩, 10), (⟨"AccordHouse", "placeOfCursor", "(LAccordHouse$Node;I)I"⟩, 10), (⟨"AccordHouse", "dispatch", "(IIZ)V"⟩, 10), (⟨"AccordHouse$Node", "nextFor", "(I)LAccordHouse$Row;"⟩, 17), (⟨"AccordHouse$Node", "learnCursor", "(LAccordHouse$Frame;I)V"⟩, 17), (⟨"AccordHouse$Node", "isReady", "(LAccordHouse$Row;)Z"⟩, 17), (⟨"AccordHouse$Node", "await", "(LAccordHouse$Row;)V"⟩, 17), (⟨"AccordHouse$Node", "forgetWaits", "()V"⟩, 17), (⟨"AccordHouse$Node", "firstReady", "()LAccordHouse$Row;"⟩, 17)]
theorem lw_r2 : ∀ q ∈ lw_privs_2, lw_okq q := List.forall_mem_cons.mpr ⟨lw_p16, List.forall_mem_cons.mpr ⟨lw_p17, List.forall_mem_cons.mpr ⟨lw_p18, List.forall_mem_cons.mpr ⟨lw_p19, List.forall_mem_cons.mpr ⟨lw_p20, List.forall_mem_cons.mpr ⟨lw_p21, List.forall_mem_cons.mpr ⟨lw_p22, List.forall_mem_cons.mpr ⟨lw_p23, List.forall_mem_cons.mpr ⟨lw_p24, List.forall_mem_cons.mpr ⟨lw_p25, List.forall_mem_cons.mpr ⟨lw_p26, List.forall_mem_cons.mpr ⟨lw_p27, List.forall_mem_cons.mpr ⟨lw_p28, List.forall_mem_cons.mpr ⟨lw_p29, List.forall_mem_cons.mpr ⟨lw_p30, List.forall_mem_cons.mpr ⟨lw_p31, fun _ h => absurd h List.not_mem_nil⟩⟩⟩⟩⟩⟩⟩⟩⟩⟩⟩⟩⟩⟩⟩⟩
theorem lw_p32 : lw_okq (⟨"AccordHouse$Frame", "putByte", "(I)V"⟩, 11) := ⟨⟨by decide +kernel, by decide +kernel⟩, List.mem_of_getElem? (i := 1263) (by decide +kernel), List.mem_of_getElem? (i := 1387) (by decide +kernel), List.mem_of_getElem? (i := 1388) (by decide +kernel)⟩
theorem lw_p33 : lw_okq (⟨"AccordHouse$Frame", "putNumbers", "([III)V"⟩, 11) := ⟨⟨by decide +kernel, by decide +kernel⟩, List.mem_of_getElem? (i := 1263) (by decide +kernel), List.mem_of_getElem? (i := 1391) (by decide +kernel), List.mem_of_getElem? (i := 1392) (by decide +kernel)⟩
theorem lw_p34 : lw_okq (⟨"AccordHouse$Frame", "putNumber", "(I)V"⟩, 11) := ⟨⟨by decide +kernel, by decide +kernel⟩, List.mem_of_getElem? (i := 1263) (by decide +kernel), List.mem_of_getElem? (i := 1395) (by decide +kernel), List.mem_of_getElem? (i := 1396) (by decide +kernel)⟩
theorem lw_p35 : lw_okq (⟨"AccordHouse$Frame", "putRow", "(LAccordHouse$Row;)V"⟩, 11) := ⟨⟨by decide +kernel, by decide +kernel⟩, List.mem_of_getElem? (i := 1263) (by decide +kernel), List.mem_of_getElem? (i := 1399) (by decide +kernel), List.mem_of_getElem? (i := 1400) (by decide +kernel)⟩
theorem lw_p36 : lw_okq (⟨"AccordHouse$Frame", "checkOf", "()I"⟩, 11) := ⟨⟨by decide +kernel, by decide +kernel⟩, List.mem_of_getElem? (i := 1263) (by decide +kernel), List.mem_of_getElem? (i := 1403) (by decide +kernel), List.mem_of_getElem? (i := 1404) (by decide +kernel)⟩
theorem lw_p37 : lw_okq (⟨"AccordHouse", "parentOf", "(LAccordHouse$Node;I)I"⟩, 10) := ⟨⟨by decide +kernel, by decide +kernel⟩, List.mem_of_getElem? (i := 33) (by decide +kernel), List.mem_of_getElem? (i := 1450) (by decide +kernel), List.mem_of_getElem? (i := 1451) (by decide +kernel)⟩
theorem lw_p38 : lw_okq (⟨"AccordHouse", "childrenOf", "(LAccordHouse$Node;I)I"⟩, 10) := ⟨⟨by decide +kernel, by decide +kernel⟩, List.mem_of_getElem? (i := 33) (by decide +kernel), List.mem_of_getElem? (i := 1455) (by decide +kernel), List.mem_of_getElem? (i := 1456) (by decide +kernel)⟩
theorem lw_p39 : lw_okq (⟨"AccordHouse", "findValues", "(LAccordHouse$View;IC)I"⟩, 10) := ⟨⟨by decide +kernel, by decide +kernel⟩, List.mem_of_getElem? (i := 33) (by decide +kernel), List.mem_of_getElem? (i := 1463) (by decide +kernel), List.mem_of_getElem? (i := 1464) (by decide +kernel)⟩
theorem lw_p40 : lw_okq (⟨"AccordHouse$View", "findBinds", "(I)V"⟩, 9) := ⟨⟨by decide +kernel, by decide +kernel⟩, List.mem_of_getElem? (i := 266) (by decide +kernel), List.mem_of_getElem? (i := 1472) (by decide +kernel), List.mem_of_getElem? (i := 1473) (by decide +kernel)⟩
theorem lw_p41 : lw_okq (⟨"AccordHouse", "sourceAt", "(LAccordHouse$View;ICI)LAccordHouse$Row;"⟩, 10) := ⟨⟨by decide +kernel, by decide +kernel⟩, List.mem_of_getElem? (i := 33) (by decide +kernel), List.mem_of_getElem? (i := 1480) (by decide +kernel), List.mem_of_getElem? (i := 1481) (by decide +kernel)⟩
theorem lw_p42 : lw_okq (⟨"AccordHouse", "rankIn", "(LAccordHouse$View;III)V"⟩, 10) := ⟨⟨by decide +kernel, by decide +kernel⟩, List.mem_of_getElem? (i := 33) (by decide +kernel), List.mem_of_getElem? (i := 1507) (by decide +kernel), List.mem_of_getElem? (i := 1508) (by decide +kernel)⟩
theorem lw_p43 : lw_okq (⟨"AccordHouseModel", "isMadeNow", "(II)Z"⟩, 80) := ⟨⟨by decide +kernel, by decide +kernel⟩, List.mem_of_getElem? (i := 1687) (by decide +kernel), List.mem_of_getElem? (i := 1971) (by decide +kernel), List.mem_of_getElem? (i := 1972) (by decide +kernel)⟩
theorem lw_p44 : lw_okq (⟨"AccordHouseModel", "isApplied", "(II)Z"⟩, 80) := ⟨⟨by decide +kernel, by decide +kernel⟩, List.mem_of_getElem? (i := 1687) (by decide +kernel), List.mem_of_getElem? (i := 1978) (by decide +kernel), List.mem_of_getElem? (i := 1979) (by decide +kernel)⟩
theorem lw_p45 : lw_okq (⟨"AccordHouseModel", "knownOf", "(II)I"⟩, 80) := ⟨⟨by decide +kernel, by decide +kernel⟩, List.mem_of_getElem? (i := 1687) (by decide +kernel), List.mem_of_getElem? (i := 1985) (by decide +kernel), List.mem_of_getElem? (i := 1986) (by decide +kernel)⟩
theorem lw_p46 : lw_okq (⟨"AccordHouseModel", "kindOf", "(I)I"⟩, 80) := ⟨⟨by decide +kernel, by decide +kernel⟩, List.mem_of_getElem? (i := 1687) (by decide +kernel), List.mem_of_getElem? (i := 1992) (by decide +kernel), List.mem_of_getElem? (i := 1993) (by decide +kernel)⟩
theorem lw_p47 : lw_okq (⟨"AccordHouseModel", "ruleOf", "(II)I"⟩, 80) := ⟨⟨by decide +kernel, by decide +kernel⟩, List.mem_of_getElem? (i := 1687) (by decide +kernel), List.mem_of_getElem? (i := 1996) (by decide +kernel), List.mem_of_getElem? (i := 1997) (by decide +kernel)⟩
def lw_privs_3 : List (MethodName × Nat) := [(⟨"AccordHouse$Frame", "putByte", "(I)V"⟩, 11), (⟨"AccordHouse$Frame", "putNumbers", "([III)V"⟩, 11), (⟨"AccordHouse$Frame", "putNumber", "(I)V"⟩, 11), (⟨"AccordHouse$Frame", "putRow", "(LAccordHouse$Row;)V"⟩, 11), (⟨"AccordHouse$Frame", "checkOf", "()I"⟩, 11), (⟨"AccordHouse", "parentOf", "(LAccordHouse$Node;I)I"⟩, 10), (⟨"AccordHouse", "childrenOf", "(LAccordHouse$Node;I)I"⟩, 10), (⟨"AccordHouse", "findValues", "(LAccordHouse$View;IC)I"⟩, 10), (⟨"AccordHouse$View", "findBinds", "(I)V"⟩, 9), (⟨"AccordHouse", "sourceAt", "(LAccordHouse$View;ICI)LAccordHouse$Row;"⟩, 10), (⟨"AccordHouse", "rankIn", "(LAccordHouse$View;III)V"⟩, 10), (⟨"AccordHouseModel", "isMadeNow", "(II)Z"⟩, 80), (⟨"AccordHouseModel", "isApplied", "(II)Z"⟩, 80), (⟨"AccordHouseModel", "knownOf", "(II)I"⟩, 80), (⟨"AccordHouseModel", "kindOf", "(I)I"⟩, 80), (⟨"AccordHouseModel", "ruleOf", "(II)I"⟩, 80)]
theorem lw_r3 : ∀ q ∈ lw_privs_3, lw_okq q := List.forall_mem_cons.mpr ⟨lw_p32, List.forall_mem_cons.mpr ⟨lw_p33, List.forall_mem_cons.mpr ⟨lw_p34, List.forall_mem_cons.mpr ⟨lw_p35, List.forall_mem_cons.mpr ⟨lw_p36, List.forall_mem_cons.mpr ⟨lw_p37, List.forall_mem_cons.mpr ⟨lw_p38, List.forall_mem_cons.mpr ⟨lw_p39, List.forall_mem_cons.mpr ⟨lw_p40, List.forall_mem_cons.mpr ⟨lw_p41, List.forall_mem_cons.mpr ⟨lw_p42, List.forall_mem_cons.mpr ⟨lw_p43, List.forall_mem_cons.mpr ⟨lw_p44, List.forall_mem_cons.mpr ⟨lw_p45, List.forall_mem_cons.mpr ⟨lw_p46, List.forall_mem_cons.mpr ⟨lw_p47, fun _ h => absurd h List.not_mem_nil⟩⟩⟩⟩⟩⟩⟩⟩⟩⟩⟩⟩⟩⟩⟩⟩
theorem lw_p48 : lw_okq (⟨"AccordHouseModel", "isThereNow", "(II)Z"⟩, 80) := ⟨⟨by decide +kernel, by decide +kernel⟩, List.mem_of_getElem? (i := 1687) (by decide +kernel), List.mem_of_getElem? (i := 2003) (by decide +kernel), List.mem_of_getElem? (i := 2004) (by decide +kernel)⟩
theorem lw_p49 : lw_okq (⟨"AccordHouseModel", "isThere", "(III)Z"⟩, 80) := ⟨⟨by decide +kernel, by decide +kernel⟩, List.mem_of_getElem? (i := 1687) (by decide +kernel), List.mem_of_getElem? (i := 2007) (by decide +kernel), List.mem_of_getElem? (i := 2008) (by decide +kernel)⟩
theorem lw_p50 : lw_okq (⟨"AccordHouseModel", "isMade", "(III)Z"⟩, 80) := ⟨⟨by decide +kernel, by decide +kernel⟩, List.mem_of_getElem? (i := 1687) (by decide +kernel), List.mem_of_getElem? (i := 2011) (by decide +kernel), List.mem_of_getElem? (i := 2012) (by decide +kernel)⟩
theorem lw_p51 : lw_okq (⟨"AccordHouseModel", "rowAt", "(II)I"⟩, 80) := ⟨⟨by decide +kernel, by decide +kernel⟩, List.mem_of_getElem? (i := 1687) (by decide +kernel), List.mem_of_getElem? (i := 2015) (by decide +kernel), List.mem_of_getElem? (i := 2016) (by decide +kernel)⟩
theorem lw_p52 : lw_okq (⟨"AccordHouseModel", "judge", "(II)V"⟩, 80) := ⟨⟨by decide +kernel, by decide +kernel⟩, List.mem_of_getElem? (i := 1687) (by decide +kernel), List.mem_of_getElem? (i := 2019) (by decide +kernel), List.mem_of_getElem? (i := 2020) (by decide +kernel)⟩
theorem lw_p53 : lw_okq (⟨"AccordHouseModel", "refusal", "(IIIIII)I"⟩, 80) := ⟨⟨by decide +kernel, by decide +kernel⟩, List.mem_of_getElem? (i := 1687) (by decide +kernel), List.mem_of_getElem? (i := 2023) (by decide +kernel), List.mem_of_getElem? (i := 2024) (by decide +kernel)⟩
theorem lw_p54 : lw_okq (⟨"AccordHouseModel", "look", "(IIII)V"⟩, 80) := ⟨⟨by decide +kernel, by decide +kernel⟩, List.mem_of_getElem? (i := 1687) (by decide +kernel), List.mem_of_getElem? (i := 2027) (by decide +kernel), List.mem_of_getElem? (i := 2028) (by decide +kernel)⟩
theorem lw_p55 : lw_okq (⟨"AccordHouseModel", "latest", "(IIII)V"⟩, 80) := ⟨⟨by decide +kernel, by decide +kernel⟩, List.mem_of_getElem? (i := 1687) (by decide +kernel), List.mem_of_getElem? (i := 2031) (by decide +kernel), List.mem_of_getElem? (i := 2032) (by decide +kernel)⟩
theorem lw_p56 : lw_okq (⟨"AccordHouseModel", "isOf", "(IIII)Z"⟩, 80) := ⟨⟨by decide +kernel, by decide +kernel⟩, List.mem_of_getElem? (i := 1687) (by decide +kernel), List.mem_of_getElem? (i := 2035) (by decide +kernel), List.mem_of_getElem? (i := 2036) (by decide +kernel)⟩
theorem lw_p57 : lw_okq (⟨"AccordHouseModel", "isBefore", "(II)Z"⟩, 80) := ⟨⟨by decide +kernel, by decide +kernel⟩, List.mem_of_getElem? (i := 1687) (by decide +kernel), List.mem_of_getElem? (i := 2039) (by decide +kernel), List.mem_of_getElem? (i := 2040) (by decide +kernel)⟩
theorem lw_p58 : lw_okq (⟨"AccordHouseModel", "put", "(II)V"⟩, 80) := ⟨⟨by decide +kernel, by decide +kernel⟩, List.mem_of_getElem? (i := 1687) (by decide +kernel), List.mem_of_getElem? (i := 2043) (by decide +kernel), List.mem_of_getElem? (i := 2044) (by decide +kernel)⟩
theorem lw_p59 : lw_okq (⟨"AccordHouseModel", "several", "(IIII)V"⟩, 80) := ⟨⟨by decide +kernel, by decide +kernel⟩, List.mem_of_getElem? (i := 1687) (by decide +kernel), List.mem_of_getElem? (i := 2047) (by decide +kernel), List.mem_of_getElem? (i := 2048) (by decide +kernel)⟩
theorem lw_p60 : lw_okq (⟨"AccordHouseModel", "knew", "(II)Z"⟩, 80) := ⟨⟨by decide +kernel, by decide +kernel⟩, List.mem_of_getElem? (i := 1687) (by decide +kernel), List.mem_of_getElem? (i := 2051) (by decide +kernel), List.mem_of_getElem? (i := 2052) (by decide +kernel)⟩
theorem lw_p61 : lw_okq (⟨"AccordHouseModel", "putInOrder", "(II)V"⟩, 80) := ⟨⟨by decide +kernel, by decide +kernel⟩, List.mem_of_getElem? (i := 1687) (by decide +kernel), List.mem_of_getElem? (i := 2055) (by decide +kernel), List.mem_of_getElem? (i := 2056) (by decide +kernel)⟩
theorem lw_p62 : lw_okq (⟨"AccordHouseModel", "sum", "(IIII)V"⟩, 80) := ⟨⟨by decide +kernel, by decide +kernel⟩, List.mem_of_getElem? (i := 1687) (by decide +kernel), List.mem_of_getElem? (i := 2059) (by decide +kernel), List.mem_of_getElem? (i := 2060) (by decide +kernel)⟩
theorem lw_p63 : lw_okq (⟨"AccordHouseModel", "shares", "(IIII)V"⟩, 80) := ⟨⟨by decide +kernel, by decide +kernel⟩, List.mem_of_getElem? (i := 1687) (by decide +kernel), List.mem_of_getElem? (i := 2063) (by decide +kernel), List.mem_of_getElem? (i := 2064) (by decide +kernel)⟩
def lw_privs_4 : List (MethodName × Nat) := [(⟨"AccordHouseModel", "isThereNow", "(II)Z"⟩, 80), (⟨"AccordHouseModel", "isThere", "(III)Z"⟩, 80), (⟨"AccordHouseModel", "isMade", "(III)Z"⟩, 80), (⟨"AccordHouseModel", "rowAt", "(II)I"⟩, 80), (⟨"AccordHouseModel", "judge", "(II)V"⟩, 80), (⟨"AccordHouseModel", "refusal", "(IIIIII)I"⟩, 80), (⟨"AccordHouseModel", "look", "(IIII)V"⟩, 80), (⟨"AccordHouseModel", "latest", "(IIII)V"⟩, 80), (⟨"AccordHouseModel", "isOf", "(IIII)Z"⟩, 80), (⟨"AccordHouseModel", "isBefore", "(II)Z"⟩, 80), (⟨"AccordHouseModel", "put", "(II)V"⟩, 80), (⟨"AccordHouseModel", "several", "(IIII)V"⟩, 80), (⟨"AccordHouseModel", "knew", "(II)Z"⟩, 80), (⟨"AccordHouseModel", "putInOrder", "(II)V"⟩, 80), (⟨"AccordHouseModel", "sum", "(IIII)V"⟩, 80), (⟨"AccordHouseModel", "shares", "(IIII)V"⟩, 80)]
theorem lw_r4 : ∀ q ∈ lw_privs_4, lw_okq q := List.forall_mem_cons.mpr ⟨lw_p48, List.forall_mem_cons.mpr ⟨lw_p49, List.forall_mem_cons.mpr ⟨lw_p50, List.forall_mem_cons.mpr ⟨lw_p51, List.forall_mem_cons.mpr ⟨lw_p52, List.forall_mem_cons.mpr ⟨lw_p53, List.forall_mem_cons.mpr ⟨lw_p54, List.forall_mem_cons.mpr ⟨lw_p55, List.forall_mem_cons.mpr ⟨lw_p56, List.forall_mem_cons.mpr ⟨lw_p57, List.forall_mem_cons.mpr ⟨lw_p58, List.forall_mem_cons.mpr ⟨lw_p59, List.forall_mem_cons.mpr ⟨lw_p60, List.forall_mem_cons.mpr ⟨lw_p61, List.forall_mem_cons.mpr ⟨lw_p62, List.forall_mem_cons.mpr ⟨lw_p63, fun _ h => absurd h List.not_mem_nil⟩⟩⟩⟩⟩⟩⟩⟩⟩⟩⟩⟩⟩⟩⟩⟩
theorem lw_p64 : lw_okq (⟨"AccordHouseModel", "set", "(IIII)V"⟩, 80) := ⟨⟨by decide +kernel, by decide +kernel⟩, List.mem_of_getElem? (i := 1687) (by decide +kernel), List.mem_of_getElem? (i := 2067) (by decide +kernel), List.mem_of_getElem? (i := 2068) (by decide +kernel)⟩
theorem lw_p65 : lw_okq (⟨"AccordHouseModel", "holds", "(III)Z"⟩, 80) := ⟨⟨by decide +kernel, by decide +kernel⟩, List.mem_of_getElem? (i := 1687) (by decide +kernel), List.mem_of_getElem? (i := 2071) (by decide +kernel), List.mem_of_getElem? (i := 2072) (by decide +kernel)⟩
theorem lw_p66 : lw_okq (⟨"AccordHouseModel", "keys", "(IIII)V"⟩, 80) := ⟨⟨by decide +kernel, by decide +kernel⟩, List.mem_of_getElem? (i := 1687) (by decide +kernel), List.mem_of_getElem? (i := 2075) (by decide +kernel), List.mem_of_getElem? (i := 2076) (by decide +kernel)⟩
theorem lw_p67 : lw_okq (⟨"AccordHouseModel", "text", "(IIII)V"⟩, 80) := ⟨⟨by decide +kernel, by decide +kernel⟩, List.mem_of_getElem? (i := 1687) (by decide +kernel), List.mem_of_getElem? (i := 2079) (by decide +kernel), List.mem_of_getElem? (i := 2080) (by decide +kernel)⟩
theorem lw_p68 : lw_okq (⟨"AccordHouseModel", "isErased", "(III)Z"⟩, 80) := ⟨⟨by decide +kernel, by decide +kernel⟩, List.mem_of_getElem? (i := 1687) (by decide +kernel), List.mem_of_getElem? (i := 2086) (by decide +kernel), List.mem_of_getElem? (i := 2087) (by decide +kernel)⟩
theorem lw_p69 : lw_okq (⟨"AccordHouseModel", "holder", "(II)I"⟩, 80) := ⟨⟨by decide +kernel, by decide +kernel⟩, List.mem_of_getElem? (i := 1687) (by decide +kernel), List.mem_of_getElem? (i := 2090) (by decide +kernel), List.mem_of_getElem? (i := 2091) (by decide +kernel)⟩
theorem lw_p70 : lw_okq (⟨"AccordHouseModel", "nowOf", "(I)I"⟩, 80) := ⟨⟨by decide +kernel, by decide +kernel⟩, List.mem_of_getElem? (i := 1687) (by decide +kernel), List.mem_of_getElem? (i := 2094) (by decide +kernel), List.mem_of_getElem? (i := 2095) (by decide +kernel)⟩
theorem lw_p71 : lw_okq (⟨"AccordHouseModel", "findGood", "(I)I"⟩, 80) := ⟨⟨by decide +kernel, by decide +kernel⟩, List.mem_of_getElem? (i := 1687) (by decide +kernel), List.mem_of_getElem? (i := 2098) (by decide +kernel), List.mem_of_getElem? (i := 2099) (by decide +kernel)⟩
theorem lw_p72 : lw_okq (⟨"AccordHouseModel", "isStable", "(II)Z"⟩, 80) := ⟨⟨by decide +kernel, by decide +kernel⟩, List.mem_of_getElem? (i := 1687) (by decide +kernel), List.mem_of_getElem? (i := 2105) (by decide +kernel), List.mem_of_getElem? (i := 2106) (by decide +kernel)⟩
theorem lw_p73 : lw_okq (⟨"AccordHouseModel", "seenOf", "(III)I"⟩, 80) := ⟨⟨by decide +kernel, by decide +kernel⟩, List.mem_of_getElem? (i := 1687) (by decide +kernel), List.mem_of_getElem? (i := 2109) (by decide +kernel), List.mem_of_getElem? (i := 2110) (by decide +kernel)⟩
theorem lw_p74 : lw_okq (⟨"AccordHouseModel", "findUndone", "(I)I"⟩, 80) := ⟨⟨by decide +kernel, by decide +kernel⟩, List.mem_of_getElem? (i := 1687) (by decide +kernel), List.mem_of_getElem? (i := 2113) (by decide +kernel), List.mem_of_getElem? (i := 2114) (by decide +kernel)⟩
theorem lw_p75 : lw_okq (⟨"AccordHouseModel", "make", "(IIIIII)I"⟩, 80) := ⟨⟨by decide +kernel, by decide +kernel⟩, List.mem_of_getElem? (i := 1687) (by decide +kernel), List.mem_of_getElem? (i := 2117) (by decide +kernel), List.mem_of_getElem? (i := 2118) (by decide +kernel)⟩
theorem lw_p76 : lw_okq (⟨"AccordHouseModel", "apply", "(II)V"⟩, 80) := ⟨⟨by decide +kernel, by decide +kernel⟩, List.mem_of_getElem? (i := 1687) (by decide +kernel), List.mem_of_getElem? (i := 2121) (by decide +kernel), List.mem_of_getElem? (i := 2122) (by decide +kernel)⟩
theorem lw_p77 : lw_okq (⟨"AccordHouseModel", "boundAt", "(I)I"⟩, 80) := ⟨⟨by decide +kernel, by decide +kernel⟩, List.mem_of_getElem? (i := 1687) (by decide +kernel), List.mem_of_getElem? (i := 2125) (by decide +kernel), List.mem_of_getElem? (i := 2126) (by decide +kernel)⟩
theorem lw_p78 : lw_okq (⟨"AccordHouseModel", "findParents", "(II)V"⟩, 80) := ⟨⟨by decide +kernel, by decide +kernel⟩, List.mem_of_getElem? (i := 1687) (by decide +kernel), List.mem_of_getElem? (i := 2129) (by decide +kernel), List.mem_of_getElem? (i := 2130) (by decide +kernel)⟩
theorem lw_p79 : lw_okq (⟨"AccordHouseModel", "findObjects", "(II)V"⟩, 80) := ⟨⟨by decide +kernel, by decide +kernel⟩, List.mem_of_getElem? (i := 1687) (by decide +kernel), List.mem_of_getElem? (i := 2133) (by decide +kernel), List.mem_of_getElem? (i := 2134) (by decide +kernel)⟩
def lw_privs_5 : List (MethodName × Nat) := [(⟨"AccordHouseModel", "set", "(IIII)V"⟩, 80), (⟨"AccordHouseModel", "holds", "(III)Z"⟩, 80), (⟨"AccordHouseModel", "keys", "(IIII)V"⟩, 80), (⟨"AccordHouseModel", "text", "(IIII)V"⟩, 80), (⟨"AccordHouseModel", "isErased", "(III)Z"⟩, 80), (⟨"AccordHouseModel", "holder", "(II)I"⟩, 80), (⟨"AccordHouseModel", "nowOf", "(I)I"⟩, 80), (⟨"AccordHouseModel", "findGood", "(I)I"⟩, 80), (⟨"AccordHouseModel", "isStable", "(II)Z"⟩, 80), (⟨"AccordHouseModel", "seenOf", "(III)I"⟩, 80), (⟨"AccordHouseModel", "findUndone", "(I)I"⟩, 80), (⟨"AccordHouseModel", "make", "(IIIIII)I"⟩, 80), (⟨"AccordHouseModel", "apply", "(II)V"⟩, 80), (⟨"AccordHouseModel", "boundAt", "(I)I"⟩, 80), (⟨"AccordHouseModel", "findParents", "(II)V"⟩, 80), (⟨"AccordHouseModel", "findObjects", "(II)V"⟩, 80)]
theorem lw_r5 : ∀ q ∈ lw_privs_5, lw_okq q := List.forall_mem_cons.mpr ⟨lw_p64, List.forall_mem_cons.mpr ⟨lw_p65, List.forall_mem_cons.mpr ⟨lw_p66, List.forall_mem_cons.mpr ⟨lw_p67, List.forall_mem_cons.mpr ⟨lw_p68, List.forall_mem_cons.mpr ⟨lw_p69, List.forall_mem_cons.mpr ⟨lw_p70, List.forall_mem_cons.mpr ⟨lw_p71, List.forall_mem_cons.mpr ⟨lw_p72, List.forall_mem_cons.mpr ⟨lw_p73, List.forall_mem_cons.mpr ⟨lw_p74, List.forall_mem_cons.mpr ⟨lw_p75, List.forall_mem_cons.mpr ⟨lw_p76, List.forall_mem_cons.mpr ⟨lw_p77, List.forall_mem_cons.mpr ⟨lw_p78, List.forall_mem_cons.mpr ⟨lw_p79, fun _ h => absurd h List.not_mem_nil⟩⟩⟩⟩⟩⟩⟩⟩⟩⟩⟩⟩⟩⟩⟩⟩
theorem lw_p80 : lw_okq (⟨"AccordHouseModel", "isRing", "(II)Z"⟩, 80) := ⟨⟨by decide +kernel, by decide +kernel⟩, List.mem_of_getElem? (i := 1687) (by decide +kernel), List.mem_of_getElem? (i := 2137) (by decide +kernel), List.mem_of_getElem? (i := 2138) (by decide +kernel)⟩
theorem lw_p81 : lw_okq (⟨"AccordHouseModel", "placeOf", "(I)I"⟩, 80) := ⟨⟨by decide +kernel, by decide +kernel⟩, List.mem_of_getElem? (i := 1687) (by decide +kernel), List.mem_of_getElem? (i := 2141) (by decide +kernel), List.mem_of_getElem? (i := 2142) (by decide +kernel)⟩
theorem lw_p82 : lw_okq (⟨"AccordHouseModel", "keepLists", "(I)V"⟩, 80) := ⟨⟨by decide +kernel, by decide +kernel⟩, List.mem_of_getElem? (i := 1687) (by decide +kernel), List.mem_of_getElem? (i := 2145) (by decide +kernel), List.mem_of_getElem? (i := 2146) (by decide +kernel)⟩
theorem lw_p83 : lw_okq (⟨"AccordHouseModel", "findList", "(II)V"⟩, 80) := ⟨⟨by decide +kernel, by decide +kernel⟩, List.mem_of_getElem? (i := 1687) (by decide +kernel), List.mem_of_getElem? (i := 2149) (by decide +kernel), List.mem_of_getElem? (i := 2150) (by decide +kernel)⟩
theorem lw_p84 : lw_okq (⟨"AccordHouseModel", "latestOf", "(III)I"⟩, 80) := ⟨⟨by decide +kernel, by decide +kernel⟩, List.mem_of_getElem? (i := 1687) (by decide +kernel), List.mem_of_getElem? (i := 2153) (by decide +kernel), List.mem_of_getElem? (i := 2154) (by decide +kernel)⟩
theorem lw_p85 : lw_okq (⟨"AccordHouseModel", "drop", "(II)V"⟩, 80) := ⟨⟨by decide +kernel, by decide +kernel⟩, List.mem_of_getElem? (i := 1687) (by decide +kernel), List.mem_of_getElem? (i := 2157) (by decide +kernel), List.mem_of_getElem? (i := 2158) (by decide +kernel)⟩
theorem lw_p86 : lw_okq (⟨"AccordHouseModel", "tell", "(IIII)V"⟩, 80) := ⟨⟨by decide +kernel, by decide +kernel⟩, List.mem_of_getElem? (i := 1687) (by decide +kernel), List.mem_of_getElem? (i := 2161) (by decide +kernel), List.mem_of_getElem? (i := 2162) (by decide +kernel)⟩
theorem lw_p87 : lw_okq (⟨"AccordHouseModel", "tellLists", "(II)V"⟩, 80) := ⟨⟨by decide +kernel, by decide +kernel⟩, List.mem_of_getElem? (i := 1687) (by decide +kernel), List.mem_of_getElem? (i := 2165) (by decide +kernel), List.mem_of_getElem? (i := 2166) (by decide +kernel)⟩
theorem lw_p88 : lw_okq (⟨"AccordHouseModel", "turn", "(IIIII)V"⟩, 80) := ⟨⟨by decide +kernel, by decide +kernel⟩, List.mem_of_getElem? (i := 1687) (by decide +kernel), List.mem_of_getElem? (i := 2169) (by decide +kernel), List.mem_of_getElem? (i := 2170) (by decide +kernel)⟩
theorem lw_p89 : lw_okq (⟨"AccordHouseModel", "hasPart", "(III)Z"⟩, 80) := ⟨⟨by decide +kernel, by decide +kernel⟩, List.mem_of_getElem? (i := 1687) (by decide +kernel), List.mem_of_getElem? (i := 2177) (by decide +kernel), List.mem_of_getElem? (i := 2178) (by decide +kernel)⟩
theorem lw_p90 : lw_okq (⟨"AccordHouseModel", "isObject", "(II)Z"⟩, 80) := ⟨⟨by decide +kernel, by decide +kernel⟩, List.mem_of_getElem? (i := 1687) (by decide +kernel), List.mem_of_getElem? (i := 2181) (by decide +kernel), List.mem_of_getElem? (i := 2182) (by decide +kernel)⟩
theorem lw_p91 : lw_okq (⟨"AccordHouseModel", "findCommon", "(II)V"⟩, 80) := ⟨⟨by decide +kernel, by decide +kernel⟩, List.mem_of_getElem? (i := 1687) (by decide +kernel), List.mem_of_getElem? (i := 2185) (by decide +kernel), List.mem_of_getElem? (i := 2186) (by decide +kernel)⟩
theorem lw_p92 : lw_okq (⟨"AccordHouseModel", "walk", "(IIIIIZ)I"⟩, 80) := ⟨⟨by decide +kernel, by decide +kernel⟩, List.mem_of_getElem? (i := 1687) (by decide +kernel), List.mem_of_getElem? (i := 2189) (by decide +kernel), List.mem_of_getElem? (i := 2190) (by decide +kernel)⟩
theorem lw_p93 : lw_okq (⟨"AccordHouseModel", "canBeAsked", "(III)Z"⟩, 80) := ⟨⟨by decide +kernel, by decide +kernel⟩, List.mem_of_getElem? (i := 1687) (by decide +kernel), List.mem_of_getElem? (i := 2205) (by decide +kernel), List.mem_of_getElem? (i := 2206) (by decide +kernel)⟩
theorem lw_p94 : lw_okq (⟨"AccordHouseModel", "start", "(IIZ)V"⟩, 80) := ⟨⟨by decide +kernel, by decide +kernel⟩, List.mem_of_getElem? (i := 1687) (by decide +kernel), List.mem_of_getElem? (i := 2221) (by decide +kernel), List.mem_of_getElem? (i := 2222) (by decide +kernel)⟩
theorem lw_p95 : lw_okq (⟨"AccordHouseModel", "sentOf", "(III)I"⟩, 80) := ⟨⟨by decide +kernel, by decide +kernel⟩, List.mem_of_getElem? (i := 1687) (by decide +kernel), List.mem_of_getElem? (i := 2225) (by decide +kernel), List.mem_of_getElem? (i := 2226) (by decide +kernel)⟩
def lw_privs_6 : List (MethodName × Nat) := [(⟨"AccordHouseModel", "isRing", "(II)Z"⟩, 80), (⟨"AccordHouseModel", "placeOf", "(I)I"⟩, 80), (⟨"AccordHouseModel", "keepLists", "(I)V"⟩, 80), (⟨"AccordHouseModel", "findList", "(II)V"⟩, 80), (⟨"AccordHouseModel", "latestOf", "(III)I"⟩, 80), (⟨"AccordHouseModel", "drop", "(II)V"⟩, 80), (⟨"AccordHouseModel", "tell", "(IIII)V"⟩, 80), (⟨"AccordHouseModel", "tellLists", "(II)V"⟩, 80), (⟨"AccordHouseModel", "turn", "(IIIII)V"⟩, 80), (⟨"AccordHouseModel", "hasPart", "(III)Z"⟩, 80), (⟨"AccordHouseModel", "isObject", "(II)Z"⟩, 80), (⟨"AccordHouseModel", "findCommon", "(II)V"⟩, 80), (⟨"AccordHouseModel", "walk", "(IIIIIZ)I"⟩, 80), (⟨"AccordHouseModel", "canBeAsked", "(III)Z"⟩, 80), (⟨"AccordHouseModel", "start", "(IIZ)V"⟩, 80), (⟨"AccordHouseModel", "sentOf", "(III)I"⟩, 80)]
theorem lw_r6 : ∀ q ∈ lw_privs_6, lw_okq q := List.forall_mem_cons.mpr ⟨lw_p80, List.forall_mem_cons.mpr ⟨lw_p81, List.forall_mem_cons.mpr ⟨lw_p82, List.forall_mem_cons.mpr ⟨lw_p83, List.forall_mem_cons.mpr ⟨lw_p84, List.forall_mem_cons.mpr ⟨lw_p85, List.forall_mem_cons.mpr ⟨lw_p86, List.forall_mem_cons.mpr ⟨lw_p87, List.forall_mem_cons.mpr ⟨lw_p88, List.forall_mem_cons.mpr ⟨lw_p89, List.forall_mem_cons.mpr ⟨lw_p90, List.forall_mem_cons.mpr ⟨lw_p91, List.forall_mem_cons.mpr ⟨lw_p92, List.forall_mem_cons.mpr ⟨lw_p93, List.forall_mem_cons.mpr ⟨lw_p94, List.forall_mem_cons.mpr ⟨lw_p95, fun _ h => absurd h List.not_mem_nil⟩⟩⟩⟩⟩⟩⟩⟩⟩⟩⟩⟩⟩⟩⟩⟩
theorem lw_p96 : lw_okq (⟨"AccordHouseModel", "carry", "(II)V"⟩, 80) := ⟨⟨by decide +kernel, by decide +kernel⟩, List.mem_of_getElem? (i := 1687) (by decide +kernel), List.mem_of_getElem? (i := 2229) (by decide +kernel), List.mem_of_getElem? (i := 2230) (by decide +kernel)⟩
theorem lw_p97 : lw_okq (⟨"AccordHouseModel", "write", "(I)V"⟩, 80) := ⟨⟨by decide +kernel, by decide +kernel⟩, List.mem_of_getElem? (i := 1687) (by decide +kernel), List.mem_of_getElem? (i := 2237) (by decide +kernel), List.mem_of_getElem? (i := 2238) (by decide +kernel)⟩
theorem lw_p98 : lw_okq (⟨"AccordHouseModel", "addOctet", "(I)V"⟩, 80) := ⟨⟨by decide +kernel, by decide +kernel⟩, List.mem_of_getElem? (i := 1687) (by decide +kernel), List.mem_of_getElem? (i := 2241) (by decide +kernel), List.mem_of_getElem? (i := 2242) (by decide +kernel)⟩
theorem lw_p99 : lw_okq (⟨"AccordHouseModel", "number", "(I)V"⟩, 80) := ⟨⟨by decide +kernel, by decide +kernel⟩, List.mem_of_getElem? (i := 1687) (by decide +kernel), List.mem_of_getElem? (i := 2245) (by decide +kernel), List.mem_of_getElem? (i := 2246) (by decide +kernel)⟩
theorem lw_p100 : lw_okq (⟨"AccordHouseModel", "writeRow", "(I)V"⟩, 80) := ⟨⟨by decide +kernel, by decide +kernel⟩, List.mem_of_getElem? (i := 1687) (by decide +kernel), List.mem_of_getElem? (i := 2252) (by decide +kernel), List.mem_of_getElem? (i := 2253) (by decide +kernel)⟩
theorem lw_p101 : lw_okq (⟨"AccordHouseModel", "isBent", "(I)Z"⟩, 80) := ⟨⟨by decide +kernel, by decide +kernel⟩, List.mem_of_getElem? (i := 1687) (by decide +kernel), List.mem_of_getElem? (i := 2266) (by decide +kernel), List.mem_of_getElem? (i := 2267) (by decide +kernel)⟩
theorem lw_p102 : lw_okq (⟨"AccordHouseModel", "remove", "(I)V"⟩, 80) := ⟨⟨by decide +kernel, by decide +kernel⟩, List.mem_of_getElem? (i := 1687) (by decide +kernel), List.mem_of_getElem? (i := 2270) (by decide +kernel), List.mem_of_getElem? (i := 2271) (by decide +kernel)⟩
theorem lw_p103 : lw_okq (⟨"AccordHouseModel", "isReady", "(II)Z"⟩, 80) := ⟨⟨by decide +kernel, by decide +kernel⟩, List.mem_of_getElem? (i := 1687) (by decide +kernel), List.mem_of_getElem? (i := 2274) (by decide +kernel), List.mem_of_getElem? (i := 2275) (by decide +kernel)⟩
theorem lw_p104 : lw_okq (⟨"AccordHouseModel", "keep", "(II)V"⟩, 80) := ⟨⟨by decide +kernel, by decide +kernel⟩, List.mem_of_getElem? (i := 1687) (by decide +kernel), List.mem_of_getElem? (i := 2278) (by decide +kernel), List.mem_of_getElem? (i := 2279) (by decide +kernel)⟩
theorem lw_p105 : lw_okq (⟨"AccordHouseModel", "nextReady", "(I)I"⟩, 80) := ⟨⟨by decide +kernel, by decide +kernel⟩, List.mem_of_getElem? (i := 1687) (by decide +kernel), List.mem_of_getElem? (i := 2282) (by decide +kernel), List.mem_of_getElem? (i := 2283) (by decide +kernel)⟩
theorem lw_p106 : lw_okq (⟨"AccordHouseModel", "raise", "(II)V"⟩, 80) := ⟨⟨by decide +kernel, by decide +kernel⟩, List.mem_of_getElem? (i := 1687) (by decide +kernel), List.mem_of_getElem? (i := 2298) (by decide +kernel), List.mem_of_getElem? (i := 2299) (by decide +kernel)⟩
theorem lw_p107 : lw_okq (⟨"AccordHouseModel", "parentOf", "(II)I"⟩, 80) := ⟨⟨by decide +kernel, by decide +kernel⟩, List.mem_of_getElem? (i := 1687) (by decide +kernel), List.mem_of_getElem? (i := 2306) (by decide +kernel), List.mem_of_getElem? (i := 2307) (by decide +kernel)⟩
theorem lw_p108 : lw_okq (⟨"AccordHouseModel", "children", "(II)I"⟩, 80) := ⟨⟨by decide +kernel, by decide +kernel⟩, List.mem_of_getElem? (i := 1687) (by decide +kernel), List.mem_of_getElem? (i := 2310) (by decide +kernel), List.mem_of_getElem? (i := 2311) (by decide +kernel)⟩
theorem lw_p109 : lw_okq (⟨"AccordHouseModel", "there", "(I)I"⟩, 80) := ⟨⟨by decide +kernel, by decide +kernel⟩, List.mem_of_getElem? (i := 1687) (by decide +kernel), List.mem_of_getElem? (i := 2370) (by decide +kernel), List.mem_of_getElem? (i := 2371) (by decide +kernel)⟩
theorem lw_p110 : lw_okq (⟨"AccordHouseModel", "stables", "(I)I"⟩, 80) := ⟨⟨by decide +kernel, by decide +kernel⟩, List.mem_of_getElem? (i := 1687) (by decide +kernel), List.mem_of_getElem? (i := 2374) (by decide +kernel), List.mem_of_getElem? (i := 2375) (by decide +kernel)⟩
def lw_privs_7 : List (MethodName × Nat) := [(⟨"AccordHouseModel", "carry", "(II)V"⟩, 80), (⟨"AccordHouseModel", "write", "(I)V"⟩, 80), (⟨"AccordHouseModel", "addOctet", "(I)V"⟩, 80), (⟨"AccordHouseModel", "number", "(I)V"⟩, 80), (⟨"AccordHouseModel", "writeRow", "(I)V"⟩, 80), (⟨"AccordHouseModel", "isBent", "(I)Z"⟩, 80), (⟨"AccordHouseModel", "remove", "(I)V"⟩, 80), (⟨"AccordHouseModel", "isReady", "(II)Z"⟩, 80), (⟨"AccordHouseModel", "keep", "(II)V"⟩, 80), (⟨"AccordHouseModel", "nextReady", "(I)I"⟩, 80), (⟨"AccordHouseModel", "raise", "(II)V"⟩, 80), (⟨"AccordHouseModel", "parentOf", "(II)I"⟩, 80), (⟨"AccordHouseModel", "children", "(II)I"⟩, 80), (⟨"AccordHouseModel", "there", "(I)I"⟩, 80), (⟨"AccordHouseModel", "stables", "(I)I"⟩, 80)]
theorem lw_r7 : ∀ q ∈ lw_privs_7, lw_okq q := List.forall_mem_cons.mpr ⟨lw_p96, List.forall_mem_cons.mpr ⟨lw_p97, List.forall_mem_cons.mpr ⟨lw_p98, List.forall_mem_cons.mpr ⟨lw_p99, List.forall_mem_cons.mpr ⟨lw_p100, List.forall_mem_cons.mpr ⟨lw_p101, List.forall_mem_cons.mpr ⟨lw_p102, List.forall_mem_cons.mpr ⟨lw_p103, List.forall_mem_cons.mpr ⟨lw_p104, List.forall_mem_cons.mpr ⟨lw_p105, List.forall_mem_cons.mpr ⟨lw_p106, List.forall_mem_cons.mpr ⟨lw_p107, List.forall_mem_cons.mpr ⟨lw_p108, List.forall_mem_cons.mpr ⟨lw_p109, List.forall_mem_cons.mpr ⟨lw_p110, fun _ h => absurd h List.not_mem_nil⟩⟩⟩⟩⟩⟩⟩⟩⟩⟩⟩⟩⟩⟩⟩
def lw_privs : List (MethodName × Nat) := lw_privs_1 ++ (lw_privs_2 ++ (lw_privs_3 ++ (lw_privs_4 ++ (lw_privs_5 ++ (lw_privs_6 ++ (lw_privs_7))))))
def lw_tbl : List Cond := k2_sels lw_privs ++ tables_1
theorem lw_privs_ok : ∀ q ∈ lw_privs, lw_okq q := by
  show ∀ q ∈ lw_privs_1 ++ (lw_privs_2 ++ (lw_privs_3 ++ (lw_privs_4 ++ (lw_privs_5 ++ (lw_privs_6 ++ (lw_privs_7)))))), lw_okq q
  exact List.forall_mem_append.mpr ⟨lw_r1, List.forall_mem_append.mpr ⟨lw_r2, List.forall_mem_append.mpr ⟨lw_r3, List.forall_mem_append.mpr ⟨lw_r4, List.forall_mem_append.mpr ⟨lw_r5, List.forall_mem_append.mpr ⟨lw_r6, lw_r7⟩⟩⟩⟩⟩⟩
/-- the words that stay: a callee may ask for all of them -/
def lw_g : List Cond := lw_tbl.filter goodWord
theorem mt_in {ws : List Cond} (h : ∀ w ∈ ws, w ∈ lw_g) : GoodIn lw_g ws := fun w hw => ⟨h w hw, good_of_word (List.mem_filter.mp (h w hw)).2⟩
theorem mt_at (n : Nat) {w : Cond} (h : tables_1[n]? = some w) (g : goodWord w = true) : w ∈ lw_g := List.mem_filter.mpr ⟨List.mem_append_right _ (List.mem_of_getElem? h), g⟩
theorem mt_sel (n : Nat) {w : Cond} (h : (k2_sels lw_privs)[n]? = some w) (g : goodWord w = true) : w ∈ lw_g := List.mem_filter.mpr ⟨List.mem_append_left _ (List.mem_of_getElem? h), g⟩
theorem mt_list (ps : List Nat) {ws : List Cond} (hp : ws = ps.filterMap (fun i => tables_1[i]?)) (hg : ws.all goodWord = true) : ∀ w ∈ ws, w ∈ lw_g := by
  intro w hw
  have h1 := List.all_eq_true.mp hg w hw
  rw [hp] at hw
  obtain ⟨i, -, hi⟩ := List.mem_filterMap.mp hw
  exact mt_at i hi h1
def RX12 : String := "AccordHouseModel"
def TX12 : u_T := fun k => match k with
  | 0 => ("AccordHouseModel", "thrown", "I", false)
  | 1 => ("AccordHouseModel", "taped", "I", false)
  | 2 => ("AccordHouseModel", "tape", "[I", true)
  | 3 => ("AccordHouseModel", "fault", "I", false)
  | 4 => ("AccordHouseModel", "kinds", "I", false)
  | 5 => ("AccordHouseModel", "parts", "[I", true)
  | 6 => ("AccordHouseModel", "rule", "[I", true)
  | 7 => ("AccordHouseModel", "made", "[I", true)
  | 8 => ("AccordHouseModel", "makes", "[I", true)
  | 9 => ("AccordHouseModel", "sort", "[I", true)
  | 10 => ("AccordHouseModel", "itsObject", "[I", true)
  | 11 => ("AccordHouseModel", "itsPart", "[I", true)
  | 12 => ("AccordHouseModel", "v", "[I", true)
  | 13 => ("AccordHouseModel", "w", "[I", true)
  | 14 => ("AccordHouseModel", "time", "[I", true)
  | 15 => ("AccordHouseModel", "stamp", "[I", true)
  | 16 => ("AccordHouseModel", "vector", "[I", true)
  | 17 => ("AccordHouseModel", "watch", "[I", true)
  | 18 => ("AccordHouseModel", "lastTime", "[I", true)
  | 19 => ("AccordHouseModel", "lastCount", "[I", true)
  | 20 => ("AccordHouseModel", "known", "[I", true)
  | 21 => ("AccordHouseModel", "seen", "[I", true)
  | 22 => ("AccordHouseModel", "sent", "[I", true)
  | 23 => ("AccordHouseModel", "applied", "[I", true)
  | 24 => ("AccordHouseModel", "order", "[I", true)
  | 25 => ("AccordHouseModel", "waits", "[I", true)
  | 26 => ("AccordHouseModel", "waiting", "[I", true)
  | 27 => ("AccordHouseModel", "news", "[I", true)
  | 28 => ("AccordHouseModel", "newsRow", "[I", true)
  | 29 => ("AccordHouseModel", "newsObject", "[I", true)
  | 30 => ("AccordHouseModel", "newsPart", "[I", true)
  | 31 => ("AccordHouseModel", "cursor", "[I", true)
  | 32 => ("AccordHouseModel", "stands", "[Z", true)
  | 33 => ("AccordHouseModel", "listKind", "[I", true)
  | 34 => ("AccordHouseModel", "listPart", "[I", true)
  | 35 => ("AccordHouseModel", "listLeast", "[I", true)
  | 36 => ("AccordHouseModel", "listMost", "[I", true)
  | 37 => ("AccordHouseModel", "turns", "[I", true)
  | 38 => ("AccordHouseModel", "turnRow", "[I", true)
  | 39 => ("AccordHouseModel", "turnList", "[I", true)
  | 40 => ("AccordHouseModel", "turnObject", "[I", true)
  | 41 => ("AccordHouseModel", "turnCame", "[I", true)
  | 42 => ("AccordHouseModel", "frames", "I", false)
  | 43 => ("AccordHouseModel", "lost", "I", false)
  | 44 => ("AccordHouseModel", "refused", "I", false)
  | 45 => ("AccordHouseModel", "joins", "I", false)
  | 46 => ("AccordHouseModel", "frame", "[I", true)
  | 47 => ("AccordHouseModel", "good", "[Z", true)
  | 48 => ("AccordHouseModel", "judged", "[I", true)
  | 49 => ("AccordHouseModel", "many", "I", false)
  | 50 => ("AccordHouseModel", "value", "[I", true)
  | 51 => ("AccordHouseModel", "from", "[I", true)
  | 52 => ("AccordHouseModel", "lines", "I", false)
  | 53 => ("AccordHouseModel", "line", "[I", true)
  | 54 => ("AccordHouseModel", "objects", "I", false)
  | 55 => ("AccordHouseModel", "object", "[I", true)
  | 56 => ("AccordHouseModel", "parent", "[I", true)
  | 57 => ("AccordHouseModel", "moves", "I", false)
  | 58 => ("AccordHouseModel", "move", "[I", true)
  | 59 => ("AccordHouseModel", "held", "I", false)
  | 60 => ("AccordHouseModel", "hold", "[I", true)
  | 61 => ("AccordHouseModel", "before", "I", false)
  | 62 => ("AccordHouseModel", "old", "[I", true)
  | 63 => ("AccordHouseModel", "oldBound", "[I", true)
  | 64 => ("AccordHouseModel", "oldParent", "[I", true)
  | 65 => ("AccordHouseModel", "oldList", "[I", true)
  | 66 => ("AccordHouseModel", "oldMany", "[I", true)
  | 67 => ("AccordHouseModel", "listed", "I", false)
  | 68 => ("AccordHouseModel", "inList", "[I", true)
  | 69 => ("AccordHouseModel", "givenV", "I", false)
  | 70 => ("AccordHouseModel", "givenW", "I", false)
  | 71 => ("AccordHouseModel", "common", "[I", true)
  | 72 => ("AccordHouseModel", "there", "[I", true)
  | 73 => ("AccordHouseModel", "letter", "[I", true)
  | 74 => ("AccordHouseModel", "bytes", "I", false)
  | 75 => ("AccordHouseModel", "octet", "[I", true)
  | 76 => ("AccordHouseModel", "hand", "[I", true)
  | 77 => ("AccordHouseModel", "ranks", "I", false)
  | 78 => ("AccordHouseModel", "ranked", "[I", true)
  | _ => ("AccordHouseModel", "rankedBy", "[I", true)
def tyX12 : Nat → FieldType := fun k => match k with
  | 0 => .int
  | 1 => .int
  | 2 => .array .int
  | 3 => .int
  | 4 => .int
  | 5 => .array .int
  | 6 => .array .int
  | 7 => .array .int
  | 8 => .array .int
  | 9 => .array .int
  | 10 => .array .int
  | 11 => .array .int
  | 12 => .array .int
  | 13 => .array .int
  | 14 => .array .int
  | 15 => .array .int
  | 16 => .array .int
  | 17 => .array .int
  | 18 => .array .int
  | 19 => .array .int
  | 20 => .array .int
  | 21 => .array .int
  | 22 => .array .int
  | 23 => .array .int
  | 24 => .array .int
  | 25 => .array .int
  | 26 => .array .int
  | 27 => .array .int
  | 28 => .array .int
  | 29 => .array .int
  | 30 => .array .int
  | 31 => .array .int
  | 32 => .array .boolean
  | 33 => .array .int
  | 34 => .array .int
  | 35 => .array .int
  | 36 => .array .int
  | 37 => .array .int
  | 38 => .array .int
  | 39 => .array .int
  | 40 => .array .int
  | 41 => .array .int
  | 42 => .int
  | 43 => .int
  | 44 => .int
  | 45 => .int
  | 46 => .array .int
  | 47 => .array .boolean
  | 48 => .array .int
  | 49 => .int
  | 50 => .array .int
  | 51 => .array .int
  | 52 => .int
  | 53 => .array .int
  | 54 => .int
  | 55 => .array .int
  | 56 => .array .int
  | 57 => .int
  | 58 => .array .int
  | 59 => .int
  | 60 => .array .int
  | 61 => .int
  | 62 => .array .int
  | 63 => .array .int
  | 64 => .array .int
  | 65 => .array .int
  | 66 => .array .int
  | 67 => .int
  | 68 => .array .int
  | 69 => .int
  | 70 => .int
  | 71 => .array .int
  | 72 => .array .int
  | 73 => .array .int
  | 74 => .int
  | 75 => .array .int
  | 76 => .array .int
  | 77 => .int
  | 78 => .array .int
  | _ => .array .int
abbrev wsX120 : List Cond := u_ws RX12 TX12 80
theorem nmX12 : ∀ a, a < 80 → ∀ b, b < 80 → a ≠ b → (TX12 a).2.1 ≠ (TX12 b).2.1 := by decide +kernel
theorem tyX12_ok : ∀ k, k < 80 → parseFieldDescriptor (TX12 k).2.2.1 = some (tyX12 k) := by decide +kernel
abbrev cX12_init : ByteArray := prog_14_method_1_code
def yX12_init : MethodName := ⟨RX12, "<init>", "()V"⟩
abbrev cX12_thrown : ByteArray := prog_14_method_2_code
def yX12_thrown : MethodName := ⟨RX12, "thrown", "()I"⟩
abbrev cX12_within : ByteArray := prog_14_method_3_code
def yX12_within : MethodName := ⟨RX12, "within", "(III)Z"⟩
abbrev cX12_type : ByteArray := prog_14_method_4_code
def yX12_type : MethodName := ⟨RX12, "type", "(JI)Z"⟩
abbrev cX12_isRule : ByteArray := prog_14_method_5_code
def yX12_isRule : MethodName := ⟨RX12, "isRule", "(I)Z"⟩
abbrev cX12_kind : ByteArray := prog_14_method_6_code
def yX12_kind : MethodName := ⟨RX12, "kind", "()I"⟩
abbrev cX12_fault : ByteArray := prog_14_method_7_code
def yX12_fault : MethodName := ⟨RX12, "fault", "()I"⟩
abbrev cX12_tick : ByteArray := prog_14_method_8_code
def yX12_tick : MethodName := ⟨RX12, "tick", "(II)I"⟩
abbrev cX12_nodeOf : ByteArray := prog_14_method_9_code
def yX12_nodeOf : MethodName := ⟨RX12, "nodeOf", "(I)I"⟩
abbrev cX12_numberOf : ByteArray := prog_14_method_10_code
def yX12_numberOf : MethodName := ⟨RX12, "numberOf", "(I)I"⟩
abbrev cX12_nameOf : ByteArray := prog_14_method_11_code
def yX12_nameOf : MethodName := ⟨RX12, "nameOf", "(I)I"⟩
abbrev cX12_rowOf : ByteArray := prog_14_method_12_code
def yX12_rowOf : MethodName := ⟨RX12, "rowOf", "(I)I"⟩
abbrev cX12_isBefore : ByteArray := prog_14_method_13_code
def yX12_isBefore : MethodName := ⟨RX12, "isBefore", "(II)Z"⟩
abbrev cX12_knew : ByteArray := prog_14_method_14_code
def yX12_knew : MethodName := ⟨RX12, "knew", "(II)Z"⟩
abbrev cX12_knownOf : ByteArray := prog_14_method_15_code
def yX12_knownOf : MethodName := ⟨RX12, "knownOf", "(II)I"⟩
abbrev cX12_seenOf : ByteArray := prog_14_method_16_code
def yX12_seenOf : MethodName := ⟨RX12, "seenOf", "(III)I"⟩
abbrev cX12_isApplied : ByteArray := prog_14_method_17_code
def yX12_isApplied : MethodName := ⟨RX12, "isApplied", "(II)Z"⟩
abbrev cX12_rowAt : ByteArray := prog_14_method_18_code
def yX12_rowAt : MethodName := ⟨RX12, "rowAt", "(II)I"⟩
abbrev cX12_judge : ByteArray := prog_14_method_19_code
def yX12_judge : MethodName := ⟨RX12, "judge", "(II)V"⟩
abbrev cX12_isMade : ByteArray := prog_14_method_20_code
def yX12_isMade : MethodName := ⟨RX12, "isMade", "(III)Z"⟩
abbrev cX12_isMadeNow : ByteArray := prog_14_method_21_code
def yX12_isMadeNow : MethodName := ⟨RX12, "isMadeNow", "(II)Z"⟩
abbrev cX12_isThere : ByteArray := prog_14_method_22_code
def yX12_isThere : MethodName := ⟨RX12, "isThere", "(III)Z"⟩
abbrev cX12_isThereNow : ByteArray := prog_14_method_23_code
def yX12_isThereNow : MethodName := ⟨RX12, "isThereNow", "(II)Z"⟩
abbrev cX12_kindOf : ByteArray := prog_14_method_24_code
def yX12_kindOf : MethodName := ⟨RX12, "kindOf", "(I)I"⟩
abbrev cX12_ruleOf : ByteArray := prog_14_method_25_code
def yX12_ruleOf : MethodName := ⟨RX12, "ruleOf", "(II)I"⟩
abbrev cX12_isOf : ByteArray := prog_14_method_26_code
def yX12_isOf : MethodName := ⟨RX12, "isOf", "(IIII)Z"⟩
abbrev cX12_put : ByteArray := prog_14_method_27_code
def yX12_put : MethodName := ⟨RX12, "put", "(II)V"⟩
abbrev cX12_look : ByteArray := prog_14_method_28_code
def yX12_look : MethodName := ⟨RX12, "look", "(IIII)V"⟩
abbrev cX12_latest : ByteArray := prog_14_method_29_code
def yX12_latest : MethodName := ⟨RX12, "latest", "(IIII)V"⟩
abbrev cX12_putInOrder : ByteArray := prog_14_method_30_code
def yX12_putInOrder : MethodName := ⟨RX12, "putInOrder", "(II)V"⟩
abbrev cX12_several : ByteArray := prog_14_method_31_code
def yX12_several : MethodName := ⟨RX12, "several", "(IIII)V"⟩
abbrev cX12_sum : ByteArray := prog_14_method_32_code
def yX12_sum : MethodName := ⟨RX12, "sum", "(IIII)V"⟩
abbrev cX12_shares : ByteArray := prog_14_method_33_code
def yX12_shares : MethodName := ⟨RX12, "shares", "(IIII)V"⟩
abbrev cX12_holds : ByteArray := prog_14_method_34_code
def yX12_holds : MethodName := ⟨RX12, "holds", "(III)Z"⟩
abbrev cX12_set : ByteArray := prog_14_method_35_code
def yX12_set : MethodName := ⟨RX12, "set", "(IIII)V"⟩
abbrev cX12_keys : ByteArray := prog_14_method_36_code
def yX12_keys : MethodName := ⟨RX12, "keys", "(IIII)V"⟩
abbrev cX12_text : ByteArray := prog_14_method_37_code
def yX12_text : MethodName := ⟨RX12, "text", "(IIII)V"⟩
abbrev cX12_isErased : ByteArray := prog_14_method_38_code
def yX12_isErased : MethodName := ⟨RX12, "isErased", "(III)Z"⟩
abbrev cX12_findObjects : ByteArray := prog_14_method_39_code
def yX12_findObjects : MethodName := ⟨RX12, "findObjects", "(II)V"⟩
abbrev cX12_placeOf : ByteArray := prog_14_method_40_code
def yX12_placeOf : MethodName := ⟨RX12, "placeOf", "(I)I"⟩
abbrev cX12_findParents : ByteArray := prog_14_method_41_code
def yX12_findParents : MethodName := ⟨RX12, "findParents", "(II)V"⟩
abbrev cX12_isRing : ByteArray := prog_14_method_42_code
def yX12_isRing : MethodName := ⟨RX12, "isRing", "(II)Z"⟩
abbrev cX12_parentOf : ByteArray := prog_14_method_43_code
def yX12_parentOf : MethodName := ⟨RX12, "parentOf", "(II)I"⟩
abbrev cX12_nowOf : ByteArray := prog_14_method_44_code
def yX12_nowOf : MethodName := ⟨RX12, "nowOf", "(I)I"⟩
abbrev cX12_holder : ByteArray := prog_14_method_45_code
def yX12_holder : MethodName := ⟨RX12, "holder", "(II)I"⟩
abbrev cX12_isStable : ByteArray := prog_14_method_46_code
def yX12_isStable : MethodName := ⟨RX12, "isStable", "(II)Z"⟩
abbrev cX12_tell : ByteArray := prog_14_method_47_code
def yX12_tell : MethodName := ⟨RX12, "tell", "(IIII)V"⟩
abbrev cX12_apply : ByteArray := prog_14_method_48_code
def yX12_apply : MethodName := ⟨RX12, "apply", "(II)V"⟩
abbrev cX12_boundAt : ByteArray := prog_14_method_49_code
def yX12_boundAt : MethodName := ⟨RX12, "boundAt", "(I)I"⟩
abbrev cX12_isOnPart : ByteArray := prog_14_method_50_code
def yX12_isOnPart : MethodName := ⟨RX12, "isOnPart", "(I)Z"⟩
abbrev cX12_findList : ByteArray := prog_14_method_51_code
def yX12_findList : MethodName := ⟨RX12, "findList", "(II)V"⟩
abbrev cX12_keepLists : ByteArray := prog_14_method_52_code
def yX12_keepLists : MethodName := ⟨RX12, "keepLists", "(I)V"⟩
abbrev cX12_tellLists : ByteArray := prog_14_method_53_code
def yX12_tellLists : MethodName := ⟨RX12, "tellLists", "(II)V"⟩
abbrev cX12_turn : ByteArray := prog_14_method_54_code
def yX12_turn : MethodName := ⟨RX12, "turn", "(IIIII)V"⟩
abbrev cX12_drop : ByteArray := prog_14_method_55_code
def yX12_drop : MethodName := ⟨RX12, "drop", "(II)V"⟩
abbrev cX12_isReady : ByteArray := prog_14_method_56_code
def yX12_isReady : MethodName := ⟨RX12, "isReady", "(II)Z"⟩
abbrev cX12_ruleFor : ByteArray := prog_14_method_57_code
def yX12_ruleFor : MethodName := ⟨RX12, "ruleFor", "(I)I"⟩
abbrev cX12_refusal : ByteArray := prog_14_method_58_code
def yX12_refusal : MethodName := ⟨RX12, "refusal", "(IIIIII)I"⟩
abbrev cX12_canBeUndone : ByteArray := prog_14_method_59_code
def yX12_canBeUndone : MethodName := ⟨RX12, "canBeUndone", "(I)Z"⟩
abbrev cX12_findGood : ByteArray := prog_14_method_60_code
def yX12_findGood : MethodName := ⟨RX12, "findGood", "(I)I"⟩
abbrev cX12_findUndone : ByteArray := prog_14_method_61_code
def yX12_findUndone : MethodName := ⟨RX12, "findUndone", "(I)I"⟩
abbrev cX12_act : ByteArray := prog_14_method_62_code
def yX12_act : MethodName := ⟨RX12, "act", "(IIIIII)I"⟩
abbrev cX12_make : ByteArray := prog_14_method_63_code
def yX12_make : MethodName := ⟨RX12, "make", "(IIIIII)I"⟩
abbrev cX12_findCommon : ByteArray := prog_14_method_64_code
def yX12_findCommon : MethodName := ⟨RX12, "findCommon", "(II)V"⟩
abbrev cX12_walk : ByteArray := prog_14_method_65_code
def yX12_walk : MethodName := ⟨RX12, "walk", "(IIIIIZ)I"⟩
abbrev cX12_commit : ByteArray := prog_14_method_66_code
def yX12_commit : MethodName := ⟨RX12, "commit", "(III)I"⟩
abbrev cX12_cursor : ByteArray := prog_14_method_67_code
def yX12_cursor : MethodName := ⟨RX12, "cursor", "(IIII)Z"⟩
abbrev cX12_where : ByteArray := prog_14_method_68_code
def yX12_where : MethodName := ⟨RX12, "where", "(III)I"⟩
abbrev cX12_stand : ByteArray := prog_14_method_69_code
def yX12_stand : MethodName := ⟨RX12, "stand", "(IIIIII)Z"⟩
abbrev cX12_listed : ByteArray := prog_14_method_70_code
def yX12_listed : MethodName := ⟨RX12, "listed", "(III)I"⟩
abbrev cX12_turned : ByteArray := prog_14_method_71_code
def yX12_turned : MethodName := ⟨RX12, "turned", "(III)I"⟩
abbrev cX12_sentOf : ByteArray := prog_14_method_72_code
def yX12_sentOf : MethodName := ⟨RX12, "sentOf", "(III)I"⟩
abbrev cX12_start : ByteArray := prog_14_method_73_code
def yX12_start : MethodName := ⟨RX12, "start", "(IIZ)V"⟩
abbrev cX12_carry : ByteArray := prog_14_method_74_code
def yX12_carry : MethodName := ⟨RX12, "carry", "(II)V"⟩
abbrev cX12_send : ByteArray := prog_14_method_75_code
def yX12_send : MethodName := ⟨RX12, "send", "(IIZ)Z"⟩
abbrev cX12_addOctet : ByteArray := prog_14_method_76_code
def yX12_addOctet : MethodName := ⟨RX12, "addOctet", "(I)V"⟩
abbrev cX12_number : ByteArray := prog_14_method_77_code
def yX12_number : MethodName := ⟨RX12, "number", "(I)V"⟩
abbrev cX12_writeRow : ByteArray := prog_14_method_78_code
def yX12_writeRow : MethodName := ⟨RX12, "writeRow", "(I)V"⟩
abbrev cX12_write : ByteArray := prog_14_method_79_code
def yX12_write : MethodName := ⟨RX12, "write", "(I)V"⟩
abbrev cX12_octet : ByteArray := prog_14_method_80_code
def yX12_octet : MethodName := ⟨RX12, "octet", "(II)I"⟩
abbrev cX12_bend : ByteArray := prog_14_method_81_code
def yX12_bend : MethodName := ⟨RX12, "bend", "(III)Z"⟩
abbrev cX12_isBent : ByteArray := prog_14_method_82_code
def yX12_isBent : MethodName := ⟨RX12, "isBent", "(I)Z"⟩
abbrev cX12_remove : ByteArray := prog_14_method_83_code
def yX12_remove : MethodName := ⟨RX12, "remove", "(I)V"⟩
abbrev cX12_nextReady : ByteArray := prog_14_method_84_code
def yX12_nextReady : MethodName := ⟨RX12, "nextReady", "(I)I"⟩
abbrev cX12_keep : ByteArray := prog_14_method_85_code
def yX12_keep : MethodName := ⟨RX12, "keep", "(II)V"⟩
abbrev cX12_deliver : ByteArray := prog_14_method_86_code
def yX12_deliver : MethodName := ⟨RX12, "deliver", "(I)I"⟩
abbrev cX12_lose : ByteArray := prog_14_method_87_code
def yX12_lose : MethodName := ⟨RX12, "lose", "(I)Z"⟩
abbrev cX12_twice : ByteArray := prog_14_method_88_code
def yX12_twice : MethodName := ⟨RX12, "twice", "(I)Z"⟩
abbrev cX12_raise : ByteArray := prog_14_method_89_code
def yX12_raise : MethodName := ⟨RX12, "raise", "(II)V"⟩
abbrev cX12_join : ByteArray := prog_14_method_90_code
def yX12_join : MethodName := ⟨RX12, "join", "(II)Z"⟩
abbrev cX12_isObject : ByteArray := prog_14_method_91_code
def yX12_isObject : MethodName := ⟨RX12, "isObject", "(II)Z"⟩
abbrev cX12_hasPart : ByteArray := prog_14_method_92_code
def yX12_hasPart : MethodName := ⟨RX12, "hasPart", "(III)Z"⟩
abbrev cX12_object : ByteArray := prog_14_method_93_code
def yX12_object : MethodName := ⟨RX12, "object", "(III)I"⟩
abbrev cX12_children : ByteArray := prog_14_method_94_code
def yX12_children : MethodName := ⟨RX12, "children", "(II)I"⟩
abbrev cX12_size : ByteArray := prog_14_method_95_code
def yX12_size : MethodName := ⟨RX12, "size", "(III)I"⟩
abbrev cX12_value : ByteArray := prog_14_method_96_code
def yX12_value : MethodName := ⟨RX12, "value", "(IIII)I"⟩
abbrev cX12_bound : ByteArray := prog_14_method_97_code
def yX12_bound : MethodName := ⟨RX12, "bound", "(IIII)I"⟩
abbrev cX12_by : ByteArray := prog_14_method_98_code
def yX12_by : MethodName := ⟨RX12, "by", "(IIII)I"⟩
abbrev cX12_list : ByteArray := prog_14_method_99_code
def yX12_list : MethodName := ⟨RX12, "list", "(II)I"⟩
abbrev cX12_canBeAsked : ByteArray := prog_14_method_100_code
def yX12_canBeAsked : MethodName := ⟨RX12, "canBeAsked", "(III)Z"⟩
abbrev cX12_latestOf : ByteArray := prog_14_method_101_code
def yX12_latestOf : MethodName := ⟨RX12, "latestOf", "(III)I"⟩
abbrev cX12_count : ByteArray := prog_14_method_102_code
def yX12_count : MethodName := ⟨RX12, "count", "(IIIII)I"⟩
abbrev cX12_ranked : ByteArray := prog_14_method_103_code
def yX12_ranked : MethodName := ⟨RX12, "ranked", "(IIII)I"⟩
abbrev cX12_past : ByteArray := prog_14_method_104_code
def yX12_past : MethodName := ⟨RX12, "past", "(IIII)I"⟩
abbrev cX12_was : ByteArray := prog_14_method_105_code
def yX12_was : MethodName := ⟨RX12, "was", "(IIIII)I"⟩
abbrev cX12_row : ByteArray := prog_14_method_106_code
def yX12_row : MethodName := ⟨RX12, "row", "(III)I"⟩
abbrev cX12_frame : ByteArray := prog_14_method_107_code
def yX12_frame : MethodName := ⟨RX12, "frame", "(II)I"⟩
abbrev cX12_news : ByteArray := prog_14_method_108_code
def yX12_news : MethodName := ⟨RX12, "news", "(III)I"⟩
abbrev cX12_calm : ByteArray := prog_14_method_109_code
def yX12_calm : MethodName := ⟨RX12, "calm", "(I)I"⟩
abbrev cX12_node : ByteArray := prog_14_method_110_code
def yX12_node : MethodName := ⟨RX12, "node", "(II)I"⟩
abbrev cX12_there : ByteArray := prog_14_method_111_code
def yX12_there : MethodName := ⟨RX12, "there", "(I)I"⟩
abbrev cX12_stables : ByteArray := prog_14_method_112_code
def yX12_stables : MethodName := ⟨RX12, "stables", "(I)I"⟩
abbrev cX12_total : ByteArray := prog_14_method_113_code
def yX12_total : MethodName := ⟨RX12, "total", "(I)I"⟩
