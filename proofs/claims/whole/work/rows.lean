section
-- ===== PART A: goes FIRST, ahead of the names: the tables' words, and 'selects' of the private methods out of them =====
/-- a private method of a class that the tables say can be made, by its rows of tables_1 -/
def lw_okq (q : MethodName × Nat) : Prop := (q.1.cls ≠ "java/lang/invoke/MethodHandle" ∧ q.1.cls ≠ "java/lang/invoke/VarHandle") ∧ Cond.instantiable q.1.cls q.2 ∈ tables_1 ∧ Cond.privateMethod q.1 ∈ tables_1 ∧ Cond.instanceMethod q.1 ∈ tables_1
theorem lw_p0 : lw_okq (⟨"WhoSigns$Book", "names", "(LWhoSigns$Person;III)[I"⟩, 18) := ⟨⟨by decide +kernel, by decide +kernel⟩, List.mem_of_getElem? (i := 32) (by decide +kernel), List.mem_of_getElem? (i := 475) (by decide +kernel), List.mem_of_getElem? (i := 476) (by decide +kernel)⟩
theorem lw_p1 : lw_okq (⟨"WhoSigns$Book", "hasPaper", "(LWhoSigns$Person;II)Z"⟩, 18) := ⟨⟨by decide +kernel, by decide +kernel⟩, List.mem_of_getElem? (i := 32) (by decide +kernel), List.mem_of_getElem? (i := 534) (by decide +kernel), List.mem_of_getElem? (i := 535) (by decide +kernel)⟩
theorem lw_p2 : lw_okq (⟨"WhoSigns$Rule", "isManyKept", "([I)Z"⟩, 4) := ⟨⟨by decide +kernel, by decide +kernel⟩, List.mem_of_getElem? (i := 140) (by decide +kernel), List.mem_of_getElem? (i := 608) (by decide +kernel), List.mem_of_getElem? (i := 609) (by decide +kernel)⟩
theorem lw_p3 : lw_okq (⟨"WhoSigns$Reader", "next", "()V"⟩, 9) := ⟨⟨by decide +kernel, by decide +kernel⟩, List.mem_of_getElem? (i := 319) (by decide +kernel), List.mem_of_getElem? (i := 676) (by decide +kernel), List.mem_of_getElem? (i := 677) (by decide +kernel)⟩
theorem lw_p4 : lw_okq (⟨"WhoSigns$Reader", "keyHere", "()I"⟩, 9) := ⟨⟨by decide +kernel, by decide +kernel⟩, List.mem_of_getElem? (i := 319) (by decide +kernel), List.mem_of_getElem? (i := 683) (by decide +kernel), List.mem_of_getElem? (i := 684) (by decide +kernel)⟩
theorem lw_p5 : lw_okq (⟨"WhoSigns$Reader", "spells", "(Ljava/lang/String;)Z"⟩, 9) := ⟨⟨by decide +kernel, by decide +kernel⟩, List.mem_of_getElem? (i := 319) (by decide +kernel), List.mem_of_getElem? (i := 688) (by decide +kernel), List.mem_of_getElem? (i := 689) (by decide +kernel)⟩
theorem lw_p6 : lw_okq (⟨"WhoSigns$Reader", "part", "(III)Z"⟩, 9) := ⟨⟨by decide +kernel, by decide +kernel⟩, List.mem_of_getElem? (i := 319) (by decide +kernel), List.mem_of_getElem? (i := 742) (by decide +kernel), List.mem_of_getElem? (i := 743) (by decide +kernel)⟩
theorem lw_p7 : lw_okq (⟨"WhoSigns$Reader", "piece", "(II)Z"⟩, 9) := ⟨⟨by decide +kernel, by decide +kernel⟩, List.mem_of_getElem? (i := 319) (by decide +kernel), List.mem_of_getElem? (i := 746) (by decide +kernel), List.mem_of_getElem? (i := 747) (by decide +kernel)⟩
theorem lw_p8 : lw_okq (⟨"WhoSigns$Reader", "number", "()Z"⟩, 9) := ⟨⟨by decide +kernel, by decide +kernel⟩, List.mem_of_getElem? (i := 319) (by decide +kernel), List.mem_of_getElem? (i := 750) (by decide +kernel), List.mem_of_getElem? (i := 751) (by decide +kernel)⟩
theorem lw_p9 : lw_okq (⟨"WhoSigns$Reader", "put", "(I)V"⟩, 9) := ⟨⟨by decide +kernel, by decide +kernel⟩, List.mem_of_getElem? (i := 319) (by decide +kernel), List.mem_of_getElem? (i := 754) (by decide +kernel), List.mem_of_getElem? (i := 755) (by decide +kernel)⟩
theorem lw_p10 : lw_okq (⟨"WhoSigns$Reader", "name", "()Z"⟩, 9) := ⟨⟨by decide +kernel, by decide +kernel⟩, List.mem_of_getElem? (i := 319) (by decide +kernel), List.mem_of_getElem? (i := 758) (by decide +kernel), List.mem_of_getElem? (i := 759) (by decide +kernel)⟩
theorem lw_p11 : lw_okq (⟨"WhoSigns$Finder", "readRules", "(LWhoSigns$Book;)V"⟩, 16) := ⟨⟨by decide +kernel, by decide +kernel⟩, List.mem_of_getElem? (i := 246) (by decide +kernel), List.mem_of_getElem? (i := 885) (by decide +kernel), List.mem_of_getElem? (i := 886) (by decide +kernel)⟩
theorem lw_p12 : lw_okq (⟨"WhoSigns$Finder", "readMany", "(LWhoSigns$Rule;)V"⟩, 16) := ⟨⟨by decide +kernel, by decide +kernel⟩, List.mem_of_getElem? (i := 246) (by decide +kernel), List.mem_of_getElem? (i := 890) (by decide +kernel), List.mem_of_getElem? (i := 891) (by decide +kernel)⟩
theorem lw_p13 : lw_okq (⟨"WhoSigns$Finder", "readPair", "(LWhoSigns$Rule;[LWhoSigns$Person;)V"⟩, 16) := ⟨⟨by decide +kernel, by decide +kernel⟩, List.mem_of_getElem? (i := 246) (by decide +kernel), List.mem_of_getElem? (i := 896) (by decide +kernel), List.mem_of_getElem? (i := 897) (by decide +kernel)⟩
theorem lw_p14 : lw_okq (⟨"WhoSigns$Finder", "leaveWithout", "(II)V"⟩, 16) := ⟨⟨by decide +kernel, by decide +kernel⟩, List.mem_of_getElem? (i := 246) (by decide +kernel), List.mem_of_getElem? (i := 909) (by decide +kernel), List.mem_of_getElem? (i := 910) (by decide +kernel)⟩
theorem lw_p15 : lw_okq (⟨"WhoSigns$Finder", "isOpen", "(I)Z"⟩, 16) := ⟨⟨by decide +kernel, by decide +kernel⟩, List.mem_of_getElem? (i := 246) (by decide +kernel), List.mem_of_getElem? (i := 913) (by decide +kernel), List.mem_of_getElem? (i := 914) (by decide +kernel)⟩
def lw_privs_1 : List (MethodName × Nat) := [(⟨"WhoSigns$Book", "names", "(LWhoSigns$Person;III)[I"⟩, 18), (⟨"WhoSigns$Book", "hasPaper", "(LWhoSigns$Person;II)Z"⟩, 18), (⟨"WhoSigns$Rule", "isManyKept", "([I)Z"⟩, 4), (⟨"WhoSigns$Reader", "next", "()V"⟩, 9), (⟨"WhoSigns$Reader", "keyHere", "()I"⟩, 9), (⟨"WhoSigns$Reader", "spells", "(Ljava/lang/String;)Z"⟩, 9), (⟨"WhoSigns$Reader", "part", "(III)Z"⟩, 9), (⟨"WhoSigns$Reader", "piece", "(II)Z"⟩, 9), (⟨"WhoSigns$Reader", "number", "()Z"⟩, 9), (⟨"WhoSigns$Reader", "put", "(I)V"⟩, 9), (⟨"WhoSigns$Reader", "name", "()Z"⟩, 9), (⟨"WhoSigns$Finder", "readRules", "(LWhoSigns$Book;)V"⟩, 16), (⟨"WhoSigns$Finder", "readMany", "(LWhoSigns$Rule;)V"⟩, 16), (⟨"WhoSigns$Finder", "readPair", "(LWhoSigns$Rule;[LWhoSigns$Person;)V"⟩, 16), (⟨"WhoSigns$Finder", "leaveWithout", "(II)V"⟩, 16), (⟨"WhoSigns$Finder", "isOpen", "(I)Z"⟩, 16)]
theorem lw_r1 : ∀ q ∈ lw_privs_1, lw_okq q := List.forall_mem_cons.mpr ⟨lw_p0, List.forall_mem_cons.mpr ⟨lw_p1, List.forall_mem_cons.mpr ⟨lw_p2, List.forall_mem_cons.mpr ⟨lw_p3, List.forall_mem_cons.mpr ⟨lw_p4, List.forall_mem_cons.mpr ⟨lw_p5, List.forall_mem_cons.mpr ⟨lw_p6, List.forall_mem_cons.mpr ⟨lw_p7, List.forall_mem_cons.mpr ⟨lw_p8, List.forall_mem_cons.mpr ⟨lw_p9, List.forall_mem_cons.mpr ⟨lw_p10, List.forall_mem_cons.mpr ⟨lw_p11, List.forall_mem_cons.mpr ⟨lw_p12, List.forall_mem_cons.mpr ⟨lw_p13, List.forall_mem_cons.mpr ⟨lw_p14, List.forall_mem_cons.mpr ⟨lw_p15, fun _ h => absurd h List.not_mem_nil⟩⟩⟩⟩⟩⟩⟩⟩⟩⟩⟩⟩⟩⟩⟩⟩
theorem lw_p16 : lw_okq (⟨"WhoSigns$Finder", "countFrom", "(I)I"⟩, 16) := ⟨⟨by decide +kernel, by decide +kernel⟩, List.mem_of_getElem? (i := 246) (by decide +kernel), List.mem_of_getElem? (i := 917) (by decide +kernel), List.mem_of_getElem? (i := 918) (by decide +kernel)⟩
theorem lw_p17 : lw_okq (⟨"WhoSigns$Finder", "leftFor", "(I)I"⟩, 16) := ⟨⟨by decide +kernel, by decide +kernel⟩, List.mem_of_getElem? (i := 246) (by decide +kernel), List.mem_of_getElem? (i := 921) (by decide +kernel), List.mem_of_getElem? (i := 922) (by decide +kernel)⟩
theorem lw_p18 : lw_okq (⟨"WhoSigns$Finder", "seenFrom", "(II)I"⟩, 16) := ⟨⟨by decide +kernel, by decide +kernel⟩, List.mem_of_getElem? (i := 246) (by decide +kernel), List.mem_of_getElem? (i := 925) (by decide +kernel), List.mem_of_getElem? (i := 926) (by decide +kernel)⟩
theorem lw_p19 : lw_okq (⟨"WhoSigns$Finder", "isTied", "(I)Z"⟩, 16) := ⟨⟨by decide +kernel, by decide +kernel⟩, List.mem_of_getElem? (i := 246) (by decide +kernel), List.mem_of_getElem? (i := 930) (by decide +kernel), List.mem_of_getElem? (i := 931) (by decide +kernel)⟩
theorem lw_p20 : lw_okq (⟨"WhoSigns$Finder", "give", "(II)Z"⟩, 16) := ⟨⟨by decide +kernel, by decide +kernel⟩, List.mem_of_getElem? (i := 246) (by decide +kernel), List.mem_of_getElem? (i := 934) (by decide +kernel), List.mem_of_getElem? (i := 935) (by decide +kernel)⟩
theorem lw_p21 : lw_okq (⟨"WhoSigns$Finder", "isAnyFrom", "(I)Z"⟩, 16) := ⟨⟨by decide +kernel, by decide +kernel⟩, List.mem_of_getElem? (i := 246) (by decide +kernel), List.mem_of_getElem? (i := 955) (by decide +kernel), List.mem_of_getElem? (i := 956) (by decide +kernel)⟩
theorem lw_p22 : lw_okq (⟨"WhoSigns$Finder", "leastCostOf", "(I)I"⟩, 16) := ⟨⟨by decide +kernel, by decide +kernel⟩, List.mem_of_getElem? (i := 246) (by decide +kernel), List.mem_of_getElem? (i := 964) (by decide +kernel), List.mem_of_getElem? (i := 965) (by decide +kernel)⟩
theorem lw_p23 : lw_okq (⟨"WhoSigns$Finder", "lookForCheaper", "(II)V"⟩, 16) := ⟨⟨by decide +kernel, by decide +kernel⟩, List.mem_of_getElem? (i := 246) (by decide +kernel), List.mem_of_getElem? (i := 969) (by decide +kernel), List.mem_of_getElem? (i := 970) (by decide +kernel)⟩
theorem lw_p24 : lw_okq (⟨"WhoSigns$Finder", "firstCheapest", "(II)I"⟩, 16) := ⟨⟨by decide +kernel, by decide +kernel⟩, List.mem_of_getElem? (i := 246) (by decide +kernel), List.mem_of_getElem? (i := 973) (by decide +kernel), List.mem_of_getElem? (i := 974) (by decide +kernel)⟩
theorem lw_p25 : lw_okq (⟨"WhoSigns$Finder", "leaveTo", "(II)V"⟩, 16) := ⟨⟨by decide +kernel, by decide +kernel⟩, List.mem_of_getElem? (i := 246) (by decide +kernel), List.mem_of_getElem? (i := 994) (by decide +kernel), List.mem_of_getElem? (i := 995) (by decide +kernel)⟩
theorem lw_p26 : lw_okq (⟨"WhoSigns", "isTaughtEnough", "(I)Z"⟩, 11) := ⟨⟨by decide +kernel, by decide +kernel⟩, List.mem_of_getElem? (i := 24) (by decide +kernel), List.mem_of_getElem? (i := 1027) (by decide +kernel), List.mem_of_getElem? (i := 1028) (by decide +kernel)⟩
theorem lw_p27 : lw_okq (⟨"WhoSigns$Turnout", "lineUp", "(LWhoSigns$Book;)V"⟩, 3) := ⟨⟨by decide +kernel, by decide +kernel⟩, List.mem_of_getElem? (i := 303) (by decide +kernel), List.mem_of_getElem? (i := 1074) (by decide +kernel), List.mem_of_getElem? (i := 1075) (by decide +kernel)⟩
theorem lw_p28 : lw_okq (⟨"WhoSigns$Turnout", "putInLine", "(II)V"⟩, 3) := ⟨⟨by decide +kernel, by decide +kernel⟩, List.mem_of_getElem? (i := 303) (by decide +kernel), List.mem_of_getElem? (i := 1080) (by decide +kernel), List.mem_of_getElem? (i := 1081) (by decide +kernel)⟩
theorem lw_p29 : lw_okq (⟨"WhoSigns", "countRight", "(II)I"⟩, 11) := ⟨⟨by decide +kernel, by decide +kernel⟩, List.mem_of_getElem? (i := 24) (by decide +kernel), List.mem_of_getElem? (i := 1183) (by decide +kernel), List.mem_of_getElem? (i := 1184) (by decide +kernel)⟩
theorem lw_p30 : lw_okq (⟨"WhoSignsModel", "isPerson", "(I)Z"⟩, 48) := ⟨⟨by decide +kernel, by decide +kernel⟩, List.mem_of_getElem? (i := 1220) (by decide +kernel), List.mem_of_getElem? (i := 1386) (by decide +kernel), List.mem_of_getElem? (i := 1387) (by decide +kernel)⟩
theorem lw_p31 : lw_okq (⟨"WhoSignsModel", "isAway", "(II)Z"⟩, 48) := ⟨⟨by decide +kernel, by decide +kernel⟩, List.mem_of_getElem? (i := 1220) (by decide +kernel), List.mem_of_getElem? (i := 1390) (by decide +kernel), List.mem_of_getElem? (i := 1391) (by decide +kernel)⟩
def lw_privs_2 : List (MethodName × Nat) := [(⟨"WhoSigns$Finder", "countFrom", "(I)I"⟩, 16), (⟨"WhoSigns$Finder", "leftFor", "(I)I"⟩, 16), (⟨"WhoSigns$Finder", "seenFrom", "(II)I"⟩, 16), (⟨"WhoSigns$Finder", "isTied", "(I)Z"⟩, 16), (⟨"WhoSigns$Finder", "give", "(II)Z"⟩, 16), (⟨"WhoSigns$Finder", "isAnyFrom", "(I)Z"⟩, 16), (⟨"WhoSigns$Finder", "leastCostOf", "(I)I"⟩, 16), (⟨"WhoSigns$Finder", "lookForCheaper", "(II)V"⟩, 16), (⟨"WhoSigns$Finder", "firstCheapest", "(II)I"⟩, 16), (⟨"WhoSigns$Finder", "leaveTo", "(II)V"⟩, 16), (⟨"WhoSigns", "isTaughtEnough", "(I)Z"⟩, 11), (⟨"WhoSigns$Turnout", "lineUp", "(LWhoSigns$Book;)V"⟩, 3), (⟨"WhoSigns$Turnout", "putInLine", "(II)V"⟩, 3), (⟨"WhoSigns", "countRight", "(II)I"⟩, 11), (⟨"WhoSignsModel", "isPerson", "(I)Z"⟩, 48), (⟨"WhoSignsModel", "isAway", "(II)Z"⟩, 48)]
theorem lw_r2 : ∀ q ∈ lw_privs_2, lw_okq q := List.forall_mem_cons.mpr ⟨lw_p16, List.forall_mem_cons.mpr ⟨lw_p17, List.forall_mem_cons.mpr ⟨lw_p18, List.forall_mem_cons.mpr ⟨lw_p19, List.forall_mem_cons.mpr ⟨lw_p20, List.forall_mem_cons.mpr ⟨lw_p21, List.forall_mem_cons.mpr ⟨lw_p22, List.forall_mem_cons.mpr ⟨lw_p23, List.forall_mem_cons.mpr ⟨lw_p24, List.forall_mem_cons.mpr ⟨lw_p25, List.forall_mem_cons.mpr ⟨lw_p26, List.forall_mem_cons.mpr ⟨lw_p27, List.forall_mem_cons.mpr ⟨lw_p28, List.forall_mem_cons.mpr ⟨lw_p29, List.forall_mem_cons.mpr ⟨lw_p30, List.forall_mem_cons.mpr ⟨lw_p31, fun _ h => absurd h List.not_mem_nil⟩⟩⟩⟩⟩⟩⟩⟩⟩⟩⟩⟩⟩⟩⟩⟩
theorem lw_p32 : lw_okq (⟨"WhoSignsModel", "of8", "(II)I"⟩, 48) := ⟨⟨by decide +kernel, by decide +kernel⟩, List.mem_of_getElem? (i := 1220) (by decide +kernel), List.mem_of_getElem? (i := 1394) (by decide +kernel), List.mem_of_getElem? (i := 1395) (by decide +kernel)⟩
theorem lw_p33 : lw_okq (⟨"WhoSignsModel", "waitOf", "(I)I"⟩, 48) := ⟨⟨by decide +kernel, by decide +kernel⟩, List.mem_of_getElem? (i := 1220) (by decide +kernel), List.mem_of_getElem? (i := 1402) (by decide +kernel), List.mem_of_getElem? (i := 1403) (by decide +kernel)⟩
theorem lw_p34 : lw_okq (⟨"WhoSignsModel", "counts", "(I)I"⟩, 48) := ⟨⟨by decide +kernel, by decide +kernel⟩, List.mem_of_getElem? (i := 1220) (by decide +kernel), List.mem_of_getElem? (i := 1406) (by decide +kernel), List.mem_of_getElem? (i := 1407) (by decide +kernel)⟩
theorem lw_p35 : lw_okq (⟨"WhoSignsModel", "worksOut", "(I)I"⟩, 48) := ⟨⟨by decide +kernel, by decide +kernel⟩, List.mem_of_getElem? (i := 1220) (by decide +kernel), List.mem_of_getElem? (i := 1410) (by decide +kernel), List.mem_of_getElem? (i := 1411) (by decide +kernel)⟩
theorem lw_p36 : lw_okq (⟨"WhoSignsModel", "has", "(IIZ)I"⟩, 48) := ⟨⟨by decide +kernel, by decide +kernel⟩, List.mem_of_getElem? (i := 1220) (by decide +kernel), List.mem_of_getElem? (i := 1421) (by decide +kernel), List.mem_of_getElem? (i := 1422) (by decide +kernel)⟩
theorem lw_p37 : lw_okq (⟨"WhoSignsModel", "isStep", "(I)Z"⟩, 48) := ⟨⟨by decide +kernel, by decide +kernel⟩, List.mem_of_getElem? (i := 1220) (by decide +kernel), List.mem_of_getElem? (i := 1444) (by decide +kernel), List.mem_of_getElem? (i := 1445) (by decide +kernel)⟩
theorem lw_p38 : lw_okq (⟨"WhoSignsModel", "of4", "(II)I"⟩, 48) := ⟨⟨by decide +kernel, by decide +kernel⟩, List.mem_of_getElem? (i := 1220) (by decide +kernel), List.mem_of_getElem? (i := 1448) (by decide +kernel), List.mem_of_getElem? (i := 1449) (by decide +kernel)⟩
theorem lw_p39 : lw_okq (⟨"WhoSignsModel", "mayDo", "(III)Z"⟩, 48) := ⟨⟨by decide +kernel, by decide +kernel⟩, List.mem_of_getElem? (i := 1220) (by decide +kernel), List.mem_of_getElem? (i := 1452) (by decide +kernel), List.mem_of_getElem? (i := 1453) (by decide +kernel)⟩
theorem lw_p40 : lw_okq (⟨"WhoSignsModel", "hasPaper", "(III)Z"⟩, 48) := ⟨⟨by decide +kernel, by decide +kernel⟩, List.mem_of_getElem? (i := 1220) (by decide +kernel), List.mem_of_getElem? (i := 1456) (by decide +kernel), List.mem_of_getElem? (i := 1457) (by decide +kernel)⟩
theorem lw_p41 : lw_okq (⟨"WhoSignsModel", "costOf", "(II)I"⟩, 48) := ⟨⟨by decide +kernel, by decide +kernel⟩, List.mem_of_getElem? (i := 1220) (by decide +kernel), List.mem_of_getElem? (i := 1472) (by decide +kernel), List.mem_of_getElem? (i := 1473) (by decide +kernel)⟩
theorem lw_p42 : lw_okq (⟨"WhoSignsModel", "isRule", "(I)Z"⟩, 48) := ⟨⟨by decide +kernel, by decide +kernel⟩, List.mem_of_getElem? (i := 1220) (by decide +kernel), List.mem_of_getElem? (i := 1484) (by decide +kernel), List.mem_of_getElem? (i := 1485) (by decide +kernel)⟩
theorem lw_p43 : lw_okq (⟨"WhoSignsModel", "rule4", "(II)I"⟩, 48) := ⟨⟨by decide +kernel, by decide +kernel⟩, List.mem_of_getElem? (i := 1220) (by decide +kernel), List.mem_of_getElem? (i := 1488) (by decide +kernel), List.mem_of_getElem? (i := 1489) (by decide +kernel)⟩
theorem lw_p44 : lw_okq (⟨"WhoSignsModel", "signedOnes", "()V"⟩, 48) := ⟨⟨by decide +kernel, by decide +kernel⟩, List.mem_of_getElem? (i := 1220) (by decide +kernel), List.mem_of_getElem? (i := 1492) (by decide +kernel), List.mem_of_getElem? (i := 1493) (by decide +kernel)⟩
theorem lw_p45 : lw_okq (⟨"WhoSignsModel", "keptBy", "(I[I)Z"⟩, 48) := ⟨⟨by decide +kernel, by decide +kernel⟩, List.mem_of_getElem? (i := 1220) (by decide +kernel), List.mem_of_getElem? (i := 1499) (by decide +kernel), List.mem_of_getElem? (i := 1500) (by decide +kernel)⟩
theorem lw_p46 : lw_okq (⟨"WhoSignsModel", "go", "()V"⟩, 48) := ⟨⟨by decide +kernel, by decide +kernel⟩, List.mem_of_getElem? (i := 1220) (by decide +kernel), List.mem_of_getElem? (i := 1535) (by decide +kernel), List.mem_of_getElem? (i := 1536) (by decide +kernel)⟩
theorem lw_p47 : lw_okq (⟨"WhoSignsModel", "isLetter", "(I)Z"⟩, 48) := ⟨⟨by decide +kernel, by decide +kernel⟩, List.mem_of_getElem? (i := 1220) (by decide +kernel), List.mem_of_getElem? (i := 1539) (by decide +kernel), List.mem_of_getElem? (i := 1540) (by decide +kernel)⟩
def lw_privs_3 : List (MethodName × Nat) := [(⟨"WhoSignsModel", "of8", "(II)I"⟩, 48), (⟨"WhoSignsModel", "waitOf", "(I)I"⟩, 48), (⟨"WhoSignsModel", "counts", "(I)I"⟩, 48), (⟨"WhoSignsModel", "worksOut", "(I)I"⟩, 48), (⟨"WhoSignsModel", "has", "(IIZ)I"⟩, 48), (⟨"WhoSignsModel", "isStep", "(I)Z"⟩, 48), (⟨"WhoSignsModel", "of4", "(II)I"⟩, 48), (⟨"WhoSignsModel", "mayDo", "(III)Z"⟩, 48), (⟨"WhoSignsModel", "hasPaper", "(III)Z"⟩, 48), (⟨"WhoSignsModel", "costOf", "(II)I"⟩, 48), (⟨"WhoSignsModel", "isRule", "(I)Z"⟩, 48), (⟨"WhoSignsModel", "rule4", "(II)I"⟩, 48), (⟨"WhoSignsModel", "signedOnes", "()V"⟩, 48), (⟨"WhoSignsModel", "keptBy", "(I[I)Z"⟩, 48), (⟨"WhoSignsModel", "go", "()V"⟩, 48), (⟨"WhoSignsModel", "isLetter", "(I)Z"⟩, 48)]
theorem lw_r3 : ∀ q ∈ lw_privs_3, lw_okq q := List.forall_mem_cons.mpr ⟨lw_p32, List.forall_mem_cons.mpr ⟨lw_p33, List.forall_mem_cons.mpr ⟨lw_p34, List.forall_mem_cons.mpr ⟨lw_p35, List.forall_mem_cons.mpr ⟨lw_p36, List.forall_mem_cons.mpr ⟨lw_p37, List.forall_mem_cons.mpr ⟨lw_p38, List.forall_mem_cons.mpr ⟨lw_p39, List.forall_mem_cons.mpr ⟨lw_p40, List.forall_mem_cons.mpr ⟨lw_p41, List.forall_mem_cons.mpr ⟨lw_p42, List.forall_mem_cons.mpr ⟨lw_p43, List.forall_mem_cons.mpr ⟨lw_p44, List.forall_mem_cons.mpr ⟨lw_p45, List.forall_mem_cons.mpr ⟨lw_p46, List.forall_mem_cons.mpr ⟨lw_p47, fun _ h => absurd h List.not_mem_nil⟩⟩⟩⟩⟩⟩⟩⟩⟩⟩⟩⟩⟩⟩⟩⟩
theorem lw_p48 : lw_okq (⟨"WhoSignsModel", "isFigure", "(I)Z"⟩, 48) := ⟨⟨by decide +kernel, by decide +kernel⟩, List.mem_of_getElem? (i := 1220) (by decide +kernel), List.mem_of_getElem? (i := 1543) (by decide +kernel), List.mem_of_getElem? (i := 1544) (by decide +kernel)⟩
theorem lw_p49 : lw_okq (⟨"WhoSignsModel", "takesKey", "()Z"⟩, 48) := ⟨⟨by decide +kernel, by decide +kernel⟩, List.mem_of_getElem? (i := 1220) (by decide +kernel), List.mem_of_getElem? (i := 1547) (by decide +kernel), List.mem_of_getElem? (i := 1548) (by decide +kernel)⟩
theorem lw_p50 : lw_okq (⟨"WhoSignsModel", "takesE", "()Z"⟩, 48) := ⟨⟨by decide +kernel, by decide +kernel⟩, List.mem_of_getElem? (i := 1220) (by decide +kernel), List.mem_of_getElem? (i := 1551) (by decide +kernel), List.mem_of_getElem? (i := 1552) (by decide +kernel)⟩
theorem lw_p51 : lw_okq (⟨"WhoSignsModel", "takesPart", "()Z"⟩, 48) := ⟨⟨by decide +kernel, by decide +kernel⟩, List.mem_of_getElem? (i := 1220) (by decide +kernel), List.mem_of_getElem? (i := 1555) (by decide +kernel), List.mem_of_getElem? (i := 1556) (by decide +kernel)⟩
theorem lw_p52 : lw_okq (⟨"WhoSignsModel", "nameOf", "(I)I"⟩, 48) := ⟨⟨by decide +kernel, by decide +kernel⟩, List.mem_of_getElem? (i := 1220) (by decide +kernel), List.mem_of_getElem? (i := 1559) (by decide +kernel), List.mem_of_getElem? (i := 1560) (by decide +kernel)⟩
theorem lw_p53 : lw_okq (⟨"WhoSignsModel", "settle", "(I)V"⟩, 48) := ⟨⟨by decide +kernel, by decide +kernel⟩, List.mem_of_getElem? (i := 1220) (by decide +kernel), List.mem_of_getElem? (i := 1563) (by decide +kernel), List.mem_of_getElem? (i := 1564) (by decide +kernel)⟩
theorem lw_p54 : lw_okq (⟨"WhoSignsModel", "notsOpen", "()I"⟩, 48) := ⟨⟨by decide +kernel, by decide +kernel⟩, List.mem_of_getElem? (i := 1220) (by decide +kernel), List.mem_of_getElem? (i := 1570) (by decide +kernel), List.mem_of_getElem? (i := 1571) (by decide +kernel)⟩
theorem lw_p55 : lw_okq (⟨"WhoSignsModel", "signHere", "()I"⟩, 48) := ⟨⟨by decide +kernel, by decide +kernel⟩, List.mem_of_getElem? (i := 1220) (by decide +kernel), List.mem_of_getElem? (i := 1574) (by decide +kernel), List.mem_of_getElem? (i := 1575) (by decide +kernel)⟩
theorem lw_p56 : lw_okq (⟨"WhoSignsModel", "sweeps", "(I)V"⟩, 48) := ⟨⟨by decide +kernel, by decide +kernel⟩, List.mem_of_getElem? (i := 1220) (by decide +kernel), List.mem_of_getElem? (i := 1590) (by decide +kernel), List.mem_of_getElem? (i := 1591) (by decide +kernel)⟩
theorem lw_p57 : lw_okq (⟨"WhoSignsModel", "findAble", "(II)V"⟩, 48) := ⟨⟨by decide +kernel, by decide +kernel⟩, List.mem_of_getElem? (i := 1220) (by decide +kernel), List.mem_of_getElem? (i := 1594) (by decide +kernel), List.mem_of_getElem? (i := 1595) (by decide +kernel)⟩
theorem lw_p58 : lw_okq (⟨"WhoSignsModel", "begins", "()V"⟩, 48) := ⟨⟨by decide +kernel, by decide +kernel⟩, List.mem_of_getElem? (i := 1220) (by decide +kernel), List.mem_of_getElem? (i := 1598) (by decide +kernel), List.mem_of_getElem? (i := 1599) (by decide +kernel)⟩
theorem lw_p59 : lw_okq (⟨"WhoSignsModel", "goesOn", "(I)I"⟩, 48) := ⟨⟨by decide +kernel, by decide +kernel⟩, List.mem_of_getElem? (i := 1220) (by decide +kernel), List.mem_of_getElem? (i := 1602) (by decide +kernel), List.mem_of_getElem? (i := 1603) (by decide +kernel)⟩
theorem lw_p60 : lw_okq (⟨"WhoSignsModel", "fits", "(I)Z"⟩, 48) := ⟨⟨by decide +kernel, by decide +kernel⟩, List.mem_of_getElem? (i := 1220) (by decide +kernel), List.mem_of_getElem? (i := 1606) (by decide +kernel), List.mem_of_getElem? (i := 1607) (by decide +kernel)⟩
theorem lw_p61 : lw_okq (⟨"WhoSignsModel", "notes", "()V"⟩, 48) := ⟨⟨by decide +kernel, by decide +kernel⟩, List.mem_of_getElem? (i := 1220) (by decide +kernel), List.mem_of_getElem? (i := 1610) (by decide +kernel), List.mem_of_getElem? (i := 1611) (by decide +kernel)⟩
theorem lw_p62 : lw_okq (⟨"WhoSignsModel", "costNow", "()I"⟩, 48) := ⟨⟨by decide +kernel, by decide +kernel⟩, List.mem_of_getElem? (i := 1220) (by decide +kernel), List.mem_of_getElem? (i := 1614) (by decide +kernel), List.mem_of_getElem? (i := 1615) (by decide +kernel)⟩
theorem lw_p63 : lw_okq (⟨"WhoSignsModel", "hasWay", "(II)Z"⟩, 48) := ⟨⟨by decide +kernel, by decide +kernel⟩, List.mem_of_getElem? (i := 1220) (by decide +kernel), List.mem_of_getElem? (i := 1634) (by decide +kernel), List.mem_of_getElem? (i := 1635) (by decide +kernel)⟩
def lw_privs_4 : List (MethodName × Nat) := [(⟨"WhoSignsModel", "isFigure", "(I)Z"⟩, 48), (⟨"WhoSignsModel", "takesKey", "()Z"⟩, 48), (⟨"WhoSignsModel", "takesE", "()Z"⟩, 48), (⟨"WhoSignsModel", "takesPart", "()Z"⟩, 48), (⟨"WhoSignsModel", "nameOf", "(I)I"⟩, 48), (⟨"WhoSignsModel", "settle", "(I)V"⟩, 48), (⟨"WhoSignsModel", "notsOpen", "()I"⟩, 48), (⟨"WhoSignsModel", "signHere", "()I"⟩, 48), (⟨"WhoSignsModel", "sweeps", "(I)V"⟩, 48), (⟨"WhoSignsModel", "findAble", "(II)V"⟩, 48), (⟨"WhoSignsModel", "begins", "()V"⟩, 48), (⟨"WhoSignsModel", "goesOn", "(I)I"⟩, 48), (⟨"WhoSignsModel", "fits", "(I)Z"⟩, 48), (⟨"WhoSignsModel", "notes", "()V"⟩, 48), (⟨"WhoSignsModel", "costNow", "()I"⟩, 48), (⟨"WhoSignsModel", "hasWay", "(II)Z"⟩, 48)]
theorem lw_r4 : ∀ q ∈ lw_privs_4, lw_okq q := List.forall_mem_cons.mpr ⟨lw_p48, List.forall_mem_cons.mpr ⟨lw_p49, List.forall_mem_cons.mpr ⟨lw_p50, List.forall_mem_cons.mpr ⟨lw_p51, List.forall_mem_cons.mpr ⟨lw_p52, List.forall_mem_cons.mpr ⟨lw_p53, List.forall_mem_cons.mpr ⟨lw_p54, List.forall_mem_cons.mpr ⟨lw_p55, List.forall_mem_cons.mpr ⟨lw_p56, List.forall_mem_cons.mpr ⟨lw_p57, List.forall_mem_cons.mpr ⟨lw_p58, List.forall_mem_cons.mpr ⟨lw_p59, List.forall_mem_cons.mpr ⟨lw_p60, List.forall_mem_cons.mpr ⟨lw_p61, List.forall_mem_cons.mpr ⟨lw_p62, List.forall_mem_cons.mpr ⟨lw_p63, fun _ h => absurd h List.not_mem_nil⟩⟩⟩⟩⟩⟩⟩⟩⟩⟩⟩⟩⟩⟩⟩⟩
theorem lw_p64 : lw_okq (⟨"WhoSignsModel", "bearsAny", "(I)Z"⟩, 48) := ⟨⟨by decide +kernel, by decide +kernel⟩, List.mem_of_getElem? (i := 1220) (by decide +kernel), List.mem_of_getElem? (i := 1646) (by decide +kernel), List.mem_of_getElem? (i := 1647) (by decide +kernel)⟩
theorem lw_p65 : lw_okq (⟨"WhoSignsModel", "offers", "(I)V"⟩, 48) := ⟨⟨by decide +kernel, by decide +kernel⟩, List.mem_of_getElem? (i := 1220) (by decide +kernel), List.mem_of_getElem? (i := 1662) (by decide +kernel), List.mem_of_getElem? (i := 1663) (by decide +kernel)⟩
theorem lw_p66 : lw_okq (⟨"WhoSignsModel", "allKept", "()Z"⟩, 48) := ⟨⟨by decide +kernel, by decide +kernel⟩, List.mem_of_getElem? (i := 1220) (by decide +kernel), List.mem_of_getElem? (i := 1674) (by decide +kernel), List.mem_of_getElem? (i := 1675) (by decide +kernel)⟩
theorem lw_p67 : lw_okq (⟨"WhoSignsModel", "signedMany", "()I"⟩, 48) := ⟨⟨by decide +kernel, by decide +kernel⟩, List.mem_of_getElem? (i := 1220) (by decide +kernel), List.mem_of_getElem? (i := 1678) (by decide +kernel), List.mem_of_getElem? (i := 1679) (by decide +kernel)⟩
theorem lw_p68 : lw_okq (⟨"WhoSignsModel", "linesUp", "()I"⟩, 48) := ⟨⟨by decide +kernel, by decide +kernel⟩, List.mem_of_getElem? (i := 1220) (by decide +kernel), List.mem_of_getElem? (i := 1694) (by decide +kernel), List.mem_of_getElem? (i := 1695) (by decide +kernel)⟩
theorem lw_p69 : lw_okq (⟨"WhoSignsModel", "takes", "(I)Z"⟩, 48) := ⟨⟨by decide +kernel, by decide +kernel⟩, List.mem_of_getElem? (i := 1220) (by decide +kernel), List.mem_of_getElem? (i := 1698) (by decide +kernel), List.mem_of_getElem? (i := 1699) (by decide +kernel)⟩
theorem lw_p70 : lw_okq (⟨"WhoSignsModel", "awayMany", "()I"⟩, 48) := ⟨⟨by decide +kernel, by decide +kernel⟩, List.mem_of_getElem? (i := 1220) (by decide +kernel), List.mem_of_getElem? (i := 1783) (by decide +kernel), List.mem_of_getElem? (i := 1784) (by decide +kernel)⟩
def lw_privs_5 : List (MethodName × Nat) := [(⟨"WhoSignsModel", "bearsAny", "(I)Z"⟩, 48), (⟨"WhoSignsModel", "offers", "(I)V"⟩, 48), (⟨"WhoSignsModel", "allKept", "()Z"⟩, 48), (⟨"WhoSignsModel", "signedMany", "()I"⟩, 48), (⟨"WhoSignsModel", "linesUp", "()I"⟩, 48), (⟨"WhoSignsModel", "takes", "(I)Z"⟩, 48), (⟨"WhoSignsModel", "awayMany", "()I"⟩, 48)]
theorem lw_r5 : ∀ q ∈ lw_privs_5, lw_okq q := List.forall_mem_cons.mpr ⟨lw_p64, List.forall_mem_cons.mpr ⟨lw_p65, List.forall_mem_cons.mpr ⟨lw_p66, List.forall_mem_cons.mpr ⟨lw_p67, List.forall_mem_cons.mpr ⟨lw_p68, List.forall_mem_cons.mpr ⟨lw_p69, List.forall_mem_cons.mpr ⟨lw_p70, fun _ h => absurd h List.not_mem_nil⟩⟩⟩⟩⟩⟩⟩
def lw_privs : List (MethodName × Nat) := lw_privs_1 ++ (lw_privs_2 ++ (lw_privs_3 ++ (lw_privs_4 ++ (lw_privs_5))))
def lw_tbl : List Cond := k2_sels lw_privs ++ tables_1
theorem lw_privs_ok : ∀ q ∈ lw_privs, lw_okq q := by
  show ∀ q ∈ lw_privs_1 ++ (lw_privs_2 ++ (lw_privs_3 ++ (lw_privs_4 ++ (lw_privs_5)))), lw_okq q
  exact List.forall_mem_append.mpr ⟨lw_r1, List.forall_mem_append.mpr ⟨lw_r2, List.forall_mem_append.mpr ⟨lw_r3, List.forall_mem_append.mpr ⟨lw_r4, lw_r5⟩⟩⟩⟩
-- ===== end of PART A; then your names; then what follows =====
end
section
/-! mini machine: values, memory, what one instruction does (as a predicate transformer), runs -/
abbrev mj_V : Type := Int ⊕ Nat
abbrev mj_I : Type := Nat → Nat → Int
abbrev mj_S : Type := (Nat → Nat → Nat) × (Nat → Nat × Nat) × Nat × Nat
abbrev mj_L : Type := List (Option mj_V)
abbrev mj_Ins : Type := Instr × Nat × Nat × Nat × List (Int × Nat)
abbrev mj_Q : Type := Option mj_V → mj_I → mj_S → Prop
/-- an int, wrapped into 32 bits -/
def mj_wr (x : Int) : Int := (x + 2147483648) % 4294967296 - 2147483648
def mj_rf (S : mj_S) (a k : Nat) : Nat := S.1 a k
def mj_tg (S : mj_S) (a : Nat) : Nat := (S.2.1 a).1
def mj_ln (S : mj_S) (a : Nat) : Nat := (S.2.1 a).2
def mj_nx (S : mj_S) : Nat := S.2.2.1
def mj_sl (S : mj_S) : Nat := S.2.2.2
def mj_up (I : mj_I) (a k : Nat) (x : Int) : mj_I := fun b j => if b = a ∧ j = k then x else I b j
def mj_ur (S : mj_S) (a k : Nat) (v : Nat) : mj_S := (fun b j => if b = a ∧ j = k then v else S.1 b j, S.2.1, S.2.2.1, S.2.2.2)
def mj_z (I : mj_I) (n : Nat) : mj_I := fun b j => if b = n then 0 else I b j
/-- one more cell: its tag, its length, its slots -/
def mj_nw (S : mj_S) (t len : Nat) : mj_S := (fun b j => if b = S.2.2.1 then 0 else S.1 b j, fun b => if b = S.2.2.1 then (t, len) else S.2.1 b, S.2.2.1 + 1, S.2.2.2 + len)
def mj_cp (I : mj_I) (a sp b dp n : Nat) : mj_I := fun c j => if c = b ∧ dp ≤ j ∧ j < dp + n then I a (sp + (j - dp)) else I c j
def mj_and (x y : Int) : Int := (Int32.ofInt x &&& Int32.ofInt y).toInt
def mj_or (x y : Int) : Int := (Int32.ofInt x ||| Int32.ofInt y).toInt
def mj_xor (x y : Int) : Int := (Int32.ofInt x ^^^ Int32.ofInt y).toInt
def mj_shl (x y : Int) : Int := (Int32.ofInt x <<< (Int32.ofInt y &&& 31)).toInt
def mj_shr (x y : Int) : Int := (Int32.ofInt x >>> (Int32.ofInt y &&& 31)).toInt
def mj_ushr (x y : Int) : Int := ((Int32.ofInt x).toUInt32 >>> ((Int32.ofInt y).toUInt32 &&& Int32.toUInt32 31)).toInt32.toInt
def mj_b8 (x : Int) : Int := (Int32.ofInt x).toInt8.toInt32.toInt
def mj_c16 (x : Int) : Int := ((Int32.ofInt x).toUInt32 % 65536).toInt32.toInt
def mj_nth {α : Type} (d : α) : List α → Nat → α
  | [], _ => d
  | x :: _, 0 => x
  | _ :: l, n + 1 => mj_nth d l n
def mj_sw (x : Int) (k : Nat → Prop) (d : Nat) : List (Int × Nat) → Prop
  | [] => k d
  | q :: l => (x = q.1 → k q.2) ∧ (¬ x = q.1 → mj_sw x k d l)
/-- an array's place: its tag is one of two, the index is inside -/
def mj_ai (S : mj_S) (a : Nat) (j : Int) (t u : Nat) : Prop := (mj_tg S a = t ∨ mj_tg S a = u) ∧ 0 ≤ j ∧ j < (mj_ln S a : Int)
def mj_aq (S : mj_S) (a : Nat) (j : Int) : Prop := 50 ≤ mj_tg S a ∧ 0 ≤ j ∧ j < (mj_ln S a : Int)
/-- what may be returned: 0 an int, 1 a boolean, 2 a char, 3 a byte, 4 a reference -/
def mj_rt (t : Nat) (v : mj_V) (K : Prop) : Prop := match t, v with
  | 0, .inl _ => K
  | 1, .inl x => (x = 0 ∨ x = 1) ∧ K
  | 2, .inl x => (0 ≤ x ∧ x ≤ 65535) ∧ K
  | 3, .inl x => (-128 ≤ x ∧ x ≤ 127) ∧ K
  | 4, .inr _ => K
  | _, _ => False
def mj_res (h : Nat) (r : Option mj_V) (K : List mj_V → Prop) (rest : List mj_V) : Prop := match h, r with
  | 0, none => K rest
  | 1, some v => K (v :: rest)
  | _, _ => False
def mj_rcv (p : Nat) (S : mj_S) (as : List mj_V) (K : Prop) : Prop := match p, as with
  | 0, _ => K
  | c + 1, .inr a :: _ => mj_tg S a = c ∧ K
  | _, _ => False
def mj_sem (c : mj_Ins) (i : Nat) (ls : mj_L) (st : List mj_V) (I : mj_I) (S : mj_S) (go : Nat → mj_L → List mj_V → mj_I → mj_S → Prop) (call : Nat → List mj_V → mj_Q → Prop) (ret : Option mj_V → Prop) : Prop :=
  match c.1 with
  | .iconst n => go (i + 1) ls (.inl n :: st) I S
  | .aconst_null => go (i + 1) ls (.inr 0 :: st) I S
  | .ldc k => go (i + 1) ls (.inr k :: st) I S
  | .iload k => (match mj_nth none ls k with
    | some v => go (i + 1) ls (v :: st) I S
    | none => False)
  | .istore k => (match st with
    | v :: r => go (i + 1) (ls.set k (some v)) r I S
    | _ => False)
  | .iinc k n => (match mj_nth none ls k with
    | some (.inl x) => go (i + 1) (ls.set k (some (.inl (mj_wr (x + n))))) st I S
    | _ => False)
  | .pop => (match st with
    | _ :: r => go (i + 1) ls r I S
    | _ => False)
  | .dup => (match st with
    | v :: r => go (i + 1) ls (v :: v :: r) I S
    | _ => False)
  | .dup_x1 => (match st with
    | w :: v :: r => go (i + 1) ls (w :: v :: w :: r) I S
    | _ => False)
  | .dup2 => (match st with
    | w :: v :: r => go (i + 1) ls (w :: v :: w :: v :: r) I S
    | _ => False)
  | .iadd => (match st with
    | .inl y :: .inl x :: r => go (i + 1) ls (.inl (mj_wr (x + y)) :: r) I S
    | _ => False)
  | .isub => (match st with
    | .inl y :: .inl x :: r => go (i + 1) ls (.inl (mj_wr (x - y)) :: r) I S
    | _ => False)
  | .imul => (match st with
    | .inl y :: .inl x :: r => go (i + 1) ls (.inl (mj_wr (x * y)) :: r) I S
    | _ => False)
  | .idiv => (match st with
    | .inl y :: .inl x :: r => ¬ y = 0 ∧ go (i + 1) ls (.inl (mj_wr (x.tdiv y)) :: r) I S
    | _ => False)
  | .irem => (match st with
    | .inl y :: .inl x :: r => ¬ y = 0 ∧ go (i + 1) ls (.inl (x.tmod y) :: r) I S
    | _ => False)
  | .ineg => (match st with
    | .inl x :: r => go (i + 1) ls (.inl (mj_wr (-x)) :: r) I S
    | _ => False)
  | .iand => (match st with
    | .inl y :: .inl x :: r => go (i + 1) ls (.inl (mj_and x y) :: r) I S
    | _ => False)
  | .ior => (match st with
    | .inl y :: .inl x :: r => go (i + 1) ls (.inl (mj_or x y) :: r) I S
    | _ => False)
  | .ixor => (match st with
    | .inl y :: .inl x :: r => go (i + 1) ls (.inl (mj_xor x y) :: r) I S
    | _ => False)
  | .ishl => (match st with
    | .inl y :: .inl x :: r => go (i + 1) ls (.inl (mj_shl x y) :: r) I S
    | _ => False)
  | .ishr => (match st with
    | .inl y :: .inl x :: r => go (i + 1) ls (.inl (mj_shr x y) :: r) I S
    | _ => False)
  | .iushr => (match st with
    | .inl y :: .inl x :: r => go (i + 1) ls (.inl (mj_ushr x y) :: r) I S
    | _ => False)
  | .i2b => (match st with
    | .inl x :: r => go (i + 1) ls (.inl (mj_b8 x) :: r) I S
    | _ => False)
  | .i2c => (match st with
    | .inl x :: r => go (i + 1) ls (.inl (mj_c16 x) :: r) I S
    | _ => False)
  | .ifCond cd _ => (match cd, st with
    | .eq, .inl x :: r => (x = 0 → go c.2.1 ls r I S) ∧ (¬ x = 0 → go (i + 1) ls r I S)
    | .ne, .inl x :: r => (¬ x = 0 → go c.2.1 ls r I S) ∧ (x = 0 → go (i + 1) ls r I S)
    | .lt, .inl x :: r => (x < 0 → go c.2.1 ls r I S) ∧ (¬ x < 0 → go (i + 1) ls r I S)
    | .ge, .inl x :: r => (0 ≤ x → go c.2.1 ls r I S) ∧ (¬ 0 ≤ x → go (i + 1) ls r I S)
    | .gt, .inl x :: r => (0 < x → go c.2.1 ls r I S) ∧ (¬ 0 < x → go (i + 1) ls r I S)
    | .le, .inl x :: r => (x ≤ 0 → go c.2.1 ls r I S) ∧ (¬ x ≤ 0 → go (i + 1) ls r I S)
    | _, _ => False)
  | .if_icmp cd _ => (match cd, st with
    | .eq, .inl y :: .inl x :: r => (x = y → go c.2.1 ls r I S) ∧ (¬ x = y → go (i + 1) ls r I S)
    | .ne, .inl y :: .inl x :: r => (¬ x = y → go c.2.1 ls r I S) ∧ (x = y → go (i + 1) ls r I S)
    | .lt, .inl y :: .inl x :: r => (x < y → go c.2.1 ls r I S) ∧ (¬ x < y → go (i + 1) ls r I S)
    | .ge, .inl y :: .inl x :: r => (y ≤ x → go c.2.1 ls r I S) ∧ (¬ y ≤ x → go (i + 1) ls r I S)
    | .gt, .inl y :: .inl x :: r => (y < x → go c.2.1 ls r I S) ∧ (¬ y < x → go (i + 1) ls r I S)
    | .le, .inl y :: .inl x :: r => (x ≤ y → go c.2.1 ls r I S) ∧ (¬ x ≤ y → go (i + 1) ls r I S)
    | _, _ => False)
  | .ifnull _ => (match st with
    | .inr a :: r => (a = 0 → go c.2.1 ls r I S) ∧ (¬ a = 0 → go (i + 1) ls r I S)
    | _ => False)
  | .ifnonnull _ => (match st with
    | .inr a :: r => (¬ a = 0 → go c.2.1 ls r I S) ∧ (a = 0 → go (i + 1) ls r I S)
    | _ => False)
  | .goto _ => go c.2.1 ls st I S
  | .lookupswitch _ _ => (match st with
    | .inl x :: r => mj_sw x (fun t => go t ls r I S) c.2.1 c.2.2.2.2
    | _ => False)
  | .getfield k => (match c.2.2.1, st with
    | 1, .inr a :: r => mj_tg S a = c.2.1 ∧ go (i + 1) ls (.inr (mj_rf S a k) :: r) I S
    | _, .inr a :: r => mj_tg S a = c.2.1 ∧ go (i + 1) ls (.inl (I a k) :: r) I S
    | _, _ => False)
  | .putfield k => (match c.2.2.1, st with
    | 0, .inl x :: .inr a :: r => mj_tg S a = c.2.1 ∧ go (i + 1) ls r (mj_up I a k x) S
    | 1, .inr v :: .inr a :: r => mj_tg S a = c.2.1 ∧ go (i + 1) ls r I (mj_ur S a k v)
    | 2, .inl x :: .inr a :: r => (mj_tg S a = c.2.1 ∧ (x = 0 ∨ x = 1)) ∧ go (i + 1) ls r (mj_up I a k x) S
    | _, _ => False)
  | .iaload => (match st with
    | .inl j :: .inr a :: r => mj_ai S a j 20 40 ∧ go (i + 1) ls (.inl (I a j.toNat) :: r) I S
    | _ => False)
  | .baload => (match st with
    | .inl j :: .inr a :: r => mj_ai S a j 21 42 ∧ go (i + 1) ls (.inl (I a j.toNat) :: r) I S
    | _ => False)
  | .saload => (match st with
    | .inl j :: .inr a :: r => mj_ai S a j 22 22 ∧ go (i + 1) ls (.inl (I a j.toNat) :: r) I S
    | _ => False)
  | .caload => (match st with
    | .inl j :: .inr a :: r => mj_ai S a j 23 23 ∧ go (i + 1) ls (.inl (I a j.toNat) :: r) I S
    | _ => False)
  | .aaload => (match st with
    | .inl j :: .inr a :: r => mj_aq S a j ∧ go (i + 1) ls (.inr (mj_rf S a j.toNat) :: r) I S
    | _ => False)
  | .iastore => (match st with
    | .inl x :: .inl j :: .inr a :: r => mj_ai S a j 20 20 ∧ go (i + 1) ls r (mj_up I a j.toNat x) S
    | _ => False)
  | .bastore => (match st with
    | .inl x :: .inl j :: .inr a :: r => mj_ai S a j 21 21 ∧ go (i + 1) ls r (mj_up I a j.toNat (mj_b8 x)) S
    | _ => False)
  | .sastore => (match st with
    | .inl x :: .inl j :: .inr a :: r => (mj_ai S a j 22 22 ∧ (x = 0 ∨ x = 1)) ∧ go (i + 1) ls r (mj_up I a j.toNat x) S
    | _ => False)
  | .castore => (match st with
    | .inl x :: .inl j :: .inr a :: r => (mj_ai S a j 23 23 ∧ 0 ≤ x ∧ x ≤ 65535) ∧ go (i + 1) ls r (mj_up I a j.toNat x) S
    | _ => False)
  | .aastore => (match st with
    | .inr v :: .inl j :: .inr a :: r => (mj_aq S a j ∧ (v = 0 ∨ (20 ≤ v ∧ v < mj_nx S ∧ mj_tg S a = 50 + mj_tg S v))) ∧ go (i + 1) ls r I (mj_ur S a j.toNat v)
    | _ => False)
  | .arraylength => (match st with
    | .inr a :: r => (20 ≤ mj_tg S a ∧ ¬ mj_tg S a = 41) ∧ go (i + 1) ls (.inl (mj_ln S a : Int) :: r) I S
    | _ => False)
  | .new k => go (i + 1) ls (.inr (mj_nx S) :: st) (mj_z I (mj_nx S)) (mj_nw S k c.2.1)
  | .newarray _ => (match st with
    | .inl n :: r => (0 ≤ n ∧ n ≤ 4096) ∧ go (i + 1) ls (.inr (mj_nx S) :: r) (mj_z I (mj_nx S)) (mj_nw S c.2.1 n.toNat)
    | _ => False)
  | .anewarray k => (match st with
    | .inl n :: r => (0 ≤ n ∧ n ≤ 4096) ∧ go (i + 1) ls (.inr (mj_nx S) :: r) (mj_z I (mj_nx S)) (mj_nw S (50 + k) n.toNat)
    | _ => False)
  | .invokestatic y => mj_rcv c.2.2.2.1 S (st.take c.2.1).reverse (call y (st.take c.2.1).reverse (fun r I' S' => mj_res c.2.2.1 r (fun st' => go (i + 1) ls st' I' S') (st.drop c.2.1)))
  | .invokedynamic _ => (match st with
    | .inl n :: .inl dp :: .inr b :: .inl sp :: .inr a :: r => (mj_tg S a = mj_tg S b ∧ (mj_tg S b = 20 ∨ mj_tg S b = 21) ∧ 0 ≤ sp ∧ 0 ≤ dp ∧ 0 ≤ n ∧ sp + n ≤ (mj_ln S a : Int) ∧ dp + n ≤ (mj_ln S b : Int)) ∧ go (i + 1) ls r (mj_cp I a sp.toNat b dp.toNat n.toNat) S
    | _ => False)
  | .ireturn => (match st with
    | [v] => mj_rt c.2.1 v (ret (some v))
    | _ => False)
  | .return_ => (match st with
    | [] => ret none
    | _ => False)
  | _ => False
theorem mj_sw_mono {x : Int} {k k' : Nat → Prop} (h : ∀ t, k t → k' t) {d : Nat} : ∀ {l : List (Int × Nat)}, mj_sw x k d l → mj_sw x k' d l
  | [], q => h d q
  | _ :: _, q => ⟨fun e => h _ (q.1 e), fun e => mj_sw_mono h (q.2 e)⟩
set_option maxHeartbeats 4000000 in
theorem mj_sem_mono {c : mj_Ins} {i : Nat} {ls : mj_L} {st : List mj_V} {I : mj_I} {S : mj_S} {go go' : Nat → mj_L → List mj_V → mj_I → mj_S → Prop} {call call' : Nat → List mj_V → mj_Q → Prop} {ret ret' : Option mj_V → Prop}
    (hg : ∀ i ls st I S, go i ls st I S → go' i ls st I S) (hc : ∀ y as (k k' : mj_Q), (∀ r I S, k r I S → k' r I S) → call y as k → call' y as k') (hr : ∀ v, ret v → ret' v) (h : mj_sem c i ls st I S go call ret) : mj_sem c i ls st I S go' call' ret' := by
  obtain ⟨o, p1, p2, p3, sw⟩ := c
  unfold mj_sem at h ⊢
  dsimp only at h ⊢
  split at h <;> try exact False.elim h
  all_goals first
    | exact hg _ _ _ _ _ h
    | (split at h <;> first
      | exact False.elim h
      | exact hg _ _ _ _ _ h
      | exact ⟨h.1, hg _ _ _ _ _ h.2⟩
      | exact ⟨fun q => hg _ _ _ _ _ (h.1 q), fun q => hg _ _ _ _ _ (h.2 q)⟩
      | exact mj_sw_mono (fun t q => hg _ _ _ _ _ q) h
      | exact hr _ h
      | (revert h; unfold mj_rt; split <;> first | exact fun h => hr _ h | exact fun h => ⟨h.1, hr _ h.2⟩ | exact fun h => h))
    | (revert h; unfold mj_rcv
       have key : ∀ y as, call y as (fun r I' S' => mj_res p2 r (fun st' => go (i + 1) ls st' I' S') (st.drop p1)) → call' y as (fun r I' S' => mj_res p2 r (fun st' => go' (i + 1) ls st' I' S') (st.drop p1)) := fun y as q => hc y as _ _ (fun r I S => by
         unfold mj_res
         split <;> first | exact fun w => hg _ _ _ _ _ w | exact fun w => w) q
       split <;> first | exact fun h => key _ _ h | exact fun h => ⟨h.1, key _ _ h.2⟩ | exact fun h => h)
end
