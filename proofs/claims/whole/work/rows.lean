section
-- ===== PART A: goes FIRST, ahead of the names: the tables' words, and 'selects' of the private methods out of them =====
/-- a private method of a class that the tables say can be made, by its rows of tables_1 -/
def lw_okq (q : MethodName × Nat) : Prop := (q.1.cls ≠ "java/lang/invoke/MethodHandle" ∧ q.1.cls ≠ "java/lang/invoke/VarHandle") ∧ Cond.instantiable q.1.cls q.2 ∈ tables_1 ∧ Cond.privateMethod q.1 ∈ tables_1 ∧ Cond.instanceMethod q.1 ∈ tables_1
theorem lw_p0 : lw_okq (⟨"ArrowTables", "keepTable", "(LArrowTables$Table;)I"⟩, 14) := ⟨⟨by decide +kernel, by decide +kernel⟩, List.mem_of_getElem? (i := 12) (by decide +kernel), List.mem_of_getElem? (i := 193) (by decide +kernel), List.mem_of_getElem? (i := 194) (by decide +kernel)⟩
theorem lw_p1 : lw_okq (⟨"ArrowTables", "tableAt", "(I)LArrowTables$Table;"⟩, 14) := ⟨⟨by decide +kernel, by decide +kernel⟩, List.mem_of_getElem? (i := 12) (by decide +kernel), List.mem_of_getElem? (i := 201) (by decide +kernel), List.mem_of_getElem? (i := 202) (by decide +kernel)⟩
theorem lw_p2 : lw_okq (⟨"ArrowTables$Table", "writeUntold", "([I)Z"⟩, 6) := ⟨⟨by decide +kernel, by decide +kernel⟩, List.mem_of_getElem? (i := 143) (by decide +kernel), List.mem_of_getElem? (i := 248) (by decide +kernel), List.mem_of_getElem? (i := 249) (by decide +kernel)⟩
theorem lw_p3 : lw_okq (⟨"ArrowTables$Table", "writeUnlike", "([I)V"⟩, 6) := ⟨⟨by decide +kernel, by decide +kernel⟩, List.mem_of_getElem? (i := 143) (by decide +kernel), List.mem_of_getElem? (i := 257) (by decide +kernel), List.mem_of_getElem? (i := 258) (by decide +kernel)⟩
theorem lw_p4 : lw_okq (⟨"ArrowTables$Table", "hasBack", "(I)Z"⟩, 6) := ⟨⟨by decide +kernel, by decide +kernel⟩, List.mem_of_getElem? (i := 143) (by decide +kernel), List.mem_of_getElem? (i := 326) (by decide +kernel), List.mem_of_getElem? (i := 327) (by decide +kernel)⟩
theorem lw_p5 : lw_okq (⟨"ArrowTables", "pickCarrier", "(LArrowTables$Table;LArrowTables$Table;I)I"⟩, 14) := ⟨⟨by decide +kernel, by decide +kernel⟩, List.mem_of_getElem? (i := 12) (by decide +kernel), List.mem_of_getElem? (i := 343) (by decide +kernel), List.mem_of_getElem? (i := 344) (by decide +kernel)⟩
theorem lw_p6 : lw_okq (⟨"ArrowTables$Search", "setRules", "(LArrowTables$Table;)V"⟩, 7) := ⟨⟨by decide +kernel, by decide +kernel⟩, List.mem_of_getElem? (i := 24) (by decide +kernel), List.mem_of_getElem? (i := 351) (by decide +kernel), List.mem_of_getElem? (i := 352) (by decide +kernel)⟩
theorem lw_p7 : lw_okq (⟨"ArrowTables$Search", "fits", "(LArrowTables$Table;LArrowTables$Table;)Z"⟩, 7) := ⟨⟨by decide +kernel, by decide +kernel⟩, List.mem_of_getElem? (i := 24) (by decide +kernel), List.mem_of_getElem? (i := 370) (by decide +kernel), List.mem_of_getElem? (i := 371) (by decide +kernel)⟩
theorem lw_p8 : lw_okq (⟨"ArrowTables", "keepCarrier", "(LArrowTables$Carrier;)I"⟩, 14) := ⟨⟨by decide +kernel, by decide +kernel⟩, List.mem_of_getElem? (i := 12) (by decide +kernel), List.mem_of_getElem? (i := 411) (by decide +kernel), List.mem_of_getElem? (i := 412) (by decide +kernel)⟩
theorem lw_p9 : lw_okq (⟨"ArrowTables", "carrierAt", "(I)LArrowTables$Carrier;"⟩, 14) := ⟨⟨by decide +kernel, by decide +kernel⟩, List.mem_of_getElem? (i := 12) (by decide +kernel), List.mem_of_getElem? (i := 419) (by decide +kernel), List.mem_of_getElem? (i := 420) (by decide +kernel)⟩
theorem lw_p10 : lw_okq (⟨"ArrowTables", "searchBridges", "(LArrowTables$Carrier;LArrowTables$Carrier;I)I"⟩, 14) := ⟨⟨by decide +kernel, by decide +kernel⟩, List.mem_of_getElem? (i := 12) (by decide +kernel), List.mem_of_getElem? (i := 468) (by decide +kernel), List.mem_of_getElem? (i := 469) (by decide +kernel)⟩
theorem lw_p11 : lw_okq (⟨"ArrowTables", "coneChances", "(LArrowTables$Carrier;I)I"⟩, 14) := ⟨⟨by decide +kernel, by decide +kernel⟩, List.mem_of_getElem? (i := 12) (by decide +kernel), List.mem_of_getElem? (i := 508) (by decide +kernel), List.mem_of_getElem? (i := 509) (by decide +kernel)⟩
theorem lw_p12 : lw_okq (⟨"ArrowTables", "gatherCones", "(LArrowTables$Carrier;)V"⟩, 14) := ⟨⟨by decide +kernel, by decide +kernel⟩, List.mem_of_getElem? (i := 12) (by decide +kernel), List.mem_of_getElem? (i := 513) (by decide +kernel), List.mem_of_getElem? (i := 514) (by decide +kernel)⟩
theorem lw_p13 : lw_okq (⟨"ArrowTables$Cones", "isLimit", "(LArrowTables$Table;II)Z"⟩, 3) := ⟨⟨by decide +kernel, by decide +kernel⟩, List.mem_of_getElem? (i := 80) (by decide +kernel), List.mem_of_getElem? (i := 530) (by decide +kernel), List.mem_of_getElem? (i := 531) (by decide +kernel)⟩
theorem lw_p14 : lw_okq (⟨"ArrowTables$Cones", "arrowsInto", "(LArrowTables$Table;III)I"⟩, 3) := ⟨⟨by decide +kernel, by decide +kernel⟩, List.mem_of_getElem? (i := 80) (by decide +kernel), List.mem_of_getElem? (i := 534) (by decide +kernel), List.mem_of_getElem? (i := 535) (by decide +kernel)⟩
theorem lw_p15 : lw_okq (⟨"ArrowTables$Cones", "bringsLegs", "(LArrowTables$Table;IIII)Z"⟩, 3) := ⟨⟨by decide +kernel, by decide +kernel⟩, List.mem_of_getElem? (i := 80) (by decide +kernel), List.mem_of_getElem? (i := 543) (by decide +kernel), List.mem_of_getElem? (i := 544) (by decide +kernel)⟩
def lw_privs_1 : List (MethodName × Nat) := [(⟨"ArrowTables", "keepTable", "(LArrowTables$Table;)I"⟩, 14), (⟨"ArrowTables", "tableAt", "(I)LArrowTables$Table;"⟩, 14), (⟨"ArrowTables$Table", "writeUntold", "([I)Z"⟩, 6), (⟨"ArrowTables$Table", "writeUnlike", "([I)V"⟩, 6), (⟨"ArrowTables$Table", "hasBack", "(I)Z"⟩, 6), (⟨"ArrowTables", "pickCarrier", "(LArrowTables$Table;LArrowTables$Table;I)I"⟩, 14), (⟨"ArrowTables$Search", "setRules", "(LArrowTables$Table;)V"⟩, 7), (⟨"ArrowTables$Search", "fits", "(LArrowTables$Table;LArrowTables$Table;)Z"⟩, 7), (⟨"ArrowTables", "keepCarrier", "(LArrowTables$Carrier;)I"⟩, 14), (⟨"ArrowTables", "carrierAt", "(I)LArrowTables$Carrier;"⟩, 14), (⟨"ArrowTables", "searchBridges", "(LArrowTables$Carrier;LArrowTables$Carrier;I)I"⟩, 14), (⟨"ArrowTables", "coneChances", "(LArrowTables$Carrier;I)I"⟩, 14), (⟨"ArrowTables", "gatherCones", "(LArrowTables$Carrier;)V"⟩, 14), (⟨"ArrowTables$Cones", "isLimit", "(LArrowTables$Table;II)Z"⟩, 3), (⟨"ArrowTables$Cones", "arrowsInto", "(LArrowTables$Table;III)I"⟩, 3), (⟨"ArrowTables$Cones", "bringsLegs", "(LArrowTables$Table;IIII)Z"⟩, 3)]
theorem lw_r1 : ∀ q ∈ lw_privs_1, lw_okq q := List.forall_mem_cons.mpr ⟨lw_p0, List.forall_mem_cons.mpr ⟨lw_p1, List.forall_mem_cons.mpr ⟨lw_p2, List.forall_mem_cons.mpr ⟨lw_p3, List.forall_mem_cons.mpr ⟨lw_p4, List.forall_mem_cons.mpr ⟨lw_p5, List.forall_mem_cons.mpr ⟨lw_p6, List.forall_mem_cons.mpr ⟨lw_p7, List.forall_mem_cons.mpr ⟨lw_p8, List.forall_mem_cons.mpr ⟨lw_p9, List.forall_mem_cons.mpr ⟨lw_p10, List.forall_mem_cons.mpr ⟨lw_p11, List.forall_mem_cons.mpr ⟨lw_p12, List.forall_mem_cons.mpr ⟨lw_p13, List.forall_mem_cons.mpr ⟨lw_p14, List.forall_mem_cons.mpr ⟨lw_p15, fun _ h => absurd h List.not_mem_nil⟩⟩⟩⟩⟩⟩⟩⟩⟩⟩⟩⟩⟩⟩⟩⟩
theorem lw_p16 : lw_okq (⟨"ArrowTables", "writeAnswer", "(LArrowTables$Carrier;I)V"⟩, 14) := ⟨⟨by decide +kernel, by decide +kernel⟩, List.mem_of_getElem? (i := 12) (by decide +kernel), List.mem_of_getElem? (i := 566) (by decide +kernel), List.mem_of_getElem? (i := 567) (by decide +kernel)⟩
theorem lw_p17 : lw_okq (⟨"ArrowTables", "answeredArrow", "(LArrowTables$Carrier;I)I"⟩, 14) := ⟨⟨by decide +kernel, by decide +kernel⟩, List.mem_of_getElem? (i := 12) (by decide +kernel), List.mem_of_getElem? (i := 580) (by decide +kernel), List.mem_of_getElem? (i := 581) (by decide +kernel)⟩
theorem lw_p18 : lw_okq (⟨"ArrowTables$Table", "hasAllAhead", "(II)Z"⟩, 6) := ⟨⟨by decide +kernel, by decide +kernel⟩, List.mem_of_getElem? (i := 143) (by decide +kernel), List.mem_of_getElem? (i := 606) (by decide +kernel), List.mem_of_getElem? (i := 607) (by decide +kernel)⟩
theorem lw_p19 : lw_okq (⟨"ArrowTablesModel", "begins", "(I)V"⟩, 33) := ⟨⟨by decide +kernel, by decide +kernel⟩, List.mem_of_getElem? (i := 642) (by decide +kernel), List.mem_of_getElem? (i := 756) (by decide +kernel), List.mem_of_getElem? (i := 757) (by decide +kernel)⟩
theorem lw_p20 : lw_okq (⟨"ArrowTablesModel", "comes", "(III)I"⟩, 33) := ⟨⟨by decide +kernel, by decide +kernel⟩, List.mem_of_getElem? (i := 642) (by decide +kernel), List.mem_of_getElem? (i := 760) (by decide +kernel), List.mem_of_getElem? (i := 761) (by decide +kernel)⟩
theorem lw_p21 : lw_okq (⟨"ArrowTablesModel", "isTable", "(I)Z"⟩, 33) := ⟨⟨by decide +kernel, by decide +kernel⟩, List.mem_of_getElem? (i := 642) (by decide +kernel), List.mem_of_getElem? (i := 768) (by decide +kernel), List.mem_of_getElem? (i := 769) (by decide +kernel)⟩
theorem lw_p22 : lw_okq (⟨"ArrowTablesModel", "isArrow", "(II)Z"⟩, 33) := ⟨⟨by decide +kernel, by decide +kernel⟩, List.mem_of_getElem? (i := 642) (by decide +kernel), List.mem_of_getElem? (i := 776) (by decide +kernel), List.mem_of_getElem? (i := 777) (by decide +kernel)⟩
theorem lw_p23 : lw_okq (⟨"ArrowTablesModel", "to", "(II)I"⟩, 33) := ⟨⟨by decide +kernel, by decide +kernel⟩, List.mem_of_getElem? (i := 642) (by decide +kernel), List.mem_of_getElem? (i := 780) (by decide +kernel), List.mem_of_getElem? (i := 781) (by decide +kernel)⟩
theorem lw_p24 : lw_okq (⟨"ArrowTablesModel", "from", "(II)I"⟩, 33) := ⟨⟨by decide +kernel, by decide +kernel⟩, List.mem_of_getElem? (i := 642) (by decide +kernel), List.mem_of_getElem? (i := 784) (by decide +kernel), List.mem_of_getElem? (i := 785) (by decide +kernel)⟩
theorem lw_p25 : lw_okq (⟨"ArrowTablesModel", "findFault", "(I)V"⟩, 33) := ⟨⟨by decide +kernel, by decide +kernel⟩, List.mem_of_getElem? (i := 642) (by decide +kernel), List.mem_of_getElem? (i := 792) (by decide +kernel), List.mem_of_getElem? (i := 793) (by decide +kernel)⟩
theorem lw_p26 : lw_okq (⟨"ArrowTablesModel", "finds", "(IIII)V"⟩, 33) := ⟨⟨by decide +kernel, by decide +kernel⟩, List.mem_of_getElem? (i := 642) (by decide +kernel), List.mem_of_getElem? (i := 796) (by decide +kernel), List.mem_of_getElem? (i := 797) (by decide +kernel)⟩
theorem lw_p27 : lw_okq (⟨"ArrowTablesModel", "wayIn", "(III)I"⟩, 33) := ⟨⟨by decide +kernel, by decide +kernel⟩, List.mem_of_getElem? (i := 642) (by decide +kernel), List.mem_of_getElem? (i := 800) (by decide +kernel), List.mem_of_getElem? (i := 801) (by decide +kernel)⟩
theorem lw_p28 : lw_okq (⟨"ArrowTablesModel", "between", "(III)I"⟩, 33) := ⟨⟨by decide +kernel, by decide +kernel⟩, List.mem_of_getElem? (i := 642) (by decide +kernel), List.mem_of_getElem? (i := 818) (by decide +kernel), List.mem_of_getElem? (i := 819) (by decide +kernel)⟩
theorem lw_p29 : lw_okq (⟨"ArrowTablesModel", "isPaired", "(II)Z"⟩, 33) := ⟨⟨by decide +kernel, by decide +kernel⟩, List.mem_of_getElem? (i := 642) (by decide +kernel), List.mem_of_getElem? (i := 834) (by decide +kernel), List.mem_of_getElem? (i := 835) (by decide +kernel)⟩
theorem lw_p30 : lw_okq (⟨"ArrowTablesModel", "search", "(IIIZ)I"⟩, 33) := ⟨⟨by decide +kernel, by decide +kernel⟩, List.mem_of_getElem? (i := 642) (by decide +kernel), List.mem_of_getElem? (i := 850) (by decide +kernel), List.mem_of_getElem? (i := 851) (by decide +kernel)⟩
theorem lw_p31 : lw_okq (⟨"ArrowTablesModel", "findPairs", "(I)V"⟩, 33) := ⟨⟨by decide +kernel, by decide +kernel⟩, List.mem_of_getElem? (i := 642) (by decide +kernel), List.mem_of_getElem? (i := 854) (by decide +kernel), List.mem_of_getElem? (i := 855) (by decide +kernel)⟩
def lw_privs_2 : List (MethodName × Nat) := [(⟨"ArrowTables", "writeAnswer", "(LArrowTables$Carrier;I)V"⟩, 14), (⟨"ArrowTables", "answeredArrow", "(LArrowTables$Carrier;I)I"⟩, 14), (⟨"ArrowTables$Table", "hasAllAhead", "(II)Z"⟩, 6), (⟨"ArrowTablesModel", "begins", "(I)V"⟩, 33), (⟨"ArrowTablesModel", "comes", "(III)I"⟩, 33), (⟨"ArrowTablesModel", "isTable", "(I)Z"⟩, 33), (⟨"ArrowTablesModel", "isArrow", "(II)Z"⟩, 33), (⟨"ArrowTablesModel", "to", "(II)I"⟩, 33), (⟨"ArrowTablesModel", "from", "(II)I"⟩, 33), (⟨"ArrowTablesModel", "findFault", "(I)V"⟩, 33), (⟨"ArrowTablesModel", "finds", "(IIII)V"⟩, 33), (⟨"ArrowTablesModel", "wayIn", "(III)I"⟩, 33), (⟨"ArrowTablesModel", "between", "(III)I"⟩, 33), (⟨"ArrowTablesModel", "isPaired", "(II)Z"⟩, 33), (⟨"ArrowTablesModel", "search", "(IIIZ)I"⟩, 33), (⟨"ArrowTablesModel", "findPairs", "(I)V"⟩, 33)]
theorem lw_r2 : ∀ q ∈ lw_privs_2, lw_okq q := List.forall_mem_cons.mpr ⟨lw_p16, List.forall_mem_cons.mpr ⟨lw_p17, List.forall_mem_cons.mpr ⟨lw_p18, List.forall_mem_cons.mpr ⟨lw_p19, List.forall_mem_cons.mpr ⟨lw_p20, List.forall_mem_cons.mpr ⟨lw_p21, List.forall_mem_cons.mpr ⟨lw_p22, List.forall_mem_cons.mpr ⟨lw_p23, List.forall_mem_cons.mpr ⟨lw_p24, List.forall_mem_cons.mpr ⟨lw_p25, List.forall_mem_cons.mpr ⟨lw_p26, List.forall_mem_cons.mpr ⟨lw_p27, List.forall_mem_cons.mpr ⟨lw_p28, List.forall_mem_cons.mpr ⟨lw_p29, List.forall_mem_cons.mpr ⟨lw_p30, List.forall_mem_cons.mpr ⟨lw_p31, fun _ h => absurd h List.not_mem_nil⟩⟩⟩⟩⟩⟩⟩⟩⟩⟩⟩⟩⟩⟩⟩⟩
theorem lw_p32 : lw_okq (⟨"ArrowTablesModel", "isKept", "(III)Z"⟩, 33) := ⟨⟨by decide +kernel, by decide +kernel⟩, List.mem_of_getElem? (i := 642) (by decide +kernel), List.mem_of_getElem? (i := 862) (by decide +kernel), List.mem_of_getElem? (i := 863) (by decide +kernel)⟩
theorem lw_p33 : lw_okq (⟨"ArrowTablesModel", "isSame", "(I)Z"⟩, 33) := ⟨⟨by decide +kernel, by decide +kernel⟩, List.mem_of_getElem? (i := 642) (by decide +kernel), List.mem_of_getElem? (i := 866) (by decide +kernel), List.mem_of_getElem? (i := 867) (by decide +kernel)⟩
theorem lw_p34 : lw_okq (⟨"ArrowTablesModel", "isUnlike", "(I)Z"⟩, 33) := ⟨⟨by decide +kernel, by decide +kernel⟩, List.mem_of_getElem? (i := 642) (by decide +kernel), List.mem_of_getElem? (i := 870) (by decide +kernel), List.mem_of_getElem? (i := 871) (by decide +kernel)⟩
theorem lw_p35 : lw_okq (⟨"ArrowTablesModel", "giveOf", "(II)I"⟩, 33) := ⟨⟨by decide +kernel, by decide +kernel⟩, List.mem_of_getElem? (i := 642) (by decide +kernel), List.mem_of_getElem? (i := 874) (by decide +kernel), List.mem_of_getElem? (i := 875) (by decide +kernel)⟩
theorem lw_p36 : lw_okq (⟨"ArrowTablesModel", "isFilled", "(I)Z"⟩, 33) := ⟨⟨by decide +kernel, by decide +kernel⟩, List.mem_of_getElem? (i := 642) (by decide +kernel), List.mem_of_getElem? (i := 878) (by decide +kernel), List.mem_of_getElem? (i := 879) (by decide +kernel)⟩
theorem lw_p37 : lw_okq (⟨"ArrowTablesModel", "isGiven", "(IIII)Z"⟩, 33) := ⟨⟨by decide +kernel, by decide +kernel⟩, List.mem_of_getElem? (i := 642) (by decide +kernel), List.mem_of_getElem? (i := 882) (by decide +kernel), List.mem_of_getElem? (i := 883) (by decide +kernel)⟩
theorem lw_p38 : lw_okq (⟨"ArrowTablesModel", "isAllCome", "(I)Z"⟩, 33) := ⟨⟨by decide +kernel, by decide +kernel⟩, List.mem_of_getElem? (i := 642) (by decide +kernel), List.mem_of_getElem? (i := 886) (by decide +kernel), List.mem_of_getElem? (i := 887) (by decide +kernel)⟩
theorem lw_p39 : lw_okq (⟨"ArrowTablesModel", "isCome", "(II)Z"⟩, 33) := ⟨⟨by decide +kernel, by decide +kernel⟩, List.mem_of_getElem? (i := 642) (by decide +kernel), List.mem_of_getElem? (i := 890) (by decide +kernel), List.mem_of_getElem? (i := 891) (by decide +kernel)⟩
theorem lw_p40 : lw_okq (⟨"ArrowTablesModel", "keeps", "()I"⟩, 33) := ⟨⟨by decide +kernel, by decide +kernel⟩, List.mem_of_getElem? (i := 642) (by decide +kernel), List.mem_of_getElem? (i := 898) (by decide +kernel), List.mem_of_getElem? (i := 899) (by decide +kernel)⟩
theorem lw_p41 : lw_okq (⟨"ArrowTablesModel", "isCarrier", "(I)Z"⟩, 33) := ⟨⟨by decide +kernel, by decide +kernel⟩, List.mem_of_getElem? (i := 642) (by decide +kernel), List.mem_of_getElem? (i := 906) (by decide +kernel), List.mem_of_getElem? (i := 907) (by decide +kernel)⟩
theorem lw_p42 : lw_okq (⟨"ArrowTablesModel", "against", "(II)I"⟩, 33) := ⟨⟨by decide +kernel, by decide +kernel⟩, List.mem_of_getElem? (i := 642) (by decide +kernel), List.mem_of_getElem? (i := 926) (by decide +kernel), List.mem_of_getElem? (i := 927) (by decide +kernel)⟩
theorem lw_p43 : lw_okq (⟨"ArrowTablesModel", "betweenCarriers", "(II)V"⟩, 33) := ⟨⟨by decide +kernel, by decide +kernel⟩, List.mem_of_getElem? (i := 642) (by decide +kernel), List.mem_of_getElem? (i := 930) (by decide +kernel), List.mem_of_getElem? (i := 931) (by decide +kernel)⟩
theorem lw_p44 : lw_okq (⟨"ArrowTablesModel", "chances", "(II)J"⟩, 33) := ⟨⟨by decide +kernel, by decide +kernel⟩, List.mem_of_getElem? (i := 642) (by decide +kernel), List.mem_of_getElem? (i := 934) (by decide +kernel), List.mem_of_getElem? (i := 935) (by decide +kernel)⟩
theorem lw_p45 : lw_okq (⟨"ArrowTablesModel", "after", "(III)I"⟩, 33) := ⟨⟨by decide +kernel, by decide +kernel⟩, List.mem_of_getElem? (i := 642) (by decide +kernel), List.mem_of_getElem? (i := 938) (by decide +kernel), List.mem_of_getElem? (i := 939) (by decide +kernel)⟩
theorem lw_p46 : lw_okq (⟨"ArrowTablesModel", "findBridge", "(III)I"⟩, 33) := ⟨⟨by decide +kernel, by decide +kernel⟩, List.mem_of_getElem? (i := 642) (by decide +kernel), List.mem_of_getElem? (i := 943) (by decide +kernel), List.mem_of_getElem? (i := 944) (by decide +kernel)⟩
theorem lw_p47 : lw_okq (⟨"ArrowTablesModel", "firstRow", "(II)Z"⟩, 33) := ⟨⟨by decide +kernel, by decide +kernel⟩, List.mem_of_getElem? (i := 642) (by decide +kernel), List.mem_of_getElem? (i := 947) (by decide +kernel), List.mem_of_getElem? (i := 948) (by decide +kernel)⟩
def lw_privs_3 : List (MethodName × Nat) := [(⟨"ArrowTablesModel", "isKept", "(III)Z"⟩, 33), (⟨"ArrowTablesModel", "isSame", "(I)Z"⟩, 33), (⟨"ArrowTablesModel", "isUnlike", "(I)Z"⟩, 33), (⟨"ArrowTablesModel", "giveOf", "(II)I"⟩, 33), (⟨"ArrowTablesModel", "isFilled", "(I)Z"⟩, 33), (⟨"ArrowTablesModel", "isGiven", "(IIII)Z"⟩, 33), (⟨"ArrowTablesModel", "isAllCome", "(I)Z"⟩, 33), (⟨"ArrowTablesModel", "isCome", "(II)Z"⟩, 33), (⟨"ArrowTablesModel", "keeps", "()I"⟩, 33), (⟨"ArrowTablesModel", "isCarrier", "(I)Z"⟩, 33), (⟨"ArrowTablesModel", "against", "(II)I"⟩, 33), (⟨"ArrowTablesModel", "betweenCarriers", "(II)V"⟩, 33), (⟨"ArrowTablesModel", "chances", "(II)J"⟩, 33), (⟨"ArrowTablesModel", "after", "(III)I"⟩, 33), (⟨"ArrowTablesModel", "findBridge", "(III)I"⟩, 33), (⟨"ArrowTablesModel", "firstRow", "(II)Z"⟩, 33)]
theorem lw_r3 : ∀ q ∈ lw_privs_3, lw_okq q := List.forall_mem_cons.mpr ⟨lw_p32, List.forall_mem_cons.mpr ⟨lw_p33, List.forall_mem_cons.mpr ⟨lw_p34, List.forall_mem_cons.mpr ⟨lw_p35, List.forall_mem_cons.mpr ⟨lw_p36, List.forall_mem_cons.mpr ⟨lw_p37, List.forall_mem_cons.mpr ⟨lw_p38, List.forall_mem_cons.mpr ⟨lw_p39, List.forall_mem_cons.mpr ⟨lw_p40, List.forall_mem_cons.mpr ⟨lw_p41, List.forall_mem_cons.mpr ⟨lw_p42, List.forall_mem_cons.mpr ⟨lw_p43, List.forall_mem_cons.mpr ⟨lw_p44, List.forall_mem_cons.mpr ⟨lw_p45, List.forall_mem_cons.mpr ⟨lw_p46, List.forall_mem_cons.mpr ⟨lw_p47, fun _ h => absurd h List.not_mem_nil⟩⟩⟩⟩⟩⟩⟩⟩⟩⟩⟩⟩⟩⟩⟩⟩
theorem lw_p48 : lw_okq (⟨"ArrowTablesModel", "isBridge", "(II)Z"⟩, 33) := ⟨⟨by decide +kernel, by decide +kernel⟩, List.mem_of_getElem? (i := 642) (by decide +kernel), List.mem_of_getElem? (i := 951) (by decide +kernel), List.mem_of_getElem? (i := 952) (by decide +kernel)⟩
theorem lw_p49 : lw_okq (⟨"ArrowTablesModel", "nextRow", "(II)Z"⟩, 33) := ⟨⟨by decide +kernel, by decide +kernel⟩, List.mem_of_getElem? (i := 642) (by decide +kernel), List.mem_of_getElem? (i := 955) (by decide +kernel), List.mem_of_getElem? (i := 956) (by decide +kernel)⟩
theorem lw_p50 : lw_okq (⟨"ArrowTablesModel", "ahead", "(II)V"⟩, 33) := ⟨⟨by decide +kernel, by decide +kernel⟩, List.mem_of_getElem? (i := 642) (by decide +kernel), List.mem_of_getElem? (i := 967) (by decide +kernel), List.mem_of_getElem? (i := 968) (by decide +kernel)⟩
theorem lw_p51 : lw_okq (⟨"ArrowTablesModel", "isCone", "(I)Z"⟩, 33) := ⟨⟨by decide +kernel, by decide +kernel⟩, List.mem_of_getElem? (i := 642) (by decide +kernel), List.mem_of_getElem? (i := 971) (by decide +kernel), List.mem_of_getElem? (i := 972) (by decide +kernel)⟩
theorem lw_p52 : lw_okq (⟨"ArrowTablesModel", "findCones", "(I)Z"⟩, 33) := ⟨⟨by decide +kernel, by decide +kernel⟩, List.mem_of_getElem? (i := 642) (by decide +kernel), List.mem_of_getElem? (i := 979) (by decide +kernel), List.mem_of_getElem? (i := 980) (by decide +kernel)⟩
theorem lw_p53 : lw_okq (⟨"ArrowTablesModel", "leads", "(IIII)I"⟩, 33) := ⟨⟨by decide +kernel, by decide +kernel⟩, List.mem_of_getElem? (i := 642) (by decide +kernel), List.mem_of_getElem? (i := 984) (by decide +kernel), List.mem_of_getElem? (i := 985) (by decide +kernel)⟩
theorem lw_p54 : lw_okq (⟨"ArrowTablesModel", "findAnswer", "(II)Z"⟩, 33) := ⟨⟨by decide +kernel, by decide +kernel⟩, List.mem_of_getElem? (i := 642) (by decide +kernel), List.mem_of_getElem? (i := 996) (by decide +kernel), List.mem_of_getElem? (i := 997) (by decide +kernel)⟩
theorem lw_p55 : lw_okq (⟨"ArrowTablesModel", "isAnswer", "(IIII)Z"⟩, 33) := ⟨⟨by decide +kernel, by decide +kernel⟩, List.mem_of_getElem? (i := 642) (by decide +kernel), List.mem_of_getElem? (i := 1000) (by decide +kernel), List.mem_of_getElem? (i := 1001) (by decide +kernel)⟩
theorem lw_p56 : lw_okq (⟨"ArrowTablesModel", "isObject", "(II)Z"⟩, 33) := ⟨⟨by decide +kernel, by decide +kernel⟩, List.mem_of_getElem? (i := 642) (by decide +kernel), List.mem_of_getElem? (i := 1012) (by decide +kernel), List.mem_of_getElem? (i := 1013) (by decide +kernel)⟩
theorem lw_p57 : lw_okq (⟨"ArrowTablesModel", "againstSieves", "(II)I"⟩, 33) := ⟨⟨by decide +kernel, by decide +kernel⟩, List.mem_of_getElem? (i := 642) (by decide +kernel), List.mem_of_getElem? (i := 1016) (by decide +kernel), List.mem_of_getElem? (i := 1017) (by decide +kernel)⟩
theorem lw_p58 : lw_okq (⟨"ArrowTablesModel", "findEnds", "(II)V"⟩, 33) := ⟨⟨by decide +kernel, by decide +kernel⟩, List.mem_of_getElem? (i := 642) (by decide +kernel), List.mem_of_getElem? (i := 1020) (by decide +kernel), List.mem_of_getElem? (i := 1021) (by decide +kernel)⟩
theorem lw_p59 : lw_okq (⟨"ArrowTablesModel", "findSieve", "(III)I"⟩, 33) := ⟨⟨by decide +kernel, by decide +kernel⟩, List.mem_of_getElem? (i := 642) (by decide +kernel), List.mem_of_getElem? (i := 1024) (by decide +kernel), List.mem_of_getElem? (i := 1025) (by decide +kernel)⟩
theorem lw_p60 : lw_okq (⟨"ArrowTablesModel", "isSieve", "(III)Z"⟩, 33) := ⟨⟨by decide +kernel, by decide +kernel⟩, List.mem_of_getElem? (i := 642) (by decide +kernel), List.mem_of_getElem? (i := 1028) (by decide +kernel), List.mem_of_getElem? (i := 1029) (by decide +kernel)⟩
theorem lw_p61 : lw_okq (⟨"ArrowTablesModel", "pulled", "(III)I"⟩, 33) := ⟨⟨by decide +kernel, by decide +kernel⟩, List.mem_of_getElem? (i := 642) (by decide +kernel), List.mem_of_getElem? (i := 1040) (by decide +kernel), List.mem_of_getElem? (i := 1041) (by decide +kernel)⟩
def lw_privs_4 : List (MethodName × Nat) := [(⟨"ArrowTablesModel", "isBridge", "(II)Z"⟩, 33), (⟨"ArrowTablesModel", "nextRow", "(II)Z"⟩, 33), (⟨"ArrowTablesModel", "ahead", "(II)V"⟩, 33), (⟨"ArrowTablesModel", "isCone", "(I)Z"⟩, 33), (⟨"ArrowTablesModel", "findCones", "(I)Z"⟩, 33), (⟨"ArrowTablesModel", "leads", "(IIII)I"⟩, 33), (⟨"ArrowTablesModel", "findAnswer", "(II)Z"⟩, 33), (⟨"ArrowTablesModel", "isAnswer", "(IIII)Z"⟩, 33), (⟨"ArrowTablesModel", "isObject", "(II)Z"⟩, 33), (⟨"ArrowTablesModel", "againstSieves", "(II)I"⟩, 33), (⟨"ArrowTablesModel", "findEnds", "(II)V"⟩, 33), (⟨"ArrowTablesModel", "findSieve", "(III)I"⟩, 33), (⟨"ArrowTablesModel", "isSieve", "(III)Z"⟩, 33), (⟨"ArrowTablesModel", "pulled", "(III)I"⟩, 33)]
theorem lw_r4 : ∀ q ∈ lw_privs_4, lw_okq q := List.forall_mem_cons.mpr ⟨lw_p48, List.forall_mem_cons.mpr ⟨lw_p49, List.forall_mem_cons.mpr ⟨lw_p50, List.forall_mem_cons.mpr ⟨lw_p51, List.forall_mem_cons.mpr ⟨lw_p52, List.forall_mem_cons.mpr ⟨lw_p53, List.forall_mem_cons.mpr ⟨lw_p54, List.forall_mem_cons.mpr ⟨lw_p55, List.forall_mem_cons.mpr ⟨lw_p56, List.forall_mem_cons.mpr ⟨lw_p57, List.forall_mem_cons.mpr ⟨lw_p58, List.forall_mem_cons.mpr ⟨lw_p59, List.forall_mem_cons.mpr ⟨lw_p60, List.forall_mem_cons.mpr ⟨lw_p61, fun _ h => absurd h List.not_mem_nil⟩⟩⟩⟩⟩⟩⟩⟩⟩⟩⟩⟩⟩⟩
def lw_privs : List (MethodName × Nat) := lw_privs_1 ++ (lw_privs_2 ++ (lw_privs_3 ++ (lw_privs_4)))
def lw_tbl : List Cond := k2_sels lw_privs ++ tables_1
theorem lw_privs_ok : ∀ q ∈ lw_privs, lw_okq q := by
  show ∀ q ∈ lw_privs_1 ++ (lw_privs_2 ++ (lw_privs_3 ++ (lw_privs_4))), lw_okq q
  exact List.forall_mem_append.mpr ⟨lw_r1, List.forall_mem_append.mpr ⟨lw_r2, List.forall_mem_append.mpr ⟨lw_r3, lw_r4⟩⟩⟩
end
section
/-! ===== BEGIN words of one list among another's, by their places ===== -/
theorem goodIn_r {big : List Cond} (ws : List Cond) (ps : List Nat) (hp : ws = ps.filterMap (fun i => big[i]?)) (h : ws.all goodWord = true) : GoodIn big ws := by
  intro w hw
  have h1 := List.all_eq_true.mp h w hw
  rw [hp] at hw
  obtain ⟨i, -, hi⟩ := List.mem_filterMap.mp hw
  have hm : w ∈ big := by first | exact List.mem_of_getElem? hi | exact List.getElem?_mem hi
  exact ⟨hm, good_of_word h1⟩
theorem goodIn_app {big a b : List Cond} (ha : GoodIn big a) (hb : GoodIn big b) : GoodIn big (a ++ b) := fun w h => (List.mem_append.mp h).elim (ha w) (hb w)
theorem goodIn_ca {big a b : List Cond} {c : Cond} (ha : GoodIn big (c :: a)) (hb : GoodIn big b) : GoodIn big (c :: (a ++ b)) := fun w h => (List.mem_cons.mp h).elim (fun e => ha w (List.mem_cons.mpr (Or.inl e))) (fun h => (List.mem_append.mp h).elim (fun h => ha w (List.mem_cons.mpr (Or.inr h))) (hb w))
theorem goodIn_sub {big ws : List Cond} (hm : ∀ w ∈ ws, w ∈ big) (h : ws.all goodWord = true) : GoodIn big ws := fun w hw => ⟨hm w hw, good_of_word (List.all_eq_true.mp h w hw)⟩
/-! ===== END ===== -/

/-! ===== BEGIN printed: names, fields, word lists, decode rows ===== -/
def RX0 : String := "ArrowTables$Carrier"
def TX0 : u_T := fun k => match k with
  | 0 => ("ArrowTables$Carrier", "fromNumber", "I", true)
  | 1 => ("ArrowTables$Carrier", "toNumber", "I", true)
  | 2 => ("ArrowTables$Carrier", "from", "LArrowTables$Table;", true)
  | 3 => ("ArrowTables$Carrier", "to", "LArrowTables$Table;", true)
  | _ => ("ArrowTables$Carrier", "given", "[I", true)
def tyX0 : Nat → FieldType := fun k => match k with
  | 0 => .int
  | 1 => .int
  | 2 => .object "ArrowTables$Table"
  | 3 => .object "ArrowTables$Table"
  | _ => .array .int
abbrev wsX00 : List Cond := u_ws RX0 TX0 5
theorem nmX0 : ∀ a, a < 5 → ∀ b, b < 5 → a ≠ b → (TX0 a).2.1 ≠ (TX0 b).2.1 := by decide +kernel
theorem tyX0_ok : ∀ k, k < 5 → parseFieldDescriptor (TX0 k).2.2.1 = some (tyX0 k) := by decide +kernel
abbrev cX0_init : ByteArray := prog_2_method_1_code
def yX0_init : MethodName := ⟨RX0, "<init>", "(IILArrowTables$Table;LArrowTables$Table;)V"⟩
abbrev cX0_givenTo : ByteArray := prog_2_method_2_code
def yX0_givenTo : MethodName := ⟨RX0, "givenTo", "(I)I"⟩
def RX1 : String := "ArrowTables$Cones"
def TX1 : u_T := fun k => match k with
  | 0 => ("ArrowTables$Cones", "size", "I", false)
  | 1 => ("ArrowTables$Cones", "apexes", "[I", true)
  | _ => ("ArrowTables$Cones", "legs", "[I", true)
def tyX1 : Nat → FieldType := fun k => match k with
  | 0 => .int
  | 1 => .array .int
  | _ => .array .int
abbrev wsX10 : List Cond := u_ws RX1 TX1 3
theorem nmX1 : ∀ a, a < 3 → ∀ b, b < 3 → a ≠ b → (TX1 a).2.1 ≠ (TX1 b).2.1 := by decide +kernel
theorem tyX1_ok : ∀ k, k < 3 → parseFieldDescriptor (TX1 k).2.2.1 = some (tyX1 k) := by decide +kernel
abbrev cX1_init : ByteArray := prog_3_method_1_code
def yX1_init : MethodName := ⟨RX1, "<init>", "()V"⟩
abbrev cX1_add : ByteArray := prog_3_method_2_code
def yX1_add : MethodName := ⟨RX1, "add", "(I[II)V"⟩
abbrev cX1_apexOf : ByteArray := prog_3_method_3_code
def yX1_apexOf : MethodName := ⟨RX1, "apexOf", "(I)I"⟩
abbrev cX1_legOf : ByteArray := prog_3_method_4_code
def yX1_legOf : MethodName := ⟨RX1, "legOf", "(II)I"⟩
abbrev cX1_firstLimit : ByteArray := prog_3_method_5_code
def yX1_firstLimit : MethodName := ⟨RX1, "firstLimit", "(LArrowTables$Table;I)I"⟩
abbrev cX1_isLimit : ByteArray := prog_3_method_6_code
def yX1_isLimit : MethodName := ⟨RX1, "isLimit", "(LArrowTables$Table;II)Z"⟩
abbrev cX1_arrowsInto : ByteArray := prog_3_method_7_code
def yX1_arrowsInto : MethodName := ⟨RX1, "arrowsInto", "(LArrowTables$Table;III)I"⟩
abbrev cX1_bringsLegs : ByteArray := prog_3_method_8_code
def yX1_bringsLegs : MethodName := ⟨RX1, "bringsLegs", "(LArrowTables$Table;IIII)Z"⟩
def RX2 : String := "ArrowTables$Family"
def TX2 : u_T := fun k => match k with
  | 0 => ("ArrowTables$Family", "choice", "[I", true)
  | 1 => ("ArrowTables$Family", "picked", "[I", true)
  | 2 => ("ArrowTables$Family", "lists", "[I", true)
  | 3 => ("ArrowTables$Family", "sizes", "[I", true)
  | _ => ("ArrowTables$Family", "places", "[I", true)
def tyX2 : Nat → FieldType := fun k => match k with
  | 0 => .array .int
  | 1 => .array .int
  | 2 => .array .int
  | 3 => .array .int
  | _ => .array .int
abbrev wsX20 : List Cond := u_ws RX2 TX2 5
theorem nmX2 : ∀ a, a < 5 → ∀ b, b < 5 → a ≠ b → (TX2 a).2.1 ≠ (TX2 b).2.1 := by decide +kernel
theorem tyX2_ok : ∀ k, k < 5 → parseFieldDescriptor (TX2 k).2.2.1 = some (tyX2 k) := by decide +kernel
abbrev cX2_init : ByteArray := prog_4_method_1_code
def yX2_init : MethodName := ⟨RX2, "<init>", "()V"⟩
abbrev cX2_lay : ByteArray := prog_4_method_2_code
def yX2_lay : MethodName := ⟨RX2, "lay", "(LArrowTables$Table;LArrowTables$Table;[I[I)I"⟩
abbrev cX2_search : ByteArray := prog_4_method_3_code
def yX2_search : MethodName := ⟨RX2, "search", "(LArrowTables$Table;LArrowTables$Table;[I[II)I"⟩
abbrev cX2_choose : ByteArray := prog_4_method_4_code
def yX2_choose : MethodName := ⟨RX2, "choose", "(I)V"⟩
abbrev cX2_holds : ByteArray := prog_4_method_5_code
def yX2_holds : MethodName := ⟨RX2, "holds", "(LArrowTables$Table;LArrowTables$Table;[I[I)Z"⟩
abbrev cX2_step : ByteArray := prog_4_method_6_code
def yX2_step : MethodName := ⟨RX2, "step", "(I)V"⟩
def RX3 : String := "ArrowTables$Search"
def TX3 : u_T := fun k => match k with
  | 0 => ("ArrowTables$Search", "given", "[I", true)
  | 1 => ("ArrowTables$Search", "tries", "I", false)
  | 2 => ("ArrowTables$Search", "spent", "Z", false)
  | 3 => ("ArrowTables$Search", "at", "I", false)
  | 4 => ("ArrowTables$Search", "ruleStarts", "[I", true)
  | 5 => ("ArrowTables$Search", "ruleFirsts", "[I", true)
  | _ => ("ArrowTables$Search", "ruleSeconds", "[I", true)
def tyX3 : Nat → FieldType := fun k => match k with
  | 0 => .array .int
  | 1 => .int
  | 2 => .boolean
  | 3 => .int
  | 4 => .array .int
  | 5 => .array .int
  | _ => .array .int
abbrev wsX30 : List Cond := u_ws RX3 TX3 7
theorem nmX3 : ∀ a, a < 7 → ∀ b, b < 7 → a ≠ b → (TX3 a).2.1 ≠ (TX3 b).2.1 := by decide +kernel
theorem tyX3_ok : ∀ k, k < 7 → parseFieldDescriptor (TX3 k).2.2.1 = some (tyX3 k) := by decide +kernel
abbrev cX3_init : ByteArray := prog_5_method_1_code
def yX3_init : MethodName := ⟨RX3, "<init>", "()V"⟩
abbrev cX3_start : ByteArray := prog_5_method_2_code
def yX3_start : MethodName := ⟨RX3, "start", "(LArrowTables$Table;)V"⟩
abbrev cX3_next : ByteArray := prog_5_method_3_code
def yX3_next : MethodName := ⟨RX3, "next", "(LArrowTables$Table;LArrowTables$Table;)Z"⟩
abbrev cX3_setRules : ByteArray := prog_5_method_4_code
def yX3_setRules : MethodName := ⟨RX3, "setRules", "(LArrowTables$Table;)V"⟩
abbrev cX3_fits : ByteArray := prog_5_method_5_code
def yX3_fits : MethodName := ⟨RX3, "fits", "(LArrowTables$Table;LArrowTables$Table;)Z"⟩
def RX4 : String := "ArrowTables$Table"
def TX4 : u_T := fun k => match k with
  | 0 => ("ArrowTables$Table", "objects", "I", true)
  | 1 => ("ArrowTables$Table", "arrows", "I", false)
  | 2 => ("ArrowTables$Table", "closed", "Z", false)
  | 3 => ("ArrowTables$Table", "from", "[I", true)
  | 4 => ("ArrowTables$Table", "to", "[I", true)
  | _ => ("ArrowTables$Table", "ways", "[I", true)
def tyX4 : Nat → FieldType := fun k => match k with
  | 0 => .int
  | 1 => .int
  | 2 => .boolean
  | 3 => .array .int
  | 4 => .array .int
  | _ => .array .int
abbrev wsX40 : List Cond := u_ws RX4 TX4 6
theorem nmX4 : ∀ a, a < 6 → ∀ b, b < 6 → a ≠ b → (TX4 a).2.1 ≠ (TX4 b).2.1 := by decide +kernel
theorem tyX4_ok : ∀ k, k < 6 → parseFieldDescriptor (TX4 k).2.2.1 = some (tyX4 k) := by decide +kernel
abbrev cX4_init : ByteArray := prog_6_method_1_code
def yX4_init : MethodName := ⟨RX4, "<init>", "(I)V"⟩
abbrev cX4_addArrow : ByteArray := prog_6_method_2_code
def yX4_addArrow : MethodName := ⟨RX4, "addArrow", "(II)I"⟩
abbrev cX4_setWay : ByteArray := prog_6_method_3_code
def yX4_setWay : MethodName := ⟨RX4, "setWay", "(III)V"⟩
abbrev cX4_wayAt : ByteArray := prog_6_method_4_code
def yX4_wayAt : MethodName := ⟨RX4, "wayAt", "(II)I"⟩
abbrev cX4_fromOf : ByteArray := prog_6_method_5_code
def yX4_fromOf : MethodName := ⟨RX4, "fromOf", "(I)I"⟩
abbrev cX4_toOf : ByteArray := prog_6_method_6_code
def yX4_toOf : MethodName := ⟨RX4, "toOf", "(I)I"⟩
abbrev cX4_hasObject : ByteArray := prog_6_method_7_code
def yX4_hasObject : MethodName := ⟨RX4, "hasObject", "(I)Z"⟩
abbrev cX4_hasArrow : ByteArray := prog_6_method_8_code
def yX4_hasArrow : MethodName := ⟨RX4, "hasArrow", "(I)Z"⟩
abbrev cX4_doesNothing : ByteArray := prog_6_method_9_code
def yX4_doesNothing : MethodName := ⟨RX4, "doesNothing", "(I)Z"⟩
abbrev cX4_isRow : ByteArray := prog_6_method_10_code
def yX4_isRow : MethodName := ⟨RX4, "isRow", "(II)Z"⟩
abbrev cX4_leads : ByteArray := prog_6_method_11_code
def yX4_leads : MethodName := ⟨RX4, "leads", "(III)Z"⟩
abbrev cX4_areBeside : ByteArray := prog_6_method_12_code
def yX4_areBeside : MethodName := ⟨RX4, "areBeside", "(II)Z"⟩
abbrev cX4_firstBetween : ByteArray := prog_6_method_13_code
def yX4_firstBetween : MethodName := ⟨RX4, "firstBetween", "(II)I"⟩
abbrev cX4_writeFault : ByteArray := prog_6_method_14_code
def yX4_writeFault : MethodName := ⟨RX4, "writeFault", "([I)V"⟩
abbrev cX4_writeFaultRow : ByteArray := prog_6_method_15_code
def yX4_writeFaultRow : MethodName := ⟨RX4, "writeFaultRow", "([IIIII)V"⟩
abbrev cX4_writeUntold : ByteArray := prog_6_method_16_code
def yX4_writeUntold : MethodName := ⟨RX4, "writeUntold", "([I)Z"⟩
abbrev cX4_writeUnlike : ByteArray := prog_6_method_17_code
def yX4_writeUnlike : MethodName := ⟨RX4, "writeUnlike", "([I)V"⟩
abbrev cX4_rowsOfTwo : ByteArray := prog_6_method_18_code
def yX4_rowsOfTwo : MethodName := ⟨RX4, "rowsOfTwo", "()I"⟩
abbrev cX4_arrowsWithBack : ByteArray := prog_6_method_19_code
def yX4_arrowsWithBack : MethodName := ⟨RX4, "arrowsWithBack", "()I"⟩
abbrev cX4_hasBack : ByteArray := prog_6_method_20_code
def yX4_hasBack : MethodName := ⟨RX4, "hasBack", "(I)Z"⟩
abbrev cX4_areAlike : ByteArray := prog_6_method_21_code
def yX4_areAlike : MethodName := ⟨RX4, "areAlike", "(II)Z"⟩
abbrev cX4_arrowsInto : ByteArray := prog_6_method_22_code
def yX4_arrowsInto : MethodName := ⟨RX4, "arrowsInto", "(I)I"⟩
abbrev cX4_isSieve : ByteArray := prog_6_method_23_code
def yX4_isSieve : MethodName := ⟨RX4, "isSieve", "(II)Z"⟩
abbrev cX4_hasAllAhead : ByteArray := prog_6_method_24_code
def yX4_hasAllAhead : MethodName := ⟨RX4, "hasAllAhead", "(II)Z"⟩
abbrev cX4_pulled : ByteArray := prog_6_method_25_code
def yX4_pulled : MethodName := ⟨RX4, "pulled", "(II)I"⟩
def RX5 : String := "ArrowTables"
def TX5 : u_T := fun k => match k with
  | 0 => ("ArrowTables", "tables", "[LArrowTables$Table;", true)
  | 1 => ("ArrowTables", "kept", "[LArrowTables$Carrier;", true)
  | 2 => ("ArrowTables", "search", "LArrowTables$Search;", true)
  | 3 => ("ArrowTables", "family", "LArrowTables$Family;", true)
  | 4 => ("ArrowTables", "coneRows", "LArrowTables$Cones;", true)
  | 5 => ("ArrowTables", "pickedCarrier", "[I", true)
  | 6 => ("ArrowTables", "faultRow", "[I", true)
  | 7 => ("ArrowTables", "apexRow", "[I", true)
  | 8 => ("ArrowTables", "answerObjects", "[I", true)
  | 9 => ("ArrowTables", "answerArrows", "[I", true)
  | 10 => ("ArrowTables", "limitLegs", "[I", true)
  | 11 => ("ArrowTables", "tableCount", "I", false)
  | 12 => ("ArrowTables", "keptCount", "I", false)
  | _ => ("ArrowTables", "limitLegCount", "I", false)
def tyX5 : Nat → FieldType := fun k => match k with
  | 0 => .array (.object "ArrowTables$Table")
  | 1 => .array (.object "ArrowTables$Carrier")
  | 2 => .object "ArrowTables$Search"
  | 3 => .object "ArrowTables$Family"
  | 4 => .object "ArrowTables$Cones"
  | 5 => .array .int
  | 6 => .array .int
  | 7 => .array .int
  | 8 => .array .int
  | 9 => .array .int
  | 10 => .array .int
  | 11 => .int
  | 12 => .int
  | _ => .int
abbrev wsX50 : List Cond := u_ws RX5 TX5 14
theorem nmX5 : ∀ a, a < 14 → ∀ b, b < 14 → a ≠ b → (TX5 a).2.1 ≠ (TX5 b).2.1 := by decide +kernel
theorem tyX5_ok : ∀ k, k < 14 → parseFieldDescriptor (TX5 k).2.2.1 = some (tyX5 k) := by decide +kernel
abbrev cX5_init : ByteArray := prog_1_method_1_code
def yX5_init : MethodName := ⟨RX5, "<init>", "()V"⟩
abbrev cX5_table : ByteArray := prog_1_method_2_code
def yX5_table : MethodName := ⟨RX5, "table", "(I)I"⟩
abbrev cX5_arrow : ByteArray := prog_1_method_3_code
def yX5_arrow : MethodName := ⟨RX5, "arrow", "(III)I"⟩
abbrev cX5_way : ByteArray := prog_1_method_4_code
def yX5_way : MethodName := ⟨RX5, "way", "(IIII)I"⟩
abbrev cX5_close : ByteArray := prog_1_method_5_code
def yX5_close : MethodName := ⟨RX5, "close", "(I)I"⟩
abbrev cX5_fault : ByteArray := prog_1_method_6_code
def yX5_fault : MethodName := ⟨RX5, "fault", "(II)I"⟩
abbrev cX5_order : ByteArray := prog_1_method_7_code
def yX5_order : MethodName := ⟨RX5, "order", "(IJ)I"⟩
abbrev cX5_turned : ByteArray := prog_1_method_8_code
def yX5_turned : MethodName := ⟨RX5, "turned", "(I)I"⟩
abbrev cX5_beside : ByteArray := prog_1_method_9_code
def yX5_beside : MethodName := ⟨RX5, "beside", "(II)I"⟩
abbrev cX5_about : ByteArray := prog_1_method_10_code
def yX5_about : MethodName := ⟨RX5, "about", "(II)I"⟩
abbrev cX5_end : ByteArray := prog_1_method_11_code
def yX5_end : MethodName := ⟨RX5, "end", "(III)I"⟩
abbrev cX5_wayOf : ByteArray := prog_1_method_12_code
def yX5_wayOf : MethodName := ⟨RX5, "wayOf", "(III)I"⟩
abbrev cX5_carriers : ByteArray := prog_1_method_13_code
def yX5_carriers : MethodName := ⟨RX5, "carriers", "(II)I"⟩
abbrev cX5_carrier : ByteArray := prog_1_method_14_code
def yX5_carrier : MethodName := ⟨RX5, "carrier", "(III)I"⟩
abbrev cX5_then : ByteArray := prog_1_method_15_code
def yX5_then : MethodName := ⟨RX5, "then", "(II)I"⟩
abbrev cX5_told : ByteArray := prog_1_method_16_code
def yX5_told : MethodName := ⟨RX5, "told", "(II)I"⟩
abbrev cX5_gives : ByteArray := prog_1_method_17_code
def yX5_gives : MethodName := ⟨RX5, "gives", "(II)I"⟩
abbrev cX5_same : ByteArray := prog_1_method_18_code
def yX5_same : MethodName := ⟨RX5, "same", "(II)I"⟩
abbrev cX5_bridges : ByteArray := prog_1_method_19_code
def yX5_bridges : MethodName := ⟨RX5, "bridges", "(II)I"⟩
abbrev cX5_bridge : ByteArray := prog_1_method_20_code
def yX5_bridge : MethodName := ⟨RX5, "bridge", "(IIII)I"⟩
abbrev cX5_limit : ByteArray := prog_1_method_21_code
def yX5_limit : MethodName := ⟨RX5, "limit", "(I)I"⟩
abbrev cX5_leg : ByteArray := prog_1_method_22_code
def yX5_leg : MethodName := ⟨RX5, "leg", "(I)I"⟩
abbrev cX5_cones : ByteArray := prog_1_method_23_code
def yX5_cones : MethodName := ⟨RX5, "cones", "(II)I"⟩
abbrev cX5_answer : ByteArray := prog_1_method_24_code
def yX5_answer : MethodName := ⟨RX5, "answer", "(III)I"⟩
abbrev cX5_answers : ByteArray := prog_1_method_25_code
def yX5_answers : MethodName := ⟨RX5, "answers", "(I)I"⟩
abbrev cX5_sieves : ByteArray := prog_1_method_26_code
def yX5_sieves : MethodName := ⟨RX5, "sieves", "(II)I"⟩
abbrev cX5_sieve : ByteArray := prog_1_method_27_code
def yX5_sieve : MethodName := ⟨RX5, "sieve", "(III)I"⟩
abbrev cX5_pull : ByteArray := prog_1_method_28_code
def yX5_pull : MethodName := ⟨RX5, "pull", "(IIII)I"⟩
abbrev cX5_follows : ByteArray := prog_1_method_29_code
def yX5_follows : MethodName := ⟨RX5, "follows", "(IIII)I"⟩
abbrev cX5_count : ByteArray := prog_1_method_30_code
def yX5_count : MethodName := ⟨RX5, "count", "(I)I"⟩
abbrev cX5_digest : ByteArray := prog_1_method_31_code
def yX5_digest : MethodName := ⟨RX5, "digest", "()J"⟩
abbrev cX5_read : ByteArray := prog_1_method_32_code
def yX5_read : MethodName := ⟨RX5, "read", "([II)I"⟩
abbrev cX5_write : ByteArray := prog_1_method_33_code
def yX5_write : MethodName := ⟨RX5, "write", "([III)V"⟩
abbrev cX5_copy : ByteArray := prog_1_method_34_code
def yX5_copy : MethodName := ⟨RX5, "copy", "([I[II)V"⟩
abbrev cX5_tableAt : ByteArray := prog_1_method_35_code
def yX5_tableAt : MethodName := ⟨RX5, "tableAt", "(I)LArrowTables$Table;"⟩
abbrev cX5_carrierAt : ByteArray := prog_1_method_36_code
def yX5_carrierAt : MethodName := ⟨RX5, "carrierAt", "(I)LArrowTables$Carrier;"⟩
abbrev cX5_keepTable : ByteArray := prog_1_method_37_code
def yX5_keepTable : MethodName := ⟨RX5, "keepTable", "(LArrowTables$Table;)I"⟩
abbrev cX5_keepCarrier : ByteArray := prog_1_method_38_code
def yX5_keepCarrier : MethodName := ⟨RX5, "keepCarrier", "(LArrowTables$Carrier;)I"⟩
abbrev cX5_digestOfTable : ByteArray := prog_1_method_39_code
def yX5_digestOfTable : MethodName := ⟨RX5, "digestOfTable", "(JLArrowTables$Table;)J"⟩
abbrev cX5_digestOfCarrier : ByteArray := prog_1_method_40_code
def yX5_digestOfCarrier : MethodName := ⟨RX5, "digestOfCarrier", "(JLArrowTables$Carrier;)J"⟩
abbrev cX5_hasBit : ByteArray := prog_1_method_41_code
def yX5_hasBit : MethodName := ⟨RX5, "hasBit", "(JII)Z"⟩
abbrev cX5_isRightOrder : ByteArray := prog_1_method_42_code
def yX5_isRightOrder : MethodName := ⟨RX5, "isRightOrder", "(IJ)Z"⟩
abbrev cX5_hasAllOf : ByteArray := prog_1_method_43_code
def yX5_hasAllOf : MethodName := ⟨RX5, "hasAllOf", "(IJII)Z"⟩
abbrev cX5_bitsOfOrder : ByteArray := prog_1_method_44_code
def yX5_bitsOfOrder : MethodName := ⟨RX5, "bitsOfOrder", "(IJ)I"⟩
abbrev cX5_tableOfOrder : ByteArray := prog_1_method_45_code
def yX5_tableOfOrder : MethodName := ⟨RX5, "tableOfOrder", "(IJ)LArrowTables$Table;"⟩
abbrev cX5_turnedTable : ByteArray := prog_1_method_46_code
def yX5_turnedTable : MethodName := ⟨RX5, "turnedTable", "(LArrowTables$Table;)LArrowTables$Table;"⟩
abbrev cX5_tableBeside : ByteArray := prog_1_method_47_code
def yX5_tableBeside : MethodName := ⟨RX5, "tableBeside", "(LArrowTables$Table;LArrowTables$Table;)LArrowTables$Table;"⟩
abbrev cX5_tellWaysBeside : ByteArray := prog_1_method_48_code
def yX5_tellWaysBeside : MethodName := ⟨RX5, "tellWaysBeside", "(LArrowTables$Table;LArrowTables$Table;LArrowTables$Table;II)V"⟩
abbrev cX5_numberBeside : ByteArray := prog_1_method_49_code
def yX5_numberBeside : MethodName := ⟨RX5, "numberBeside", "(LArrowTables$Table;LArrowTables$Table;II)I"⟩
abbrev cX5_pickCarrier : ByteArray := prog_1_method_50_code
def yX5_pickCarrier : MethodName := ⟨RX5, "pickCarrier", "(LArrowTables$Table;LArrowTables$Table;I)I"⟩
abbrev cX5_isSame : ByteArray := prog_1_method_51_code
def yX5_isSame : MethodName := ⟨RX5, "isSame", "(LArrowTables$Table;LArrowTables$Table;[I)Z"⟩
abbrev cX5_keepsUnlike : ByteArray := prog_1_method_52_code
def yX5_keepsUnlike : MethodName := ⟨RX5, "keepsUnlike", "(LArrowTables$Table;[I)Z"⟩
abbrev cX5_givesAll : ByteArray := prog_1_method_53_code
def yX5_givesAll : MethodName := ⟨RX5, "givesAll", "(LArrowTables$Table;LArrowTables$Table;[I)Z"⟩
abbrev cX5_isGiven : ByteArray := prog_1_method_54_code
def yX5_isGiven : MethodName := ⟨RX5, "isGiven", "(LArrowTables$Table;[IIII)Z"⟩
abbrev cX5_reachesAll : ByteArray := prog_1_method_55_code
def yX5_reachesAll : MethodName := ⟨RX5, "reachesAll", "(LArrowTables$Table;LArrowTables$Table;[I)Z"⟩
abbrev cX5_searchBridges : ByteArray := prog_1_method_56_code
def yX5_searchBridges : MethodName := ⟨RX5, "searchBridges", "(LArrowTables$Carrier;LArrowTables$Carrier;I)I"⟩
abbrev cX5_coneChances : ByteArray := prog_1_method_57_code
def yX5_coneChances : MethodName := ⟨RX5, "coneChances", "(LArrowTables$Carrier;I)I"⟩
abbrev cX5_gatherCones : ByteArray := prog_1_method_58_code
def yX5_gatherCones : MethodName := ⟨RX5, "gatherCones", "(LArrowTables$Carrier;)V"⟩
abbrev cX5_writeAnswer : ByteArray := prog_1_method_59_code
def yX5_writeAnswer : MethodName := ⟨RX5, "writeAnswer", "(LArrowTables$Carrier;I)V"⟩
abbrev cX5_isAnswer : ByteArray := prog_1_method_60_code
def yX5_isAnswer : MethodName := ⟨RX5, "isAnswer", "(LArrowTables$Carrier;III)Z"⟩
abbrev cX5_arrowsThrough : ByteArray := prog_1_method_61_code
def yX5_arrowsThrough : MethodName := ⟨RX5, "arrowsThrough", "(LArrowTables$Carrier;IIII)I"⟩
abbrev cX5_answeredArrow : ByteArray := prog_1_method_62_code
def yX5_answeredArrow : MethodName := ⟨RX5, "answeredArrow", "(LArrowTables$Carrier;I)I"⟩
abbrev cX5_searchSieves : ByteArray := prog_1_method_63_code
def yX5_searchSieves : MethodName := ⟨RX5, "searchSieves", "(LArrowTables$Table;II)I"⟩
def RX6 : String := "ArrowTablesModel"
def TX6 : u_T := fun k => match k with
  | 0 => ("ArrowTablesModel", "tables", "I", false)
  | 1 => ("ArrowTablesModel", "objects", "[I", true)
  | 2 => ("ArrowTablesModel", "arrows", "[I", true)
  | 3 => ("ArrowTablesModel", "isClosed", "[Z", true)
  | 4 => ("ArrowTablesModel", "source", "[I", true)
  | 5 => ("ArrowTablesModel", "target", "[I", true)
  | 6 => ("ArrowTablesModel", "ways", "[I", true)
  | 7 => ("ArrowTablesModel", "faults", "[I", true)
  | 8 => ("ArrowTablesModel", "first", "[I", true)
  | 9 => ("ArrowTablesModel", "second", "[I", true)
  | 10 => ("ArrowTablesModel", "kept", "I", false)
  | 11 => ("ArrowTablesModel", "cFrom", "[I", true)
  | 12 => ("ArrowTablesModel", "cTo", "[I", true)
  | 13 => ("ArrowTablesModel", "give", "[I", true)
  | 14 => ("ArrowTablesModel", "tries", "I", false)
  | 15 => ("ArrowTablesModel", "pairA", "[I", true)
  | 16 => ("ArrowTablesModel", "pairB", "[I", true)
  | 17 => ("ArrowTablesModel", "pairFrom", "[I", true)
  | 18 => ("ArrowTablesModel", "rowFrom", "[I", true)
  | 19 => ("ArrowTablesModel", "rowTo", "[I", true)
  | 20 => ("ArrowTablesModel", "row", "[I", true)
  | 21 => ("ArrowTablesModel", "coneMany", "I", false)
  | 22 => ("ArrowTablesModel", "coneAt", "[I", true)
  | 23 => ("ArrowTablesModel", "coneLeg", "[I", true)
  | 24 => ("ArrowTablesModel", "limitLeg", "[I", true)
  | 25 => ("ArrowTablesModel", "limitLegs", "I", false)
  | 26 => ("ArrowTablesModel", "answerX", "I", false)
  | 27 => ("ArrowTablesModel", "answerA", "I", false)
  | 28 => ("ArrowTablesModel", "allX", "[I", true)
  | 29 => ("ArrowTablesModel", "allA", "[I", true)
  | 30 => ("ArrowTablesModel", "endMany", "I", false)
  | 31 => ("ArrowTablesModel", "ends", "[I", true)
  | _ => ("ArrowTablesModel", "sieveAt", "I", false)
def tyX6 : Nat → FieldType := fun k => match k with
  | 0 => .int
  | 1 => .array .int
  | 2 => .array .int
  | 3 => .array .boolean
  | 4 => .array .int
  | 5 => .array .int
  | 6 => .array .int
  | 7 => .array .int
  | 8 => .array .int
  | 9 => .array .int
  | 10 => .int
  | 11 => .array .int
  | 12 => .array .int
  | 13 => .array .int
  | 14 => .int
  | 15 => .array .int
  | 16 => .array .int
  | 17 => .array .int
  | 18 => .array .int
  | 19 => .array .int
  | 20 => .array .int
  | 21 => .int
  | 22 => .array .int
  | 23 => .array .int
  | 24 => .array .int
  | 25 => .int
  | 26 => .int
  | 27 => .int
  | 28 => .array .int
  | 29 => .array .int
  | 30 => .int
  | 31 => .array .int
  | _ => .int
abbrev wsX60 : List Cond := u_ws RX6 TX6 33
theorem nmX6 : ∀ a, a < 33 → ∀ b, b < 33 → a ≠ b → (TX6 a).2.1 ≠ (TX6 b).2.1 := by decide +kernel
theorem tyX6_ok : ∀ k, k < 33 → parseFieldDescriptor (TX6 k).2.2.1 = some (tyX6 k) := by decide +kernel
abbrev cX6_init : ByteArray := prog_8_method_1_code
def yX6_init : MethodName := ⟨RX6, "<init>", "()V"⟩
abbrev cX6_in : ByteArray := prog_8_method_3_code
def yX6_in : MethodName := ⟨RX6, "in", "(III)Z"⟩
abbrev cX6_isTable : ByteArray := prog_8_method_4_code
def yX6_isTable : MethodName := ⟨RX6, "isTable", "(I)Z"⟩
abbrev cX6_isArrow : ByteArray := prog_8_method_5_code
def yX6_isArrow : MethodName := ⟨RX6, "isArrow", "(II)Z"⟩
abbrev cX6_begins : ByteArray := prog_8_method_6_code
def yX6_begins : MethodName := ⟨RX6, "begins", "(I)V"⟩
abbrev cX6_comes : ByteArray := prog_8_method_7_code
def yX6_comes : MethodName := ⟨RX6, "comes", "(III)I"⟩
abbrev cX6_from : ByteArray := prog_8_method_8_code
def yX6_from : MethodName := ⟨RX6, "from", "(II)I"⟩
abbrev cX6_to : ByteArray := prog_8_method_9_code
def yX6_to : MethodName := ⟨RX6, "to", "(II)I"⟩
abbrev cX6_wayIn : ByteArray := prog_8_method_10_code
def yX6_wayIn : MethodName := ⟨RX6, "wayIn", "(III)I"⟩
abbrev cX6_table : ByteArray := prog_8_method_11_code
def yX6_table : MethodName := ⟨RX6, "table", "(I)I"⟩
abbrev cX6_arrow : ByteArray := prog_8_method_12_code
def yX6_arrow : MethodName := ⟨RX6, "arrow", "(III)I"⟩
abbrev cX6_way : ByteArray := prog_8_method_13_code
def yX6_way : MethodName := ⟨RX6, "way", "(IIII)I"⟩
abbrev cX6_finds : ByteArray := prog_8_method_14_code
def yX6_finds : MethodName := ⟨RX6, "finds", "(IIII)V"⟩
abbrev cX6_findFault : ByteArray := prog_8_method_15_code
def yX6_findFault : MethodName := ⟨RX6, "findFault", "(I)V"⟩
abbrev cX6_close : ByteArray := prog_8_method_16_code
def yX6_close : MethodName := ⟨RX6, "close", "(I)I"⟩
abbrev cX6_fault : ByteArray := prog_8_method_17_code
def yX6_fault : MethodName := ⟨RX6, "fault", "(II)I"⟩
abbrev cX6_stands : ByteArray := prog_8_method_18_code
def yX6_stands : MethodName := ⟨RX6, "stands", "(JII)Z"⟩
abbrev cX6_isOrder : ByteArray := prog_8_method_19_code
def yX6_isOrder : MethodName := ⟨RX6, "isOrder", "(IJ)Z"⟩
abbrev cX6_between : ByteArray := prog_8_method_20_code
def yX6_between : MethodName := ⟨RX6, "between", "(III)I"⟩
abbrev cX6_order : ByteArray := prog_8_method_21_code
def yX6_order : MethodName := ⟨RX6, "order", "(IJ)I"⟩
abbrev cX6_turned : ByteArray := prog_8_method_22_code
def yX6_turned : MethodName := ⟨RX6, "turned", "(I)I"⟩
abbrev cX6_beside : ByteArray := prog_8_method_23_code
def yX6_beside : MethodName := ⟨RX6, "beside", "(II)I"⟩
abbrev cX6_isPaired : ByteArray := prog_8_method_24_code
def yX6_isPaired : MethodName := ⟨RX6, "isPaired", "(II)Z"⟩
abbrev cX6_about : ByteArray := prog_8_method_25_code
def yX6_about : MethodName := ⟨RX6, "about", "(II)I"⟩
abbrev cX6_end : ByteArray := prog_8_method_26_code
def yX6_end : MethodName := ⟨RX6, "end", "(III)I"⟩
abbrev cX6_wayOf : ByteArray := prog_8_method_27_code
def yX6_wayOf : MethodName := ⟨RX6, "wayOf", "(III)I"⟩
abbrev cX6_isCarrier : ByteArray := prog_8_method_28_code
def yX6_isCarrier : MethodName := ⟨RX6, "isCarrier", "(I)Z"⟩
abbrev cX6_last : ByteArray := prog_8_method_29_code
def yX6_last : MethodName := ⟨RX6, "last", "(III)I"⟩
abbrev cX6_findPairs : ByteArray := prog_8_method_30_code
def yX6_findPairs : MethodName := ⟨RX6, "findPairs", "(I)V"⟩
abbrev cX6_isKept : ByteArray := prog_8_method_31_code
def yX6_isKept : MethodName := ⟨RX6, "isKept", "(III)Z"⟩
abbrev cX6_search : ByteArray := prog_8_method_32_code
def yX6_search : MethodName := ⟨RX6, "search", "(IIIZ)I"⟩
abbrev cX6_carriers : ByteArray := prog_8_method_33_code
def yX6_carriers : MethodName := ⟨RX6, "carriers", "(II)I"⟩
abbrev cX6_keeps : ByteArray := prog_8_method_34_code
def yX6_keeps : MethodName := ⟨RX6, "keeps", "()I"⟩
abbrev cX6_carrier : ByteArray := prog_8_method_35_code
def yX6_carrier : MethodName := ⟨RX6, "carrier", "(III)I"⟩
abbrev cX6_then : ByteArray := prog_8_method_36_code
def yX6_then : MethodName := ⟨RX6, "then", "(II)I"⟩
abbrev cX6_giveOf : ByteArray := prog_8_method_37_code
def yX6_giveOf : MethodName := ⟨RX6, "giveOf", "(II)I"⟩
abbrev cX6_isUnlike : ByteArray := prog_8_method_38_code
def yX6_isUnlike : MethodName := ⟨RX6, "isUnlike", "(I)Z"⟩
abbrev cX6_isGiven : ByteArray := prog_8_method_39_code
def yX6_isGiven : MethodName := ⟨RX6, "isGiven", "(IIII)Z"⟩
abbrev cX6_isFilled : ByteArray := prog_8_method_40_code
def yX6_isFilled : MethodName := ⟨RX6, "isFilled", "(I)Z"⟩
abbrev cX6_isCome : ByteArray := prog_8_method_41_code
def yX6_isCome : MethodName := ⟨RX6, "isCome", "(II)Z"⟩
abbrev cX6_isAllCome : ByteArray := prog_8_method_42_code
def yX6_isAllCome : MethodName := ⟨RX6, "isAllCome", "(I)Z"⟩
abbrev cX6_isSame : ByteArray := prog_8_method_43_code
def yX6_isSame : MethodName := ⟨RX6, "isSame", "(I)Z"⟩
abbrev cX6_told : ByteArray := prog_8_method_44_code
def yX6_told : MethodName := ⟨RX6, "told", "(II)I"⟩
abbrev cX6_gives : ByteArray := prog_8_method_45_code
def yX6_gives : MethodName := ⟨RX6, "gives", "(II)I"⟩
abbrev cX6_same : ByteArray := prog_8_method_46_code
def yX6_same : MethodName := ⟨RX6, "same", "(II)I"⟩
abbrev cX6_after : ByteArray := prog_8_method_47_code
def yX6_after : MethodName := ⟨RX6, "after", "(III)I"⟩
abbrev cX6_chances : ByteArray := prog_8_method_48_code
def yX6_chances : MethodName := ⟨RX6, "chances", "(II)J"⟩
abbrev cX6_firstRow : ByteArray := prog_8_method_49_code
def yX6_firstRow : MethodName := ⟨RX6, "firstRow", "(II)Z"⟩
abbrev cX6_nextRow : ByteArray := prog_8_method_50_code
def yX6_nextRow : MethodName := ⟨RX6, "nextRow", "(II)Z"⟩
abbrev cX6_betweenCarriers : ByteArray := prog_8_method_51_code
def yX6_betweenCarriers : MethodName := ⟨RX6, "betweenCarriers", "(II)V"⟩
abbrev cX6_isBridge : ByteArray := prog_8_method_52_code
def yX6_isBridge : MethodName := ⟨RX6, "isBridge", "(II)Z"⟩
abbrev cX6_findBridge : ByteArray := prog_8_method_53_code
def yX6_findBridge : MethodName := ⟨RX6, "findBridge", "(III)I"⟩
abbrev cX6_against : ByteArray := prog_8_method_54_code
def yX6_against : MethodName := ⟨RX6, "against", "(II)I"⟩
abbrev cX6_bridges : ByteArray := prog_8_method_55_code
def yX6_bridges : MethodName := ⟨RX6, "bridges", "(II)I"⟩
abbrev cX6_bridge : ByteArray := prog_8_method_56_code
def yX6_bridge : MethodName := ⟨RX6, "bridge", "(IIII)I"⟩
abbrev cX6_ahead : ByteArray := prog_8_method_57_code
def yX6_ahead : MethodName := ⟨RX6, "ahead", "(II)V"⟩
abbrev cX6_isCone : ByteArray := prog_8_method_58_code
def yX6_isCone : MethodName := ⟨RX6, "isCone", "(I)Z"⟩
abbrev cX6_cones : ByteArray := prog_8_method_59_code
def yX6_cones : MethodName := ⟨RX6, "cones", "(II)I"⟩
abbrev cX6_findCones : ByteArray := prog_8_method_60_code
def yX6_findCones : MethodName := ⟨RX6, "findCones", "(I)Z"⟩
abbrev cX6_leads : ByteArray := prog_8_method_61_code
def yX6_leads : MethodName := ⟨RX6, "leads", "(IIII)I"⟩
abbrev cX6_limit : ByteArray := prog_8_method_62_code
def yX6_limit : MethodName := ⟨RX6, "limit", "(I)I"⟩
abbrev cX6_leg : ByteArray := prog_8_method_63_code
def yX6_leg : MethodName := ⟨RX6, "leg", "(I)I"⟩
abbrev cX6_isAnswer : ByteArray := prog_8_method_64_code
def yX6_isAnswer : MethodName := ⟨RX6, "isAnswer", "(IIII)Z"⟩
abbrev cX6_findAnswer : ByteArray := prog_8_method_65_code
def yX6_findAnswer : MethodName := ⟨RX6, "findAnswer", "(II)Z"⟩
abbrev cX6_answer : ByteArray := prog_8_method_66_code
def yX6_answer : MethodName := ⟨RX6, "answer", "(III)I"⟩
abbrev cX6_answers : ByteArray := prog_8_method_67_code
def yX6_answers : MethodName := ⟨RX6, "answers", "(I)I"⟩
abbrev cX6_findEnds : ByteArray := prog_8_method_68_code
def yX6_findEnds : MethodName := ⟨RX6, "findEnds", "(II)V"⟩
abbrev cX6_isSieve : ByteArray := prog_8_method_69_code
def yX6_isSieve : MethodName := ⟨RX6, "isSieve", "(III)Z"⟩
abbrev cX6_findSieve : ByteArray := prog_8_method_70_code
def yX6_findSieve : MethodName := ⟨RX6, "findSieve", "(III)I"⟩
abbrev cX6_againstSieves : ByteArray := prog_8_method_71_code
def yX6_againstSieves : MethodName := ⟨RX6, "againstSieves", "(II)I"⟩
abbrev cX6_isObject : ByteArray := prog_8_method_72_code
def yX6_isObject : MethodName := ⟨RX6, "isObject", "(II)Z"⟩
abbrev cX6_sieves : ByteArray := prog_8_method_73_code
def yX6_sieves : MethodName := ⟨RX6, "sieves", "(II)I"⟩
abbrev cX6_sieve : ByteArray := prog_8_method_74_code
def yX6_sieve : MethodName := ⟨RX6, "sieve", "(III)I"⟩
abbrev cX6_pulled : ByteArray := prog_8_method_75_code
def yX6_pulled : MethodName := ⟨RX6, "pulled", "(III)I"⟩
abbrev cX6_pull : ByteArray := prog_8_method_76_code
def yX6_pull : MethodName := ⟨RX6, "pull", "(IIII)I"⟩
abbrev cX6_follows : ByteArray := prog_8_method_77_code
def yX6_follows : MethodName := ⟨RX6, "follows", "(IIII)I"⟩
abbrev cX6_count : ByteArray := prog_8_method_78_code
def yX6_count : MethodName := ⟨RX6, "count", "(I)I"⟩
abbrev cX6_digest : ByteArray := prog_8_method_79_code
def yX6_digest : MethodName := ⟨RX6, "digest", "()J"⟩
def RJ6 : String := "java/lang/Integer"
def TJ6 : u_T := fun k => match k with
  | _ => ("", "", "", false)
def tyJ6 : Nat → FieldType := fun k => match k with
  | _ => .int
abbrev wsJ60 : List Cond := u_ws RJ6 TJ6 0
theorem nmJ6 : ∀ a, a < 0 → ∀ b, b < 0 → a ≠ b → (TJ6 a).2.1 ≠ (TJ6 b).2.1 := by decide +kernel
theorem tyJ6_ok : ∀ k, k < 0 → parseFieldDescriptor (TJ6 k).2.2.1 = some (tyJ6 k) := by decide +kernel
abbrev cJ6_bitCount_0f7a4 : ByteArray := prog_9_method_49_code
def yJ6_bitCount_0f7a4 : MethodName := ⟨RJ6, "bitCount", "(I)I"⟩
def RJ9 : String := "java/lang/Math"
def TJ9 : u_T := fun k => match k with
  | _ => ("", "", "", false)
def tyJ9 : Nat → FieldType := fun k => match k with
  | _ => .int
abbrev wsJ90 : List Cond := u_ws RJ9 TJ9 0
theorem nmJ9 : ∀ a, a < 0 → ∀ b, b < 0 → a ≠ b → (TJ9 a).2.1 ≠ (TJ9 b).2.1 := by decide +kernel
theorem tyJ9_ok : ∀ k, k < 0 → parseFieldDescriptor (TJ9 k).2.2.1 = some (tyJ9 k) := by decide +kernel
abbrev cJ9_max_7cf53 : ByteArray := prog_10_method_65_code
def yJ9_max_7cf53 : MethodName := ⟨RJ9, "max", "(II)I"⟩
def RJ7 : String := "java/util/Arrays"
def TJ7 : u_T := fun k => match k with
  | _ => ("", "", "", false)
def tyJ7 : Nat → FieldType := fun k => match k with
  | _ => .int
abbrev wsJ70 : List Cond := u_ws RJ7 TJ7 0
theorem nmJ7 : ∀ a, a < 0 → ∀ b, b < 0 → a ≠ b → (TJ7 a).2.1 ≠ (TJ7 b).2.1 := by decide +kernel
theorem tyJ7_ok : ∀ k, k < 0 → parseFieldDescriptor (TJ7 k).2.2.1 = some (tyJ7 k) := by decide +kernel
abbrev cJ7_fill_53178 : ByteArray := prog_11_method_103_code
def yJ7_fill_53178 : MethodName := ⟨RJ7, "fill", "([II)V"⟩
def RL : String := "ArrowTablesLaw"
abbrev cL_law : ByteArray := code
def yL_law : MethodName := ⟨RL, "law", "([I)Z"⟩
abbrev vwCl : List vw_C := [(RX0, TX0, 5), (RX1, TX1, 3), (RX2, TX2, 5), (RX3, TX3, 7), (RX4, TX4, 6), (RX5, TX5, 14), (RX6, TX6, 33)]
end
section
/-! THE ABSTRACT MACHINE: bytecode over a heap of cells by number; a cell: an array (kind, length, contents) or an object (class, fields). One theorem (part 04) ties it to the machine; all else is said of it. -/
abbrev az_H : Type := (Nat → Option va_E) × Nat × Nat
abbrev az_L : Type := List (Option Value)
abbrev az_R : Type := Option (Option Value × az_H)
/-- byte pc, instruction, four numbers (local, target, class, field, method ..), an int, a long -/
abbrev az_I : Type := Nat × Instr × Nat × Nat × Nat × Nat × Int32 × Int64
abbrev az_S : Type := Nat × Nat × (Nat → Int32)
def az_set (G : az_H) (r : Nat) (e : va_E) : az_H := (fun q => if q = r then some e else G.1 q, G.2)
def az_psh (G : az_H) (e : va_E) (n : Nat) : az_H := (fun q => if q = G.2.1 then some e else G.1 q, G.2.1 + 1, G.2.2 + n)
def az_df (ci : Nat) : List Value := match ci with
  | 0 => [.int 0, .int 0, .null, .null, .null]
  | 1 => [.int 0, .null, .null]
  | 2 => [.null, .null, .null, .null, .null]
  | 3 => [.null, .int 0, .int 0, .int 0, .null, .null, .null]
  | 4 => [.int 0, .int 0, .int 0, .null, .null, .null]
  | 5 => [.null, .null, .null, .null, .null, .null, .null, .null, .null, .null, .null, .int 0, .int 0, .int 0]
  | _ => [.int 0, .null, .null, .null, .null, .null, .null, .null, .null, .null, .int 0, .null, .null, .null, .int 0, .null, .null, .null, .null, .null, .null, .int 0, .null, .null, .null, .int 0, .int 0, .int 0, .null, .null, .int 0, .null, .int 0]
def az_nf (ci : Nat) : Nat := match ci with
  | 0 => 5
  | 1 => 3
  | 2 => 5
  | 3 => 7
  | 4 => 6
  | 5 => 14
  | _ => 33
/-- the class of a reference array's elements -/
def az_el (kd : Nat) : Nat := match kd with
  | 2 => 4
  | _ => 0
def az_bI (o : az_R) (k : Int32 → az_H → az_R) : az_R := match o with
  | some (some (.int x), G) => k x G
  | _ => none
def az_bL (o : az_R) (k : Int64 → az_H → az_R) : az_R := match o with
  | some (some (.long x), G) => k x G
  | _ => none
def az_bV (o : az_R) (k : az_H → az_R) : az_R := match o with
  | some (none, G) => k G
  | _ => none
def az_bR (o : az_R) (k0 : az_H → az_R) (k : Nat → az_H → az_R) : az_R := match o with
  | some (some .null, G) => k0 G
  | some (some (.ref q), G) => k q G
  | _ => none
def az_fI (G : az_H) (r ci j : Nat) (k : Int32 → az_R) : az_R := match G.1 r with
  | some (.inr (c, fs)) => if c = ci then (match fs[j]? with
    | some (.int x) => k x
    | _ => none) else none
  | _ => none
def az_fR (G : az_H) (r ci j : Nat) (k : Nat → az_R) : az_R := match G.1 r with
  | some (.inr (c, fs)) => if c = ci then (match fs[j]? with
    | some (.ref x) => k x
    | _ => none) else none
  | _ => none
def az_pt (G : az_H) (r ci j : Nat) (v : Value) (k : az_H → az_R) : az_R := match G.1 r with
  | some (.inr (c, fs)) => if c = ci ∧ j < fs.length then k (az_set G r (.inr (ci, fs.set j v))) else none
  | _ => none
def az_ln (G : az_H) (kd r : Nat) (k : Int32 → az_R) : az_R := match G.1 r with
  | some (.inl (c, n, _)) => if c = kd then k (Int32.ofNat n) else none
  | _ => none
def az_aI (G : az_H) (kd r : Nat) (i : Int32) (k : Int32 → az_R) : az_R := match G.1 r with
  | some (.inl (c, n, .inl f)) => if c = kd ∧ ¬ (i < 0 ∨ n ≤ i.toNatClampNeg) then k (f i.toNatClampNeg) else none
  | _ => none
def az_aR (G : az_H) (kd r : Nat) (i : Int32) (k : Nat → az_R) : az_R := match G.1 r with
  | some (.inl (c, n, .inr (.inr (.inr (.inr f))))) => if c = kd ∧ ¬ (i < 0 ∨ n ≤ i.toNatClampNeg) then (match f i.toNatClampNeg with
    | some q => k q
    | none => none) else none
  | _ => none
def az_sI (G : az_H) (kd r : Nat) (i x : Int32) (k : az_H → az_R) : az_R := match G.1 r with
  | some (.inl (c, n, .inl f)) => if c = kd ∧ ¬ (i < 0 ∨ n ≤ i.toNatClampNeg) then k (az_set G r (.inl (kd, n, .inl (upd f i.toNatClampNeg x)))) else none
  | _ => none
def az_sR (G : az_H) (kd r : Nat) (i : Int32) (v : Nat) (k : az_H → az_R) : az_R := match G.1 r with
  | some (.inl (c, n, .inr (.inr (.inr (.inr f))))) => (match G.1 v with
    | some (.inr (cv, _)) => if c = kd ∧ cv = az_el kd ∧ ¬ (i < 0 ∨ n ≤ i.toNatClampNeg) then k (az_set G r (.inl (kd, n, .inr (.inr (.inr (.inr (va_up f i.toNatClampNeg (some v)))))))) else none
    | _ => none)
  | _ => none
def az_nO (G : az_H) (ci : Nat) (k : Nat → az_H → az_R) : az_R := k G.2.1 (az_psh G (.inr (ci, az_df ci)) (az_nf ci))
def az_nA (G : az_H) (kd : Nat) (n : Int32) (k : Nat → az_H → az_R) : az_R := if ¬ n < 0 ∧ n.toNatClampNeg ≤ 100000 then k G.2.1 (az_psh G (.inl (kd, n.toNatClampNeg, .inl (fun _ => 0))) n.toNatClampNeg) else none
def az_nR (G : az_H) (kd : Nat) (n : Int32) (k : Nat → az_H → az_R) : az_R := if ¬ n < 0 ∧ n.toNatClampNeg ≤ 100000 then k G.2.1 (az_psh G (.inl (kd, n.toNatClampNeg, .inr (.inr (.inr (.inr (fun _ => none)))))) n.toNatClampNeg) else none
def az_rc (G : az_H) (r ci : Nat) (k : az_R) : az_R := match G.1 r with
  | some (.inr (c, _)) => if c = ci then k else none
  | _ => none
/-- storing a local of one slot, of two -/
def az_kp (L : az_L) (i : Nat) : az_L := match i with
  | 0 => L
  | i + 1 => (match L[i]? with
    | some (some (.long _)) => L.set i none
    | some (some (.double _)) => L.set i none
    | _ => L)
def az_s1 (L : az_L) (i : Nat) (v : Value) : az_L := (az_kp L i).set i (some v)
def az_s2 (L : az_L) (i : Nat) (v : Value) : az_L := ((az_kp L i).set (i + 1) none).set i (some v)
def az_zr (x : Int32) (G : az_H) : az_R := if x = 0 ∨ x = 1 then some (some (.int x), G) else none
def az_dv (y : Int32) (k : az_R) : az_R := if y = 0 then none else k
def az_w1 (x : Int32) (k : az_R) : az_R := if x = 0 ∨ x = 1 then k else none
def az_cat (st : List Value) : Nat := (st.map fun v => v.category).sum
def az_rm (st : List Value) (k : az_R) : az_R := if az_cat st ≤ 8 then k else none
/-- a call's end: 0 nothing, 1 an int, 2 a long, 3 a reference or null -/
def az_cl (o : Nat) (r : az_R) (K : List Value → az_H → az_R) (rest : List Value) : az_R := match o with
  | 0 => az_bV r fun G => K rest G
  | 1 => az_bI r fun x G => K (.int x :: rest) G
  | 2 => az_bL r fun x G => K (.long x :: rest) G
  | _ => az_bR r (fun G => K (.null :: rest) G) (fun q G => K (.ref q :: rest) G)
/-- a switch: the targets' places, the last one the default -/
def az_sw (ts : List Nat) (lo : Int) (x : Int32) : Nat := if x.toInt < lo ∨ lo + ((ts.length : Int) - 1) ≤ x.toInt then ts.getLastD 0 else ts.getD (x.toInt - lo).toNat 0
/-- one instruction. C: a call (method, arguments, heap); K: what comes behind (place, locals, stack, heap); tw: the switches' targets -/
def az_st (sc : az_S) (tw : Nat → List Nat) (C : Nat → List Value → az_H → az_R) (K : Nat → az_L → List Value → az_H → az_R) (i : az_I) (k : Nat) (L : az_L) (st : List Value) (G : az_H) : az_R := match i with
  | (_, ins, a, b, c, d, x, y) => match ins with
    | .iconst _ => K (k + 1) L (.int x :: st) G
    | .bipush _ => K (k + 1) L (.int x :: st) G
    | .sipush _ => K (k + 1) L (.int x :: st) G
    | .ldc _ => K (k + 1) L (.int x :: st) G
    | .ldc_w _ => K (k + 1) L (.int x :: st) G
    | .lconst _ => K (k + 1) L (.long y :: st) G
    | .ldc2_w _ => K (k + 1) L (.long y :: st) G
    | .aconst_null => K (k + 1) L (.null :: st) G
    | .iload_n _ => (match L[a]? with
      | some (some (.int v)) => K (k + 1) L (.int v :: st) G
      | _ => none)
    | .iload _ => (match L[a]? with
      | some (some (.int v)) => K (k + 1) L (.int v :: st) G
      | _ => none)
    | .lload_n _ => (match L[a]? with
      | some (some (.long v)) => K (k + 1) L (.long v :: st) G
      | _ => none)
    | .lload _ => (match L[a]? with
      | some (some (.long v)) => K (k + 1) L (.long v :: st) G
      | _ => none)
    | .aload_n _ => (match L[a]? with
      | some (some (.ref v)) => K (k + 1) L (.ref v :: st) G
      | some (some .null) => K (k + 1) L (.null :: st) G
      | _ => none)
    | .aload _ => (match L[a]? with
      | some (some (.ref v)) => K (k + 1) L (.ref v :: st) G
      | some (some .null) => K (k + 1) L (.null :: st) G
      | _ => none)
    | .istore_n _ => (match st with
      | .int v :: st => K (k + 1) (az_s1 L a (.int v)) st G
      | _ => none)
    | .istore _ => (match st with
      | .int v :: st => K (k + 1) (az_s1 L a (.int v)) st G
      | _ => none)
    | .lstore_n _ => (match st with
      | .long v :: st => K (k + 1) (az_s2 L a (.long v)) st G
      | _ => none)
    | .lstore _ => (match st with
      | .long v :: st => K (k + 1) (az_s2 L a (.long v)) st G
      | _ => none)
    | .astore_n _ => (match st with
      | .ref v :: st => K (k + 1) (az_s1 L a (.ref v)) st G
      | .null :: st => K (k + 1) (az_s1 L a .null) st G
      | _ => none)
    | .astore _ => (match st with
      | .ref v :: st => K (k + 1) (az_s1 L a (.ref v)) st G
      | .null :: st => K (k + 1) (az_s1 L a .null) st G
      | _ => none)
    | .iinc _ _ => (match L[a]? with
      | some (some (.int v)) => K (k + 1) (az_s1 L a (.int (v + x))) st G
      | _ => none)
    | .iadd => (match st with
      | .int w :: .int v :: st => K (k + 1) L (.int (v + w) :: st) G
      | _ => none)
    | .isub => (match st with
      | .int w :: .int v :: st => K (k + 1) L (.int (v - w) :: st) G
      | _ => none)
    | .imul => (match st with
      | .int w :: .int v :: st => K (k + 1) L (.int (v * w) :: st) G
      | _ => none)
    | .iand => (match st with
      | .int w :: .int v :: st => K (k + 1) L (.int (v &&& w) :: st) G
      | _ => none)
    | .ior => (match st with
      | .int w :: .int v :: st => K (k + 1) L (.int (v ||| w) :: st) G
      | _ => none)
    | .ixor => (match st with
      | .int w :: .int v :: st => K (k + 1) L (.int (v ^^^ w) :: st) G
      | _ => none)
    | .ishl => (match st with
      | .int w :: .int v :: st => K (k + 1) L (.int (v <<< (w &&& 31)) :: st) G
      | _ => none)
    | .ishr => (match st with
      | .int w :: .int v :: st => K (k + 1) L (.int (v >>> (w &&& 31)) :: st) G
      | _ => none)
    | .iushr => (match st with
      | .int w :: .int v :: st => K (k + 1) L (.int (v.toUInt32 >>> (w.toUInt32 &&& Int32.toUInt32 31)).toInt32 :: st) G
      | _ => none)
    | .idiv => (match st with
      | .int w :: .int v :: st => az_dv w (K (k + 1) L (.int (v / w) :: st) G)
      | _ => none)
    | .irem => (match st with
      | .int w :: .int v :: st => az_dv w (K (k + 1) L (.int (v - v / w * w) :: st) G)
      | _ => none)
    | .ladd => (match st with
      | .long w :: .long v :: st => K (k + 1) L (.long (v + w) :: st) G
      | _ => none)
    | .lmul => (match st with
      | .long w :: .long v :: st => K (k + 1) L (.long (v * w) :: st) G
      | _ => none)
    | .land => (match st with
      | .long w :: .long v :: st => K (k + 1) L (.long (v &&& w) :: st) G
      | _ => none)
    | .lor => (match st with
      | .long w :: .long v :: st => K (k + 1) L (.long (v ||| w) :: st) G
      | _ => none)
    | .lshl => (match st with
      | .int w :: .long v :: st => K (k + 1) L (.long (v <<< (w.toInt64 &&& 63)) :: st) G
      | _ => none)
    | .lshr => (match st with
      | .int w :: .long v :: st => K (k + 1) L (.long (v >>> (w.toInt64 &&& 63)) :: st) G
      | _ => none)
    | .lushr => (match st with
      | .int w :: .long v :: st => K (k + 1) L (.long (v.toUInt64 >>> (w.toInt64.toUInt64 &&& Int64.toUInt64 63)).toInt64 :: st) G
      | _ => none)
    | .lcmp => (match st with
      | .long w :: .long v :: st => K (k + 1) L (.int (lg_cmp v w) :: st) G
      | _ => none)
    | .i2l => (match st with
      | .int v :: st => K (k + 1) L (.long v.toInt64 :: st) G
      | _ => none)
    | .dup => (match st with
      | .int v :: st => K (k + 1) L (.int v :: .int v :: st) G
      | .ref v :: st => K (k + 1) L (.ref v :: .ref v :: st) G
      | _ => none)
    | .pop => (match st with
      | .int _ :: st => K (k + 1) L st G
      | _ => none)
    | .dup2 => (match st with
      | .int w :: .ref v :: st => K (k + 1) L (.int w :: .ref v :: .int w :: .ref v :: st) G
      | _ => none)
    | .ifCond .eq _ => (match st with
      | .int v :: st => if v = 0 then K a L st G else K (k + 1) L st G
      | _ => none)
    | .ifCond .ne _ => (match st with
      | .int v :: st => if ¬ v = 0 then K a L st G else K (k + 1) L st G
      | _ => none)
    | .ifCond .lt _ => (match st with
      | .int v :: st => if v < 0 then K a L st G else K (k + 1) L st G
      | _ => none)
    | .ifCond .ge _ => (match st with
      | .int v :: st => if 0 ≤ v then K a L st G else K (k + 1) L st G
      | _ => none)
    | .ifCond .gt _ => (match st with
      | .int v :: st => if 0 < v then K a L st G else K (k + 1) L st G
      | _ => none)
    | .ifCond .le _ => (match st with
      | .int v :: st => if v ≤ 0 then K a L st G else K (k + 1) L st G
      | _ => none)
    | .if_icmp .eq _ => (match st with
      | .int w :: .int v :: st => if v = w then K a L st G else K (k + 1) L st G
      | _ => none)
    | .if_icmp .ne _ => (match st with
      | .int w :: .int v :: st => if ¬ v = w then K a L st G else K (k + 1) L st G
      | _ => none)
    | .if_icmp .lt _ => (match st with
      | .int w :: .int v :: st => if v < w then K a L st G else K (k + 1) L st G
      | _ => none)
    | .if_icmp .ge _ => (match st with
      | .int w :: .int v :: st => if w ≤ v then K a L st G else K (k + 1) L st G
      | _ => none)
    | .if_icmp .gt _ => (match st with
      | .int w :: .int v :: st => if w < v then K a L st G else K (k + 1) L st G
      | _ => none)
    | .if_icmp .le _ => (match st with
      | .int w :: .int v :: st => if v ≤ w then K a L st G else K (k + 1) L st G
      | _ => none)
    | .goto _ => K a L st G
    | .ifnull _ => (match st with
      | .ref _ :: st => K (k + 1) L st G
      | .null :: st => K a L st G
      | _ => none)
    | .ifnonnull _ => (match st with
      | .ref _ :: st => K a L st G
      | .null :: st => K (k + 1) L st G
      | _ => none)
    | .tableswitch _ lo _ _ => (match st with
      | .int v :: st => K (az_sw (tw a) lo v) L st G
      | _ => none)
    | .getfield _ => (match st with
      | .ref r :: st => (match c with
        | 0 => az_fI G r a b fun v => K (k + 1) L (.int v :: st) G
        | _ => az_fR G r a b fun v => K (k + 1) L (.ref v :: st) G)
      | _ => none)
    | .putfield _ => (match st with
      | .int v :: .ref r :: st => (match c with
        | 0 => az_pt G r a b (.int v) fun G => K (k + 1) L st G
        | 2 => az_w1 v (az_pt G r a b (.int v) fun G => K (k + 1) L st G)
        | _ => none)
      | .ref v :: .ref r :: st => (match c with
        | 1 => az_pt G r a b (.ref v) fun G => K (k + 1) L st G
        | _ => none)
      | _ => none)
    | .arraylength => (match st with
      | .ref r :: st => if b = 9 then (if r = sc.1 then K (k + 1) L (.int (Int32.ofNat sc.2.1) :: st) G else none) else az_ln G b r fun v => K (k + 1) L (.int v :: st) G
      | _ => none)
    | .iaload => (match st with
      | .int j :: .ref r :: st => if b = 9 then (if r = sc.1 ∧ ¬ (j < 0 ∨ sc.2.1 ≤ j.toNatClampNeg) then K (k + 1) L (.int (sc.2.2 j.toNatClampNeg) :: st) G else none) else az_aI G 0 r j fun v => K (k + 1) L (.int v :: st) G
      | _ => none)
    | .baload => (match st with
      | .int j :: .ref r :: st => az_aI G 1 r j fun v => K (k + 1) L (.int v :: st) G
      | _ => none)
    | .aaload => (match st with
      | .int j :: .ref r :: st => az_aR G b r j fun v => K (k + 1) L (.ref v :: st) G
      | _ => none)
    | .iastore => (match st with
      | .int v :: .int j :: .ref r :: st => az_sI G 0 r j v fun G => K (k + 1) L st G
      | _ => none)
    | .bastore => (match st with
      | .int v :: .int j :: .ref r :: st => az_w1 v (az_sI G 1 r j v fun G => K (k + 1) L st G)
      | _ => none)
    | .aastore => (match st with
      | .ref v :: .int j :: .ref r :: st => az_sR G b r j v fun G => K (k + 1) L st G
      | _ => none)
    | .new _ => az_nO G a fun q G => K (k + 1) L (.ref q :: st) G
    | .newarray _ => (match st with
      | .int n :: st => az_nA G b n fun q G => K (k + 1) L (.ref q :: st) G
      | _ => none)
    | .anewarray _ => (match st with
      | .int n :: st => az_nR G b n fun q G => K (k + 1) L (.ref q :: st) G
      | _ => none)
    | .invokestatic _ => if c = 8 then (match st with
      | .int w :: .int v :: st => az_rm st (K (k + 1) L (.int (if v < w then w else v) :: st) G)
      | _ => none) else if st.length < b then none else az_rm (st.drop b) (az_cl c (C a (st.take b).reverse G) (fun st G => K (k + 1) L st G) (st.drop b))
    | .invokevirtual _ => if st.length < b then none else az_rm (st.drop b) (match (st.take b).reverse with
      | .ref r :: vs => az_rc G r d (az_cl c (C a (.ref r :: vs) G) (fun st G => K (k + 1) L st G) (st.drop b))
      | _ => none)
    | .invokespecial _ => if st.length < b then none else az_rm (st.drop b) (match (st.take b).reverse with
      | .ref r :: vs => if c = 9 then K (k + 1) L (st.drop b) G else az_cl c (C a (.ref r :: vs) G) (fun st G => K (k + 1) L st G) (st.drop b)
      | _ => none)
    | .ireturn => (match st with
      | [.int v] => (match c with
        | 0 => some (some (.int v), G)
        | _ => az_zr v G)
      | _ => none)
    | .lreturn => (match st with
      | [.long v] => some (some (.long v), G)
      | _ => none)
    | .areturn => (match st with
      | [.ref v] => some (some (.ref v), G)
      | [.null] => some (some .null, G)
      | _ => none)
    | .return_ => (match st with
      | [] => some (none, G)
      | _ => none)
    | _ => none
/-- the locals at a method's entry -/
def az_en : List Value → az_L
  | [] => []
  | .long x :: vs => some (.long x) :: none :: az_en vs
  | .double x :: vs => some (.double x) :: none :: az_en vs
  | v :: vs => some v :: az_en vs
def az_ent (n : Nat) (vs : List Value) : az_L := az_en vs ++ List.replicate (n - (az_en vs).length) none
end
section
def az_le (a b : az_R) : Prop := ∀ r, a = some r → b = some r
theorem az_le_n {b : az_R} : az_le none b := fun _ h => by cases h
theorem az_le_r {a : az_R} : az_le a a := fun _ h => h
theorem az_bI_m {o o' : az_R} {k k' : Int32 → az_H → az_R} (h : az_le o o') (hk : ∀ x G, az_le (k x G) (k' x G)) : az_le (az_bI o k) (az_bI o' k') := by
  intro r hr
  match o, h, hr with
  | some (some (.int x), G), h, hr => rw [h _ rfl]; exact hk _ _ _ hr
theorem az_bL_m {o o' : az_R} {k k' : Int64 → az_H → az_R} (h : az_le o o') (hk : ∀ x G, az_le (k x G) (k' x G)) : az_le (az_bL o k) (az_bL o' k') := by
  intro r hr
  match o, h, hr with
  | some (some (.long x), G), h, hr => rw [h _ rfl]; exact hk _ _ _ hr
theorem az_bV_m {o o' : az_R} {k k' : az_H → az_R} (h : az_le o o') (hk : ∀ G, az_le (k G) (k' G)) : az_le (az_bV o k) (az_bV o' k') := by
  intro r hr
  match o, h, hr with
  | some (none, G), h, hr => rw [h _ rfl]; exact hk _ _ hr
theorem az_bR_m {o o' : az_R} {k0 k0' : az_H → az_R} {k k' : Nat → az_H → az_R} (h : az_le o o') (hk0 : ∀ G, az_le (k0 G) (k0' G)) (hk : ∀ x G, az_le (k x G) (k' x G)) : az_le (az_bR o k0 k) (az_bR o' k0' k') := by
  intro r hr
  match o, h, hr with
  | some (some .null, G), h, hr => rw [h _ rfl]; exact hk0 _ _ hr
  | some (some (.ref x), G), h, hr => rw [h _ rfl]; exact hk _ _ _ hr
theorem az_cl_m {o o' : az_R} {K K' : List Value → az_H → az_R} (q : Nat) (rest : List Value) (h : az_le o o') (hK : ∀ st G, az_le (K st G) (K' st G)) : az_le (az_cl q o K rest) (az_cl q o' K' rest) := by
  unfold az_cl
  split
  · exact az_bV_m h fun _ => hK _ _
  · exact az_bI_m h fun _ _ => hK _ _
  · exact az_bL_m h fun _ _ => hK _ _
  · exact az_bR_m h (fun _ => hK _ _) fun _ _ => hK _ _
theorem az_fI_m {G : az_H} {r ci j : Nat} {k k' : Int32 → az_R} (h : ∀ x, az_le (k x) (k' x)) : az_le (az_fI G r ci j k) (az_fI G r ci j k') := by
  unfold az_fI; (repeat' split) <;> first | exact h _ | exact az_le_n
theorem az_fR_m {G : az_H} {r ci j : Nat} {k k' : Nat → az_R} (h : ∀ x, az_le (k x) (k' x)) : az_le (az_fR G r ci j k) (az_fR G r ci j k') := by
  unfold az_fR; (repeat' split) <;> first | exact h _ | exact az_le_n
theorem az_pt_m {G : az_H} {r ci j : Nat} {v : Value} {k k' : az_H → az_R} (h : ∀ x, az_le (k x) (k' x)) : az_le (az_pt G r ci j v k) (az_pt G r ci j v k') := by
  unfold az_pt; (repeat' split) <;> first | exact h _ | exact az_le_n
theorem az_ln_m {G : az_H} {kd r : Nat} {k k' : Int32 → az_R} (h : ∀ x, az_le (k x) (k' x)) : az_le (az_ln G kd r k) (az_ln G kd r k') := by
  unfold az_ln; (repeat' split) <;> first | exact h _ | exact az_le_n
theorem az_aI_m {G : az_H} {kd r : Nat} {i : Int32} {k k' : Int32 → az_R} (h : ∀ x, az_le (k x) (k' x)) : az_le (az_aI G kd r i k) (az_aI G kd r i k') := by
  unfold az_aI; (repeat' split) <;> first | exact h _ | exact az_le_n
theorem az_aR_m {G : az_H} {kd r : Nat} {i : Int32} {k k' : Nat → az_R} (h : ∀ x, az_le (k x) (k' x)) : az_le (az_aR G kd r i k) (az_aR G kd r i k') := by
  unfold az_aR; (repeat' split) <;> first | exact h _ | exact az_le_n
theorem az_sI_m {G : az_H} {kd r : Nat} {i x : Int32} {k k' : az_H → az_R} (h : ∀ x, az_le (k x) (k' x)) : az_le (az_sI G kd r i x k) (az_sI G kd r i x k') := by
  unfold az_sI; (repeat' split) <;> first | exact h _ | exact az_le_n
theorem az_sR_m {G : az_H} {kd r : Nat} {i : Int32} {v : Nat} {k k' : az_H → az_R} (h : ∀ x, az_le (k x) (k' x)) : az_le (az_sR G kd r i v k) (az_sR G kd r i v k') := by
  unfold az_sR; (repeat' split) <;> first | exact h _ | exact az_le_n
theorem az_nO_m {G : az_H} {ci : Nat} {k k' : Nat → az_H → az_R} (h : ∀ q x, az_le (k q x) (k' q x)) : az_le (az_nO G ci k) (az_nO G ci k') := h _ _
theorem az_nA_m {G : az_H} {kd : Nat} {n : Int32} {k k' : Nat → az_H → az_R} (h : ∀ q x, az_le (k q x) (k' q x)) : az_le (az_nA G kd n k) (az_nA G kd n k') := by
  unfold az_nA; (repeat' split) <;> first | exact h _ _ | exact az_le_n
theorem az_nR_m {G : az_H} {kd : Nat} {n : Int32} {k k' : Nat → az_H → az_R} (h : ∀ q x, az_le (k q x) (k' q x)) : az_le (az_nR G kd n k) (az_nR G kd n k') := by
  unfold az_nR; (repeat' split) <;> first | exact h _ _ | exact az_le_n
theorem az_rc_m {G : az_H} {r ci : Nat} {k k' : az_R} (h : az_le k k') : az_le (az_rc G r ci k) (az_rc G r ci k') := by
  unfold az_rc; (repeat' split) <;> first | exact h | exact az_le_n
theorem az_dv_m {y : Int32} {k k' : az_R} (h : az_le k k') : az_le (az_dv y k) (az_dv y k') := by
  unfold az_dv; (repeat' split) <;> first | exact h | exact az_le_n
theorem az_w1_m {y : Int32} {k k' : az_R} (h : az_le k k') : az_le (az_w1 y k) (az_w1 y k') := by
  unfold az_w1; (repeat' split) <;> first | exact h | exact az_le_n
theorem az_rm_m {st : List Value} {k k' : az_R} (h : az_le k k') : az_le (az_rm st k) (az_rm st k') := by
  unfold az_rm; (repeat' split) <;> first | exact h | exact az_le_n
set_option maxHeartbeats 4000000 in
theorem az_st_m (sc : az_S) (tw : Nat → List Nat) {C C' : Nat → List Value → az_H → az_R} {K K' : Nat → az_L → List Value → az_H → az_R} (hC : ∀ y vs G, az_le (C y vs G) (C' y vs G)) (hK : ∀ k L st G, az_le (K k L st G) (K' k L st G)) (i : az_I) (k : Nat) (L : az_L) (st : List Value) (G : az_H) : az_le (az_st sc tw C K i k L st G) (az_st sc tw C' K' i k L st G) := by
  obtain ⟨pc, ins, a, b, c, d, x, y⟩ := i
  cases ins
  case ifCond cond off => cases cond <;> simp only [az_st] <;> (repeat' first | exact az_le_n | exact hK _ _ _ _ | split)
  case if_icmp cond off => cases cond <;> simp only [az_st] <;> (repeat' first | exact az_le_n | exact hK _ _ _ _ | split)
  all_goals simp only [az_st]
  all_goals repeat' first
    | exact az_le_n
    | exact az_le_r
    | exact hK _ _ _ _
    | exact hC _ _ _
    | refine az_fI_m fun _ => ?_
    | refine az_fR_m fun _ => ?_
    | refine az_pt_m fun _ => ?_
    | refine az_ln_m fun _ => ?_
    | refine az_aI_m fun _ => ?_
    | refine az_aR_m fun _ => ?_
    | refine az_sI_m fun _ => ?_
    | refine az_sR_m fun _ => ?_
    | refine az_nO_m fun _ _ => ?_
    | refine az_nA_m fun _ _ => ?_
    | refine az_nR_m fun _ _ => ?_
    | refine az_rc_m ?_
    | refine az_dv_m ?_
    | refine az_w1_m ?_
    | refine az_rm_m ?_
    | refine az_cl_m _ _ (hC _ _ _) fun _ _ => ?_
    | split
end
section
def az_mn (f : Nat → az_R) : Prop := ∀ n m, n ≤ m → az_le (f n) (f m)
def az_ct (a : az_R) (f : Nat → az_R) : Prop := ∀ r, a = some r → ∃ n, f n = some r
theorem az_ct_n {f : Nat → az_R} : az_ct none f := fun _ h => by cases h
theorem az_ct_r {a : az_R} : az_ct a (fun _ => a) := fun _ h => ⟨0, h⟩
theorem az_bI_c {o : az_R} {f : Nat → az_R} {k : Int32 → az_H → az_R} {g : Nat → Int32 → az_H → az_R} (ho : az_ct o f) (mo : az_mn f) (hk : ∀ x G, az_ct (k x G) (fun n => g n x G)) (mk : ∀ x G, az_mn (fun n => g n x G)) : az_ct (az_bI o k) (fun n => az_bI (f n) (g n)) := by
  intro r hr
  match o, ho, hr with
  | some (some (.int x), G), ho, hr =>
    obtain ⟨n1, h1⟩ := ho _ rfl
    obtain ⟨n2, h2⟩ := hk x G r hr
    refine ⟨max n1 n2, ?_⟩
    show az_bI (f (max n1 n2)) (g (max n1 n2)) = some r
    rw [mo n1 _ (Nat.le_max_left _ _) _ h1]
    exact mk x G n2 _ (Nat.le_max_right _ _) _ h2
theorem az_bL_c {o : az_R} {f : Nat → az_R} {k : Int64 → az_H → az_R} {g : Nat → Int64 → az_H → az_R} (ho : az_ct o f) (mo : az_mn f) (hk : ∀ x G, az_ct (k x G) (fun n => g n x G)) (mk : ∀ x G, az_mn (fun n => g n x G)) : az_ct (az_bL o k) (fun n => az_bL (f n) (g n)) := by
  intro r hr
  match o, ho, hr with
  | some (some (.long x), G), ho, hr =>
    obtain ⟨n1, h1⟩ := ho _ rfl
    obtain ⟨n2, h2⟩ := hk x G r hr
    refine ⟨max n1 n2, ?_⟩
    show az_bL (f (max n1 n2)) (g (max n1 n2)) = some r
    rw [mo n1 _ (Nat.le_max_left _ _) _ h1]
    exact mk x G n2 _ (Nat.le_max_right _ _) _ h2
theorem az_bV_c {o : az_R} {f : Nat → az_R} {k : az_H → az_R} {g : Nat → az_H → az_R} (ho : az_ct o f) (mo : az_mn f) (hk : ∀ G, az_ct (k G) (fun n => g n G)) (mk : ∀ G, az_mn (fun n => g n G)) : az_ct (az_bV o k) (fun n => az_bV (f n) (g n)) := by
  intro r hr
  match o, ho, hr with
  | some (none, G), ho, hr =>
    obtain ⟨n1, h1⟩ := ho _ rfl
    obtain ⟨n2, h2⟩ := hk G r hr
    refine ⟨max n1 n2, ?_⟩
    show az_bV (f (max n1 n2)) (g (max n1 n2)) = some r
    rw [mo n1 _ (Nat.le_max_left _ _) _ h1]
    exact mk G n2 _ (Nat.le_max_right _ _) _ h2
theorem az_bR_c {o : az_R} {f : Nat → az_R} {k0 : az_H → az_R} {g0 : Nat → az_H → az_R} {k : Nat → az_H → az_R} {g : Nat → Nat → az_H → az_R} (ho : az_ct o f) (mo : az_mn f) (hk0 : ∀ G, az_ct (k0 G) (fun n => g0 n G)) (mk0 : ∀ G, az_mn (fun n => g0 n G)) (hk : ∀ x G, az_ct (k x G) (fun n => g n x G)) (mk : ∀ x G, az_mn (fun n => g n x G)) : az_ct (az_bR o k0 k) (fun n => az_bR (f n) (g0 n) (g n)) := by
  intro r hr
  match o, ho, hr with
  | some (some .null, G), ho, hr =>
    obtain ⟨n1, h1⟩ := ho _ rfl
    obtain ⟨n2, h2⟩ := hk0 G r hr
    refine ⟨max n1 n2, ?_⟩
    show az_bR (f (max n1 n2)) (g0 (max n1 n2)) (g (max n1 n2)) = some r
    rw [mo n1 _ (Nat.le_max_left _ _) _ h1]
    exact mk0 G n2 _ (Nat.le_max_right _ _) _ h2
  | some (some (.ref x), G), ho, hr =>
    obtain ⟨n1, h1⟩ := ho _ rfl
    obtain ⟨n2, h2⟩ := hk x G r hr
    refine ⟨max n1 n2, ?_⟩
    show az_bR (f (max n1 n2)) (g0 (max n1 n2)) (g (max n1 n2)) = some r
    rw [mo n1 _ (Nat.le_max_left _ _) _ h1]
    exact mk x G n2 _ (Nat.le_max_right _ _) _ h2
theorem az_cl_c {o : az_R} {f : Nat → az_R} {K : List Value → az_H → az_R} {g : Nat → List Value → az_H → az_R} (q : Nat) (rest : List Value) (ho : az_ct o f) (mo : az_mn f) (hK : ∀ st G, az_ct (K st G) (fun n => g n st G)) (mK : ∀ st G, az_mn (fun n => g n st G)) : az_ct (az_cl q o K rest) (fun n => az_cl q (f n) (g n) rest) := by
  unfold az_cl
  split
  · exact az_bV_c ho mo (fun _ => hK _ _) (fun _ => mK _ _)
  · exact az_bI_c ho mo (fun _ _ => hK _ _) (fun _ _ => mK _ _)
  · exact az_bL_c ho mo (fun _ _ => hK _ _) (fun _ _ => mK _ _)
  · exact az_bR_c ho mo (fun _ => hK _ _) (fun _ => mK _ _) (fun _ _ => hK _ _) (fun _ _ => mK _ _)
theorem az_fI_c {G : az_H} {r ci j : Nat} {k : Int32 → az_R} {g : Nat → Int32 → az_R} (h : ∀ x0, az_ct (k x0) (fun n => g n x0)) : az_ct (az_fI G r ci j k) (fun n => az_fI G r ci j (g n)) := by
  unfold az_fI; (repeat' split) <;> first | exact h _ | exact az_ct_n
theorem az_fR_c {G : az_H} {r ci j : Nat} {k : Nat → az_R} {g : Nat → Nat → az_R} (h : ∀ x0, az_ct (k x0) (fun n => g n x0)) : az_ct (az_fR G r ci j k) (fun n => az_fR G r ci j (g n)) := by
  unfold az_fR; (repeat' split) <;> first | exact h _ | exact az_ct_n
theorem az_pt_c {G : az_H} {r ci j : Nat} {v : Value} {k : az_H → az_R} {g : Nat → az_H → az_R} (h : ∀ x0, az_ct (k x0) (fun n => g n x0)) : az_ct (az_pt G r ci j v k) (fun n => az_pt G r ci j v (g n)) := by
  unfold az_pt; (repeat' split) <;> first | exact h _ | exact az_ct_n
theorem az_ln_c {G : az_H} {kd r : Nat} {k : Int32 → az_R} {g : Nat → Int32 → az_R} (h : ∀ x0, az_ct (k x0) (fun n => g n x0)) : az_ct (az_ln G kd r k) (fun n => az_ln G kd r (g n)) := by
  unfold az_ln; (repeat' split) <;> first | exact h _ | exact az_ct_n
theorem az_aI_c {G : az_H} {kd r : Nat} {i : Int32} {k : Int32 → az_R} {g : Nat → Int32 → az_R} (h : ∀ x0, az_ct (k x0) (fun n => g n x0)) : az_ct (az_aI G kd r i k) (fun n => az_aI G kd r i (g n)) := by
  unfold az_aI; (repeat' split) <;> first | exact h _ | exact az_ct_n
theorem az_aR_c {G : az_H} {kd r : Nat} {i : Int32} {k : Nat → az_R} {g : Nat → Nat → az_R} (h : ∀ x0, az_ct (k x0) (fun n => g n x0)) : az_ct (az_aR G kd r i k) (fun n => az_aR G kd r i (g n)) := by
  unfold az_aR; (repeat' split) <;> first | exact h _ | exact az_ct_n
theorem az_sI_c {G : az_H} {kd r : Nat} {i x : Int32} {k : az_H → az_R} {g : Nat → az_H → az_R} (h : ∀ x0, az_ct (k x0) (fun n => g n x0)) : az_ct (az_sI G kd r i x k) (fun n => az_sI G kd r i x (g n)) := by
  unfold az_sI; (repeat' split) <;> first | exact h _ | exact az_ct_n
theorem az_sR_c {G : az_H} {kd r v : Nat} {i : Int32} {k : az_H → az_R} {g : Nat → az_H → az_R} (h : ∀ x0, az_ct (k x0) (fun n => g n x0)) : az_ct (az_sR G kd r i v k) (fun n => az_sR G kd r i v (g n)) := by
  unfold az_sR; (repeat' split) <;> first | exact h _ | exact az_ct_n
theorem az_nA_c {G : az_H} {kd : Nat} {n' : Int32} {k : Nat → az_H → az_R} {g : Nat → Nat → az_H → az_R} (h : ∀ x0 x1, az_ct (k x0 x1) (fun n => g n x0 x1)) : az_ct (az_nA G kd n' k) (fun n => az_nA G kd n' (g n)) := by
  unfold az_nA; (repeat' split) <;> first | exact h _ _ | exact az_ct_n
theorem az_nR_c {G : az_H} {kd : Nat} {n' : Int32} {k : Nat → az_H → az_R} {g : Nat → Nat → az_H → az_R} (h : ∀ x0 x1, az_ct (k x0 x1) (fun n => g n x0 x1)) : az_ct (az_nR G kd n' k) (fun n => az_nR G kd n' (g n)) := by
  unfold az_nR; (repeat' split) <;> first | exact h _ _ | exact az_ct_n
theorem az_nO_c {G : az_H} {ci : Nat} {k : Nat → az_H → az_R} {g : Nat → Nat → az_H → az_R} (h : ∀ q x, az_ct (k q x) (fun n => g n q x)) : az_ct (az_nO G ci k) (fun n => az_nO G ci (g n)) := h _ _
theorem az_rc_c {G : az_H} {r ci : Nat} {k : az_R} {g : Nat → az_R} (h : az_ct k g) : az_ct (az_rc G r ci k) (fun n => az_rc G r ci (g n)) := by
  unfold az_rc; (repeat' split) <;> first | exact h | exact az_ct_n
theorem az_dv_c {y : Int32} {k : az_R} {g : Nat → az_R} (h : az_ct k g) : az_ct (az_dv y k) (fun n => az_dv y (g n)) := by
  unfold az_dv; (repeat' split) <;> first | exact h | exact az_ct_n
theorem az_w1_c {y : Int32} {k : az_R} {g : Nat → az_R} (h : az_ct k g) : az_ct (az_w1 y k) (fun n => az_w1 y (g n)) := by
  unfold az_w1; (repeat' split) <;> first | exact h | exact az_ct_n
theorem az_rm_c {st : List Value} {k : az_R} {g : Nat → az_R} (h : az_ct k g) : az_ct (az_rm st k) (fun n => az_rm st (g n)) := by
  unfold az_rm; (repeat' split) <;> first | exact h | exact az_ct_n
set_option maxHeartbeats 4000000 in
theorem az_st_c (sc : az_S) (tw : Nat → List Nat) {C : Nat → List Value → az_H → az_R} {C' : Nat → Nat → List Value → az_H → az_R} {K : Nat → az_L → List Value → az_H → az_R} {K' : Nat → Nat → az_L → List Value → az_H → az_R} (hC : ∀ y vs G, az_ct (C y vs G) (fun n => C' n y vs G)) (mC : ∀ y vs G, az_mn (fun n => C' n y vs G)) (hK : ∀ k L st G, az_ct (K k L st G) (fun n => K' n k L st G)) (mK : ∀ k L st G, az_mn (fun n => K' n k L st G)) (i : az_I) (k : Nat) (L : az_L) (st : List Value) (G : az_H) : az_ct (az_st sc tw C K i k L st G) (fun n => az_st sc tw (C' n) (K' n) i k L st G) := by
  obtain ⟨pc, ins, a, b, c, d, x, y⟩ := i
  cases ins
  case ifCond cond off => cases cond <;> simp only [az_st] <;> (repeat' first | exact az_ct_n | exact hK _ _ _ _ | split)
  case if_icmp cond off => cases cond <;> simp only [az_st] <;> (repeat' first | exact az_ct_n | exact hK _ _ _ _ | split)
  all_goals simp only [az_st]
  all_goals repeat' first
    | exact az_ct_n
    | exact az_ct_r
    | exact hK _ _ _ _
    | refine az_fI_c fun _ => ?_
    | refine az_fR_c fun _ => ?_
    | refine az_pt_c fun _ => ?_
    | refine az_ln_c fun _ => ?_
    | refine az_aI_c fun _ => ?_
    | refine az_aR_c fun _ => ?_
    | refine az_sI_c fun _ => ?_
    | refine az_sR_c fun _ => ?_
    | refine az_nO_c fun _ _ => ?_
    | refine az_nA_c fun _ _ => ?_
    | refine az_nR_c fun _ _ => ?_
    | refine az_rc_c ?_
    | refine az_dv_c ?_
    | refine az_w1_c ?_
    | refine az_rm_c ?_
    | exact az_cl_c _ _ (hC _ _ _) (mC _ _ _) (fun _ _ => hK _ _ _ _) (fun _ _ => mK _ _ _ _)
    | split
end
section
abbrev iL_law : Nat := 0
abbrev iX0_init : Nat := 1
abbrev iX0_givenTo : Nat := 2
abbrev iX1_init : Nat := 3
abbrev iX1_add : Nat := 4
abbrev iX1_apexOf : Nat := 5
abbrev iX1_legOf : Nat := 6
abbrev iX1_firstLimit : Nat := 7
abbrev iX1_isLimit : Nat := 8
abbrev iX1_arrowsInto : Nat := 9
abbrev iX1_bringsLegs : Nat := 10
abbrev iX2_init : Nat := 11
abbrev iX2_lay : Nat := 12
abbrev iX2_search : Nat := 13
abbrev iX2_choose : Nat := 14
abbrev iX2_holds : Nat := 15
abbrev iX2_step : Nat := 16
abbrev iX3_init : Nat := 17
abbrev iX3_start : Nat := 18
abbrev iX3_next : Nat := 19
abbrev iX3_setRules : Nat := 20
abbrev iX3_fits : Nat := 21
abbrev iX4_init : Nat := 22
abbrev iX4_addArrow : Nat := 23
abbrev iX4_setWay : Nat := 24
abbrev iX4_wayAt : Nat := 25
abbrev iX4_fromOf : Nat := 26
abbrev iX4_toOf : Nat := 27
abbrev iX4_hasObject : Nat := 28
abbrev iX4_hasArrow : Nat := 29
abbrev iX4_doesNothing : Nat := 30
abbrev iX4_isRow : Nat := 31
abbrev iX4_leads : Nat := 32
abbrev iX4_areBeside : Nat := 33
abbrev iX4_firstBetween : Nat := 34
abbrev iX4_writeFault : Nat := 35
abbrev iX4_writeFaultRow : Nat := 36
abbrev iX4_writeUntold : Nat := 37
abbrev iX4_writeUnlike : Nat := 38
abbrev iX4_rowsOfTwo : Nat := 39
abbrev iX4_arrowsWithBack : Nat := 40
abbrev iX4_hasBack : Nat := 41
abbrev iX4_areAlike : Nat := 42
abbrev iX4_arrowsInto : Nat := 43
abbrev iX4_isSieve : Nat := 44
abbrev iX4_hasAllAhead : Nat := 45
abbrev iX4_pulled : Nat := 46
abbrev iX5_init : Nat := 47
abbrev iX5_table : Nat := 48
abbrev iX5_arrow : Nat := 49
abbrev iX5_way : Nat := 50
abbrev iX5_close : Nat := 51
abbrev iX5_fault : Nat := 52
abbrev iX5_order : Nat := 53
abbrev iX5_turned : Nat := 54
abbrev iX5_beside : Nat := 55
abbrev iX5_about : Nat := 56
abbrev iX5_end : Nat := 57
abbrev iX5_wayOf : Nat := 58
abbrev iX5_carriers : Nat := 59
abbrev iX5_carrier : Nat := 60
abbrev iX5_then : Nat := 61
abbrev iX5_told : Nat := 62
abbrev iX5_gives : Nat := 63
abbrev iX5_same : Nat := 64
abbrev iX5_bridges : Nat := 65
abbrev iX5_bridge : Nat := 66
abbrev iX5_limit : Nat := 67
abbrev iX5_leg : Nat := 68
abbrev iX5_cones : Nat := 69
abbrev iX5_answer : Nat := 70
abbrev iX5_answers : Nat := 71
abbrev iX5_sieves : Nat := 72
abbrev iX5_sieve : Nat := 73
abbrev iX5_pull : Nat := 74
abbrev iX5_follows : Nat := 75
abbrev iX5_count : Nat := 76
abbrev iX5_digest : Nat := 77
abbrev iX5_read : Nat := 78
abbrev iX5_write : Nat := 79
abbrev iX5_copy : Nat := 80
abbrev iX5_tableAt : Nat := 81
abbrev iX5_carrierAt : Nat := 82
abbrev iX5_keepTable : Nat := 83
abbrev iX5_keepCarrier : Nat := 84
abbrev iX5_digestOfTable : Nat := 85
abbrev iX5_digestOfCarrier : Nat := 86
abbrev iX5_hasBit : Nat := 87
abbrev iX5_isRightOrder : Nat := 88
abbrev iX5_hasAllOf : Nat := 89
abbrev iX5_bitsOfOrder : Nat := 90
abbrev iX5_tableOfOrder : Nat := 91
abbrev iX5_turnedTable : Nat := 92
abbrev iX5_tableBeside : Nat := 93
abbrev iX5_tellWaysBeside : Nat := 94
abbrev iX5_numberBeside : Nat := 95
abbrev iX5_pickCarrier : Nat := 96
abbrev iX5_isSame : Nat := 97
abbrev iX5_keepsUnlike : Nat := 98
abbrev iX5_givesAll : Nat := 99
abbrev iX5_isGiven : Nat := 100
abbrev iX5_reachesAll : Nat := 101
abbrev iX5_searchBridges : Nat := 102
abbrev iX5_coneChances : Nat := 103
abbrev iX5_gatherCones : Nat := 104
abbrev iX5_writeAnswer : Nat := 105
abbrev iX5_isAnswer : Nat := 106
abbrev iX5_arrowsThrough : Nat := 107
abbrev iX5_answeredArrow : Nat := 108
abbrev iX5_searchSieves : Nat := 109
abbrev iX6_init : Nat := 110
abbrev iX6_in : Nat := 111
abbrev iX6_isTable : Nat := 112
abbrev iX6_isArrow : Nat := 113
abbrev iX6_begins : Nat := 114
abbrev iX6_comes : Nat := 115
abbrev iX6_from : Nat := 116
abbrev iX6_to : Nat := 117
abbrev iX6_wayIn : Nat := 118
abbrev iX6_table : Nat := 119
abbrev iX6_arrow : Nat := 120
abbrev iX6_way : Nat := 121
abbrev iX6_finds : Nat := 122
abbrev iX6_findFault : Nat := 123
abbrev iX6_close : Nat := 124
abbrev iX6_fault : Nat := 125
abbrev iX6_stands : Nat := 126
abbrev iX6_isOrder : Nat := 127
abbrev iX6_between : Nat := 128
abbrev iX6_order : Nat := 129
abbrev iX6_turned : Nat := 130
abbrev iX6_beside : Nat := 131
abbrev iX6_isPaired : Nat := 132
abbrev iX6_about : Nat := 133
abbrev iX6_end : Nat := 134
abbrev iX6_wayOf : Nat := 135
abbrev iX6_isCarrier : Nat := 136
abbrev iX6_last : Nat := 137
abbrev iX6_findPairs : Nat := 138
abbrev iX6_isKept : Nat := 139
abbrev iX6_search : Nat := 140
abbrev iX6_carriers : Nat := 141
abbrev iX6_keeps : Nat := 142
abbrev iX6_carrier : Nat := 143
abbrev iX6_then : Nat := 144
abbrev iX6_giveOf : Nat := 145
abbrev iX6_isUnlike : Nat := 146
abbrev iX6_isGiven : Nat := 147
abbrev iX6_isFilled : Nat := 148
abbrev iX6_isCome : Nat := 149
abbrev iX6_isAllCome : Nat := 150
abbrev iX6_isSame : Nat := 151
abbrev iX6_told : Nat := 152
abbrev iX6_gives : Nat := 153
abbrev iX6_same : Nat := 154
abbrev iX6_after : Nat := 155
abbrev iX6_chances : Nat := 156
abbrev iX6_firstRow : Nat := 157
abbrev iX6_nextRow : Nat := 158
abbrev iX6_betweenCarriers : Nat := 159
abbrev iX6_isBridge : Nat := 160
abbrev iX6_findBridge : Nat := 161
abbrev iX6_against : Nat := 162
abbrev iX6_bridges : Nat := 163
abbrev iX6_bridge : Nat := 164
abbrev iX6_ahead : Nat := 165
abbrev iX6_isCone : Nat := 166
abbrev iX6_cones : Nat := 167
abbrev iX6_findCones : Nat := 168
abbrev iX6_leads : Nat := 169
abbrev iX6_limit : Nat := 170
abbrev iX6_leg : Nat := 171
abbrev iX6_isAnswer : Nat := 172
abbrev iX6_findAnswer : Nat := 173
abbrev iX6_answer : Nat := 174
abbrev iX6_answers : Nat := 175
abbrev iX6_findEnds : Nat := 176
abbrev iX6_isSieve : Nat := 177
abbrev iX6_findSieve : Nat := 178
abbrev iX6_againstSieves : Nat := 179
abbrev iX6_isObject : Nat := 180
abbrev iX6_sieves : Nat := 181
abbrev iX6_sieve : Nat := 182
abbrev iX6_pulled : Nat := 183
abbrev iX6_pull : Nat := 184
abbrev iX6_follows : Nat := 185
abbrev iX6_count : Nat := 186
abbrev iX6_digest : Nat := 187
abbrev iJ6_bitCount_0f7a4 : Nat := 188
abbrev iJ7_fill_53178 : Nat := 189
def az_p0 : List az_I := [(0, .new 7, 5, 0, 0, 0, 0, 0), (3, .dup, 0, 0, 0, 0, 0, 0), (4, .invokespecial 9, 47, 1, 0, 0, 0, 0), (7, .astore_n 1, 1, 0, 0, 0, 0, 0), (8, .new 10, 6, 0, 0, 0, 0, 0), (11, .dup, 0, 0, 0, 0, 0, 0), (12, .invokespecial 12, 110, 1, 0, 0, 0, 0), (15, .astore_n 2, 2, 0, 0, 0, 0, 0), (16, .iconst 0, 0, 0, 0, 0, 0, 0), (17, .istore_n 3, 3, 0, 0, 0, 0, 0), (18, .iload_n 3, 3, 0, 0, 0, 0, 0), (19, .aload_n 0, 0, 0, 0, 0, 0, 0), (20, .arraylength, 0, 9, 0, 0, 0, 0), (21, .iconst 5, 0, 0, 0, 0, 5, 0), (22, .isub, 0, 0, 0, 0, 0, 0), (23, .if_icmp .gt 1222, 909, 0, 0, 0, 0, 0), (26, .aload_n 0, 0, 0, 0, 0, 0, 0), (27, .iload_n 3, 3, 0, 0, 0, 0, 0), (28, .iaload, 0, 9, 0, 0, 0, 0), (29, .bipush 31, 0, 0, 0, 0, 31, 0), (31, .iand, 0, 0, 0, 0, 0, 0), (32, .tableswitch 1207 0 29 #[136, 159, 202, 255, 278, 311, 374, 397, 430, 463, 506, 549, 582, 625, 658, 691, 724, 757, 790, 843, 866, 889, 922, 965, 988, 1021, 1064, 1117, 1170, 1193], 0, 0, 0, 0, 0, 0), (168, .aload_n 1, 1, 0, 0, 0, 0, 0), (169, .aload_n 0, 0, 0, 0, 0, 0, 0), (170, .iload_n 3, 3, 0, 0, 0, 0, 0), (171, .iconst 1, 0, 0, 0, 0, 1, 0), (172, .iadd, 0, 0, 0, 0, 0, 0), (173, .iaload, 0, 9, 0, 0, 0, 0), (174, .invokevirtual 13, 48, 2, 1, 5, 0, 0), (177, .aload_n 2, 2, 0, 0, 0, 0, 0), (178, .aload_n 0, 0, 0, 0, 0, 0, 0), (179, .iload_n 3, 3, 0, 0, 0, 0, 0), (180, .iconst 1, 0, 0, 0, 0, 1, 0), (181, .iadd, 0, 0, 0, 0, 0, 0), (182, .iaload, 0, 9, 0, 0, 0, 0), (183, .invokevirtual 17, 119, 2, 1, 6, 0, 0), (186, .if_icmp .eq 1053, 907, 0, 0, 0, 0, 0), (189, .iconst 0, 0, 0, 0, 0, 0, 0), (190, .ireturn, 0, 0, 1, 0, 0, 0), (191, .aload_n 1, 1, 0, 0, 0, 0, 0), (192, .aload_n 0, 0, 0, 0, 0, 0, 0), (193, .iload_n 3, 3, 0, 0, 0, 0, 0), (194, .iconst 1, 0, 0, 0, 0, 1, 0), (195, .iadd, 0, 0, 0, 0, 0, 0), (196, .iaload, 0, 9, 0, 0, 0, 0), (197, .aload_n 0, 0, 0, 0, 0, 0, 0), (198, .iload_n 3, 3, 0, 0, 0, 0, 0), (199, .iconst 2, 0, 0, 0, 0, 2, 0), (200, .iadd, 0, 0, 0, 0, 0, 0), (201, .iaload, 0, 9, 0, 0, 0, 0), (202, .aload_n 0, 0, 0, 0, 0, 0, 0), (203, .iload_n 3, 3, 0, 0, 0, 0, 0), (204, .iconst 3, 0, 0, 0, 0, 3, 0), (205, .iadd, 0, 0, 0, 0, 0, 0), (206, .iaload, 0, 9, 0, 0, 0, 0), (207, .invokevirtual 18, 49, 4, 1, 5, 0, 0), (210, .aload_n 2, 2, 0, 0, 0, 0, 0), (211, .aload_n 0, 0, 0, 0, 0, 0, 0), (212, .iload_n 3, 3, 0, 0, 0, 0, 0), (213, .iconst 1, 0, 0, 0, 0, 1, 0), (214, .iadd, 0, 0, 0, 0, 0, 0), (215, .iaload, 0, 9, 0, 0, 0, 0), (216, .aload_n 0, 0, 0, 0, 0, 0, 0), (217, .iload_n 3, 3, 0, 0, 0, 0, 0), (218, .iconst 2, 0, 0, 0, 0, 2, 0), (219, .iadd, 0, 0, 0, 0, 0, 0), (220, .iaload, 0, 9, 0, 0, 0, 0), (221, .aload_n 0, 0, 0, 0, 0, 0, 0), (222, .iload_n 3, 3, 0, 0, 0, 0, 0), (223, .iconst 3, 0, 0, 0, 0, 3, 0), (224, .iadd, 0, 0, 0, 0, 0, 0), (225, .iaload, 0, 9, 0, 0, 0, 0), (226, .invokevirtual 22, 120, 4, 1, 6, 0, 0), (229, .if_icmp .eq 1010, 907, 0, 0, 0, 0, 0), (232, .iconst 0, 0, 0, 0, 0, 0, 0), (233, .ireturn, 0, 0, 1, 0, 0, 0), (234, .aload_n 1, 1, 0, 0, 0, 0, 0), (235, .aload_n 0, 0, 0, 0, 0, 0, 0), (236, .iload_n 3, 3, 0, 0, 0, 0, 0), (237, .iconst 1, 0, 0, 0, 0, 1, 0), (238, .iadd, 0, 0, 0, 0, 0, 0), (239, .iaload, 0, 9, 0, 0, 0, 0), (240, .aload_n 0, 0, 0, 0, 0, 0, 0), (241, .iload_n 3, 3, 0, 0, 0, 0, 0), (242, .iconst 2, 0, 0, 0, 0, 2, 0), (243, .iadd, 0, 0, 0, 0, 0, 0), (244, .iaload, 0, 9, 0, 0, 0, 0), (245, .aload_n 0, 0, 0, 0, 0, 0, 0), (246, .iload_n 3, 3, 0, 0, 0, 0, 0), (247, .iconst 3, 0, 0, 0, 0, 3, 0), (248, .iadd, 0, 0, 0, 0, 0, 0), (249, .iaload, 0, 9, 0, 0, 0, 0), (250, .aload_n 0, 0, 0, 0, 0, 0, 0), (251, .iload_n 3, 3, 0, 0, 0, 0, 0), (252, .iconst 4, 0, 0, 0, 0, 4, 0), (253, .iadd, 0, 0, 0, 0, 0, 0), (254, .iaload, 0, 9, 0, 0, 0, 0), (255, .invokevirtual 23, 50, 5, 1, 5, 0, 0), (258, .aload_n 2, 2, 0, 0, 0, 0, 0), (259, .aload_n 0, 0, 0, 0, 0, 0, 0), (260, .iload_n 3, 3, 0, 0, 0, 0, 0), (261, .iconst 1, 0, 0, 0, 0, 1, 0), (262, .iadd, 0, 0, 0, 0, 0, 0), (263, .iaload, 0, 9, 0, 0, 0, 0), (264, .aload_n 0, 0, 0, 0, 0, 0, 0), (265, .iload_n 3, 3, 0, 0, 0, 0, 0), (266, .iconst 2, 0, 0, 0, 0, 2, 0), (267, .iadd, 0, 0, 0, 0, 0, 0), (268, .iaload, 0, 9, 0, 0, 0, 0), (269, .aload_n 0, 0, 0, 0, 0, 0, 0), (270, .iload_n 3, 3, 0, 0, 0, 0, 0), (271, .iconst 3, 0, 0, 0, 0, 3, 0), (272, .iadd, 0, 0, 0, 0, 0, 0), (273, .iaload, 0, 9, 0, 0, 0, 0), (274, .aload_n 0, 0, 0, 0, 0, 0, 0), (275, .iload_n 3, 3, 0, 0, 0, 0, 0), (276, .iconst 4, 0, 0, 0, 0, 4, 0), (277, .iadd, 0, 0, 0, 0, 0, 0), (278, .iaload, 0, 9, 0, 0, 0, 0), (279, .invokevirtual 27, 121, 5, 1, 6, 0, 0), (282, .if_icmp .eq 957, 907, 0, 0, 0, 0, 0), (285, .iconst 0, 0, 0, 0, 0, 0, 0), (286, .ireturn, 0, 0, 1, 0, 0, 0), (287, .aload_n 1, 1, 0, 0, 0, 0, 0), (288, .aload_n 0, 0, 0, 0, 0, 0, 0), (289, .iload_n 3, 3, 0, 0, 0, 0, 0), (290, .iconst 1, 0, 0, 0, 0, 1, 0), (291, .iadd, 0, 0, 0, 0, 0, 0), (292, .iaload, 0, 9, 0, 0, 0, 0), (293, .invokevirtual 28, 51, 2, 1, 5, 0, 0), (296, .aload_n 2, 2, 0, 0, 0, 0, 0), (297, .aload_n 0, 0, 0, 0, 0, 0, 0), (298, .iload_n 3, 3, 0, 0, 0, 0, 0), (299, .iconst 1, 0, 0, 0, 0, 1, 0), (300, .iadd, 0, 0, 0, 0, 0, 0), (301, .iaload, 0, 9, 0, 0, 0, 0), (302, .invokevirtual 31, 124, 2, 1, 6, 0, 0), (305, .if_icmp .eq 934, 907, 0, 0, 0, 0, 0), (308, .iconst 0, 0, 0, 0, 0, 0, 0), (309, .ireturn, 0, 0, 1, 0, 0, 0), (310, .aload_n 1, 1, 0, 0, 0, 0, 0), (311, .aload_n 0, 0, 0, 0, 0, 0, 0), (312, .iload_n 3, 3, 0, 0, 0, 0, 0), (313, .iconst 1, 0, 0, 0, 0, 1, 0), (314, .iadd, 0, 0, 0, 0, 0, 0), (315, .iaload, 0, 9, 0, 0, 0, 0), (316, .aload_n 0, 0, 0, 0, 0, 0, 0), (317, .iload_n 3, 3, 0, 0, 0, 0, 0), (318, .iconst 2, 0, 0, 0, 0, 2, 0), (319, .iadd, 0, 0, 0, 0, 0, 0), (320, .iaload, 0, 9, 0, 0, 0, 0), (321, .invokevirtual 32, 52, 3, 1, 5, 0, 0), (324, .aload_n 2, 2, 0, 0, 0, 0, 0), (325, .aload_n 0, 0, 0, 0, 0, 0, 0), (326, .iload_n 3, 3, 0, 0, 0, 0, 0), (327, .iconst 1, 0, 0, 0, 0, 1, 0), (328, .iadd, 0, 0, 0, 0, 0, 0), (329, .iaload, 0, 9, 0, 0, 0, 0), (330, .aload_n 0, 0, 0, 0, 0, 0, 0), (331, .iload_n 3, 3, 0, 0, 0, 0, 0), (332, .iconst 2, 0, 0, 0, 0, 2, 0), (333, .iadd, 0, 0, 0, 0, 0, 0), (334, .iaload, 0, 9, 0, 0, 0, 0), (335, .invokevirtual 36, 125, 3, 1, 6, 0, 0), (338, .if_icmp .eq 901, 907, 0, 0, 0, 0, 0), (341, .iconst 0, 0, 0, 0, 0, 0, 0), (342, .ireturn, 0, 0, 1, 0, 0, 0), (343, .aload_n 1, 1, 0, 0, 0, 0, 0), (344, .aload_n 0, 0, 0, 0, 0, 0, 0), (345, .iload_n 3, 3, 0, 0, 0, 0, 0), (346, .iconst 1, 0, 0, 0, 0, 1, 0), (347, .iadd, 0, 0, 0, 0, 0, 0), (348, .iaload, 0, 9, 0, 0, 0, 0), (349, .aload_n 0, 0, 0, 0, 0, 0, 0), (350, .iload_n 3, 3, 0, 0, 0, 0, 0), (351, .iconst 2, 0, 0, 0, 0, 2, 0), (352, .iadd, 0, 0, 0, 0, 0, 0), (353, .iaload, 0, 9, 0, 0, 0, 0), (354, .i2l, 0, 0, 0, 0, 0, 0), (355, .bipush 32, 0, 0, 0, 0, 32, 0), (357, .lshl, 0, 0, 0, 0, 0, 0), (358, .aload_n 0, 0, 0, 0, 0, 0, 0), (359, .iload_n 3, 3, 0, 0, 0, 0, 0), (360, .iconst 3, 0, 0, 0, 0, 3, 0), (361, .iadd, 0, 0, 0, 0, 0, 0), (362, .iaload, 0, 9, 0, 0, 0, 0), (363, .i2l, 0, 0, 0, 0, 0, 0), (364, .ldc2_w 37, 0, 0, 0, 0, 0, 4294967295), (367, .land, 0, 0, 0, 0, 0, 0), (368, .lor, 0, 0, 0, 0, 0, 0), (369, .invokevirtual 39, 53, 3, 1, 5, 0, 0), (372, .aload_n 2, 2, 0, 0, 0, 0, 0), (373, .aload_n 0, 0, 0, 0, 0, 0, 0), (374, .iload_n 3, 3, 0, 0, 0, 0, 0), (375, .iconst 1, 0, 0, 0, 0, 1, 0), (376, .iadd, 0, 0, 0, 0, 0, 0), (377, .iaload, 0, 9, 0, 0, 0, 0), (378, .aload_n 0, 0, 0, 0, 0, 0, 0), (379, .iload_n 3, 3, 0, 0, 0, 0, 0), (380, .iconst 2, 0, 0, 0, 0, 2, 0), (381, .iadd, 0, 0, 0, 0, 0, 0), (382, .iaload, 0, 9, 0, 0, 0, 0), (383, .i2l, 0, 0, 0, 0, 0, 0), (384, .bipush 32, 0, 0, 0, 0, 32, 0), (386, .lshl, 0, 0, 0, 0, 0, 0), (387, .aload_n 0, 0, 0, 0, 0, 0, 0), (388, .iload_n 3, 3, 0, 0, 0, 0, 0), (389, .iconst 3, 0, 0, 0, 0, 3, 0), (390, .iadd, 0, 0, 0, 0, 0, 0), (391, .iaload, 0, 9, 0, 0, 0, 0), (392, .i2l, 0, 0, 0, 0, 0, 0), (393, .ldc2_w 37, 0, 0, 0, 0, 0, 4294967295), (396, .land, 0, 0, 0, 0, 0, 0), (397, .lor, 0, 0, 0, 0, 0, 0), (398, .invokevirtual 43, 129, 3, 1, 6, 0, 0), (401, .if_icmp .eq 838, 907, 0, 0, 0, 0, 0), (404, .iconst 0, 0, 0, 0, 0, 0, 0), (405, .ireturn, 0, 0, 1, 0, 0, 0), (406, .aload_n 1, 1, 0, 0, 0, 0, 0), (407, .aload_n 0, 0, 0, 0, 0, 0, 0), (408, .iload_n 3, 3, 0, 0, 0, 0, 0), (409, .iconst 1, 0, 0, 0, 0, 1, 0), (410, .iadd, 0, 0, 0, 0, 0, 0), (411, .iaload, 0, 9, 0, 0, 0, 0), (412, .invokevirtual 44, 54, 2, 1, 5, 0, 0), (415, .aload_n 2, 2, 0, 0, 0, 0, 0), (416, .aload_n 0, 0, 0, 0, 0, 0, 0), (417, .iload_n 3, 3, 0, 0, 0, 0, 0), (418, .iconst 1, 0, 0, 0, 0, 1, 0), (419, .iadd, 0, 0, 0, 0, 0, 0), (420, .iaload, 0, 9, 0, 0, 0, 0), (421, .invokevirtual 47, 130, 2, 1, 6, 0, 0), (424, .if_icmp .eq 815, 907, 0, 0, 0, 0, 0), (427, .iconst 0, 0, 0, 0, 0, 0, 0), (428, .ireturn, 0, 0, 1, 0, 0, 0), (429, .aload_n 1, 1, 0, 0, 0, 0, 0), (430, .aload_n 0, 0, 0, 0, 0, 0, 0), (431, .iload_n 3, 3, 0, 0, 0, 0, 0), (432, .iconst 1, 0, 0, 0, 0, 1, 0), (433, .iadd, 0, 0, 0, 0, 0, 0), (434, .iaload, 0, 9, 0, 0, 0, 0), (435, .aload_n 0, 0, 0, 0, 0, 0, 0), (436, .iload_n 3, 3, 0, 0, 0, 0, 0), (437, .iconst 2, 0, 0, 0, 0, 2, 0), (438, .iadd, 0, 0, 0, 0, 0, 0), (439, .iaload, 0, 9, 0, 0, 0, 0), (440, .invokevirtual 48, 55, 3, 1, 5, 0, 0), (443, .aload_n 2, 2, 0, 0, 0, 0, 0), (444, .aload_n 0, 0, 0, 0, 0, 0, 0), (445, .iload_n 3, 3, 0, 0, 0, 0, 0), (446, .iconst 1, 0, 0, 0, 0, 1, 0), (447, .iadd, 0, 0, 0, 0, 0, 0), (448, .iaload, 0, 9, 0, 0, 0, 0), (449, .aload_n 0, 0, 0, 0, 0, 0, 0), (450, .iload_n 3, 3, 0, 0, 0, 0, 0), (451, .iconst 2, 0, 0, 0, 0, 2, 0), (452, .iadd, 0, 0, 0, 0, 0, 0), (453, .iaload, 0, 9, 0, 0, 0, 0), (454, .invokevirtual 51, 131, 3, 1, 6, 0, 0), (457, .if_icmp .eq 782, 907, 0, 0, 0, 0, 0), (460, .iconst 0, 0, 0, 0, 0, 0, 0), (461, .ireturn, 0, 0, 1, 0, 0, 0), (462, .aload_n 1, 1, 0, 0, 0, 0, 0), (463, .aload_n 0, 0, 0, 0, 0, 0, 0), (464, .iload_n 3, 3, 0, 0, 0, 0, 0), (465, .iconst 1, 0, 0, 0, 0, 1, 0), (466, .iadd, 0, 0, 0, 0, 0, 0), (467, .iaload, 0, 9, 0, 0, 0, 0), (468, .aload_n 0, 0, 0, 0, 0, 0, 0), (469, .iload_n 3, 3, 0, 0, 0, 0, 0), (470, .iconst 2, 0, 0, 0, 0, 2, 0), (471, .iadd, 0, 0, 0, 0, 0, 0), (472, .iaload, 0, 9, 0, 0, 0, 0), (473, .invokevirtual 52, 56, 3, 1, 5, 0, 0), (476, .aload_n 2, 2, 0, 0, 0, 0, 0), (477, .aload_n 0, 0, 0, 0, 0, 0, 0), (478, .iload_n 3, 3, 0, 0, 0, 0, 0), (479, .iconst 1, 0, 0, 0, 0, 1, 0), (480, .iadd, 0, 0, 0, 0, 0, 0), (481, .iaload, 0, 9, 0, 0, 0, 0), (482, .aload_n 0, 0, 0, 0, 0, 0, 0), (483, .iload_n 3, 3, 0, 0, 0, 0, 0), (484, .iconst 2, 0, 0, 0, 0, 2, 0), (485, .iadd, 0, 0, 0, 0, 0, 0), (486, .iaload, 0, 9, 0, 0, 0, 0), (487, .invokevirtual 55, 133, 3, 1, 6, 0, 0), (490, .if_icmp .eq 749, 907, 0, 0, 0, 0, 0), (493, .iconst 0, 0, 0, 0, 0, 0, 0), (494, .ireturn, 0, 0, 1, 0, 0, 0), (495, .aload_n 1, 1, 0, 0, 0, 0, 0), (496, .aload_n 0, 0, 0, 0, 0, 0, 0), (497, .iload_n 3, 3, 0, 0, 0, 0, 0), (498, .iconst 1, 0, 0, 0, 0, 1, 0), (499, .iadd, 0, 0, 0, 0, 0, 0), (500, .iaload, 0, 9, 0, 0, 0, 0), (501, .aload_n 0, 0, 0, 0, 0, 0, 0), (502, .iload_n 3, 3, 0, 0, 0, 0, 0), (503, .iconst 2, 0, 0, 0, 0, 2, 0), (504, .iadd, 0, 0, 0, 0, 0, 0), (505, .iaload, 0, 9, 0, 0, 0, 0), (506, .aload_n 0, 0, 0, 0, 0, 0, 0), (507, .iload_n 3, 3, 0, 0, 0, 0, 0), (508, .iconst 3, 0, 0, 0, 0, 3, 0), (509, .iadd, 0, 0, 0, 0, 0, 0), (510, .iaload, 0, 9, 0, 0, 0, 0), (511, .invokevirtual 56, 57, 4, 1, 5, 0, 0), (514, .aload_n 2, 2, 0, 0, 0, 0, 0), (515, .aload_n 0, 0, 0, 0, 0, 0, 0), (516, .iload_n 3, 3, 0, 0, 0, 0, 0), (517, .iconst 1, 0, 0, 0, 0, 1, 0), (518, .iadd, 0, 0, 0, 0, 0, 0), (519, .iaload, 0, 9, 0, 0, 0, 0), (520, .aload_n 0, 0, 0, 0, 0, 0, 0), (521, .iload_n 3, 3, 0, 0, 0, 0, 0), (522, .iconst 2, 0, 0, 0, 0, 2, 0), (523, .iadd, 0, 0, 0, 0, 0, 0), (524, .iaload, 0, 9, 0, 0, 0, 0), (525, .aload_n 0, 0, 0, 0, 0, 0, 0), (526, .iload_n 3, 3, 0, 0, 0, 0, 0), (527, .iconst 3, 0, 0, 0, 0, 3, 0), (528, .iadd, 0, 0, 0, 0, 0, 0), (529, .iaload, 0, 9, 0, 0, 0, 0), (530, .invokevirtual 59, 134, 4, 1, 6, 0, 0), (533, .if_icmp .eq 706, 907, 0, 0, 0, 0, 0), (536, .iconst 0, 0, 0, 0, 0, 0, 0), (537, .ireturn, 0, 0, 1, 0, 0, 0), (538, .aload_n 1, 1, 0, 0, 0, 0, 0), (539, .aload_n 0, 0, 0, 0, 0, 0, 0), (540, .iload_n 3, 3, 0, 0, 0, 0, 0), (541, .iconst 1, 0, 0, 0, 0, 1, 0), (542, .iadd, 0, 0, 0, 0, 0, 0), (543, .iaload, 0, 9, 0, 0, 0, 0), (544, .aload_n 0, 0, 0, 0, 0, 0, 0), (545, .iload_n 3, 3, 0, 0, 0, 0, 0), (546, .iconst 2, 0, 0, 0, 0, 2, 0), (547, .iadd, 0, 0, 0, 0, 0, 0), (548, .iaload, 0, 9, 0, 0, 0, 0), (549, .aload_n 0, 0, 0, 0, 0, 0, 0), (550, .iload_n 3, 3, 0, 0, 0, 0, 0), (551, .iconst 3, 0, 0, 0, 0, 3, 0), (552, .iadd, 0, 0, 0, 0, 0, 0), (553, .iaload, 0, 9, 0, 0, 0, 0), (554, .invokevirtual 60, 58, 4, 1, 5, 0, 0), (557, .aload_n 2, 2, 0, 0, 0, 0, 0), (558, .aload_n 0, 0, 0, 0, 0, 0, 0), (559, .iload_n 3, 3, 0, 0, 0, 0, 0), (560, .iconst 1, 0, 0, 0, 0, 1, 0), (561, .iadd, 0, 0, 0, 0, 0, 0), (562, .iaload, 0, 9, 0, 0, 0, 0), (563, .aload_n 0, 0, 0, 0, 0, 0, 0), (564, .iload_n 3, 3, 0, 0, 0, 0, 0), (565, .iconst 2, 0, 0, 0, 0, 2, 0), (566, .iadd, 0, 0, 0, 0, 0, 0), (567, .iaload, 0, 9, 0, 0, 0, 0), (568, .aload_n 0, 0, 0, 0, 0, 0, 0), (569, .iload_n 3, 3, 0, 0, 0, 0, 0), (570, .iconst 3, 0, 0, 0, 0, 3, 0), (571, .iadd, 0, 0, 0, 0, 0, 0), (572, .iaload, 0, 9, 0, 0, 0, 0), (573, .invokevirtual 63, 135, 4, 1, 6, 0, 0), (576, .if_icmp .eq 663, 907, 0, 0, 0, 0, 0), (579, .iconst 0, 0, 0, 0, 0, 0, 0), (580, .ireturn, 0, 0, 1, 0, 0, 0), (581, .aload_n 1, 1, 0, 0, 0, 0, 0), (582, .aload_n 0, 0, 0, 0, 0, 0, 0), (583, .iload_n 3, 3, 0, 0, 0, 0, 0), (584, .iconst 1, 0, 0, 0, 0, 1, 0), (585, .iadd, 0, 0, 0, 0, 0, 0), (586, .iaload, 0, 9, 0, 0, 0, 0), (587, .aload_n 0, 0, 0, 0, 0, 0, 0), (588, .iload_n 3, 3, 0, 0, 0, 0, 0), (589, .iconst 2, 0, 0, 0, 0, 2, 0), (590, .iadd, 0, 0, 0, 0, 0, 0), (591, .iaload, 0, 9, 0, 0, 0, 0), (592, .invokevirtual 64, 59, 3, 1, 5, 0, 0), (595, .aload_n 2, 2, 0, 0, 0, 0, 0), (596, .aload_n 0, 0, 0, 0, 0, 0, 0), (597, .iload_n 3, 3, 0, 0, 0, 0, 0), (598, .iconst 1, 0, 0, 0, 0, 1, 0), (599, .iadd, 0, 0, 0, 0, 0, 0), (600, .iaload, 0, 9, 0, 0, 0, 0), (601, .aload_n 0, 0, 0, 0, 0, 0, 0), (602, .iload_n 3, 3, 0, 0, 0, 0, 0), (603, .iconst 2, 0, 0, 0, 0, 2, 0), (604, .iadd, 0, 0, 0, 0, 0, 0), (605, .iaload, 0, 9, 0, 0, 0, 0), (606, .invokevirtual 67, 141, 3, 1, 6, 0, 0), (609, .if_icmp .eq 630, 907, 0, 0, 0, 0, 0), (612, .iconst 0, 0, 0, 0, 0, 0, 0), (613, .ireturn, 0, 0, 1, 0, 0, 0), (614, .aload_n 1, 1, 0, 0, 0, 0, 0), (615, .aload_n 0, 0, 0, 0, 0, 0, 0), (616, .iload_n 3, 3, 0, 0, 0, 0, 0), (617, .iconst 1, 0, 0, 0, 0, 1, 0), (618, .iadd, 0, 0, 0, 0, 0, 0), (619, .iaload, 0, 9, 0, 0, 0, 0), (620, .aload_n 0, 0, 0, 0, 0, 0, 0), (621, .iload_n 3, 3, 0, 0, 0, 0, 0), (622, .iconst 2, 0, 0, 0, 0, 2, 0), (623, .iadd, 0, 0, 0, 0, 0, 0), (624, .iaload, 0, 9, 0, 0, 0, 0), (625, .aload_n 0, 0, 0, 0, 0, 0, 0), (626, .iload_n 3, 3, 0, 0, 0, 0, 0), (627, .iconst 3, 0, 0, 0, 0, 3, 0), (628, .iadd, 0, 0, 0, 0, 0, 0), (629, .iaload, 0, 9, 0, 0, 0, 0), (630, .invokevirtual 68, 60, 4, 1, 5, 0, 0), (633, .aload_n 2, 2, 0, 0, 0, 0, 0), (634, .aload_n 0, 0, 0, 0, 0, 0, 0), (635, .iload_n 3, 3, 0, 0, 0, 0, 0), (636, .iconst 1, 0, 0, 0, 0, 1, 0), (637, .iadd, 0, 0, 0, 0, 0, 0), (638, .iaload, 0, 9, 0, 0, 0, 0), (639, .aload_n 0, 0, 0, 0, 0, 0, 0), (640, .iload_n 3, 3, 0, 0, 0, 0, 0), (641, .iconst 2, 0, 0, 0, 0, 2, 0), (642, .iadd, 0, 0, 0, 0, 0, 0), (643, .iaload, 0, 9, 0, 0, 0, 0), (644, .aload_n 0, 0, 0, 0, 0, 0, 0), (645, .iload_n 3, 3, 0, 0, 0, 0, 0), (646, .iconst 3, 0, 0, 0, 0, 3, 0), (647, .iadd, 0, 0, 0, 0, 0, 0), (648, .iaload, 0, 9, 0, 0, 0, 0), (649, .invokevirtual 71, 143, 4, 1, 6, 0, 0), (652, .if_icmp .eq 587, 907, 0, 0, 0, 0, 0), (655, .iconst 0, 0, 0, 0, 0, 0, 0), (656, .ireturn, 0, 0, 1, 0, 0, 0), (657, .aload_n 1, 1, 0, 0, 0, 0, 0), (658, .aload_n 0, 0, 0, 0, 0, 0, 0), (659, .iload_n 3, 3, 0, 0, 0, 0, 0), (660, .iconst 1, 0, 0, 0, 0, 1, 0), (661, .iadd, 0, 0, 0, 0, 0, 0), (662, .iaload, 0, 9, 0, 0, 0, 0), (663, .aload_n 0, 0, 0, 0, 0, 0, 0), (664, .iload_n 3, 3, 0, 0, 0, 0, 0), (665, .iconst 2, 0, 0, 0, 0, 2, 0), (666, .iadd, 0, 0, 0, 0, 0, 0), (667, .iaload, 0, 9, 0, 0, 0, 0), (668, .invokevirtual 72, 61, 3, 1, 5, 0, 0), (671, .aload_n 2, 2, 0, 0, 0, 0, 0), (672, .aload_n 0, 0, 0, 0, 0, 0, 0), (673, .iload_n 3, 3, 0, 0, 0, 0, 0), (674, .iconst 1, 0, 0, 0, 0, 1, 0), (675, .iadd, 0, 0, 0, 0, 0, 0), (676, .iaload, 0, 9, 0, 0, 0, 0), (677, .aload_n 0, 0, 0, 0, 0, 0, 0), (678, .iload_n 3, 3, 0, 0, 0, 0, 0), (679, .iconst 2, 0, 0, 0, 0, 2, 0), (680, .iadd, 0, 0, 0, 0, 0, 0), (681, .iaload, 0, 9, 0, 0, 0, 0), (682, .invokevirtual 75, 144, 3, 1, 6, 0, 0), (685, .if_icmp .eq 554, 907, 0, 0, 0, 0, 0), (688, .iconst 0, 0, 0, 0, 0, 0, 0), (689, .ireturn, 0, 0, 1, 0, 0, 0), (690, .aload_n 1, 1, 0, 0, 0, 0, 0), (691, .aload_n 0, 0, 0, 0, 0, 0, 0), (692, .iload_n 3, 3, 0, 0, 0, 0, 0), (693, .iconst 1, 0, 0, 0, 0, 1, 0), (694, .iadd, 0, 0, 0, 0, 0, 0), (695, .iaload, 0, 9, 0, 0, 0, 0), (696, .aload_n 0, 0, 0, 0, 0, 0, 0), (697, .iload_n 3, 3, 0, 0, 0, 0, 0), (698, .iconst 2, 0, 0, 0, 0, 2, 0), (699, .iadd, 0, 0, 0, 0, 0, 0), (700, .iaload, 0, 9, 0, 0, 0, 0), (701, .invokevirtual 76, 62, 3, 1, 5, 0, 0), (704, .aload_n 2, 2, 0, 0, 0, 0, 0), (705, .aload_n 0, 0, 0, 0, 0, 0, 0), (706, .iload_n 3, 3, 0, 0, 0, 0, 0), (707, .iconst 1, 0, 0, 0, 0, 1, 0), (708, .iadd, 0, 0, 0, 0, 0, 0), (709, .iaload, 0, 9, 0, 0, 0, 0), (710, .aload_n 0, 0, 0, 0, 0, 0, 0), (711, .iload_n 3, 3, 0, 0, 0, 0, 0), (712, .iconst 2, 0, 0, 0, 0, 2, 0), (713, .iadd, 0, 0, 0, 0, 0, 0), (714, .iaload, 0, 9, 0, 0, 0, 0), (715, .invokevirtual 79, 152, 3, 1, 6, 0, 0), (718, .if_icmp .eq 521, 907, 0, 0, 0, 0, 0), (721, .iconst 0, 0, 0, 0, 0, 0, 0), (722, .ireturn, 0, 0, 1, 0, 0, 0), (723, .aload_n 1, 1, 0, 0, 0, 0, 0), (724, .aload_n 0, 0, 0, 0, 0, 0, 0), (725, .iload_n 3, 3, 0, 0, 0, 0, 0), (726, .iconst 1, 0, 0, 0, 0, 1, 0), (727, .iadd, 0, 0, 0, 0, 0, 0), (728, .iaload, 0, 9, 0, 0, 0, 0), (729, .aload_n 0, 0, 0, 0, 0, 0, 0), (730, .iload_n 3, 3, 0, 0, 0, 0, 0), (731, .iconst 2, 0, 0, 0, 0, 2, 0), (732, .iadd, 0, 0, 0, 0, 0, 0), (733, .iaload, 0, 9, 0, 0, 0, 0), (734, .invokevirtual 80, 63, 3, 1, 5, 0, 0), (737, .aload_n 2, 2, 0, 0, 0, 0, 0), (738, .aload_n 0, 0, 0, 0, 0, 0, 0), (739, .iload_n 3, 3, 0, 0, 0, 0, 0), (740, .iconst 1, 0, 0, 0, 0, 1, 0), (741, .iadd, 0, 0, 0, 0, 0, 0), (742, .iaload, 0, 9, 0, 0, 0, 0), (743, .aload_n 0, 0, 0, 0, 0, 0, 0), (744, .iload_n 3, 3, 0, 0, 0, 0, 0), (745, .iconst 2, 0, 0, 0, 0, 2, 0), (746, .iadd, 0, 0, 0, 0, 0, 0), (747, .iaload, 0, 9, 0, 0, 0, 0), (748, .invokevirtual 83, 153, 3, 1, 6, 0, 0), (751, .if_icmp .eq 488, 907, 0, 0, 0, 0, 0), (754, .iconst 0, 0, 0, 0, 0, 0, 0), (755, .ireturn, 0, 0, 1, 0, 0, 0), (756, .aload_n 1, 1, 0, 0, 0, 0, 0), (757, .aload_n 0, 0, 0, 0, 0, 0, 0), (758, .iload_n 3, 3, 0, 0, 0, 0, 0), (759, .iconst 1, 0, 0, 0, 0, 1, 0), (760, .iadd, 0, 0, 0, 0, 0, 0), (761, .iaload, 0, 9, 0, 0, 0, 0), (762, .aload_n 0, 0, 0, 0, 0, 0, 0), (763, .iload_n 3, 3, 0, 0, 0, 0, 0), (764, .iconst 2, 0, 0, 0, 0, 2, 0), (765, .iadd, 0, 0, 0, 0, 0, 0), (766, .iaload, 0, 9, 0, 0, 0, 0), (767, .invokevirtual 84, 64, 3, 1, 5, 0, 0), (770, .aload_n 2, 2, 0, 0, 0, 0, 0), (771, .aload_n 0, 0, 0, 0, 0, 0, 0), (772, .iload_n 3, 3, 0, 0, 0, 0, 0), (773, .iconst 1, 0, 0, 0, 0, 1, 0), (774, .iadd, 0, 0, 0, 0, 0, 0), (775, .iaload, 0, 9, 0, 0, 0, 0), (776, .aload_n 0, 0, 0, 0, 0, 0, 0), (777, .iload_n 3, 3, 0, 0, 0, 0, 0), (778, .iconst 2, 0, 0, 0, 0, 2, 0), (779, .iadd, 0, 0, 0, 0, 0, 0), (780, .iaload, 0, 9, 0, 0, 0, 0), (781, .invokevirtual 87, 154, 3, 1, 6, 0, 0), (784, .if_icmp .eq 455, 907, 0, 0, 0, 0, 0), (787, .iconst 0, 0, 0, 0, 0, 0, 0), (788, .ireturn, 0, 0, 1, 0, 0, 0), (789, .aload_n 1, 1, 0, 0, 0, 0, 0), (790, .aload_n 0, 0, 0, 0, 0, 0, 0), (791, .iload_n 3, 3, 0, 0, 0, 0, 0), (792, .iconst 1, 0, 0, 0, 0, 1, 0), (793, .iadd, 0, 0, 0, 0, 0, 0), (794, .iaload, 0, 9, 0, 0, 0, 0), (795, .aload_n 0, 0, 0, 0, 0, 0, 0), (796, .iload_n 3, 3, 0, 0, 0, 0, 0), (797, .iconst 2, 0, 0, 0, 0, 2, 0), (798, .iadd, 0, 0, 0, 0, 0, 0), (799, .iaload, 0, 9, 0, 0, 0, 0), (800, .invokevirtual 88, 65, 3, 1, 5, 0, 0), (803, .aload_n 2, 2, 0, 0, 0, 0, 0), (804, .aload_n 0, 0, 0, 0, 0, 0, 0), (805, .iload_n 3, 3, 0, 0, 0, 0, 0), (806, .iconst 1, 0, 0, 0, 0, 1, 0), (807, .iadd, 0, 0, 0, 0, 0, 0), (808, .iaload, 0, 9, 0, 0, 0, 0), (809, .aload_n 0, 0, 0, 0, 0, 0, 0), (810, .iload_n 3, 3, 0, 0, 0, 0, 0), (811, .iconst 2, 0, 0, 0, 0, 2, 0), (812, .iadd, 0, 0, 0, 0, 0, 0), (813, .iaload, 0, 9, 0, 0, 0, 0), (814, .invokevirtual 91, 163, 3, 1, 6, 0, 0), (817, .if_icmp .eq 422, 907, 0, 0, 0, 0, 0), (820, .iconst 0, 0, 0, 0, 0, 0, 0), (821, .ireturn, 0, 0, 1, 0, 0, 0), (822, .aload_n 1, 1, 0, 0, 0, 0, 0), (823, .aload_n 0, 0, 0, 0, 0, 0, 0), (824, .iload_n 3, 3, 0, 0, 0, 0, 0), (825, .iconst 1, 0, 0, 0, 0, 1, 0), (826, .iadd, 0, 0, 0, 0, 0, 0), (827, .iaload, 0, 9, 0, 0, 0, 0), (828, .aload_n 0, 0, 0, 0, 0, 0, 0), (829, .iload_n 3, 3, 0, 0, 0, 0, 0), (830, .iconst 2, 0, 0, 0, 0, 2, 0), (831, .iadd, 0, 0, 0, 0, 0, 0), (832, .iaload, 0, 9, 0, 0, 0, 0), (833, .aload_n 0, 0, 0, 0, 0, 0, 0), (834, .iload_n 3, 3, 0, 0, 0, 0, 0), (835, .iconst 3, 0, 0, 0, 0, 3, 0), (836, .iadd, 0, 0, 0, 0, 0, 0), (837, .iaload, 0, 9, 0, 0, 0, 0), (838, .aload_n 0, 0, 0, 0, 0, 0, 0), (839, .iload_n 3, 3, 0, 0, 0, 0, 0), (840, .iconst 4, 0, 0, 0, 0, 4, 0), (841, .iadd, 0, 0, 0, 0, 0, 0), (842, .iaload, 0, 9, 0, 0, 0, 0), (843, .invokevirtual 92, 66, 5, 1, 5, 0, 0), (846, .aload_n 2, 2, 0, 0, 0, 0, 0), (847, .aload_n 0, 0, 0, 0, 0, 0, 0), (848, .iload_n 3, 3, 0, 0, 0, 0, 0), (849, .iconst 1, 0, 0, 0, 0, 1, 0), (850, .iadd, 0, 0, 0, 0, 0, 0), (851, .iaload, 0, 9, 0, 0, 0, 0), (852, .aload_n 0, 0, 0, 0, 0, 0, 0), (853, .iload_n 3, 3, 0, 0, 0, 0, 0), (854, .iconst 2, 0, 0, 0, 0, 2, 0), (855, .iadd, 0, 0, 0, 0, 0, 0), (856, .iaload, 0, 9, 0, 0, 0, 0), (857, .aload_n 0, 0, 0, 0, 0, 0, 0), (858, .iload_n 3, 3, 0, 0, 0, 0, 0), (859, .iconst 3, 0, 0, 0, 0, 3, 0), (860, .iadd, 0, 0, 0, 0, 0, 0), (861, .iaload, 0, 9, 0, 0, 0, 0), (862, .aload_n 0, 0, 0, 0, 0, 0, 0), (863, .iload_n 3, 3, 0, 0, 0, 0, 0), (864, .iconst 4, 0, 0, 0, 0, 4, 0), (865, .iadd, 0, 0, 0, 0, 0, 0), (866, .iaload, 0, 9, 0, 0, 0, 0), (867, .invokevirtual 95, 164, 5, 1, 6, 0, 0), (870, .if_icmp .eq 369, 907, 0, 0, 0, 0, 0), (873, .iconst 0, 0, 0, 0, 0, 0, 0), (874, .ireturn, 0, 0, 1, 0, 0, 0), (875, .aload_n 1, 1, 0, 0, 0, 0, 0), (876, .aload_n 0, 0, 0, 0, 0, 0, 0), (877, .iload_n 3, 3, 0, 0, 0, 0, 0), (878, .iconst 1, 0, 0, 0, 0, 1, 0), (879, .iadd, 0, 0, 0, 0, 0, 0), (880, .iaload, 0, 9, 0, 0, 0, 0), (881, .invokevirtual 96, 67, 2, 1, 5, 0, 0), (884, .aload_n 2, 2, 0, 0, 0, 0, 0), (885, .aload_n 0, 0, 0, 0, 0, 0, 0), (886, .iload_n 3, 3, 0, 0, 0, 0, 0), (887, .iconst 1, 0, 0, 0, 0, 1, 0), (888, .iadd, 0, 0, 0, 0, 0, 0), (889, .iaload, 0, 9, 0, 0, 0, 0), (890, .invokevirtual 99, 170, 2, 1, 6, 0, 0), (893, .if_icmp .eq 346, 907, 0, 0, 0, 0, 0), (896, .iconst 0, 0, 0, 0, 0, 0, 0), (897, .ireturn, 0, 0, 1, 0, 0, 0), (898, .aload_n 1, 1, 0, 0, 0, 0, 0), (899, .aload_n 0, 0, 0, 0, 0, 0, 0), (900, .iload_n 3, 3, 0, 0, 0, 0, 0), (901, .iconst 1, 0, 0, 0, 0, 1, 0), (902, .iadd, 0, 0, 0, 0, 0, 0), (903, .iaload, 0, 9, 0, 0, 0, 0), (904, .invokevirtual 100, 68, 2, 1, 5, 0, 0), (907, .aload_n 2, 2, 0, 0, 0, 0, 0), (908, .aload_n 0, 0, 0, 0, 0, 0, 0), (909, .iload_n 3, 3, 0, 0, 0, 0, 0), (910, .iconst 1, 0, 0, 0, 0, 1, 0), (911, .iadd, 0, 0, 0, 0, 0, 0), (912, .iaload, 0, 9, 0, 0, 0, 0), (913, .invokevirtual 103, 171, 2, 1, 6, 0, 0), (916, .if_icmp .eq 323, 907, 0, 0, 0, 0, 0), (919, .iconst 0, 0, 0, 0, 0, 0, 0), (920, .ireturn, 0, 0, 1, 0, 0, 0), (921, .aload_n 1, 1, 0, 0, 0, 0, 0), (922, .aload_n 0, 0, 0, 0, 0, 0, 0), (923, .iload_n 3, 3, 0, 0, 0, 0, 0), (924, .iconst 1, 0, 0, 0, 0, 1, 0), (925, .iadd, 0, 0, 0, 0, 0, 0), (926, .iaload, 0, 9, 0, 0, 0, 0), (927, .aload_n 0, 0, 0, 0, 0, 0, 0), (928, .iload_n 3, 3, 0, 0, 0, 0, 0), (929, .iconst 2, 0, 0, 0, 0, 2, 0), (930, .iadd, 0, 0, 0, 0, 0, 0), (931, .iaload, 0, 9, 0, 0, 0, 0), (932, .invokevirtual 104, 69, 3, 1, 5, 0, 0), (935, .aload_n 2, 2, 0, 0, 0, 0, 0), (936, .aload_n 0, 0, 0, 0, 0, 0, 0), (937, .iload_n 3, 3, 0, 0, 0, 0, 0), (938, .iconst 1, 0, 0, 0, 0, 1, 0), (939, .iadd, 0, 0, 0, 0, 0, 0), (940, .iaload, 0, 9, 0, 0, 0, 0), (941, .aload_n 0, 0, 0, 0, 0, 0, 0), (942, .iload_n 3, 3, 0, 0, 0, 0, 0), (943, .iconst 2, 0, 0, 0, 0, 2, 0), (944, .iadd, 0, 0, 0, 0, 0, 0), (945, .iaload, 0, 9, 0, 0, 0, 0), (946, .invokevirtual 107, 167, 3, 1, 6, 0, 0), (949, .if_icmp .eq 290, 907, 0, 0, 0, 0, 0), (952, .iconst 0, 0, 0, 0, 0, 0, 0), (953, .ireturn, 0, 0, 1, 0, 0, 0), (954, .aload_n 1, 1, 0, 0, 0, 0, 0), (955, .aload_n 0, 0, 0, 0, 0, 0, 0), (956, .iload_n 3, 3, 0, 0, 0, 0, 0), (957, .iconst 1, 0, 0, 0, 0, 1, 0), (958, .iadd, 0, 0, 0, 0, 0, 0), (959, .iaload, 0, 9, 0, 0, 0, 0), (960, .aload_n 0, 0, 0, 0, 0, 0, 0), (961, .iload_n 3, 3, 0, 0, 0, 0, 0), (962, .iconst 2, 0, 0, 0, 0, 2, 0), (963, .iadd, 0, 0, 0, 0, 0, 0), (964, .iaload, 0, 9, 0, 0, 0, 0), (965, .aload_n 0, 0, 0, 0, 0, 0, 0), (966, .iload_n 3, 3, 0, 0, 0, 0, 0), (967, .iconst 3, 0, 0, 0, 0, 3, 0), (968, .iadd, 0, 0, 0, 0, 0, 0), (969, .iaload, 0, 9, 0, 0, 0, 0), (970, .invokevirtual 108, 70, 4, 1, 5, 0, 0), (973, .aload_n 2, 2, 0, 0, 0, 0, 0), (974, .aload_n 0, 0, 0, 0, 0, 0, 0), (975, .iload_n 3, 3, 0, 0, 0, 0, 0), (976, .iconst 1, 0, 0, 0, 0, 1, 0), (977, .iadd, 0, 0, 0, 0, 0, 0), (978, .iaload, 0, 9, 0, 0, 0, 0), (979, .aload_n 0, 0, 0, 0, 0, 0, 0), (980, .iload_n 3, 3, 0, 0, 0, 0, 0), (981, .iconst 2, 0, 0, 0, 0, 2, 0), (982, .iadd, 0, 0, 0, 0, 0, 0), (983, .iaload, 0, 9, 0, 0, 0, 0), (984, .aload_n 0, 0, 0, 0, 0, 0, 0), (985, .iload_n 3, 3, 0, 0, 0, 0, 0), (986, .iconst 3, 0, 0, 0, 0, 3, 0), (987, .iadd, 0, 0, 0, 0, 0, 0), (988, .iaload, 0, 9, 0, 0, 0, 0), (989, .invokevirtual 111, 174, 4, 1, 6, 0, 0), (992, .if_icmp .eq 247, 907, 0, 0, 0, 0, 0), (995, .iconst 0, 0, 0, 0, 0, 0, 0), (996, .ireturn, 0, 0, 1, 0, 0, 0), (997, .aload_n 1, 1, 0, 0, 0, 0, 0), (998, .aload_n 0, 0, 0, 0, 0, 0, 0), (999, .iload_n 3, 3, 0, 0, 0, 0, 0), (1000, .iconst 1, 0, 0, 0, 0, 1, 0), (1001, .iadd, 0, 0, 0, 0, 0, 0), (1002, .iaload, 0, 9, 0, 0, 0, 0), (1003, .invokevirtual 112, 71, 2, 1, 5, 0, 0), (1006, .aload_n 2, 2, 0, 0, 0, 0, 0), (1007, .aload_n 0, 0, 0, 0, 0, 0, 0), (1008, .iload_n 3, 3, 0, 0, 0, 0, 0), (1009, .iconst 1, 0, 0, 0, 0, 1, 0), (1010, .iadd, 0, 0, 0, 0, 0, 0), (1011, .iaload, 0, 9, 0, 0, 0, 0), (1012, .invokevirtual 115, 175, 2, 1, 6, 0, 0), (1015, .if_icmp .eq 224, 907, 0, 0, 0, 0, 0), (1018, .iconst 0, 0, 0, 0, 0, 0, 0), (1019, .ireturn, 0, 0, 1, 0, 0, 0), (1020, .aload_n 1, 1, 0, 0, 0, 0, 0), (1021, .aload_n 0, 0, 0, 0, 0, 0, 0), (1022, .iload_n 3, 3, 0, 0, 0, 0, 0), (1023, .iconst 1, 0, 0, 0, 0, 1, 0), (1024, .iadd, 0, 0, 0, 0, 0, 0), (1025, .iaload, 0, 9, 0, 0, 0, 0), (1026, .aload_n 0, 0, 0, 0, 0, 0, 0), (1027, .iload_n 3, 3, 0, 0, 0, 0, 0), (1028, .iconst 2, 0, 0, 0, 0, 2, 0), (1029, .iadd, 0, 0, 0, 0, 0, 0), (1030, .iaload, 0, 9, 0, 0, 0, 0), (1031, .invokevirtual 116, 72, 3, 1, 5, 0, 0), (1034, .aload_n 2, 2, 0, 0, 0, 0, 0), (1035, .aload_n 0, 0, 0, 0, 0, 0, 0), (1036, .iload_n 3, 3, 0, 0, 0, 0, 0), (1037, .iconst 1, 0, 0, 0, 0, 1, 0), (1038, .iadd, 0, 0, 0, 0, 0, 0), (1039, .iaload, 0, 9, 0, 0, 0, 0), (1040, .aload_n 0, 0, 0, 0, 0, 0, 0), (1041, .iload_n 3, 3, 0, 0, 0, 0, 0), (1042, .iconst 2, 0, 0, 0, 0, 2, 0), (1043, .iadd, 0, 0, 0, 0, 0, 0), (1044, .iaload, 0, 9, 0, 0, 0, 0), (1045, .invokevirtual 119, 181, 3, 1, 6, 0, 0), (1048, .if_icmp .eq 191, 907, 0, 0, 0, 0, 0), (1051, .iconst 0, 0, 0, 0, 0, 0, 0), (1052, .ireturn, 0, 0, 1, 0, 0, 0), (1053, .aload_n 1, 1, 0, 0, 0, 0, 0), (1054, .aload_n 0, 0, 0, 0, 0, 0, 0), (1055, .iload_n 3, 3, 0, 0, 0, 0, 0), (1056, .iconst 1, 0, 0, 0, 0, 1, 0), (1057, .iadd, 0, 0, 0, 0, 0, 0), (1058, .iaload, 0, 9, 0, 0, 0, 0), (1059, .aload_n 0, 0, 0, 0, 0, 0, 0), (1060, .iload_n 3, 3, 0, 0, 0, 0, 0), (1061, .iconst 2, 0, 0, 0, 0, 2, 0), (1062, .iadd, 0, 0, 0, 0, 0, 0), (1063, .iaload, 0, 9, 0, 0, 0, 0), (1064, .aload_n 0, 0, 0, 0, 0, 0, 0), (1065, .iload_n 3, 3, 0, 0, 0, 0, 0), (1066, .iconst 3, 0, 0, 0, 0, 3, 0), (1067, .iadd, 0, 0, 0, 0, 0, 0), (1068, .iaload, 0, 9, 0, 0, 0, 0), (1069, .invokevirtual 120, 73, 4, 1, 5, 0, 0), (1072, .aload_n 2, 2, 0, 0, 0, 0, 0), (1073, .aload_n 0, 0, 0, 0, 0, 0, 0), (1074, .iload_n 3, 3, 0, 0, 0, 0, 0), (1075, .iconst 1, 0, 0, 0, 0, 1, 0), (1076, .iadd, 0, 0, 0, 0, 0, 0), (1077, .iaload, 0, 9, 0, 0, 0, 0), (1078, .aload_n 0, 0, 0, 0, 0, 0, 0), (1079, .iload_n 3, 3, 0, 0, 0, 0, 0), (1080, .iconst 2, 0, 0, 0, 0, 2, 0), (1081, .iadd, 0, 0, 0, 0, 0, 0), (1082, .iaload, 0, 9, 0, 0, 0, 0), (1083, .aload_n 0, 0, 0, 0, 0, 0, 0), (1084, .iload_n 3, 3, 0, 0, 0, 0, 0), (1085, .iconst 3, 0, 0, 0, 0, 3, 0), (1086, .iadd, 0, 0, 0, 0, 0, 0), (1087, .iaload, 0, 9, 0, 0, 0, 0), (1088, .invokevirtual 123, 182, 4, 1, 6, 0, 0), (1091, .if_icmp .eq 148, 907, 0, 0, 0, 0, 0), (1094, .iconst 0, 0, 0, 0, 0, 0, 0), (1095, .ireturn, 0, 0, 1, 0, 0, 0), (1096, .aload_n 1, 1, 0, 0, 0, 0, 0), (1097, .aload_n 0, 0, 0, 0, 0, 0, 0), (1098, .iload_n 3, 3, 0, 0, 0, 0, 0), (1099, .iconst 1, 0, 0, 0, 0, 1, 0), (1100, .iadd, 0, 0, 0, 0, 0, 0), (1101, .iaload, 0, 9, 0, 0, 0, 0), (1102, .aload_n 0, 0, 0, 0, 0, 0, 0), (1103, .iload_n 3, 3, 0, 0, 0, 0, 0), (1104, .iconst 2, 0, 0, 0, 0, 2, 0), (1105, .iadd, 0, 0, 0, 0, 0, 0), (1106, .iaload, 0, 9, 0, 0, 0, 0), (1107, .aload_n 0, 0, 0, 0, 0, 0, 0), (1108, .iload_n 3, 3, 0, 0, 0, 0, 0), (1109, .iconst 3, 0, 0, 0, 0, 3, 0), (1110, .iadd, 0, 0, 0, 0, 0, 0), (1111, .iaload, 0, 9, 0, 0, 0, 0), (1112, .aload_n 0, 0, 0, 0, 0, 0, 0), (1113, .iload_n 3, 3, 0, 0, 0, 0, 0), (1114, .iconst 4, 0, 0, 0, 0, 4, 0), (1115, .iadd, 0, 0, 0, 0, 0, 0), (1116, .iaload, 0, 9, 0, 0, 0, 0), (1117, .invokevirtual 124, 74, 5, 1, 5, 0, 0), (1120, .aload_n 2, 2, 0, 0, 0, 0, 0), (1121, .aload_n 0, 0, 0, 0, 0, 0, 0), (1122, .iload_n 3, 3, 0, 0, 0, 0, 0), (1123, .iconst 1, 0, 0, 0, 0, 1, 0), (1124, .iadd, 0, 0, 0, 0, 0, 0), (1125, .iaload, 0, 9, 0, 0, 0, 0), (1126, .aload_n 0, 0, 0, 0, 0, 0, 0), (1127, .iload_n 3, 3, 0, 0, 0, 0, 0), (1128, .iconst 2, 0, 0, 0, 0, 2, 0), (1129, .iadd, 0, 0, 0, 0, 0, 0), (1130, .iaload, 0, 9, 0, 0, 0, 0), (1131, .aload_n 0, 0, 0, 0, 0, 0, 0), (1132, .iload_n 3, 3, 0, 0, 0, 0, 0), (1133, .iconst 3, 0, 0, 0, 0, 3, 0), (1134, .iadd, 0, 0, 0, 0, 0, 0), (1135, .iaload, 0, 9, 0, 0, 0, 0), (1136, .aload_n 0, 0, 0, 0, 0, 0, 0), (1137, .iload_n 3, 3, 0, 0, 0, 0, 0), (1138, .iconst 4, 0, 0, 0, 0, 4, 0), (1139, .iadd, 0, 0, 0, 0, 0, 0), (1140, .iaload, 0, 9, 0, 0, 0, 0), (1141, .invokevirtual 127, 184, 5, 1, 6, 0, 0), (1144, .if_icmp .eq 95, 907, 0, 0, 0, 0, 0), (1147, .iconst 0, 0, 0, 0, 0, 0, 0), (1148, .ireturn, 0, 0, 1, 0, 0, 0), (1149, .aload_n 1, 1, 0, 0, 0, 0, 0), (1150, .aload_n 0, 0, 0, 0, 0, 0, 0), (1151, .iload_n 3, 3, 0, 0, 0, 0, 0), (1152, .iconst 1, 0, 0, 0, 0, 1, 0), (1153, .iadd, 0, 0, 0, 0, 0, 0), (1154, .iaload, 0, 9, 0, 0, 0, 0), (1155, .aload_n 0, 0, 0, 0, 0, 0, 0), (1156, .iload_n 3, 3, 0, 0, 0, 0, 0), (1157, .iconst 2, 0, 0, 0, 0, 2, 0), (1158, .iadd, 0, 0, 0, 0, 0, 0), (1159, .iaload, 0, 9, 0, 0, 0, 0), (1160, .aload_n 0, 0, 0, 0, 0, 0, 0), (1161, .iload_n 3, 3, 0, 0, 0, 0, 0), (1162, .iconst 3, 0, 0, 0, 0, 3, 0), (1163, .iadd, 0, 0, 0, 0, 0, 0), (1164, .iaload, 0, 9, 0, 0, 0, 0), (1165, .aload_n 0, 0, 0, 0, 0, 0, 0), (1166, .iload_n 3, 3, 0, 0, 0, 0, 0), (1167, .iconst 4, 0, 0, 0, 0, 4, 0), (1168, .iadd, 0, 0, 0, 0, 0, 0), (1169, .iaload, 0, 9, 0, 0, 0, 0), (1170, .invokevirtual 128, 75, 5, 1, 5, 0, 0), (1173, .aload_n 2, 2, 0, 0, 0, 0, 0), (1174, .aload_n 0, 0, 0, 0, 0, 0, 0), (1175, .iload_n 3, 3, 0, 0, 0, 0, 0), (1176, .iconst 1, 0, 0, 0, 0, 1, 0), (1177, .iadd, 0, 0, 0, 0, 0, 0), (1178, .iaload, 0, 9, 0, 0, 0, 0), (1179, .aload_n 0, 0, 0, 0, 0, 0, 0), (1180, .iload_n 3, 3, 0, 0, 0, 0, 0), (1181, .iconst 2, 0, 0, 0, 0, 2, 0), (1182, .iadd, 0, 0, 0, 0, 0, 0), (1183, .iaload, 0, 9, 0, 0, 0, 0), (1184, .aload_n 0, 0, 0, 0, 0, 0, 0), (1185, .iload_n 3, 3, 0, 0, 0, 0, 0), (1186, .iconst 3, 0, 0, 0, 0, 3, 0), (1187, .iadd, 0, 0, 0, 0, 0, 0), (1188, .iaload, 0, 9, 0, 0, 0, 0), (1189, .aload_n 0, 0, 0, 0, 0, 0, 0), (1190, .iload_n 3, 3, 0, 0, 0, 0, 0), (1191, .iconst 4, 0, 0, 0, 0, 4, 0), (1192, .iadd, 0, 0, 0, 0, 0, 0), (1193, .iaload, 0, 9, 0, 0, 0, 0), (1194, .invokevirtual 131, 185, 5, 1, 6, 0, 0), (1197, .if_icmp .eq 42, 907, 0, 0, 0, 0, 0), (1200, .iconst 0, 0, 0, 0, 0, 0, 0), (1201, .ireturn, 0, 0, 1, 0, 0, 0), (1202, .aload_n 1, 1, 0, 0, 0, 0, 0), (1203, .aload_n 0, 0, 0, 0, 0, 0, 0), (1204, .iload_n 3, 3, 0, 0, 0, 0, 0), (1205, .iconst 1, 0, 0, 0, 0, 1, 0), (1206, .iadd, 0, 0, 0, 0, 0, 0), (1207, .iaload, 0, 9, 0, 0, 0, 0), (1208, .invokevirtual 132, 76, 2, 1, 5, 0, 0), (1211, .aload_n 2, 2, 0, 0, 0, 0, 0), (1212, .aload_n 0, 0, 0, 0, 0, 0, 0), (1213, .iload_n 3, 3, 0, 0, 0, 0, 0), (1214, .iconst 1, 0, 0, 0, 0, 1, 0), (1215, .iadd, 0, 0, 0, 0, 0, 0), (1216, .iaload, 0, 9, 0, 0, 0, 0), (1217, .invokevirtual 135, 186, 2, 1, 6, 0, 0), (1220, .if_icmp .eq 19, 907, 0, 0, 0, 0, 0), (1223, .iconst 0, 0, 0, 0, 0, 0, 0), (1224, .ireturn, 0, 0, 1, 0, 0, 0), (1225, .aload_n 1, 1, 0, 0, 0, 0, 0), (1226, .invokevirtual 136, 77, 1, 2, 5, 0, 0), (1229, .aload_n 2, 2, 0, 0, 0, 0, 0), (1230, .invokevirtual 140, 187, 1, 2, 6, 0, 0), (1233, .lcmp, 0, 0, 0, 0, 0, 0), (1234, .ifCond .eq 5, 907, 0, 0, 0, 0, 0), (1237, .iconst 0, 0, 0, 0, 0, 0, 0), (1238, .ireturn, 0, 0, 1, 0, 0, 0), (1239, .iinc 3 5, 3, 0, 0, 0, 5, 0), (1242, .goto (-1224), 10, 0, 0, 0, 0, 0), (1245, .iconst 1, 0, 0, 0, 0, 1, 0), (1246, .ireturn, 0, 0, 1, 0, 0, 0)]
def az_p1 : List az_I := [(0, .aload_n 0, 0, 0, 0, 0, 0, 0), (1, .invokespecial 3, 0, 1, 9, 0, 0, 0), (4, .aload_n 0, 0, 0, 0, 0, 0, 0), (5, .iload_n 1, 1, 0, 0, 0, 0, 0), (6, .putfield 9, 0, 0, 0, 0, 0, 0), (9, .aload_n 0, 0, 0, 0, 0, 0, 0), (10, .iload_n 2, 2, 0, 0, 0, 0, 0), (11, .putfield 15, 0, 1, 0, 0, 0, 0), (14, .aload_n 0, 0, 0, 0, 0, 0, 0), (15, .aload_n 3, 3, 0, 0, 0, 0, 0), (16, .putfield 18, 0, 2, 1, 0, 0, 0), (19, .aload_n 0, 0, 0, 0, 0, 0, 0), (20, .aload 4, 4, 0, 0, 0, 0, 0), (22, .putfield 22, 0, 3, 1, 0, 0, 0), (25, .aload_n 0, 0, 0, 0, 0, 0, 0), (26, .bipush 24, 0, 0, 0, 0, 24, 0), (28, .newarray .int, 0, 0, 0, 0, 0, 0), (30, .putfield 25, 0, 4, 1, 0, 0, 0), (33, .return_, 0, 0, 0, 0, 0, 0)]
def az_p2 : List az_I := [(0, .aload_n 0, 0, 0, 0, 0, 0, 0), (1, .getfield 25, 0, 4, 1, 0, 0, 0), (4, .iload_n 1, 1, 0, 0, 0, 0, 0), (5, .invokestatic 29, 78, 2, 1, 0, 0, 0), (8, .ireturn, 0, 0, 0, 0, 0, 0)]
def az_p3 : List az_I := [(0, .aload_n 0, 0, 0, 0, 0, 0, 0), (1, .invokespecial 3, 0, 1, 9, 0, 0, 0), (4, .aload_n 0, 0, 0, 0, 0, 0, 0), (5, .sipush 384, 0, 0, 0, 0, 384, 0), (8, .newarray .int, 0, 0, 0, 0, 0, 0), (10, .putfield 9, 1, 1, 1, 0, 0, 0), (13, .aload_n 0, 0, 0, 0, 0, 0, 0), (14, .sipush 2304, 0, 0, 0, 0, 2304, 0), (17, .newarray .int, 0, 0, 0, 0, 0, 0), (19, .putfield 15, 1, 2, 1, 0, 0, 0), (22, .return_, 0, 0, 0, 0, 0, 0)]
def az_p4 : List az_I := [(0, .aload_n 0, 0, 0, 0, 0, 0, 0), (1, .getfield 18, 1, 0, 0, 0, 0, 0), (4, .sipush 384, 0, 0, 0, 0, 384, 0), (7, .if_icmp .lt 4, 5, 0, 0, 0, 0, 0), (10, .return_, 0, 0, 0, 0, 0, 0), (11, .aload_n 0, 0, 0, 0, 0, 0, 0), (12, .getfield 9, 1, 1, 1, 0, 0, 0), (15, .aload_n 0, 0, 0, 0, 0, 0, 0), (16, .getfield 18, 1, 0, 0, 0, 0, 0), (19, .iload_n 1, 1, 0, 0, 0, 0, 0), (20, .invokestatic 22, 79, 3, 0, 0, 0, 0), (23, .iconst 0, 0, 0, 0, 0, 0, 0), (24, .istore 4, 4, 0, 0, 0, 0, 0), (26, .iload 4, 4, 0, 0, 0, 0, 0), (28, .iload_n 3, 3, 0, 0, 0, 0, 0), (29, .if_icmp .ge 32, 30, 0, 0, 0, 0, 0), (32, .aload_n 0, 0, 0, 0, 0, 0, 0), (33, .getfield 15, 1, 2, 1, 0, 0, 0), (36, .aload_n 0, 0, 0, 0, 0, 0, 0), (37, .getfield 18, 1, 0, 0, 0, 0, 0), (40, .bipush 6, 0, 0, 0, 0, 6, 0), (42, .imul, 0, 0, 0, 0, 0, 0), (43, .iload 4, 4, 0, 0, 0, 0, 0), (45, .iadd, 0, 0, 0, 0, 0, 0), (46, .aload_n 2, 2, 0, 0, 0, 0, 0), (47, .iload 4, 4, 0, 0, 0, 0, 0), (49, .invokestatic 26, 78, 2, 1, 0, 0, 0), (52, .invokestatic 22, 79, 3, 0, 0, 0, 0), (55, .iinc 4 1, 4, 0, 0, 0, 1, 0), (58, .goto (-32), 13, 0, 0, 0, 0, 0), (61, .aload_n 0, 0, 0, 0, 0, 0, 0), (62, .dup, 0, 0, 0, 0, 0, 0), (63, .getfield 18, 1, 0, 0, 0, 0, 0), (66, .iconst 1, 0, 0, 0, 0, 1, 0), (67, .iadd, 0, 0, 0, 0, 0, 0), (68, .putfield 18, 1, 0, 0, 0, 0, 0), (71, .return_, 0, 0, 0, 0, 0, 0)]
def az_p5 : List az_I := [(0, .aload_n 0, 0, 0, 0, 0, 0, 0), (1, .getfield 9, 1, 1, 1, 0, 0, 0), (4, .iload_n 1, 1, 0, 0, 0, 0, 0), (5, .invokestatic 26, 78, 2, 1, 0, 0, 0), (8, .ireturn, 0, 0, 0, 0, 0, 0)]
def az_p6 : List az_I := [(0, .aload_n 0, 0, 0, 0, 0, 0, 0), (1, .getfield 15, 1, 2, 1, 0, 0, 0), (4, .iload_n 1, 1, 0, 0, 0, 0, 0), (5, .bipush 6, 0, 0, 0, 0, 6, 0), (7, .imul, 0, 0, 0, 0, 0, 0), (8, .iload_n 2, 2, 0, 0, 0, 0, 0), (9, .iadd, 0, 0, 0, 0, 0, 0), (10, .invokestatic 26, 78, 2, 1, 0, 0, 0), (13, .ireturn, 0, 0, 0, 0, 0, 0)]
def az_p7 : List az_I := [(0, .iconst 0, 0, 0, 0, 0, 0, 0), (1, .istore_n 3, 3, 0, 0, 0, 0, 0), (2, .iload_n 3, 3, 0, 0, 0, 0, 0), (3, .aload_n 0, 0, 0, 0, 0, 0, 0), (4, .getfield 18, 1, 0, 0, 0, 0, 0), (7, .if_icmp .ge 21, 16, 0, 0, 0, 0, 0), (10, .aload_n 0, 0, 0, 0, 0, 0, 0), (11, .aload_n 1, 1, 0, 0, 0, 0, 0), (12, .iload_n 2, 2, 0, 0, 0, 0, 0), (13, .iload_n 3, 3, 0, 0, 0, 0, 0), (14, .invokevirtual 30, 8, 4, 1, 1, 0, 0), (17, .ifCond .eq 5, 14, 0, 0, 0, 0, 0), (20, .iload_n 3, 3, 0, 0, 0, 0, 0), (21, .ireturn, 0, 0, 0, 0, 0, 0), (22, .iinc 3 1, 3, 0, 0, 0, 1, 0), (25, .goto (-23), 2, 0, 0, 0, 0, 0), (28, .iconst (-1), 0, 0, 0, 0, (-1), 0), (29, .ireturn, 0, 0, 0, 0, 0, 0)]
def az_p8 : List az_I := [(0, .iconst 0, 0, 0, 0, 0, 0, 0), (1, .istore 4, 4, 0, 0, 0, 0, 0), (3, .iload 4, 4, 0, 0, 0, 0, 0), (5, .aload_n 0, 0, 0, 0, 0, 0, 0), (6, .getfield 18, 1, 0, 0, 0, 0, 0), (9, .if_icmp .ge 24, 18, 0, 0, 0, 0, 0), (12, .aload_n 0, 0, 0, 0, 0, 0, 0), (13, .aload_n 1, 1, 0, 0, 0, 0, 0), (14, .iload_n 2, 2, 0, 0, 0, 0, 0), (15, .iload 4, 4, 0, 0, 0, 0, 0), (17, .iload_n 3, 3, 0, 0, 0, 0, 0), (18, .invokevirtual 34, 9, 5, 1, 1, 0, 0), (21, .iconst 1, 0, 0, 0, 0, 1, 0), (22, .if_icmp .eq 5, 16, 0, 0, 0, 0, 0), (25, .iconst 0, 0, 0, 0, 0, 0, 0), (26, .ireturn, 0, 0, 1, 0, 0, 0), (27, .iinc 4 1, 4, 0, 0, 0, 1, 0), (30, .goto (-27), 2, 0, 0, 0, 0, 0), (33, .iconst 1, 0, 0, 0, 0, 1, 0), (34, .ireturn, 0, 0, 1, 0, 0, 0)]
def az_p9 : List az_I := [(0, .iconst 0, 0, 0, 0, 0, 0, 0), (1, .istore 5, 5, 0, 0, 0, 0, 0), (3, .iconst 0, 0, 0, 0, 0, 0, 0), (4, .istore 6, 6, 0, 0, 0, 0, 0), (6, .iload 6, 6, 0, 0, 0, 0, 0), (8, .aload_n 1, 1, 0, 0, 0, 0, 0), (9, .getfield 38, 4, 1, 0, 0, 0, 0), (12, .if_icmp .ge 46, 29, 0, 0, 0, 0, 0), (15, .aload_n 1, 1, 0, 0, 0, 0, 0), (16, .iload 6, 6, 0, 0, 0, 0, 0), (18, .aload_n 0, 0, 0, 0, 0, 0, 0), (19, .iload_n 3, 3, 0, 0, 0, 0, 0), (20, .invokevirtual 43, 5, 2, 1, 1, 0, 0), (23, .aload_n 0, 0, 0, 0, 0, 0, 0), (24, .iload 4, 4, 0, 0, 0, 0, 0), (26, .invokevirtual 43, 5, 2, 1, 1, 0, 0), (29, .invokevirtual 47, 32, 4, 1, 4, 0, 0), (32, .ifCond .eq 20, 27, 0, 0, 0, 0, 0), (35, .aload_n 0, 0, 0, 0, 0, 0, 0), (36, .aload_n 1, 1, 0, 0, 0, 0, 0), (37, .iload_n 2, 2, 0, 0, 0, 0, 0), (38, .iload 6, 6, 0, 0, 0, 0, 0), (40, .iload_n 3, 3, 0, 0, 0, 0, 0), (41, .iload 4, 4, 0, 0, 0, 0, 0), (43, .invokevirtual 51, 10, 6, 1, 1, 0, 0), (46, .ifCond .eq 6, 27, 0, 0, 0, 0, 0), (49, .iinc 5 1, 5, 0, 0, 0, 1, 0), (52, .iinc 6 1, 6, 0, 0, 0, 1, 0), (55, .goto (-49), 4, 0, 0, 0, 0, 0), (58, .iload 5, 5, 0, 0, 0, 0, 0), (60, .ireturn, 0, 0, 0, 0, 0, 0)]
def az_p10 : List az_I := [(0, .iconst 0, 0, 0, 0, 0, 0, 0), (1, .istore 6, 6, 0, 0, 0, 0, 0), (3, .iload 6, 6, 0, 0, 0, 0, 0), (5, .iload_n 2, 2, 0, 0, 0, 0, 0), (6, .if_icmp .ge 35, 21, 0, 0, 0, 0, 0), (9, .aload_n 1, 1, 0, 0, 0, 0, 0), (10, .iload_n 3, 3, 0, 0, 0, 0, 0), (11, .aload_n 0, 0, 0, 0, 0, 0, 0), (12, .iload 5, 5, 0, 0, 0, 0, 0), (14, .iload 6, 6, 0, 0, 0, 0, 0), (16, .invokevirtual 55, 6, 3, 1, 1, 0, 0), (19, .invokevirtual 59, 25, 3, 1, 4, 0, 0), (22, .aload_n 0, 0, 0, 0, 0, 0, 0), (23, .iload 4, 4, 0, 0, 0, 0, 0), (25, .iload 6, 6, 0, 0, 0, 0, 0), (27, .invokevirtual 55, 6, 3, 1, 1, 0, 0), (30, .if_icmp .eq 5, 19, 0, 0, 0, 0, 0), (33, .iconst 0, 0, 0, 0, 0, 0, 0), (34, .ireturn, 0, 0, 1, 0, 0, 0), (35, .iinc 6 1, 6, 0, 0, 0, 1, 0), (38, .goto (-35), 2, 0, 0, 0, 0, 0), (41, .iconst 1, 0, 0, 0, 0, 1, 0), (42, .ireturn, 0, 0, 1, 0, 0, 0)]
def az_p11 : List az_I := [(0, .aload_n 0, 0, 0, 0, 0, 0, 0), (1, .invokespecial 3, 0, 1, 9, 0, 0, 0), (4, .aload_n 0, 0, 0, 0, 0, 0, 0), (5, .bipush 6, 0, 0, 0, 0, 6, 0), (7, .newarray .int, 0, 0, 0, 0, 0, 0), (9, .putfield 9, 2, 0, 1, 0, 0, 0), (12, .aload_n 0, 0, 0, 0, 0, 0, 0), (13, .bipush 6, 0, 0, 0, 0, 6, 0), (15, .newarray .int, 0, 0, 0, 0, 0, 0), (17, .putfield 15, 2, 1, 1, 0, 0, 0), (20, .aload_n 0, 0, 0, 0, 0, 0, 0), (21, .sipush 144, 0, 0, 0, 0, 144, 0), (24, .newarray .int, 0, 0, 0, 0, 0, 0), (26, .putfield 18, 2, 2, 1, 0, 0, 0), (29, .aload_n 0, 0, 0, 0, 0, 0, 0), (30, .bipush 6, 0, 0, 0, 0, 6, 0), (32, .newarray .int, 0, 0, 0, 0, 0, 0), (34, .putfield 21, 2, 3, 1, 0, 0, 0), (37, .aload_n 0, 0, 0, 0, 0, 0, 0), (38, .bipush 6, 0, 0, 0, 0, 6, 0), (40, .newarray .int, 0, 0, 0, 0, 0, 0), (42, .putfield 24, 2, 4, 1, 0, 0, 0), (45, .return_, 0, 0, 0, 0, 0, 0)]
def az_p12 : List az_I := [(0, .iconst 1, 0, 0, 0, 0, 1, 0), (1, .istore 5, 5, 0, 0, 0, 0, 0), (3, .iconst 0, 0, 0, 0, 0, 0, 0), (4, .istore 6, 6, 0, 0, 0, 0, 0), (6, .iload 6, 6, 0, 0, 0, 0, 0), (8, .aload_n 1, 1, 0, 0, 0, 0, 0), (9, .getfield 27, 4, 0, 0, 0, 0, 0), (12, .if_icmp .ge 100, 54, 0, 0, 0, 0, 0), (15, .iconst 0, 0, 0, 0, 0, 0, 0), (16, .istore 7, 7, 0, 0, 0, 0, 0), (18, .iconst 0, 0, 0, 0, 0, 0, 0), (19, .istore 8, 8, 0, 0, 0, 0, 0), (21, .iload 8, 8, 0, 0, 0, 0, 0), (23, .aload_n 2, 2, 0, 0, 0, 0, 0), (24, .getfield 33, 4, 1, 0, 0, 0, 0), (27, .if_icmp .ge 51, 38, 0, 0, 0, 0, 0), (30, .aload_n 2, 2, 0, 0, 0, 0, 0), (31, .iload 8, 8, 0, 0, 0, 0, 0), (33, .aload_n 3, 3, 0, 0, 0, 0, 0), (34, .iload 6, 6, 0, 0, 0, 0, 0), (36, .invokestatic 36, 78, 2, 1, 0, 0, 0), (39, .aload 4, 4, 0, 0, 0, 0, 0), (41, .iload 6, 6, 0, 0, 0, 0, 0), (43, .invokestatic 36, 78, 2, 1, 0, 0, 0), (46, .invokevirtual 40, 32, 4, 1, 4, 0, 0), (49, .ifCond .eq 23, 36, 0, 0, 0, 0, 0), (52, .aload_n 0, 0, 0, 0, 0, 0, 0), (53, .getfield 18, 2, 2, 1, 0, 0, 0), (56, .iload 6, 6, 0, 0, 0, 0, 0), (58, .bipush 24, 0, 0, 0, 0, 24, 0), (60, .imul, 0, 0, 0, 0, 0, 0), (61, .iload 7, 7, 0, 0, 0, 0, 0), (63, .iadd, 0, 0, 0, 0, 0, 0), (64, .iload 8, 8, 0, 0, 0, 0, 0), (66, .invokestatic 44, 79, 3, 0, 0, 0, 0), (69, .iinc 7 1, 7, 0, 0, 0, 1, 0), (72, .iinc 8 1, 8, 0, 0, 0, 1, 0), (75, .goto (-54), 12, 0, 0, 0, 0, 0), (78, .aload_n 0, 0, 0, 0, 0, 0, 0), (79, .getfield 21, 2, 3, 1, 0, 0, 0), (82, .iload 6, 6, 0, 0, 0, 0, 0), (84, .iload 7, 7, 0, 0, 0, 0, 0), (86, .invokestatic 44, 79, 3, 0, 0, 0, 0), (89, .aload_n 0, 0, 0, 0, 0, 0, 0), (90, .getfield 24, 2, 4, 1, 0, 0, 0), (93, .iload 6, 6, 0, 0, 0, 0, 0), (95, .iconst 0, 0, 0, 0, 0, 0, 0), (96, .invokestatic 44, 79, 3, 0, 0, 0, 0), (99, .iload 5, 5, 0, 0, 0, 0, 0), (101, .iload 7, 7, 0, 0, 0, 0, 0), (103, .imul, 0, 0, 0, 0, 0, 0), (104, .istore 5, 5, 0, 0, 0, 0, 0), (106, .iinc 6 1, 6, 0, 0, 0, 1, 0), (109, .goto (-103), 4, 0, 0, 0, 0, 0), (112, .iload 5, 5, 0, 0, 0, 0, 0), (114, .ireturn, 0, 0, 0, 0, 0, 0)]
def az_p13 : List az_I := [(0, .aload_n 0, 0, 0, 0, 0, 0, 0), (1, .aload_n 1, 1, 0, 0, 0, 0, 0), (2, .aload_n 2, 2, 0, 0, 0, 0, 0), (3, .aload_n 3, 3, 0, 0, 0, 0, 0), (4, .aload 4, 4, 0, 0, 0, 0, 0), (6, .invokevirtual 48, 12, 5, 1, 2, 0, 0), (9, .istore 6, 6, 0, 0, 0, 0, 0), (11, .iconst 0, 0, 0, 0, 0, 0, 0), (12, .istore 7, 7, 0, 0, 0, 0, 0), (14, .iconst 0, 0, 0, 0, 0, 0, 0), (15, .istore 8, 8, 0, 0, 0, 0, 0), (17, .iload 8, 8, 0, 0, 0, 0, 0), (19, .iload 6, 6, 0, 0, 0, 0, 0), (21, .if_icmp .ge 62, 42, 0, 0, 0, 0, 0), (24, .aload_n 0, 0, 0, 0, 0, 0, 0), (25, .aload_n 1, 1, 0, 0, 0, 0, 0), (26, .getfield 27, 4, 0, 0, 0, 0, 0), (29, .invokevirtual 52, 14, 2, 0, 2, 0, 0), (32, .aload_n 0, 0, 0, 0, 0, 0, 0), (33, .aload_n 1, 1, 0, 0, 0, 0, 0), (34, .aload_n 2, 2, 0, 0, 0, 0, 0), (35, .aload_n 3, 3, 0, 0, 0, 0, 0), (36, .aload 4, 4, 0, 0, 0, 0, 0), (38, .invokevirtual 56, 15, 5, 1, 2, 0, 0), (41, .ifCond .eq 28, 36, 0, 0, 0, 0, 0), (44, .iload 7, 7, 0, 0, 0, 0, 0), (46, .iload 5, 5, 0, 0, 0, 0, 0), (48, .if_icmp .ne 18, 35, 0, 0, 0, 0, 0), (51, .aload_n 0, 0, 0, 0, 0, 0, 0), (52, .getfield 9, 2, 0, 1, 0, 0, 0), (55, .aload_n 0, 0, 0, 0, 0, 0, 0), (56, .getfield 15, 2, 1, 1, 0, 0, 0), (59, .aload_n 1, 1, 0, 0, 0, 0, 0), (60, .getfield 27, 4, 0, 0, 0, 0, 0), (63, .invokestatic 60, 80, 3, 0, 0, 0, 0), (66, .iinc 7 1, 7, 0, 0, 0, 1, 0), (69, .aload_n 0, 0, 0, 0, 0, 0, 0), (70, .aload_n 1, 1, 0, 0, 0, 0, 0), (71, .getfield 27, 4, 0, 0, 0, 0, 0), (74, .invokevirtual 64, 16, 2, 0, 2, 0, 0), (77, .iinc 8 1, 8, 0, 0, 0, 1, 0), (80, .goto (-63), 11, 0, 0, 0, 0, 0), (83, .iload 7, 7, 0, 0, 0, 0, 0), (85, .ireturn, 0, 0, 0, 0, 0, 0)]
def az_p14 : List az_I := [(0, .iconst 0, 0, 0, 0, 0, 0, 0), (1, .istore_n 2, 2, 0, 0, 0, 0, 0), (2, .iload_n 2, 2, 0, 0, 0, 0, 0), (3, .iload_n 1, 1, 0, 0, 0, 0, 0), (4, .if_icmp .ge 37, 22, 0, 0, 0, 0, 0), (7, .aload_n 0, 0, 0, 0, 0, 0, 0), (8, .getfield 9, 2, 0, 1, 0, 0, 0), (11, .iload_n 2, 2, 0, 0, 0, 0, 0), (12, .aload_n 0, 0, 0, 0, 0, 0, 0), (13, .getfield 18, 2, 2, 1, 0, 0, 0), (16, .iload_n 2, 2, 0, 0, 0, 0, 0), (17, .bipush 24, 0, 0, 0, 0, 24, 0), (19, .imul, 0, 0, 0, 0, 0, 0), (20, .aload_n 0, 0, 0, 0, 0, 0, 0), (21, .getfield 24, 2, 4, 1, 0, 0, 0), (24, .iload_n 2, 2, 0, 0, 0, 0, 0), (25, .invokestatic 36, 78, 2, 1, 0, 0, 0), (28, .iadd, 0, 0, 0, 0, 0, 0), (29, .invokestatic 36, 78, 2, 1, 0, 0, 0), (32, .invokestatic 44, 79, 3, 0, 0, 0, 0), (35, .iinc 2 1, 2, 0, 0, 0, 1, 0), (38, .goto (-36), 2, 0, 0, 0, 0, 0), (41, .return_, 0, 0, 0, 0, 0, 0)]
def az_p15 : List az_I := [(0, .iconst 0, 0, 0, 0, 0, 0, 0), (1, .istore 5, 5, 0, 0, 0, 0, 0), (3, .iload 5, 5, 0, 0, 0, 0, 0), (5, .aload_n 1, 1, 0, 0, 0, 0, 0), (6, .getfield 33, 4, 1, 0, 0, 0, 0), (9, .if_icmp .ge 69, 37, 0, 0, 0, 0, 0), (12, .aload_n 2, 2, 0, 0, 0, 0, 0), (13, .aload_n 3, 3, 0, 0, 0, 0, 0), (14, .iload 5, 5, 0, 0, 0, 0, 0), (16, .invokestatic 36, 78, 2, 1, 0, 0, 0), (19, .aload_n 0, 0, 0, 0, 0, 0, 0), (20, .getfield 9, 2, 0, 1, 0, 0, 0), (23, .aload_n 1, 1, 0, 0, 0, 0, 0), (24, .iload 5, 5, 0, 0, 0, 0, 0), (26, .invokevirtual 67, 27, 2, 1, 4, 0, 0), (29, .invokestatic 36, 78, 2, 1, 0, 0, 0), (32, .invokevirtual 71, 25, 3, 1, 4, 0, 0), (35, .istore 6, 6, 0, 0, 0, 0, 0), (37, .aload_n 2, 2, 0, 0, 0, 0, 0), (38, .aload_n 0, 0, 0, 0, 0, 0, 0), (39, .getfield 9, 2, 0, 1, 0, 0, 0), (42, .aload_n 1, 1, 0, 0, 0, 0, 0), (43, .iload 5, 5, 0, 0, 0, 0, 0), (45, .invokevirtual 75, 26, 2, 1, 4, 0, 0), (48, .invokestatic 36, 78, 2, 1, 0, 0, 0), (51, .aload 4, 4, 0, 0, 0, 0, 0), (53, .iload 5, 5, 0, 0, 0, 0, 0), (55, .invokestatic 36, 78, 2, 1, 0, 0, 0), (58, .invokevirtual 71, 25, 3, 1, 4, 0, 0), (61, .istore 7, 7, 0, 0, 0, 0, 0), (63, .iload 6, 6, 0, 0, 0, 0, 0), (65, .iload 7, 7, 0, 0, 0, 0, 0), (67, .if_icmp .eq 5, 35, 0, 0, 0, 0, 0), (70, .iconst 0, 0, 0, 0, 0, 0, 0), (71, .ireturn, 0, 0, 1, 0, 0, 0), (72, .iinc 5 1, 5, 0, 0, 0, 1, 0), (75, .goto (-72), 2, 0, 0, 0, 0, 0), (78, .iconst 1, 0, 0, 0, 0, 1, 0), (79, .ireturn, 0, 0, 1, 0, 0, 0)]
def az_p16 : List az_I := [(0, .iload_n 1, 1, 0, 0, 0, 0, 0), (1, .iconst 1, 0, 0, 0, 0, 1, 0), (2, .isub, 0, 0, 0, 0, 0, 0), (3, .istore_n 2, 2, 0, 0, 0, 0, 0), (4, .iload_n 2, 2, 0, 0, 0, 0, 0), (5, .ifCond .lt 51, 32, 0, 0, 0, 0, 0), (8, .aload_n 0, 0, 0, 0, 0, 0, 0), (9, .getfield 24, 2, 4, 1, 0, 0, 0), (12, .iload_n 2, 2, 0, 0, 0, 0, 0), (13, .invokestatic 36, 78, 2, 1, 0, 0, 0), (16, .iconst 1, 0, 0, 0, 0, 1, 0), (17, .iadd, 0, 0, 0, 0, 0, 0), (18, .istore_n 3, 3, 0, 0, 0, 0, 0), (19, .iload_n 3, 3, 0, 0, 0, 0, 0), (20, .aload_n 0, 0, 0, 0, 0, 0, 0), (21, .getfield 21, 2, 3, 1, 0, 0, 0), (24, .iload_n 2, 2, 0, 0, 0, 0, 0), (25, .invokestatic 36, 78, 2, 1, 0, 0, 0), (28, .if_icmp .ge 13, 25, 0, 0, 0, 0, 0), (31, .aload_n 0, 0, 0, 0, 0, 0, 0), (32, .getfield 24, 2, 4, 1, 0, 0, 0), (35, .iload_n 2, 2, 0, 0, 0, 0, 0), (36, .iload_n 3, 3, 0, 0, 0, 0, 0), (37, .invokestatic 44, 79, 3, 0, 0, 0, 0), (40, .return_, 0, 0, 0, 0, 0, 0), (41, .aload_n 0, 0, 0, 0, 0, 0, 0), (42, .getfield 24, 2, 4, 1, 0, 0, 0), (45, .iload_n 2, 2, 0, 0, 0, 0, 0), (46, .iconst 0, 0, 0, 0, 0, 0, 0), (47, .invokestatic 44, 79, 3, 0, 0, 0, 0), (50, .iinc 2 (-1), 2, 0, 0, 0, (-1), 0), (53, .goto (-49), 4, 0, 0, 0, 0, 0), (56, .return_, 0, 0, 0, 0, 0, 0)]
def az_p17 : List az_I := [(0, .aload_n 0, 0, 0, 0, 0, 0, 0), (1, .invokespecial 3, 0, 1, 9, 0, 0, 0), (4, .aload_n 0, 0, 0, 0, 0, 0, 0), (5, .bipush 24, 0, 0, 0, 0, 24, 0), (7, .newarray .int, 0, 0, 0, 0, 0, 0), (9, .putfield 9, 3, 0, 1, 0, 0, 0), (12, .aload_n 0, 0, 0, 0, 0, 0, 0), (13, .bipush 25, 0, 0, 0, 0, 25, 0), (15, .newarray .int, 0, 0, 0, 0, 0, 0), (17, .putfield 15, 3, 4, 1, 0, 0, 0), (20, .aload_n 0, 0, 0, 0, 0, 0, 0), (21, .sipush 576, 0, 0, 0, 0, 576, 0), (24, .newarray .int, 0, 0, 0, 0, 0, 0), (26, .putfield 18, 3, 5, 1, 0, 0, 0), (29, .aload_n 0, 0, 0, 0, 0, 0, 0), (30, .sipush 576, 0, 0, 0, 0, 576, 0), (33, .newarray .int, 0, 0, 0, 0, 0, 0), (35, .putfield 21, 3, 6, 1, 0, 0, 0), (38, .return_, 0, 0, 0, 0, 0, 0)]
def az_p18 : List az_I := [(0, .aload_n 0, 0, 0, 0, 0, 0, 0), (1, .aload_n 1, 1, 0, 0, 0, 0, 0), (2, .invokevirtual 24, 20, 2, 0, 3, 0, 0), (5, .aload_n 0, 0, 0, 0, 0, 0, 0), (6, .iconst 0, 0, 0, 0, 0, 0, 0), (7, .putfield 28, 3, 1, 0, 0, 0, 0), (10, .aload_n 0, 0, 0, 0, 0, 0, 0), (11, .iconst 0, 0, 0, 0, 0, 0, 0), (12, .putfield 32, 3, 2, 2, 0, 0, 0), (15, .aload_n 0, 0, 0, 0, 0, 0, 0), (16, .iconst 0, 0, 0, 0, 0, 0, 0), (17, .putfield 36, 3, 3, 0, 0, 0, 0), (20, .aload_n 0, 0, 0, 0, 0, 0, 0), (21, .getfield 9, 3, 0, 1, 0, 0, 0), (24, .iconst 0, 0, 0, 0, 0, 0, 0), (25, .iconst (-1), 0, 0, 0, 0, (-1), 0), (26, .invokestatic 39, 79, 3, 0, 0, 0, 0), (29, .return_, 0, 0, 0, 0, 0, 0)]
def az_p19 : List az_I := [(0, .iconst 0, 0, 0, 0, 0, 0, 0), (1, .istore_n 3, 3, 0, 0, 0, 0, 0), (2, .iload_n 3, 3, 0, 0, 0, 0, 0), (3, .ldc 43, 0, 0, 0, 0, 180000, 0), (5, .if_icmp .ge 156, 84, 0, 0, 0, 0, 0), (8, .aload_n 0, 0, 0, 0, 0, 0, 0), (9, .getfield 36, 3, 3, 0, 0, 0, 0), (12, .ifCond .lt 149, 84, 0, 0, 0, 0, 0), (15, .aload_n 0, 0, 0, 0, 0, 0, 0), (16, .getfield 9, 3, 0, 1, 0, 0, 0), (19, .aload_n 0, 0, 0, 0, 0, 0, 0), (20, .getfield 36, 3, 3, 0, 0, 0, 0), (23, .invokestatic 44, 78, 2, 1, 0, 0, 0), (26, .iconst 1, 0, 0, 0, 0, 1, 0), (27, .iadd, 0, 0, 0, 0, 0, 0), (28, .istore 4, 4, 0, 0, 0, 0, 0), (30, .iload 4, 4, 0, 0, 0, 0, 0), (32, .aload_n 1, 1, 0, 0, 0, 0, 0), (33, .aload_n 0, 0, 0, 0, 0, 0, 0), (34, .getfield 36, 3, 3, 0, 0, 0, 0), (37, .invokevirtual 48, 30, 2, 1, 4, 0, 0), (40, .ifCond .eq 10, 25, 0, 0, 0, 0, 0), (43, .aload_n 2, 2, 0, 0, 0, 0, 0), (44, .getfield 54, 4, 0, 0, 0, 0, 0), (47, .goto 7, 27, 0, 0, 0, 0, 0), (50, .aload_n 2, 2, 0, 0, 0, 0, 0), (51, .getfield 57, 4, 1, 0, 0, 0, 0), (54, .if_icmp .lt 16, 35, 0, 0, 0, 0, 0), (57, .aload_n 0, 0, 0, 0, 0, 0, 0), (58, .dup, 0, 0, 0, 0, 0, 0), (59, .getfield 36, 3, 3, 0, 0, 0, 0), (62, .iconst 1, 0, 0, 0, 0, 1, 0), (63, .isub, 0, 0, 0, 0, 0, 0), (64, .putfield 36, 3, 3, 0, 0, 0, 0), (67, .goto 88, 82, 0, 0, 0, 0, 0), (70, .aload_n 0, 0, 0, 0, 0, 0, 0), (71, .getfield 28, 3, 1, 0, 0, 0, 0), (74, .ldc 60, 0, 0, 0, 0, 60000, 0), (76, .if_icmp .lt 10, 44, 0, 0, 0, 0, 0), (79, .aload_n 0, 0, 0, 0, 0, 0, 0), (80, .iconst 1, 0, 0, 0, 0, 1, 0), (81, .putfield 32, 3, 2, 2, 0, 0, 0), (84, .iconst 0, 0, 0, 0, 0, 0, 0), (85, .ireturn, 0, 0, 1, 0, 0, 0), (86, .aload_n 0, 0, 0, 0, 0, 0, 0), (87, .dup, 0, 0, 0, 0, 0, 0), (88, .getfield 28, 3, 1, 0, 0, 0, 0), (91, .iconst 1, 0, 0, 0, 0, 1, 0), (92, .iadd, 0, 0, 0, 0, 0, 0), (93, .putfield 28, 3, 1, 0, 0, 0, 0), (96, .aload_n 0, 0, 0, 0, 0, 0, 0), (97, .getfield 9, 3, 0, 1, 0, 0, 0), (100, .aload_n 0, 0, 0, 0, 0, 0, 0), (101, .getfield 36, 3, 3, 0, 0, 0, 0), (104, .iload 4, 4, 0, 0, 0, 0, 0), (106, .invokestatic 39, 79, 3, 0, 0, 0, 0), (109, .aload_n 0, 0, 0, 0, 0, 0, 0), (110, .aload_n 1, 1, 0, 0, 0, 0, 0), (111, .aload_n 2, 2, 0, 0, 0, 0, 0), (112, .invokevirtual 61, 21, 3, 1, 3, 0, 0), (115, .ifCond .eq 40, 82, 0, 0, 0, 0, 0), (118, .aload_n 0, 0, 0, 0, 0, 0, 0), (119, .getfield 36, 3, 3, 0, 0, 0, 0), (122, .iconst 1, 0, 0, 0, 0, 1, 0), (123, .iadd, 0, 0, 0, 0, 0, 0), (124, .aload_n 1, 1, 0, 0, 0, 0, 0), (125, .getfield 57, 4, 1, 0, 0, 0, 0), (128, .if_icmp .lt 5, 70, 0, 0, 0, 0, 0), (131, .iconst 1, 0, 0, 0, 0, 1, 0), (132, .ireturn, 0, 0, 1, 0, 0, 0), (133, .aload_n 0, 0, 0, 0, 0, 0, 0), (134, .dup, 0, 0, 0, 0, 0, 0), (135, .getfield 36, 3, 3, 0, 0, 0, 0), (138, .iconst 1, 0, 0, 0, 0, 1, 0), (139, .iadd, 0, 0, 0, 0, 0, 0), (140, .putfield 36, 3, 3, 0, 0, 0, 0), (143, .aload_n 0, 0, 0, 0, 0, 0, 0), (144, .getfield 9, 3, 0, 1, 0, 0, 0), (147, .aload_n 0, 0, 0, 0, 0, 0, 0), (148, .getfield 36, 3, 3, 0, 0, 0, 0), (151, .iconst (-1), 0, 0, 0, 0, (-1), 0), (152, .invokestatic 39, 79, 3, 0, 0, 0, 0), (155, .iinc 3 1, 3, 0, 0, 0, 1, 0), (158, .goto (-156), 2, 0, 0, 0, 0, 0), (161, .iconst 0, 0, 0, 0, 0, 0, 0), (162, .ireturn, 0, 0, 1, 0, 0, 0)]
def az_p20 : List az_I := [(0, .iconst 0, 0, 0, 0, 0, 0, 0), (1, .istore_n 2, 2, 0, 0, 0, 0, 0), (2, .iconst 0, 0, 0, 0, 0, 0, 0), (3, .istore_n 3, 3, 0, 0, 0, 0, 0), (4, .iload_n 3, 3, 0, 0, 0, 0, 0), (5, .aload_n 1, 1, 0, 0, 0, 0, 0), (6, .getfield 57, 4, 1, 0, 0, 0, 0), (9, .if_icmp .ge 110, 57, 0, 0, 0, 0, 0), (12, .aload_n 0, 0, 0, 0, 0, 0, 0), (13, .getfield 15, 3, 4, 1, 0, 0, 0), (16, .iload_n 3, 3, 0, 0, 0, 0, 0), (17, .iload_n 2, 2, 0, 0, 0, 0, 0), (18, .invokestatic 39, 79, 3, 0, 0, 0, 0), (21, .aload_n 1, 1, 0, 0, 0, 0, 0), (22, .getfield 54, 4, 0, 0, 0, 0, 0), (25, .istore 4, 4, 0, 0, 0, 0, 0), (27, .iload 4, 4, 0, 0, 0, 0, 0), (29, .iload_n 3, 3, 0, 0, 0, 0, 0), (30, .if_icmp .gt 83, 55, 0, 0, 0, 0, 0), (33, .aload_n 1, 1, 0, 0, 0, 0, 0), (34, .getfield 54, 4, 0, 0, 0, 0, 0), (37, .istore 5, 5, 0, 0, 0, 0, 0), (39, .iload 5, 5, 0, 0, 0, 0, 0), (41, .iload_n 3, 3, 0, 0, 0, 0, 0), (42, .if_icmp .gt 65, 53, 0, 0, 0, 0, 0), (45, .aload_n 1, 1, 0, 0, 0, 0, 0), (46, .iload 4, 4, 0, 0, 0, 0, 0), (48, .iload 5, 5, 0, 0, 0, 0, 0), (50, .invokevirtual 65, 31, 3, 1, 4, 0, 0), (53, .ifCond .eq 48, 51, 0, 0, 0, 0, 0), (56, .iload 4, 4, 0, 0, 0, 0, 0), (58, .iload 5, 5, 0, 0, 0, 0, 0), (60, .invokestatic 69, 0, 2, 8, 0, 0, 0), (63, .aload_n 1, 1, 0, 0, 0, 0, 0), (64, .iload 4, 4, 0, 0, 0, 0, 0), (66, .iload 5, 5, 0, 0, 0, 0, 0), (68, .invokevirtual 75, 25, 3, 1, 4, 0, 0), (71, .invokestatic 69, 0, 2, 8, 0, 0, 0), (74, .iload_n 3, 3, 0, 0, 0, 0, 0), (75, .if_icmp .ne 26, 51, 0, 0, 0, 0, 0), (78, .aload_n 0, 0, 0, 0, 0, 0, 0), (79, .getfield 18, 3, 5, 1, 0, 0, 0), (82, .iload_n 2, 2, 0, 0, 0, 0, 0), (83, .iload 4, 4, 0, 0, 0, 0, 0), (85, .invokestatic 39, 79, 3, 0, 0, 0, 0), (88, .aload_n 0, 0, 0, 0, 0, 0, 0), (89, .getfield 21, 3, 6, 1, 0, 0, 0), (92, .iload_n 2, 2, 0, 0, 0, 0, 0), (93, .iload 5, 5, 0, 0, 0, 0, 0), (95, .invokestatic 39, 79, 3, 0, 0, 0, 0), (98, .iinc 2 1, 2, 0, 0, 0, 1, 0), (101, .iinc 5 1, 5, 0, 0, 0, 1, 0), (104, .goto (-65), 22, 0, 0, 0, 0, 0), (107, .iinc 4 1, 4, 0, 0, 0, 1, 0), (110, .goto (-83), 16, 0, 0, 0, 0, 0), (113, .iinc 3 1, 3, 0, 0, 0, 1, 0), (116, .goto (-112), 4, 0, 0, 0, 0, 0), (119, .aload_n 0, 0, 0, 0, 0, 0, 0), (120, .getfield 15, 3, 4, 1, 0, 0, 0), (123, .aload_n 1, 1, 0, 0, 0, 0, 0), (124, .getfield 57, 4, 1, 0, 0, 0, 0), (127, .iload_n 2, 2, 0, 0, 0, 0, 0), (128, .invokestatic 39, 79, 3, 0, 0, 0, 0), (131, .return_, 0, 0, 0, 0, 0, 0)]
def az_p21 : List az_I := [(0, .aload_n 1, 1, 0, 0, 0, 0, 0), (1, .aload_n 0, 0, 0, 0, 0, 0, 0), (2, .getfield 36, 3, 3, 0, 0, 0, 0), (5, .invokevirtual 48, 30, 2, 1, 4, 0, 0), (8, .ifCond .eq 5, 7, 0, 0, 0, 0, 0), (11, .iconst 1, 0, 0, 0, 0, 1, 0), (12, .ireturn, 0, 0, 1, 0, 0, 0), (13, .aload_n 2, 2, 0, 0, 0, 0, 0), (14, .aload_n 0, 0, 0, 0, 0, 0, 0), (15, .getfield 9, 3, 0, 1, 0, 0, 0), (18, .aload_n 0, 0, 0, 0, 0, 0, 0), (19, .getfield 36, 3, 3, 0, 0, 0, 0), (22, .invokestatic 44, 78, 2, 1, 0, 0, 0), (25, .aload_n 0, 0, 0, 0, 0, 0, 0), (26, .getfield 9, 3, 0, 1, 0, 0, 0), (29, .aload_n 1, 1, 0, 0, 0, 0, 0), (30, .aload_n 0, 0, 0, 0, 0, 0, 0), (31, .getfield 36, 3, 3, 0, 0, 0, 0), (34, .invokevirtual 78, 26, 2, 1, 4, 0, 0), (37, .invokestatic 44, 78, 2, 1, 0, 0, 0), (40, .aload_n 0, 0, 0, 0, 0, 0, 0), (41, .getfield 9, 3, 0, 1, 0, 0, 0), (44, .aload_n 1, 1, 0, 0, 0, 0, 0), (45, .aload_n 0, 0, 0, 0, 0, 0, 0), (46, .getfield 36, 3, 3, 0, 0, 0, 0), (49, .invokevirtual 82, 27, 2, 1, 4, 0, 0), (52, .invokestatic 44, 78, 2, 1, 0, 0, 0), (55, .invokevirtual 85, 32, 4, 1, 4, 0, 0), (58, .ifCond .ne 5, 31, 0, 0, 0, 0, 0), (61, .iconst 0, 0, 0, 0, 0, 0, 0), (62, .ireturn, 0, 0, 1, 0, 0, 0), (63, .aload_n 0, 0, 0, 0, 0, 0, 0), (64, .getfield 15, 3, 4, 1, 0, 0, 0), (67, .aload_n 0, 0, 0, 0, 0, 0, 0), (68, .getfield 36, 3, 3, 0, 0, 0, 0), (71, .iconst 1, 0, 0, 0, 0, 1, 0), (72, .iadd, 0, 0, 0, 0, 0, 0), (73, .invokestatic 44, 78, 2, 1, 0, 0, 0), (76, .istore_n 3, 3, 0, 0, 0, 0, 0), (77, .aload_n 0, 0, 0, 0, 0, 0, 0), (78, .getfield 15, 3, 4, 1, 0, 0, 0), (81, .aload_n 0, 0, 0, 0, 0, 0, 0), (82, .getfield 36, 3, 3, 0, 0, 0, 0), (85, .invokestatic 44, 78, 2, 1, 0, 0, 0), (88, .istore 4, 4, 0, 0, 0, 0, 0), (90, .iload 4, 4, 0, 0, 0, 0, 0), (92, .iload_n 3, 3, 0, 0, 0, 0, 0), (93, .if_icmp .ge 73, 80, 0, 0, 0, 0, 0), (96, .aload_n 0, 0, 0, 0, 0, 0, 0), (97, .getfield 18, 3, 5, 1, 0, 0, 0), (100, .iload 4, 4, 0, 0, 0, 0, 0), (102, .invokestatic 44, 78, 2, 1, 0, 0, 0), (105, .istore 5, 5, 0, 0, 0, 0, 0), (107, .aload_n 0, 0, 0, 0, 0, 0, 0), (108, .getfield 21, 3, 6, 1, 0, 0, 0), (111, .iload 4, 4, 0, 0, 0, 0, 0), (113, .invokestatic 44, 78, 2, 1, 0, 0, 0), (116, .istore 6, 6, 0, 0, 0, 0, 0), (118, .aload_n 2, 2, 0, 0, 0, 0, 0), (119, .aload_n 0, 0, 0, 0, 0, 0, 0), (120, .getfield 9, 3, 0, 1, 0, 0, 0), (123, .iload 5, 5, 0, 0, 0, 0, 0), (125, .invokestatic 44, 78, 2, 1, 0, 0, 0), (128, .aload_n 0, 0, 0, 0, 0, 0, 0), (129, .getfield 9, 3, 0, 1, 0, 0, 0), (132, .iload 6, 6, 0, 0, 0, 0, 0), (134, .invokestatic 44, 78, 2, 1, 0, 0, 0), (137, .invokevirtual 75, 25, 3, 1, 4, 0, 0), (140, .aload_n 0, 0, 0, 0, 0, 0, 0), (141, .getfield 9, 3, 0, 1, 0, 0, 0), (144, .aload_n 1, 1, 0, 0, 0, 0, 0), (145, .iload 5, 5, 0, 0, 0, 0, 0), (147, .iload 6, 6, 0, 0, 0, 0, 0), (149, .invokevirtual 75, 25, 3, 1, 4, 0, 0), (152, .invokestatic 44, 78, 2, 1, 0, 0, 0), (155, .if_icmp .eq 5, 78, 0, 0, 0, 0, 0), (158, .iconst 0, 0, 0, 0, 0, 0, 0), (159, .ireturn, 0, 0, 1, 0, 0, 0), (160, .iinc 4 1, 4, 0, 0, 0, 1, 0), (163, .goto (-73), 45, 0, 0, 0, 0, 0), (166, .iconst 1, 0, 0, 0, 0, 1, 0), (167, .ireturn, 0, 0, 1, 0, 0, 0)]
def az_p22 : List az_I := [(0, .aload_n 0, 0, 0, 0, 0, 0, 0), (1, .invokespecial 3, 0, 1, 9, 0, 0, 0), (4, .aload_n 0, 0, 0, 0, 0, 0, 0), (5, .iload_n 1, 1, 0, 0, 0, 0, 0), (6, .putfield 9, 4, 0, 0, 0, 0, 0), (9, .aload_n 0, 0, 0, 0, 0, 0, 0), (10, .bipush 24, 0, 0, 0, 0, 24, 0), (12, .newarray .int, 0, 0, 0, 0, 0, 0), (14, .putfield 15, 4, 3, 1, 0, 0, 0), (17, .aload_n 0, 0, 0, 0, 0, 0, 0), (18, .bipush 24, 0, 0, 0, 0, 24, 0), (20, .newarray .int, 0, 0, 0, 0, 0, 0), (22, .putfield 19, 4, 4, 1, 0, 0, 0), (25, .aload_n 0, 0, 0, 0, 0, 0, 0), (26, .sipush 576, 0, 0, 0, 0, 576, 0), (29, .newarray .int, 0, 0, 0, 0, 0, 0), (31, .putfield 22, 4, 5, 1, 0, 0, 0), (34, .aload_n 0, 0, 0, 0, 0, 0, 0), (35, .getfield 22, 4, 5, 1, 0, 0, 0), (38, .iconst (-1), 0, 0, 0, 0, (-1), 0), (39, .invokestatic 25, 189, 2, 0, 0, 0, 0), (42, .iconst 0, 0, 0, 0, 0, 0, 0), (43, .istore_n 2, 2, 0, 0, 0, 0, 0), (44, .iload_n 2, 2, 0, 0, 0, 0, 0), (45, .iload_n 1, 1, 0, 0, 0, 0, 0), (46, .if_icmp .ge 16, 33, 0, 0, 0, 0, 0), (49, .aload_n 0, 0, 0, 0, 0, 0, 0), (50, .iload_n 2, 2, 0, 0, 0, 0, 0), (51, .iload_n 2, 2, 0, 0, 0, 0, 0), (52, .invokevirtual 31, 23, 3, 1, 4, 0, 0), (55, .pop, 0, 0, 0, 0, 0, 0), (56, .iinc 2 1, 2, 0, 0, 0, 1, 0), (59, .goto (-15), 23, 0, 0, 0, 0, 0), (62, .return_, 0, 0, 0, 0, 0, 0)]
def az_p23 : List az_I := [(0, .aload_n 0, 0, 0, 0, 0, 0, 0), (1, .getfield 35, 4, 1, 0, 0, 0, 0), (4, .istore_n 3, 3, 0, 0, 0, 0, 0), (5, .aload_n 0, 0, 0, 0, 0, 0, 0), (6, .getfield 15, 4, 3, 1, 0, 0, 0), (9, .iload_n 3, 3, 0, 0, 0, 0, 0), (10, .iload_n 1, 1, 0, 0, 0, 0, 0), (11, .invokestatic 38, 79, 3, 0, 0, 0, 0), (14, .aload_n 0, 0, 0, 0, 0, 0, 0), (15, .getfield 19, 4, 4, 1, 0, 0, 0), (18, .iload_n 3, 3, 0, 0, 0, 0, 0), (19, .iload_n 2, 2, 0, 0, 0, 0, 0), (20, .invokestatic 38, 79, 3, 0, 0, 0, 0), (23, .aload_n 0, 0, 0, 0, 0, 0, 0), (24, .dup, 0, 0, 0, 0, 0, 0), (25, .getfield 35, 4, 1, 0, 0, 0, 0), (28, .iconst 1, 0, 0, 0, 0, 1, 0), (29, .iadd, 0, 0, 0, 0, 0, 0), (30, .putfield 35, 4, 1, 0, 0, 0, 0), (33, .aload_n 0, 0, 0, 0, 0, 0, 0), (34, .iload_n 1, 1, 0, 0, 0, 0, 0), (35, .iload_n 3, 3, 0, 0, 0, 0, 0), (36, .iload_n 3, 3, 0, 0, 0, 0, 0), (37, .invokevirtual 42, 24, 4, 0, 4, 0, 0), (40, .aload_n 0, 0, 0, 0, 0, 0, 0), (41, .iload_n 3, 3, 0, 0, 0, 0, 0), (42, .iload_n 2, 2, 0, 0, 0, 0, 0), (43, .iload_n 3, 3, 0, 0, 0, 0, 0), (44, .invokevirtual 42, 24, 4, 0, 4, 0, 0), (47, .iload_n 3, 3, 0, 0, 0, 0, 0), (48, .ireturn, 0, 0, 0, 0, 0, 0)]
def az_p24 : List az_I := [(0, .aload_n 0, 0, 0, 0, 0, 0, 0), (1, .iload_n 1, 1, 0, 0, 0, 0, 0), (2, .invokevirtual 46, 29, 2, 1, 4, 0, 0), (5, .ifCond .eq 25, 17, 0, 0, 0, 0, 0), (8, .aload_n 0, 0, 0, 0, 0, 0, 0), (9, .iload_n 2, 2, 0, 0, 0, 0, 0), (10, .invokevirtual 46, 29, 2, 1, 4, 0, 0), (13, .ifCond .eq 17, 17, 0, 0, 0, 0, 0), (16, .aload_n 0, 0, 0, 0, 0, 0, 0), (17, .getfield 22, 4, 5, 1, 0, 0, 0), (20, .iload_n 1, 1, 0, 0, 0, 0, 0), (21, .bipush 24, 0, 0, 0, 0, 24, 0), (23, .imul, 0, 0, 0, 0, 0, 0), (24, .iload_n 2, 2, 0, 0, 0, 0, 0), (25, .iadd, 0, 0, 0, 0, 0, 0), (26, .iload_n 3, 3, 0, 0, 0, 0, 0), (27, .invokestatic 38, 79, 3, 0, 0, 0, 0), (30, .return_, 0, 0, 0, 0, 0, 0)]
def az_p25 : List az_I := [(0, .aload_n 0, 0, 0, 0, 0, 0, 0), (1, .iload_n 1, 1, 0, 0, 0, 0, 0), (2, .invokevirtual 46, 29, 2, 1, 4, 0, 0), (5, .ifCond .eq 27, 17, 0, 0, 0, 0, 0), (8, .aload_n 0, 0, 0, 0, 0, 0, 0), (9, .iload_n 2, 2, 0, 0, 0, 0, 0), (10, .invokevirtual 46, 29, 2, 1, 4, 0, 0), (13, .ifCond .eq 19, 17, 0, 0, 0, 0, 0), (16, .aload_n 0, 0, 0, 0, 0, 0, 0), (17, .getfield 22, 4, 5, 1, 0, 0, 0), (20, .iload_n 1, 1, 0, 0, 0, 0, 0), (21, .bipush 24, 0, 0, 0, 0, 24, 0), (23, .imul, 0, 0, 0, 0, 0, 0), (24, .iload_n 2, 2, 0, 0, 0, 0, 0), (25, .iadd, 0, 0, 0, 0, 0, 0), (26, .invokestatic 50, 78, 2, 1, 0, 0, 0), (29, .goto 4, 18, 0, 0, 0, 0, 0), (32, .iconst (-1), 0, 0, 0, 0, (-1), 0), (33, .ireturn, 0, 0, 0, 0, 0, 0)]
def az_p26 : List az_I := [(0, .aload_n 0, 0, 0, 0, 0, 0, 0), (1, .getfield 15, 4, 3, 1, 0, 0, 0), (4, .iload_n 1, 1, 0, 0, 0, 0, 0), (5, .invokestatic 50, 78, 2, 1, 0, 0, 0), (8, .ireturn, 0, 0, 0, 0, 0, 0)]
def az_p27 : List az_I := [(0, .aload_n 0, 0, 0, 0, 0, 0, 0), (1, .getfield 19, 4, 4, 1, 0, 0, 0), (4, .iload_n 1, 1, 0, 0, 0, 0, 0), (5, .invokestatic 50, 78, 2, 1, 0, 0, 0), (8, .ireturn, 0, 0, 0, 0, 0, 0)]
def az_p28 : List az_I := [(0, .iload_n 1, 1, 0, 0, 0, 0, 0), (1, .ifCond .lt 15, 8, 0, 0, 0, 0, 0), (4, .iload_n 1, 1, 0, 0, 0, 0, 0), (5, .aload_n 0, 0, 0, 0, 0, 0, 0), (6, .getfield 9, 4, 0, 0, 0, 0, 0), (9, .if_icmp .ge 7, 8, 0, 0, 0, 0, 0), (12, .iconst 1, 0, 0, 0, 0, 1, 0), (13, .goto 4, 9, 0, 0, 0, 0, 0), (16, .iconst 0, 0, 0, 0, 0, 0, 0), (17, .ireturn, 0, 0, 1, 0, 0, 0)]
def az_p29 : List az_I := [(0, .iload_n 1, 1, 0, 0, 0, 0, 0), (1, .ifCond .lt 15, 8, 0, 0, 0, 0, 0), (4, .iload_n 1, 1, 0, 0, 0, 0, 0), (5, .aload_n 0, 0, 0, 0, 0, 0, 0), (6, .getfield 35, 4, 1, 0, 0, 0, 0), (9, .if_icmp .ge 7, 8, 0, 0, 0, 0, 0), (12, .iconst 1, 0, 0, 0, 0, 1, 0), (13, .goto 4, 9, 0, 0, 0, 0, 0), (16, .iconst 0, 0, 0, 0, 0, 0, 0), (17, .ireturn, 0, 0, 1, 0, 0, 0)]
def az_p30 : List az_I := [(0, .iload_n 1, 1, 0, 0, 0, 0, 0), (1, .ifCond .lt 15, 8, 0, 0, 0, 0, 0), (4, .iload_n 1, 1, 0, 0, 0, 0, 0), (5, .aload_n 0, 0, 0, 0, 0, 0, 0), (6, .getfield 9, 4, 0, 0, 0, 0, 0), (9, .if_icmp .ge 7, 8, 0, 0, 0, 0, 0), (12, .iconst 1, 0, 0, 0, 0, 1, 0), (13, .goto 4, 9, 0, 0, 0, 0, 0), (16, .iconst 0, 0, 0, 0, 0, 0, 0), (17, .ireturn, 0, 0, 1, 0, 0, 0)]
def az_p31 : List az_I := [(0, .aload_n 0, 0, 0, 0, 0, 0, 0), (1, .iload_n 1, 1, 0, 0, 0, 0, 0), (2, .invokevirtual 54, 27, 2, 1, 4, 0, 0), (5, .aload_n 0, 0, 0, 0, 0, 0, 0), (6, .iload_n 2, 2, 0, 0, 0, 0, 0), (7, .invokevirtual 58, 26, 2, 1, 4, 0, 0), (10, .if_icmp .ne 7, 9, 0, 0, 0, 0, 0), (13, .iconst 1, 0, 0, 0, 0, 1, 0), (14, .goto 4, 10, 0, 0, 0, 0, 0), (17, .iconst 0, 0, 0, 0, 0, 0, 0), (18, .ireturn, 0, 0, 1, 0, 0, 0)]
def az_p32 : List az_I := [(0, .aload_n 0, 0, 0, 0, 0, 0, 0), (1, .iload_n 1, 1, 0, 0, 0, 0, 0), (2, .invokevirtual 58, 26, 2, 1, 4, 0, 0), (5, .iload_n 2, 2, 0, 0, 0, 0, 0), (6, .if_icmp .ne 16, 12, 0, 0, 0, 0, 0), (9, .aload_n 0, 0, 0, 0, 0, 0, 0), (10, .iload_n 1, 1, 0, 0, 0, 0, 0), (11, .invokevirtual 54, 27, 2, 1, 4, 0, 0), (14, .iload_n 3, 3, 0, 0, 0, 0, 0), (15, .if_icmp .ne 7, 12, 0, 0, 0, 0, 0), (18, .iconst 1, 0, 0, 0, 0, 1, 0), (19, .goto 4, 13, 0, 0, 0, 0, 0), (22, .iconst 0, 0, 0, 0, 0, 0, 0), (23, .ireturn, 0, 0, 1, 0, 0, 0)]
def az_p33 : List az_I := [(0, .aload_n 0, 0, 0, 0, 0, 0, 0), (1, .iload_n 1, 1, 0, 0, 0, 0, 0), (2, .aload_n 0, 0, 0, 0, 0, 0, 0), (3, .iload_n 2, 2, 0, 0, 0, 0, 0), (4, .invokevirtual 58, 26, 2, 1, 4, 0, 0), (7, .aload_n 0, 0, 0, 0, 0, 0, 0), (8, .iload_n 2, 2, 0, 0, 0, 0, 0), (9, .invokevirtual 54, 27, 2, 1, 4, 0, 0), (12, .invokevirtual 61, 32, 4, 1, 4, 0, 0), (15, .ireturn, 0, 0, 1, 0, 0, 0)]
def az_p34 : List az_I := [(0, .iconst 0, 0, 0, 0, 0, 0, 0), (1, .istore_n 3, 3, 0, 0, 0, 0, 0), (2, .iload_n 3, 3, 0, 0, 0, 0, 0), (3, .aload_n 0, 0, 0, 0, 0, 0, 0), (4, .getfield 35, 4, 1, 0, 0, 0, 0), (7, .if_icmp .ge 21, 16, 0, 0, 0, 0, 0), (10, .aload_n 0, 0, 0, 0, 0, 0, 0), (11, .iload_n 3, 3, 0, 0, 0, 0, 0), (12, .iload_n 1, 1, 0, 0, 0, 0, 0), (13, .iload_n 2, 2, 0, 0, 0, 0, 0), (14, .invokevirtual 61, 32, 4, 1, 4, 0, 0), (17, .ifCond .eq 5, 14, 0, 0, 0, 0, 0), (20, .iload_n 3, 3, 0, 0, 0, 0, 0), (21, .ireturn, 0, 0, 0, 0, 0, 0), (22, .iinc 3 1, 3, 0, 0, 0, 1, 0), (25, .goto (-23), 2, 0, 0, 0, 0, 0), (28, .iconst (-1), 0, 0, 0, 0, (-1), 0), (29, .ireturn, 0, 0, 0, 0, 0, 0)]
def az_p35 : List az_I := [(0, .aload_n 1, 1, 0, 0, 0, 0, 0), (1, .iconst 0, 0, 0, 0, 0, 0, 0), (2, .iconst (-1), 0, 0, 0, 0, (-1), 0), (3, .iconst (-1), 0, 0, 0, 0, (-1), 0), (4, .iconst (-1), 0, 0, 0, 0, (-1), 0), (5, .invokestatic 65, 36, 5, 0, 0, 0, 0), (8, .aload_n 0, 0, 0, 0, 0, 0, 0), (9, .aload_n 1, 1, 0, 0, 0, 0, 0), (10, .invokevirtual 69, 37, 2, 1, 4, 0, 0), (13, .ifCond .ne 8, 13, 0, 0, 0, 0, 0), (16, .aload_n 0, 0, 0, 0, 0, 0, 0), (17, .aload_n 1, 1, 0, 0, 0, 0, 0), (18, .invokevirtual 73, 38, 2, 0, 4, 0, 0), (21, .return_, 0, 0, 0, 0, 0, 0)]
def az_p36 : List az_I := [(0, .aload_n 0, 0, 0, 0, 0, 0, 0), (1, .iconst 0, 0, 0, 0, 0, 0, 0), (2, .iload_n 1, 1, 0, 0, 0, 0, 0), (3, .invokestatic 38, 79, 3, 0, 0, 0, 0), (6, .aload_n 0, 0, 0, 0, 0, 0, 0), (7, .iconst 1, 0, 0, 0, 0, 1, 0), (8, .iload_n 2, 2, 0, 0, 0, 0, 0), (9, .invokestatic 38, 79, 3, 0, 0, 0, 0), (12, .aload_n 0, 0, 0, 0, 0, 0, 0), (13, .iconst 2, 0, 0, 0, 0, 2, 0), (14, .iload_n 3, 3, 0, 0, 0, 0, 0), (15, .invokestatic 38, 79, 3, 0, 0, 0, 0), (18, .aload_n 0, 0, 0, 0, 0, 0, 0), (19, .iconst 3, 0, 0, 0, 0, 3, 0), (20, .iload 4, 4, 0, 0, 0, 0, 0), (22, .invokestatic 38, 79, 3, 0, 0, 0, 0), (25, .return_, 0, 0, 0, 0, 0, 0)]
def az_p37 : List az_I := [(0, .iconst 0, 0, 0, 0, 0, 0, 0), (1, .istore_n 2, 2, 0, 0, 0, 0, 0), (2, .iload_n 2, 2, 0, 0, 0, 0, 0), (3, .aload_n 0, 0, 0, 0, 0, 0, 0), (4, .getfield 35, 4, 1, 0, 0, 0, 0), (7, .if_icmp .ge 54, 35, 0, 0, 0, 0, 0), (10, .iconst 0, 0, 0, 0, 0, 0, 0), (11, .istore_n 3, 3, 0, 0, 0, 0, 0), (12, .iload_n 3, 3, 0, 0, 0, 0, 0), (13, .aload_n 0, 0, 0, 0, 0, 0, 0), (14, .getfield 35, 4, 1, 0, 0, 0, 0), (17, .if_icmp .ge 38, 33, 0, 0, 0, 0, 0), (20, .aload_n 0, 0, 0, 0, 0, 0, 0), (21, .iload_n 2, 2, 0, 0, 0, 0, 0), (22, .iload_n 3, 3, 0, 0, 0, 0, 0), (23, .invokevirtual 77, 31, 3, 1, 4, 0, 0), (26, .ifCond .eq 23, 31, 0, 0, 0, 0, 0), (29, .aload_n 0, 0, 0, 0, 0, 0, 0), (30, .iload_n 2, 2, 0, 0, 0, 0, 0), (31, .iload_n 3, 3, 0, 0, 0, 0, 0), (32, .invokevirtual 81, 25, 3, 1, 4, 0, 0), (35, .iconst (-1), 0, 0, 0, 0, (-1), 0), (36, .if_icmp .ne 13, 31, 0, 0, 0, 0, 0), (39, .aload_n 1, 1, 0, 0, 0, 0, 0), (40, .iconst 1, 0, 0, 0, 0, 1, 0), (41, .iload_n 2, 2, 0, 0, 0, 0, 0), (42, .iload_n 3, 3, 0, 0, 0, 0, 0), (43, .iconst (-1), 0, 0, 0, 0, (-1), 0), (44, .invokestatic 65, 36, 5, 0, 0, 0, 0), (47, .iconst 1, 0, 0, 0, 0, 1, 0), (48, .ireturn, 0, 0, 1, 0, 0, 0), (49, .iinc 3 1, 3, 0, 0, 0, 1, 0), (52, .goto (-40), 8, 0, 0, 0, 0, 0), (55, .iinc 2 1, 2, 0, 0, 0, 1, 0), (58, .goto (-56), 2, 0, 0, 0, 0, 0), (61, .iconst 0, 0, 0, 0, 0, 0, 0), (62, .ireturn, 0, 0, 1, 0, 0, 0)]
def az_p38 : List az_I := [(0, .iconst 0, 0, 0, 0, 0, 0, 0), (1, .istore_n 2, 2, 0, 0, 0, 0, 0), (2, .iload_n 2, 2, 0, 0, 0, 0, 0), (3, .aload_n 0, 0, 0, 0, 0, 0, 0), (4, .getfield 35, 4, 1, 0, 0, 0, 0), (7, .if_icmp .ge 99, 56, 0, 0, 0, 0, 0), (10, .iconst 0, 0, 0, 0, 0, 0, 0), (11, .istore_n 3, 3, 0, 0, 0, 0, 0), (12, .iload_n 3, 3, 0, 0, 0, 0, 0), (13, .aload_n 0, 0, 0, 0, 0, 0, 0), (14, .getfield 35, 4, 1, 0, 0, 0, 0), (17, .if_icmp .ge 83, 54, 0, 0, 0, 0, 0), (20, .iconst 0, 0, 0, 0, 0, 0, 0), (21, .istore 4, 4, 0, 0, 0, 0, 0), (23, .iload 4, 4, 0, 0, 0, 0, 0), (25, .aload_n 0, 0, 0, 0, 0, 0, 0), (26, .getfield 35, 4, 1, 0, 0, 0, 0), (29, .if_icmp .ge 65, 52, 0, 0, 0, 0, 0), (32, .aload_n 0, 0, 0, 0, 0, 0, 0), (33, .iload_n 2, 2, 0, 0, 0, 0, 0), (34, .iload_n 3, 3, 0, 0, 0, 0, 0), (35, .invokevirtual 77, 31, 3, 1, 4, 0, 0), (38, .ifCond .eq 50, 50, 0, 0, 0, 0, 0), (41, .aload_n 0, 0, 0, 0, 0, 0, 0), (42, .iload_n 3, 3, 0, 0, 0, 0, 0), (43, .iload 4, 4, 0, 0, 0, 0, 0), (45, .invokevirtual 77, 31, 3, 1, 4, 0, 0), (48, .ifCond .eq 40, 50, 0, 0, 0, 0, 0), (51, .aload_n 0, 0, 0, 0, 0, 0, 0), (52, .aload_n 0, 0, 0, 0, 0, 0, 0), (53, .iload_n 2, 2, 0, 0, 0, 0, 0), (54, .iload_n 3, 3, 0, 0, 0, 0, 0), (55, .invokevirtual 81, 25, 3, 1, 4, 0, 0), (58, .iload 4, 4, 0, 0, 0, 0, 0), (60, .invokevirtual 81, 25, 3, 1, 4, 0, 0), (63, .aload_n 0, 0, 0, 0, 0, 0, 0), (64, .iload_n 2, 2, 0, 0, 0, 0, 0), (65, .aload_n 0, 0, 0, 0, 0, 0, 0), (66, .iload_n 3, 3, 0, 0, 0, 0, 0), (67, .iload 4, 4, 0, 0, 0, 0, 0), (69, .invokevirtual 81, 25, 3, 1, 4, 0, 0), (72, .invokevirtual 81, 25, 3, 1, 4, 0, 0), (75, .if_icmp .eq 13, 50, 0, 0, 0, 0, 0), (78, .aload_n 1, 1, 0, 0, 0, 0, 0), (79, .iconst 2, 0, 0, 0, 0, 2, 0), (80, .iload_n 2, 2, 0, 0, 0, 0, 0), (81, .iload_n 3, 3, 0, 0, 0, 0, 0), (82, .iload 4, 4, 0, 0, 0, 0, 0), (84, .invokestatic 65, 36, 5, 0, 0, 0, 0), (87, .return_, 0, 0, 0, 0, 0, 0), (88, .iinc 4 1, 4, 0, 0, 0, 1, 0), (91, .goto (-68), 14, 0, 0, 0, 0, 0), (94, .iinc 3 1, 3, 0, 0, 0, 1, 0), (97, .goto (-85), 8, 0, 0, 0, 0, 0), (100, .iinc 2 1, 2, 0, 0, 0, 1, 0), (103, .goto (-101), 2, 0, 0, 0, 0, 0), (106, .return_, 0, 0, 0, 0, 0, 0)]
def az_p39 : List az_I := [(0, .iconst 0, 0, 0, 0, 0, 0, 0), (1, .istore_n 1, 1, 0, 0, 0, 0, 0), (2, .aload_n 0, 0, 0, 0, 0, 0, 0), (3, .getfield 9, 4, 0, 0, 0, 0, 0), (6, .istore_n 2, 2, 0, 0, 0, 0, 0), (7, .iload_n 2, 2, 0, 0, 0, 0, 0), (8, .aload_n 0, 0, 0, 0, 0, 0, 0), (9, .getfield 35, 4, 1, 0, 0, 0, 0), (12, .if_icmp .ge 45, 31, 0, 0, 0, 0, 0), (15, .aload_n 0, 0, 0, 0, 0, 0, 0), (16, .getfield 9, 4, 0, 0, 0, 0, 0), (19, .istore_n 3, 3, 0, 0, 0, 0, 0), (20, .iload_n 3, 3, 0, 0, 0, 0, 0), (21, .aload_n 0, 0, 0, 0, 0, 0, 0), (22, .getfield 35, 4, 1, 0, 0, 0, 0), (25, .if_icmp .ge 26, 29, 0, 0, 0, 0, 0), (28, .iload_n 1, 1, 0, 0, 0, 0, 0), (29, .aload_n 0, 0, 0, 0, 0, 0, 0), (30, .iload_n 2, 2, 0, 0, 0, 0, 0), (31, .iload_n 3, 3, 0, 0, 0, 0, 0), (32, .invokevirtual 77, 31, 3, 1, 4, 0, 0), (35, .ifCond .eq 7, 24, 0, 0, 0, 0, 0), (38, .iconst 1, 0, 0, 0, 0, 1, 0), (39, .goto 4, 25, 0, 0, 0, 0, 0), (42, .iconst 0, 0, 0, 0, 0, 0, 0), (43, .iadd, 0, 0, 0, 0, 0, 0), (44, .istore_n 1, 1, 0, 0, 0, 0, 0), (45, .iinc 3 1, 3, 0, 0, 0, 1, 0), (48, .goto (-28), 12, 0, 0, 0, 0, 0), (51, .iinc 2 1, 2, 0, 0, 0, 1, 0), (54, .goto (-47), 5, 0, 0, 0, 0, 0), (57, .iload_n 1, 1, 0, 0, 0, 0, 0), (58, .ireturn, 0, 0, 0, 0, 0, 0)]
def az_p40 : List az_I := [(0, .iconst 0, 0, 0, 0, 0, 0, 0), (1, .istore_n 1, 1, 0, 0, 0, 0, 0), (2, .iconst 0, 0, 0, 0, 0, 0, 0), (3, .istore_n 2, 2, 0, 0, 0, 0, 0), (4, .iload_n 2, 2, 0, 0, 0, 0, 0), (5, .aload_n 0, 0, 0, 0, 0, 0, 0), (6, .getfield 35, 4, 1, 0, 0, 0, 0), (9, .if_icmp .ge 25, 20, 0, 0, 0, 0, 0), (12, .iload_n 1, 1, 0, 0, 0, 0, 0), (13, .aload_n 0, 0, 0, 0, 0, 0, 0), (14, .iload_n 2, 2, 0, 0, 0, 0, 0), (15, .invokevirtual 84, 41, 2, 1, 4, 0, 0), (18, .ifCond .eq 7, 15, 0, 0, 0, 0, 0), (21, .iconst 1, 0, 0, 0, 0, 1, 0), (22, .goto 4, 16, 0, 0, 0, 0, 0), (25, .iconst 0, 0, 0, 0, 0, 0, 0), (26, .iadd, 0, 0, 0, 0, 0, 0), (27, .istore_n 1, 1, 0, 0, 0, 0, 0), (28, .iinc 2 1, 2, 0, 0, 0, 1, 0), (31, .goto (-27), 4, 0, 0, 0, 0, 0), (34, .iload_n 1, 1, 0, 0, 0, 0, 0), (35, .ireturn, 0, 0, 0, 0, 0, 0)]
def az_p41 : List az_I := [(0, .iconst 0, 0, 0, 0, 0, 0, 0), (1, .istore_n 2, 2, 0, 0, 0, 0, 0), (2, .iload_n 2, 2, 0, 0, 0, 0, 0), (3, .aload_n 0, 0, 0, 0, 0, 0, 0), (4, .getfield 35, 4, 1, 0, 0, 0, 0), (7, .if_icmp .ge 37, 24, 0, 0, 0, 0, 0), (10, .aload_n 0, 0, 0, 0, 0, 0, 0), (11, .aload_n 0, 0, 0, 0, 0, 0, 0), (12, .iload_n 1, 1, 0, 0, 0, 0, 0), (13, .iload_n 2, 2, 0, 0, 0, 0, 0), (14, .invokevirtual 81, 25, 3, 1, 4, 0, 0), (17, .invokevirtual 87, 30, 2, 1, 4, 0, 0), (20, .ifCond .eq 18, 22, 0, 0, 0, 0, 0), (23, .aload_n 0, 0, 0, 0, 0, 0, 0), (24, .aload_n 0, 0, 0, 0, 0, 0, 0), (25, .iload_n 2, 2, 0, 0, 0, 0, 0), (26, .iload_n 1, 1, 0, 0, 0, 0, 0), (27, .invokevirtual 81, 25, 3, 1, 4, 0, 0), (30, .invokevirtual 87, 30, 2, 1, 4, 0, 0), (33, .ifCond .eq 5, 22, 0, 0, 0, 0, 0), (36, .iconst 1, 0, 0, 0, 0, 1, 0), (37, .ireturn, 0, 0, 1, 0, 0, 0), (38, .iinc 2 1, 2, 0, 0, 0, 1, 0), (41, .goto (-39), 2, 0, 0, 0, 0, 0), (44, .iconst 0, 0, 0, 0, 0, 0, 0), (45, .ireturn, 0, 0, 1, 0, 0, 0)]
def az_p42 : List az_I := [(0, .iconst 0, 0, 0, 0, 0, 0, 0), (1, .istore_n 3, 3, 0, 0, 0, 0, 0), (2, .iload_n 3, 3, 0, 0, 0, 0, 0), (3, .aload_n 0, 0, 0, 0, 0, 0, 0), (4, .getfield 35, 4, 1, 0, 0, 0, 0), (7, .if_icmp .ge 29, 20, 0, 0, 0, 0, 0), (10, .aload_n 0, 0, 0, 0, 0, 0, 0), (11, .iload_n 3, 3, 0, 0, 0, 0, 0), (12, .iload_n 1, 1, 0, 0, 0, 0, 0), (13, .iload_n 2, 2, 0, 0, 0, 0, 0), (14, .invokevirtual 61, 32, 4, 1, 4, 0, 0), (17, .ifCond .eq 13, 18, 0, 0, 0, 0, 0), (20, .aload_n 0, 0, 0, 0, 0, 0, 0), (21, .iload_n 3, 3, 0, 0, 0, 0, 0), (22, .invokevirtual 84, 41, 2, 1, 4, 0, 0), (25, .ifCond .eq 5, 18, 0, 0, 0, 0, 0), (28, .iconst 1, 0, 0, 0, 0, 1, 0), (29, .ireturn, 0, 0, 1, 0, 0, 0), (30, .iinc 3 1, 3, 0, 0, 0, 1, 0), (33, .goto (-31), 2, 0, 0, 0, 0, 0), (36, .iconst 0, 0, 0, 0, 0, 0, 0), (37, .ireturn, 0, 0, 1, 0, 0, 0)]
def az_p43 : List az_I := [(0, .iconst 0, 0, 0, 0, 0, 0, 0), (1, .istore_n 2, 2, 0, 0, 0, 0, 0), (2, .iconst 0, 0, 0, 0, 0, 0, 0), (3, .istore_n 3, 3, 0, 0, 0, 0, 0), (4, .iload_n 3, 3, 0, 0, 0, 0, 0), (5, .aload_n 0, 0, 0, 0, 0, 0, 0), (6, .getfield 35, 4, 1, 0, 0, 0, 0), (9, .if_icmp .ge 28, 23, 0, 0, 0, 0, 0), (12, .iload_n 2, 2, 0, 0, 0, 0, 0), (13, .aload_n 0, 0, 0, 0, 0, 0, 0), (14, .iload_n 3, 3, 0, 0, 0, 0, 0), (15, .invokevirtual 54, 27, 2, 1, 4, 0, 0), (18, .iload_n 1, 1, 0, 0, 0, 0, 0), (19, .if_icmp .ne 9, 18, 0, 0, 0, 0, 0), (22, .iconst 1, 0, 0, 0, 0, 1, 0), (23, .iload_n 3, 3, 0, 0, 0, 0, 0), (24, .ishl, 0, 0, 0, 0, 0, 0), (25, .goto 4, 19, 0, 0, 0, 0, 0), (28, .iconst 0, 0, 0, 0, 0, 0, 0), (29, .ior, 0, 0, 0, 0, 0, 0), (30, .istore_n 2, 2, 0, 0, 0, 0, 0), (31, .iinc 3 1, 3, 0, 0, 0, 1, 0), (34, .goto (-30), 4, 0, 0, 0, 0, 0), (37, .iload_n 2, 2, 0, 0, 0, 0, 0), (38, .ireturn, 0, 0, 0, 0, 0, 0)]
def az_p44 : List az_I := [(0, .iload_n 2, 2, 0, 0, 0, 0, 0), (1, .aload_n 0, 0, 0, 0, 0, 0, 0), (2, .iload_n 1, 1, 0, 0, 0, 0, 0), (3, .invokevirtual 90, 43, 2, 1, 4, 0, 0), (6, .iconst (-1), 0, 0, 0, 0, (-1), 0), (7, .ixor, 0, 0, 0, 0, 0, 0), (8, .iand, 0, 0, 0, 0, 0, 0), (9, .ifCond .eq 5, 10, 0, 0, 0, 0, 0), (12, .iconst 0, 0, 0, 0, 0, 0, 0), (13, .ireturn, 0, 0, 1, 0, 0, 0), (14, .iconst 0, 0, 0, 0, 0, 0, 0), (15, .istore_n 3, 3, 0, 0, 0, 0, 0), (16, .iload_n 3, 3, 0, 0, 0, 0, 0), (17, .aload_n 0, 0, 0, 0, 0, 0, 0), (18, .getfield 35, 4, 1, 0, 0, 0, 0), (21, .if_icmp .ge 28, 31, 0, 0, 0, 0, 0), (24, .iload_n 2, 2, 0, 0, 0, 0, 0), (25, .iload_n 3, 3, 0, 0, 0, 0, 0), (26, .ishr, 0, 0, 0, 0, 0, 0), (27, .iconst 1, 0, 0, 0, 0, 1, 0), (28, .iand, 0, 0, 0, 0, 0, 0), (29, .ifCond .eq 14, 29, 0, 0, 0, 0, 0), (32, .aload_n 0, 0, 0, 0, 0, 0, 0), (33, .iload_n 2, 2, 0, 0, 0, 0, 0), (34, .iload_n 3, 3, 0, 0, 0, 0, 0), (35, .invokevirtual 93, 45, 3, 1, 4, 0, 0), (38, .ifCond .ne 5, 29, 0, 0, 0, 0, 0), (41, .iconst 0, 0, 0, 0, 0, 0, 0), (42, .ireturn, 0, 0, 1, 0, 0, 0), (43, .iinc 3 1, 3, 0, 0, 0, 1, 0), (46, .goto (-30), 12, 0, 0, 0, 0, 0), (49, .iconst 1, 0, 0, 0, 0, 1, 0), (50, .ireturn, 0, 0, 1, 0, 0, 0)]
def az_p45 : List az_I := [(0, .iconst 0, 0, 0, 0, 0, 0, 0), (1, .istore_n 3, 3, 0, 0, 0, 0, 0), (2, .iload_n 3, 3, 0, 0, 0, 0, 0), (3, .aload_n 0, 0, 0, 0, 0, 0, 0), (4, .getfield 35, 4, 1, 0, 0, 0, 0), (7, .if_icmp .ge 33, 24, 0, 0, 0, 0, 0), (10, .aload_n 0, 0, 0, 0, 0, 0, 0), (11, .iload_n 3, 3, 0, 0, 0, 0, 0), (12, .iload_n 2, 2, 0, 0, 0, 0, 0), (13, .invokevirtual 77, 31, 3, 1, 4, 0, 0), (16, .ifCond .eq 18, 22, 0, 0, 0, 0, 0), (19, .iload_n 1, 1, 0, 0, 0, 0, 0), (20, .aload_n 0, 0, 0, 0, 0, 0, 0), (21, .iload_n 3, 3, 0, 0, 0, 0, 0), (22, .iload_n 2, 2, 0, 0, 0, 0, 0), (23, .invokevirtual 81, 25, 3, 1, 4, 0, 0), (26, .ishr, 0, 0, 0, 0, 0, 0), (27, .iconst 1, 0, 0, 0, 0, 1, 0), (28, .iand, 0, 0, 0, 0, 0, 0), (29, .ifCond .ne 5, 22, 0, 0, 0, 0, 0), (32, .iconst 0, 0, 0, 0, 0, 0, 0), (33, .ireturn, 0, 0, 1, 0, 0, 0), (34, .iinc 3 1, 3, 0, 0, 0, 1, 0), (37, .goto (-35), 2, 0, 0, 0, 0, 0), (40, .iconst 1, 0, 0, 0, 0, 1, 0), (41, .ireturn, 0, 0, 1, 0, 0, 0)]
def az_p46 : List az_I := [(0, .iconst 0, 0, 0, 0, 0, 0, 0), (1, .istore_n 3, 3, 0, 0, 0, 0, 0), (2, .iconst 0, 0, 0, 0, 0, 0, 0), (3, .istore 4, 4, 0, 0, 0, 0, 0), (5, .iload 4, 4, 0, 0, 0, 0, 0), (7, .aload_n 0, 0, 0, 0, 0, 0, 0), (8, .getfield 35, 4, 1, 0, 0, 0, 0), (11, .if_icmp .ge 40, 30, 0, 0, 0, 0, 0), (14, .aload_n 0, 0, 0, 0, 0, 0, 0), (15, .iload 4, 4, 0, 0, 0, 0, 0), (17, .iload_n 2, 2, 0, 0, 0, 0, 0), (18, .invokevirtual 77, 31, 3, 1, 4, 0, 0), (21, .ifCond .eq 24, 28, 0, 0, 0, 0, 0), (24, .iload_n 1, 1, 0, 0, 0, 0, 0), (25, .aload_n 0, 0, 0, 0, 0, 0, 0), (26, .iload 4, 4, 0, 0, 0, 0, 0), (28, .iload_n 2, 2, 0, 0, 0, 0, 0), (29, .invokevirtual 81, 25, 3, 1, 4, 0, 0), (32, .ishr, 0, 0, 0, 0, 0, 0), (33, .iconst 1, 0, 0, 0, 0, 1, 0), (34, .iand, 0, 0, 0, 0, 0, 0), (35, .ifCond .eq 10, 28, 0, 0, 0, 0, 0), (38, .iload_n 3, 3, 0, 0, 0, 0, 0), (39, .iconst 1, 0, 0, 0, 0, 1, 0), (40, .iload 4, 4, 0, 0, 0, 0, 0), (42, .ishl, 0, 0, 0, 0, 0, 0), (43, .ior, 0, 0, 0, 0, 0, 0), (44, .istore_n 3, 3, 0, 0, 0, 0, 0), (45, .iinc 4 1, 4, 0, 0, 0, 1, 0), (48, .goto (-43), 4, 0, 0, 0, 0, 0), (51, .iload_n 3, 3, 0, 0, 0, 0, 0), (52, .ireturn, 0, 0, 0, 0, 0, 0)]
def az_p47 : List az_I := [(0, .aload_n 0, 0, 0, 0, 0, 0, 0), (1, .invokespecial 3, 0, 1, 9, 0, 0, 0), (4, .aload_n 0, 0, 0, 0, 0, 0, 0), (5, .bipush 8, 0, 0, 0, 0, 8, 0), (7, .anewarray 9, 0, 2, 0, 0, 0, 0), (10, .putfield 11, 5, 0, 1, 0, 0, 0), (13, .aload_n 0, 0, 0, 0, 0, 0, 0), (14, .bipush 24, 0, 0, 0, 0, 24, 0), (16, .anewarray 15, 0, 3, 0, 0, 0, 0), (19, .putfield 17, 5, 1, 1, 0, 0, 0), (22, .aload_n 0, 0, 0, 0, 0, 0, 0), (23, .new 21, 3, 0, 0, 0, 0, 0), (26, .dup, 0, 0, 0, 0, 0, 0), (27, .invokespecial 23, 17, 1, 0, 0, 0, 0), (30, .putfield 24, 5, 2, 1, 0, 0, 0), (33, .aload_n 0, 0, 0, 0, 0, 0, 0), (34, .new 28, 2, 0, 0, 0, 0, 0), (37, .dup, 0, 0, 0, 0, 0, 0), (38, .invokespecial 30, 11, 1, 0, 0, 0, 0), (41, .putfield 31, 5, 3, 1, 0, 0, 0), (44, .aload_n 0, 0, 0, 0, 0, 0, 0), (45, .new 35, 1, 0, 0, 0, 0, 0), (48, .dup, 0, 0, 0, 0, 0, 0), (49, .invokespecial 37, 3, 1, 0, 0, 0, 0), (52, .putfield 38, 5, 4, 1, 0, 0, 0), (55, .aload_n 0, 0, 0, 0, 0, 0, 0), (56, .bipush 24, 0, 0, 0, 0, 24, 0), (58, .newarray .int, 0, 0, 0, 0, 0, 0), (60, .putfield 42, 5, 5, 1, 0, 0, 0), (63, .aload_n 0, 0, 0, 0, 0, 0, 0), (64, .iconst 4, 0, 0, 0, 0, 4, 0), (65, .newarray .int, 0, 0, 0, 0, 0, 0), (67, .putfield 46, 5, 6, 1, 0, 0, 0), (70, .aload_n 0, 0, 0, 0, 0, 0, 0), (71, .bipush 24, 0, 0, 0, 0, 24, 0), (73, .newarray .int, 0, 0, 0, 0, 0, 0), (75, .putfield 49, 5, 7, 1, 0, 0, 0), (78, .aload_n 0, 0, 0, 0, 0, 0, 0), (79, .bipush 6, 0, 0, 0, 0, 6, 0), (81, .newarray .int, 0, 0, 0, 0, 0, 0), (83, .putfield 52, 5, 8, 1, 0, 0, 0), (86, .aload_n 0, 0, 0, 0, 0, 0, 0), (87, .bipush 6, 0, 0, 0, 0, 6, 0), (89, .newarray .int, 0, 0, 0, 0, 0, 0), (91, .putfield 55, 5, 9, 1, 0, 0, 0), (94, .aload_n 0, 0, 0, 0, 0, 0, 0), (95, .bipush 6, 0, 0, 0, 0, 6, 0), (97, .newarray .int, 0, 0, 0, 0, 0, 0), (99, .putfield 58, 5, 10, 1, 0, 0, 0), (102, .return_, 0, 0, 0, 0, 0, 0)]
def az_p48 : List az_I := [(0, .iload_n 1, 1, 0, 0, 0, 0, 0), (1, .iconst 1, 0, 0, 0, 0, 1, 0), (2, .if_icmp .lt 9, 6, 0, 0, 0, 0, 0), (5, .iload_n 1, 1, 0, 0, 0, 0, 0), (6, .bipush 6, 0, 0, 0, 0, 6, 0), (8, .if_icmp .le 6, 8, 0, 0, 0, 0, 0), (11, .bipush (-2), 0, 0, 0, 0, (-2), 0), (13, .ireturn, 0, 0, 0, 0, 0, 0), (14, .aload_n 0, 0, 0, 0, 0, 0, 0), (15, .getfield 61, 5, 11, 0, 0, 0, 0), (18, .bipush 8, 0, 0, 0, 0, 8, 0), (20, .if_icmp .lt 8, 14, 0, 0, 0, 0, 0), (23, .bipush (-4), 0, 0, 0, 0, (-4), 0), (25, .goto 15, 20, 0, 0, 0, 0, 0), (28, .aload_n 0, 0, 0, 0, 0, 0, 0), (29, .new 9, 4, 0, 0, 0, 0, 0), (32, .dup, 0, 0, 0, 0, 0, 0), (33, .iload_n 1, 1, 0, 0, 0, 0, 0), (34, .invokespecial 65, 22, 2, 0, 0, 0, 0), (37, .invokevirtual 68, 83, 2, 1, 5, 0, 0), (40, .ireturn, 0, 0, 0, 0, 0, 0)]
def az_p49 : List az_I := [(0, .aload_n 0, 0, 0, 0, 0, 0, 0), (1, .iload_n 1, 1, 0, 0, 0, 0, 0), (2, .invokevirtual 72, 81, 2, 3, 5, 0, 0), (5, .astore 4, 4, 0, 0, 0, 0, 0), (7, .aload 4, 4, 0, 0, 0, 0, 0), (9, .ifnull 21, 14, 0, 0, 0, 0, 0), (12, .aload 4, 4, 0, 0, 0, 0, 0), (14, .iload_n 2, 2, 0, 0, 0, 0, 0), (15, .invokevirtual 76, 28, 2, 1, 4, 0, 0), (18, .ifCond .eq 12, 14, 0, 0, 0, 0, 0), (21, .aload 4, 4, 0, 0, 0, 0, 0), (23, .iload_n 3, 3, 0, 0, 0, 0, 0), (24, .invokevirtual 76, 28, 2, 1, 4, 0, 0), (27, .ifCond .ne 6, 16, 0, 0, 0, 0, 0), (30, .bipush (-2), 0, 0, 0, 0, (-2), 0), (32, .ireturn, 0, 0, 0, 0, 0, 0), (33, .aload 4, 4, 0, 0, 0, 0, 0), (35, .getfield 80, 4, 2, 0, 0, 0, 0), (38, .ifCond .eq 6, 21, 0, 0, 0, 0, 0), (41, .bipush (-3), 0, 0, 0, 0, (-3), 0), (43, .ireturn, 0, 0, 0, 0, 0, 0), (44, .aload 4, 4, 0, 0, 0, 0, 0), (46, .getfield 84, 4, 1, 0, 0, 0, 0), (49, .bipush 24, 0, 0, 0, 0, 24, 0), (51, .if_icmp .lt 8, 27, 0, 0, 0, 0, 0), (54, .bipush (-4), 0, 0, 0, 0, (-4), 0), (56, .goto 10, 31, 0, 0, 0, 0, 0), (59, .aload 4, 4, 0, 0, 0, 0, 0), (61, .iload_n 2, 2, 0, 0, 0, 0, 0), (62, .iload_n 3, 3, 0, 0, 0, 0, 0), (63, .invokevirtual 87, 23, 3, 1, 4, 0, 0), (66, .ireturn, 0, 0, 0, 0, 0, 0)]
def az_p50 : List az_I := [(0, .aload_n 0, 0, 0, 0, 0, 0, 0), (1, .iload_n 1, 1, 0, 0, 0, 0, 0), (2, .invokevirtual 72, 81, 2, 3, 5, 0, 0), (5, .astore 5, 5, 0, 0, 0, 0, 0), (7, .aload 5, 5, 0, 0, 0, 0, 0), (9, .ifnull 31, 18, 0, 0, 0, 0, 0), (12, .aload 5, 5, 0, 0, 0, 0, 0), (14, .iload_n 2, 2, 0, 0, 0, 0, 0), (15, .invokevirtual 91, 29, 2, 1, 4, 0, 0), (18, .ifCond .eq 22, 18, 0, 0, 0, 0, 0), (21, .aload 5, 5, 0, 0, 0, 0, 0), (23, .iload_n 3, 3, 0, 0, 0, 0, 0), (24, .invokevirtual 91, 29, 2, 1, 4, 0, 0), (27, .ifCond .eq 13, 18, 0, 0, 0, 0, 0), (30, .aload 5, 5, 0, 0, 0, 0, 0), (32, .iload 4, 4, 0, 0, 0, 0, 0), (34, .invokevirtual 91, 29, 2, 1, 4, 0, 0), (37, .ifCond .ne 6, 20, 0, 0, 0, 0, 0), (40, .bipush (-2), 0, 0, 0, 0, (-2), 0), (42, .ireturn, 0, 0, 0, 0, 0, 0), (43, .aload 5, 5, 0, 0, 0, 0, 0), (45, .getfield 80, 4, 2, 0, 0, 0, 0), (48, .ifCond .ne 31, 36, 0, 0, 0, 0, 0), (51, .aload 5, 5, 0, 0, 0, 0, 0), (53, .iload_n 2, 2, 0, 0, 0, 0, 0), (54, .iload_n 3, 3, 0, 0, 0, 0, 0), (55, .invokevirtual 94, 31, 3, 1, 4, 0, 0), (58, .ifCond .eq 21, 36, 0, 0, 0, 0, 0), (61, .aload 5, 5, 0, 0, 0, 0, 0), (63, .iload_n 2, 2, 0, 0, 0, 0, 0), (64, .invokevirtual 98, 30, 2, 1, 4, 0, 0), (67, .ifCond .ne 12, 36, 0, 0, 0, 0, 0), (70, .aload 5, 5, 0, 0, 0, 0, 0), (72, .iload_n 3, 3, 0, 0, 0, 0, 0), (73, .invokevirtual 98, 30, 2, 1, 4, 0, 0), (76, .ifCond .eq 6, 38, 0, 0, 0, 0, 0), (79, .bipush (-3), 0, 0, 0, 0, (-3), 0), (81, .ireturn, 0, 0, 0, 0, 0, 0), (82, .aload 5, 5, 0, 0, 0, 0, 0), (84, .iload 4, 4, 0, 0, 0, 0, 0), (86, .invokevirtual 101, 26, 2, 1, 4, 0, 0), (89, .aload 5, 5, 0, 0, 0, 0, 0), (91, .iload_n 2, 2, 0, 0, 0, 0, 0), (92, .invokevirtual 101, 26, 2, 1, 4, 0, 0), (95, .if_icmp .ne 19, 52, 0, 0, 0, 0, 0), (98, .aload 5, 5, 0, 0, 0, 0, 0), (100, .iload 4, 4, 0, 0, 0, 0, 0), (102, .invokevirtual 105, 27, 2, 1, 4, 0, 0), (105, .aload 5, 5, 0, 0, 0, 0, 0), (107, .iload_n 3, 3, 0, 0, 0, 0, 0), (108, .invokevirtual 105, 27, 2, 1, 4, 0, 0), (111, .if_icmp .eq 6, 54, 0, 0, 0, 0, 0), (114, .bipush (-3), 0, 0, 0, 0, (-3), 0), (116, .ireturn, 0, 0, 0, 0, 0, 0), (117, .aload 5, 5, 0, 0, 0, 0, 0), (119, .iload_n 2, 2, 0, 0, 0, 0, 0), (120, .iload_n 3, 3, 0, 0, 0, 0, 0), (121, .iload 4, 4, 0, 0, 0, 0, 0), (123, .invokevirtual 108, 24, 4, 0, 4, 0, 0), (126, .iconst 1, 0, 0, 0, 0, 1, 0), (127, .ireturn, 0, 0, 0, 0, 0, 0)]
def az_p51 : List az_I := [(0, .aload_n 0, 0, 0, 0, 0, 0, 0), (1, .iload_n 1, 1, 0, 0, 0, 0, 0), (2, .invokevirtual 72, 81, 2, 3, 5, 0, 0), (5, .astore_n 2, 2, 0, 0, 0, 0, 0), (6, .aload_n 2, 2, 0, 0, 0, 0, 0), (7, .ifnonnull 6, 8, 0, 0, 0, 0, 0), (10, .bipush (-2), 0, 0, 0, 0, (-2), 0), (12, .ireturn, 0, 0, 0, 0, 0, 0), (13, .aload_n 2, 2, 0, 0, 0, 0, 0), (14, .getfield 80, 4, 2, 0, 0, 0, 0), (17, .ifCond .eq 6, 13, 0, 0, 0, 0, 0), (20, .bipush (-3), 0, 0, 0, 0, (-3), 0), (22, .ireturn, 0, 0, 0, 0, 0, 0), (23, .aload_n 2, 2, 0, 0, 0, 0, 0), (24, .aload_n 0, 0, 0, 0, 0, 0, 0), (25, .getfield 46, 5, 6, 1, 0, 0, 0), (28, .invokevirtual 112, 35, 2, 0, 4, 0, 0), (31, .aload_n 0, 0, 0, 0, 0, 0, 0), (32, .getfield 46, 5, 6, 1, 0, 0, 0), (35, .iconst 0, 0, 0, 0, 0, 0, 0), (36, .invokestatic 116, 78, 2, 1, 0, 0, 0), (39, .ifCond .eq 6, 24, 0, 0, 0, 0, 0), (42, .bipush (-3), 0, 0, 0, 0, (-3), 0), (44, .ireturn, 0, 0, 0, 0, 0, 0), (45, .aload_n 2, 2, 0, 0, 0, 0, 0), (46, .iconst 1, 0, 0, 0, 0, 1, 0), (47, .putfield 80, 4, 2, 2, 0, 0, 0), (50, .iconst 1, 0, 0, 0, 0, 1, 0), (51, .ireturn, 0, 0, 0, 0, 0, 0)]
def az_p52 : List az_I := [(0, .aload_n 0, 0, 0, 0, 0, 0, 0), (1, .iload_n 1, 1, 0, 0, 0, 0, 0), (2, .invokevirtual 72, 81, 2, 3, 5, 0, 0), (5, .astore_n 3, 3, 0, 0, 0, 0, 0), (6, .aload_n 3, 3, 0, 0, 0, 0, 0), (7, .ifnull 12, 11, 0, 0, 0, 0, 0), (10, .iload_n 2, 2, 0, 0, 0, 0, 0), (11, .ifCond .lt 8, 11, 0, 0, 0, 0, 0), (14, .iload_n 2, 2, 0, 0, 0, 0, 0), (15, .iconst 3, 0, 0, 0, 0, 3, 0), (16, .if_icmp .le 6, 13, 0, 0, 0, 0, 0), (19, .bipush (-2), 0, 0, 0, 0, (-2), 0), (21, .ireturn, 0, 0, 0, 0, 0, 0), (22, .aload_n 3, 3, 0, 0, 0, 0, 0), (23, .aload_n 0, 0, 0, 0, 0, 0, 0), (24, .getfield 46, 5, 6, 1, 0, 0, 0), (27, .invokevirtual 112, 35, 2, 0, 4, 0, 0), (30, .aload_n 0, 0, 0, 0, 0, 0, 0), (31, .getfield 46, 5, 6, 1, 0, 0, 0), (34, .iload_n 2, 2, 0, 0, 0, 0, 0), (35, .invokestatic 116, 78, 2, 1, 0, 0, 0), (38, .ireturn, 0, 0, 0, 0, 0, 0)]
def az_p53 : List az_I := [(0, .iload_n 1, 1, 0, 0, 0, 0, 0), (1, .iconst 1, 0, 0, 0, 0, 1, 0), (2, .if_icmp .lt 9, 6, 0, 0, 0, 0, 0), (5, .iload_n 1, 1, 0, 0, 0, 0, 0), (6, .bipush 6, 0, 0, 0, 0, 6, 0), (8, .if_icmp .le 6, 8, 0, 0, 0, 0, 0), (11, .bipush (-2), 0, 0, 0, 0, (-2), 0), (13, .ireturn, 0, 0, 0, 0, 0, 0), (14, .iload_n 1, 1, 0, 0, 0, 0, 0), (15, .lload_n 2, 2, 0, 0, 0, 0, 0), (16, .invokestatic 120, 88, 2, 1, 0, 0, 0), (19, .ifCond .eq 13, 17, 0, 0, 0, 0, 0), (22, .iload_n 1, 1, 0, 0, 0, 0, 0), (23, .lload_n 2, 2, 0, 0, 0, 0, 0), (24, .invokestatic 124, 90, 2, 1, 0, 0, 0), (27, .bipush 24, 0, 0, 0, 0, 24, 0), (29, .if_icmp .le 6, 19, 0, 0, 0, 0, 0), (32, .bipush (-3), 0, 0, 0, 0, (-3), 0), (34, .ireturn, 0, 0, 0, 0, 0, 0), (35, .aload_n 0, 0, 0, 0, 0, 0, 0), (36, .getfield 61, 5, 11, 0, 0, 0, 0), (39, .bipush 8, 0, 0, 0, 0, 8, 0), (41, .if_icmp .lt 8, 25, 0, 0, 0, 0, 0), (44, .bipush (-4), 0, 0, 0, 0, (-4), 0), (46, .goto 12, 30, 0, 0, 0, 0, 0), (49, .aload_n 0, 0, 0, 0, 0, 0, 0), (50, .iload_n 1, 1, 0, 0, 0, 0, 0), (51, .lload_n 2, 2, 0, 0, 0, 0, 0), (52, .invokestatic 128, 91, 2, 3, 0, 0, 0), (55, .invokevirtual 68, 83, 2, 1, 5, 0, 0), (58, .ireturn, 0, 0, 0, 0, 0, 0)]
def az_p54 : List az_I := [(0, .aload_n 0, 0, 0, 0, 0, 0, 0), (1, .iload_n 1, 1, 0, 0, 0, 0, 0), (2, .invokevirtual 72, 81, 2, 3, 5, 0, 0), (5, .astore_n 2, 2, 0, 0, 0, 0, 0), (6, .aload_n 2, 2, 0, 0, 0, 0, 0), (7, .ifnonnull 6, 8, 0, 0, 0, 0, 0), (10, .bipush (-2), 0, 0, 0, 0, (-2), 0), (12, .ireturn, 0, 0, 0, 0, 0, 0), (13, .aload_n 2, 2, 0, 0, 0, 0, 0), (14, .getfield 80, 4, 2, 0, 0, 0, 0), (17, .ifCond .ne 6, 13, 0, 0, 0, 0, 0), (20, .bipush (-3), 0, 0, 0, 0, (-3), 0), (22, .ireturn, 0, 0, 0, 0, 0, 0), (23, .aload_n 0, 0, 0, 0, 0, 0, 0), (24, .getfield 61, 5, 11, 0, 0, 0, 0), (27, .bipush 8, 0, 0, 0, 0, 8, 0), (29, .if_icmp .lt 8, 19, 0, 0, 0, 0, 0), (32, .bipush (-4), 0, 0, 0, 0, (-4), 0), (34, .goto 11, 23, 0, 0, 0, 0, 0), (37, .aload_n 0, 0, 0, 0, 0, 0, 0), (38, .aload_n 2, 2, 0, 0, 0, 0, 0), (39, .invokestatic 132, 92, 1, 3, 0, 0, 0), (42, .invokevirtual 68, 83, 2, 1, 5, 0, 0), (45, .ireturn, 0, 0, 0, 0, 0, 0)]
def az_p55 : List az_I := [(0, .aload_n 0, 0, 0, 0, 0, 0, 0), (1, .iload_n 1, 1, 0, 0, 0, 0, 0), (2, .invokevirtual 72, 81, 2, 3, 5, 0, 0), (5, .astore_n 3, 3, 0, 0, 0, 0, 0), (6, .aload_n 0, 0, 0, 0, 0, 0, 0), (7, .iload_n 2, 2, 0, 0, 0, 0, 0), (8, .invokevirtual 72, 81, 2, 3, 5, 0, 0), (11, .astore 4, 4, 0, 0, 0, 0, 0), (13, .aload_n 3, 3, 0, 0, 0, 0, 0), (14, .ifnull 8, 12, 0, 0, 0, 0, 0), (17, .aload 4, 4, 0, 0, 0, 0, 0), (19, .ifnonnull 6, 14, 0, 0, 0, 0, 0), (22, .bipush (-2), 0, 0, 0, 0, (-2), 0), (24, .ireturn, 0, 0, 0, 0, 0, 0), (25, .aload_n 3, 3, 0, 0, 0, 0, 0), (26, .getfield 80, 4, 2, 0, 0, 0, 0), (29, .ifCond .eq 11, 20, 0, 0, 0, 0, 0), (32, .aload 4, 4, 0, 0, 0, 0, 0), (34, .getfield 80, 4, 2, 0, 0, 0, 0), (37, .ifCond .ne 6, 22, 0, 0, 0, 0, 0), (40, .bipush (-3), 0, 0, 0, 0, (-3), 0), (42, .ireturn, 0, 0, 0, 0, 0, 0), (43, .aload_n 3, 3, 0, 0, 0, 0, 0), (44, .getfield 136, 4, 0, 0, 0, 0, 0), (47, .aload 4, 4, 0, 0, 0, 0, 0), (49, .getfield 136, 4, 0, 0, 0, 0, 0), (52, .imul, 0, 0, 0, 0, 0, 0), (53, .bipush 6, 0, 0, 0, 0, 6, 0), (55, .if_icmp .gt 18, 36, 0, 0, 0, 0, 0), (58, .aload_n 3, 3, 0, 0, 0, 0, 0), (59, .getfield 84, 4, 1, 0, 0, 0, 0), (62, .aload 4, 4, 0, 0, 0, 0, 0), (64, .getfield 84, 4, 1, 0, 0, 0, 0), (67, .imul, 0, 0, 0, 0, 0, 0), (68, .bipush 24, 0, 0, 0, 0, 24, 0), (70, .if_icmp .le 6, 38, 0, 0, 0, 0, 0), (73, .bipush (-3), 0, 0, 0, 0, (-3), 0), (75, .ireturn, 0, 0, 0, 0, 0, 0), (76, .aload_n 0, 0, 0, 0, 0, 0, 0), (77, .getfield 61, 5, 11, 0, 0, 0, 0), (80, .bipush 8, 0, 0, 0, 0, 8, 0), (82, .if_icmp .lt 8, 44, 0, 0, 0, 0, 0), (85, .bipush (-4), 0, 0, 0, 0, (-4), 0), (87, .goto 13, 49, 0, 0, 0, 0, 0), (90, .aload_n 0, 0, 0, 0, 0, 0, 0), (91, .aload_n 3, 3, 0, 0, 0, 0, 0), (92, .aload 4, 4, 0, 0, 0, 0, 0), (94, .invokestatic 139, 93, 2, 3, 0, 0, 0), (97, .invokevirtual 68, 83, 2, 1, 5, 0, 0), (100, .ireturn, 0, 0, 0, 0, 0, 0)]
def az_p56 : List az_I := [(0, .aload_n 0, 0, 0, 0, 0, 0, 0), (1, .iload_n 1, 1, 0, 0, 0, 0, 0), (2, .invokevirtual 72, 81, 2, 3, 5, 0, 0), (5, .astore_n 3, 3, 0, 0, 0, 0, 0), (6, .aload_n 3, 3, 0, 0, 0, 0, 0), (7, .ifnonnull 6, 8, 0, 0, 0, 0, 0), (10, .bipush (-2), 0, 0, 0, 0, (-2), 0), (12, .ireturn, 0, 0, 0, 0, 0, 0), (13, .iload_n 2, 2, 0, 0, 0, 0, 0), (14, .tableswitch 79 0 4 #[34, 39, 44, 57, 62], 0, 0, 0, 0, 0, 0), (48, .aload_n 3, 3, 0, 0, 0, 0, 0), (49, .getfield 136, 4, 0, 0, 0, 0, 0), (52, .ireturn, 0, 0, 0, 0, 0, 0), (53, .aload_n 3, 3, 0, 0, 0, 0, 0), (54, .getfield 84, 4, 1, 0, 0, 0, 0), (57, .ireturn, 0, 0, 0, 0, 0, 0), (58, .aload_n 3, 3, 0, 0, 0, 0, 0), (59, .getfield 80, 4, 2, 0, 0, 0, 0), (62, .ifCond .eq 7, 21, 0, 0, 0, 0, 0), (65, .iconst 1, 0, 0, 0, 0, 1, 0), (66, .goto 4, 22, 0, 0, 0, 0, 0), (69, .iconst 0, 0, 0, 0, 0, 0, 0), (70, .ireturn, 0, 0, 0, 0, 0, 0), (71, .aload_n 3, 3, 0, 0, 0, 0, 0), (72, .invokevirtual 143, 39, 1, 1, 4, 0, 0), (75, .ireturn, 0, 0, 0, 0, 0, 0), (76, .aload_n 3, 3, 0, 0, 0, 0, 0), (77, .getfield 80, 4, 2, 0, 0, 0, 0), (80, .ifCond .eq 10, 32, 0, 0, 0, 0, 0), (83, .aload_n 3, 3, 0, 0, 0, 0, 0), (84, .invokevirtual 147, 40, 1, 1, 4, 0, 0), (87, .goto 5, 33, 0, 0, 0, 0, 0), (90, .bipush (-3), 0, 0, 0, 0, (-3), 0), (92, .ireturn, 0, 0, 0, 0, 0, 0), (93, .bipush (-2), 0, 0, 0, 0, (-2), 0), (95, .ireturn, 0, 0, 0, 0, 0, 0)]
def az_p57 : List az_I := [(0, .aload_n 0, 0, 0, 0, 0, 0, 0), (1, .iload_n 1, 1, 0, 0, 0, 0, 0), (2, .invokevirtual 72, 81, 2, 3, 5, 0, 0), (5, .astore 4, 4, 0, 0, 0, 0, 0), (7, .aload 4, 4, 0, 0, 0, 0, 0), (9, .ifnull 21, 15, 0, 0, 0, 0, 0), (12, .aload 4, 4, 0, 0, 0, 0, 0), (14, .iload_n 2, 2, 0, 0, 0, 0, 0), (15, .invokevirtual 91, 29, 2, 1, 4, 0, 0), (18, .ifCond .eq 12, 15, 0, 0, 0, 0, 0), (21, .iload_n 3, 3, 0, 0, 0, 0, 0), (22, .ifCond .lt 8, 15, 0, 0, 0, 0, 0), (25, .iload_n 3, 3, 0, 0, 0, 0, 0), (26, .iconst 1, 0, 0, 0, 0, 1, 0), (27, .if_icmp .le 6, 17, 0, 0, 0, 0, 0), (30, .bipush (-2), 0, 0, 0, 0, (-2), 0), (32, .ireturn, 0, 0, 0, 0, 0, 0), (33, .iload_n 3, 3, 0, 0, 0, 0, 0), (34, .ifCond .ne 12, 23, 0, 0, 0, 0, 0), (37, .aload 4, 4, 0, 0, 0, 0, 0), (39, .iload_n 2, 2, 0, 0, 0, 0, 0), (40, .invokevirtual 101, 26, 2, 1, 4, 0, 0), (43, .goto 9, 26, 0, 0, 0, 0, 0), (46, .aload 4, 4, 0, 0, 0, 0, 0), (48, .iload_n 2, 2, 0, 0, 0, 0, 0), (49, .invokevirtual 105, 27, 2, 1, 4, 0, 0), (52, .ireturn, 0, 0, 0, 0, 0, 0)]
def az_p58 : List az_I := [(0, .aload_n 0, 0, 0, 0, 0, 0, 0), (1, .iload_n 1, 1, 0, 0, 0, 0, 0), (2, .invokevirtual 72, 81, 2, 3, 5, 0, 0), (5, .astore 4, 4, 0, 0, 0, 0, 0), (7, .aload 4, 4, 0, 0, 0, 0, 0), (9, .ifnull 21, 14, 0, 0, 0, 0, 0), (12, .aload 4, 4, 0, 0, 0, 0, 0), (14, .iload_n 2, 2, 0, 0, 0, 0, 0), (15, .invokevirtual 91, 29, 2, 1, 4, 0, 0), (18, .ifCond .eq 12, 14, 0, 0, 0, 0, 0), (21, .aload 4, 4, 0, 0, 0, 0, 0), (23, .iload_n 3, 3, 0, 0, 0, 0, 0), (24, .invokevirtual 91, 29, 2, 1, 4, 0, 0), (27, .ifCond .ne 6, 16, 0, 0, 0, 0, 0), (30, .bipush (-2), 0, 0, 0, 0, (-2), 0), (32, .ireturn, 0, 0, 0, 0, 0, 0), (33, .aload 4, 4, 0, 0, 0, 0, 0), (35, .iload_n 2, 2, 0, 0, 0, 0, 0), (36, .iload_n 3, 3, 0, 0, 0, 0, 0), (37, .invokevirtual 150, 25, 3, 1, 4, 0, 0), (40, .ireturn, 0, 0, 0, 0, 0, 0)]
def az_p59 : List az_I := [(0, .aload_n 0, 0, 0, 0, 0, 0, 0), (1, .iload_n 1, 1, 0, 0, 0, 0, 0), (2, .invokevirtual 72, 81, 2, 3, 5, 0, 0), (5, .astore_n 3, 3, 0, 0, 0, 0, 0), (6, .aload_n 0, 0, 0, 0, 0, 0, 0), (7, .iload_n 2, 2, 0, 0, 0, 0, 0), (8, .invokevirtual 72, 81, 2, 3, 5, 0, 0), (11, .astore 4, 4, 0, 0, 0, 0, 0), (13, .aload_n 3, 3, 0, 0, 0, 0, 0), (14, .ifnull 8, 12, 0, 0, 0, 0, 0), (17, .aload 4, 4, 0, 0, 0, 0, 0), (19, .ifnonnull 6, 14, 0, 0, 0, 0, 0), (22, .bipush (-2), 0, 0, 0, 0, (-2), 0), (24, .ireturn, 0, 0, 0, 0, 0, 0), (25, .aload_n 3, 3, 0, 0, 0, 0, 0), (26, .getfield 80, 4, 2, 0, 0, 0, 0), (29, .ifCond .eq 11, 20, 0, 0, 0, 0, 0), (32, .aload 4, 4, 0, 0, 0, 0, 0), (34, .getfield 80, 4, 2, 0, 0, 0, 0), (37, .ifCond .ne 6, 22, 0, 0, 0, 0, 0), (40, .bipush (-3), 0, 0, 0, 0, (-3), 0), (42, .ireturn, 0, 0, 0, 0, 0, 0), (43, .aload_n 0, 0, 0, 0, 0, 0, 0), (44, .aload_n 3, 3, 0, 0, 0, 0, 0), (45, .aload 4, 4, 0, 0, 0, 0, 0), (47, .iconst (-1), 0, 0, 0, 0, (-1), 0), (48, .invokevirtual 153, 96, 4, 1, 5, 0, 0), (51, .istore 5, 5, 0, 0, 0, 0, 0), (53, .aload_n 0, 0, 0, 0, 0, 0, 0), (54, .getfield 24, 5, 2, 1, 0, 0, 0), (57, .getfield 157, 3, 2, 0, 0, 0, 0), (60, .ifCond .eq 8, 34, 0, 0, 0, 0, 0), (63, .bipush (-5), 0, 0, 0, 0, (-5), 0), (65, .goto 5, 35, 0, 0, 0, 0, 0), (68, .iload 5, 5, 0, 0, 0, 0, 0), (70, .ireturn, 0, 0, 0, 0, 0, 0)]
def az_p60 : List az_I := [(0, .aload_n 0, 0, 0, 0, 0, 0, 0), (1, .iload_n 1, 1, 0, 0, 0, 0, 0), (2, .invokevirtual 72, 81, 2, 3, 5, 0, 0), (5, .astore 4, 4, 0, 0, 0, 0, 0), (7, .aload_n 0, 0, 0, 0, 0, 0, 0), (8, .iload_n 2, 2, 0, 0, 0, 0, 0), (9, .invokevirtual 72, 81, 2, 3, 5, 0, 0), (12, .astore 5, 5, 0, 0, 0, 0, 0), (14, .aload 4, 4, 0, 0, 0, 0, 0), (16, .ifnull 12, 14, 0, 0, 0, 0, 0), (19, .aload 5, 5, 0, 0, 0, 0, 0), (21, .ifnull 7, 14, 0, 0, 0, 0, 0), (24, .iload_n 3, 3, 0, 0, 0, 0, 0), (25, .ifCond .ge 6, 16, 0, 0, 0, 0, 0), (28, .bipush (-2), 0, 0, 0, 0, (-2), 0), (30, .ireturn, 0, 0, 0, 0, 0, 0), (31, .aload 4, 4, 0, 0, 0, 0, 0), (33, .getfield 80, 4, 2, 0, 0, 0, 0), (36, .ifCond .eq 11, 22, 0, 0, 0, 0, 0), (39, .aload 5, 5, 0, 0, 0, 0, 0), (41, .getfield 80, 4, 2, 0, 0, 0, 0), (44, .ifCond .ne 6, 24, 0, 0, 0, 0, 0), (47, .bipush (-3), 0, 0, 0, 0, (-3), 0), (49, .ireturn, 0, 0, 0, 0, 0, 0), (50, .aload_n 0, 0, 0, 0, 0, 0, 0), (51, .aload 4, 4, 0, 0, 0, 0, 0), (53, .aload 5, 5, 0, 0, 0, 0, 0), (55, .iload_n 3, 3, 0, 0, 0, 0, 0), (56, .invokevirtual 153, 96, 4, 1, 5, 0, 0), (59, .istore 6, 6, 0, 0, 0, 0, 0), (61, .aload_n 0, 0, 0, 0, 0, 0, 0), (62, .getfield 24, 5, 2, 1, 0, 0, 0), (65, .getfield 157, 3, 2, 0, 0, 0, 0), (68, .ifCond .ne 12, 39, 0, 0, 0, 0, 0), (71, .iload_n 3, 3, 0, 0, 0, 0, 0), (72, .iload 6, 6, 0, 0, 0, 0, 0), (74, .if_icmp .lt 6, 39, 0, 0, 0, 0, 0), (77, .bipush (-3), 0, 0, 0, 0, (-3), 0), (79, .ireturn, 0, 0, 0, 0, 0, 0), (80, .aload_n 0, 0, 0, 0, 0, 0, 0), (81, .getfield 160, 5, 12, 0, 0, 0, 0), (84, .bipush 24, 0, 0, 0, 0, 24, 0), (86, .if_icmp .lt 6, 45, 0, 0, 0, 0, 0), (89, .bipush (-4), 0, 0, 0, 0, (-4), 0), (91, .ireturn, 0, 0, 0, 0, 0, 0), (92, .aload_n 0, 0, 0, 0, 0, 0, 0), (93, .getfield 24, 5, 2, 1, 0, 0, 0), (96, .getfield 157, 3, 2, 0, 0, 0, 0), (99, .ifCond .eq 6, 51, 0, 0, 0, 0, 0), (102, .bipush (-5), 0, 0, 0, 0, (-5), 0), (104, .ireturn, 0, 0, 0, 0, 0, 0), (105, .new 15, 0, 0, 0, 0, 0, 0), (108, .dup, 0, 0, 0, 0, 0, 0), (109, .iload_n 1, 1, 0, 0, 0, 0, 0), (110, .iload_n 2, 2, 0, 0, 0, 0, 0), (111, .aload 4, 4, 0, 0, 0, 0, 0), (113, .aload 5, 5, 0, 0, 0, 0, 0), (115, .invokespecial 163, 1, 5, 0, 0, 0, 0), (118, .astore 7, 7, 0, 0, 0, 0, 0), (120, .aload_n 0, 0, 0, 0, 0, 0, 0), (121, .getfield 42, 5, 5, 1, 0, 0, 0), (124, .aload 7, 7, 0, 0, 0, 0, 0), (126, .getfield 166, 0, 4, 1, 0, 0, 0), (129, .aload 4, 4, 0, 0, 0, 0, 0), (131, .getfield 84, 4, 1, 0, 0, 0, 0), (134, .invokestatic 169, 80, 3, 0, 0, 0, 0), (137, .aload_n 0, 0, 0, 0, 0, 0, 0), (138, .aload 7, 7, 0, 0, 0, 0, 0), (140, .invokevirtual 173, 84, 2, 1, 5, 0, 0), (143, .ireturn, 0, 0, 0, 0, 0, 0)]
def az_p61 : List az_I := [(0, .aload_n 0, 0, 0, 0, 0, 0, 0), (1, .iload_n 1, 1, 0, 0, 0, 0, 0), (2, .invokevirtual 177, 82, 2, 3, 5, 0, 0), (5, .astore_n 3, 3, 0, 0, 0, 0, 0), (6, .aload_n 0, 0, 0, 0, 0, 0, 0), (7, .iload_n 2, 2, 0, 0, 0, 0, 0), (8, .invokevirtual 177, 82, 2, 3, 5, 0, 0), (11, .astore 4, 4, 0, 0, 0, 0, 0), (13, .aload_n 3, 3, 0, 0, 0, 0, 0), (14, .ifnull 8, 12, 0, 0, 0, 0, 0), (17, .aload 4, 4, 0, 0, 0, 0, 0), (19, .ifnonnull 6, 14, 0, 0, 0, 0, 0), (22, .bipush (-2), 0, 0, 0, 0, (-2), 0), (24, .ireturn, 0, 0, 0, 0, 0, 0), (25, .aload_n 3, 3, 0, 0, 0, 0, 0), (26, .getfield 181, 0, 1, 0, 0, 0, 0), (29, .aload 4, 4, 0, 0, 0, 0, 0), (31, .getfield 184, 0, 0, 0, 0, 0, 0), (34, .if_icmp .eq 6, 21, 0, 0, 0, 0, 0), (37, .bipush (-3), 0, 0, 0, 0, (-3), 0), (39, .ireturn, 0, 0, 0, 0, 0, 0), (40, .aload_n 0, 0, 0, 0, 0, 0, 0), (41, .getfield 160, 5, 12, 0, 0, 0, 0), (44, .bipush 24, 0, 0, 0, 0, 24, 0), (46, .if_icmp .lt 6, 27, 0, 0, 0, 0, 0), (49, .bipush (-4), 0, 0, 0, 0, (-4), 0), (51, .ireturn, 0, 0, 0, 0, 0, 0), (52, .new 15, 0, 0, 0, 0, 0, 0), (55, .dup, 0, 0, 0, 0, 0, 0), (56, .aload_n 3, 3, 0, 0, 0, 0, 0), (57, .getfield 184, 0, 0, 0, 0, 0, 0), (60, .aload 4, 4, 0, 0, 0, 0, 0), (62, .getfield 181, 0, 1, 0, 0, 0, 0), (65, .aload_n 3, 3, 0, 0, 0, 0, 0), (66, .getfield 187, 0, 2, 1, 0, 0, 0), (69, .aload 4, 4, 0, 0, 0, 0, 0), (71, .getfield 191, 0, 3, 1, 0, 0, 0), (74, .invokespecial 163, 1, 5, 0, 0, 0, 0), (77, .astore 5, 5, 0, 0, 0, 0, 0), (79, .iconst 0, 0, 0, 0, 0, 0, 0), (80, .istore 6, 6, 0, 0, 0, 0, 0), (82, .iload 6, 6, 0, 0, 0, 0, 0), (84, .aload_n 3, 3, 0, 0, 0, 0, 0), (85, .getfield 187, 0, 2, 1, 0, 0, 0), (88, .getfield 84, 4, 1, 0, 0, 0, 0), (91, .if_icmp .ge 30, 57, 0, 0, 0, 0, 0), (94, .aload 5, 5, 0, 0, 0, 0, 0), (96, .getfield 166, 0, 4, 1, 0, 0, 0), (99, .iload 6, 6, 0, 0, 0, 0, 0), (101, .aload 4, 4, 0, 0, 0, 0, 0), (103, .aload_n 3, 3, 0, 0, 0, 0, 0), (104, .iload 6, 6, 0, 0, 0, 0, 0), (106, .invokevirtual 194, 2, 2, 1, 0, 0, 0), (109, .invokevirtual 194, 2, 2, 1, 0, 0, 0), (112, .invokestatic 197, 79, 3, 0, 0, 0, 0), (115, .iinc 6 1, 6, 0, 0, 0, 1, 0), (118, .goto (-36), 41, 0, 0, 0, 0, 0), (121, .aload_n 0, 0, 0, 0, 0, 0, 0), (122, .aload 5, 5, 0, 0, 0, 0, 0), (124, .invokevirtual 173, 84, 2, 1, 5, 0, 0), (127, .ireturn, 0, 0, 0, 0, 0, 0)]
def az_p62 : List az_I := [(0, .aload_n 0, 0, 0, 0, 0, 0, 0), (1, .iload_n 1, 1, 0, 0, 0, 0, 0), (2, .invokevirtual 177, 82, 2, 3, 5, 0, 0), (5, .astore_n 3, 3, 0, 0, 0, 0, 0), (6, .aload_n 3, 3, 0, 0, 0, 0, 0), (7, .ifnonnull 6, 8, 0, 0, 0, 0, 0), (10, .bipush (-2), 0, 0, 0, 0, (-2), 0), (12, .ireturn, 0, 0, 0, 0, 0, 0), (13, .iload_n 2, 2, 0, 0, 0, 0, 0), (14, .tableswitch 112 0 4 #[34, 39, 44, 64, 88], 0, 0, 0, 0, 0, 0), (48, .aload_n 3, 3, 0, 0, 0, 0, 0), (49, .getfield 184, 0, 0, 0, 0, 0, 0), (52, .ireturn, 0, 0, 0, 0, 0, 0), (53, .aload_n 3, 3, 0, 0, 0, 0, 0), (54, .getfield 181, 0, 1, 0, 0, 0, 0), (57, .ireturn, 0, 0, 0, 0, 0, 0), (58, .aload_n 3, 3, 0, 0, 0, 0, 0), (59, .getfield 187, 0, 2, 1, 0, 0, 0), (62, .aload_n 3, 3, 0, 0, 0, 0, 0), (63, .getfield 166, 0, 4, 1, 0, 0, 0), (66, .invokestatic 201, 98, 2, 1, 0, 0, 0), (69, .ifCond .eq 7, 24, 0, 0, 0, 0, 0), (72, .iconst 1, 0, 0, 0, 0, 1, 0), (73, .goto 4, 25, 0, 0, 0, 0, 0), (76, .iconst 0, 0, 0, 0, 0, 0, 0), (77, .ireturn, 0, 0, 0, 0, 0, 0), (78, .aload_n 3, 3, 0, 0, 0, 0, 0), (79, .getfield 187, 0, 2, 1, 0, 0, 0), (82, .aload_n 3, 3, 0, 0, 0, 0, 0), (83, .getfield 191, 0, 3, 1, 0, 0, 0), (86, .aload_n 3, 3, 0, 0, 0, 0, 0), (87, .getfield 166, 0, 4, 1, 0, 0, 0), (90, .invokestatic 205, 99, 3, 1, 0, 0, 0), (93, .ifCond .eq 7, 36, 0, 0, 0, 0, 0), (96, .iconst 1, 0, 0, 0, 0, 1, 0), (97, .goto 4, 37, 0, 0, 0, 0, 0), (100, .iconst 0, 0, 0, 0, 0, 0, 0), (101, .ireturn, 0, 0, 0, 0, 0, 0), (102, .aload_n 3, 3, 0, 0, 0, 0, 0), (103, .getfield 187, 0, 2, 1, 0, 0, 0), (106, .aload_n 3, 3, 0, 0, 0, 0, 0), (107, .getfield 191, 0, 3, 1, 0, 0, 0), (110, .aload_n 3, 3, 0, 0, 0, 0, 0), (111, .getfield 166, 0, 4, 1, 0, 0, 0), (114, .invokestatic 209, 101, 3, 1, 0, 0, 0), (117, .ifCond .eq 7, 48, 0, 0, 0, 0, 0), (120, .iconst 1, 0, 0, 0, 0, 1, 0), (121, .goto 4, 49, 0, 0, 0, 0, 0), (124, .iconst 0, 0, 0, 0, 0, 0, 0), (125, .ireturn, 0, 0, 0, 0, 0, 0), (126, .bipush (-2), 0, 0, 0, 0, (-2), 0), (128, .ireturn, 0, 0, 0, 0, 0, 0)]
def az_p63 : List az_I := [(0, .aload_n 0, 0, 0, 0, 0, 0, 0), (1, .iload_n 1, 1, 0, 0, 0, 0, 0), (2, .invokevirtual 177, 82, 2, 3, 5, 0, 0), (5, .astore_n 3, 3, 0, 0, 0, 0, 0), (6, .aload_n 3, 3, 0, 0, 0, 0, 0), (7, .ifnull 14, 11, 0, 0, 0, 0, 0), (10, .aload_n 3, 3, 0, 0, 0, 0, 0), (11, .getfield 187, 0, 2, 1, 0, 0, 0), (14, .iload_n 2, 2, 0, 0, 0, 0, 0), (15, .invokevirtual 91, 29, 2, 1, 4, 0, 0), (18, .ifCond .ne 8, 13, 0, 0, 0, 0, 0), (21, .bipush (-2), 0, 0, 0, 0, (-2), 0), (23, .goto 8, 16, 0, 0, 0, 0, 0), (26, .aload_n 3, 3, 0, 0, 0, 0, 0), (27, .iload_n 2, 2, 0, 0, 0, 0, 0), (28, .invokevirtual 194, 2, 2, 1, 0, 0, 0), (31, .ireturn, 0, 0, 0, 0, 0, 0)]
def az_p64 : List az_I := [(0, .aload_n 0, 0, 0, 0, 0, 0, 0), (1, .iload_n 1, 1, 0, 0, 0, 0, 0), (2, .invokevirtual 72, 81, 2, 3, 5, 0, 0), (5, .astore_n 3, 3, 0, 0, 0, 0, 0), (6, .aload_n 0, 0, 0, 0, 0, 0, 0), (7, .iload_n 2, 2, 0, 0, 0, 0, 0), (8, .invokevirtual 72, 81, 2, 3, 5, 0, 0), (11, .astore 4, 4, 0, 0, 0, 0, 0), (13, .aload_n 3, 3, 0, 0, 0, 0, 0), (14, .ifnull 8, 12, 0, 0, 0, 0, 0), (17, .aload 4, 4, 0, 0, 0, 0, 0), (19, .ifnonnull 6, 14, 0, 0, 0, 0, 0), (22, .bipush (-2), 0, 0, 0, 0, (-2), 0), (24, .ireturn, 0, 0, 0, 0, 0, 0), (25, .aload_n 3, 3, 0, 0, 0, 0, 0), (26, .getfield 80, 4, 2, 0, 0, 0, 0), (29, .ifCond .eq 11, 20, 0, 0, 0, 0, 0), (32, .aload 4, 4, 0, 0, 0, 0, 0), (34, .getfield 80, 4, 2, 0, 0, 0, 0), (37, .ifCond .ne 6, 22, 0, 0, 0, 0, 0), (40, .bipush (-3), 0, 0, 0, 0, (-3), 0), (42, .ireturn, 0, 0, 0, 0, 0, 0), (43, .iconst 0, 0, 0, 0, 0, 0, 0), (44, .istore 5, 5, 0, 0, 0, 0, 0), (46, .aload_n 0, 0, 0, 0, 0, 0, 0), (47, .getfield 24, 5, 2, 1, 0, 0, 0), (50, .aload_n 3, 3, 0, 0, 0, 0, 0), (51, .invokevirtual 212, 18, 2, 0, 3, 0, 0), (54, .iconst 0, 0, 0, 0, 0, 0, 0), (55, .istore 6, 6, 0, 0, 0, 0, 0), (57, .iload 5, 5, 0, 0, 0, 0, 0), (59, .ifCond .ne 44, 50, 0, 0, 0, 0, 0), (62, .iload 6, 6, 0, 0, 0, 0, 0), (64, .ldc 216, 0, 0, 0, 0, 60000, 0), (66, .if_icmp .gt 37, 50, 0, 0, 0, 0, 0), (69, .aload_n 0, 0, 0, 0, 0, 0, 0), (70, .getfield 24, 5, 2, 1, 0, 0, 0), (73, .aload_n 3, 3, 0, 0, 0, 0, 0), (74, .aload 4, 4, 0, 0, 0, 0, 0), (76, .invokevirtual 217, 19, 3, 1, 3, 0, 0), (79, .ifCond .eq 24, 50, 0, 0, 0, 0, 0), (82, .aload_n 3, 3, 0, 0, 0, 0, 0), (83, .aload 4, 4, 0, 0, 0, 0, 0), (85, .aload_n 0, 0, 0, 0, 0, 0, 0), (86, .getfield 24, 5, 2, 1, 0, 0, 0), (89, .getfield 221, 3, 0, 1, 0, 0, 0), (92, .invokestatic 222, 97, 3, 1, 0, 0, 0), (95, .istore 5, 5, 0, 0, 0, 0, 0), (97, .iinc 6 1, 6, 0, 0, 0, 1, 0), (100, .goto (-43), 30, 0, 0, 0, 0, 0), (103, .aload_n 0, 0, 0, 0, 0, 0, 0), (104, .getfield 24, 5, 2, 1, 0, 0, 0), (107, .getfield 157, 3, 2, 0, 0, 0, 0), (110, .ifCond .eq 6, 56, 0, 0, 0, 0, 0), (113, .bipush (-5), 0, 0, 0, 0, (-5), 0), (115, .ireturn, 0, 0, 0, 0, 0, 0), (116, .iload 5, 5, 0, 0, 0, 0, 0), (118, .ifCond .eq 7, 60, 0, 0, 0, 0, 0), (121, .iconst 1, 0, 0, 0, 0, 1, 0), (122, .goto 4, 61, 0, 0, 0, 0, 0), (125, .iconst 0, 0, 0, 0, 0, 0, 0), (126, .ireturn, 0, 0, 0, 0, 0, 0)]
def az_p65 : List az_I := [(0, .aload_n 0, 0, 0, 0, 0, 0, 0), (1, .iload_n 1, 1, 0, 0, 0, 0, 0), (2, .invokevirtual 177, 82, 2, 3, 5, 0, 0), (5, .astore_n 3, 3, 0, 0, 0, 0, 0), (6, .aload_n 0, 0, 0, 0, 0, 0, 0), (7, .iload_n 2, 2, 0, 0, 0, 0, 0), (8, .invokevirtual 177, 82, 2, 3, 5, 0, 0), (11, .astore 4, 4, 0, 0, 0, 0, 0), (13, .aload_n 3, 3, 0, 0, 0, 0, 0), (14, .ifnull 8, 12, 0, 0, 0, 0, 0), (17, .aload 4, 4, 0, 0, 0, 0, 0), (19, .ifnonnull 8, 14, 0, 0, 0, 0, 0), (22, .bipush (-2), 0, 0, 0, 0, (-2), 0), (24, .goto 11, 19, 0, 0, 0, 0, 0), (27, .aload_n 0, 0, 0, 0, 0, 0, 0), (28, .aload_n 3, 3, 0, 0, 0, 0, 0), (29, .aload 4, 4, 0, 0, 0, 0, 0), (31, .iconst (-1), 0, 0, 0, 0, (-1), 0), (32, .invokevirtual 225, 102, 4, 1, 5, 0, 0), (35, .ireturn, 0, 0, 0, 0, 0, 0)]
def az_p66 : List az_I := [(0, .aload_n 0, 0, 0, 0, 0, 0, 0), (1, .iload_n 1, 1, 0, 0, 0, 0, 0), (2, .invokevirtual 177, 82, 2, 3, 5, 0, 0), (5, .astore 5, 5, 0, 0, 0, 0, 0), (7, .aload_n 0, 0, 0, 0, 0, 0, 0), (8, .iload_n 2, 2, 0, 0, 0, 0, 0), (9, .invokevirtual 177, 82, 2, 3, 5, 0, 0), (12, .astore 6, 6, 0, 0, 0, 0, 0), (14, .aload 5, 5, 0, 0, 0, 0, 0), (16, .ifnull 25, 19, 0, 0, 0, 0, 0), (19, .aload 6, 6, 0, 0, 0, 0, 0), (21, .ifnull 20, 19, 0, 0, 0, 0, 0), (24, .iload_n 3, 3, 0, 0, 0, 0, 0), (25, .ifCond .lt 16, 19, 0, 0, 0, 0, 0), (28, .aload 5, 5, 0, 0, 0, 0, 0), (30, .getfield 187, 0, 2, 1, 0, 0, 0), (33, .iload 4, 4, 0, 0, 0, 0, 0), (35, .invokevirtual 76, 28, 2, 1, 4, 0, 0), (38, .ifCond .ne 6, 21, 0, 0, 0, 0, 0), (41, .bipush (-2), 0, 0, 0, 0, (-2), 0), (43, .ireturn, 0, 0, 0, 0, 0, 0), (44, .aload_n 0, 0, 0, 0, 0, 0, 0), (45, .aload 5, 5, 0, 0, 0, 0, 0), (47, .aload 6, 6, 0, 0, 0, 0, 0), (49, .iload_n 3, 3, 0, 0, 0, 0, 0), (50, .invokevirtual 225, 102, 4, 1, 5, 0, 0), (53, .istore 7, 7, 0, 0, 0, 0, 0), (55, .iload 7, 7, 0, 0, 0, 0, 0), (57, .ifCond .ge 6, 31, 0, 0, 0, 0, 0), (60, .iload 7, 7, 0, 0, 0, 0, 0), (62, .ireturn, 0, 0, 0, 0, 0, 0), (63, .iload_n 3, 3, 0, 0, 0, 0, 0), (64, .iload 7, 7, 0, 0, 0, 0, 0), (66, .if_icmp .ge 18, 40, 0, 0, 0, 0, 0), (69, .aload_n 0, 0, 0, 0, 0, 0, 0), (70, .getfield 31, 5, 3, 1, 0, 0, 0), (73, .getfield 229, 2, 1, 1, 0, 0, 0), (76, .iload 4, 4, 0, 0, 0, 0, 0), (78, .invokestatic 116, 78, 2, 1, 0, 0, 0), (81, .goto 4, 41, 0, 0, 0, 0, 0), (84, .iconst (-1), 0, 0, 0, 0, (-1), 0), (85, .ireturn, 0, 0, 0, 0, 0, 0)]
def az_p67 : List az_I := [(0, .aload_n 0, 0, 0, 0, 0, 0, 0), (1, .iload_n 1, 1, 0, 0, 0, 0, 0), (2, .invokevirtual 177, 82, 2, 3, 5, 0, 0), (5, .astore_n 2, 2, 0, 0, 0, 0, 0), (6, .aload_n 2, 2, 0, 0, 0, 0, 0), (7, .ifnonnull 6, 8, 0, 0, 0, 0, 0), (10, .bipush (-2), 0, 0, 0, 0, (-2), 0), (12, .ireturn, 0, 0, 0, 0, 0, 0), (13, .iconst 0, 0, 0, 0, 0, 0, 0), (14, .istore_n 3, 3, 0, 0, 0, 0, 0), (15, .iload_n 3, 3, 0, 0, 0, 0, 0), (16, .aload_n 2, 2, 0, 0, 0, 0, 0), (17, .getfield 191, 0, 3, 1, 0, 0, 0), (20, .getfield 136, 4, 0, 0, 0, 0, 0), (23, .if_icmp .ge 23, 25, 0, 0, 0, 0, 0), (26, .aload_n 0, 0, 0, 0, 0, 0, 0), (27, .aload_n 2, 2, 0, 0, 0, 0, 0), (28, .iload_n 3, 3, 0, 0, 0, 0, 0), (29, .invokevirtual 232, 103, 3, 1, 5, 0, 0), (32, .bipush 64, 0, 0, 0, 0, 64, 0), (34, .if_icmp .le 6, 23, 0, 0, 0, 0, 0), (37, .bipush (-5), 0, 0, 0, 0, (-5), 0), (39, .ireturn, 0, 0, 0, 0, 0, 0), (40, .iinc 3 1, 3, 0, 0, 0, 1, 0), (43, .goto (-28), 10, 0, 0, 0, 0, 0), (46, .aload_n 0, 0, 0, 0, 0, 0, 0), (47, .aload_n 2, 2, 0, 0, 0, 0, 0), (48, .invokevirtual 236, 104, 2, 0, 5, 0, 0), (51, .aload_n 0, 0, 0, 0, 0, 0, 0), (52, .getfield 38, 5, 4, 1, 0, 0, 0), (55, .aload_n 2, 2, 0, 0, 0, 0, 0), (56, .getfield 191, 0, 3, 1, 0, 0, 0), (59, .aload_n 2, 2, 0, 0, 0, 0, 0), (60, .getfield 187, 0, 2, 1, 0, 0, 0), (63, .getfield 136, 4, 0, 0, 0, 0, 0), (66, .invokevirtual 240, 7, 3, 1, 1, 0, 0), (69, .istore_n 3, 3, 0, 0, 0, 0, 0), (70, .iload_n 3, 3, 0, 0, 0, 0, 0), (71, .iconst (-1), 0, 0, 0, 0, (-1), 0), (72, .if_icmp .ne 5, 42, 0, 0, 0, 0, 0), (75, .iconst (-1), 0, 0, 0, 0, (-1), 0), (76, .ireturn, 0, 0, 0, 0, 0, 0), (77, .aload_n 0, 0, 0, 0, 0, 0, 0), (78, .aload_n 2, 2, 0, 0, 0, 0, 0), (79, .getfield 187, 0, 2, 1, 0, 0, 0), (82, .getfield 136, 4, 0, 0, 0, 0, 0), (85, .putfield 244, 5, 13, 0, 0, 0, 0), (88, .iconst 0, 0, 0, 0, 0, 0, 0), (89, .istore 4, 4, 0, 0, 0, 0, 0), (91, .iload 4, 4, 0, 0, 0, 0, 0), (93, .aload_n 0, 0, 0, 0, 0, 0, 0), (94, .getfield 244, 5, 13, 0, 0, 0, 0), (97, .if_icmp .ge 28, 64, 0, 0, 0, 0, 0), (100, .aload_n 0, 0, 0, 0, 0, 0, 0), (101, .getfield 58, 5, 10, 1, 0, 0, 0), (104, .iload 4, 4, 0, 0, 0, 0, 0), (106, .aload_n 0, 0, 0, 0, 0, 0, 0), (107, .getfield 38, 5, 4, 1, 0, 0, 0), (110, .iload_n 3, 3, 0, 0, 0, 0, 0), (111, .iload 4, 4, 0, 0, 0, 0, 0), (113, .invokevirtual 247, 6, 3, 1, 1, 0, 0), (116, .invokestatic 197, 79, 3, 0, 0, 0, 0), (119, .iinc 4 1, 4, 0, 0, 0, 1, 0), (122, .goto (-31), 49, 0, 0, 0, 0, 0), (125, .aload_n 0, 0, 0, 0, 0, 0, 0), (126, .getfield 38, 5, 4, 1, 0, 0, 0), (129, .iload_n 3, 3, 0, 0, 0, 0, 0), (130, .invokevirtual 250, 5, 2, 1, 1, 0, 0), (133, .ireturn, 0, 0, 0, 0, 0, 0)]
def az_p68 : List az_I := [(0, .iload_n 1, 1, 0, 0, 0, 0, 0), (1, .ifCond .lt 11, 6, 0, 0, 0, 0, 0), (4, .iload_n 1, 1, 0, 0, 0, 0, 0), (5, .aload_n 0, 0, 0, 0, 0, 0, 0), (6, .getfield 244, 5, 13, 0, 0, 0, 0), (9, .if_icmp .lt 7, 8, 0, 0, 0, 0, 0), (12, .iconst (-1), 0, 0, 0, 0, (-1), 0), (13, .goto 11, 12, 0, 0, 0, 0, 0), (16, .aload_n 0, 0, 0, 0, 0, 0, 0), (17, .getfield 58, 5, 10, 1, 0, 0, 0), (20, .iload_n 1, 1, 0, 0, 0, 0, 0), (21, .invokestatic 116, 78, 2, 1, 0, 0, 0), (24, .ireturn, 0, 0, 0, 0, 0, 0)]
def az_p69 : List az_I := [(0, .aload_n 0, 0, 0, 0, 0, 0, 0), (1, .iload_n 1, 1, 0, 0, 0, 0, 0), (2, .invokevirtual 177, 82, 2, 3, 5, 0, 0), (5, .astore_n 3, 3, 0, 0, 0, 0, 0), (6, .aload_n 3, 3, 0, 0, 0, 0, 0), (7, .ifnull 14, 11, 0, 0, 0, 0, 0), (10, .aload_n 3, 3, 0, 0, 0, 0, 0), (11, .getfield 191, 0, 3, 1, 0, 0, 0), (14, .iload_n 2, 2, 0, 0, 0, 0, 0), (15, .invokevirtual 76, 28, 2, 1, 4, 0, 0), (18, .ifCond .ne 6, 13, 0, 0, 0, 0, 0), (21, .bipush (-2), 0, 0, 0, 0, (-2), 0), (23, .ireturn, 0, 0, 0, 0, 0, 0), (24, .aload_n 0, 0, 0, 0, 0, 0, 0), (25, .aload_n 3, 3, 0, 0, 0, 0, 0), (26, .iload_n 2, 2, 0, 0, 0, 0, 0), (27, .invokevirtual 232, 103, 3, 1, 5, 0, 0), (30, .istore 4, 4, 0, 0, 0, 0, 0), (32, .iload 4, 4, 0, 0, 0, 0, 0), (34, .sipush 5000, 0, 0, 0, 0, 5000, 0), (37, .if_icmp .le 6, 23, 0, 0, 0, 0, 0), (40, .bipush (-5), 0, 0, 0, 0, (-5), 0), (42, .ireturn, 0, 0, 0, 0, 0, 0), (43, .aload_n 0, 0, 0, 0, 0, 0, 0), (44, .getfield 31, 5, 3, 1, 0, 0, 0), (47, .aload_n 3, 3, 0, 0, 0, 0, 0), (48, .getfield 187, 0, 2, 1, 0, 0, 0), (51, .aload_n 3, 3, 0, 0, 0, 0, 0), (52, .getfield 191, 0, 3, 1, 0, 0, 0), (55, .aload_n 0, 0, 0, 0, 0, 0, 0), (56, .getfield 49, 5, 7, 1, 0, 0, 0), (59, .aload_n 3, 3, 0, 0, 0, 0, 0), (60, .getfield 166, 0, 4, 1, 0, 0, 0), (63, .iconst (-1), 0, 0, 0, 0, (-1), 0), (64, .invokevirtual 253, 13, 6, 1, 2, 0, 0), (67, .ireturn, 0, 0, 0, 0, 0, 0)]
def az_p70 : List az_I := [(0, .aload_n 0, 0, 0, 0, 0, 0, 0), (1, .iload_n 1, 1, 0, 0, 0, 0, 0), (2, .invokevirtual 177, 82, 2, 3, 5, 0, 0), (5, .astore 4, 4, 0, 0, 0, 0, 0), (7, .aload 4, 4, 0, 0, 0, 0, 0), (9, .ifnull 24, 16, 0, 0, 0, 0, 0), (12, .aload 4, 4, 0, 0, 0, 0, 0), (14, .getfield 191, 0, 3, 1, 0, 0, 0), (17, .iload_n 2, 2, 0, 0, 0, 0, 0), (18, .invokevirtual 76, 28, 2, 1, 4, 0, 0), (21, .ifCond .eq 12, 16, 0, 0, 0, 0, 0), (24, .iload_n 3, 3, 0, 0, 0, 0, 0), (25, .ifCond .lt 8, 16, 0, 0, 0, 0, 0), (28, .iload_n 3, 3, 0, 0, 0, 0, 0), (29, .iconst 1, 0, 0, 0, 0, 1, 0), (30, .if_icmp .le 6, 18, 0, 0, 0, 0, 0), (33, .bipush (-2), 0, 0, 0, 0, (-2), 0), (35, .ireturn, 0, 0, 0, 0, 0, 0), (36, .aload_n 0, 0, 0, 0, 0, 0, 0), (37, .aload 4, 4, 0, 0, 0, 0, 0), (39, .iload_n 2, 2, 0, 0, 0, 0, 0), (40, .invokevirtual 256, 105, 3, 0, 5, 0, 0), (43, .iload_n 3, 3, 0, 0, 0, 0, 0), (44, .ifCond .ne 14, 29, 0, 0, 0, 0, 0), (47, .aload_n 0, 0, 0, 0, 0, 0, 0), (48, .getfield 52, 5, 8, 1, 0, 0, 0), (51, .iload_n 2, 2, 0, 0, 0, 0, 0), (52, .invokestatic 116, 78, 2, 1, 0, 0, 0), (55, .goto 11, 33, 0, 0, 0, 0, 0), (58, .aload_n 0, 0, 0, 0, 0, 0, 0), (59, .getfield 55, 5, 9, 1, 0, 0, 0), (62, .iload_n 2, 2, 0, 0, 0, 0, 0), (63, .invokestatic 116, 78, 2, 1, 0, 0, 0), (66, .ireturn, 0, 0, 0, 0, 0, 0)]
def az_p71 : List az_I := [(0, .aload_n 0, 0, 0, 0, 0, 0, 0), (1, .iload_n 1, 1, 0, 0, 0, 0, 0), (2, .invokevirtual 177, 82, 2, 3, 5, 0, 0), (5, .astore_n 2, 2, 0, 0, 0, 0, 0), (6, .aload_n 2, 2, 0, 0, 0, 0, 0), (7, .ifnonnull 6, 8, 0, 0, 0, 0, 0), (10, .bipush (-2), 0, 0, 0, 0, (-2), 0), (12, .ireturn, 0, 0, 0, 0, 0, 0), (13, .iconst 0, 0, 0, 0, 0, 0, 0), (14, .istore_n 3, 3, 0, 0, 0, 0, 0), (15, .iload_n 3, 3, 0, 0, 0, 0, 0), (16, .aload_n 2, 2, 0, 0, 0, 0, 0), (17, .getfield 191, 0, 3, 1, 0, 0, 0), (20, .getfield 136, 4, 0, 0, 0, 0, 0), (23, .if_icmp .ge 30, 29, 0, 0, 0, 0, 0), (26, .aload_n 0, 0, 0, 0, 0, 0, 0), (27, .aload_n 2, 2, 0, 0, 0, 0, 0), (28, .iload_n 3, 3, 0, 0, 0, 0, 0), (29, .invokevirtual 256, 105, 3, 0, 5, 0, 0), (32, .aload_n 0, 0, 0, 0, 0, 0, 0), (33, .getfield 52, 5, 8, 1, 0, 0, 0), (36, .iload_n 3, 3, 0, 0, 0, 0, 0), (37, .invokestatic 116, 78, 2, 1, 0, 0, 0), (40, .iconst (-1), 0, 0, 0, 0, (-1), 0), (41, .if_icmp .ne 6, 27, 0, 0, 0, 0, 0), (44, .bipush (-3), 0, 0, 0, 0, (-3), 0), (46, .ireturn, 0, 0, 0, 0, 0, 0), (47, .iinc 3 1, 3, 0, 0, 0, 1, 0), (50, .goto (-35), 10, 0, 0, 0, 0, 0), (53, .aload_n 0, 0, 0, 0, 0, 0, 0), (54, .getfield 160, 5, 12, 0, 0, 0, 0), (57, .bipush 24, 0, 0, 0, 0, 24, 0), (59, .if_icmp .lt 6, 35, 0, 0, 0, 0, 0), (62, .bipush (-4), 0, 0, 0, 0, (-4), 0), (64, .ireturn, 0, 0, 0, 0, 0, 0), (65, .new 15, 0, 0, 0, 0, 0, 0), (68, .dup, 0, 0, 0, 0, 0, 0), (69, .aload_n 2, 2, 0, 0, 0, 0, 0), (70, .getfield 181, 0, 1, 0, 0, 0, 0), (73, .aload_n 2, 2, 0, 0, 0, 0, 0), (74, .getfield 184, 0, 0, 0, 0, 0, 0), (77, .aload_n 2, 2, 0, 0, 0, 0, 0), (78, .getfield 191, 0, 3, 1, 0, 0, 0), (81, .aload_n 2, 2, 0, 0, 0, 0, 0), (82, .getfield 187, 0, 2, 1, 0, 0, 0), (85, .invokespecial 163, 1, 5, 0, 0, 0, 0), (88, .astore_n 3, 3, 0, 0, 0, 0, 0), (89, .iconst 0, 0, 0, 0, 0, 0, 0), (90, .istore 4, 4, 0, 0, 0, 0, 0), (92, .iload 4, 4, 0, 0, 0, 0, 0), (94, .aload_n 2, 2, 0, 0, 0, 0, 0), (95, .getfield 191, 0, 3, 1, 0, 0, 0), (98, .getfield 84, 4, 1, 0, 0, 0, 0), (101, .if_icmp .ge 25, 64, 0, 0, 0, 0, 0), (104, .aload_n 3, 3, 0, 0, 0, 0, 0), (105, .getfield 166, 0, 4, 1, 0, 0, 0), (108, .iload 4, 4, 0, 0, 0, 0, 0), (110, .aload_n 0, 0, 0, 0, 0, 0, 0), (111, .aload_n 2, 2, 0, 0, 0, 0, 0), (112, .iload 4, 4, 0, 0, 0, 0, 0), (114, .invokevirtual 260, 108, 3, 1, 5, 0, 0), (117, .invokestatic 197, 79, 3, 0, 0, 0, 0), (120, .iinc 4 1, 4, 0, 0, 0, 1, 0), (123, .goto (-31), 49, 0, 0, 0, 0, 0), (126, .aload_n 0, 0, 0, 0, 0, 0, 0), (127, .aload_n 3, 3, 0, 0, 0, 0, 0), (128, .invokevirtual 173, 84, 2, 1, 5, 0, 0), (131, .ireturn, 0, 0, 0, 0, 0, 0)]
def az_p72 : List az_I := [(0, .aload_n 0, 0, 0, 0, 0, 0, 0), (1, .iload_n 1, 1, 0, 0, 0, 0, 0), (2, .invokevirtual 72, 81, 2, 3, 5, 0, 0), (5, .astore_n 3, 3, 0, 0, 0, 0, 0), (6, .aload_n 3, 3, 0, 0, 0, 0, 0), (7, .ifnull 11, 10, 0, 0, 0, 0, 0), (10, .aload_n 3, 3, 0, 0, 0, 0, 0), (11, .iload_n 2, 2, 0, 0, 0, 0, 0), (12, .invokevirtual 76, 28, 2, 1, 4, 0, 0), (15, .ifCond .ne 8, 12, 0, 0, 0, 0, 0), (18, .bipush (-2), 0, 0, 0, 0, (-2), 0), (20, .goto 9, 16, 0, 0, 0, 0, 0), (23, .aload_n 3, 3, 0, 0, 0, 0, 0), (24, .iload_n 2, 2, 0, 0, 0, 0, 0), (25, .iconst (-1), 0, 0, 0, 0, (-1), 0), (26, .invokestatic 263, 109, 3, 1, 0, 0, 0), (29, .ireturn, 0, 0, 0, 0, 0, 0)]
def az_p73 : List az_I := [(0, .aload_n 0, 0, 0, 0, 0, 0, 0), (1, .iload_n 1, 1, 0, 0, 0, 0, 0), (2, .invokevirtual 72, 81, 2, 3, 5, 0, 0), (5, .astore 4, 4, 0, 0, 0, 0, 0), (7, .aload 4, 4, 0, 0, 0, 0, 0), (9, .ifnull 16, 12, 0, 0, 0, 0, 0), (12, .aload 4, 4, 0, 0, 0, 0, 0), (14, .iload_n 2, 2, 0, 0, 0, 0, 0), (15, .invokevirtual 76, 28, 2, 1, 4, 0, 0), (18, .ifCond .eq 7, 12, 0, 0, 0, 0, 0), (21, .iload_n 3, 3, 0, 0, 0, 0, 0), (22, .ifCond .ge 8, 14, 0, 0, 0, 0, 0), (25, .bipush (-2), 0, 0, 0, 0, (-2), 0), (27, .goto 10, 18, 0, 0, 0, 0, 0), (30, .aload 4, 4, 0, 0, 0, 0, 0), (32, .iload_n 2, 2, 0, 0, 0, 0, 0), (33, .iload_n 3, 3, 0, 0, 0, 0, 0), (34, .invokestatic 263, 109, 3, 1, 0, 0, 0), (37, .ireturn, 0, 0, 0, 0, 0, 0)]
def az_p74 : List az_I := [(0, .aload_n 0, 0, 0, 0, 0, 0, 0), (1, .iload_n 1, 1, 0, 0, 0, 0, 0), (2, .invokevirtual 72, 81, 2, 3, 5, 0, 0), (5, .astore 5, 5, 0, 0, 0, 0, 0), (7, .aload 5, 5, 0, 0, 0, 0, 0), (9, .ifnull 22, 14, 0, 0, 0, 0, 0), (12, .aload 5, 5, 0, 0, 0, 0, 0), (14, .iload_n 2, 2, 0, 0, 0, 0, 0), (15, .invokevirtual 76, 28, 2, 1, 4, 0, 0), (18, .ifCond .eq 13, 14, 0, 0, 0, 0, 0), (21, .aload 5, 5, 0, 0, 0, 0, 0), (23, .iload 4, 4, 0, 0, 0, 0, 0), (25, .invokevirtual 91, 29, 2, 1, 4, 0, 0), (28, .ifCond .ne 6, 16, 0, 0, 0, 0, 0), (31, .bipush (-2), 0, 0, 0, 0, (-2), 0), (33, .ireturn, 0, 0, 0, 0, 0, 0), (34, .aload 5, 5, 0, 0, 0, 0, 0), (36, .getfield 80, 4, 2, 0, 0, 0, 0), (39, .ifCond .eq 24, 29, 0, 0, 0, 0, 0), (42, .aload 5, 5, 0, 0, 0, 0, 0), (44, .iload_n 2, 2, 0, 0, 0, 0, 0), (45, .iload_n 3, 3, 0, 0, 0, 0, 0), (46, .invokevirtual 267, 44, 3, 1, 4, 0, 0), (49, .ifCond .eq 14, 29, 0, 0, 0, 0, 0), (52, .aload 5, 5, 0, 0, 0, 0, 0), (54, .iload 4, 4, 0, 0, 0, 0, 0), (56, .invokevirtual 105, 27, 2, 1, 4, 0, 0), (59, .iload_n 2, 2, 0, 0, 0, 0, 0), (60, .if_icmp .eq 6, 31, 0, 0, 0, 0, 0), (63, .bipush (-3), 0, 0, 0, 0, (-3), 0), (65, .ireturn, 0, 0, 0, 0, 0, 0), (66, .aload 5, 5, 0, 0, 0, 0, 0), (68, .iload_n 3, 3, 0, 0, 0, 0, 0), (69, .iload 4, 4, 0, 0, 0, 0, 0), (71, .invokevirtual 270, 46, 3, 1, 4, 0, 0), (74, .ireturn, 0, 0, 0, 0, 0, 0)]
def az_p75 : List az_I := [(0, .aload_n 0, 0, 0, 0, 0, 0, 0), (1, .iload_n 1, 1, 0, 0, 0, 0, 0), (2, .invokevirtual 72, 81, 2, 3, 5, 0, 0), (5, .astore 5, 5, 0, 0, 0, 0, 0), (7, .aload 5, 5, 0, 0, 0, 0, 0), (9, .ifnull 12, 10, 0, 0, 0, 0, 0), (12, .aload 5, 5, 0, 0, 0, 0, 0), (14, .iload_n 2, 2, 0, 0, 0, 0, 0), (15, .invokevirtual 76, 28, 2, 1, 4, 0, 0), (18, .ifCond .ne 6, 12, 0, 0, 0, 0, 0), (21, .bipush (-2), 0, 0, 0, 0, (-2), 0), (23, .ireturn, 0, 0, 0, 0, 0, 0), (24, .aload 5, 5, 0, 0, 0, 0, 0), (26, .getfield 80, 4, 2, 0, 0, 0, 0), (29, .ifCond .eq 24, 25, 0, 0, 0, 0, 0), (32, .aload 5, 5, 0, 0, 0, 0, 0), (34, .iload_n 2, 2, 0, 0, 0, 0, 0), (35, .iload_n 3, 3, 0, 0, 0, 0, 0), (36, .invokevirtual 267, 44, 3, 1, 4, 0, 0), (39, .ifCond .eq 14, 25, 0, 0, 0, 0, 0), (42, .aload 5, 5, 0, 0, 0, 0, 0), (44, .iload_n 2, 2, 0, 0, 0, 0, 0), (45, .iload 4, 4, 0, 0, 0, 0, 0), (47, .invokevirtual 267, 44, 3, 1, 4, 0, 0), (50, .ifCond .ne 6, 27, 0, 0, 0, 0, 0), (53, .bipush (-3), 0, 0, 0, 0, (-3), 0), (55, .ireturn, 0, 0, 0, 0, 0, 0), (56, .iconst 0, 0, 0, 0, 0, 0, 0), (57, .istore 6, 6, 0, 0, 0, 0, 0), (59, .iconst 0, 0, 0, 0, 0, 0, 0), (60, .istore 7, 7, 0, 0, 0, 0, 0), (62, .iload 7, 7, 0, 0, 0, 0, 0), (64, .aload 5, 5, 0, 0, 0, 0, 0), (66, .getfield 84, 4, 1, 0, 0, 0, 0), (69, .if_icmp .ge 52, 60, 0, 0, 0, 0, 0), (72, .aload 5, 5, 0, 0, 0, 0, 0), (74, .iload 7, 7, 0, 0, 0, 0, 0), (76, .invokevirtual 105, 27, 2, 1, 4, 0, 0), (79, .iload_n 2, 2, 0, 0, 0, 0, 0), (80, .if_icmp .ne 35, 58, 0, 0, 0, 0, 0), (83, .aload 5, 5, 0, 0, 0, 0, 0), (85, .iload_n 3, 3, 0, 0, 0, 0, 0), (86, .iload 7, 7, 0, 0, 0, 0, 0), (88, .invokevirtual 270, 46, 3, 1, 4, 0, 0), (91, .aload 5, 5, 0, 0, 0, 0, 0), (93, .iload 4, 4, 0, 0, 0, 0, 0), (95, .iload 7, 7, 0, 0, 0, 0, 0), (97, .invokevirtual 270, 46, 3, 1, 4, 0, 0), (100, .iconst (-1), 0, 0, 0, 0, (-1), 0), (101, .ixor, 0, 0, 0, 0, 0, 0), (102, .iand, 0, 0, 0, 0, 0, 0), (103, .ifCond .ne 12, 58, 0, 0, 0, 0, 0), (106, .iload 6, 6, 0, 0, 0, 0, 0), (108, .iconst 1, 0, 0, 0, 0, 1, 0), (109, .iload 7, 7, 0, 0, 0, 0, 0), (111, .ishl, 0, 0, 0, 0, 0, 0), (112, .ior, 0, 0, 0, 0, 0, 0), (113, .istore 6, 6, 0, 0, 0, 0, 0), (115, .iinc 7 1, 7, 0, 0, 0, 1, 0), (118, .goto (-56), 31, 0, 0, 0, 0, 0), (121, .iload 6, 6, 0, 0, 0, 0, 0), (123, .ireturn, 0, 0, 0, 0, 0, 0)]
def az_p76 : List az_I := [(0, .iload_n 1, 1, 0, 0, 0, 0, 0), (1, .tableswitch 45 0 2 #[27, 32, 37], 0, 0, 0, 0, 0, 0), (28, .aload_n 0, 0, 0, 0, 0, 0, 0), (29, .getfield 61, 5, 11, 0, 0, 0, 0), (32, .ireturn, 0, 0, 0, 0, 0, 0), (33, .aload_n 0, 0, 0, 0, 0, 0, 0), (34, .getfield 160, 5, 12, 0, 0, 0, 0), (37, .ireturn, 0, 0, 0, 0, 0, 0), (38, .aload_n 0, 0, 0, 0, 0, 0, 0), (39, .getfield 24, 5, 2, 1, 0, 0, 0), (42, .getfield 273, 3, 1, 0, 0, 0, 0), (45, .ireturn, 0, 0, 0, 0, 0, 0), (46, .bipush (-2), 0, 0, 0, 0, (-2), 0), (48, .ireturn, 0, 0, 0, 0, 0, 0)]
def az_p77 : List az_I := [(0, .ldc2_w 276, 0, 0, 0, 0, 0, 97), (3, .lstore_n 1, 1, 0, 0, 0, 0, 0), (4, .iconst 0, 0, 0, 0, 0, 0, 0), (5, .istore_n 3, 3, 0, 0, 0, 0, 0), (6, .iload_n 3, 3, 0, 0, 0, 0, 0), (7, .aload_n 0, 0, 0, 0, 0, 0, 0), (8, .getfield 61, 5, 11, 0, 0, 0, 0), (11, .if_icmp .ge 32, 22, 0, 0, 0, 0, 0), (14, .aload_n 0, 0, 0, 0, 0, 0, 0), (15, .iload_n 3, 3, 0, 0, 0, 0, 0), (16, .invokevirtual 72, 81, 2, 3, 5, 0, 0), (19, .astore 4, 4, 0, 0, 0, 0, 0), (21, .aload 4, 4, 0, 0, 0, 0, 0), (23, .ifnonnull 7, 16, 0, 0, 0, 0, 0), (26, .lload_n 1, 1, 0, 0, 0, 0, 0), (27, .goto 9, 19, 0, 0, 0, 0, 0), (30, .lload_n 1, 1, 0, 0, 0, 0, 0), (31, .aload 4, 4, 0, 0, 0, 0, 0), (33, .invokestatic 278, 85, 2, 2, 0, 0, 0), (36, .lstore_n 1, 1, 0, 0, 0, 0, 0), (37, .iinc 3 1, 3, 0, 0, 0, 1, 0), (40, .goto (-34), 4, 0, 0, 0, 0, 0), (43, .iconst 0, 0, 0, 0, 0, 0, 0), (44, .istore_n 3, 3, 0, 0, 0, 0, 0), (45, .iload_n 3, 3, 0, 0, 0, 0, 0), (46, .aload_n 0, 0, 0, 0, 0, 0, 0), (47, .getfield 160, 5, 12, 0, 0, 0, 0), (50, .if_icmp .ge 32, 42, 0, 0, 0, 0, 0), (53, .aload_n 0, 0, 0, 0, 0, 0, 0), (54, .iload_n 3, 3, 0, 0, 0, 0, 0), (55, .invokevirtual 177, 82, 2, 3, 5, 0, 0), (58, .astore 4, 4, 0, 0, 0, 0, 0), (60, .aload 4, 4, 0, 0, 0, 0, 0), (62, .ifnonnull 7, 36, 0, 0, 0, 0, 0), (65, .lload_n 1, 1, 0, 0, 0, 0, 0), (66, .goto 9, 39, 0, 0, 0, 0, 0), (69, .lload_n 1, 1, 0, 0, 0, 0, 0), (70, .aload 4, 4, 0, 0, 0, 0, 0), (72, .invokestatic 282, 86, 2, 2, 0, 0, 0), (75, .lstore_n 1, 1, 0, 0, 0, 0, 0), (76, .iinc 3 1, 3, 0, 0, 0, 1, 0), (79, .goto (-34), 24, 0, 0, 0, 0, 0), (82, .lload_n 1, 1, 0, 0, 0, 0, 0), (83, .lreturn, 0, 0, 0, 0, 0, 0)]
def az_p78 : List az_I := [(0, .iload_n 1, 1, 0, 0, 0, 0, 0), (1, .ifCond .lt 15, 10, 0, 0, 0, 0, 0), (4, .iload_n 1, 1, 0, 0, 0, 0, 0), (5, .aload_n 0, 0, 0, 0, 0, 0, 0), (6, .arraylength, 0, 0, 0, 0, 0, 0), (7, .if_icmp .ge 9, 10, 0, 0, 0, 0, 0), (10, .aload_n 0, 0, 0, 0, 0, 0, 0), (11, .iload_n 1, 1, 0, 0, 0, 0, 0), (12, .iaload, 0, 0, 0, 0, 0, 0), (13, .goto 4, 11, 0, 0, 0, 0, 0), (16, .iconst (-1), 0, 0, 0, 0, (-1), 0), (17, .ireturn, 0, 0, 0, 0, 0, 0)]
def az_p79 : List az_I := [(0, .iload_n 1, 1, 0, 0, 0, 0, 0), (1, .ifCond .lt 13, 10, 0, 0, 0, 0, 0), (4, .iload_n 1, 1, 0, 0, 0, 0, 0), (5, .aload_n 0, 0, 0, 0, 0, 0, 0), (6, .arraylength, 0, 0, 0, 0, 0, 0), (7, .if_icmp .ge 7, 10, 0, 0, 0, 0, 0), (10, .aload_n 0, 0, 0, 0, 0, 0, 0), (11, .iload_n 1, 1, 0, 0, 0, 0, 0), (12, .iload_n 2, 2, 0, 0, 0, 0, 0), (13, .iastore, 0, 0, 0, 0, 0, 0), (14, .return_, 0, 0, 0, 0, 0, 0)]
def az_p80 : List az_I := [(0, .iconst 0, 0, 0, 0, 0, 0, 0), (1, .istore_n 3, 3, 0, 0, 0, 0, 0), (2, .iload_n 3, 3, 0, 0, 0, 0, 0), (3, .iload_n 2, 2, 0, 0, 0, 0, 0), (4, .if_icmp .ge 19, 13, 0, 0, 0, 0, 0), (7, .aload_n 1, 1, 0, 0, 0, 0, 0), (8, .iload_n 3, 3, 0, 0, 0, 0, 0), (9, .aload_n 0, 0, 0, 0, 0, 0, 0), (10, .iload_n 3, 3, 0, 0, 0, 0, 0), (11, .invokestatic 116, 78, 2, 1, 0, 0, 0), (14, .invokestatic 197, 79, 3, 0, 0, 0, 0), (17, .iinc 3 1, 3, 0, 0, 0, 1, 0), (20, .goto (-18), 2, 0, 0, 0, 0, 0), (23, .return_, 0, 0, 0, 0, 0, 0)]
def az_p81 : List az_I := [(0, .iload_n 1, 1, 0, 0, 0, 0, 0), (1, .ifCond .lt 29, 16, 0, 0, 0, 0, 0), (4, .iload_n 1, 1, 0, 0, 0, 0, 0), (5, .aload_n 0, 0, 0, 0, 0, 0, 0), (6, .getfield 61, 5, 11, 0, 0, 0, 0), (9, .if_icmp .ge 21, 16, 0, 0, 0, 0, 0), (12, .iload_n 1, 1, 0, 0, 0, 0, 0), (13, .aload_n 0, 0, 0, 0, 0, 0, 0), (14, .getfield 11, 5, 0, 1, 0, 0, 0), (17, .arraylength, 0, 2, 0, 0, 0, 0), (18, .if_icmp .ge 12, 16, 0, 0, 0, 0, 0), (21, .aload_n 0, 0, 0, 0, 0, 0, 0), (22, .getfield 11, 5, 0, 1, 0, 0, 0), (25, .iload_n 1, 1, 0, 0, 0, 0, 0), (26, .aaload, 0, 2, 0, 0, 0, 0), (27, .goto 4, 17, 0, 0, 0, 0, 0), (30, .aconst_null, 0, 0, 0, 0, 0, 0), (31, .areturn, 0, 0, 0, 0, 0, 0)]
def az_p82 : List az_I := [(0, .iload_n 1, 1, 0, 0, 0, 0, 0), (1, .ifCond .lt 29, 16, 0, 0, 0, 0, 0), (4, .iload_n 1, 1, 0, 0, 0, 0, 0), (5, .aload_n 0, 0, 0, 0, 0, 0, 0), (6, .getfield 160, 5, 12, 0, 0, 0, 0), (9, .if_icmp .ge 21, 16, 0, 0, 0, 0, 0), (12, .iload_n 1, 1, 0, 0, 0, 0, 0), (13, .aload_n 0, 0, 0, 0, 0, 0, 0), (14, .getfield 17, 5, 1, 1, 0, 0, 0), (17, .arraylength, 0, 3, 0, 0, 0, 0), (18, .if_icmp .ge 12, 16, 0, 0, 0, 0, 0), (21, .aload_n 0, 0, 0, 0, 0, 0, 0), (22, .getfield 17, 5, 1, 1, 0, 0, 0), (25, .iload_n 1, 1, 0, 0, 0, 0, 0), (26, .aaload, 0, 3, 0, 0, 0, 0), (27, .goto 4, 17, 0, 0, 0, 0, 0), (30, .aconst_null, 0, 0, 0, 0, 0, 0), (31, .areturn, 0, 0, 0, 0, 0, 0)]
def az_p83 : List az_I := [(0, .aload_n 0, 0, 0, 0, 0, 0, 0), (1, .getfield 61, 5, 11, 0, 0, 0, 0), (4, .ifCond .lt 15, 9, 0, 0, 0, 0, 0), (7, .aload_n 0, 0, 0, 0, 0, 0, 0), (8, .getfield 61, 5, 11, 0, 0, 0, 0), (11, .aload_n 0, 0, 0, 0, 0, 0, 0), (12, .getfield 11, 5, 0, 1, 0, 0, 0), (15, .arraylength, 0, 2, 0, 0, 0, 0), (16, .if_icmp .lt 6, 11, 0, 0, 0, 0, 0), (19, .bipush (-4), 0, 0, 0, 0, (-4), 0), (21, .ireturn, 0, 0, 0, 0, 0, 0), (22, .aload_n 0, 0, 0, 0, 0, 0, 0), (23, .getfield 11, 5, 0, 1, 0, 0, 0), (26, .aload_n 0, 0, 0, 0, 0, 0, 0), (27, .getfield 61, 5, 11, 0, 0, 0, 0), (30, .aload_n 1, 1, 0, 0, 0, 0, 0), (31, .aastore, 0, 2, 0, 0, 0, 0), (32, .aload_n 0, 0, 0, 0, 0, 0, 0), (33, .dup, 0, 0, 0, 0, 0, 0), (34, .getfield 61, 5, 11, 0, 0, 0, 0), (37, .iconst 1, 0, 0, 0, 0, 1, 0), (38, .iadd, 0, 0, 0, 0, 0, 0), (39, .putfield 61, 5, 11, 0, 0, 0, 0), (42, .aload_n 0, 0, 0, 0, 0, 0, 0), (43, .getfield 61, 5, 11, 0, 0, 0, 0), (46, .iconst 1, 0, 0, 0, 0, 1, 0), (47, .isub, 0, 0, 0, 0, 0, 0), (48, .ireturn, 0, 0, 0, 0, 0, 0)]
def az_p84 : List az_I := [(0, .aload_n 0, 0, 0, 0, 0, 0, 0), (1, .getfield 160, 5, 12, 0, 0, 0, 0), (4, .ifCond .lt 15, 9, 0, 0, 0, 0, 0), (7, .aload_n 0, 0, 0, 0, 0, 0, 0), (8, .getfield 160, 5, 12, 0, 0, 0, 0), (11, .aload_n 0, 0, 0, 0, 0, 0, 0), (12, .getfield 17, 5, 1, 1, 0, 0, 0), (15, .arraylength, 0, 3, 0, 0, 0, 0), (16, .if_icmp .lt 6, 11, 0, 0, 0, 0, 0), (19, .bipush (-4), 0, 0, 0, 0, (-4), 0), (21, .ireturn, 0, 0, 0, 0, 0, 0), (22, .aload_n 0, 0, 0, 0, 0, 0, 0), (23, .getfield 17, 5, 1, 1, 0, 0, 0), (26, .aload_n 0, 0, 0, 0, 0, 0, 0), (27, .getfield 160, 5, 12, 0, 0, 0, 0), (30, .aload_n 1, 1, 0, 0, 0, 0, 0), (31, .aastore, 0, 3, 0, 0, 0, 0), (32, .aload_n 0, 0, 0, 0, 0, 0, 0), (33, .dup, 0, 0, 0, 0, 0, 0), (34, .getfield 160, 5, 12, 0, 0, 0, 0), (37, .iconst 1, 0, 0, 0, 0, 1, 0), (38, .iadd, 0, 0, 0, 0, 0, 0), (39, .putfield 160, 5, 12, 0, 0, 0, 0), (42, .aload_n 0, 0, 0, 0, 0, 0, 0), (43, .getfield 160, 5, 12, 0, 0, 0, 0), (46, .iconst 1, 0, 0, 0, 0, 1, 0), (47, .isub, 0, 0, 0, 0, 0, 0), (48, .ireturn, 0, 0, 0, 0, 0, 0)]
def az_p85 : List az_I := [(0, .ldc2_w 286, 0, 0, 0, 0, 0, 31), (3, .lload_n 0, 0, 0, 0, 0, 0, 0), (4, .lmul, 0, 0, 0, 0, 0, 0), (5, .aload_n 2, 2, 0, 0, 0, 0, 0), (6, .getfield 136, 4, 0, 0, 0, 0, 0), (9, .i2l, 0, 0, 0, 0, 0, 0), (10, .ladd, 0, 0, 0, 0, 0, 0), (11, .lstore_n 3, 3, 0, 0, 0, 0, 0), (12, .ldc2_w 286, 0, 0, 0, 0, 0, 31), (15, .lload_n 3, 3, 0, 0, 0, 0, 0), (16, .lmul, 0, 0, 0, 0, 0, 0), (17, .aload_n 2, 2, 0, 0, 0, 0, 0), (18, .getfield 84, 4, 1, 0, 0, 0, 0), (21, .i2l, 0, 0, 0, 0, 0, 0), (22, .ladd, 0, 0, 0, 0, 0, 0), (23, .lstore_n 3, 3, 0, 0, 0, 0, 0), (24, .ldc2_w 286, 0, 0, 0, 0, 0, 31), (27, .lload_n 3, 3, 0, 0, 0, 0, 0), (28, .lmul, 0, 0, 0, 0, 0, 0), (29, .aload_n 2, 2, 0, 0, 0, 0, 0), (30, .getfield 80, 4, 2, 0, 0, 0, 0), (33, .ifCond .eq 7, 24, 0, 0, 0, 0, 0), (36, .iconst 1, 0, 0, 0, 0, 1, 0), (37, .goto 4, 25, 0, 0, 0, 0, 0), (40, .iconst 0, 0, 0, 0, 0, 0, 0), (41, .i2l, 0, 0, 0, 0, 0, 0), (42, .ladd, 0, 0, 0, 0, 0, 0), (43, .lstore_n 3, 3, 0, 0, 0, 0, 0), (44, .iconst 0, 0, 0, 0, 0, 0, 0), (45, .istore 5, 5, 0, 0, 0, 0, 0), (47, .iload 5, 5, 0, 0, 0, 0, 0), (49, .aload_n 2, 2, 0, 0, 0, 0, 0), (50, .getfield 84, 4, 1, 0, 0, 0, 0), (53, .if_icmp .ge 37, 54, 0, 0, 0, 0, 0), (56, .ldc2_w 286, 0, 0, 0, 0, 0, 31), (59, .lload_n 3, 3, 0, 0, 0, 0, 0), (60, .lmul, 0, 0, 0, 0, 0, 0), (61, .aload_n 2, 2, 0, 0, 0, 0, 0), (62, .iload 5, 5, 0, 0, 0, 0, 0), (64, .invokevirtual 101, 26, 2, 1, 4, 0, 0), (67, .i2l, 0, 0, 0, 0, 0, 0), (68, .ladd, 0, 0, 0, 0, 0, 0), (69, .lstore_n 3, 3, 0, 0, 0, 0, 0), (70, .ldc2_w 286, 0, 0, 0, 0, 0, 31), (73, .lload_n 3, 3, 0, 0, 0, 0, 0), (74, .lmul, 0, 0, 0, 0, 0, 0), (75, .aload_n 2, 2, 0, 0, 0, 0, 0), (76, .iload 5, 5, 0, 0, 0, 0, 0), (78, .invokevirtual 105, 27, 2, 1, 4, 0, 0), (81, .i2l, 0, 0, 0, 0, 0, 0), (82, .ladd, 0, 0, 0, 0, 0, 0), (83, .lstore_n 3, 3, 0, 0, 0, 0, 0), (84, .iinc 5 1, 5, 0, 0, 0, 1, 0), (87, .goto (-40), 30, 0, 0, 0, 0, 0), (90, .iconst 0, 0, 0, 0, 0, 0, 0), (91, .istore 5, 5, 0, 0, 0, 0, 0), (93, .iload 5, 5, 0, 0, 0, 0, 0), (95, .aload_n 2, 2, 0, 0, 0, 0, 0), (96, .getfield 84, 4, 1, 0, 0, 0, 0), (99, .if_icmp .ge 43, 80, 0, 0, 0, 0, 0), (102, .iconst 0, 0, 0, 0, 0, 0, 0), (103, .istore 6, 6, 0, 0, 0, 0, 0), (105, .iload 6, 6, 0, 0, 0, 0, 0), (107, .aload_n 2, 2, 0, 0, 0, 0, 0), (108, .getfield 84, 4, 1, 0, 0, 0, 0), (111, .if_icmp .ge 25, 78, 0, 0, 0, 0, 0), (114, .ldc2_w 286, 0, 0, 0, 0, 0, 31), (117, .lload_n 3, 3, 0, 0, 0, 0, 0), (118, .lmul, 0, 0, 0, 0, 0, 0), (119, .aload_n 2, 2, 0, 0, 0, 0, 0), (120, .iload 5, 5, 0, 0, 0, 0, 0), (122, .iload 6, 6, 0, 0, 0, 0, 0), (124, .invokevirtual 150, 25, 3, 1, 4, 0, 0), (127, .i2l, 0, 0, 0, 0, 0, 0), (128, .ladd, 0, 0, 0, 0, 0, 0), (129, .lstore_n 3, 3, 0, 0, 0, 0, 0), (130, .iinc 6 1, 6, 0, 0, 0, 1, 0), (133, .goto (-28), 62, 0, 0, 0, 0, 0), (136, .iinc 5 1, 5, 0, 0, 0, 1, 0), (139, .goto (-46), 56, 0, 0, 0, 0, 0), (142, .lload_n 3, 3, 0, 0, 0, 0, 0), (143, .lreturn, 0, 0, 0, 0, 0, 0)]
def az_p86 : List az_I := [(0, .ldc2_w 286, 0, 0, 0, 0, 0, 31), (3, .lload_n 0, 0, 0, 0, 0, 0, 0), (4, .lmul, 0, 0, 0, 0, 0, 0), (5, .aload_n 2, 2, 0, 0, 0, 0, 0), (6, .getfield 184, 0, 0, 0, 0, 0, 0), (9, .i2l, 0, 0, 0, 0, 0, 0), (10, .ladd, 0, 0, 0, 0, 0, 0), (11, .lstore_n 3, 3, 0, 0, 0, 0, 0), (12, .ldc2_w 286, 0, 0, 0, 0, 0, 31), (15, .lload_n 3, 3, 0, 0, 0, 0, 0), (16, .lmul, 0, 0, 0, 0, 0, 0), (17, .aload_n 2, 2, 0, 0, 0, 0, 0), (18, .getfield 181, 0, 1, 0, 0, 0, 0), (21, .i2l, 0, 0, 0, 0, 0, 0), (22, .ladd, 0, 0, 0, 0, 0, 0), (23, .lstore_n 3, 3, 0, 0, 0, 0, 0), (24, .iconst 0, 0, 0, 0, 0, 0, 0), (25, .istore 5, 5, 0, 0, 0, 0, 0), (27, .iload 5, 5, 0, 0, 0, 0, 0), (29, .aload_n 2, 2, 0, 0, 0, 0, 0), (30, .getfield 187, 0, 2, 1, 0, 0, 0), (33, .getfield 84, 4, 1, 0, 0, 0, 0), (36, .if_icmp .ge 23, 34, 0, 0, 0, 0, 0), (39, .ldc2_w 286, 0, 0, 0, 0, 0, 31), (42, .lload_n 3, 3, 0, 0, 0, 0, 0), (43, .lmul, 0, 0, 0, 0, 0, 0), (44, .aload_n 2, 2, 0, 0, 0, 0, 0), (45, .iload 5, 5, 0, 0, 0, 0, 0), (47, .invokevirtual 194, 2, 2, 1, 0, 0, 0), (50, .i2l, 0, 0, 0, 0, 0, 0), (51, .ladd, 0, 0, 0, 0, 0, 0), (52, .lstore_n 3, 3, 0, 0, 0, 0, 0), (53, .iinc 5 1, 5, 0, 0, 0, 1, 0), (56, .goto (-29), 18, 0, 0, 0, 0, 0), (59, .lload_n 3, 3, 0, 0, 0, 0, 0), (60, .lreturn, 0, 0, 0, 0, 0, 0)]
def az_p87 : List az_I := [(0, .lload_n 0, 0, 0, 0, 0, 0, 0), (1, .bipush 6, 0, 0, 0, 0, 6, 0), (3, .iload_n 2, 2, 0, 0, 0, 0, 0), (4, .imul, 0, 0, 0, 0, 0, 0), (5, .iload_n 3, 3, 0, 0, 0, 0, 0), (6, .iadd, 0, 0, 0, 0, 0, 0), (7, .lushr, 0, 0, 0, 0, 0, 0), (8, .lconst 1, 0, 0, 0, 0, 0, 1), (9, .land, 0, 0, 0, 0, 0, 0), (10, .lconst 0, 0, 0, 0, 0, 0, 0), (11, .lcmp, 0, 0, 0, 0, 0, 0), (12, .ifCond .eq 7, 14, 0, 0, 0, 0, 0), (15, .iconst 1, 0, 0, 0, 0, 1, 0), (16, .goto 4, 15, 0, 0, 0, 0, 0), (19, .iconst 0, 0, 0, 0, 0, 0, 0), (20, .ireturn, 0, 0, 1, 0, 0, 0)]
def az_p88 : List az_I := [(0, .iconst 0, 0, 0, 0, 0, 0, 0), (1, .istore_n 3, 3, 0, 0, 0, 0, 0), (2, .iload_n 3, 3, 0, 0, 0, 0, 0), (3, .iload_n 0, 0, 0, 0, 0, 0, 0), (4, .if_icmp .ge 58, 34, 0, 0, 0, 0, 0), (7, .lload_n 1, 1, 0, 0, 0, 0, 0), (8, .iload_n 3, 3, 0, 0, 0, 0, 0), (9, .iload_n 3, 3, 0, 0, 0, 0, 0), (10, .invokestatic 288, 87, 3, 1, 0, 0, 0), (13, .ifCond .ne 5, 12, 0, 0, 0, 0, 0), (16, .iconst 0, 0, 0, 0, 0, 0, 0), (17, .ireturn, 0, 0, 1, 0, 0, 0), (18, .iconst 0, 0, 0, 0, 0, 0, 0), (19, .istore 4, 4, 0, 0, 0, 0, 0), (21, .iload 4, 4, 0, 0, 0, 0, 0), (23, .iload_n 0, 0, 0, 0, 0, 0, 0), (24, .if_icmp .ge 32, 32, 0, 0, 0, 0, 0), (27, .lload_n 1, 1, 0, 0, 0, 0, 0), (28, .iload_n 3, 3, 0, 0, 0, 0, 0), (29, .iload 4, 4, 0, 0, 0, 0, 0), (31, .invokestatic 288, 87, 3, 1, 0, 0, 0), (34, .ifCond .eq 16, 30, 0, 0, 0, 0, 0), (37, .iload_n 0, 0, 0, 0, 0, 0, 0), (38, .lload_n 1, 1, 0, 0, 0, 0, 0), (39, .iload_n 3, 3, 0, 0, 0, 0, 0), (40, .iload 4, 4, 0, 0, 0, 0, 0), (42, .invokestatic 292, 89, 4, 1, 0, 0, 0), (45, .ifCond .ne 5, 30, 0, 0, 0, 0, 0), (48, .iconst 0, 0, 0, 0, 0, 0, 0), (49, .ireturn, 0, 0, 1, 0, 0, 0), (50, .iinc 4 1, 4, 0, 0, 0, 1, 0), (53, .goto (-32), 14, 0, 0, 0, 0, 0), (56, .iinc 3 1, 3, 0, 0, 0, 1, 0), (59, .goto (-57), 2, 0, 0, 0, 0, 0), (62, .iconst 1, 0, 0, 0, 0, 1, 0), (63, .ireturn, 0, 0, 1, 0, 0, 0)]
def az_p89 : List az_I := [(0, .iconst 0, 0, 0, 0, 0, 0, 0), (1, .istore 5, 5, 0, 0, 0, 0, 0), (3, .iload 5, 5, 0, 0, 0, 0, 0), (5, .iload_n 0, 0, 0, 0, 0, 0, 0), (6, .if_icmp .ge 32, 19, 0, 0, 0, 0, 0), (9, .lload_n 1, 1, 0, 0, 0, 0, 0), (10, .iload 4, 4, 0, 0, 0, 0, 0), (12, .iload 5, 5, 0, 0, 0, 0, 0), (14, .invokestatic 288, 87, 3, 1, 0, 0, 0), (17, .ifCond .eq 15, 17, 0, 0, 0, 0, 0), (20, .lload_n 1, 1, 0, 0, 0, 0, 0), (21, .iload_n 3, 3, 0, 0, 0, 0, 0), (22, .iload 5, 5, 0, 0, 0, 0, 0), (24, .invokestatic 288, 87, 3, 1, 0, 0, 0), (27, .ifCond .ne 5, 17, 0, 0, 0, 0, 0), (30, .iconst 0, 0, 0, 0, 0, 0, 0), (31, .ireturn, 0, 0, 1, 0, 0, 0), (32, .iinc 5 1, 5, 0, 0, 0, 1, 0), (35, .goto (-32), 2, 0, 0, 0, 0, 0), (38, .iconst 1, 0, 0, 0, 0, 1, 0), (39, .ireturn, 0, 0, 1, 0, 0, 0)]
def az_p90 : List az_I := [(0, .iconst 0, 0, 0, 0, 0, 0, 0), (1, .istore_n 3, 3, 0, 0, 0, 0, 0), (2, .iconst 0, 0, 0, 0, 0, 0, 0), (3, .istore 4, 4, 0, 0, 0, 0, 0), (5, .iload 4, 4, 0, 0, 0, 0, 0), (7, .iload_n 0, 0, 0, 0, 0, 0, 0), (8, .if_icmp .ge 43, 27, 0, 0, 0, 0, 0), (11, .iconst 0, 0, 0, 0, 0, 0, 0), (12, .istore 5, 5, 0, 0, 0, 0, 0), (14, .iload 5, 5, 0, 0, 0, 0, 0), (16, .iload_n 0, 0, 0, 0, 0, 0, 0), (17, .if_icmp .ge 28, 25, 0, 0, 0, 0, 0), (20, .iload_n 3, 3, 0, 0, 0, 0, 0), (21, .lload_n 1, 1, 0, 0, 0, 0, 0), (22, .iload 4, 4, 0, 0, 0, 0, 0), (24, .iload 5, 5, 0, 0, 0, 0, 0), (26, .invokestatic 288, 87, 3, 1, 0, 0, 0), (29, .ifCond .eq 7, 20, 0, 0, 0, 0, 0), (32, .iconst 1, 0, 0, 0, 0, 1, 0), (33, .goto 4, 21, 0, 0, 0, 0, 0), (36, .iconst 0, 0, 0, 0, 0, 0, 0), (37, .iadd, 0, 0, 0, 0, 0, 0), (38, .istore_n 3, 3, 0, 0, 0, 0, 0), (39, .iinc 5 1, 5, 0, 0, 0, 1, 0), (42, .goto (-28), 9, 0, 0, 0, 0, 0), (45, .iinc 4 1, 4, 0, 0, 0, 1, 0), (48, .goto (-43), 4, 0, 0, 0, 0, 0), (51, .iload_n 3, 3, 0, 0, 0, 0, 0), (52, .ireturn, 0, 0, 0, 0, 0, 0)]
def az_p91 : List az_I := [(0, .new 9, 4, 0, 0, 0, 0, 0), (3, .dup, 0, 0, 0, 0, 0, 0), (4, .iload_n 0, 0, 0, 0, 0, 0, 0), (5, .invokespecial 65, 22, 2, 0, 0, 0, 0), (8, .astore_n 3, 3, 0, 0, 0, 0, 0), (9, .iconst 0, 0, 0, 0, 0, 0, 0), (10, .istore 4, 4, 0, 0, 0, 0, 0), (12, .iload 4, 4, 0, 0, 0, 0, 0), (14, .iload_n 0, 0, 0, 0, 0, 0, 0), (15, .if_icmp .ge 51, 32, 0, 0, 0, 0, 0), (18, .iconst 0, 0, 0, 0, 0, 0, 0), (19, .istore 5, 5, 0, 0, 0, 0, 0), (21, .iload 5, 5, 0, 0, 0, 0, 0), (23, .iload_n 0, 0, 0, 0, 0, 0, 0), (24, .if_icmp .ge 36, 30, 0, 0, 0, 0, 0), (27, .iload 4, 4, 0, 0, 0, 0, 0), (29, .iload 5, 5, 0, 0, 0, 0, 0), (31, .if_icmp .eq 23, 28, 0, 0, 0, 0, 0), (34, .lload_n 1, 1, 0, 0, 0, 0, 0), (35, .iload 4, 4, 0, 0, 0, 0, 0), (37, .iload 5, 5, 0, 0, 0, 0, 0), (39, .invokestatic 288, 87, 3, 1, 0, 0, 0), (42, .ifCond .eq 12, 28, 0, 0, 0, 0, 0), (45, .aload_n 3, 3, 0, 0, 0, 0, 0), (46, .iload 4, 4, 0, 0, 0, 0, 0), (48, .iload 5, 5, 0, 0, 0, 0, 0), (50, .invokevirtual 87, 23, 3, 1, 4, 0, 0), (53, .pop, 0, 0, 0, 0, 0, 0), (54, .iinc 5 1, 5, 0, 0, 0, 1, 0), (57, .goto (-36), 12, 0, 0, 0, 0, 0), (60, .iinc 4 1, 4, 0, 0, 0, 1, 0), (63, .goto (-51), 7, 0, 0, 0, 0, 0), (66, .iconst 0, 0, 0, 0, 0, 0, 0), (67, .istore 4, 4, 0, 0, 0, 0, 0), (69, .iload 4, 4, 0, 0, 0, 0, 0), (71, .aload_n 3, 3, 0, 0, 0, 0, 0), (72, .getfield 84, 4, 1, 0, 0, 0, 0), (75, .if_icmp .ge 62, 65, 0, 0, 0, 0, 0), (78, .iconst 0, 0, 0, 0, 0, 0, 0), (79, .istore 5, 5, 0, 0, 0, 0, 0), (81, .iload 5, 5, 0, 0, 0, 0, 0), (83, .aload_n 3, 3, 0, 0, 0, 0, 0), (84, .getfield 84, 4, 1, 0, 0, 0, 0), (87, .if_icmp .ge 44, 63, 0, 0, 0, 0, 0), (90, .aload_n 3, 3, 0, 0, 0, 0, 0), (91, .iload 4, 4, 0, 0, 0, 0, 0), (93, .iload 5, 5, 0, 0, 0, 0, 0), (95, .invokevirtual 94, 31, 3, 1, 4, 0, 0), (98, .ifCond .eq 27, 61, 0, 0, 0, 0, 0), (101, .aload_n 3, 3, 0, 0, 0, 0, 0), (102, .iload 4, 4, 0, 0, 0, 0, 0), (104, .iload 5, 5, 0, 0, 0, 0, 0), (106, .aload_n 3, 3, 0, 0, 0, 0, 0), (107, .aload_n 3, 3, 0, 0, 0, 0, 0), (108, .iload 4, 4, 0, 0, 0, 0, 0), (110, .invokevirtual 101, 26, 2, 1, 4, 0, 0), (113, .aload_n 3, 3, 0, 0, 0, 0, 0), (114, .iload 5, 5, 0, 0, 0, 0, 0), (116, .invokevirtual 105, 27, 2, 1, 4, 0, 0), (119, .invokevirtual 296, 34, 3, 1, 4, 0, 0), (122, .invokevirtual 108, 24, 4, 0, 4, 0, 0), (125, .iinc 5 1, 5, 0, 0, 0, 1, 0), (128, .goto (-47), 40, 0, 0, 0, 0, 0), (131, .iinc 4 1, 4, 0, 0, 0, 1, 0), (134, .goto (-65), 34, 0, 0, 0, 0, 0), (137, .aload_n 3, 3, 0, 0, 0, 0, 0), (138, .iconst 1, 0, 0, 0, 0, 1, 0), (139, .putfield 80, 4, 2, 2, 0, 0, 0), (142, .aload_n 3, 3, 0, 0, 0, 0, 0), (143, .areturn, 0, 0, 0, 0, 0, 0)]
def az_p92 : List az_I := [(0, .new 9, 4, 0, 0, 0, 0, 0), (3, .dup, 0, 0, 0, 0, 0, 0), (4, .aload_n 0, 0, 0, 0, 0, 0, 0), (5, .getfield 136, 4, 0, 0, 0, 0, 0), (8, .invokespecial 65, 22, 2, 0, 0, 0, 0), (11, .astore_n 1, 1, 0, 0, 0, 0, 0), (12, .aload_n 0, 0, 0, 0, 0, 0, 0), (13, .getfield 136, 4, 0, 0, 0, 0, 0), (16, .istore_n 2, 2, 0, 0, 0, 0, 0), (17, .iload_n 2, 2, 0, 0, 0, 0, 0), (18, .aload_n 0, 0, 0, 0, 0, 0, 0), (19, .getfield 84, 4, 1, 0, 0, 0, 0), (22, .if_icmp .ge 24, 24, 0, 0, 0, 0, 0), (25, .aload_n 1, 1, 0, 0, 0, 0, 0), (26, .aload_n 0, 0, 0, 0, 0, 0, 0), (27, .iload_n 2, 2, 0, 0, 0, 0, 0), (28, .invokevirtual 105, 27, 2, 1, 4, 0, 0), (31, .aload_n 0, 0, 0, 0, 0, 0, 0), (32, .iload_n 2, 2, 0, 0, 0, 0, 0), (33, .invokevirtual 101, 26, 2, 1, 4, 0, 0), (36, .invokevirtual 87, 23, 3, 1, 4, 0, 0), (39, .pop, 0, 0, 0, 0, 0, 0), (40, .iinc 2 1, 2, 0, 0, 0, 1, 0), (43, .goto (-26), 9, 0, 0, 0, 0, 0), (46, .iconst 0, 0, 0, 0, 0, 0, 0), (47, .istore_n 2, 2, 0, 0, 0, 0, 0), (48, .iload_n 2, 2, 0, 0, 0, 0, 0), (49, .aload_n 0, 0, 0, 0, 0, 0, 0), (50, .getfield 84, 4, 1, 0, 0, 0, 0), (53, .if_icmp .ge 37, 48, 0, 0, 0, 0, 0), (56, .iconst 0, 0, 0, 0, 0, 0, 0), (57, .istore_n 3, 3, 0, 0, 0, 0, 0), (58, .iload_n 3, 3, 0, 0, 0, 0, 0), (59, .aload_n 0, 0, 0, 0, 0, 0, 0), (60, .getfield 84, 4, 1, 0, 0, 0, 0), (63, .if_icmp .ge 21, 46, 0, 0, 0, 0, 0), (66, .aload_n 1, 1, 0, 0, 0, 0, 0), (67, .iload_n 2, 2, 0, 0, 0, 0, 0), (68, .iload_n 3, 3, 0, 0, 0, 0, 0), (69, .aload_n 0, 0, 0, 0, 0, 0, 0), (70, .iload_n 3, 3, 0, 0, 0, 0, 0), (71, .iload_n 2, 2, 0, 0, 0, 0, 0), (72, .invokevirtual 150, 25, 3, 1, 4, 0, 0), (75, .invokevirtual 108, 24, 4, 0, 4, 0, 0), (78, .iinc 3 1, 3, 0, 0, 0, 1, 0), (81, .goto (-23), 32, 0, 0, 0, 0, 0), (84, .iinc 2 1, 2, 0, 0, 0, 1, 0), (87, .goto (-39), 26, 0, 0, 0, 0, 0), (90, .aload_n 1, 1, 0, 0, 0, 0, 0), (91, .iconst 1, 0, 0, 0, 0, 1, 0), (92, .putfield 80, 4, 2, 2, 0, 0, 0), (95, .aload_n 1, 1, 0, 0, 0, 0, 0), (96, .areturn, 0, 0, 0, 0, 0, 0)]
def az_p93 : List az_I := [(0, .new 9, 4, 0, 0, 0, 0, 0), (3, .dup, 0, 0, 0, 0, 0, 0), (4, .aload_n 0, 0, 0, 0, 0, 0, 0), (5, .getfield 136, 4, 0, 0, 0, 0, 0), (8, .aload_n 1, 1, 0, 0, 0, 0, 0), (9, .getfield 136, 4, 0, 0, 0, 0, 0), (12, .imul, 0, 0, 0, 0, 0, 0), (13, .invokespecial 65, 22, 2, 0, 0, 0, 0), (16, .astore_n 2, 2, 0, 0, 0, 0, 0), (17, .iconst 0, 0, 0, 0, 0, 0, 0), (18, .istore_n 3, 3, 0, 0, 0, 0, 0), (19, .iload_n 3, 3, 0, 0, 0, 0, 0), (20, .aload_n 0, 0, 0, 0, 0, 0, 0), (21, .getfield 84, 4, 1, 0, 0, 0, 0), (24, .if_icmp .ge 91, 60, 0, 0, 0, 0, 0), (27, .iconst 0, 0, 0, 0, 0, 0, 0), (28, .istore 4, 4, 0, 0, 0, 0, 0), (30, .iload 4, 4, 0, 0, 0, 0, 0), (32, .aload_n 1, 1, 0, 0, 0, 0, 0), (33, .getfield 84, 4, 1, 0, 0, 0, 0), (36, .if_icmp .ge 73, 58, 0, 0, 0, 0, 0), (39, .aload_n 0, 0, 0, 0, 0, 0, 0), (40, .iload_n 3, 3, 0, 0, 0, 0, 0), (41, .invokevirtual 98, 30, 2, 1, 4, 0, 0), (44, .ifCond .eq 12, 29, 0, 0, 0, 0, 0), (47, .aload_n 1, 1, 0, 0, 0, 0, 0), (48, .iload 4, 4, 0, 0, 0, 0, 0), (50, .invokevirtual 98, 30, 2, 1, 4, 0, 0), (53, .ifCond .ne 50, 56, 0, 0, 0, 0, 0), (56, .aload_n 0, 0, 0, 0, 0, 0, 0), (57, .iload_n 3, 3, 0, 0, 0, 0, 0), (58, .invokevirtual 101, 26, 2, 1, 4, 0, 0), (61, .aload_n 1, 1, 0, 0, 0, 0, 0), (62, .getfield 136, 4, 0, 0, 0, 0, 0), (65, .imul, 0, 0, 0, 0, 0, 0), (66, .aload_n 1, 1, 0, 0, 0, 0, 0), (67, .iload 4, 4, 0, 0, 0, 0, 0), (69, .invokevirtual 101, 26, 2, 1, 4, 0, 0), (72, .iadd, 0, 0, 0, 0, 0, 0), (73, .istore 5, 5, 0, 0, 0, 0, 0), (75, .aload_n 0, 0, 0, 0, 0, 0, 0), (76, .iload_n 3, 3, 0, 0, 0, 0, 0), (77, .invokevirtual 105, 27, 2, 1, 4, 0, 0), (80, .aload_n 1, 1, 0, 0, 0, 0, 0), (81, .getfield 136, 4, 0, 0, 0, 0, 0), (84, .imul, 0, 0, 0, 0, 0, 0), (85, .aload_n 1, 1, 0, 0, 0, 0, 0), (86, .iload 4, 4, 0, 0, 0, 0, 0), (88, .invokevirtual 105, 27, 2, 1, 4, 0, 0), (91, .iadd, 0, 0, 0, 0, 0, 0), (92, .istore 6, 6, 0, 0, 0, 0, 0), (94, .aload_n 2, 2, 0, 0, 0, 0, 0), (95, .iload 5, 5, 0, 0, 0, 0, 0), (97, .iload 6, 6, 0, 0, 0, 0, 0), (99, .invokevirtual 87, 23, 3, 1, 4, 0, 0), (102, .pop, 0, 0, 0, 0, 0, 0), (103, .iinc 4 1, 4, 0, 0, 0, 1, 0), (106, .goto (-76), 17, 0, 0, 0, 0, 0), (109, .iinc 3 1, 3, 0, 0, 0, 1, 0), (112, .goto (-93), 11, 0, 0, 0, 0, 0), (115, .iconst 0, 0, 0, 0, 0, 0, 0), (116, .istore_n 3, 3, 0, 0, 0, 0, 0), (117, .iload_n 3, 3, 0, 0, 0, 0, 0), (118, .aload_n 0, 0, 0, 0, 0, 0, 0), (119, .getfield 84, 4, 1, 0, 0, 0, 0), (122, .if_icmp .ge 46, 87, 0, 0, 0, 0, 0), (125, .iconst 0, 0, 0, 0, 0, 0, 0), (126, .istore 4, 4, 0, 0, 0, 0, 0), (128, .iload 4, 4, 0, 0, 0, 0, 0), (130, .aload_n 0, 0, 0, 0, 0, 0, 0), (131, .getfield 84, 4, 1, 0, 0, 0, 0), (134, .if_icmp .ge 28, 85, 0, 0, 0, 0, 0), (137, .aload_n 0, 0, 0, 0, 0, 0, 0), (138, .iload_n 3, 3, 0, 0, 0, 0, 0), (139, .iload 4, 4, 0, 0, 0, 0, 0), (141, .invokevirtual 94, 31, 3, 1, 4, 0, 0), (144, .ifCond .eq 12, 83, 0, 0, 0, 0, 0), (147, .aload_n 2, 2, 0, 0, 0, 0, 0), (148, .aload_n 0, 0, 0, 0, 0, 0, 0), (149, .aload_n 1, 1, 0, 0, 0, 0, 0), (150, .iload_n 3, 3, 0, 0, 0, 0, 0), (151, .iload 4, 4, 0, 0, 0, 0, 0), (153, .invokestatic 299, 94, 5, 0, 0, 0, 0), (156, .iinc 4 1, 4, 0, 0, 0, 1, 0), (159, .goto (-31), 68, 0, 0, 0, 0, 0), (162, .iinc 3 1, 3, 0, 0, 0, 1, 0), (165, .goto (-48), 62, 0, 0, 0, 0, 0), (168, .aload_n 2, 2, 0, 0, 0, 0, 0), (169, .iconst 1, 0, 0, 0, 0, 1, 0), (170, .putfield 80, 4, 2, 2, 0, 0, 0), (173, .aload_n 2, 2, 0, 0, 0, 0, 0), (174, .areturn, 0, 0, 0, 0, 0, 0)]
def az_p94 : List az_I := [(0, .aload_n 1, 1, 0, 0, 0, 0, 0), (1, .iload_n 3, 3, 0, 0, 0, 0, 0), (2, .iload 4, 4, 0, 0, 0, 0, 0), (4, .invokevirtual 150, 25, 3, 1, 4, 0, 0), (7, .istore 5, 5, 0, 0, 0, 0, 0), (9, .iconst 0, 0, 0, 0, 0, 0, 0), (10, .istore 6, 6, 0, 0, 0, 0, 0), (12, .iload 6, 6, 0, 0, 0, 0, 0), (14, .aload_n 2, 2, 0, 0, 0, 0, 0), (15, .getfield 84, 4, 1, 0, 0, 0, 0), (18, .if_icmp .ge 82, 50, 0, 0, 0, 0, 0), (21, .iconst 0, 0, 0, 0, 0, 0, 0), (22, .istore 7, 7, 0, 0, 0, 0, 0), (24, .iload 7, 7, 0, 0, 0, 0, 0), (26, .aload_n 2, 2, 0, 0, 0, 0, 0), (27, .getfield 84, 4, 1, 0, 0, 0, 0), (30, .if_icmp .ge 64, 48, 0, 0, 0, 0, 0), (33, .aload_n 2, 2, 0, 0, 0, 0, 0), (34, .iload 6, 6, 0, 0, 0, 0, 0), (36, .iload 7, 7, 0, 0, 0, 0, 0), (38, .invokevirtual 94, 31, 3, 1, 4, 0, 0), (41, .ifCond .eq 47, 46, 0, 0, 0, 0, 0), (44, .aload_n 1, 1, 0, 0, 0, 0, 0), (45, .aload_n 2, 2, 0, 0, 0, 0, 0), (46, .iload_n 3, 3, 0, 0, 0, 0, 0), (47, .iload 6, 6, 0, 0, 0, 0, 0), (49, .invokestatic 303, 95, 4, 1, 0, 0, 0), (52, .istore 8, 8, 0, 0, 0, 0, 0), (54, .aload_n 1, 1, 0, 0, 0, 0, 0), (55, .aload_n 2, 2, 0, 0, 0, 0, 0), (56, .iload 4, 4, 0, 0, 0, 0, 0), (58, .iload 7, 7, 0, 0, 0, 0, 0), (60, .invokestatic 303, 95, 4, 1, 0, 0, 0), (63, .istore 9, 9, 0, 0, 0, 0, 0), (65, .aload_n 0, 0, 0, 0, 0, 0, 0), (66, .iload 8, 8, 0, 0, 0, 0, 0), (68, .iload 9, 9, 0, 0, 0, 0, 0), (70, .aload_n 1, 1, 0, 0, 0, 0, 0), (71, .aload_n 2, 2, 0, 0, 0, 0, 0), (72, .iload 5, 5, 0, 0, 0, 0, 0), (74, .aload_n 2, 2, 0, 0, 0, 0, 0), (75, .iload 6, 6, 0, 0, 0, 0, 0), (77, .iload 7, 7, 0, 0, 0, 0, 0), (79, .invokevirtual 150, 25, 3, 1, 4, 0, 0), (82, .invokestatic 303, 95, 4, 1, 0, 0, 0), (85, .invokevirtual 108, 24, 4, 0, 4, 0, 0), (88, .iinc 7 1, 7, 0, 0, 0, 1, 0), (91, .goto (-67), 13, 0, 0, 0, 0, 0), (94, .iinc 6 1, 6, 0, 0, 0, 1, 0), (97, .goto (-85), 7, 0, 0, 0, 0, 0), (100, .return_, 0, 0, 0, 0, 0, 0)]
def az_p95 : List az_I := [(0, .aload_n 1, 1, 0, 0, 0, 0, 0), (1, .getfield 84, 4, 1, 0, 0, 0, 0), (4, .aload_n 1, 1, 0, 0, 0, 0, 0), (5, .getfield 136, 4, 0, 0, 0, 0, 0), (8, .isub, 0, 0, 0, 0, 0, 0), (9, .istore 4, 4, 0, 0, 0, 0, 0), (11, .aload_n 0, 0, 0, 0, 0, 0, 0), (12, .iload_n 2, 2, 0, 0, 0, 0, 0), (13, .invokevirtual 98, 30, 2, 1, 4, 0, 0), (16, .ifCond .eq 20, 21, 0, 0, 0, 0, 0), (19, .aload_n 1, 1, 0, 0, 0, 0, 0), (20, .iload_n 3, 3, 0, 0, 0, 0, 0), (21, .invokevirtual 98, 30, 2, 1, 4, 0, 0), (24, .ifCond .eq 12, 21, 0, 0, 0, 0, 0), (27, .iload_n 2, 2, 0, 0, 0, 0, 0), (28, .aload_n 1, 1, 0, 0, 0, 0, 0), (29, .getfield 136, 4, 0, 0, 0, 0, 0), (32, .imul, 0, 0, 0, 0, 0, 0), (33, .iload_n 3, 3, 0, 0, 0, 0, 0), (34, .iadd, 0, 0, 0, 0, 0, 0), (35, .ireturn, 0, 0, 0, 0, 0, 0), (36, .aload_n 0, 0, 0, 0, 0, 0, 0), (37, .iload_n 2, 2, 0, 0, 0, 0, 0), (38, .invokevirtual 98, 30, 2, 1, 4, 0, 0), (41, .ifCond .eq 25, 40, 0, 0, 0, 0, 0), (44, .aload_n 0, 0, 0, 0, 0, 0, 0), (45, .getfield 136, 4, 0, 0, 0, 0, 0), (48, .aload_n 1, 1, 0, 0, 0, 0, 0), (49, .getfield 136, 4, 0, 0, 0, 0, 0), (52, .imul, 0, 0, 0, 0, 0, 0), (53, .iload_n 2, 2, 0, 0, 0, 0, 0), (54, .iload 4, 4, 0, 0, 0, 0, 0), (56, .imul, 0, 0, 0, 0, 0, 0), (57, .iadd, 0, 0, 0, 0, 0, 0), (58, .iload_n 3, 3, 0, 0, 0, 0, 0), (59, .iadd, 0, 0, 0, 0, 0, 0), (60, .aload_n 1, 1, 0, 0, 0, 0, 0), (61, .getfield 136, 4, 0, 0, 0, 0, 0), (64, .isub, 0, 0, 0, 0, 0, 0), (65, .ireturn, 0, 0, 0, 0, 0, 0), (66, .aload_n 0, 0, 0, 0, 0, 0, 0), (67, .getfield 136, 4, 0, 0, 0, 0, 0), (70, .aload_n 1, 1, 0, 0, 0, 0, 0), (71, .getfield 136, 4, 0, 0, 0, 0, 0), (74, .imul, 0, 0, 0, 0, 0, 0), (75, .aload_n 0, 0, 0, 0, 0, 0, 0), (76, .getfield 136, 4, 0, 0, 0, 0, 0), (79, .iload 4, 4, 0, 0, 0, 0, 0), (81, .imul, 0, 0, 0, 0, 0, 0), (82, .iadd, 0, 0, 0, 0, 0, 0), (83, .iload_n 2, 2, 0, 0, 0, 0, 0), (84, .aload_n 0, 0, 0, 0, 0, 0, 0), (85, .getfield 136, 4, 0, 0, 0, 0, 0), (88, .isub, 0, 0, 0, 0, 0, 0), (89, .aload_n 1, 1, 0, 0, 0, 0, 0), (90, .getfield 84, 4, 1, 0, 0, 0, 0), (93, .imul, 0, 0, 0, 0, 0, 0), (94, .iadd, 0, 0, 0, 0, 0, 0), (95, .iload_n 3, 3, 0, 0, 0, 0, 0), (96, .iadd, 0, 0, 0, 0, 0, 0), (97, .ireturn, 0, 0, 0, 0, 0, 0)]
def az_p96 : List az_I := [(0, .iconst 0, 0, 0, 0, 0, 0, 0), (1, .istore 4, 4, 0, 0, 0, 0, 0), (3, .iconst 0, 0, 0, 0, 0, 0, 0), (4, .istore 5, 5, 0, 0, 0, 0, 0), (6, .aload_n 0, 0, 0, 0, 0, 0, 0), (7, .getfield 24, 5, 2, 1, 0, 0, 0), (10, .aload_n 1, 1, 0, 0, 0, 0, 0), (11, .invokevirtual 212, 18, 2, 0, 3, 0, 0), (14, .iload 5, 5, 0, 0, 0, 0, 0), (16, .ifCond .ne 55, 34, 0, 0, 0, 0, 0), (19, .iload 4, 4, 0, 0, 0, 0, 0), (21, .ldc 216, 0, 0, 0, 0, 60000, 0), (23, .if_icmp .gt 48, 34, 0, 0, 0, 0, 0), (26, .aload_n 0, 0, 0, 0, 0, 0, 0), (27, .getfield 24, 5, 2, 1, 0, 0, 0), (30, .aload_n 1, 1, 0, 0, 0, 0, 0), (31, .aload_n 2, 2, 0, 0, 0, 0, 0), (32, .invokevirtual 217, 19, 3, 1, 3, 0, 0), (35, .ifCond .eq 36, 34, 0, 0, 0, 0, 0), (38, .iload 4, 4, 0, 0, 0, 0, 0), (40, .iload_n 3, 3, 0, 0, 0, 0, 0), (41, .if_icmp .ne 24, 32, 0, 0, 0, 0, 0), (44, .aload_n 0, 0, 0, 0, 0, 0, 0), (45, .getfield 24, 5, 2, 1, 0, 0, 0), (48, .getfield 221, 3, 0, 1, 0, 0, 0), (51, .aload_n 0, 0, 0, 0, 0, 0, 0), (52, .getfield 42, 5, 5, 1, 0, 0, 0), (55, .aload_n 1, 1, 0, 0, 0, 0, 0), (56, .getfield 84, 4, 1, 0, 0, 0, 0), (59, .invokestatic 169, 80, 3, 0, 0, 0, 0), (62, .iconst 1, 0, 0, 0, 0, 1, 0), (63, .istore 5, 5, 0, 0, 0, 0, 0), (65, .iinc 4 1, 4, 0, 0, 0, 1, 0), (68, .goto (-54), 8, 0, 0, 0, 0, 0), (71, .iload 4, 4, 0, 0, 0, 0, 0), (73, .ireturn, 0, 0, 0, 0, 0, 0)]
def az_p97 : List az_I := [(0, .aload_n 0, 0, 0, 0, 0, 0, 0), (1, .aload_n 2, 2, 0, 0, 0, 0, 0), (2, .invokestatic 201, 98, 2, 1, 0, 0, 0), (5, .ifCond .eq 25, 16, 0, 0, 0, 0, 0), (8, .aload_n 0, 0, 0, 0, 0, 0, 0), (9, .aload_n 1, 1, 0, 0, 0, 0, 0), (10, .aload_n 2, 2, 0, 0, 0, 0, 0), (11, .invokestatic 205, 99, 3, 1, 0, 0, 0), (14, .ifCond .eq 16, 16, 0, 0, 0, 0, 0), (17, .aload_n 0, 0, 0, 0, 0, 0, 0), (18, .aload_n 1, 1, 0, 0, 0, 0, 0), (19, .aload_n 2, 2, 0, 0, 0, 0, 0), (20, .invokestatic 209, 101, 3, 1, 0, 0, 0), (23, .ifCond .eq 7, 16, 0, 0, 0, 0, 0), (26, .iconst 1, 0, 0, 0, 0, 1, 0), (27, .goto 4, 17, 0, 0, 0, 0, 0), (30, .iconst 0, 0, 0, 0, 0, 0, 0), (31, .ireturn, 0, 0, 1, 0, 0, 0)]
def az_p98 : List az_I := [(0, .iconst 0, 0, 0, 0, 0, 0, 0), (1, .istore_n 2, 2, 0, 0, 0, 0, 0), (2, .iload_n 2, 2, 0, 0, 0, 0, 0), (3, .aload_n 0, 0, 0, 0, 0, 0, 0), (4, .getfield 84, 4, 1, 0, 0, 0, 0), (7, .if_icmp .ge 51, 32, 0, 0, 0, 0, 0), (10, .iload_n 2, 2, 0, 0, 0, 0, 0), (11, .iconst 1, 0, 0, 0, 0, 1, 0), (12, .iadd, 0, 0, 0, 0, 0, 0), (13, .istore_n 3, 3, 0, 0, 0, 0, 0), (14, .iload_n 3, 3, 0, 0, 0, 0, 0), (15, .aload_n 0, 0, 0, 0, 0, 0, 0), (16, .getfield 84, 4, 1, 0, 0, 0, 0), (19, .if_icmp .ge 33, 30, 0, 0, 0, 0, 0), (22, .aload_n 0, 0, 0, 0, 0, 0, 0), (23, .iload_n 2, 2, 0, 0, 0, 0, 0), (24, .iload_n 3, 3, 0, 0, 0, 0, 0), (25, .invokevirtual 307, 33, 3, 1, 4, 0, 0), (28, .ifCond .eq 18, 28, 0, 0, 0, 0, 0), (31, .aload_n 1, 1, 0, 0, 0, 0, 0), (32, .iload_n 2, 2, 0, 0, 0, 0, 0), (33, .invokestatic 116, 78, 2, 1, 0, 0, 0), (36, .aload_n 1, 1, 0, 0, 0, 0, 0), (37, .iload_n 3, 3, 0, 0, 0, 0, 0), (38, .invokestatic 116, 78, 2, 1, 0, 0, 0), (41, .if_icmp .ne 5, 28, 0, 0, 0, 0, 0), (44, .iconst 0, 0, 0, 0, 0, 0, 0), (45, .ireturn, 0, 0, 1, 0, 0, 0), (46, .iinc 3 1, 3, 0, 0, 0, 1, 0), (49, .goto (-35), 10, 0, 0, 0, 0, 0), (52, .iinc 2 1, 2, 0, 0, 0, 1, 0), (55, .goto (-53), 2, 0, 0, 0, 0, 0), (58, .iconst 1, 0, 0, 0, 0, 1, 0), (59, .ireturn, 0, 0, 1, 0, 0, 0)]
def az_p99 : List az_I := [(0, .iconst 0, 0, 0, 0, 0, 0, 0), (1, .istore_n 3, 3, 0, 0, 0, 0, 0), (2, .iload_n 3, 3, 0, 0, 0, 0, 0), (3, .aload_n 0, 0, 0, 0, 0, 0, 0), (4, .getfield 136, 4, 0, 0, 0, 0, 0), (7, .if_icmp .ge 80, 43, 0, 0, 0, 0, 0), (10, .iconst 0, 0, 0, 0, 0, 0, 0), (11, .istore 4, 4, 0, 0, 0, 0, 0), (13, .iload 4, 4, 0, 0, 0, 0, 0), (15, .aload_n 0, 0, 0, 0, 0, 0, 0), (16, .getfield 136, 4, 0, 0, 0, 0, 0), (19, .if_icmp .ge 62, 41, 0, 0, 0, 0, 0), (22, .iconst 0, 0, 0, 0, 0, 0, 0), (23, .istore 5, 5, 0, 0, 0, 0, 0), (25, .iload 5, 5, 0, 0, 0, 0, 0), (27, .aload_n 1, 1, 0, 0, 0, 0, 0), (28, .getfield 84, 4, 1, 0, 0, 0, 0), (31, .if_icmp .ge 44, 39, 0, 0, 0, 0, 0), (34, .aload_n 1, 1, 0, 0, 0, 0, 0), (35, .iload 5, 5, 0, 0, 0, 0, 0), (37, .aload_n 2, 2, 0, 0, 0, 0, 0), (38, .iload_n 3, 3, 0, 0, 0, 0, 0), (39, .invokestatic 116, 78, 2, 1, 0, 0, 0), (42, .aload_n 2, 2, 0, 0, 0, 0, 0), (43, .iload 4, 4, 0, 0, 0, 0, 0), (45, .invokestatic 116, 78, 2, 1, 0, 0, 0), (48, .invokevirtual 310, 32, 4, 1, 4, 0, 0), (51, .ifCond .eq 18, 37, 0, 0, 0, 0, 0), (54, .aload_n 0, 0, 0, 0, 0, 0, 0), (55, .aload_n 2, 2, 0, 0, 0, 0, 0), (56, .iload_n 3, 3, 0, 0, 0, 0, 0), (57, .iload 4, 4, 0, 0, 0, 0, 0), (59, .iload 5, 5, 0, 0, 0, 0, 0), (61, .invokestatic 314, 100, 5, 1, 0, 0, 0), (64, .ifCond .ne 5, 37, 0, 0, 0, 0, 0), (67, .iconst 0, 0, 0, 0, 0, 0, 0), (68, .ireturn, 0, 0, 1, 0, 0, 0), (69, .iinc 5 1, 5, 0, 0, 0, 1, 0), (72, .goto (-47), 14, 0, 0, 0, 0, 0), (75, .iinc 4 1, 4, 0, 0, 0, 1, 0), (78, .goto (-65), 8, 0, 0, 0, 0, 0), (81, .iinc 3 1, 3, 0, 0, 0, 1, 0), (84, .goto (-82), 2, 0, 0, 0, 0, 0), (87, .iconst 1, 0, 0, 0, 0, 1, 0), (88, .ireturn, 0, 0, 1, 0, 0, 0)]
def az_p100 : List az_I := [(0, .iconst 0, 0, 0, 0, 0, 0, 0), (1, .istore 5, 5, 0, 0, 0, 0, 0), (3, .iload 5, 5, 0, 0, 0, 0, 0), (5, .aload_n 0, 0, 0, 0, 0, 0, 0), (6, .getfield 84, 4, 1, 0, 0, 0, 0), (9, .if_icmp .ge 33, 21, 0, 0, 0, 0, 0), (12, .aload_n 0, 0, 0, 0, 0, 0, 0), (13, .iload 5, 5, 0, 0, 0, 0, 0), (15, .iload_n 2, 2, 0, 0, 0, 0, 0), (16, .iload_n 3, 3, 0, 0, 0, 0, 0), (17, .invokevirtual 310, 32, 4, 1, 4, 0, 0), (20, .ifCond .eq 16, 19, 0, 0, 0, 0, 0), (23, .aload_n 1, 1, 0, 0, 0, 0, 0), (24, .iload 5, 5, 0, 0, 0, 0, 0), (26, .invokestatic 116, 78, 2, 1, 0, 0, 0), (29, .iload 4, 4, 0, 0, 0, 0, 0), (31, .if_icmp .ne 5, 19, 0, 0, 0, 0, 0), (34, .iconst 1, 0, 0, 0, 0, 1, 0), (35, .ireturn, 0, 0, 1, 0, 0, 0), (36, .iinc 5 1, 5, 0, 0, 0, 1, 0), (39, .goto (-36), 2, 0, 0, 0, 0, 0), (42, .iconst 0, 0, 0, 0, 0, 0, 0), (43, .ireturn, 0, 0, 1, 0, 0, 0)]
def az_p101 : List az_I := [(0, .iconst 0, 0, 0, 0, 0, 0, 0), (1, .istore_n 3, 3, 0, 0, 0, 0, 0), (2, .iload_n 3, 3, 0, 0, 0, 0, 0), (3, .aload_n 1, 1, 0, 0, 0, 0, 0), (4, .getfield 136, 4, 0, 0, 0, 0, 0), (7, .if_icmp .ge 55, 31, 0, 0, 0, 0, 0), (10, .iconst 0, 0, 0, 0, 0, 0, 0), (11, .istore 4, 4, 0, 0, 0, 0, 0), (13, .iconst 0, 0, 0, 0, 0, 0, 0), (14, .istore 5, 5, 0, 0, 0, 0, 0), (16, .iload 5, 5, 0, 0, 0, 0, 0), (18, .aload_n 0, 0, 0, 0, 0, 0, 0), (19, .getfield 136, 4, 0, 0, 0, 0, 0), (22, .if_icmp .ge 27, 25, 0, 0, 0, 0, 0), (25, .iload 4, 4, 0, 0, 0, 0, 0), (27, .ifCond .ne 22, 25, 0, 0, 0, 0, 0), (30, .aload_n 1, 1, 0, 0, 0, 0, 0), (31, .iload_n 3, 3, 0, 0, 0, 0, 0), (32, .aload_n 2, 2, 0, 0, 0, 0, 0), (33, .iload 5, 5, 0, 0, 0, 0, 0), (35, .invokestatic 116, 78, 2, 1, 0, 0, 0), (38, .invokevirtual 318, 42, 3, 1, 4, 0, 0), (41, .istore 4, 4, 0, 0, 0, 0, 0), (43, .iinc 5 1, 5, 0, 0, 0, 1, 0), (46, .goto (-30), 10, 0, 0, 0, 0, 0), (49, .iload 4, 4, 0, 0, 0, 0, 0), (51, .ifCond .ne 5, 29, 0, 0, 0, 0, 0), (54, .iconst 0, 0, 0, 0, 0, 0, 0), (55, .ireturn, 0, 0, 1, 0, 0, 0), (56, .iinc 3 1, 3, 0, 0, 0, 1, 0), (59, .goto (-57), 2, 0, 0, 0, 0, 0), (62, .iconst 1, 0, 0, 0, 0, 1, 0), (63, .ireturn, 0, 0, 1, 0, 0, 0)]
def az_p102 : List az_I := [(0, .aload_n 1, 1, 0, 0, 0, 0, 0), (1, .getfield 184, 0, 0, 0, 0, 0, 0), (4, .aload_n 2, 2, 0, 0, 0, 0, 0), (5, .getfield 184, 0, 0, 0, 0, 0, 0), (8, .if_icmp .ne 14, 10, 0, 0, 0, 0, 0), (11, .aload_n 1, 1, 0, 0, 0, 0, 0), (12, .getfield 181, 0, 1, 0, 0, 0, 0), (15, .aload_n 2, 2, 0, 0, 0, 0, 0), (16, .getfield 181, 0, 1, 0, 0, 0, 0), (19, .if_icmp .eq 6, 12, 0, 0, 0, 0, 0), (22, .bipush (-3), 0, 0, 0, 0, (-3), 0), (24, .ireturn, 0, 0, 0, 0, 0, 0), (25, .aload_n 0, 0, 0, 0, 0, 0, 0), (26, .getfield 31, 5, 3, 1, 0, 0, 0), (29, .aload_n 1, 1, 0, 0, 0, 0, 0), (30, .getfield 187, 0, 2, 1, 0, 0, 0), (33, .aload_n 1, 1, 0, 0, 0, 0, 0), (34, .getfield 191, 0, 3, 1, 0, 0, 0), (37, .aload_n 1, 1, 0, 0, 0, 0, 0), (38, .getfield 166, 0, 4, 1, 0, 0, 0), (41, .aload_n 2, 2, 0, 0, 0, 0, 0), (42, .getfield 166, 0, 4, 1, 0, 0, 0), (45, .invokevirtual 321, 12, 5, 1, 2, 0, 0), (48, .sipush 5000, 0, 0, 0, 0, 5000, 0), (51, .if_icmp .le 6, 27, 0, 0, 0, 0, 0), (54, .bipush (-5), 0, 0, 0, 0, (-5), 0), (56, .ireturn, 0, 0, 0, 0, 0, 0), (57, .aload_n 0, 0, 0, 0, 0, 0, 0), (58, .getfield 31, 5, 3, 1, 0, 0, 0), (61, .aload_n 1, 1, 0, 0, 0, 0, 0), (62, .getfield 187, 0, 2, 1, 0, 0, 0), (65, .aload_n 1, 1, 0, 0, 0, 0, 0), (66, .getfield 191, 0, 3, 1, 0, 0, 0), (69, .aload_n 1, 1, 0, 0, 0, 0, 0), (70, .getfield 166, 0, 4, 1, 0, 0, 0), (73, .aload_n 2, 2, 0, 0, 0, 0, 0), (74, .getfield 166, 0, 4, 1, 0, 0, 0), (77, .iload_n 3, 3, 0, 0, 0, 0, 0), (78, .invokevirtual 253, 13, 6, 1, 2, 0, 0), (81, .ireturn, 0, 0, 0, 0, 0, 0)]
def az_p103 : List az_I := [(0, .aload_n 0, 0, 0, 0, 0, 0, 0), (1, .getfield 49, 5, 7, 1, 0, 0, 0), (4, .iload_n 2, 2, 0, 0, 0, 0, 0), (5, .invokestatic 325, 189, 2, 0, 0, 0, 0), (8, .aload_n 0, 0, 0, 0, 0, 0, 0), (9, .getfield 31, 5, 3, 1, 0, 0, 0), (12, .aload_n 1, 1, 0, 0, 0, 0, 0), (13, .getfield 187, 0, 2, 1, 0, 0, 0), (16, .aload_n 1, 1, 0, 0, 0, 0, 0), (17, .getfield 191, 0, 3, 1, 0, 0, 0), (20, .aload_n 0, 0, 0, 0, 0, 0, 0), (21, .getfield 49, 5, 7, 1, 0, 0, 0), (24, .aload_n 1, 1, 0, 0, 0, 0, 0), (25, .getfield 166, 0, 4, 1, 0, 0, 0), (28, .invokevirtual 321, 12, 5, 1, 2, 0, 0), (31, .ireturn, 0, 0, 0, 0, 0, 0)]
def az_p104 : List az_I := [(0, .aload_n 0, 0, 0, 0, 0, 0, 0), (1, .getfield 38, 5, 4, 1, 0, 0, 0), (4, .iconst 0, 0, 0, 0, 0, 0, 0), (5, .putfield 331, 1, 0, 0, 0, 0, 0), (8, .iconst 0, 0, 0, 0, 0, 0, 0), (9, .istore_n 2, 2, 0, 0, 0, 0, 0), (10, .iload_n 2, 2, 0, 0, 0, 0, 0), (11, .aload_n 1, 1, 0, 0, 0, 0, 0), (12, .getfield 191, 0, 3, 1, 0, 0, 0), (15, .getfield 136, 4, 0, 0, 0, 0, 0), (18, .if_icmp .ge 107, 59, 0, 0, 0, 0, 0), (21, .aload_n 0, 0, 0, 0, 0, 0, 0), (22, .aload_n 1, 1, 0, 0, 0, 0, 0), (23, .iload_n 2, 2, 0, 0, 0, 0, 0), (24, .invokevirtual 232, 103, 3, 1, 5, 0, 0), (27, .istore_n 3, 3, 0, 0, 0, 0, 0), (28, .iconst 0, 0, 0, 0, 0, 0, 0), (29, .istore 4, 4, 0, 0, 0, 0, 0), (31, .iload 4, 4, 0, 0, 0, 0, 0), (33, .iload_n 3, 3, 0, 0, 0, 0, 0), (34, .if_icmp .ge 85, 57, 0, 0, 0, 0, 0), (37, .aload_n 0, 0, 0, 0, 0, 0, 0), (38, .getfield 31, 5, 3, 1, 0, 0, 0), (41, .aload_n 1, 1, 0, 0, 0, 0, 0), (42, .getfield 187, 0, 2, 1, 0, 0, 0), (45, .getfield 136, 4, 0, 0, 0, 0, 0), (48, .invokevirtual 334, 14, 2, 0, 2, 0, 0), (51, .aload_n 0, 0, 0, 0, 0, 0, 0), (52, .getfield 31, 5, 3, 1, 0, 0, 0), (55, .aload_n 1, 1, 0, 0, 0, 0, 0), (56, .getfield 187, 0, 2, 1, 0, 0, 0), (59, .aload_n 1, 1, 0, 0, 0, 0, 0), (60, .getfield 191, 0, 3, 1, 0, 0, 0), (63, .aload_n 0, 0, 0, 0, 0, 0, 0), (64, .getfield 49, 5, 7, 1, 0, 0, 0), (67, .aload_n 1, 1, 0, 0, 0, 0, 0), (68, .getfield 166, 0, 4, 1, 0, 0, 0), (71, .invokevirtual 337, 15, 5, 1, 2, 0, 0), (74, .ifCond .eq 25, 49, 0, 0, 0, 0, 0), (77, .aload_n 0, 0, 0, 0, 0, 0, 0), (78, .getfield 38, 5, 4, 1, 0, 0, 0), (81, .iload_n 2, 2, 0, 0, 0, 0, 0), (82, .aload_n 0, 0, 0, 0, 0, 0, 0), (83, .getfield 31, 5, 3, 1, 0, 0, 0), (86, .getfield 341, 2, 0, 1, 0, 0, 0), (89, .aload_n 1, 1, 0, 0, 0, 0, 0), (90, .getfield 187, 0, 2, 1, 0, 0, 0), (93, .getfield 136, 4, 0, 0, 0, 0, 0), (96, .invokevirtual 344, 4, 4, 0, 1, 0, 0), (99, .aload_n 0, 0, 0, 0, 0, 0, 0), (100, .getfield 31, 5, 3, 1, 0, 0, 0), (103, .aload_n 1, 1, 0, 0, 0, 0, 0), (104, .getfield 187, 0, 2, 1, 0, 0, 0), (107, .getfield 136, 4, 0, 0, 0, 0, 0), (110, .invokevirtual 348, 16, 2, 0, 2, 0, 0), (113, .iinc 4 1, 4, 0, 0, 0, 1, 0), (116, .goto (-85), 18, 0, 0, 0, 0, 0), (119, .iinc 2 1, 2, 0, 0, 0, 1, 0), (122, .goto (-112), 6, 0, 0, 0, 0, 0), (125, .return_, 0, 0, 0, 0, 0, 0)]
def az_p105 : List az_I := [(0, .aload_n 0, 0, 0, 0, 0, 0, 0), (1, .getfield 52, 5, 8, 1, 0, 0, 0), (4, .iload_n 2, 2, 0, 0, 0, 0, 0), (5, .iconst (-1), 0, 0, 0, 0, (-1), 0), (6, .invokestatic 197, 79, 3, 0, 0, 0, 0), (9, .aload_n 0, 0, 0, 0, 0, 0, 0), (10, .getfield 55, 5, 9, 1, 0, 0, 0), (13, .iload_n 2, 2, 0, 0, 0, 0, 0), (14, .iconst (-1), 0, 0, 0, 0, (-1), 0), (15, .invokestatic 197, 79, 3, 0, 0, 0, 0), (18, .iconst 0, 0, 0, 0, 0, 0, 0), (19, .istore_n 3, 3, 0, 0, 0, 0, 0), (20, .iload_n 3, 3, 0, 0, 0, 0, 0), (21, .aload_n 1, 1, 0, 0, 0, 0, 0), (22, .getfield 187, 0, 2, 1, 0, 0, 0), (25, .getfield 136, 4, 0, 0, 0, 0, 0), (28, .if_icmp .ge 79, 54, 0, 0, 0, 0, 0), (31, .iconst 0, 0, 0, 0, 0, 0, 0), (32, .istore 4, 4, 0, 0, 0, 0, 0), (34, .iload 4, 4, 0, 0, 0, 0, 0), (36, .aload_n 1, 1, 0, 0, 0, 0, 0), (37, .getfield 191, 0, 3, 1, 0, 0, 0), (40, .getfield 84, 4, 1, 0, 0, 0, 0), (43, .if_icmp .ge 58, 52, 0, 0, 0, 0, 0), (46, .aload_n 1, 1, 0, 0, 0, 0, 0), (47, .getfield 191, 0, 3, 1, 0, 0, 0), (50, .iload 4, 4, 0, 0, 0, 0, 0), (52, .aload_n 1, 1, 0, 0, 0, 0, 0), (53, .iload_n 3, 3, 0, 0, 0, 0, 0), (54, .invokevirtual 194, 2, 2, 1, 0, 0, 0), (57, .iload_n 2, 2, 0, 0, 0, 0, 0), (58, .invokevirtual 310, 32, 4, 1, 4, 0, 0), (61, .ifCond .eq 34, 50, 0, 0, 0, 0, 0), (64, .aload_n 1, 1, 0, 0, 0, 0, 0), (65, .iload_n 2, 2, 0, 0, 0, 0, 0), (66, .iload_n 3, 3, 0, 0, 0, 0, 0), (67, .iload 4, 4, 0, 0, 0, 0, 0), (69, .invokestatic 351, 106, 4, 1, 0, 0, 0), (72, .ifCond .eq 23, 50, 0, 0, 0, 0, 0), (75, .aload_n 0, 0, 0, 0, 0, 0, 0), (76, .getfield 52, 5, 8, 1, 0, 0, 0), (79, .iload_n 2, 2, 0, 0, 0, 0, 0), (80, .iload_n 3, 3, 0, 0, 0, 0, 0), (81, .invokestatic 197, 79, 3, 0, 0, 0, 0), (84, .aload_n 0, 0, 0, 0, 0, 0, 0), (85, .getfield 55, 5, 9, 1, 0, 0, 0), (88, .iload_n 2, 2, 0, 0, 0, 0, 0), (89, .iload 4, 4, 0, 0, 0, 0, 0), (91, .invokestatic 197, 79, 3, 0, 0, 0, 0), (94, .return_, 0, 0, 0, 0, 0, 0), (95, .iinc 4 1, 4, 0, 0, 0, 1, 0), (98, .goto (-64), 19, 0, 0, 0, 0, 0), (101, .iinc 3 1, 3, 0, 0, 0, 1, 0), (104, .goto (-84), 12, 0, 0, 0, 0, 0), (107, .return_, 0, 0, 0, 0, 0, 0)]
def az_p106 : List az_I := [(0, .iconst 0, 0, 0, 0, 0, 0, 0), (1, .istore 4, 4, 0, 0, 0, 0, 0), (3, .iload 4, 4, 0, 0, 0, 0, 0), (5, .aload_n 0, 0, 0, 0, 0, 0, 0), (6, .getfield 187, 0, 2, 1, 0, 0, 0), (9, .getfield 136, 4, 0, 0, 0, 0, 0), (12, .if_icmp .ge 65, 37, 0, 0, 0, 0, 0), (15, .iconst 0, 0, 0, 0, 0, 0, 0), (16, .istore 5, 5, 0, 0, 0, 0, 0), (18, .iload 5, 5, 0, 0, 0, 0, 0), (20, .aload_n 0, 0, 0, 0, 0, 0, 0), (21, .getfield 191, 0, 3, 1, 0, 0, 0), (24, .getfield 84, 4, 1, 0, 0, 0, 0), (27, .if_icmp .ge 44, 35, 0, 0, 0, 0, 0), (30, .aload_n 0, 0, 0, 0, 0, 0, 0), (31, .getfield 191, 0, 3, 1, 0, 0, 0), (34, .iload 5, 5, 0, 0, 0, 0, 0), (36, .aload_n 0, 0, 0, 0, 0, 0, 0), (37, .iload 4, 4, 0, 0, 0, 0, 0), (39, .invokevirtual 194, 2, 2, 1, 0, 0, 0), (42, .iload_n 1, 1, 0, 0, 0, 0, 0), (43, .invokevirtual 310, 32, 4, 1, 4, 0, 0), (46, .ifCond .eq 19, 33, 0, 0, 0, 0, 0), (49, .aload_n 0, 0, 0, 0, 0, 0, 0), (50, .iload 4, 4, 0, 0, 0, 0, 0), (52, .iload_n 2, 2, 0, 0, 0, 0, 0), (53, .iload_n 3, 3, 0, 0, 0, 0, 0), (54, .iload 5, 5, 0, 0, 0, 0, 0), (56, .invokestatic 355, 107, 5, 1, 0, 0, 0), (59, .iconst 1, 0, 0, 0, 0, 1, 0), (60, .if_icmp .eq 5, 33, 0, 0, 0, 0, 0), (63, .iconst 0, 0, 0, 0, 0, 0, 0), (64, .ireturn, 0, 0, 1, 0, 0, 0), (65, .iinc 5 1, 5, 0, 0, 0, 1, 0), (68, .goto (-50), 9, 0, 0, 0, 0, 0), (71, .iinc 4 1, 4, 0, 0, 0, 1, 0), (74, .goto (-71), 2, 0, 0, 0, 0, 0), (77, .iconst 1, 0, 0, 0, 0, 1, 0), (78, .ireturn, 0, 0, 1, 0, 0, 0)]
def az_p107 : List az_I := [(0, .iconst 0, 0, 0, 0, 0, 0, 0), (1, .istore 5, 5, 0, 0, 0, 0, 0), (3, .iconst 0, 0, 0, 0, 0, 0, 0), (4, .istore 6, 6, 0, 0, 0, 0, 0), (6, .iload 6, 6, 0, 0, 0, 0, 0), (8, .aload_n 0, 0, 0, 0, 0, 0, 0), (9, .getfield 187, 0, 2, 1, 0, 0, 0), (12, .getfield 84, 4, 1, 0, 0, 0, 0), (15, .if_icmp .ge 45, 28, 0, 0, 0, 0, 0), (18, .aload_n 0, 0, 0, 0, 0, 0, 0), (19, .getfield 187, 0, 2, 1, 0, 0, 0), (22, .iload 6, 6, 0, 0, 0, 0, 0), (24, .iload_n 1, 1, 0, 0, 0, 0, 0), (25, .iload_n 2, 2, 0, 0, 0, 0, 0), (26, .invokevirtual 310, 32, 4, 1, 4, 0, 0), (29, .ifCond .eq 25, 26, 0, 0, 0, 0, 0), (32, .aload_n 0, 0, 0, 0, 0, 0, 0), (33, .getfield 191, 0, 3, 1, 0, 0, 0), (36, .aload_n 0, 0, 0, 0, 0, 0, 0), (37, .iload 6, 6, 0, 0, 0, 0, 0), (39, .invokevirtual 194, 2, 2, 1, 0, 0, 0), (42, .iload_n 3, 3, 0, 0, 0, 0, 0), (43, .invokevirtual 150, 25, 3, 1, 4, 0, 0), (46, .iload 4, 4, 0, 0, 0, 0, 0), (48, .if_icmp .ne 6, 26, 0, 0, 0, 0, 0), (51, .iinc 5 1, 5, 0, 0, 0, 1, 0), (54, .iinc 6 1, 6, 0, 0, 0, 1, 0), (57, .goto (-51), 4, 0, 0, 0, 0, 0), (60, .iload 5, 5, 0, 0, 0, 0, 0), (62, .ireturn, 0, 0, 0, 0, 0, 0)]
def az_p108 : List az_I := [(0, .aload_n 1, 1, 0, 0, 0, 0, 0), (1, .getfield 191, 0, 3, 1, 0, 0, 0), (4, .iload_n 2, 2, 0, 0, 0, 0, 0), (5, .invokevirtual 101, 26, 2, 1, 4, 0, 0), (8, .istore_n 3, 3, 0, 0, 0, 0, 0), (9, .aload_n 1, 1, 0, 0, 0, 0, 0), (10, .getfield 191, 0, 3, 1, 0, 0, 0), (13, .iload_n 2, 2, 0, 0, 0, 0, 0), (14, .invokevirtual 105, 27, 2, 1, 4, 0, 0), (17, .istore 4, 4, 0, 0, 0, 0, 0), (19, .aload_n 1, 1, 0, 0, 0, 0, 0), (20, .getfield 191, 0, 3, 1, 0, 0, 0), (23, .aload_n 0, 0, 0, 0, 0, 0, 0), (24, .getfield 55, 5, 9, 1, 0, 0, 0), (27, .iload_n 3, 3, 0, 0, 0, 0, 0), (28, .invokestatic 116, 78, 2, 1, 0, 0, 0), (31, .iload_n 2, 2, 0, 0, 0, 0, 0), (32, .invokevirtual 150, 25, 3, 1, 4, 0, 0), (35, .istore 5, 5, 0, 0, 0, 0, 0), (37, .iconst 0, 0, 0, 0, 0, 0, 0), (38, .istore 6, 6, 0, 0, 0, 0, 0), (40, .iload 6, 6, 0, 0, 0, 0, 0), (42, .aload_n 1, 1, 0, 0, 0, 0, 0), (43, .getfield 187, 0, 2, 1, 0, 0, 0), (46, .getfield 84, 4, 1, 0, 0, 0, 0), (49, .if_icmp .ge 72, 57, 0, 0, 0, 0, 0), (52, .aload_n 1, 1, 0, 0, 0, 0, 0), (53, .getfield 187, 0, 2, 1, 0, 0, 0), (56, .iload 6, 6, 0, 0, 0, 0, 0), (58, .aload_n 0, 0, 0, 0, 0, 0, 0), (59, .getfield 52, 5, 8, 1, 0, 0, 0), (62, .iload_n 3, 3, 0, 0, 0, 0, 0), (63, .invokestatic 116, 78, 2, 1, 0, 0, 0), (66, .aload_n 0, 0, 0, 0, 0, 0, 0), (67, .getfield 52, 5, 8, 1, 0, 0, 0), (70, .iload 4, 4, 0, 0, 0, 0, 0), (72, .invokestatic 116, 78, 2, 1, 0, 0, 0), (75, .invokevirtual 310, 32, 4, 1, 4, 0, 0), (78, .istore 7, 7, 0, 0, 0, 0, 0), (80, .iload 7, 7, 0, 0, 0, 0, 0), (82, .ifCond .eq 33, 55, 0, 0, 0, 0, 0), (85, .aload_n 1, 1, 0, 0, 0, 0, 0), (86, .getfield 191, 0, 3, 1, 0, 0, 0), (89, .aload_n 1, 1, 0, 0, 0, 0, 0), (90, .iload 6, 6, 0, 0, 0, 0, 0), (92, .invokevirtual 194, 2, 2, 1, 0, 0, 0), (95, .aload_n 0, 0, 0, 0, 0, 0, 0), (96, .getfield 55, 5, 9, 1, 0, 0, 0), (99, .iload 4, 4, 0, 0, 0, 0, 0), (101, .invokestatic 116, 78, 2, 1, 0, 0, 0), (104, .invokevirtual 150, 25, 3, 1, 4, 0, 0), (107, .iload 5, 5, 0, 0, 0, 0, 0), (109, .if_icmp .ne 6, 55, 0, 0, 0, 0, 0), (112, .iload 6, 6, 0, 0, 0, 0, 0), (114, .ireturn, 0, 0, 0, 0, 0, 0), (115, .iinc 6 1, 6, 0, 0, 0, 1, 0), (118, .goto (-78), 21, 0, 0, 0, 0, 0), (121, .iconst (-1), 0, 0, 0, 0, (-1), 0), (122, .ireturn, 0, 0, 0, 0, 0, 0)]
def az_p109 : List az_I := [(0, .aload_n 0, 0, 0, 0, 0, 0, 0), (1, .getfield 80, 4, 2, 0, 0, 0, 0), (4, .ifCond .ne 6, 5, 0, 0, 0, 0, 0), (7, .bipush (-3), 0, 0, 0, 0, (-3), 0), (9, .ireturn, 0, 0, 0, 0, 0, 0), (10, .aload_n 0, 0, 0, 0, 0, 0, 0), (11, .iload_n 1, 1, 0, 0, 0, 0, 0), (12, .invokevirtual 359, 43, 2, 1, 4, 0, 0), (15, .istore_n 3, 3, 0, 0, 0, 0, 0), (16, .iload_n 3, 3, 0, 0, 0, 0, 0), (17, .invokestatic 362, 188, 1, 1, 0, 0, 0), (20, .istore 4, 4, 0, 0, 0, 0, 0), (22, .iload 4, 4, 0, 0, 0, 0, 0), (24, .bipush 12, 0, 0, 0, 0, 12, 0), (26, .if_icmp .le 6, 17, 0, 0, 0, 0, 0), (29, .bipush (-5), 0, 0, 0, 0, (-5), 0), (31, .ireturn, 0, 0, 0, 0, 0, 0), (32, .iconst 0, 0, 0, 0, 0, 0, 0), (33, .istore 5, 5, 0, 0, 0, 0, 0), (35, .iconst 0, 0, 0, 0, 0, 0, 0), (36, .istore 6, 6, 0, 0, 0, 0, 0), (38, .iconst 0, 0, 0, 0, 0, 0, 0), (39, .istore 7, 7, 0, 0, 0, 0, 0), (41, .iload 7, 7, 0, 0, 0, 0, 0), (43, .iconst 1, 0, 0, 0, 0, 1, 0), (44, .iload 4, 4, 0, 0, 0, 0, 0), (46, .ishl, 0, 0, 0, 0, 0, 0), (47, .if_icmp .ge 39, 47, 0, 0, 0, 0, 0), (50, .aload_n 0, 0, 0, 0, 0, 0, 0), (51, .iload_n 1, 1, 0, 0, 0, 0, 0), (52, .iload 6, 6, 0, 0, 0, 0, 0), (54, .invokevirtual 267, 44, 3, 1, 4, 0, 0), (57, .ifCond .eq 15, 39, 0, 0, 0, 0, 0), (60, .iload 5, 5, 0, 0, 0, 0, 0), (62, .iload_n 2, 2, 0, 0, 0, 0, 0), (63, .if_icmp .ne 6, 38, 0, 0, 0, 0, 0), (66, .iload 6, 6, 0, 0, 0, 0, 0), (68, .ireturn, 0, 0, 0, 0, 0, 0), (69, .iinc 5 1, 5, 0, 0, 0, 1, 0), (72, .iload 6, 6, 0, 0, 0, 0, 0), (74, .iload_n 3, 3, 0, 0, 0, 0, 0), (75, .isub, 0, 0, 0, 0, 0, 0), (76, .iload_n 3, 3, 0, 0, 0, 0, 0), (77, .iand, 0, 0, 0, 0, 0, 0), (78, .istore 6, 6, 0, 0, 0, 0, 0), (80, .iinc 7 1, 7, 0, 0, 0, 1, 0), (83, .goto (-42), 23, 0, 0, 0, 0, 0), (86, .iload_n 2, 2, 0, 0, 0, 0, 0), (87, .iconst (-1), 0, 0, 0, 0, (-1), 0), (88, .if_icmp .ne 8, 52, 0, 0, 0, 0, 0), (91, .iload 5, 5, 0, 0, 0, 0, 0), (93, .goto 4, 53, 0, 0, 0, 0, 0), (96, .iconst (-1), 0, 0, 0, 0, (-1), 0), (97, .ireturn, 0, 0, 0, 0, 0, 0)]
def az_p110 : List az_I := [(0, .aload_n 0, 0, 0, 0, 0, 0, 0), (1, .invokespecial 1, 0, 1, 9, 0, 0, 0), (4, .aload_n 0, 0, 0, 0, 0, 0, 0), (5, .bipush 8, 0, 0, 0, 0, 8, 0), (7, .newarray .int, 0, 0, 0, 0, 0, 0), (9, .putfield 7, 6, 1, 1, 0, 0, 0), (12, .aload_n 0, 0, 0, 0, 0, 0, 0), (13, .bipush 8, 0, 0, 0, 0, 8, 0), (15, .newarray .int, 0, 0, 0, 0, 0, 0), (17, .putfield 13, 6, 2, 1, 0, 0, 0), (20, .aload_n 0, 0, 0, 0, 0, 0, 0), (21, .bipush 8, 0, 0, 0, 0, 8, 0), (23, .newarray .boolean, 0, 1, 0, 0, 0, 0), (25, .putfield 16, 6, 3, 1, 0, 0, 0), (28, .aload_n 0, 0, 0, 0, 0, 0, 0), (29, .sipush 192, 0, 0, 0, 0, 192, 0), (32, .newarray .int, 0, 0, 0, 0, 0, 0), (34, .putfield 20, 6, 4, 1, 0, 0, 0), (37, .aload_n 0, 0, 0, 0, 0, 0, 0), (38, .sipush 192, 0, 0, 0, 0, 192, 0), (41, .newarray .int, 0, 0, 0, 0, 0, 0), (43, .putfield 23, 6, 5, 1, 0, 0, 0), (46, .aload_n 0, 0, 0, 0, 0, 0, 0), (47, .sipush 4608, 0, 0, 0, 0, 4608, 0), (50, .newarray .int, 0, 0, 0, 0, 0, 0), (52, .putfield 26, 6, 6, 1, 0, 0, 0), (55, .aload_n 0, 0, 0, 0, 0, 0, 0), (56, .iconst 4, 0, 0, 0, 0, 4, 0), (57, .newarray .int, 0, 0, 0, 0, 0, 0), (59, .putfield 29, 6, 7, 1, 0, 0, 0), (62, .aload_n 0, 0, 0, 0, 0, 0, 0), (63, .bipush 24, 0, 0, 0, 0, 24, 0), (65, .newarray .int, 0, 0, 0, 0, 0, 0), (67, .putfield 32, 6, 8, 1, 0, 0, 0), (70, .aload_n 0, 0, 0, 0, 0, 0, 0), (71, .bipush 24, 0, 0, 0, 0, 24, 0), (73, .newarray .int, 0, 0, 0, 0, 0, 0), (75, .putfield 35, 6, 9, 1, 0, 0, 0), (78, .aload_n 0, 0, 0, 0, 0, 0, 0), (79, .bipush 25, 0, 0, 0, 0, 25, 0), (81, .newarray .int, 0, 0, 0, 0, 0, 0), (83, .putfield 38, 6, 11, 1, 0, 0, 0), (86, .aload_n 0, 0, 0, 0, 0, 0, 0), (87, .bipush 25, 0, 0, 0, 0, 25, 0), (89, .newarray .int, 0, 0, 0, 0, 0, 0), (91, .putfield 41, 6, 12, 1, 0, 0, 0), (94, .aload_n 0, 0, 0, 0, 0, 0, 0), (95, .sipush 600, 0, 0, 0, 0, 600, 0), (98, .newarray .int, 0, 0, 0, 0, 0, 0), (100, .putfield 44, 6, 13, 1, 0, 0, 0), (103, .aload_n 0, 0, 0, 0, 0, 0, 0), (104, .sipush 576, 0, 0, 0, 0, 576, 0), (107, .newarray .int, 0, 0, 0, 0, 0, 0), (109, .putfield 47, 6, 15, 1, 0, 0, 0), (112, .aload_n 0, 0, 0, 0, 0, 0, 0), (113, .sipush 576, 0, 0, 0, 0, 576, 0), (116, .newarray .int, 0, 0, 0, 0, 0, 0), (118, .putfield 50, 6, 16, 1, 0, 0, 0), (121, .aload_n 0, 0, 0, 0, 0, 0, 0), (122, .bipush 25, 0, 0, 0, 0, 25, 0), (124, .newarray .int, 0, 0, 0, 0, 0, 0), (126, .putfield 53, 6, 17, 1, 0, 0, 0), (129, .aload_n 0, 0, 0, 0, 0, 0, 0), (130, .bipush 6, 0, 0, 0, 0, 6, 0), (132, .newarray .int, 0, 0, 0, 0, 0, 0), (134, .putfield 56, 6, 18, 1, 0, 0, 0), (137, .aload_n 0, 0, 0, 0, 0, 0, 0), (138, .bipush 6, 0, 0, 0, 0, 6, 0), (140, .newarray .int, 0, 0, 0, 0, 0, 0), (142, .putfield 59, 6, 19, 1, 0, 0, 0), (145, .aload_n 0, 0, 0, 0, 0, 0, 0), (146, .bipush 6, 0, 0, 0, 0, 6, 0), (148, .newarray .int, 0, 0, 0, 0, 0, 0), (150, .putfield 62, 6, 20, 1, 0, 0, 0), (153, .aload_n 0, 0, 0, 0, 0, 0, 0), (154, .sipush 384, 0, 0, 0, 0, 384, 0), (157, .newarray .int, 0, 0, 0, 0, 0, 0), (159, .putfield 65, 6, 22, 1, 0, 0, 0), (162, .aload_n 0, 0, 0, 0, 0, 0, 0), (163, .sipush 2304, 0, 0, 0, 0, 2304, 0), (166, .newarray .int, 0, 0, 0, 0, 0, 0), (168, .putfield 68, 6, 23, 1, 0, 0, 0), (171, .aload_n 0, 0, 0, 0, 0, 0, 0), (172, .bipush 6, 0, 0, 0, 0, 6, 0), (174, .newarray .int, 0, 0, 0, 0, 0, 0), (176, .putfield 71, 6, 24, 1, 0, 0, 0), (179, .aload_n 0, 0, 0, 0, 0, 0, 0), (180, .bipush 6, 0, 0, 0, 0, 6, 0), (182, .newarray .int, 0, 0, 0, 0, 0, 0), (184, .putfield 74, 6, 28, 1, 0, 0, 0), (187, .aload_n 0, 0, 0, 0, 0, 0, 0), (188, .bipush 6, 0, 0, 0, 0, 6, 0), (190, .newarray .int, 0, 0, 0, 0, 0, 0), (192, .putfield 77, 6, 29, 1, 0, 0, 0), (195, .aload_n 0, 0, 0, 0, 0, 0, 0), (196, .bipush 24, 0, 0, 0, 0, 24, 0), (198, .newarray .int, 0, 0, 0, 0, 0, 0), (200, .putfield 80, 6, 31, 1, 0, 0, 0), (203, .return_, 0, 0, 0, 0, 0, 0)]
def az_p111 : List az_I := [(0, .iload_n 0, 0, 0, 0, 0, 0, 0), (1, .iload_n 1, 1, 0, 0, 0, 0, 0), (2, .if_icmp .lt 12, 8, 0, 0, 0, 0, 0), (5, .iload_n 0, 0, 0, 0, 0, 0, 0), (6, .iload_n 2, 2, 0, 0, 0, 0, 0), (7, .if_icmp .gt 7, 8, 0, 0, 0, 0, 0), (10, .iconst 1, 0, 0, 0, 0, 1, 0), (11, .goto 4, 9, 0, 0, 0, 0, 0), (14, .iconst 0, 0, 0, 0, 0, 0, 0), (15, .ireturn, 0, 0, 1, 0, 0, 0)]
def az_p112 : List az_I := [(0, .iload_n 1, 1, 0, 0, 0, 0, 0), (1, .iconst 0, 0, 0, 0, 0, 0, 0), (2, .aload_n 0, 0, 0, 0, 0, 0, 0), (3, .getfield 83, 6, 0, 0, 0, 0, 0), (6, .iconst 1, 0, 0, 0, 0, 1, 0), (7, .isub, 0, 0, 0, 0, 0, 0), (8, .invokestatic 87, 111, 3, 1, 0, 0, 0), (11, .ireturn, 0, 0, 1, 0, 0, 0)]
def az_p113 : List az_I := [(0, .aload_n 0, 0, 0, 0, 0, 0, 0), (1, .iload_n 1, 1, 0, 0, 0, 0, 0), (2, .invokevirtual 91, 112, 2, 1, 6, 0, 0), (5, .ifCond .eq 23, 16, 0, 0, 0, 0, 0), (8, .iload_n 2, 2, 0, 0, 0, 0, 0), (9, .iconst 0, 0, 0, 0, 0, 0, 0), (10, .aload_n 0, 0, 0, 0, 0, 0, 0), (11, .getfield 13, 6, 2, 1, 0, 0, 0), (14, .iload_n 1, 1, 0, 0, 0, 0, 0), (15, .iaload, 0, 0, 0, 0, 0, 0), (16, .iconst 1, 0, 0, 0, 0, 1, 0), (17, .isub, 0, 0, 0, 0, 0, 0), (18, .invokestatic 87, 111, 3, 1, 0, 0, 0), (21, .ifCond .eq 7, 16, 0, 0, 0, 0, 0), (24, .iconst 1, 0, 0, 0, 0, 1, 0), (25, .goto 4, 17, 0, 0, 0, 0, 0), (28, .iconst 0, 0, 0, 0, 0, 0, 0), (29, .ireturn, 0, 0, 1, 0, 0, 0)]
def az_p114 : List az_I := [(0, .aload_n 0, 0, 0, 0, 0, 0, 0), (1, .getfield 83, 6, 0, 0, 0, 0, 0), (4, .istore_n 2, 2, 0, 0, 0, 0, 0), (5, .aload_n 0, 0, 0, 0, 0, 0, 0), (6, .getfield 7, 6, 1, 1, 0, 0, 0), (9, .iload_n 2, 2, 0, 0, 0, 0, 0), (10, .iload_n 1, 1, 0, 0, 0, 0, 0), (11, .iastore, 0, 0, 0, 0, 0, 0), (12, .aload_n 0, 0, 0, 0, 0, 0, 0), (13, .getfield 13, 6, 2, 1, 0, 0, 0), (16, .iload_n 2, 2, 0, 0, 0, 0, 0), (17, .iconst 0, 0, 0, 0, 0, 0, 0), (18, .iastore, 0, 0, 0, 0, 0, 0), (19, .aload_n 0, 0, 0, 0, 0, 0, 0), (20, .getfield 16, 6, 3, 1, 0, 0, 0), (23, .iload_n 2, 2, 0, 0, 0, 0, 0), (24, .iconst 0, 0, 0, 0, 0, 0, 0), (25, .bastore, 0, 0, 0, 0, 0, 0), (26, .iconst 0, 0, 0, 0, 0, 0, 0), (27, .istore_n 3, 3, 0, 0, 0, 0, 0), (28, .iload_n 3, 3, 0, 0, 0, 0, 0), (29, .sipush 576, 0, 0, 0, 0, 576, 0), (32, .if_icmp .ge 22, 34, 0, 0, 0, 0, 0), (35, .aload_n 0, 0, 0, 0, 0, 0, 0), (36, .getfield 26, 6, 6, 1, 0, 0, 0), (39, .sipush 576, 0, 0, 0, 0, 576, 0), (42, .iload_n 2, 2, 0, 0, 0, 0, 0), (43, .imul, 0, 0, 0, 0, 0, 0), (44, .iload_n 3, 3, 0, 0, 0, 0, 0), (45, .iadd, 0, 0, 0, 0, 0, 0), (46, .iconst (-1), 0, 0, 0, 0, (-1), 0), (47, .iastore, 0, 0, 0, 0, 0, 0), (48, .iinc 3 1, 3, 0, 0, 0, 1, 0), (51, .goto (-23), 20, 0, 0, 0, 0, 0), (54, .iconst 0, 0, 0, 0, 0, 0, 0), (55, .istore_n 3, 3, 0, 0, 0, 0, 0), (56, .iload_n 3, 3, 0, 0, 0, 0, 0), (57, .iload_n 1, 1, 0, 0, 0, 0, 0), (58, .if_icmp .ge 17, 47, 0, 0, 0, 0, 0), (61, .aload_n 0, 0, 0, 0, 0, 0, 0), (62, .iload_n 2, 2, 0, 0, 0, 0, 0), (63, .iload_n 3, 3, 0, 0, 0, 0, 0), (64, .iload_n 3, 3, 0, 0, 0, 0, 0), (65, .invokevirtual 95, 115, 4, 1, 6, 0, 0), (68, .pop, 0, 0, 0, 0, 0, 0), (69, .iinc 3 1, 3, 0, 0, 0, 1, 0), (72, .goto (-16), 36, 0, 0, 0, 0, 0), (75, .aload_n 0, 0, 0, 0, 0, 0, 0), (76, .dup, 0, 0, 0, 0, 0, 0), (77, .getfield 83, 6, 0, 0, 0, 0, 0), (80, .iconst 1, 0, 0, 0, 0, 1, 0), (81, .iadd, 0, 0, 0, 0, 0, 0), (82, .putfield 83, 6, 0, 0, 0, 0, 0), (85, .return_, 0, 0, 0, 0, 0, 0)]
def az_p115 : List az_I := [(0, .aload_n 0, 0, 0, 0, 0, 0, 0), (1, .getfield 13, 6, 2, 1, 0, 0, 0), (4, .iload_n 1, 1, 0, 0, 0, 0, 0), (5, .iaload, 0, 0, 0, 0, 0, 0), (6, .istore 4, 4, 0, 0, 0, 0, 0), (8, .aload_n 0, 0, 0, 0, 0, 0, 0), (9, .getfield 20, 6, 4, 1, 0, 0, 0), (12, .bipush 24, 0, 0, 0, 0, 24, 0), (14, .iload_n 1, 1, 0, 0, 0, 0, 0), (15, .imul, 0, 0, 0, 0, 0, 0), (16, .iload 4, 4, 0, 0, 0, 0, 0), (18, .iadd, 0, 0, 0, 0, 0, 0), (19, .iload_n 2, 2, 0, 0, 0, 0, 0), (20, .iastore, 0, 0, 0, 0, 0, 0), (21, .aload_n 0, 0, 0, 0, 0, 0, 0), (22, .getfield 23, 6, 5, 1, 0, 0, 0), (25, .bipush 24, 0, 0, 0, 0, 24, 0), (27, .iload_n 1, 1, 0, 0, 0, 0, 0), (28, .imul, 0, 0, 0, 0, 0, 0), (29, .iload 4, 4, 0, 0, 0, 0, 0), (31, .iadd, 0, 0, 0, 0, 0, 0), (32, .iload_n 3, 3, 0, 0, 0, 0, 0), (33, .iastore, 0, 0, 0, 0, 0, 0), (34, .aload_n 0, 0, 0, 0, 0, 0, 0), (35, .getfield 13, 6, 2, 1, 0, 0, 0), (38, .iload_n 1, 1, 0, 0, 0, 0, 0), (39, .dup2, 0, 0, 0, 0, 0, 0), (40, .iaload, 0, 0, 0, 0, 0, 0), (41, .iconst 1, 0, 0, 0, 0, 1, 0), (42, .iadd, 0, 0, 0, 0, 0, 0), (43, .iastore, 0, 0, 0, 0, 0, 0), (44, .iload 4, 4, 0, 0, 0, 0, 0), (46, .ireturn, 0, 0, 0, 0, 0, 0)]
def az_p116 : List az_I := [(0, .aload_n 0, 0, 0, 0, 0, 0, 0), (1, .getfield 20, 6, 4, 1, 0, 0, 0), (4, .bipush 24, 0, 0, 0, 0, 24, 0), (6, .iload_n 1, 1, 0, 0, 0, 0, 0), (7, .imul, 0, 0, 0, 0, 0, 0), (8, .iload_n 2, 2, 0, 0, 0, 0, 0), (9, .iadd, 0, 0, 0, 0, 0, 0), (10, .iaload, 0, 0, 0, 0, 0, 0), (11, .ireturn, 0, 0, 0, 0, 0, 0)]
def az_p117 : List az_I := [(0, .aload_n 0, 0, 0, 0, 0, 0, 0), (1, .getfield 23, 6, 5, 1, 0, 0, 0), (4, .bipush 24, 0, 0, 0, 0, 24, 0), (6, .iload_n 1, 1, 0, 0, 0, 0, 0), (7, .imul, 0, 0, 0, 0, 0, 0), (8, .iload_n 2, 2, 0, 0, 0, 0, 0), (9, .iadd, 0, 0, 0, 0, 0, 0), (10, .iaload, 0, 0, 0, 0, 0, 0), (11, .ireturn, 0, 0, 0, 0, 0, 0)]
def az_p118 : List az_I := [(0, .aload_n 0, 0, 0, 0, 0, 0, 0), (1, .iload_n 1, 1, 0, 0, 0, 0, 0), (2, .iload_n 2, 2, 0, 0, 0, 0, 0), (3, .invokevirtual 99, 117, 3, 1, 6, 0, 0), (6, .aload_n 0, 0, 0, 0, 0, 0, 0), (7, .iload_n 1, 1, 0, 0, 0, 0, 0), (8, .iload_n 3, 3, 0, 0, 0, 0, 0), (9, .invokevirtual 103, 116, 3, 1, 6, 0, 0), (12, .if_icmp .eq 5, 11, 0, 0, 0, 0, 0), (15, .iconst (-1), 0, 0, 0, 0, (-1), 0), (16, .ireturn, 0, 0, 0, 0, 0, 0), (17, .iload_n 2, 2, 0, 0, 0, 0, 0), (18, .aload_n 0, 0, 0, 0, 0, 0, 0), (19, .getfield 7, 6, 1, 1, 0, 0, 0), (22, .iload_n 1, 1, 0, 0, 0, 0, 0), (23, .iaload, 0, 0, 0, 0, 0, 0), (24, .if_icmp .ge 7, 19, 0, 0, 0, 0, 0), (27, .iload_n 3, 3, 0, 0, 0, 0, 0), (28, .goto 34, 39, 0, 0, 0, 0, 0), (31, .iload_n 3, 3, 0, 0, 0, 0, 0), (32, .aload_n 0, 0, 0, 0, 0, 0, 0), (33, .getfield 7, 6, 1, 1, 0, 0, 0), (36, .iload_n 1, 1, 0, 0, 0, 0, 0), (37, .iaload, 0, 0, 0, 0, 0, 0), (38, .if_icmp .ge 7, 27, 0, 0, 0, 0, 0), (41, .iload_n 2, 2, 0, 0, 0, 0, 0), (42, .goto 20, 39, 0, 0, 0, 0, 0), (45, .aload_n 0, 0, 0, 0, 0, 0, 0), (46, .getfield 26, 6, 6, 1, 0, 0, 0), (49, .sipush 576, 0, 0, 0, 0, 576, 0), (52, .iload_n 1, 1, 0, 0, 0, 0, 0), (53, .imul, 0, 0, 0, 0, 0, 0), (54, .bipush 24, 0, 0, 0, 0, 24, 0), (56, .iload_n 2, 2, 0, 0, 0, 0, 0), (57, .imul, 0, 0, 0, 0, 0, 0), (58, .iadd, 0, 0, 0, 0, 0, 0), (59, .iload_n 3, 3, 0, 0, 0, 0, 0), (60, .iadd, 0, 0, 0, 0, 0, 0), (61, .iaload, 0, 0, 0, 0, 0, 0), (62, .ireturn, 0, 0, 0, 0, 0, 0)]
def az_p119 : List az_I := [(0, .iload_n 1, 1, 0, 0, 0, 0, 0), (1, .iconst 1, 0, 0, 0, 0, 1, 0), (2, .bipush 6, 0, 0, 0, 0, 6, 0), (4, .invokestatic 87, 111, 3, 1, 0, 0, 0), (7, .ifCond .ne 6, 7, 0, 0, 0, 0, 0), (10, .bipush (-2), 0, 0, 0, 0, (-2), 0), (12, .ireturn, 0, 0, 0, 0, 0, 0), (13, .aload_n 0, 0, 0, 0, 0, 0, 0), (14, .getfield 83, 6, 0, 0, 0, 0, 0), (17, .bipush 8, 0, 0, 0, 0, 8, 0), (19, .if_icmp .ne 6, 13, 0, 0, 0, 0, 0), (22, .bipush (-4), 0, 0, 0, 0, (-4), 0), (24, .ireturn, 0, 0, 0, 0, 0, 0), (25, .aload_n 0, 0, 0, 0, 0, 0, 0), (26, .iload_n 1, 1, 0, 0, 0, 0, 0), (27, .invokevirtual 106, 114, 2, 0, 6, 0, 0), (30, .aload_n 0, 0, 0, 0, 0, 0, 0), (31, .getfield 83, 6, 0, 0, 0, 0, 0), (34, .iconst 1, 0, 0, 0, 0, 1, 0), (35, .isub, 0, 0, 0, 0, 0, 0), (36, .ireturn, 0, 0, 0, 0, 0, 0)]
def az_p120 : List az_I := [(0, .aload_n 0, 0, 0, 0, 0, 0, 0), (1, .iload_n 1, 1, 0, 0, 0, 0, 0), (2, .invokevirtual 91, 112, 2, 1, 6, 0, 0), (5, .ifCond .eq 35, 24, 0, 0, 0, 0, 0), (8, .iload_n 2, 2, 0, 0, 0, 0, 0), (9, .iconst 0, 0, 0, 0, 0, 0, 0), (10, .aload_n 0, 0, 0, 0, 0, 0, 0), (11, .getfield 7, 6, 1, 1, 0, 0, 0), (14, .iload_n 1, 1, 0, 0, 0, 0, 0), (15, .iaload, 0, 0, 0, 0, 0, 0), (16, .iconst 1, 0, 0, 0, 0, 1, 0), (17, .isub, 0, 0, 0, 0, 0, 0), (18, .invokestatic 87, 111, 3, 1, 0, 0, 0), (21, .ifCond .eq 19, 24, 0, 0, 0, 0, 0), (24, .iload_n 3, 3, 0, 0, 0, 0, 0), (25, .iconst 0, 0, 0, 0, 0, 0, 0), (26, .aload_n 0, 0, 0, 0, 0, 0, 0), (27, .getfield 7, 6, 1, 1, 0, 0, 0), (30, .iload_n 1, 1, 0, 0, 0, 0, 0), (31, .iaload, 0, 0, 0, 0, 0, 0), (32, .iconst 1, 0, 0, 0, 0, 1, 0), (33, .isub, 0, 0, 0, 0, 0, 0), (34, .invokestatic 87, 111, 3, 1, 0, 0, 0), (37, .ifCond .ne 6, 26, 0, 0, 0, 0, 0), (40, .bipush (-2), 0, 0, 0, 0, (-2), 0), (42, .ireturn, 0, 0, 0, 0, 0, 0), (43, .aload_n 0, 0, 0, 0, 0, 0, 0), (44, .getfield 16, 6, 3, 1, 0, 0, 0), (47, .iload_n 1, 1, 0, 0, 0, 0, 0), (48, .baload, 0, 0, 0, 0, 0, 0), (49, .ifCond .eq 6, 33, 0, 0, 0, 0, 0), (52, .bipush (-3), 0, 0, 0, 0, (-3), 0), (54, .ireturn, 0, 0, 0, 0, 0, 0), (55, .aload_n 0, 0, 0, 0, 0, 0, 0), (56, .getfield 13, 6, 2, 1, 0, 0, 0), (59, .iload_n 1, 1, 0, 0, 0, 0, 0), (60, .iaload, 0, 0, 0, 0, 0, 0), (61, .bipush 24, 0, 0, 0, 0, 24, 0), (63, .if_icmp .ne 8, 41, 0, 0, 0, 0, 0), (66, .bipush (-4), 0, 0, 0, 0, (-4), 0), (68, .goto 10, 46, 0, 0, 0, 0, 0), (71, .aload_n 0, 0, 0, 0, 0, 0, 0), (72, .iload_n 1, 1, 0, 0, 0, 0, 0), (73, .iload_n 2, 2, 0, 0, 0, 0, 0), (74, .iload_n 3, 3, 0, 0, 0, 0, 0), (75, .invokevirtual 95, 115, 4, 1, 6, 0, 0), (78, .ireturn, 0, 0, 0, 0, 0, 0)]
def az_p121 : List az_I := [(0, .aload_n 0, 0, 0, 0, 0, 0, 0), (1, .iload_n 1, 1, 0, 0, 0, 0, 0), (2, .iload_n 2, 2, 0, 0, 0, 0, 0), (3, .invokevirtual 110, 113, 3, 1, 6, 0, 0), (6, .ifCond .eq 22, 15, 0, 0, 0, 0, 0), (9, .aload_n 0, 0, 0, 0, 0, 0, 0), (10, .iload_n 1, 1, 0, 0, 0, 0, 0), (11, .iload_n 3, 3, 0, 0, 0, 0, 0), (12, .invokevirtual 110, 113, 3, 1, 6, 0, 0), (15, .ifCond .eq 13, 15, 0, 0, 0, 0, 0), (18, .aload_n 0, 0, 0, 0, 0, 0, 0), (19, .iload_n 1, 1, 0, 0, 0, 0, 0), (20, .iload 4, 4, 0, 0, 0, 0, 0), (22, .invokevirtual 110, 113, 3, 1, 6, 0, 0), (25, .ifCond .ne 6, 17, 0, 0, 0, 0, 0), (28, .bipush (-2), 0, 0, 0, 0, (-2), 0), (30, .ireturn, 0, 0, 0, 0, 0, 0), (31, .aload_n 0, 0, 0, 0, 0, 0, 0), (32, .getfield 7, 6, 1, 1, 0, 0, 0), (35, .iload_n 1, 1, 0, 0, 0, 0, 0), (36, .iaload, 0, 0, 0, 0, 0, 0), (37, .istore 5, 5, 0, 0, 0, 0, 0), (39, .aload_n 0, 0, 0, 0, 0, 0, 0), (40, .getfield 16, 6, 3, 1, 0, 0, 0), (43, .iload_n 1, 1, 0, 0, 0, 0, 0), (44, .baload, 0, 0, 0, 0, 0, 0), (45, .ifCond .ne 62, 60, 0, 0, 0, 0, 0), (48, .aload_n 0, 0, 0, 0, 0, 0, 0), (49, .iload_n 1, 1, 0, 0, 0, 0, 0), (50, .iload_n 2, 2, 0, 0, 0, 0, 0), (51, .invokevirtual 99, 117, 3, 1, 6, 0, 0), (54, .aload_n 0, 0, 0, 0, 0, 0, 0), (55, .iload_n 1, 1, 0, 0, 0, 0, 0), (56, .iload_n 3, 3, 0, 0, 0, 0, 0), (57, .invokevirtual 103, 116, 3, 1, 6, 0, 0), (60, .if_icmp .ne 47, 60, 0, 0, 0, 0, 0), (63, .iload_n 2, 2, 0, 0, 0, 0, 0), (64, .iload 5, 5, 0, 0, 0, 0, 0), (66, .if_icmp .lt 41, 60, 0, 0, 0, 0, 0), (69, .iload_n 3, 3, 0, 0, 0, 0, 0), (70, .iload 5, 5, 0, 0, 0, 0, 0), (72, .if_icmp .lt 35, 60, 0, 0, 0, 0, 0), (75, .aload_n 0, 0, 0, 0, 0, 0, 0), (76, .iload_n 1, 1, 0, 0, 0, 0, 0), (77, .iload 4, 4, 0, 0, 0, 0, 0), (79, .invokevirtual 103, 116, 3, 1, 6, 0, 0), (82, .aload_n 0, 0, 0, 0, 0, 0, 0), (83, .iload_n 1, 1, 0, 0, 0, 0, 0), (84, .iload_n 2, 2, 0, 0, 0, 0, 0), (85, .invokevirtual 103, 116, 3, 1, 6, 0, 0), (88, .if_icmp .ne 19, 60, 0, 0, 0, 0, 0), (91, .aload_n 0, 0, 0, 0, 0, 0, 0), (92, .iload_n 1, 1, 0, 0, 0, 0, 0), (93, .iload 4, 4, 0, 0, 0, 0, 0), (95, .invokevirtual 99, 117, 3, 1, 6, 0, 0), (98, .aload_n 0, 0, 0, 0, 0, 0, 0), (99, .iload_n 1, 1, 0, 0, 0, 0, 0), (100, .iload_n 3, 3, 0, 0, 0, 0, 0), (101, .invokevirtual 99, 117, 3, 1, 6, 0, 0), (104, .if_icmp .eq 6, 62, 0, 0, 0, 0, 0), (107, .bipush (-3), 0, 0, 0, 0, (-3), 0), (109, .ireturn, 0, 0, 0, 0, 0, 0), (110, .aload_n 0, 0, 0, 0, 0, 0, 0), (111, .getfield 26, 6, 6, 1, 0, 0, 0), (114, .sipush 576, 0, 0, 0, 0, 576, 0), (117, .iload_n 1, 1, 0, 0, 0, 0, 0), (118, .imul, 0, 0, 0, 0, 0, 0), (119, .bipush 24, 0, 0, 0, 0, 24, 0), (121, .iload_n 2, 2, 0, 0, 0, 0, 0), (122, .imul, 0, 0, 0, 0, 0, 0), (123, .iadd, 0, 0, 0, 0, 0, 0), (124, .iload_n 3, 3, 0, 0, 0, 0, 0), (125, .iadd, 0, 0, 0, 0, 0, 0), (126, .iload 4, 4, 0, 0, 0, 0, 0), (128, .iastore, 0, 0, 0, 0, 0, 0), (129, .iconst 1, 0, 0, 0, 0, 1, 0), (130, .ireturn, 0, 0, 0, 0, 0, 0)]
def az_p122 : List az_I := [(0, .aload_n 0, 0, 0, 0, 0, 0, 0), (1, .getfield 29, 6, 7, 1, 0, 0, 0), (4, .iconst 0, 0, 0, 0, 0, 0, 0), (5, .iload_n 1, 1, 0, 0, 0, 0, 0), (6, .iastore, 0, 0, 0, 0, 0, 0), (7, .aload_n 0, 0, 0, 0, 0, 0, 0), (8, .getfield 29, 6, 7, 1, 0, 0, 0), (11, .iconst 1, 0, 0, 0, 0, 1, 0), (12, .iload_n 2, 2, 0, 0, 0, 0, 0), (13, .iastore, 0, 0, 0, 0, 0, 0), (14, .aload_n 0, 0, 0, 0, 0, 0, 0), (15, .getfield 29, 6, 7, 1, 0, 0, 0), (18, .iconst 2, 0, 0, 0, 0, 2, 0), (19, .iload_n 3, 3, 0, 0, 0, 0, 0), (20, .iastore, 0, 0, 0, 0, 0, 0), (21, .aload_n 0, 0, 0, 0, 0, 0, 0), (22, .getfield 29, 6, 7, 1, 0, 0, 0), (25, .iconst 3, 0, 0, 0, 0, 3, 0), (26, .iload 4, 4, 0, 0, 0, 0, 0), (28, .iastore, 0, 0, 0, 0, 0, 0), (29, .return_, 0, 0, 0, 0, 0, 0)]
def az_p123 : List az_I := [(0, .aload_n 0, 0, 0, 0, 0, 0, 0), (1, .iconst 0, 0, 0, 0, 0, 0, 0), (2, .iconst (-1), 0, 0, 0, 0, (-1), 0), (3, .iconst (-1), 0, 0, 0, 0, (-1), 0), (4, .iconst (-1), 0, 0, 0, 0, (-1), 0), (5, .invokevirtual 114, 122, 5, 0, 6, 0, 0), (8, .iconst 0, 0, 0, 0, 0, 0, 0), (9, .istore_n 2, 2, 0, 0, 0, 0, 0), (10, .iload_n 2, 2, 0, 0, 0, 0, 0), (11, .aload_n 0, 0, 0, 0, 0, 0, 0), (12, .getfield 13, 6, 2, 1, 0, 0, 0), (15, .iload_n 1, 1, 0, 0, 0, 0, 0), (16, .iaload, 0, 0, 0, 0, 0, 0), (17, .if_icmp .ge 62, 49, 0, 0, 0, 0, 0), (20, .iconst 0, 0, 0, 0, 0, 0, 0), (21, .istore_n 3, 3, 0, 0, 0, 0, 0), (22, .iload_n 3, 3, 0, 0, 0, 0, 0), (23, .aload_n 0, 0, 0, 0, 0, 0, 0), (24, .getfield 13, 6, 2, 1, 0, 0, 0), (27, .iload_n 1, 1, 0, 0, 0, 0, 0), (28, .iaload, 0, 0, 0, 0, 0, 0), (29, .if_icmp .ge 44, 47, 0, 0, 0, 0, 0), (32, .aload_n 0, 0, 0, 0, 0, 0, 0), (33, .iload_n 1, 1, 0, 0, 0, 0, 0), (34, .iload_n 2, 2, 0, 0, 0, 0, 0), (35, .invokevirtual 99, 117, 3, 1, 6, 0, 0), (38, .aload_n 0, 0, 0, 0, 0, 0, 0), (39, .iload_n 1, 1, 0, 0, 0, 0, 0), (40, .iload_n 3, 3, 0, 0, 0, 0, 0), (41, .invokevirtual 103, 116, 3, 1, 6, 0, 0), (44, .if_icmp .ne 23, 45, 0, 0, 0, 0, 0), (47, .aload_n 0, 0, 0, 0, 0, 0, 0), (48, .iload_n 1, 1, 0, 0, 0, 0, 0), (49, .iload_n 2, 2, 0, 0, 0, 0, 0), (50, .iload_n 3, 3, 0, 0, 0, 0, 0), (51, .invokevirtual 118, 118, 4, 1, 6, 0, 0), (54, .iconst (-1), 0, 0, 0, 0, (-1), 0), (55, .if_icmp .ne 12, 45, 0, 0, 0, 0, 0), (58, .aload_n 0, 0, 0, 0, 0, 0, 0), (59, .iconst 1, 0, 0, 0, 0, 1, 0), (60, .iload_n 2, 2, 0, 0, 0, 0, 0), (61, .iload_n 3, 3, 0, 0, 0, 0, 0), (62, .iconst (-1), 0, 0, 0, 0, (-1), 0), (63, .invokevirtual 114, 122, 5, 0, 6, 0, 0), (66, .return_, 0, 0, 0, 0, 0, 0), (67, .iinc 3 1, 3, 0, 0, 0, 1, 0), (70, .goto (-48), 16, 0, 0, 0, 0, 0), (73, .iinc 2 1, 2, 0, 0, 0, 1, 0), (76, .goto (-66), 8, 0, 0, 0, 0, 0), (79, .iconst 0, 0, 0, 0, 0, 0, 0), (80, .istore_n 2, 2, 0, 0, 0, 0, 0), (81, .iload_n 2, 2, 0, 0, 0, 0, 0), (82, .aload_n 0, 0, 0, 0, 0, 0, 0), (83, .getfield 13, 6, 2, 1, 0, 0, 0), (86, .iload_n 1, 1, 0, 0, 0, 0, 0), (87, .iaload, 0, 0, 0, 0, 0, 0), (88, .if_icmp .ge 119, 123, 0, 0, 0, 0, 0), (91, .iconst 0, 0, 0, 0, 0, 0, 0), (92, .istore_n 3, 3, 0, 0, 0, 0, 0), (93, .iload_n 3, 3, 0, 0, 0, 0, 0), (94, .aload_n 0, 0, 0, 0, 0, 0, 0), (95, .getfield 13, 6, 2, 1, 0, 0, 0), (98, .iload_n 1, 1, 0, 0, 0, 0, 0), (99, .iaload, 0, 0, 0, 0, 0, 0), (100, .if_icmp .ge 101, 121, 0, 0, 0, 0, 0), (103, .iconst 0, 0, 0, 0, 0, 0, 0), (104, .istore 4, 4, 0, 0, 0, 0, 0), (106, .iload 4, 4, 0, 0, 0, 0, 0), (108, .aload_n 0, 0, 0, 0, 0, 0, 0), (109, .getfield 13, 6, 2, 1, 0, 0, 0), (112, .iload_n 1, 1, 0, 0, 0, 0, 0), (113, .iaload, 0, 0, 0, 0, 0, 0), (114, .if_icmp .ge 81, 119, 0, 0, 0, 0, 0), (117, .aload_n 0, 0, 0, 0, 0, 0, 0), (118, .iload_n 1, 1, 0, 0, 0, 0, 0), (119, .iload_n 2, 2, 0, 0, 0, 0, 0), (120, .invokevirtual 99, 117, 3, 1, 6, 0, 0), (123, .aload_n 0, 0, 0, 0, 0, 0, 0), (124, .iload_n 1, 1, 0, 0, 0, 0, 0), (125, .iload_n 3, 3, 0, 0, 0, 0, 0), (126, .invokevirtual 103, 116, 3, 1, 6, 0, 0), (129, .if_icmp .ne 66, 119, 0, 0, 0, 0, 0), (132, .aload_n 0, 0, 0, 0, 0, 0, 0), (133, .iload_n 1, 1, 0, 0, 0, 0, 0), (134, .iload_n 3, 3, 0, 0, 0, 0, 0), (135, .invokevirtual 99, 117, 3, 1, 6, 0, 0), (138, .aload_n 0, 0, 0, 0, 0, 0, 0), (139, .iload_n 1, 1, 0, 0, 0, 0, 0), (140, .iload 4, 4, 0, 0, 0, 0, 0), (142, .invokevirtual 103, 116, 3, 1, 6, 0, 0), (145, .if_icmp .ne 44, 117, 0, 0, 0, 0, 0), (148, .aload_n 0, 0, 0, 0, 0, 0, 0), (149, .iload_n 1, 1, 0, 0, 0, 0, 0), (150, .aload_n 0, 0, 0, 0, 0, 0, 0), (151, .iload_n 1, 1, 0, 0, 0, 0, 0), (152, .iload_n 2, 2, 0, 0, 0, 0, 0), (153, .iload_n 3, 3, 0, 0, 0, 0, 0), (154, .invokevirtual 118, 118, 4, 1, 6, 0, 0), (157, .iload 4, 4, 0, 0, 0, 0, 0), (159, .invokevirtual 118, 118, 4, 1, 6, 0, 0), (162, .aload_n 0, 0, 0, 0, 0, 0, 0), (163, .iload_n 1, 1, 0, 0, 0, 0, 0), (164, .iload_n 2, 2, 0, 0, 0, 0, 0), (165, .aload_n 0, 0, 0, 0, 0, 0, 0), (166, .iload_n 1, 1, 0, 0, 0, 0, 0), (167, .iload_n 3, 3, 0, 0, 0, 0, 0), (168, .iload 4, 4, 0, 0, 0, 0, 0), (170, .invokevirtual 118, 118, 4, 1, 6, 0, 0), (173, .invokevirtual 118, 118, 4, 1, 6, 0, 0), (176, .if_icmp .eq 13, 117, 0, 0, 0, 0, 0), (179, .aload_n 0, 0, 0, 0, 0, 0, 0), (180, .iconst 2, 0, 0, 0, 0, 2, 0), (181, .iload_n 2, 2, 0, 0, 0, 0, 0), (182, .iload_n 3, 3, 0, 0, 0, 0, 0), (183, .iload 4, 4, 0, 0, 0, 0, 0), (185, .invokevirtual 114, 122, 5, 0, 6, 0, 0), (188, .return_, 0, 0, 0, 0, 0, 0), (189, .iinc 4 1, 4, 0, 0, 0, 1, 0), (192, .goto (-86), 67, 0, 0, 0, 0, 0), (195, .iinc 3 1, 3, 0, 0, 0, 1, 0), (198, .goto (-105), 59, 0, 0, 0, 0, 0), (201, .iinc 2 1, 2, 0, 0, 0, 1, 0), (204, .goto (-123), 51, 0, 0, 0, 0, 0), (207, .return_, 0, 0, 0, 0, 0, 0)]
def az_p124 : List az_I := [(0, .aload_n 0, 0, 0, 0, 0, 0, 0), (1, .iload_n 1, 1, 0, 0, 0, 0, 0), (2, .invokevirtual 91, 112, 2, 1, 6, 0, 0), (5, .ifCond .ne 6, 6, 0, 0, 0, 0, 0), (8, .bipush (-2), 0, 0, 0, 0, (-2), 0), (10, .ireturn, 0, 0, 0, 0, 0, 0), (11, .aload_n 0, 0, 0, 0, 0, 0, 0), (12, .iload_n 1, 1, 0, 0, 0, 0, 0), (13, .invokevirtual 121, 123, 2, 0, 6, 0, 0), (16, .aload_n 0, 0, 0, 0, 0, 0, 0), (17, .getfield 16, 6, 3, 1, 0, 0, 0), (20, .iload_n 1, 1, 0, 0, 0, 0, 0), (21, .baload, 0, 0, 0, 0, 0, 0), (22, .ifCond .ne 12, 19, 0, 0, 0, 0, 0), (25, .aload_n 0, 0, 0, 0, 0, 0, 0), (26, .getfield 29, 6, 7, 1, 0, 0, 0), (29, .iconst 0, 0, 0, 0, 0, 0, 0), (30, .iaload, 0, 0, 0, 0, 0, 0), (31, .ifCond .eq 6, 21, 0, 0, 0, 0, 0), (34, .bipush (-3), 0, 0, 0, 0, (-3), 0), (36, .ireturn, 0, 0, 0, 0, 0, 0), (37, .aload_n 0, 0, 0, 0, 0, 0, 0), (38, .getfield 16, 6, 3, 1, 0, 0, 0), (41, .iload_n 1, 1, 0, 0, 0, 0, 0), (42, .iconst 1, 0, 0, 0, 0, 1, 0), (43, .bastore, 0, 0, 0, 0, 0, 0), (44, .iconst 1, 0, 0, 0, 0, 1, 0), (45, .ireturn, 0, 0, 0, 0, 0, 0)]
def az_p125 : List az_I := [(0, .aload_n 0, 0, 0, 0, 0, 0, 0), (1, .iload_n 1, 1, 0, 0, 0, 0, 0), (2, .invokevirtual 91, 112, 2, 1, 6, 0, 0), (5, .ifCond .eq 12, 9, 0, 0, 0, 0, 0), (8, .iload_n 2, 2, 0, 0, 0, 0, 0), (9, .iconst 0, 0, 0, 0, 0, 0, 0), (10, .iconst 3, 0, 0, 0, 0, 3, 0), (11, .invokestatic 87, 111, 3, 1, 0, 0, 0), (14, .ifCond .ne 6, 11, 0, 0, 0, 0, 0), (17, .bipush (-2), 0, 0, 0, 0, (-2), 0), (19, .ireturn, 0, 0, 0, 0, 0, 0), (20, .aload_n 0, 0, 0, 0, 0, 0, 0), (21, .iload_n 1, 1, 0, 0, 0, 0, 0), (22, .invokevirtual 121, 123, 2, 0, 6, 0, 0), (25, .aload_n 0, 0, 0, 0, 0, 0, 0), (26, .getfield 29, 6, 7, 1, 0, 0, 0), (29, .iload_n 2, 2, 0, 0, 0, 0, 0), (30, .iaload, 0, 0, 0, 0, 0, 0), (31, .ireturn, 0, 0, 0, 0, 0, 0)]
def az_p126 : List az_I := [(0, .lload_n 0, 0, 0, 0, 0, 0, 0), (1, .bipush 6, 0, 0, 0, 0, 6, 0), (3, .iload_n 2, 2, 0, 0, 0, 0, 0), (4, .imul, 0, 0, 0, 0, 0, 0), (5, .iload_n 3, 3, 0, 0, 0, 0, 0), (6, .iadd, 0, 0, 0, 0, 0, 0), (7, .lshr, 0, 0, 0, 0, 0, 0), (8, .lconst 1, 0, 0, 0, 0, 0, 1), (9, .land, 0, 0, 0, 0, 0, 0), (10, .lconst 1, 0, 0, 0, 0, 0, 1), (11, .lcmp, 0, 0, 0, 0, 0, 0), (12, .ifCond .ne 7, 14, 0, 0, 0, 0, 0), (15, .iconst 1, 0, 0, 0, 0, 1, 0), (16, .goto 4, 15, 0, 0, 0, 0, 0), (19, .iconst 0, 0, 0, 0, 0, 0, 0), (20, .ireturn, 0, 0, 1, 0, 0, 0)]
def az_p127 : List az_I := [(0, .iconst 0, 0, 0, 0, 0, 0, 0), (1, .istore_n 3, 3, 0, 0, 0, 0, 0), (2, .iload_n 3, 3, 0, 0, 0, 0, 0), (3, .iload_n 0, 0, 0, 0, 0, 0, 0), (4, .if_icmp .ge 83, 45, 0, 0, 0, 0, 0), (7, .lload_n 1, 1, 0, 0, 0, 0, 0), (8, .iload_n 3, 3, 0, 0, 0, 0, 0), (9, .iload_n 3, 3, 0, 0, 0, 0, 0), (10, .invokestatic 124, 126, 3, 1, 0, 0, 0), (13, .ifCond .ne 5, 12, 0, 0, 0, 0, 0), (16, .iconst 0, 0, 0, 0, 0, 0, 0), (17, .ireturn, 0, 0, 1, 0, 0, 0), (18, .iconst 0, 0, 0, 0, 0, 0, 0), (19, .istore 4, 4, 0, 0, 0, 0, 0), (21, .iload 4, 4, 0, 0, 0, 0, 0), (23, .iload_n 0, 0, 0, 0, 0, 0, 0), (24, .if_icmp .ge 57, 43, 0, 0, 0, 0, 0), (27, .iconst 0, 0, 0, 0, 0, 0, 0), (28, .istore 5, 5, 0, 0, 0, 0, 0), (30, .iload 5, 5, 0, 0, 0, 0, 0), (32, .iload_n 0, 0, 0, 0, 0, 0, 0), (33, .if_icmp .ge 42, 41, 0, 0, 0, 0, 0), (36, .lload_n 1, 1, 0, 0, 0, 0, 0), (37, .iload_n 3, 3, 0, 0, 0, 0, 0), (38, .iload 4, 4, 0, 0, 0, 0, 0), (40, .invokestatic 124, 126, 3, 1, 0, 0, 0), (43, .ifCond .eq 26, 39, 0, 0, 0, 0, 0), (46, .lload_n 1, 1, 0, 0, 0, 0, 0), (47, .iload 4, 4, 0, 0, 0, 0, 0), (49, .iload 5, 5, 0, 0, 0, 0, 0), (51, .invokestatic 124, 126, 3, 1, 0, 0, 0), (54, .ifCond .eq 15, 39, 0, 0, 0, 0, 0), (57, .lload_n 1, 1, 0, 0, 0, 0, 0), (58, .iload_n 3, 3, 0, 0, 0, 0, 0), (59, .iload 5, 5, 0, 0, 0, 0, 0), (61, .invokestatic 124, 126, 3, 1, 0, 0, 0), (64, .ifCond .ne 5, 39, 0, 0, 0, 0, 0), (67, .iconst 0, 0, 0, 0, 0, 0, 0), (68, .ireturn, 0, 0, 1, 0, 0, 0), (69, .iinc 5 1, 5, 0, 0, 0, 1, 0), (72, .goto (-42), 19, 0, 0, 0, 0, 0), (75, .iinc 4 1, 4, 0, 0, 0, 1, 0), (78, .goto (-57), 14, 0, 0, 0, 0, 0), (81, .iinc 3 1, 3, 0, 0, 0, 1, 0), (84, .goto (-82), 2, 0, 0, 0, 0, 0), (87, .iconst 1, 0, 0, 0, 0, 1, 0), (88, .ireturn, 0, 0, 1, 0, 0, 0)]
def az_p128 : List az_I := [(0, .iconst 0, 0, 0, 0, 0, 0, 0), (1, .istore 4, 4, 0, 0, 0, 0, 0), (3, .aload_n 0, 0, 0, 0, 0, 0, 0), (4, .iload_n 1, 1, 0, 0, 0, 0, 0), (5, .iload 4, 4, 0, 0, 0, 0, 0), (7, .invokevirtual 103, 116, 3, 1, 6, 0, 0), (10, .iload_n 2, 2, 0, 0, 0, 0, 0), (11, .if_icmp .ne 14, 14, 0, 0, 0, 0, 0), (14, .aload_n 0, 0, 0, 0, 0, 0, 0), (15, .iload_n 1, 1, 0, 0, 0, 0, 0), (16, .iload 4, 4, 0, 0, 0, 0, 0), (18, .invokevirtual 99, 117, 3, 1, 6, 0, 0), (21, .iload_n 3, 3, 0, 0, 0, 0, 0), (22, .if_icmp .eq 9, 16, 0, 0, 0, 0, 0), (25, .iinc 4 1, 4, 0, 0, 0, 1, 0), (28, .goto (-25), 2, 0, 0, 0, 0, 0), (31, .iload 4, 4, 0, 0, 0, 0, 0), (33, .ireturn, 0, 0, 0, 0, 0, 0)]
def az_p129 : List az_I := [(0, .iload_n 1, 1, 0, 0, 0, 0, 0), (1, .iconst 1, 0, 0, 0, 0, 1, 0), (2, .bipush 6, 0, 0, 0, 0, 6, 0), (4, .invokestatic 87, 111, 3, 1, 0, 0, 0), (7, .ifCond .ne 6, 7, 0, 0, 0, 0, 0), (10, .bipush (-2), 0, 0, 0, 0, (-2), 0), (12, .ireturn, 0, 0, 0, 0, 0, 0), (13, .iconst 0, 0, 0, 0, 0, 0, 0), (14, .istore 4, 4, 0, 0, 0, 0, 0), (16, .iconst 0, 0, 0, 0, 0, 0, 0), (17, .istore 5, 5, 0, 0, 0, 0, 0), (19, .iload 5, 5, 0, 0, 0, 0, 0), (21, .iload_n 1, 1, 0, 0, 0, 0, 0), (22, .if_icmp .ge 45, 34, 0, 0, 0, 0, 0), (25, .iconst 0, 0, 0, 0, 0, 0, 0), (26, .istore 6, 6, 0, 0, 0, 0, 0), (28, .iload 6, 6, 0, 0, 0, 0, 0), (30, .iload_n 1, 1, 0, 0, 0, 0, 0), (31, .if_icmp .ge 30, 32, 0, 0, 0, 0, 0), (34, .iload 4, 4, 0, 0, 0, 0, 0), (36, .lload_n 2, 2, 0, 0, 0, 0, 0), (37, .iload 5, 5, 0, 0, 0, 0, 0), (39, .iload 6, 6, 0, 0, 0, 0, 0), (41, .invokestatic 124, 126, 3, 1, 0, 0, 0), (44, .ifCond .eq 7, 27, 0, 0, 0, 0, 0), (47, .iconst 1, 0, 0, 0, 0, 1, 0), (48, .goto 4, 28, 0, 0, 0, 0, 0), (51, .iconst 0, 0, 0, 0, 0, 0, 0), (52, .iadd, 0, 0, 0, 0, 0, 0), (53, .istore 4, 4, 0, 0, 0, 0, 0), (55, .iinc 6 1, 6, 0, 0, 0, 1, 0), (58, .goto (-30), 16, 0, 0, 0, 0, 0), (61, .iinc 5 1, 5, 0, 0, 0, 1, 0), (64, .goto (-45), 11, 0, 0, 0, 0, 0), (67, .iload_n 1, 1, 0, 0, 0, 0, 0), (68, .lload_n 2, 2, 0, 0, 0, 0, 0), (69, .invokestatic 128, 127, 2, 1, 0, 0, 0), (72, .ifCond .eq 10, 41, 0, 0, 0, 0, 0), (75, .iload 4, 4, 0, 0, 0, 0, 0), (77, .bipush 24, 0, 0, 0, 0, 24, 0), (79, .if_icmp .le 6, 43, 0, 0, 0, 0, 0), (82, .bipush (-3), 0, 0, 0, 0, (-3), 0), (84, .ireturn, 0, 0, 0, 0, 0, 0), (85, .aload_n 0, 0, 0, 0, 0, 0, 0), (86, .getfield 83, 6, 0, 0, 0, 0, 0), (89, .bipush 8, 0, 0, 0, 0, 8, 0), (91, .if_icmp .ne 6, 49, 0, 0, 0, 0, 0), (94, .bipush (-4), 0, 0, 0, 0, (-4), 0), (96, .ireturn, 0, 0, 0, 0, 0, 0), (97, .aload_n 0, 0, 0, 0, 0, 0, 0), (98, .getfield 83, 6, 0, 0, 0, 0, 0), (101, .istore 5, 5, 0, 0, 0, 0, 0), (103, .aload_n 0, 0, 0, 0, 0, 0, 0), (104, .iload_n 1, 1, 0, 0, 0, 0, 0), (105, .invokevirtual 106, 114, 2, 0, 6, 0, 0), (108, .iconst 0, 0, 0, 0, 0, 0, 0), (109, .istore 6, 6, 0, 0, 0, 0, 0), (111, .iload 6, 6, 0, 0, 0, 0, 0), (113, .iload_n 1, 1, 0, 0, 0, 0, 0), (114, .if_icmp .ge 53, 83, 0, 0, 0, 0, 0), (117, .iconst 0, 0, 0, 0, 0, 0, 0), (118, .istore 7, 7, 0, 0, 0, 0, 0), (120, .iload 7, 7, 0, 0, 0, 0, 0), (122, .iload_n 1, 1, 0, 0, 0, 0, 0), (123, .if_icmp .ge 38, 81, 0, 0, 0, 0, 0), (126, .iload 6, 6, 0, 0, 0, 0, 0), (128, .iload 7, 7, 0, 0, 0, 0, 0), (130, .if_icmp .eq 25, 79, 0, 0, 0, 0, 0), (133, .lload_n 2, 2, 0, 0, 0, 0, 0), (134, .iload 6, 6, 0, 0, 0, 0, 0), (136, .iload 7, 7, 0, 0, 0, 0, 0), (138, .invokestatic 124, 126, 3, 1, 0, 0, 0), (141, .ifCond .eq 14, 79, 0, 0, 0, 0, 0), (144, .aload_n 0, 0, 0, 0, 0, 0, 0), (145, .iload 5, 5, 0, 0, 0, 0, 0), (147, .iload 6, 6, 0, 0, 0, 0, 0), (149, .iload 7, 7, 0, 0, 0, 0, 0), (151, .invokevirtual 95, 115, 4, 1, 6, 0, 0), (154, .pop, 0, 0, 0, 0, 0, 0), (155, .iinc 7 1, 7, 0, 0, 0, 1, 0), (158, .goto (-38), 62, 0, 0, 0, 0, 0), (161, .iinc 6 1, 6, 0, 0, 0, 1, 0), (164, .goto (-53), 57, 0, 0, 0, 0, 0), (167, .iconst 0, 0, 0, 0, 0, 0, 0), (168, .istore 6, 6, 0, 0, 0, 0, 0), (170, .iload 6, 6, 0, 0, 0, 0, 0), (172, .aload_n 0, 0, 0, 0, 0, 0, 0), (173, .getfield 13, 6, 2, 1, 0, 0, 0), (176, .iload 5, 5, 0, 0, 0, 0, 0), (178, .iaload, 0, 0, 0, 0, 0, 0), (179, .if_icmp .ge 91, 135, 0, 0, 0, 0, 0), (182, .iconst 0, 0, 0, 0, 0, 0, 0), (183, .istore 7, 7, 0, 0, 0, 0, 0), (185, .iload 7, 7, 0, 0, 0, 0, 0), (187, .aload_n 0, 0, 0, 0, 0, 0, 0), (188, .getfield 13, 6, 2, 1, 0, 0, 0), (191, .iload 5, 5, 0, 0, 0, 0, 0), (193, .iaload, 0, 0, 0, 0, 0, 0), (194, .if_icmp .ge 70, 133, 0, 0, 0, 0, 0), (197, .aload_n 0, 0, 0, 0, 0, 0, 0), (198, .iload 5, 5, 0, 0, 0, 0, 0), (200, .iload 6, 6, 0, 0, 0, 0, 0), (202, .invokevirtual 99, 117, 3, 1, 6, 0, 0), (205, .aload_n 0, 0, 0, 0, 0, 0, 0), (206, .iload 5, 5, 0, 0, 0, 0, 0), (208, .iload 7, 7, 0, 0, 0, 0, 0), (210, .invokevirtual 103, 116, 3, 1, 6, 0, 0), (213, .if_icmp .ne 45, 131, 0, 0, 0, 0, 0), (216, .aload_n 0, 0, 0, 0, 0, 0, 0), (217, .getfield 26, 6, 6, 1, 0, 0, 0), (220, .sipush 576, 0, 0, 0, 0, 576, 0), (223, .iload 5, 5, 0, 0, 0, 0, 0), (225, .imul, 0, 0, 0, 0, 0, 0), (226, .bipush 24, 0, 0, 0, 0, 24, 0), (228, .iload 6, 6, 0, 0, 0, 0, 0), (230, .imul, 0, 0, 0, 0, 0, 0), (231, .iadd, 0, 0, 0, 0, 0, 0), (232, .iload 7, 7, 0, 0, 0, 0, 0), (234, .iadd, 0, 0, 0, 0, 0, 0), (235, .aload_n 0, 0, 0, 0, 0, 0, 0), (236, .iload 5, 5, 0, 0, 0, 0, 0), (238, .aload_n 0, 0, 0, 0, 0, 0, 0), (239, .iload 5, 5, 0, 0, 0, 0, 0), (241, .iload 6, 6, 0, 0, 0, 0, 0), (243, .invokevirtual 103, 116, 3, 1, 6, 0, 0), (246, .aload_n 0, 0, 0, 0, 0, 0, 0), (247, .iload 5, 5, 0, 0, 0, 0, 0), (249, .iload 7, 7, 0, 0, 0, 0, 0), (251, .invokevirtual 99, 117, 3, 1, 6, 0, 0), (254, .invokevirtual 132, 128, 4, 1, 6, 0, 0), (257, .iastore, 0, 0, 0, 0, 0, 0), (258, .iinc 7 1, 7, 0, 0, 0, 1, 0), (261, .goto (-76), 93, 0, 0, 0, 0, 0), (264, .iinc 6 1, 6, 0, 0, 0, 1, 0), (267, .goto (-97), 85, 0, 0, 0, 0, 0), (270, .aload_n 0, 0, 0, 0, 0, 0, 0), (271, .getfield 16, 6, 3, 1, 0, 0, 0), (274, .iload 5, 5, 0, 0, 0, 0, 0), (276, .iconst 1, 0, 0, 0, 0, 1, 0), (277, .bastore, 0, 0, 0, 0, 0, 0), (278, .iload 5, 5, 0, 0, 0, 0, 0), (280, .ireturn, 0, 0, 0, 0, 0, 0)]
def az_p130 : List az_I := [(0, .aload_n 0, 0, 0, 0, 0, 0, 0), (1, .iload_n 1, 1, 0, 0, 0, 0, 0), (2, .invokevirtual 91, 112, 2, 1, 6, 0, 0), (5, .ifCond .ne 6, 6, 0, 0, 0, 0, 0), (8, .bipush (-2), 0, 0, 0, 0, (-2), 0), (10, .ireturn, 0, 0, 0, 0, 0, 0), (11, .aload_n 0, 0, 0, 0, 0, 0, 0), (12, .getfield 16, 6, 3, 1, 0, 0, 0), (15, .iload_n 1, 1, 0, 0, 0, 0, 0), (16, .baload, 0, 0, 0, 0, 0, 0), (17, .ifCond .ne 6, 13, 0, 0, 0, 0, 0), (20, .bipush (-3), 0, 0, 0, 0, (-3), 0), (22, .ireturn, 0, 0, 0, 0, 0, 0), (23, .aload_n 0, 0, 0, 0, 0, 0, 0), (24, .getfield 83, 6, 0, 0, 0, 0, 0), (27, .bipush 8, 0, 0, 0, 0, 8, 0), (29, .if_icmp .ne 6, 19, 0, 0, 0, 0, 0), (32, .bipush (-4), 0, 0, 0, 0, (-4), 0), (34, .ireturn, 0, 0, 0, 0, 0, 0), (35, .aload_n 0, 0, 0, 0, 0, 0, 0), (36, .getfield 83, 6, 0, 0, 0, 0, 0), (39, .istore_n 2, 2, 0, 0, 0, 0, 0), (40, .aload_n 0, 0, 0, 0, 0, 0, 0), (41, .aload_n 0, 0, 0, 0, 0, 0, 0), (42, .getfield 7, 6, 1, 1, 0, 0, 0), (45, .iload_n 1, 1, 0, 0, 0, 0, 0), (46, .iaload, 0, 0, 0, 0, 0, 0), (47, .invokevirtual 106, 114, 2, 0, 6, 0, 0), (50, .aload_n 0, 0, 0, 0, 0, 0, 0), (51, .getfield 7, 6, 1, 1, 0, 0, 0), (54, .iload_n 1, 1, 0, 0, 0, 0, 0), (55, .iaload, 0, 0, 0, 0, 0, 0), (56, .istore_n 3, 3, 0, 0, 0, 0, 0), (57, .iload_n 3, 3, 0, 0, 0, 0, 0), (58, .aload_n 0, 0, 0, 0, 0, 0, 0), (59, .getfield 13, 6, 2, 1, 0, 0, 0), (62, .iload_n 1, 1, 0, 0, 0, 0, 0), (63, .iaload, 0, 0, 0, 0, 0, 0), (64, .if_icmp .ge 27, 53, 0, 0, 0, 0, 0), (67, .aload_n 0, 0, 0, 0, 0, 0, 0), (68, .iload_n 2, 2, 0, 0, 0, 0, 0), (69, .aload_n 0, 0, 0, 0, 0, 0, 0), (70, .iload_n 1, 1, 0, 0, 0, 0, 0), (71, .iload_n 3, 3, 0, 0, 0, 0, 0), (72, .invokevirtual 99, 117, 3, 1, 6, 0, 0), (75, .aload_n 0, 0, 0, 0, 0, 0, 0), (76, .iload_n 1, 1, 0, 0, 0, 0, 0), (77, .iload_n 3, 3, 0, 0, 0, 0, 0), (78, .invokevirtual 103, 116, 3, 1, 6, 0, 0), (81, .invokevirtual 95, 115, 4, 1, 6, 0, 0), (84, .pop, 0, 0, 0, 0, 0, 0), (85, .iinc 3 1, 3, 0, 0, 0, 1, 0), (88, .goto (-31), 33, 0, 0, 0, 0, 0), (91, .iconst 0, 0, 0, 0, 0, 0, 0), (92, .istore_n 3, 3, 0, 0, 0, 0, 0), (93, .iload_n 3, 3, 0, 0, 0, 0, 0), (94, .aload_n 0, 0, 0, 0, 0, 0, 0), (95, .getfield 13, 6, 2, 1, 0, 0, 0), (98, .iload_n 2, 2, 0, 0, 0, 0, 0), (99, .iaload, 0, 0, 0, 0, 0, 0), (100, .if_icmp .ge 55, 90, 0, 0, 0, 0, 0), (103, .iconst 0, 0, 0, 0, 0, 0, 0), (104, .istore 4, 4, 0, 0, 0, 0, 0), (106, .iload 4, 4, 0, 0, 0, 0, 0), (108, .aload_n 0, 0, 0, 0, 0, 0, 0), (109, .getfield 13, 6, 2, 1, 0, 0, 0), (112, .iload_n 2, 2, 0, 0, 0, 0, 0), (113, .iaload, 0, 0, 0, 0, 0, 0), (114, .if_icmp .ge 35, 88, 0, 0, 0, 0, 0), (117, .aload_n 0, 0, 0, 0, 0, 0, 0), (118, .getfield 26, 6, 6, 1, 0, 0, 0), (121, .sipush 576, 0, 0, 0, 0, 576, 0), (124, .iload_n 2, 2, 0, 0, 0, 0, 0), (125, .imul, 0, 0, 0, 0, 0, 0), (126, .bipush 24, 0, 0, 0, 0, 24, 0), (128, .iload_n 3, 3, 0, 0, 0, 0, 0), (129, .imul, 0, 0, 0, 0, 0, 0), (130, .iadd, 0, 0, 0, 0, 0, 0), (131, .iload 4, 4, 0, 0, 0, 0, 0), (133, .iadd, 0, 0, 0, 0, 0, 0), (134, .aload_n 0, 0, 0, 0, 0, 0, 0), (135, .iload_n 1, 1, 0, 0, 0, 0, 0), (136, .iload 4, 4, 0, 0, 0, 0, 0), (138, .iload_n 3, 3, 0, 0, 0, 0, 0), (139, .invokevirtual 118, 118, 4, 1, 6, 0, 0), (142, .iastore, 0, 0, 0, 0, 0, 0), (143, .iinc 4 1, 4, 0, 0, 0, 1, 0), (146, .goto (-40), 63, 0, 0, 0, 0, 0), (149, .iinc 3 1, 3, 0, 0, 0, 1, 0), (152, .goto (-59), 55, 0, 0, 0, 0, 0), (155, .aload_n 0, 0, 0, 0, 0, 0, 0), (156, .getfield 16, 6, 3, 1, 0, 0, 0), (159, .iload_n 2, 2, 0, 0, 0, 0, 0), (160, .iconst 1, 0, 0, 0, 0, 1, 0), (161, .bastore, 0, 0, 0, 0, 0, 0), (162, .iload_n 2, 2, 0, 0, 0, 0, 0), (163, .ireturn, 0, 0, 0, 0, 0, 0)]
def az_p131 : List az_I := [(0, .aload_n 0, 0, 0, 0, 0, 0, 0), (1, .iload_n 1, 1, 0, 0, 0, 0, 0), (2, .invokevirtual 91, 112, 2, 1, 6, 0, 0), (5, .ifCond .eq 11, 8, 0, 0, 0, 0, 0), (8, .aload_n 0, 0, 0, 0, 0, 0, 0), (9, .iload_n 2, 2, 0, 0, 0, 0, 0), (10, .invokevirtual 91, 112, 2, 1, 6, 0, 0), (13, .ifCond .ne 6, 10, 0, 0, 0, 0, 0), (16, .bipush (-2), 0, 0, 0, 0, (-2), 0), (18, .ireturn, 0, 0, 0, 0, 0, 0), (19, .aload_n 0, 0, 0, 0, 0, 0, 0), (20, .getfield 7, 6, 1, 1, 0, 0, 0), (23, .iload_n 1, 1, 0, 0, 0, 0, 0), (24, .iaload, 0, 0, 0, 0, 0, 0), (25, .istore_n 3, 3, 0, 0, 0, 0, 0), (26, .aload_n 0, 0, 0, 0, 0, 0, 0), (27, .getfield 7, 6, 1, 1, 0, 0, 0), (30, .iload_n 2, 2, 0, 0, 0, 0, 0), (31, .iaload, 0, 0, 0, 0, 0, 0), (32, .istore 4, 4, 0, 0, 0, 0, 0), (34, .aload_n 0, 0, 0, 0, 0, 0, 0), (35, .getfield 16, 6, 3, 1, 0, 0, 0), (38, .iload_n 1, 1, 0, 0, 0, 0, 0), (39, .baload, 0, 0, 0, 0, 0, 0), (40, .ifCond .eq 39, 46, 0, 0, 0, 0, 0), (43, .aload_n 0, 0, 0, 0, 0, 0, 0), (44, .getfield 16, 6, 3, 1, 0, 0, 0), (47, .iload_n 2, 2, 0, 0, 0, 0, 0), (48, .baload, 0, 0, 0, 0, 0, 0), (49, .ifCond .eq 30, 46, 0, 0, 0, 0, 0), (52, .iload_n 3, 3, 0, 0, 0, 0, 0), (53, .iload 4, 4, 0, 0, 0, 0, 0), (55, .imul, 0, 0, 0, 0, 0, 0), (56, .bipush 6, 0, 0, 0, 0, 6, 0), (58, .if_icmp .gt 21, 46, 0, 0, 0, 0, 0), (61, .aload_n 0, 0, 0, 0, 0, 0, 0), (62, .getfield 13, 6, 2, 1, 0, 0, 0), (65, .iload_n 1, 1, 0, 0, 0, 0, 0), (66, .iaload, 0, 0, 0, 0, 0, 0), (67, .aload_n 0, 0, 0, 0, 0, 0, 0), (68, .getfield 13, 6, 2, 1, 0, 0, 0), (71, .iload_n 2, 2, 0, 0, 0, 0, 0), (72, .iaload, 0, 0, 0, 0, 0, 0), (73, .imul, 0, 0, 0, 0, 0, 0), (74, .bipush 24, 0, 0, 0, 0, 24, 0), (76, .if_icmp .le 6, 48, 0, 0, 0, 0, 0), (79, .bipush (-3), 0, 0, 0, 0, (-3), 0), (81, .ireturn, 0, 0, 0, 0, 0, 0), (82, .aload_n 0, 0, 0, 0, 0, 0, 0), (83, .getfield 83, 6, 0, 0, 0, 0, 0), (86, .bipush 8, 0, 0, 0, 0, 8, 0), (88, .if_icmp .ne 6, 54, 0, 0, 0, 0, 0), (91, .bipush (-4), 0, 0, 0, 0, (-4), 0), (93, .ireturn, 0, 0, 0, 0, 0, 0), (94, .aload_n 0, 0, 0, 0, 0, 0, 0), (95, .getfield 83, 6, 0, 0, 0, 0, 0), (98, .istore 5, 5, 0, 0, 0, 0, 0), (100, .aload_n 0, 0, 0, 0, 0, 0, 0), (101, .iload_n 3, 3, 0, 0, 0, 0, 0), (102, .iload 4, 4, 0, 0, 0, 0, 0), (104, .imul, 0, 0, 0, 0, 0, 0), (105, .invokevirtual 106, 114, 2, 0, 6, 0, 0), (108, .iconst 0, 0, 0, 0, 0, 0, 0), (109, .istore 6, 6, 0, 0, 0, 0, 0), (111, .iload 6, 6, 0, 0, 0, 0, 0), (113, .iload_n 3, 3, 0, 0, 0, 0, 0), (114, .iload 4, 4, 0, 0, 0, 0, 0), (116, .imul, 0, 0, 0, 0, 0, 0), (117, .if_icmp .ge 33, 85, 0, 0, 0, 0, 0), (120, .aload_n 0, 0, 0, 0, 0, 0, 0), (121, .getfield 32, 6, 8, 1, 0, 0, 0), (124, .iload 6, 6, 0, 0, 0, 0, 0), (126, .iload 6, 6, 0, 0, 0, 0, 0), (128, .iload 4, 4, 0, 0, 0, 0, 0), (130, .idiv, 0, 0, 0, 0, 0, 0), (131, .iastore, 0, 0, 0, 0, 0, 0), (132, .aload_n 0, 0, 0, 0, 0, 0, 0), (133, .getfield 35, 6, 9, 1, 0, 0, 0), (136, .iload 6, 6, 0, 0, 0, 0, 0), (138, .iload 6, 6, 0, 0, 0, 0, 0), (140, .iload 4, 4, 0, 0, 0, 0, 0), (142, .irem, 0, 0, 0, 0, 0, 0), (143, .iastore, 0, 0, 0, 0, 0, 0), (144, .iinc 6 1, 6, 0, 0, 0, 1, 0), (147, .goto (-36), 64, 0, 0, 0, 0, 0), (150, .iconst 0, 0, 0, 0, 0, 0, 0), (151, .istore 6, 6, 0, 0, 0, 0, 0), (153, .iload 6, 6, 0, 0, 0, 0, 0), (155, .aload_n 0, 0, 0, 0, 0, 0, 0), (156, .getfield 13, 6, 2, 1, 0, 0, 0), (159, .iload_n 1, 1, 0, 0, 0, 0, 0), (160, .iaload, 0, 0, 0, 0, 0, 0), (161, .if_icmp .ge 104, 147, 0, 0, 0, 0, 0), (164, .iconst 0, 0, 0, 0, 0, 0, 0), (165, .istore 7, 7, 0, 0, 0, 0, 0), (167, .iload 7, 7, 0, 0, 0, 0, 0), (169, .aload_n 0, 0, 0, 0, 0, 0, 0), (170, .getfield 13, 6, 2, 1, 0, 0, 0), (173, .iload_n 2, 2, 0, 0, 0, 0, 0), (174, .iaload, 0, 0, 0, 0, 0, 0), (175, .if_icmp .ge 84, 145, 0, 0, 0, 0, 0), (178, .iload 6, 6, 0, 0, 0, 0, 0), (180, .iload_n 3, 3, 0, 0, 0, 0, 0), (181, .if_icmp .ge 10, 107, 0, 0, 0, 0, 0), (184, .iload 7, 7, 0, 0, 0, 0, 0), (186, .iload 4, 4, 0, 0, 0, 0, 0), (188, .if_icmp .lt 65, 143, 0, 0, 0, 0, 0), (191, .aload_n 0, 0, 0, 0, 0, 0, 0), (192, .iload 5, 5, 0, 0, 0, 0, 0), (194, .iload 4, 4, 0, 0, 0, 0, 0), (196, .aload_n 0, 0, 0, 0, 0, 0, 0), (197, .iload_n 1, 1, 0, 0, 0, 0, 0), (198, .iload 6, 6, 0, 0, 0, 0, 0), (200, .invokevirtual 103, 116, 3, 1, 6, 0, 0), (203, .imul, 0, 0, 0, 0, 0, 0), (204, .aload_n 0, 0, 0, 0, 0, 0, 0), (205, .iload_n 2, 2, 0, 0, 0, 0, 0), (206, .iload 7, 7, 0, 0, 0, 0, 0), (208, .invokevirtual 103, 116, 3, 1, 6, 0, 0), (211, .iadd, 0, 0, 0, 0, 0, 0), (212, .iload 4, 4, 0, 0, 0, 0, 0), (214, .aload_n 0, 0, 0, 0, 0, 0, 0), (215, .iload_n 1, 1, 0, 0, 0, 0, 0), (216, .iload 6, 6, 0, 0, 0, 0, 0), (218, .invokevirtual 99, 117, 3, 1, 6, 0, 0), (221, .imul, 0, 0, 0, 0, 0, 0), (222, .aload_n 0, 0, 0, 0, 0, 0, 0), (223, .iload_n 2, 2, 0, 0, 0, 0, 0), (224, .iload 7, 7, 0, 0, 0, 0, 0), (226, .invokevirtual 99, 117, 3, 1, 6, 0, 0), (229, .iadd, 0, 0, 0, 0, 0, 0), (230, .invokevirtual 95, 115, 4, 1, 6, 0, 0), (233, .istore 8, 8, 0, 0, 0, 0, 0), (235, .aload_n 0, 0, 0, 0, 0, 0, 0), (236, .getfield 32, 6, 8, 1, 0, 0, 0), (239, .iload 8, 8, 0, 0, 0, 0, 0), (241, .iload 6, 6, 0, 0, 0, 0, 0), (243, .iastore, 0, 0, 0, 0, 0, 0), (244, .aload_n 0, 0, 0, 0, 0, 0, 0), (245, .getfield 35, 6, 9, 1, 0, 0, 0), (248, .iload 8, 8, 0, 0, 0, 0, 0), (250, .iload 7, 7, 0, 0, 0, 0, 0), (252, .iastore, 0, 0, 0, 0, 0, 0), (253, .iinc 7 1, 7, 0, 0, 0, 1, 0), (256, .goto (-89), 95, 0, 0, 0, 0, 0), (259, .iinc 6 1, 6, 0, 0, 0, 1, 0), (262, .goto (-109), 87, 0, 0, 0, 0, 0), (265, .iconst 0, 0, 0, 0, 0, 0, 0), (266, .istore 6, 6, 0, 0, 0, 0, 0), (268, .iload 6, 6, 0, 0, 0, 0, 0), (270, .aload_n 0, 0, 0, 0, 0, 0, 0), (271, .getfield 13, 6, 2, 1, 0, 0, 0), (274, .iload 5, 5, 0, 0, 0, 0, 0), (276, .iaload, 0, 0, 0, 0, 0, 0), (277, .if_icmp .ge 146, 229, 0, 0, 0, 0, 0), (280, .iconst 0, 0, 0, 0, 0, 0, 0), (281, .istore 7, 7, 0, 0, 0, 0, 0), (283, .iload 7, 7, 0, 0, 0, 0, 0), (285, .aload_n 0, 0, 0, 0, 0, 0, 0), (286, .getfield 13, 6, 2, 1, 0, 0, 0), (289, .iload 5, 5, 0, 0, 0, 0, 0), (291, .iaload, 0, 0, 0, 0, 0, 0), (292, .if_icmp .ge 125, 227, 0, 0, 0, 0, 0), (295, .aload_n 0, 0, 0, 0, 0, 0, 0), (296, .iload 5, 5, 0, 0, 0, 0, 0), (298, .iload 6, 6, 0, 0, 0, 0, 0), (300, .invokevirtual 99, 117, 3, 1, 6, 0, 0), (303, .aload_n 0, 0, 0, 0, 0, 0, 0), (304, .iload 5, 5, 0, 0, 0, 0, 0), (306, .iload 7, 7, 0, 0, 0, 0, 0), (308, .invokevirtual 103, 116, 3, 1, 6, 0, 0), (311, .if_icmp .ne 100, 225, 0, 0, 0, 0, 0), (314, .aload_n 0, 0, 0, 0, 0, 0, 0), (315, .iload_n 1, 1, 0, 0, 0, 0, 0), (316, .aload_n 0, 0, 0, 0, 0, 0, 0), (317, .getfield 32, 6, 8, 1, 0, 0, 0), (320, .iload 6, 6, 0, 0, 0, 0, 0), (322, .iaload, 0, 0, 0, 0, 0, 0), (323, .aload_n 0, 0, 0, 0, 0, 0, 0), (324, .getfield 32, 6, 8, 1, 0, 0, 0), (327, .iload 7, 7, 0, 0, 0, 0, 0), (329, .iaload, 0, 0, 0, 0, 0, 0), (330, .invokevirtual 118, 118, 4, 1, 6, 0, 0), (333, .istore 8, 8, 0, 0, 0, 0, 0), (335, .aload_n 0, 0, 0, 0, 0, 0, 0), (336, .iload_n 2, 2, 0, 0, 0, 0, 0), (337, .aload_n 0, 0, 0, 0, 0, 0, 0), (338, .getfield 35, 6, 9, 1, 0, 0, 0), (341, .iload 6, 6, 0, 0, 0, 0, 0), (343, .iaload, 0, 0, 0, 0, 0, 0), (344, .aload_n 0, 0, 0, 0, 0, 0, 0), (345, .getfield 35, 6, 9, 1, 0, 0, 0), (348, .iload 7, 7, 0, 0, 0, 0, 0), (350, .iaload, 0, 0, 0, 0, 0, 0), (351, .invokevirtual 118, 118, 4, 1, 6, 0, 0), (354, .istore 9, 9, 0, 0, 0, 0, 0), (356, .iconst 0, 0, 0, 0, 0, 0, 0), (357, .istore 10, 10, 0, 0, 0, 0, 0), (359, .aload_n 0, 0, 0, 0, 0, 0, 0), (360, .getfield 32, 6, 8, 1, 0, 0, 0), (363, .iload 10, 10, 0, 0, 0, 0, 0), (365, .iaload, 0, 0, 0, 0, 0, 0), (366, .iload 8, 8, 0, 0, 0, 0, 0), (368, .if_icmp .ne 15, 210, 0, 0, 0, 0, 0), (371, .aload_n 0, 0, 0, 0, 0, 0, 0), (372, .getfield 35, 6, 9, 1, 0, 0, 0), (375, .iload 10, 10, 0, 0, 0, 0, 0), (377, .iaload, 0, 0, 0, 0, 0, 0), (378, .iload 9, 9, 0, 0, 0, 0, 0), (380, .if_icmp .eq 9, 212, 0, 0, 0, 0, 0), (383, .iinc 10 1, 10, 0, 0, 0, 1, 0), (386, .goto (-27), 198, 0, 0, 0, 0, 0), (389, .aload_n 0, 0, 0, 0, 0, 0, 0), (390, .getfield 26, 6, 6, 1, 0, 0, 0), (393, .sipush 576, 0, 0, 0, 0, 576, 0), (396, .iload 5, 5, 0, 0, 0, 0, 0), (398, .imul, 0, 0, 0, 0, 0, 0), (399, .bipush 24, 0, 0, 0, 0, 24, 0), (401, .iload 6, 6, 0, 0, 0, 0, 0), (403, .imul, 0, 0, 0, 0, 0, 0), (404, .iadd, 0, 0, 0, 0, 0, 0), (405, .iload 7, 7, 0, 0, 0, 0, 0), (407, .iadd, 0, 0, 0, 0, 0, 0), (408, .iload 10, 10, 0, 0, 0, 0, 0), (410, .iastore, 0, 0, 0, 0, 0, 0), (411, .iinc 7 1, 7, 0, 0, 0, 1, 0), (414, .goto (-131), 157, 0, 0, 0, 0, 0), (417, .iinc 6 1, 6, 0, 0, 0, 1, 0), (420, .goto (-152), 149, 0, 0, 0, 0, 0), (423, .aload_n 0, 0, 0, 0, 0, 0, 0), (424, .getfield 16, 6, 3, 1, 0, 0, 0), (427, .iload 5, 5, 0, 0, 0, 0, 0), (429, .iconst 1, 0, 0, 0, 0, 1, 0), (430, .bastore, 0, 0, 0, 0, 0, 0), (431, .iload 5, 5, 0, 0, 0, 0, 0), (433, .ireturn, 0, 0, 0, 0, 0, 0)]
def az_p132 : List az_I := [(0, .iconst 0, 0, 0, 0, 0, 0, 0), (1, .istore_n 3, 3, 0, 0, 0, 0, 0), (2, .iload_n 3, 3, 0, 0, 0, 0, 0), (3, .aload_n 0, 0, 0, 0, 0, 0, 0), (4, .getfield 13, 6, 2, 1, 0, 0, 0), (7, .iload_n 1, 1, 0, 0, 0, 0, 0), (8, .iaload, 0, 0, 0, 0, 0, 0), (9, .if_icmp .ge 73, 50, 0, 0, 0, 0, 0), (12, .aload_n 0, 0, 0, 0, 0, 0, 0), (13, .iload_n 1, 1, 0, 0, 0, 0, 0), (14, .iload_n 3, 3, 0, 0, 0, 0, 0), (15, .invokevirtual 103, 116, 3, 1, 6, 0, 0), (18, .aload_n 0, 0, 0, 0, 0, 0, 0), (19, .iload_n 1, 1, 0, 0, 0, 0, 0), (20, .iload_n 2, 2, 0, 0, 0, 0, 0), (21, .invokevirtual 99, 117, 3, 1, 6, 0, 0), (24, .if_icmp .ne 52, 48, 0, 0, 0, 0, 0), (27, .aload_n 0, 0, 0, 0, 0, 0, 0), (28, .iload_n 1, 1, 0, 0, 0, 0, 0), (29, .iload_n 3, 3, 0, 0, 0, 0, 0), (30, .invokevirtual 99, 117, 3, 1, 6, 0, 0), (33, .aload_n 0, 0, 0, 0, 0, 0, 0), (34, .iload_n 1, 1, 0, 0, 0, 0, 0), (35, .iload_n 2, 2, 0, 0, 0, 0, 0), (36, .invokevirtual 103, 116, 3, 1, 6, 0, 0), (39, .if_icmp .ne 37, 48, 0, 0, 0, 0, 0), (42, .aload_n 0, 0, 0, 0, 0, 0, 0), (43, .iload_n 1, 1, 0, 0, 0, 0, 0), (44, .iload_n 2, 2, 0, 0, 0, 0, 0), (45, .iload_n 3, 3, 0, 0, 0, 0, 0), (46, .invokevirtual 118, 118, 4, 1, 6, 0, 0), (49, .aload_n 0, 0, 0, 0, 0, 0, 0), (50, .getfield 7, 6, 1, 1, 0, 0, 0), (53, .iload_n 1, 1, 0, 0, 0, 0, 0), (54, .iaload, 0, 0, 0, 0, 0, 0), (55, .if_icmp .ge 21, 48, 0, 0, 0, 0, 0), (58, .aload_n 0, 0, 0, 0, 0, 0, 0), (59, .iload_n 1, 1, 0, 0, 0, 0, 0), (60, .iload_n 3, 3, 0, 0, 0, 0, 0), (61, .iload_n 2, 2, 0, 0, 0, 0, 0), (62, .invokevirtual 118, 118, 4, 1, 6, 0, 0), (65, .aload_n 0, 0, 0, 0, 0, 0, 0), (66, .getfield 7, 6, 1, 1, 0, 0, 0), (69, .iload_n 1, 1, 0, 0, 0, 0, 0), (70, .iaload, 0, 0, 0, 0, 0, 0), (71, .if_icmp .ge 5, 48, 0, 0, 0, 0, 0), (74, .iconst 1, 0, 0, 0, 0, 1, 0), (75, .ireturn, 0, 0, 1, 0, 0, 0), (76, .iinc 3 1, 3, 0, 0, 0, 1, 0), (79, .goto (-77), 2, 0, 0, 0, 0, 0), (82, .iconst 0, 0, 0, 0, 0, 0, 0), (83, .ireturn, 0, 0, 1, 0, 0, 0)]
def az_p133 : List az_I := [(0, .aload_n 0, 0, 0, 0, 0, 0, 0), (1, .iload_n 1, 1, 0, 0, 0, 0, 0), (2, .invokevirtual 91, 112, 2, 1, 6, 0, 0), (5, .ifCond .eq 12, 9, 0, 0, 0, 0, 0), (8, .iload_n 2, 2, 0, 0, 0, 0, 0), (9, .iconst 0, 0, 0, 0, 0, 0, 0), (10, .iconst 4, 0, 0, 0, 0, 4, 0), (11, .invokestatic 87, 111, 3, 1, 0, 0, 0), (14, .ifCond .ne 6, 11, 0, 0, 0, 0, 0), (17, .bipush (-2), 0, 0, 0, 0, (-2), 0), (19, .ireturn, 0, 0, 0, 0, 0, 0), (20, .iconst 0, 0, 0, 0, 0, 0, 0), (21, .istore_n 3, 3, 0, 0, 0, 0, 0), (22, .iload_n 2, 2, 0, 0, 0, 0, 0), (23, .tableswitch 135 0 3 #[29, 36, 43, 58], 0, 0, 0, 0, 0, 0), (52, .aload_n 0, 0, 0, 0, 0, 0, 0), (53, .getfield 7, 6, 1, 1, 0, 0, 0), (56, .iload_n 1, 1, 0, 0, 0, 0, 0), (57, .iaload, 0, 0, 0, 0, 0, 0), (58, .ireturn, 0, 0, 0, 0, 0, 0), (59, .aload_n 0, 0, 0, 0, 0, 0, 0), (60, .getfield 13, 6, 2, 1, 0, 0, 0), (63, .iload_n 1, 1, 0, 0, 0, 0, 0), (64, .iaload, 0, 0, 0, 0, 0, 0), (65, .ireturn, 0, 0, 0, 0, 0, 0), (66, .aload_n 0, 0, 0, 0, 0, 0, 0), (67, .getfield 16, 6, 3, 1, 0, 0, 0), (70, .iload_n 1, 1, 0, 0, 0, 0, 0), (71, .baload, 0, 0, 0, 0, 0, 0), (72, .ifCond .eq 7, 32, 0, 0, 0, 0, 0), (75, .iconst 1, 0, 0, 0, 0, 1, 0), (76, .goto 4, 33, 0, 0, 0, 0, 0), (79, .iconst 0, 0, 0, 0, 0, 0, 0), (80, .ireturn, 0, 0, 0, 0, 0, 0), (81, .aload_n 0, 0, 0, 0, 0, 0, 0), (82, .getfield 7, 6, 1, 1, 0, 0, 0), (85, .iload_n 1, 1, 0, 0, 0, 0, 0), (86, .iaload, 0, 0, 0, 0, 0, 0), (87, .istore 4, 4, 0, 0, 0, 0, 0), (89, .iload 4, 4, 0, 0, 0, 0, 0), (91, .aload_n 0, 0, 0, 0, 0, 0, 0), (92, .getfield 13, 6, 2, 1, 0, 0, 0), (95, .iload_n 1, 1, 0, 0, 0, 0, 0), (96, .iaload, 0, 0, 0, 0, 0, 0), (97, .if_icmp .ge 59, 75, 0, 0, 0, 0, 0), (100, .aload_n 0, 0, 0, 0, 0, 0, 0), (101, .getfield 7, 6, 1, 1, 0, 0, 0), (104, .iload_n 1, 1, 0, 0, 0, 0, 0), (105, .iaload, 0, 0, 0, 0, 0, 0), (106, .istore 5, 5, 0, 0, 0, 0, 0), (108, .iload 5, 5, 0, 0, 0, 0, 0), (110, .aload_n 0, 0, 0, 0, 0, 0, 0), (111, .getfield 13, 6, 2, 1, 0, 0, 0), (114, .iload_n 1, 1, 0, 0, 0, 0, 0), (115, .iaload, 0, 0, 0, 0, 0, 0), (116, .if_icmp .ge 34, 73, 0, 0, 0, 0, 0), (119, .iload_n 3, 3, 0, 0, 0, 0, 0), (120, .aload_n 0, 0, 0, 0, 0, 0, 0), (121, .iload_n 1, 1, 0, 0, 0, 0, 0), (122, .iload 4, 4, 0, 0, 0, 0, 0), (124, .invokevirtual 99, 117, 3, 1, 6, 0, 0), (127, .aload_n 0, 0, 0, 0, 0, 0, 0), (128, .iload_n 1, 1, 0, 0, 0, 0, 0), (129, .iload 5, 5, 0, 0, 0, 0, 0), (131, .invokevirtual 103, 116, 3, 1, 6, 0, 0), (134, .if_icmp .ne 7, 68, 0, 0, 0, 0, 0), (137, .iconst 1, 0, 0, 0, 0, 1, 0), (138, .goto 4, 69, 0, 0, 0, 0, 0), (141, .iconst 0, 0, 0, 0, 0, 0, 0), (142, .iadd, 0, 0, 0, 0, 0, 0), (143, .istore_n 3, 3, 0, 0, 0, 0, 0), (144, .iinc 5 1, 5, 0, 0, 0, 1, 0), (147, .goto (-39), 50, 0, 0, 0, 0, 0), (150, .iinc 4 1, 4, 0, 0, 0, 1, 0), (153, .goto (-64), 39, 0, 0, 0, 0, 0), (156, .iload_n 3, 3, 0, 0, 0, 0, 0), (157, .ireturn, 0, 0, 0, 0, 0, 0), (158, .iconst 0, 0, 0, 0, 0, 0, 0), (159, .istore 4, 4, 0, 0, 0, 0, 0), (161, .iload 4, 4, 0, 0, 0, 0, 0), (163, .aload_n 0, 0, 0, 0, 0, 0, 0), (164, .getfield 13, 6, 2, 1, 0, 0, 0), (167, .iload_n 1, 1, 0, 0, 0, 0, 0), (168, .iaload, 0, 0, 0, 0, 0, 0), (169, .if_icmp .ge 36, 103, 0, 0, 0, 0, 0), (172, .aload_n 0, 0, 0, 0, 0, 0, 0), (173, .getfield 16, 6, 3, 1, 0, 0, 0), (176, .iload_n 1, 1, 0, 0, 0, 0, 0), (177, .baload, 0, 0, 0, 0, 0, 0), (178, .ifCond .eq 27, 103, 0, 0, 0, 0, 0), (181, .iload_n 3, 3, 0, 0, 0, 0, 0), (182, .aload_n 0, 0, 0, 0, 0, 0, 0), (183, .iload_n 1, 1, 0, 0, 0, 0, 0), (184, .iload 4, 4, 0, 0, 0, 0, 0), (186, .invokevirtual 135, 132, 3, 1, 6, 0, 0), (189, .ifCond .eq 7, 98, 0, 0, 0, 0, 0), (192, .iconst 1, 0, 0, 0, 0, 1, 0), (193, .goto 4, 99, 0, 0, 0, 0, 0), (196, .iconst 0, 0, 0, 0, 0, 0, 0), (197, .iadd, 0, 0, 0, 0, 0, 0), (198, .istore_n 3, 3, 0, 0, 0, 0, 0), (199, .iinc 4 1, 4, 0, 0, 0, 1, 0), (202, .goto (-41), 79, 0, 0, 0, 0, 0), (205, .aload_n 0, 0, 0, 0, 0, 0, 0), (206, .getfield 16, 6, 3, 1, 0, 0, 0), (209, .iload_n 1, 1, 0, 0, 0, 0, 0), (210, .baload, 0, 0, 0, 0, 0, 0), (211, .ifCond .eq 7, 110, 0, 0, 0, 0, 0), (214, .iload_n 3, 3, 0, 0, 0, 0, 0), (215, .goto 5, 111, 0, 0, 0, 0, 0), (218, .bipush (-3), 0, 0, 0, 0, (-3), 0), (220, .ireturn, 0, 0, 0, 0, 0, 0)]
def az_p134 : List az_I := [(0, .aload_n 0, 0, 0, 0, 0, 0, 0), (1, .iload_n 1, 1, 0, 0, 0, 0, 0), (2, .iload_n 2, 2, 0, 0, 0, 0, 0), (3, .invokevirtual 110, 113, 3, 1, 6, 0, 0), (6, .ifCond .eq 12, 10, 0, 0, 0, 0, 0), (9, .iload_n 3, 3, 0, 0, 0, 0, 0), (10, .iconst 0, 0, 0, 0, 0, 0, 0), (11, .iconst 1, 0, 0, 0, 0, 1, 0), (12, .invokestatic 87, 111, 3, 1, 0, 0, 0), (15, .ifCond .ne 8, 12, 0, 0, 0, 0, 0), (18, .bipush (-2), 0, 0, 0, 0, (-2), 0), (20, .goto 22, 23, 0, 0, 0, 0, 0), (23, .iload_n 3, 3, 0, 0, 0, 0, 0), (24, .ifCond .ne 12, 19, 0, 0, 0, 0, 0), (27, .aload_n 0, 0, 0, 0, 0, 0, 0), (28, .iload_n 1, 1, 0, 0, 0, 0, 0), (29, .iload_n 2, 2, 0, 0, 0, 0, 0), (30, .invokevirtual 103, 116, 3, 1, 6, 0, 0), (33, .goto 9, 23, 0, 0, 0, 0, 0), (36, .aload_n 0, 0, 0, 0, 0, 0, 0), (37, .iload_n 1, 1, 0, 0, 0, 0, 0), (38, .iload_n 2, 2, 0, 0, 0, 0, 0), (39, .invokevirtual 99, 117, 3, 1, 6, 0, 0), (42, .ireturn, 0, 0, 0, 0, 0, 0)]
def az_p135 : List az_I := [(0, .aload_n 0, 0, 0, 0, 0, 0, 0), (1, .iload_n 1, 1, 0, 0, 0, 0, 0), (2, .iload_n 2, 2, 0, 0, 0, 0, 0), (3, .invokevirtual 110, 113, 3, 1, 6, 0, 0), (6, .ifCond .eq 22, 16, 0, 0, 0, 0, 0), (9, .aload_n 0, 0, 0, 0, 0, 0, 0), (10, .iload_n 1, 1, 0, 0, 0, 0, 0), (11, .iload_n 3, 3, 0, 0, 0, 0, 0), (12, .invokevirtual 110, 113, 3, 1, 6, 0, 0), (15, .ifCond .eq 13, 16, 0, 0, 0, 0, 0), (18, .aload_n 0, 0, 0, 0, 0, 0, 0), (19, .iload_n 1, 1, 0, 0, 0, 0, 0), (20, .iload_n 2, 2, 0, 0, 0, 0, 0), (21, .iload_n 3, 3, 0, 0, 0, 0, 0), (22, .invokevirtual 118, 118, 4, 1, 6, 0, 0), (25, .goto 5, 17, 0, 0, 0, 0, 0), (28, .bipush (-2), 0, 0, 0, 0, (-2), 0), (30, .ireturn, 0, 0, 0, 0, 0, 0)]
def az_p136 : List az_I := [(0, .iload_n 1, 1, 0, 0, 0, 0, 0), (1, .iconst 0, 0, 0, 0, 0, 0, 0), (2, .aload_n 0, 0, 0, 0, 0, 0, 0), (3, .getfield 138, 6, 10, 0, 0, 0, 0), (6, .iconst 1, 0, 0, 0, 0, 1, 0), (7, .isub, 0, 0, 0, 0, 0, 0), (8, .invokestatic 87, 111, 3, 1, 0, 0, 0), (11, .ireturn, 0, 0, 1, 0, 0, 0)]
def az_p137 : List az_I := [(0, .iload_n 0, 0, 0, 0, 0, 0, 0), (1, .iload_n 1, 1, 0, 0, 0, 0, 0), (2, .if_icmp .le 7, 5, 0, 0, 0, 0, 0), (5, .iload_n 0, 0, 0, 0, 0, 0, 0), (6, .goto 4, 6, 0, 0, 0, 0, 0), (9, .iload_n 1, 1, 0, 0, 0, 0, 0), (10, .istore_n 3, 3, 0, 0, 0, 0, 0), (11, .iload_n 3, 3, 0, 0, 0, 0, 0), (12, .iload_n 2, 2, 0, 0, 0, 0, 0), (13, .if_icmp .le 7, 12, 0, 0, 0, 0, 0), (16, .iload_n 3, 3, 0, 0, 0, 0, 0), (17, .goto 4, 13, 0, 0, 0, 0, 0), (20, .iload_n 2, 2, 0, 0, 0, 0, 0), (21, .ireturn, 0, 0, 0, 0, 0, 0)]
def az_p138 : List az_I := [(0, .iconst 0, 0, 0, 0, 0, 0, 0), (1, .istore_n 2, 2, 0, 0, 0, 0, 0), (2, .iconst 0, 0, 0, 0, 0, 0, 0), (3, .istore_n 3, 3, 0, 0, 0, 0, 0), (4, .iload_n 3, 3, 0, 0, 0, 0, 0), (5, .aload_n 0, 0, 0, 0, 0, 0, 0), (6, .getfield 13, 6, 2, 1, 0, 0, 0), (9, .iload_n 1, 1, 0, 0, 0, 0, 0), (10, .iaload, 0, 0, 0, 0, 0, 0), (11, .if_icmp .ge 127, 75, 0, 0, 0, 0, 0), (14, .aload_n 0, 0, 0, 0, 0, 0, 0), (15, .getfield 53, 6, 17, 1, 0, 0, 0), (18, .iload_n 3, 3, 0, 0, 0, 0, 0), (19, .iload_n 2, 2, 0, 0, 0, 0, 0), (20, .iastore, 0, 0, 0, 0, 0, 0), (21, .iconst 0, 0, 0, 0, 0, 0, 0), (22, .istore 4, 4, 0, 0, 0, 0, 0), (24, .iload 4, 4, 0, 0, 0, 0, 0), (26, .aload_n 0, 0, 0, 0, 0, 0, 0), (27, .getfield 13, 6, 2, 1, 0, 0, 0), (30, .iload_n 1, 1, 0, 0, 0, 0, 0), (31, .iaload, 0, 0, 0, 0, 0, 0), (32, .if_icmp .ge 100, 73, 0, 0, 0, 0, 0), (35, .iconst 0, 0, 0, 0, 0, 0, 0), (36, .istore 5, 5, 0, 0, 0, 0, 0), (38, .iload 5, 5, 0, 0, 0, 0, 0), (40, .aload_n 0, 0, 0, 0, 0, 0, 0), (41, .getfield 13, 6, 2, 1, 0, 0, 0), (44, .iload_n 1, 1, 0, 0, 0, 0, 0), (45, .iaload, 0, 0, 0, 0, 0, 0), (46, .if_icmp .ge 80, 71, 0, 0, 0, 0, 0), (49, .aload_n 0, 0, 0, 0, 0, 0, 0), (50, .iload_n 1, 1, 0, 0, 0, 0, 0), (51, .iload 4, 4, 0, 0, 0, 0, 0), (53, .iload 5, 5, 0, 0, 0, 0, 0), (55, .invokevirtual 118, 118, 4, 1, 6, 0, 0), (58, .istore 6, 6, 0, 0, 0, 0, 0), (60, .iload 6, 6, 0, 0, 0, 0, 0), (62, .iconst (-1), 0, 0, 0, 0, (-1), 0), (63, .if_icmp .eq 57, 69, 0, 0, 0, 0, 0), (66, .iload 4, 4, 0, 0, 0, 0, 0), (68, .iload 5, 5, 0, 0, 0, 0, 0), (70, .iload 6, 6, 0, 0, 0, 0, 0), (72, .invokestatic 141, 137, 3, 1, 0, 0, 0), (75, .iload_n 3, 3, 0, 0, 0, 0, 0), (76, .if_icmp .ne 44, 69, 0, 0, 0, 0, 0), (79, .iload 4, 4, 0, 0, 0, 0, 0), (81, .aload_n 0, 0, 0, 0, 0, 0, 0), (82, .getfield 7, 6, 1, 1, 0, 0, 0), (85, .iload_n 1, 1, 0, 0, 0, 0, 0), (86, .iaload, 0, 0, 0, 0, 0, 0), (87, .if_icmp .lt 33, 69, 0, 0, 0, 0, 0), (90, .iload 5, 5, 0, 0, 0, 0, 0), (92, .aload_n 0, 0, 0, 0, 0, 0, 0), (93, .getfield 7, 6, 1, 1, 0, 0, 0), (96, .iload_n 1, 1, 0, 0, 0, 0, 0), (97, .iaload, 0, 0, 0, 0, 0, 0), (98, .if_icmp .lt 22, 69, 0, 0, 0, 0, 0), (101, .aload_n 0, 0, 0, 0, 0, 0, 0), (102, .getfield 47, 6, 15, 1, 0, 0, 0), (105, .iload_n 2, 2, 0, 0, 0, 0, 0), (106, .iload 4, 4, 0, 0, 0, 0, 0), (108, .iastore, 0, 0, 0, 0, 0, 0), (109, .aload_n 0, 0, 0, 0, 0, 0, 0), (110, .getfield 50, 6, 16, 1, 0, 0, 0), (113, .iload_n 2, 2, 0, 0, 0, 0, 0), (114, .iload 5, 5, 0, 0, 0, 0, 0), (116, .iastore, 0, 0, 0, 0, 0, 0), (117, .iinc 2 1, 2, 0, 0, 0, 1, 0), (120, .iinc 5 1, 5, 0, 0, 0, 1, 0), (123, .goto (-85), 25, 0, 0, 0, 0, 0), (126, .iinc 4 1, 4, 0, 0, 0, 1, 0), (129, .goto (-105), 17, 0, 0, 0, 0, 0), (132, .iinc 3 1, 3, 0, 0, 0, 1, 0), (135, .goto (-131), 4, 0, 0, 0, 0, 0), (138, .aload_n 0, 0, 0, 0, 0, 0, 0), (139, .getfield 53, 6, 17, 1, 0, 0, 0), (142, .aload_n 0, 0, 0, 0, 0, 0, 0), (143, .getfield 13, 6, 2, 1, 0, 0, 0), (146, .iload_n 1, 1, 0, 0, 0, 0, 0), (147, .iaload, 0, 0, 0, 0, 0, 0), (148, .iload_n 2, 2, 0, 0, 0, 0, 0), (149, .iastore, 0, 0, 0, 0, 0, 0), (150, .return_, 0, 0, 0, 0, 0, 0)]
def az_p139 : List az_I := [(0, .sipush 576, 0, 0, 0, 0, 576, 0), (3, .istore 4, 4, 0, 0, 0, 0, 0), (5, .aload_n 0, 0, 0, 0, 0, 0, 0), (6, .getfield 44, 6, 13, 1, 0, 0, 0), (9, .iload 4, 4, 0, 0, 0, 0, 0), (11, .iload_n 3, 3, 0, 0, 0, 0, 0), (12, .iadd, 0, 0, 0, 0, 0, 0), (13, .iaload, 0, 0, 0, 0, 0, 0), (14, .istore 5, 5, 0, 0, 0, 0, 0), (16, .aload_n 0, 0, 0, 0, 0, 0, 0), (17, .iload_n 2, 2, 0, 0, 0, 0, 0), (18, .iload 5, 5, 0, 0, 0, 0, 0), (20, .invokevirtual 103, 116, 3, 1, 6, 0, 0), (23, .aload_n 0, 0, 0, 0, 0, 0, 0), (24, .getfield 44, 6, 13, 1, 0, 0, 0), (27, .iload 4, 4, 0, 0, 0, 0, 0), (29, .aload_n 0, 0, 0, 0, 0, 0, 0), (30, .iload_n 1, 1, 0, 0, 0, 0, 0), (31, .iload_n 3, 3, 0, 0, 0, 0, 0), (32, .invokevirtual 103, 116, 3, 1, 6, 0, 0), (35, .iadd, 0, 0, 0, 0, 0, 0), (36, .iaload, 0, 0, 0, 0, 0, 0), (37, .if_icmp .ne 27, 37, 0, 0, 0, 0, 0), (40, .aload_n 0, 0, 0, 0, 0, 0, 0), (41, .iload_n 2, 2, 0, 0, 0, 0, 0), (42, .iload 5, 5, 0, 0, 0, 0, 0), (44, .invokevirtual 99, 117, 3, 1, 6, 0, 0), (47, .aload_n 0, 0, 0, 0, 0, 0, 0), (48, .getfield 44, 6, 13, 1, 0, 0, 0), (51, .iload 4, 4, 0, 0, 0, 0, 0), (53, .aload_n 0, 0, 0, 0, 0, 0, 0), (54, .iload_n 1, 1, 0, 0, 0, 0, 0), (55, .iload_n 3, 3, 0, 0, 0, 0, 0), (56, .invokevirtual 99, 117, 3, 1, 6, 0, 0), (59, .iadd, 0, 0, 0, 0, 0, 0), (60, .iaload, 0, 0, 0, 0, 0, 0), (61, .if_icmp .eq 5, 39, 0, 0, 0, 0, 0), (64, .iconst 0, 0, 0, 0, 0, 0, 0), (65, .ireturn, 0, 0, 1, 0, 0, 0), (66, .aload_n 0, 0, 0, 0, 0, 0, 0), (67, .getfield 53, 6, 17, 1, 0, 0, 0), (70, .iload_n 3, 3, 0, 0, 0, 0, 0), (71, .iaload, 0, 0, 0, 0, 0, 0), (72, .istore 6, 6, 0, 0, 0, 0, 0), (74, .iload 6, 6, 0, 0, 0, 0, 0), (76, .aload_n 0, 0, 0, 0, 0, 0, 0), (77, .getfield 53, 6, 17, 1, 0, 0, 0), (80, .iload_n 3, 3, 0, 0, 0, 0, 0), (81, .iconst 1, 0, 0, 0, 0, 1, 0), (82, .iadd, 0, 0, 0, 0, 0, 0), (83, .iaload, 0, 0, 0, 0, 0, 0), (84, .if_icmp .ge 74, 92, 0, 0, 0, 0, 0), (87, .aload_n 0, 0, 0, 0, 0, 0, 0), (88, .getfield 47, 6, 15, 1, 0, 0, 0), (91, .iload 6, 6, 0, 0, 0, 0, 0), (93, .iaload, 0, 0, 0, 0, 0, 0), (94, .istore 7, 7, 0, 0, 0, 0, 0), (96, .aload_n 0, 0, 0, 0, 0, 0, 0), (97, .getfield 50, 6, 16, 1, 0, 0, 0), (100, .iload 6, 6, 0, 0, 0, 0, 0), (102, .iaload, 0, 0, 0, 0, 0, 0), (103, .istore 8, 8, 0, 0, 0, 0, 0), (105, .aload_n 0, 0, 0, 0, 0, 0, 0), (106, .iload_n 2, 2, 0, 0, 0, 0, 0), (107, .aload_n 0, 0, 0, 0, 0, 0, 0), (108, .getfield 44, 6, 13, 1, 0, 0, 0), (111, .iload 4, 4, 0, 0, 0, 0, 0), (113, .iload 7, 7, 0, 0, 0, 0, 0), (115, .iadd, 0, 0, 0, 0, 0, 0), (116, .iaload, 0, 0, 0, 0, 0, 0), (117, .aload_n 0, 0, 0, 0, 0, 0, 0), (118, .getfield 44, 6, 13, 1, 0, 0, 0), (121, .iload 4, 4, 0, 0, 0, 0, 0), (123, .iload 8, 8, 0, 0, 0, 0, 0), (125, .iadd, 0, 0, 0, 0, 0, 0), (126, .iaload, 0, 0, 0, 0, 0, 0), (127, .invokevirtual 118, 118, 4, 1, 6, 0, 0), (130, .aload_n 0, 0, 0, 0, 0, 0, 0), (131, .getfield 44, 6, 13, 1, 0, 0, 0), (134, .iload 4, 4, 0, 0, 0, 0, 0), (136, .aload_n 0, 0, 0, 0, 0, 0, 0), (137, .iload_n 1, 1, 0, 0, 0, 0, 0), (138, .iload 7, 7, 0, 0, 0, 0, 0), (140, .iload 8, 8, 0, 0, 0, 0, 0), (142, .invokevirtual 118, 118, 4, 1, 6, 0, 0), (145, .iadd, 0, 0, 0, 0, 0, 0), (146, .iaload, 0, 0, 0, 0, 0, 0), (147, .if_icmp .eq 5, 90, 0, 0, 0, 0, 0), (150, .iconst 0, 0, 0, 0, 0, 0, 0), (151, .ireturn, 0, 0, 1, 0, 0, 0), (152, .iinc 6 1, 6, 0, 0, 0, 1, 0), (155, .goto (-81), 44, 0, 0, 0, 0, 0), (158, .iconst 1, 0, 0, 0, 0, 1, 0), (159, .ireturn, 0, 0, 1, 0, 0, 0)]
def az_p140 : List az_I := [(0, .aload_n 0, 0, 0, 0, 0, 0, 0), (1, .iconst 0, 0, 0, 0, 0, 0, 0), (2, .putfield 144, 6, 14, 0, 0, 0, 0), (5, .sipush 576, 0, 0, 0, 0, 576, 0), (8, .istore 5, 5, 0, 0, 0, 0, 0), (10, .iconst 0, 0, 0, 0, 0, 0, 0), (11, .istore 6, 6, 0, 0, 0, 0, 0), (13, .aload_n 0, 0, 0, 0, 0, 0, 0), (14, .getfield 38, 6, 11, 1, 0, 0, 0), (17, .bipush 24, 0, 0, 0, 0, 24, 0), (19, .iload_n 1, 1, 0, 0, 0, 0, 0), (20, .iastore, 0, 0, 0, 0, 0, 0), (21, .aload_n 0, 0, 0, 0, 0, 0, 0), (22, .getfield 41, 6, 12, 1, 0, 0, 0), (25, .bipush 24, 0, 0, 0, 0, 24, 0), (27, .iload_n 2, 2, 0, 0, 0, 0, 0), (28, .iastore, 0, 0, 0, 0, 0, 0), (29, .aload_n 0, 0, 0, 0, 0, 0, 0), (30, .iload_n 1, 1, 0, 0, 0, 0, 0), (31, .invokevirtual 147, 138, 2, 0, 6, 0, 0), (34, .iconst 0, 0, 0, 0, 0, 0, 0), (35, .istore 7, 7, 0, 0, 0, 0, 0), (37, .aload_n 0, 0, 0, 0, 0, 0, 0), (38, .getfield 44, 6, 13, 1, 0, 0, 0), (41, .iload 5, 5, 0, 0, 0, 0, 0), (43, .iconst (-1), 0, 0, 0, 0, (-1), 0), (44, .iastore, 0, 0, 0, 0, 0, 0), (45, .iload 7, 7, 0, 0, 0, 0, 0), (47, .ifCond .lt 171, 121, 0, 0, 0, 0, 0), (50, .aload_n 0, 0, 0, 0, 0, 0, 0), (51, .getfield 44, 6, 13, 1, 0, 0, 0), (54, .iload 5, 5, 0, 0, 0, 0, 0), (56, .iload 7, 7, 0, 0, 0, 0, 0), (58, .iadd, 0, 0, 0, 0, 0, 0), (59, .dup2, 0, 0, 0, 0, 0, 0), (60, .iaload, 0, 0, 0, 0, 0, 0), (61, .iconst 1, 0, 0, 0, 0, 1, 0), (62, .iadd, 0, 0, 0, 0, 0, 0), (63, .iastore, 0, 0, 0, 0, 0, 0), (64, .iload 7, 7, 0, 0, 0, 0, 0), (66, .aload_n 0, 0, 0, 0, 0, 0, 0), (67, .getfield 7, 6, 1, 1, 0, 0, 0), (70, .iload_n 1, 1, 0, 0, 0, 0, 0), (71, .iaload, 0, 0, 0, 0, 0, 0), (72, .if_icmp .ge 12, 50, 0, 0, 0, 0, 0), (75, .aload_n 0, 0, 0, 0, 0, 0, 0), (76, .getfield 7, 6, 1, 1, 0, 0, 0), (79, .iload_n 2, 2, 0, 0, 0, 0, 0), (80, .iaload, 0, 0, 0, 0, 0, 0), (81, .goto 9, 54, 0, 0, 0, 0, 0), (84, .aload_n 0, 0, 0, 0, 0, 0, 0), (85, .getfield 13, 6, 2, 1, 0, 0, 0), (88, .iload_n 2, 2, 0, 0, 0, 0, 0), (89, .iaload, 0, 0, 0, 0, 0, 0), (90, .istore 8, 8, 0, 0, 0, 0, 0), (92, .aload_n 0, 0, 0, 0, 0, 0, 0), (93, .getfield 44, 6, 13, 1, 0, 0, 0), (96, .iload 5, 5, 0, 0, 0, 0, 0), (98, .iload 7, 7, 0, 0, 0, 0, 0), (100, .iadd, 0, 0, 0, 0, 0, 0), (101, .iaload, 0, 0, 0, 0, 0, 0), (102, .iload 8, 8, 0, 0, 0, 0, 0), (104, .if_icmp .ne 9, 65, 0, 0, 0, 0, 0), (107, .iinc 7 (-1), 7, 0, 0, 0, (-1), 0), (110, .goto 105, 120, 0, 0, 0, 0, 0), (113, .aload_n 0, 0, 0, 0, 0, 0, 0), (114, .getfield 144, 6, 14, 0, 0, 0, 0), (117, .ldc 150, 0, 0, 0, 0, 60000, 0), (119, .if_icmp .ne 6, 71, 0, 0, 0, 0, 0), (122, .bipush (-5), 0, 0, 0, 0, (-5), 0), (124, .ireturn, 0, 0, 0, 0, 0, 0), (125, .aload_n 0, 0, 0, 0, 0, 0, 0), (126, .dup, 0, 0, 0, 0, 0, 0), (127, .getfield 144, 6, 14, 0, 0, 0, 0), (130, .iconst 1, 0, 0, 0, 0, 1, 0), (131, .iadd, 0, 0, 0, 0, 0, 0), (132, .putfield 144, 6, 14, 0, 0, 0, 0), (135, .iload 7, 7, 0, 0, 0, 0, 0), (137, .aload_n 0, 0, 0, 0, 0, 0, 0), (138, .getfield 7, 6, 1, 1, 0, 0, 0), (141, .iload_n 1, 1, 0, 0, 0, 0, 0), (142, .iaload, 0, 0, 0, 0, 0, 0), (143, .if_icmp .lt 14, 89, 0, 0, 0, 0, 0), (146, .aload_n 0, 0, 0, 0, 0, 0, 0), (147, .iload_n 1, 1, 0, 0, 0, 0, 0), (148, .iload_n 2, 2, 0, 0, 0, 0, 0), (149, .iload 7, 7, 0, 0, 0, 0, 0), (151, .invokevirtual 151, 139, 4, 1, 6, 0, 0), (154, .ifCond .eq 61, 120, 0, 0, 0, 0, 0), (157, .iload 7, 7, 0, 0, 0, 0, 0), (159, .aload_n 0, 0, 0, 0, 0, 0, 0), (160, .getfield 13, 6, 2, 1, 0, 0, 0), (163, .iload_n 1, 1, 0, 0, 0, 0, 0), (164, .iaload, 0, 0, 0, 0, 0, 0), (165, .iconst 1, 0, 0, 0, 0, 1, 0), (166, .isub, 0, 0, 0, 0, 0, 0), (167, .if_icmp .ge 20, 106, 0, 0, 0, 0, 0), (170, .iinc 7 1, 7, 0, 0, 0, 1, 0), (173, .aload_n 0, 0, 0, 0, 0, 0, 0), (174, .getfield 44, 6, 13, 1, 0, 0, 0), (177, .iload 5, 5, 0, 0, 0, 0, 0), (179, .iload 7, 7, 0, 0, 0, 0, 0), (181, .iadd, 0, 0, 0, 0, 0, 0), (182, .iconst (-1), 0, 0, 0, 0, (-1), 0), (183, .iastore, 0, 0, 0, 0, 0, 0), (184, .goto 31, 120, 0, 0, 0, 0, 0), (187, .iinc 6 1, 6, 0, 0, 0, 1, 0), (190, .iload 6, 6, 0, 0, 0, 0, 0), (192, .iload_n 3, 3, 0, 0, 0, 0, 0), (193, .iconst 1, 0, 0, 0, 0, 1, 0), (194, .iadd, 0, 0, 0, 0, 0, 0), (195, .if_icmp .eq 17, 118, 0, 0, 0, 0, 0), (198, .iload 4, 4, 0, 0, 0, 0, 0), (200, .ifCond .eq 15, 120, 0, 0, 0, 0, 0), (203, .aload_n 0, 0, 0, 0, 0, 0, 0), (204, .bipush 24, 0, 0, 0, 0, 24, 0), (206, .invokevirtual 154, 151, 2, 1, 6, 0, 0), (209, .ifCond .eq 6, 120, 0, 0, 0, 0, 0), (212, .iload 6, 6, 0, 0, 0, 0, 0), (214, .ireturn, 0, 0, 0, 0, 0, 0), (215, .goto (-170), 27, 0, 0, 0, 0, 0), (218, .iload 4, 4, 0, 0, 0, 0, 0), (220, .ifCond .eq 7, 125, 0, 0, 0, 0, 0), (223, .iconst 0, 0, 0, 0, 0, 0, 0), (224, .goto 5, 126, 0, 0, 0, 0, 0), (227, .iload 6, 6, 0, 0, 0, 0, 0), (229, .ireturn, 0, 0, 0, 0, 0, 0)]
def az_p141 : List az_I := [(0, .aload_n 0, 0, 0, 0, 0, 0, 0), (1, .iload_n 1, 1, 0, 0, 0, 0, 0), (2, .invokevirtual 91, 112, 2, 1, 6, 0, 0), (5, .ifCond .eq 11, 8, 0, 0, 0, 0, 0), (8, .aload_n 0, 0, 0, 0, 0, 0, 0), (9, .iload_n 2, 2, 0, 0, 0, 0, 0), (10, .invokevirtual 91, 112, 2, 1, 6, 0, 0), (13, .ifCond .ne 6, 10, 0, 0, 0, 0, 0), (16, .bipush (-2), 0, 0, 0, 0, (-2), 0), (18, .ireturn, 0, 0, 0, 0, 0, 0), (19, .aload_n 0, 0, 0, 0, 0, 0, 0), (20, .getfield 16, 6, 3, 1, 0, 0, 0), (23, .iload_n 1, 1, 0, 0, 0, 0, 0), (24, .baload, 0, 0, 0, 0, 0, 0), (25, .ifCond .eq 24, 27, 0, 0, 0, 0, 0), (28, .aload_n 0, 0, 0, 0, 0, 0, 0), (29, .getfield 16, 6, 3, 1, 0, 0, 0), (32, .iload_n 2, 2, 0, 0, 0, 0, 0), (33, .baload, 0, 0, 0, 0, 0, 0), (34, .ifCond .eq 15, 27, 0, 0, 0, 0, 0), (37, .aload_n 0, 0, 0, 0, 0, 0, 0), (38, .iload_n 1, 1, 0, 0, 0, 0, 0), (39, .iload_n 2, 2, 0, 0, 0, 0, 0), (40, .bipush (-2), 0, 0, 0, 0, (-2), 0), (42, .iconst 0, 0, 0, 0, 0, 0, 0), (43, .invokevirtual 157, 140, 5, 1, 6, 0, 0), (46, .goto 5, 28, 0, 0, 0, 0, 0), (49, .bipush (-3), 0, 0, 0, 0, (-3), 0), (51, .ireturn, 0, 0, 0, 0, 0, 0)]
def az_p142 : List az_I := [(0, .aload_n 0, 0, 0, 0, 0, 0, 0), (1, .getfield 38, 6, 11, 1, 0, 0, 0), (4, .aload_n 0, 0, 0, 0, 0, 0, 0), (5, .getfield 138, 6, 10, 0, 0, 0, 0), (8, .aload_n 0, 0, 0, 0, 0, 0, 0), (9, .getfield 38, 6, 11, 1, 0, 0, 0), (12, .bipush 24, 0, 0, 0, 0, 24, 0), (14, .iaload, 0, 0, 0, 0, 0, 0), (15, .iastore, 0, 0, 0, 0, 0, 0), (16, .aload_n 0, 0, 0, 0, 0, 0, 0), (17, .getfield 41, 6, 12, 1, 0, 0, 0), (20, .aload_n 0, 0, 0, 0, 0, 0, 0), (21, .getfield 138, 6, 10, 0, 0, 0, 0), (24, .aload_n 0, 0, 0, 0, 0, 0, 0), (25, .getfield 41, 6, 12, 1, 0, 0, 0), (28, .bipush 24, 0, 0, 0, 0, 24, 0), (30, .iaload, 0, 0, 0, 0, 0, 0), (31, .iastore, 0, 0, 0, 0, 0, 0), (32, .iconst 0, 0, 0, 0, 0, 0, 0), (33, .istore_n 1, 1, 0, 0, 0, 0, 0), (34, .iload_n 1, 1, 0, 0, 0, 0, 0), (35, .bipush 24, 0, 0, 0, 0, 24, 0), (37, .if_icmp .ge 33, 40, 0, 0, 0, 0, 0), (40, .aload_n 0, 0, 0, 0, 0, 0, 0), (41, .getfield 44, 6, 13, 1, 0, 0, 0), (44, .bipush 24, 0, 0, 0, 0, 24, 0), (46, .aload_n 0, 0, 0, 0, 0, 0, 0), (47, .getfield 138, 6, 10, 0, 0, 0, 0), (50, .imul, 0, 0, 0, 0, 0, 0), (51, .iload_n 1, 1, 0, 0, 0, 0, 0), (52, .iadd, 0, 0, 0, 0, 0, 0), (53, .aload_n 0, 0, 0, 0, 0, 0, 0), (54, .getfield 44, 6, 13, 1, 0, 0, 0), (57, .sipush 576, 0, 0, 0, 0, 576, 0), (60, .iload_n 1, 1, 0, 0, 0, 0, 0), (61, .iadd, 0, 0, 0, 0, 0, 0), (62, .iaload, 0, 0, 0, 0, 0, 0), (63, .iastore, 0, 0, 0, 0, 0, 0), (64, .iinc 1 1, 1, 0, 0, 0, 1, 0), (67, .goto (-33), 20, 0, 0, 0, 0, 0), (70, .aload_n 0, 0, 0, 0, 0, 0, 0), (71, .dup, 0, 0, 0, 0, 0, 0), (72, .getfield 138, 6, 10, 0, 0, 0, 0), (75, .iconst 1, 0, 0, 0, 0, 1, 0), (76, .iadd, 0, 0, 0, 0, 0, 0), (77, .putfield 138, 6, 10, 0, 0, 0, 0), (80, .aload_n 0, 0, 0, 0, 0, 0, 0), (81, .getfield 138, 6, 10, 0, 0, 0, 0), (84, .iconst 1, 0, 0, 0, 0, 1, 0), (85, .isub, 0, 0, 0, 0, 0, 0), (86, .ireturn, 0, 0, 0, 0, 0, 0)]
def az_p143 : List az_I := [(0, .aload_n 0, 0, 0, 0, 0, 0, 0), (1, .iload_n 1, 1, 0, 0, 0, 0, 0), (2, .invokevirtual 91, 112, 2, 1, 6, 0, 0), (5, .ifCond .eq 15, 10, 0, 0, 0, 0, 0), (8, .aload_n 0, 0, 0, 0, 0, 0, 0), (9, .iload_n 2, 2, 0, 0, 0, 0, 0), (10, .invokevirtual 91, 112, 2, 1, 6, 0, 0), (13, .ifCond .eq 7, 10, 0, 0, 0, 0, 0), (16, .iload_n 3, 3, 0, 0, 0, 0, 0), (17, .ifCond .ge 6, 12, 0, 0, 0, 0, 0), (20, .bipush (-2), 0, 0, 0, 0, (-2), 0), (22, .ireturn, 0, 0, 0, 0, 0, 0), (23, .aload_n 0, 0, 0, 0, 0, 0, 0), (24, .getfield 16, 6, 3, 1, 0, 0, 0), (27, .iload_n 1, 1, 0, 0, 0, 0, 0), (28, .baload, 0, 0, 0, 0, 0, 0), (29, .ifCond .eq 12, 22, 0, 0, 0, 0, 0), (32, .aload_n 0, 0, 0, 0, 0, 0, 0), (33, .getfield 16, 6, 3, 1, 0, 0, 0), (36, .iload_n 2, 2, 0, 0, 0, 0, 0), (37, .baload, 0, 0, 0, 0, 0, 0), (38, .ifCond .ne 6, 24, 0, 0, 0, 0, 0), (41, .bipush (-3), 0, 0, 0, 0, (-3), 0), (43, .ireturn, 0, 0, 0, 0, 0, 0), (44, .aload_n 0, 0, 0, 0, 0, 0, 0), (45, .iload_n 1, 1, 0, 0, 0, 0, 0), (46, .iload_n 2, 2, 0, 0, 0, 0, 0), (47, .iload_n 3, 3, 0, 0, 0, 0, 0), (48, .iconst 0, 0, 0, 0, 0, 0, 0), (49, .invokevirtual 157, 140, 5, 1, 6, 0, 0), (52, .istore 4, 4, 0, 0, 0, 0, 0), (54, .iload 4, 4, 0, 0, 0, 0, 0), (56, .bipush (-5), 0, 0, 0, 0, (-5), 0), (58, .if_icmp .eq 12, 39, 0, 0, 0, 0, 0), (61, .iload 4, 4, 0, 0, 0, 0, 0), (63, .iload_n 3, 3, 0, 0, 0, 0, 0), (64, .if_icmp .gt 6, 39, 0, 0, 0, 0, 0), (67, .bipush (-3), 0, 0, 0, 0, (-3), 0), (69, .ireturn, 0, 0, 0, 0, 0, 0), (70, .aload_n 0, 0, 0, 0, 0, 0, 0), (71, .getfield 138, 6, 10, 0, 0, 0, 0), (74, .bipush 24, 0, 0, 0, 0, 24, 0), (76, .if_icmp .ne 8, 45, 0, 0, 0, 0, 0), (79, .bipush (-4), 0, 0, 0, 0, (-4), 0), (81, .goto 19, 52, 0, 0, 0, 0, 0), (84, .iload 4, 4, 0, 0, 0, 0, 0), (86, .bipush (-5), 0, 0, 0, 0, (-5), 0), (88, .if_icmp .ne 8, 50, 0, 0, 0, 0, 0), (91, .bipush (-5), 0, 0, 0, 0, (-5), 0), (93, .goto 7, 52, 0, 0, 0, 0, 0), (96, .aload_n 0, 0, 0, 0, 0, 0, 0), (97, .invokevirtual 161, 142, 1, 1, 6, 0, 0), (100, .ireturn, 0, 0, 0, 0, 0, 0)]
def az_p144 : List az_I := [(0, .aload_n 0, 0, 0, 0, 0, 0, 0), (1, .iload_n 1, 1, 0, 0, 0, 0, 0), (2, .invokevirtual 165, 136, 2, 1, 6, 0, 0), (5, .ifCond .eq 11, 8, 0, 0, 0, 0, 0), (8, .aload_n 0, 0, 0, 0, 0, 0, 0), (9, .iload_n 2, 2, 0, 0, 0, 0, 0), (10, .invokevirtual 165, 136, 2, 1, 6, 0, 0), (13, .ifCond .ne 6, 10, 0, 0, 0, 0, 0), (16, .bipush (-2), 0, 0, 0, 0, (-2), 0), (18, .ireturn, 0, 0, 0, 0, 0, 0), (19, .aload_n 0, 0, 0, 0, 0, 0, 0), (20, .getfield 41, 6, 12, 1, 0, 0, 0), (23, .iload_n 1, 1, 0, 0, 0, 0, 0), (24, .iaload, 0, 0, 0, 0, 0, 0), (25, .aload_n 0, 0, 0, 0, 0, 0, 0), (26, .getfield 38, 6, 11, 1, 0, 0, 0), (29, .iload_n 2, 2, 0, 0, 0, 0, 0), (30, .iaload, 0, 0, 0, 0, 0, 0), (31, .if_icmp .eq 6, 21, 0, 0, 0, 0, 0), (34, .bipush (-3), 0, 0, 0, 0, (-3), 0), (36, .ireturn, 0, 0, 0, 0, 0, 0), (37, .aload_n 0, 0, 0, 0, 0, 0, 0), (38, .getfield 138, 6, 10, 0, 0, 0, 0), (41, .bipush 24, 0, 0, 0, 0, 24, 0), (43, .if_icmp .ne 6, 27, 0, 0, 0, 0, 0), (46, .bipush (-4), 0, 0, 0, 0, (-4), 0), (48, .ireturn, 0, 0, 0, 0, 0, 0), (49, .aload_n 0, 0, 0, 0, 0, 0, 0), (50, .getfield 38, 6, 11, 1, 0, 0, 0), (53, .bipush 24, 0, 0, 0, 0, 24, 0), (55, .aload_n 0, 0, 0, 0, 0, 0, 0), (56, .getfield 38, 6, 11, 1, 0, 0, 0), (59, .iload_n 1, 1, 0, 0, 0, 0, 0), (60, .iaload, 0, 0, 0, 0, 0, 0), (61, .iastore, 0, 0, 0, 0, 0, 0), (62, .aload_n 0, 0, 0, 0, 0, 0, 0), (63, .getfield 41, 6, 12, 1, 0, 0, 0), (66, .bipush 24, 0, 0, 0, 0, 24, 0), (68, .aload_n 0, 0, 0, 0, 0, 0, 0), (69, .getfield 41, 6, 12, 1, 0, 0, 0), (72, .iload_n 2, 2, 0, 0, 0, 0, 0), (73, .iaload, 0, 0, 0, 0, 0, 0), (74, .iastore, 0, 0, 0, 0, 0, 0), (75, .iconst 0, 0, 0, 0, 0, 0, 0), (76, .istore_n 3, 3, 0, 0, 0, 0, 0), (77, .iload_n 3, 3, 0, 0, 0, 0, 0), (78, .aload_n 0, 0, 0, 0, 0, 0, 0), (79, .getfield 13, 6, 2, 1, 0, 0, 0), (82, .aload_n 0, 0, 0, 0, 0, 0, 0), (83, .getfield 38, 6, 11, 1, 0, 0, 0), (86, .iload_n 1, 1, 0, 0, 0, 0, 0), (87, .iaload, 0, 0, 0, 0, 0, 0), (88, .iaload, 0, 0, 0, 0, 0, 0), (89, .if_icmp .ge 40, 77, 0, 0, 0, 0, 0), (92, .aload_n 0, 0, 0, 0, 0, 0, 0), (93, .getfield 44, 6, 13, 1, 0, 0, 0), (96, .sipush 576, 0, 0, 0, 0, 576, 0), (99, .iload_n 3, 3, 0, 0, 0, 0, 0), (100, .iadd, 0, 0, 0, 0, 0, 0), (101, .aload_n 0, 0, 0, 0, 0, 0, 0), (102, .getfield 44, 6, 13, 1, 0, 0, 0), (105, .bipush 24, 0, 0, 0, 0, 24, 0), (107, .iload_n 2, 2, 0, 0, 0, 0, 0), (108, .imul, 0, 0, 0, 0, 0, 0), (109, .aload_n 0, 0, 0, 0, 0, 0, 0), (110, .getfield 44, 6, 13, 1, 0, 0, 0), (113, .bipush 24, 0, 0, 0, 0, 24, 0), (115, .iload_n 1, 1, 0, 0, 0, 0, 0), (116, .imul, 0, 0, 0, 0, 0, 0), (117, .iload_n 3, 3, 0, 0, 0, 0, 0), (118, .iadd, 0, 0, 0, 0, 0, 0), (119, .iaload, 0, 0, 0, 0, 0, 0), (120, .iadd, 0, 0, 0, 0, 0, 0), (121, .iaload, 0, 0, 0, 0, 0, 0), (122, .iastore, 0, 0, 0, 0, 0, 0), (123, .iinc 3 1, 3, 0, 0, 0, 1, 0), (126, .goto (-49), 45, 0, 0, 0, 0, 0), (129, .aload_n 0, 0, 0, 0, 0, 0, 0), (130, .invokevirtual 161, 142, 1, 1, 6, 0, 0), (133, .ireturn, 0, 0, 0, 0, 0, 0)]
def az_p145 : List az_I := [(0, .aload_n 0, 0, 0, 0, 0, 0, 0), (1, .getfield 44, 6, 13, 1, 0, 0, 0), (4, .bipush 24, 0, 0, 0, 0, 24, 0), (6, .iload_n 1, 1, 0, 0, 0, 0, 0), (7, .imul, 0, 0, 0, 0, 0, 0), (8, .iload_n 2, 2, 0, 0, 0, 0, 0), (9, .iadd, 0, 0, 0, 0, 0, 0), (10, .iaload, 0, 0, 0, 0, 0, 0), (11, .ireturn, 0, 0, 0, 0, 0, 0)]
def az_p146 : List az_I := [(0, .aload_n 0, 0, 0, 0, 0, 0, 0), (1, .getfield 38, 6, 11, 1, 0, 0, 0), (4, .iload_n 1, 1, 0, 0, 0, 0, 0), (5, .iaload, 0, 0, 0, 0, 0, 0), (6, .istore_n 2, 2, 0, 0, 0, 0, 0), (7, .iconst 0, 0, 0, 0, 0, 0, 0), (8, .istore_n 3, 3, 0, 0, 0, 0, 0), (9, .iload_n 3, 3, 0, 0, 0, 0, 0), (10, .aload_n 0, 0, 0, 0, 0, 0, 0), (11, .getfield 13, 6, 2, 1, 0, 0, 0), (14, .iload_n 2, 2, 0, 0, 0, 0, 0), (15, .iaload, 0, 0, 0, 0, 0, 0), (16, .if_icmp .ge 74, 51, 0, 0, 0, 0, 0), (19, .iconst 0, 0, 0, 0, 0, 0, 0), (20, .istore 4, 4, 0, 0, 0, 0, 0), (22, .iload 4, 4, 0, 0, 0, 0, 0), (24, .iload_n 3, 3, 0, 0, 0, 0, 0), (25, .if_icmp .ge 59, 49, 0, 0, 0, 0, 0), (28, .aload_n 0, 0, 0, 0, 0, 0, 0), (29, .iload_n 2, 2, 0, 0, 0, 0, 0), (30, .iload_n 3, 3, 0, 0, 0, 0, 0), (31, .invokevirtual 103, 116, 3, 1, 6, 0, 0), (34, .aload_n 0, 0, 0, 0, 0, 0, 0), (35, .iload_n 2, 2, 0, 0, 0, 0, 0), (36, .iload 4, 4, 0, 0, 0, 0, 0), (38, .invokevirtual 103, 116, 3, 1, 6, 0, 0), (41, .if_icmp .ne 37, 47, 0, 0, 0, 0, 0), (44, .aload_n 0, 0, 0, 0, 0, 0, 0), (45, .iload_n 2, 2, 0, 0, 0, 0, 0), (46, .iload_n 3, 3, 0, 0, 0, 0, 0), (47, .invokevirtual 99, 117, 3, 1, 6, 0, 0), (50, .aload_n 0, 0, 0, 0, 0, 0, 0), (51, .iload_n 2, 2, 0, 0, 0, 0, 0), (52, .iload 4, 4, 0, 0, 0, 0, 0), (54, .invokevirtual 99, 117, 3, 1, 6, 0, 0), (57, .if_icmp .ne 21, 47, 0, 0, 0, 0, 0), (60, .aload_n 0, 0, 0, 0, 0, 0, 0), (61, .iload_n 1, 1, 0, 0, 0, 0, 0), (62, .iload_n 3, 3, 0, 0, 0, 0, 0), (63, .invokevirtual 168, 145, 3, 1, 6, 0, 0), (66, .aload_n 0, 0, 0, 0, 0, 0, 0), (67, .iload_n 1, 1, 0, 0, 0, 0, 0), (68, .iload 4, 4, 0, 0, 0, 0, 0), (70, .invokevirtual 168, 145, 3, 1, 6, 0, 0), (73, .if_icmp .ne 5, 47, 0, 0, 0, 0, 0), (76, .iconst 0, 0, 0, 0, 0, 0, 0), (77, .ireturn, 0, 0, 1, 0, 0, 0), (78, .iinc 4 1, 4, 0, 0, 0, 1, 0), (81, .goto (-59), 15, 0, 0, 0, 0, 0), (84, .iinc 3 1, 3, 0, 0, 0, 1, 0), (87, .goto (-78), 7, 0, 0, 0, 0, 0), (90, .iconst 1, 0, 0, 0, 0, 1, 0), (91, .ireturn, 0, 0, 1, 0, 0, 0)]
def az_p147 : List az_I := [(0, .aload_n 0, 0, 0, 0, 0, 0, 0), (1, .getfield 38, 6, 11, 1, 0, 0, 0), (4, .iload_n 1, 1, 0, 0, 0, 0, 0), (5, .iaload, 0, 0, 0, 0, 0, 0), (6, .istore 5, 5, 0, 0, 0, 0, 0), (8, .iconst 0, 0, 0, 0, 0, 0, 0), (9, .istore 6, 6, 0, 0, 0, 0, 0), (11, .iload 6, 6, 0, 0, 0, 0, 0), (13, .aload_n 0, 0, 0, 0, 0, 0, 0), (14, .getfield 13, 6, 2, 1, 0, 0, 0), (17, .iload 5, 5, 0, 0, 0, 0, 0), (19, .iaload, 0, 0, 0, 0, 0, 0), (20, .if_icmp .ge 47, 35, 0, 0, 0, 0, 0), (23, .aload_n 0, 0, 0, 0, 0, 0, 0), (24, .iload 5, 5, 0, 0, 0, 0, 0), (26, .iload 6, 6, 0, 0, 0, 0, 0), (28, .invokevirtual 103, 116, 3, 1, 6, 0, 0), (31, .iload_n 2, 2, 0, 0, 0, 0, 0), (32, .if_icmp .ne 29, 33, 0, 0, 0, 0, 0), (35, .aload_n 0, 0, 0, 0, 0, 0, 0), (36, .iload 5, 5, 0, 0, 0, 0, 0), (38, .iload 6, 6, 0, 0, 0, 0, 0), (40, .invokevirtual 99, 117, 3, 1, 6, 0, 0), (43, .iload_n 3, 3, 0, 0, 0, 0, 0), (44, .if_icmp .ne 17, 33, 0, 0, 0, 0, 0), (47, .aload_n 0, 0, 0, 0, 0, 0, 0), (48, .iload_n 1, 1, 0, 0, 0, 0, 0), (49, .iload 6, 6, 0, 0, 0, 0, 0), (51, .invokevirtual 168, 145, 3, 1, 6, 0, 0), (54, .iload 4, 4, 0, 0, 0, 0, 0), (56, .if_icmp .ne 5, 33, 0, 0, 0, 0, 0), (59, .iconst 1, 0, 0, 0, 0, 1, 0), (60, .ireturn, 0, 0, 1, 0, 0, 0), (61, .iinc 6 1, 6, 0, 0, 0, 1, 0), (64, .goto (-53), 7, 0, 0, 0, 0, 0), (67, .iconst 0, 0, 0, 0, 0, 0, 0), (68, .ireturn, 0, 0, 1, 0, 0, 0)]
def az_p148 : List az_I := [(0, .aload_n 0, 0, 0, 0, 0, 0, 0), (1, .getfield 38, 6, 11, 1, 0, 0, 0), (4, .iload_n 1, 1, 0, 0, 0, 0, 0), (5, .iaload, 0, 0, 0, 0, 0, 0), (6, .istore_n 2, 2, 0, 0, 0, 0, 0), (7, .aload_n 0, 0, 0, 0, 0, 0, 0), (8, .getfield 41, 6, 12, 1, 0, 0, 0), (11, .iload_n 1, 1, 0, 0, 0, 0, 0), (12, .iaload, 0, 0, 0, 0, 0, 0), (13, .istore_n 3, 3, 0, 0, 0, 0, 0), (14, .iconst 0, 0, 0, 0, 0, 0, 0), (15, .istore 4, 4, 0, 0, 0, 0, 0), (17, .iload 4, 4, 0, 0, 0, 0, 0), (19, .aload_n 0, 0, 0, 0, 0, 0, 0), (20, .getfield 7, 6, 1, 1, 0, 0, 0), (23, .iload_n 2, 2, 0, 0, 0, 0, 0), (24, .iaload, 0, 0, 0, 0, 0, 0), (25, .if_icmp .ge 99, 67, 0, 0, 0, 0, 0), (28, .iconst 0, 0, 0, 0, 0, 0, 0), (29, .istore 5, 5, 0, 0, 0, 0, 0), (31, .iload 5, 5, 0, 0, 0, 0, 0), (33, .aload_n 0, 0, 0, 0, 0, 0, 0), (34, .getfield 7, 6, 1, 1, 0, 0, 0), (37, .iload_n 2, 2, 0, 0, 0, 0, 0), (38, .iaload, 0, 0, 0, 0, 0, 0), (39, .if_icmp .ge 79, 65, 0, 0, 0, 0, 0), (42, .iconst 0, 0, 0, 0, 0, 0, 0), (43, .istore 6, 6, 0, 0, 0, 0, 0), (45, .iload 6, 6, 0, 0, 0, 0, 0), (47, .aload_n 0, 0, 0, 0, 0, 0, 0), (48, .getfield 13, 6, 2, 1, 0, 0, 0), (51, .iload_n 3, 3, 0, 0, 0, 0, 0), (52, .iaload, 0, 0, 0, 0, 0, 0), (53, .if_icmp .ge 59, 63, 0, 0, 0, 0, 0), (56, .aload_n 0, 0, 0, 0, 0, 0, 0), (57, .iload_n 3, 3, 0, 0, 0, 0, 0), (58, .iload 6, 6, 0, 0, 0, 0, 0), (60, .invokevirtual 103, 116, 3, 1, 6, 0, 0), (63, .aload_n 0, 0, 0, 0, 0, 0, 0), (64, .iload_n 1, 1, 0, 0, 0, 0, 0), (65, .iload 4, 4, 0, 0, 0, 0, 0), (67, .invokevirtual 168, 145, 3, 1, 6, 0, 0), (70, .if_icmp .ne 36, 61, 0, 0, 0, 0, 0), (73, .aload_n 0, 0, 0, 0, 0, 0, 0), (74, .iload_n 3, 3, 0, 0, 0, 0, 0), (75, .iload 6, 6, 0, 0, 0, 0, 0), (77, .invokevirtual 99, 117, 3, 1, 6, 0, 0), (80, .aload_n 0, 0, 0, 0, 0, 0, 0), (81, .iload_n 1, 1, 0, 0, 0, 0, 0), (82, .iload 5, 5, 0, 0, 0, 0, 0), (84, .invokevirtual 168, 145, 3, 1, 6, 0, 0), (87, .if_icmp .ne 19, 61, 0, 0, 0, 0, 0), (90, .aload_n 0, 0, 0, 0, 0, 0, 0), (91, .iload_n 1, 1, 0, 0, 0, 0, 0), (92, .iload 4, 4, 0, 0, 0, 0, 0), (94, .iload 5, 5, 0, 0, 0, 0, 0), (96, .iload 6, 6, 0, 0, 0, 0, 0), (98, .invokevirtual 171, 147, 5, 1, 6, 0, 0), (101, .ifCond .ne 5, 61, 0, 0, 0, 0, 0), (104, .iconst 0, 0, 0, 0, 0, 0, 0), (105, .ireturn, 0, 0, 1, 0, 0, 0), (106, .iinc 6 1, 6, 0, 0, 0, 1, 0), (109, .goto (-64), 28, 0, 0, 0, 0, 0), (112, .iinc 5 1, 5, 0, 0, 0, 1, 0), (115, .goto (-84), 20, 0, 0, 0, 0, 0), (118, .iinc 4 1, 4, 0, 0, 0, 1, 0), (121, .goto (-104), 12, 0, 0, 0, 0, 0), (124, .iconst 1, 0, 0, 0, 0, 1, 0), (125, .ireturn, 0, 0, 1, 0, 0, 0)]
def az_p149 : List az_I := [(0, .aload_n 0, 0, 0, 0, 0, 0, 0), (1, .getfield 41, 6, 12, 1, 0, 0, 0), (4, .iload_n 1, 1, 0, 0, 0, 0, 0), (5, .iaload, 0, 0, 0, 0, 0, 0), (6, .istore_n 3, 3, 0, 0, 0, 0, 0), (7, .iconst 0, 0, 0, 0, 0, 0, 0), (8, .istore 4, 4, 0, 0, 0, 0, 0), (10, .iload 4, 4, 0, 0, 0, 0, 0), (12, .aload_n 0, 0, 0, 0, 0, 0, 0), (13, .getfield 13, 6, 2, 1, 0, 0, 0), (16, .iload_n 3, 3, 0, 0, 0, 0, 0), (17, .iaload, 0, 0, 0, 0, 0, 0), (18, .if_icmp .ge 74, 50, 0, 0, 0, 0, 0), (21, .iconst 0, 0, 0, 0, 0, 0, 0), (22, .istore 5, 5, 0, 0, 0, 0, 0), (24, .iload 5, 5, 0, 0, 0, 0, 0), (26, .aload_n 0, 0, 0, 0, 0, 0, 0), (27, .getfield 7, 6, 1, 1, 0, 0, 0), (30, .aload_n 0, 0, 0, 0, 0, 0, 0), (31, .getfield 38, 6, 11, 1, 0, 0, 0), (34, .iload_n 1, 1, 0, 0, 0, 0, 0), (35, .iaload, 0, 0, 0, 0, 0, 0), (36, .iaload, 0, 0, 0, 0, 0, 0), (37, .if_icmp .ge 49, 48, 0, 0, 0, 0, 0), (40, .aload_n 0, 0, 0, 0, 0, 0, 0), (41, .iload_n 3, 3, 0, 0, 0, 0, 0), (42, .iload 4, 4, 0, 0, 0, 0, 0), (44, .invokevirtual 103, 116, 3, 1, 6, 0, 0), (47, .aload_n 0, 0, 0, 0, 0, 0, 0), (48, .iload_n 1, 1, 0, 0, 0, 0, 0), (49, .iload 5, 5, 0, 0, 0, 0, 0), (51, .invokevirtual 168, 145, 3, 1, 6, 0, 0), (54, .if_icmp .ne 26, 46, 0, 0, 0, 0, 0), (57, .aload_n 0, 0, 0, 0, 0, 0, 0), (58, .iload_n 3, 3, 0, 0, 0, 0, 0), (59, .iload 4, 4, 0, 0, 0, 0, 0), (61, .invokevirtual 99, 117, 3, 1, 6, 0, 0), (64, .iload_n 2, 2, 0, 0, 0, 0, 0), (65, .if_icmp .ne 15, 46, 0, 0, 0, 0, 0), (68, .aload_n 0, 0, 0, 0, 0, 0, 0), (69, .iload_n 3, 3, 0, 0, 0, 0, 0), (70, .iload 4, 4, 0, 0, 0, 0, 0), (72, .invokevirtual 135, 132, 3, 1, 6, 0, 0), (75, .ifCond .eq 5, 46, 0, 0, 0, 0, 0), (78, .iconst 1, 0, 0, 0, 0, 1, 0), (79, .ireturn, 0, 0, 1, 0, 0, 0), (80, .iinc 5 1, 5, 0, 0, 0, 1, 0), (83, .goto (-59), 15, 0, 0, 0, 0, 0), (86, .iinc 4 1, 4, 0, 0, 0, 1, 0), (89, .goto (-79), 7, 0, 0, 0, 0, 0), (92, .iconst 0, 0, 0, 0, 0, 0, 0), (93, .ireturn, 0, 0, 1, 0, 0, 0)]
def az_p150 : List az_I := [(0, .iconst 0, 0, 0, 0, 0, 0, 0), (1, .istore_n 2, 2, 0, 0, 0, 0, 0), (2, .iload_n 2, 2, 0, 0, 0, 0, 0), (3, .aload_n 0, 0, 0, 0, 0, 0, 0), (4, .getfield 7, 6, 1, 1, 0, 0, 0), (7, .aload_n 0, 0, 0, 0, 0, 0, 0), (8, .getfield 41, 6, 12, 1, 0, 0, 0), (11, .iload_n 1, 1, 0, 0, 0, 0, 0), (12, .iaload, 0, 0, 0, 0, 0, 0), (13, .iaload, 0, 0, 0, 0, 0, 0), (14, .if_icmp .ge 20, 20, 0, 0, 0, 0, 0), (17, .aload_n 0, 0, 0, 0, 0, 0, 0), (18, .iload_n 1, 1, 0, 0, 0, 0, 0), (19, .iload_n 2, 2, 0, 0, 0, 0, 0), (20, .invokevirtual 175, 149, 3, 1, 6, 0, 0), (23, .ifCond .ne 5, 18, 0, 0, 0, 0, 0), (26, .iconst 0, 0, 0, 0, 0, 0, 0), (27, .ireturn, 0, 0, 1, 0, 0, 0), (28, .iinc 2 1, 2, 0, 0, 0, 1, 0), (31, .goto (-29), 2, 0, 0, 0, 0, 0), (34, .iconst 1, 0, 0, 0, 0, 1, 0), (35, .ireturn, 0, 0, 1, 0, 0, 0)]
def az_p151 : List az_I := [(0, .aload_n 0, 0, 0, 0, 0, 0, 0), (1, .iload_n 1, 1, 0, 0, 0, 0, 0), (2, .invokevirtual 178, 146, 2, 1, 6, 0, 0), (5, .ifCond .eq 23, 14, 0, 0, 0, 0, 0), (8, .aload_n 0, 0, 0, 0, 0, 0, 0), (9, .iload_n 1, 1, 0, 0, 0, 0, 0), (10, .invokevirtual 181, 148, 2, 1, 6, 0, 0), (13, .ifCond .eq 15, 14, 0, 0, 0, 0, 0), (16, .aload_n 0, 0, 0, 0, 0, 0, 0), (17, .iload_n 1, 1, 0, 0, 0, 0, 0), (18, .invokevirtual 184, 150, 2, 1, 6, 0, 0), (21, .ifCond .eq 7, 14, 0, 0, 0, 0, 0), (24, .iconst 1, 0, 0, 0, 0, 1, 0), (25, .goto 4, 15, 0, 0, 0, 0, 0), (28, .iconst 0, 0, 0, 0, 0, 0, 0), (29, .ireturn, 0, 0, 1, 0, 0, 0)]
def az_p152 : List az_I := [(0, .aload_n 0, 0, 0, 0, 0, 0, 0), (1, .iload_n 1, 1, 0, 0, 0, 0, 0), (2, .invokevirtual 165, 136, 2, 1, 6, 0, 0), (5, .ifCond .eq 12, 9, 0, 0, 0, 0, 0), (8, .iload_n 2, 2, 0, 0, 0, 0, 0), (9, .iconst 0, 0, 0, 0, 0, 0, 0), (10, .iconst 4, 0, 0, 0, 0, 4, 0), (11, .invokestatic 87, 111, 3, 1, 0, 0, 0), (14, .ifCond .ne 6, 11, 0, 0, 0, 0, 0), (17, .bipush (-2), 0, 0, 0, 0, (-2), 0), (19, .ireturn, 0, 0, 0, 0, 0, 0), (20, .iload_n 2, 2, 0, 0, 0, 0, 0), (21, .tableswitch 73 0 3 #[31, 38, 45, 59], 0, 0, 0, 0, 0, 0), (52, .aload_n 0, 0, 0, 0, 0, 0, 0), (53, .getfield 38, 6, 11, 1, 0, 0, 0), (56, .iload_n 1, 1, 0, 0, 0, 0, 0), (57, .iaload, 0, 0, 0, 0, 0, 0), (58, .ireturn, 0, 0, 0, 0, 0, 0), (59, .aload_n 0, 0, 0, 0, 0, 0, 0), (60, .getfield 41, 6, 12, 1, 0, 0, 0), (63, .iload_n 1, 1, 0, 0, 0, 0, 0), (64, .iaload, 0, 0, 0, 0, 0, 0), (65, .ireturn, 0, 0, 0, 0, 0, 0), (66, .aload_n 0, 0, 0, 0, 0, 0, 0), (67, .iload_n 1, 1, 0, 0, 0, 0, 0), (68, .invokevirtual 178, 146, 2, 1, 6, 0, 0), (71, .ifCond .eq 7, 29, 0, 0, 0, 0, 0), (74, .iconst 1, 0, 0, 0, 0, 1, 0), (75, .goto 4, 30, 0, 0, 0, 0, 0), (78, .iconst 0, 0, 0, 0, 0, 0, 0), (79, .ireturn, 0, 0, 0, 0, 0, 0), (80, .aload_n 0, 0, 0, 0, 0, 0, 0), (81, .iload_n 1, 1, 0, 0, 0, 0, 0), (82, .invokevirtual 181, 148, 2, 1, 6, 0, 0), (85, .ifCond .eq 7, 37, 0, 0, 0, 0, 0), (88, .iconst 1, 0, 0, 0, 0, 1, 0), (89, .goto 4, 38, 0, 0, 0, 0, 0), (92, .iconst 0, 0, 0, 0, 0, 0, 0), (93, .ireturn, 0, 0, 0, 0, 0, 0), (94, .aload_n 0, 0, 0, 0, 0, 0, 0), (95, .iload_n 1, 1, 0, 0, 0, 0, 0), (96, .invokevirtual 184, 150, 2, 1, 6, 0, 0), (99, .ifCond .eq 7, 45, 0, 0, 0, 0, 0), (102, .iconst 1, 0, 0, 0, 0, 1, 0), (103, .goto 4, 46, 0, 0, 0, 0, 0), (106, .iconst 0, 0, 0, 0, 0, 0, 0), (107, .ireturn, 0, 0, 0, 0, 0, 0)]
def az_p153 : List az_I := [(0, .aload_n 0, 0, 0, 0, 0, 0, 0), (1, .iload_n 1, 1, 0, 0, 0, 0, 0), (2, .invokevirtual 165, 136, 2, 1, 6, 0, 0), (5, .ifCond .eq 26, 17, 0, 0, 0, 0, 0), (8, .aload_n 0, 0, 0, 0, 0, 0, 0), (9, .aload_n 0, 0, 0, 0, 0, 0, 0), (10, .getfield 38, 6, 11, 1, 0, 0, 0), (13, .iload_n 1, 1, 0, 0, 0, 0, 0), (14, .iaload, 0, 0, 0, 0, 0, 0), (15, .iload_n 2, 2, 0, 0, 0, 0, 0), (16, .invokevirtual 110, 113, 3, 1, 6, 0, 0), (19, .ifCond .eq 12, 17, 0, 0, 0, 0, 0), (22, .aload_n 0, 0, 0, 0, 0, 0, 0), (23, .iload_n 1, 1, 0, 0, 0, 0, 0), (24, .iload_n 2, 2, 0, 0, 0, 0, 0), (25, .invokevirtual 168, 145, 3, 1, 6, 0, 0), (28, .goto 5, 18, 0, 0, 0, 0, 0), (31, .bipush (-2), 0, 0, 0, 0, (-2), 0), (33, .ireturn, 0, 0, 0, 0, 0, 0)]
def az_p154 : List az_I := [(0, .aload_n 0, 0, 0, 0, 0, 0, 0), (1, .iload_n 1, 1, 0, 0, 0, 0, 0), (2, .invokevirtual 91, 112, 2, 1, 6, 0, 0), (5, .ifCond .eq 11, 8, 0, 0, 0, 0, 0), (8, .aload_n 0, 0, 0, 0, 0, 0, 0), (9, .iload_n 2, 2, 0, 0, 0, 0, 0), (10, .invokevirtual 91, 112, 2, 1, 6, 0, 0), (13, .ifCond .ne 6, 10, 0, 0, 0, 0, 0), (16, .bipush (-2), 0, 0, 0, 0, (-2), 0), (18, .ireturn, 0, 0, 0, 0, 0, 0), (19, .aload_n 0, 0, 0, 0, 0, 0, 0), (20, .getfield 16, 6, 3, 1, 0, 0, 0), (23, .iload_n 1, 1, 0, 0, 0, 0, 0), (24, .baload, 0, 0, 0, 0, 0, 0), (25, .ifCond .eq 12, 20, 0, 0, 0, 0, 0), (28, .aload_n 0, 0, 0, 0, 0, 0, 0), (29, .getfield 16, 6, 3, 1, 0, 0, 0), (32, .iload_n 2, 2, 0, 0, 0, 0, 0), (33, .baload, 0, 0, 0, 0, 0, 0), (34, .ifCond .ne 6, 22, 0, 0, 0, 0, 0), (37, .bipush (-3), 0, 0, 0, 0, (-3), 0), (39, .ireturn, 0, 0, 0, 0, 0, 0), (40, .aload_n 0, 0, 0, 0, 0, 0, 0), (41, .iload_n 1, 1, 0, 0, 0, 0, 0), (42, .iload_n 2, 2, 0, 0, 0, 0, 0), (43, .bipush (-2), 0, 0, 0, 0, (-2), 0), (45, .iconst 1, 0, 0, 0, 0, 1, 0), (46, .invokevirtual 157, 140, 5, 1, 6, 0, 0), (49, .istore_n 3, 3, 0, 0, 0, 0, 0), (50, .iload_n 3, 3, 0, 0, 0, 0, 0), (51, .bipush (-5), 0, 0, 0, 0, (-5), 0), (53, .if_icmp .ne 8, 34, 0, 0, 0, 0, 0), (56, .bipush (-5), 0, 0, 0, 0, (-5), 0), (58, .goto 12, 39, 0, 0, 0, 0, 0), (61, .iload_n 3, 3, 0, 0, 0, 0, 0), (62, .ifCond .le 7, 38, 0, 0, 0, 0, 0), (65, .iconst 1, 0, 0, 0, 0, 1, 0), (66, .goto 4, 39, 0, 0, 0, 0, 0), (69, .iconst 0, 0, 0, 0, 0, 0, 0), (70, .ireturn, 0, 0, 0, 0, 0, 0)]
def az_p155 : List az_I := [(0, .iload_n 3, 3, 0, 0, 0, 0, 0), (1, .iconst 1, 0, 0, 0, 0, 1, 0), (2, .iadd, 0, 0, 0, 0, 0, 0), (3, .istore 4, 4, 0, 0, 0, 0, 0), (5, .iload 4, 4, 0, 0, 0, 0, 0), (7, .aload_n 0, 0, 0, 0, 0, 0, 0), (8, .getfield 13, 6, 2, 1, 0, 0, 0), (11, .iload_n 1, 1, 0, 0, 0, 0, 0), (12, .iaload, 0, 0, 0, 0, 0, 0), (13, .if_icmp .ge 41, 30, 0, 0, 0, 0, 0), (16, .aload_n 0, 0, 0, 0, 0, 0, 0), (17, .iload_n 1, 1, 0, 0, 0, 0, 0), (18, .iload 4, 4, 0, 0, 0, 0, 0), (20, .invokevirtual 103, 116, 3, 1, 6, 0, 0), (23, .aload_n 0, 0, 0, 0, 0, 0, 0), (24, .getfield 56, 6, 18, 1, 0, 0, 0), (27, .iload_n 2, 2, 0, 0, 0, 0, 0), (28, .iaload, 0, 0, 0, 0, 0, 0), (29, .if_icmp .ne 19, 28, 0, 0, 0, 0, 0), (32, .aload_n 0, 0, 0, 0, 0, 0, 0), (33, .iload_n 1, 1, 0, 0, 0, 0, 0), (34, .iload 4, 4, 0, 0, 0, 0, 0), (36, .invokevirtual 99, 117, 3, 1, 6, 0, 0), (39, .aload_n 0, 0, 0, 0, 0, 0, 0), (40, .getfield 59, 6, 19, 1, 0, 0, 0), (43, .iload_n 2, 2, 0, 0, 0, 0, 0), (44, .iaload, 0, 0, 0, 0, 0, 0), (45, .if_icmp .eq 9, 30, 0, 0, 0, 0, 0), (48, .iinc 4 1, 4, 0, 0, 0, 1, 0), (51, .goto (-46), 4, 0, 0, 0, 0, 0), (54, .iload 4, 4, 0, 0, 0, 0, 0), (56, .aload_n 0, 0, 0, 0, 0, 0, 0), (57, .getfield 13, 6, 2, 1, 0, 0, 0), (60, .iload_n 1, 1, 0, 0, 0, 0, 0), (61, .iaload, 0, 0, 0, 0, 0, 0), (62, .if_icmp .ge 8, 38, 0, 0, 0, 0, 0), (65, .iload 4, 4, 0, 0, 0, 0, 0), (67, .goto 4, 39, 0, 0, 0, 0, 0), (70, .iconst (-1), 0, 0, 0, 0, (-1), 0), (71, .ireturn, 0, 0, 0, 0, 0, 0)]
def az_p156 : List az_I := [(0, .lconst 1, 0, 0, 0, 0, 0, 1), (1, .lstore_n 3, 3, 0, 0, 0, 0, 0), (2, .iconst 0, 0, 0, 0, 0, 0, 0), (3, .istore 5, 5, 0, 0, 0, 0, 0), (5, .iload 5, 5, 0, 0, 0, 0, 0), (7, .iload_n 2, 2, 0, 0, 0, 0, 0), (8, .if_icmp .ge 53, 35, 0, 0, 0, 0, 0), (11, .lconst 0, 0, 0, 0, 0, 0, 0), (12, .lstore 6, 6, 0, 0, 0, 0, 0), (14, .aload_n 0, 0, 0, 0, 0, 0, 0), (15, .iload_n 1, 1, 0, 0, 0, 0, 0), (16, .iload 5, 5, 0, 0, 0, 0, 0), (18, .iconst (-1), 0, 0, 0, 0, (-1), 0), (19, .invokevirtual 187, 155, 4, 1, 6, 0, 0), (22, .istore 8, 8, 0, 0, 0, 0, 0), (24, .iload 8, 8, 0, 0, 0, 0, 0), (26, .iconst (-1), 0, 0, 0, 0, (-1), 0), (27, .if_icmp .eq 23, 29, 0, 0, 0, 0, 0), (30, .lload 6, 6, 0, 0, 0, 0, 0), (32, .lconst 1, 0, 0, 0, 0, 0, 1), (33, .ladd, 0, 0, 0, 0, 0, 0), (34, .lstore 6, 6, 0, 0, 0, 0, 0), (36, .aload_n 0, 0, 0, 0, 0, 0, 0), (37, .iload_n 1, 1, 0, 0, 0, 0, 0), (38, .iload 5, 5, 0, 0, 0, 0, 0), (40, .iload 8, 8, 0, 0, 0, 0, 0), (42, .invokevirtual 187, 155, 4, 1, 6, 0, 0), (45, .istore 8, 8, 0, 0, 0, 0, 0), (47, .goto (-23), 15, 0, 0, 0, 0, 0), (50, .lload_n 3, 3, 0, 0, 0, 0, 0), (51, .lload 6, 6, 0, 0, 0, 0, 0), (53, .lmul, 0, 0, 0, 0, 0, 0), (54, .lstore_n 3, 3, 0, 0, 0, 0, 0), (55, .iinc 5 1, 5, 0, 0, 0, 1, 0), (58, .goto (-53), 4, 0, 0, 0, 0, 0), (61, .lload_n 3, 3, 0, 0, 0, 0, 0), (62, .lreturn, 0, 0, 0, 0, 0, 0)]
def az_p157 : List az_I := [(0, .iconst 0, 0, 0, 0, 0, 0, 0), (1, .istore_n 3, 3, 0, 0, 0, 0, 0), (2, .iload_n 3, 3, 0, 0, 0, 0, 0), (3, .iload_n 2, 2, 0, 0, 0, 0, 0), (4, .if_icmp .ge 34, 24, 0, 0, 0, 0, 0), (7, .aload_n 0, 0, 0, 0, 0, 0, 0), (8, .getfield 62, 6, 20, 1, 0, 0, 0), (11, .iload_n 3, 3, 0, 0, 0, 0, 0), (12, .aload_n 0, 0, 0, 0, 0, 0, 0), (13, .iload_n 1, 1, 0, 0, 0, 0, 0), (14, .iload_n 3, 3, 0, 0, 0, 0, 0), (15, .iconst (-1), 0, 0, 0, 0, (-1), 0), (16, .invokevirtual 187, 155, 4, 1, 6, 0, 0), (19, .iastore, 0, 0, 0, 0, 0, 0), (20, .aload_n 0, 0, 0, 0, 0, 0, 0), (21, .getfield 62, 6, 20, 1, 0, 0, 0), (24, .iload_n 3, 3, 0, 0, 0, 0, 0), (25, .iaload, 0, 0, 0, 0, 0, 0), (26, .iconst (-1), 0, 0, 0, 0, (-1), 0), (27, .if_icmp .ne 5, 22, 0, 0, 0, 0, 0), (30, .iconst 0, 0, 0, 0, 0, 0, 0), (31, .ireturn, 0, 0, 1, 0, 0, 0), (32, .iinc 3 1, 3, 0, 0, 0, 1, 0), (35, .goto (-33), 2, 0, 0, 0, 0, 0), (38, .iconst 1, 0, 0, 0, 0, 1, 0), (39, .ireturn, 0, 0, 1, 0, 0, 0)]
def az_p158 : List az_I := [(0, .iload_n 2, 2, 0, 0, 0, 0, 0), (1, .iconst 1, 0, 0, 0, 0, 1, 0), (2, .isub, 0, 0, 0, 0, 0, 0), (3, .istore_n 3, 3, 0, 0, 0, 0, 0), (4, .iload_n 3, 3, 0, 0, 0, 0, 0), (5, .ifCond .lt 38, 27, 0, 0, 0, 0, 0), (8, .aload_n 0, 0, 0, 0, 0, 0, 0), (9, .iload_n 1, 1, 0, 0, 0, 0, 0), (10, .iload_n 3, 3, 0, 0, 0, 0, 0), (11, .aload_n 0, 0, 0, 0, 0, 0, 0), (12, .getfield 62, 6, 20, 1, 0, 0, 0), (15, .iload_n 3, 3, 0, 0, 0, 0, 0), (16, .iaload, 0, 0, 0, 0, 0, 0), (17, .invokevirtual 187, 155, 4, 1, 6, 0, 0), (20, .iconst (-1), 0, 0, 0, 0, (-1), 0), (21, .if_icmp .ne 22, 27, 0, 0, 0, 0, 0), (24, .aload_n 0, 0, 0, 0, 0, 0, 0), (25, .getfield 62, 6, 20, 1, 0, 0, 0), (28, .iload_n 3, 3, 0, 0, 0, 0, 0), (29, .aload_n 0, 0, 0, 0, 0, 0, 0), (30, .iload_n 1, 1, 0, 0, 0, 0, 0), (31, .iload_n 3, 3, 0, 0, 0, 0, 0), (32, .iconst (-1), 0, 0, 0, 0, (-1), 0), (33, .invokevirtual 187, 155, 4, 1, 6, 0, 0), (36, .iastore, 0, 0, 0, 0, 0, 0), (37, .iinc 3 (-1), 3, 0, 0, 0, (-1), 0), (40, .goto (-36), 4, 0, 0, 0, 0, 0), (43, .iload_n 3, 3, 0, 0, 0, 0, 0), (44, .ifCond .ge 5, 31, 0, 0, 0, 0, 0), (47, .iconst 0, 0, 0, 0, 0, 0, 0), (48, .ireturn, 0, 0, 1, 0, 0, 0), (49, .aload_n 0, 0, 0, 0, 0, 0, 0), (50, .getfield 62, 6, 20, 1, 0, 0, 0), (53, .iload_n 3, 3, 0, 0, 0, 0, 0), (54, .aload_n 0, 0, 0, 0, 0, 0, 0), (55, .iload_n 1, 1, 0, 0, 0, 0, 0), (56, .iload_n 3, 3, 0, 0, 0, 0, 0), (57, .aload_n 0, 0, 0, 0, 0, 0, 0), (58, .getfield 62, 6, 20, 1, 0, 0, 0), (61, .iload_n 3, 3, 0, 0, 0, 0, 0), (62, .iaload, 0, 0, 0, 0, 0, 0), (63, .invokevirtual 187, 155, 4, 1, 6, 0, 0), (66, .iastore, 0, 0, 0, 0, 0, 0), (67, .iconst 1, 0, 0, 0, 0, 1, 0), (68, .ireturn, 0, 0, 1, 0, 0, 0)]
def az_p159 : List az_I := [(0, .iconst 0, 0, 0, 0, 0, 0, 0), (1, .istore_n 3, 3, 0, 0, 0, 0, 0), (2, .iload_n 3, 3, 0, 0, 0, 0, 0), (3, .aload_n 0, 0, 0, 0, 0, 0, 0), (4, .getfield 7, 6, 1, 1, 0, 0, 0), (7, .aload_n 0, 0, 0, 0, 0, 0, 0), (8, .getfield 38, 6, 11, 1, 0, 0, 0), (11, .iload_n 1, 1, 0, 0, 0, 0, 0), (12, .iaload, 0, 0, 0, 0, 0, 0), (13, .iaload, 0, 0, 0, 0, 0, 0), (14, .if_icmp .ge 33, 29, 0, 0, 0, 0, 0), (17, .aload_n 0, 0, 0, 0, 0, 0, 0), (18, .getfield 56, 6, 18, 1, 0, 0, 0), (21, .iload_n 3, 3, 0, 0, 0, 0, 0), (22, .aload_n 0, 0, 0, 0, 0, 0, 0), (23, .iload_n 1, 1, 0, 0, 0, 0, 0), (24, .iload_n 3, 3, 0, 0, 0, 0, 0), (25, .invokevirtual 168, 145, 3, 1, 6, 0, 0), (28, .iastore, 0, 0, 0, 0, 0, 0), (29, .aload_n 0, 0, 0, 0, 0, 0, 0), (30, .getfield 59, 6, 19, 1, 0, 0, 0), (33, .iload_n 3, 3, 0, 0, 0, 0, 0), (34, .aload_n 0, 0, 0, 0, 0, 0, 0), (35, .iload_n 2, 2, 0, 0, 0, 0, 0), (36, .iload_n 3, 3, 0, 0, 0, 0, 0), (37, .invokevirtual 168, 145, 3, 1, 6, 0, 0), (40, .iastore, 0, 0, 0, 0, 0, 0), (41, .iinc 3 1, 3, 0, 0, 0, 1, 0), (44, .goto (-42), 2, 0, 0, 0, 0, 0), (47, .return_, 0, 0, 0, 0, 0, 0)]
def az_p160 : List az_I := [(0, .aload_n 0, 0, 0, 0, 0, 0, 0), (1, .getfield 38, 6, 11, 1, 0, 0, 0), (4, .iload_n 1, 1, 0, 0, 0, 0, 0), (5, .iaload, 0, 0, 0, 0, 0, 0), (6, .istore_n 3, 3, 0, 0, 0, 0, 0), (7, .aload_n 0, 0, 0, 0, 0, 0, 0), (8, .getfield 41, 6, 12, 1, 0, 0, 0), (11, .iload_n 1, 1, 0, 0, 0, 0, 0), (12, .iaload, 0, 0, 0, 0, 0, 0), (13, .istore 4, 4, 0, 0, 0, 0, 0), (15, .iconst 0, 0, 0, 0, 0, 0, 0), (16, .istore 5, 5, 0, 0, 0, 0, 0), (18, .iload 5, 5, 0, 0, 0, 0, 0), (20, .aload_n 0, 0, 0, 0, 0, 0, 0), (21, .getfield 13, 6, 2, 1, 0, 0, 0), (24, .iload_n 3, 3, 0, 0, 0, 0, 0), (25, .iaload, 0, 0, 0, 0, 0, 0), (26, .if_icmp .ge 64, 51, 0, 0, 0, 0, 0), (29, .aload_n 0, 0, 0, 0, 0, 0, 0), (30, .iload 4, 4, 0, 0, 0, 0, 0), (32, .aload_n 0, 0, 0, 0, 0, 0, 0), (33, .iload_n 1, 1, 0, 0, 0, 0, 0), (34, .iload 5, 5, 0, 0, 0, 0, 0), (36, .invokevirtual 168, 145, 3, 1, 6, 0, 0), (39, .aload_n 0, 0, 0, 0, 0, 0, 0), (40, .getfield 62, 6, 20, 1, 0, 0, 0), (43, .aload_n 0, 0, 0, 0, 0, 0, 0), (44, .iload_n 3, 3, 0, 0, 0, 0, 0), (45, .iload 5, 5, 0, 0, 0, 0, 0), (47, .invokevirtual 99, 117, 3, 1, 6, 0, 0), (50, .iaload, 0, 0, 0, 0, 0, 0), (51, .invokevirtual 118, 118, 4, 1, 6, 0, 0), (54, .aload_n 0, 0, 0, 0, 0, 0, 0), (55, .iload 4, 4, 0, 0, 0, 0, 0), (57, .aload_n 0, 0, 0, 0, 0, 0, 0), (58, .getfield 62, 6, 20, 1, 0, 0, 0), (61, .aload_n 0, 0, 0, 0, 0, 0, 0), (62, .iload_n 3, 3, 0, 0, 0, 0, 0), (63, .iload 5, 5, 0, 0, 0, 0, 0), (65, .invokevirtual 103, 116, 3, 1, 6, 0, 0), (68, .iaload, 0, 0, 0, 0, 0, 0), (69, .aload_n 0, 0, 0, 0, 0, 0, 0), (70, .iload_n 2, 2, 0, 0, 0, 0, 0), (71, .iload 5, 5, 0, 0, 0, 0, 0), (73, .invokevirtual 168, 145, 3, 1, 6, 0, 0), (76, .invokevirtual 118, 118, 4, 1, 6, 0, 0), (79, .if_icmp .eq 5, 49, 0, 0, 0, 0, 0), (82, .iconst 0, 0, 0, 0, 0, 0, 0), (83, .ireturn, 0, 0, 1, 0, 0, 0), (84, .iinc 5 1, 5, 0, 0, 0, 1, 0), (87, .goto (-69), 12, 0, 0, 0, 0, 0), (90, .iconst 1, 0, 0, 0, 0, 1, 0), (91, .ireturn, 0, 0, 1, 0, 0, 0)]
def az_p161 : List az_I := [(0, .aload_n 0, 0, 0, 0, 0, 0, 0), (1, .getfield 41, 6, 12, 1, 0, 0, 0), (4, .iload_n 1, 1, 0, 0, 0, 0, 0), (5, .iaload, 0, 0, 0, 0, 0, 0), (6, .istore 4, 4, 0, 0, 0, 0, 0), (8, .aload_n 0, 0, 0, 0, 0, 0, 0), (9, .getfield 7, 6, 1, 1, 0, 0, 0), (12, .aload_n 0, 0, 0, 0, 0, 0, 0), (13, .getfield 38, 6, 11, 1, 0, 0, 0), (16, .iload_n 1, 1, 0, 0, 0, 0, 0), (17, .iaload, 0, 0, 0, 0, 0, 0), (18, .iaload, 0, 0, 0, 0, 0, 0), (19, .istore 5, 5, 0, 0, 0, 0, 0), (21, .iconst 0, 0, 0, 0, 0, 0, 0), (22, .istore 6, 6, 0, 0, 0, 0, 0), (24, .aload_n 0, 0, 0, 0, 0, 0, 0), (25, .iload_n 1, 1, 0, 0, 0, 0, 0), (26, .iload_n 2, 2, 0, 0, 0, 0, 0), (27, .invokevirtual 190, 159, 3, 0, 6, 0, 0), (30, .aload_n 0, 0, 0, 0, 0, 0, 0), (31, .iload 4, 4, 0, 0, 0, 0, 0), (33, .iload 5, 5, 0, 0, 0, 0, 0), (35, .invokevirtual 194, 157, 3, 1, 6, 0, 0), (38, .istore 7, 7, 0, 0, 0, 0, 0), (40, .iload 7, 7, 0, 0, 0, 0, 0), (42, .ifCond .eq 46, 50, 0, 0, 0, 0, 0), (45, .iload 6, 6, 0, 0, 0, 0, 0), (47, .aload_n 0, 0, 0, 0, 0, 0, 0), (48, .iload_n 1, 1, 0, 0, 0, 0, 0), (49, .iload_n 2, 2, 0, 0, 0, 0, 0), (50, .invokevirtual 197, 160, 3, 1, 6, 0, 0), (53, .ifCond .eq 7, 34, 0, 0, 0, 0, 0), (56, .iconst 1, 0, 0, 0, 0, 1, 0), (57, .goto 4, 35, 0, 0, 0, 0, 0), (60, .iconst 0, 0, 0, 0, 0, 0, 0), (61, .iadd, 0, 0, 0, 0, 0, 0), (62, .istore 6, 6, 0, 0, 0, 0, 0), (64, .iload 6, 6, 0, 0, 0, 0, 0), (66, .iload_n 3, 3, 0, 0, 0, 0, 0), (67, .iconst 1, 0, 0, 0, 0, 1, 0), (68, .iadd, 0, 0, 0, 0, 0, 0), (69, .if_icmp .ne 6, 44, 0, 0, 0, 0, 0), (72, .iload 6, 6, 0, 0, 0, 0, 0), (74, .ireturn, 0, 0, 0, 0, 0, 0), (75, .aload_n 0, 0, 0, 0, 0, 0, 0), (76, .iload 4, 4, 0, 0, 0, 0, 0), (78, .iload 5, 5, 0, 0, 0, 0, 0), (80, .invokevirtual 200, 158, 3, 1, 6, 0, 0), (83, .istore 7, 7, 0, 0, 0, 0, 0), (85, .goto (-45), 24, 0, 0, 0, 0, 0), (88, .iload 6, 6, 0, 0, 0, 0, 0), (90, .ireturn, 0, 0, 0, 0, 0, 0)]
def az_p162 : List az_I := [(0, .aload_n 0, 0, 0, 0, 0, 0, 0), (1, .getfield 38, 6, 11, 1, 0, 0, 0), (4, .iload_n 1, 1, 0, 0, 0, 0, 0), (5, .iaload, 0, 0, 0, 0, 0, 0), (6, .aload_n 0, 0, 0, 0, 0, 0, 0), (7, .getfield 38, 6, 11, 1, 0, 0, 0), (10, .iload_n 2, 2, 0, 0, 0, 0, 0), (11, .iaload, 0, 0, 0, 0, 0, 0), (12, .if_icmp .ne 18, 18, 0, 0, 0, 0, 0), (15, .aload_n 0, 0, 0, 0, 0, 0, 0), (16, .getfield 41, 6, 12, 1, 0, 0, 0), (19, .iload_n 1, 1, 0, 0, 0, 0, 0), (20, .iaload, 0, 0, 0, 0, 0, 0), (21, .aload_n 0, 0, 0, 0, 0, 0, 0), (22, .getfield 41, 6, 12, 1, 0, 0, 0), (25, .iload_n 2, 2, 0, 0, 0, 0, 0), (26, .iaload, 0, 0, 0, 0, 0, 0), (27, .if_icmp .eq 6, 20, 0, 0, 0, 0, 0), (30, .bipush (-3), 0, 0, 0, 0, (-3), 0), (32, .ireturn, 0, 0, 0, 0, 0, 0), (33, .aload_n 0, 0, 0, 0, 0, 0, 0), (34, .iload_n 1, 1, 0, 0, 0, 0, 0), (35, .iload_n 2, 2, 0, 0, 0, 0, 0), (36, .invokevirtual 190, 159, 3, 0, 6, 0, 0), (39, .aload_n 0, 0, 0, 0, 0, 0, 0), (40, .aload_n 0, 0, 0, 0, 0, 0, 0), (41, .getfield 41, 6, 12, 1, 0, 0, 0), (44, .iload_n 1, 1, 0, 0, 0, 0, 0), (45, .iaload, 0, 0, 0, 0, 0, 0), (46, .aload_n 0, 0, 0, 0, 0, 0, 0), (47, .getfield 7, 6, 1, 1, 0, 0, 0), (50, .aload_n 0, 0, 0, 0, 0, 0, 0), (51, .getfield 38, 6, 11, 1, 0, 0, 0), (54, .iload_n 1, 1, 0, 0, 0, 0, 0), (55, .iaload, 0, 0, 0, 0, 0, 0), (56, .iaload, 0, 0, 0, 0, 0, 0), (57, .invokevirtual 203, 156, 3, 2, 6, 0, 0), (60, .ldc2_w 207, 0, 0, 0, 0, 0, 5000), (63, .lcmp, 0, 0, 0, 0, 0, 0), (64, .ifCond .le 8, 42, 0, 0, 0, 0, 0), (67, .bipush (-5), 0, 0, 0, 0, (-5), 0), (69, .goto 4, 43, 0, 0, 0, 0, 0), (72, .iconst 0, 0, 0, 0, 0, 0, 0), (73, .ireturn, 0, 0, 0, 0, 0, 0)]
def az_p163 : List az_I := [(0, .aload_n 0, 0, 0, 0, 0, 0, 0), (1, .iload_n 1, 1, 0, 0, 0, 0, 0), (2, .invokevirtual 165, 136, 2, 1, 6, 0, 0), (5, .ifCond .eq 11, 8, 0, 0, 0, 0, 0), (8, .aload_n 0, 0, 0, 0, 0, 0, 0), (9, .iload_n 2, 2, 0, 0, 0, 0, 0), (10, .invokevirtual 165, 136, 2, 1, 6, 0, 0), (13, .ifCond .ne 6, 10, 0, 0, 0, 0, 0), (16, .bipush (-2), 0, 0, 0, 0, (-2), 0), (18, .ireturn, 0, 0, 0, 0, 0, 0), (19, .aload_n 0, 0, 0, 0, 0, 0, 0), (20, .iload_n 1, 1, 0, 0, 0, 0, 0), (21, .iload_n 2, 2, 0, 0, 0, 0, 0), (22, .invokevirtual 209, 162, 3, 1, 6, 0, 0), (25, .istore_n 3, 3, 0, 0, 0, 0, 0), (26, .iload_n 3, 3, 0, 0, 0, 0, 0), (27, .ifCond .eq 7, 19, 0, 0, 0, 0, 0), (30, .iload_n 3, 3, 0, 0, 0, 0, 0), (31, .goto 11, 24, 0, 0, 0, 0, 0), (34, .aload_n 0, 0, 0, 0, 0, 0, 0), (35, .iload_n 1, 1, 0, 0, 0, 0, 0), (36, .iload_n 2, 2, 0, 0, 0, 0, 0), (37, .bipush (-2), 0, 0, 0, 0, (-2), 0), (39, .invokevirtual 212, 161, 4, 1, 6, 0, 0), (42, .ireturn, 0, 0, 0, 0, 0, 0)]
def az_p164 : List az_I := [(0, .aload_n 0, 0, 0, 0, 0, 0, 0), (1, .iload_n 1, 1, 0, 0, 0, 0, 0), (2, .invokevirtual 165, 136, 2, 1, 6, 0, 0), (5, .ifCond .eq 37, 23, 0, 0, 0, 0, 0), (8, .aload_n 0, 0, 0, 0, 0, 0, 0), (9, .iload_n 2, 2, 0, 0, 0, 0, 0), (10, .invokevirtual 165, 136, 2, 1, 6, 0, 0), (13, .ifCond .eq 29, 23, 0, 0, 0, 0, 0), (16, .iload_n 3, 3, 0, 0, 0, 0, 0), (17, .ifCond .lt 25, 23, 0, 0, 0, 0, 0), (20, .iload 4, 4, 0, 0, 0, 0, 0), (22, .iconst 0, 0, 0, 0, 0, 0, 0), (23, .aload_n 0, 0, 0, 0, 0, 0, 0), (24, .getfield 7, 6, 1, 1, 0, 0, 0), (27, .aload_n 0, 0, 0, 0, 0, 0, 0), (28, .getfield 38, 6, 11, 1, 0, 0, 0), (31, .iload_n 1, 1, 0, 0, 0, 0, 0), (32, .iaload, 0, 0, 0, 0, 0, 0), (33, .iaload, 0, 0, 0, 0, 0, 0), (34, .iconst 1, 0, 0, 0, 0, 1, 0), (35, .isub, 0, 0, 0, 0, 0, 0), (36, .invokestatic 87, 111, 3, 1, 0, 0, 0), (39, .ifCond .ne 6, 25, 0, 0, 0, 0, 0), (42, .bipush (-2), 0, 0, 0, 0, (-2), 0), (44, .ireturn, 0, 0, 0, 0, 0, 0), (45, .aload_n 0, 0, 0, 0, 0, 0, 0), (46, .iload_n 1, 1, 0, 0, 0, 0, 0), (47, .iload_n 2, 2, 0, 0, 0, 0, 0), (48, .invokevirtual 209, 162, 3, 1, 6, 0, 0), (51, .istore 5, 5, 0, 0, 0, 0, 0), (53, .iload 5, 5, 0, 0, 0, 0, 0), (55, .ifCond .eq 6, 34, 0, 0, 0, 0, 0), (58, .iload 5, 5, 0, 0, 0, 0, 0), (60, .ireturn, 0, 0, 0, 0, 0, 0), (61, .aload_n 0, 0, 0, 0, 0, 0, 0), (62, .iload_n 1, 1, 0, 0, 0, 0, 0), (63, .iload_n 2, 2, 0, 0, 0, 0, 0), (64, .iload_n 3, 3, 0, 0, 0, 0, 0), (65, .invokevirtual 212, 161, 4, 1, 6, 0, 0), (68, .iload_n 3, 3, 0, 0, 0, 0, 0), (69, .iconst 1, 0, 0, 0, 0, 1, 0), (70, .iadd, 0, 0, 0, 0, 0, 0), (71, .if_icmp .ne 13, 48, 0, 0, 0, 0, 0), (74, .aload_n 0, 0, 0, 0, 0, 0, 0), (75, .getfield 62, 6, 20, 1, 0, 0, 0), (78, .iload 4, 4, 0, 0, 0, 0, 0), (80, .iaload, 0, 0, 0, 0, 0, 0), (81, .goto 4, 49, 0, 0, 0, 0, 0), (84, .iconst (-1), 0, 0, 0, 0, (-1), 0), (85, .ireturn, 0, 0, 0, 0, 0, 0)]
def az_p165 : List az_I := [(0, .iconst 0, 0, 0, 0, 0, 0, 0), (1, .istore_n 3, 3, 0, 0, 0, 0, 0), (2, .iload_n 3, 3, 0, 0, 0, 0, 0), (3, .aload_n 0, 0, 0, 0, 0, 0, 0), (4, .getfield 7, 6, 1, 1, 0, 0, 0), (7, .aload_n 0, 0, 0, 0, 0, 0, 0), (8, .getfield 38, 6, 11, 1, 0, 0, 0), (11, .iload_n 1, 1, 0, 0, 0, 0, 0), (12, .iaload, 0, 0, 0, 0, 0, 0), (13, .iaload, 0, 0, 0, 0, 0, 0), (14, .if_icmp .ge 28, 26, 0, 0, 0, 0, 0), (17, .aload_n 0, 0, 0, 0, 0, 0, 0), (18, .getfield 56, 6, 18, 1, 0, 0, 0), (21, .iload_n 3, 3, 0, 0, 0, 0, 0), (22, .iload_n 2, 2, 0, 0, 0, 0, 0), (23, .iastore, 0, 0, 0, 0, 0, 0), (24, .aload_n 0, 0, 0, 0, 0, 0, 0), (25, .getfield 59, 6, 19, 1, 0, 0, 0), (28, .iload_n 3, 3, 0, 0, 0, 0, 0), (29, .aload_n 0, 0, 0, 0, 0, 0, 0), (30, .iload_n 1, 1, 0, 0, 0, 0, 0), (31, .iload_n 3, 3, 0, 0, 0, 0, 0), (32, .invokevirtual 168, 145, 3, 1, 6, 0, 0), (35, .iastore, 0, 0, 0, 0, 0, 0), (36, .iinc 3 1, 3, 0, 0, 0, 1, 0), (39, .goto (-37), 2, 0, 0, 0, 0, 0), (42, .return_, 0, 0, 0, 0, 0, 0)]
def az_p166 : List az_I := [(0, .aload_n 0, 0, 0, 0, 0, 0, 0), (1, .getfield 38, 6, 11, 1, 0, 0, 0), (4, .iload_n 1, 1, 0, 0, 0, 0, 0), (5, .iaload, 0, 0, 0, 0, 0, 0), (6, .istore_n 2, 2, 0, 0, 0, 0, 0), (7, .iconst 0, 0, 0, 0, 0, 0, 0), (8, .istore_n 3, 3, 0, 0, 0, 0, 0), (9, .iload_n 3, 3, 0, 0, 0, 0, 0), (10, .aload_n 0, 0, 0, 0, 0, 0, 0), (11, .getfield 13, 6, 2, 1, 0, 0, 0), (14, .iload_n 2, 2, 0, 0, 0, 0, 0), (15, .iaload, 0, 0, 0, 0, 0, 0), (16, .if_icmp .ge 52, 42, 0, 0, 0, 0, 0), (19, .aload_n 0, 0, 0, 0, 0, 0, 0), (20, .aload_n 0, 0, 0, 0, 0, 0, 0), (21, .getfield 41, 6, 12, 1, 0, 0, 0), (24, .iload_n 1, 1, 0, 0, 0, 0, 0), (25, .iaload, 0, 0, 0, 0, 0, 0), (26, .aload_n 0, 0, 0, 0, 0, 0, 0), (27, .getfield 62, 6, 20, 1, 0, 0, 0), (30, .aload_n 0, 0, 0, 0, 0, 0, 0), (31, .iload_n 2, 2, 0, 0, 0, 0, 0), (32, .iload_n 3, 3, 0, 0, 0, 0, 0), (33, .invokevirtual 103, 116, 3, 1, 6, 0, 0), (36, .iaload, 0, 0, 0, 0, 0, 0), (37, .aload_n 0, 0, 0, 0, 0, 0, 0), (38, .iload_n 1, 1, 0, 0, 0, 0, 0), (39, .iload_n 3, 3, 0, 0, 0, 0, 0), (40, .invokevirtual 168, 145, 3, 1, 6, 0, 0), (43, .invokevirtual 118, 118, 4, 1, 6, 0, 0), (46, .aload_n 0, 0, 0, 0, 0, 0, 0), (47, .getfield 62, 6, 20, 1, 0, 0, 0), (50, .aload_n 0, 0, 0, 0, 0, 0, 0), (51, .iload_n 2, 2, 0, 0, 0, 0, 0), (52, .iload_n 3, 3, 0, 0, 0, 0, 0), (53, .invokevirtual 99, 117, 3, 1, 6, 0, 0), (56, .iaload, 0, 0, 0, 0, 0, 0), (57, .if_icmp .eq 5, 40, 0, 0, 0, 0, 0), (60, .iconst 0, 0, 0, 0, 0, 0, 0), (61, .ireturn, 0, 0, 1, 0, 0, 0), (62, .iinc 3 1, 3, 0, 0, 0, 1, 0), (65, .goto (-56), 7, 0, 0, 0, 0, 0), (68, .iconst 1, 0, 0, 0, 0, 1, 0), (69, .ireturn, 0, 0, 1, 0, 0, 0)]
def az_p167 : List az_I := [(0, .aload_n 0, 0, 0, 0, 0, 0, 0), (1, .iload_n 1, 1, 0, 0, 0, 0, 0), (2, .invokevirtual 165, 136, 2, 1, 6, 0, 0), (5, .ifCond .eq 24, 17, 0, 0, 0, 0, 0), (8, .iload_n 2, 2, 0, 0, 0, 0, 0), (9, .iconst 0, 0, 0, 0, 0, 0, 0), (10, .aload_n 0, 0, 0, 0, 0, 0, 0), (11, .getfield 7, 6, 1, 1, 0, 0, 0), (14, .aload_n 0, 0, 0, 0, 0, 0, 0), (15, .getfield 41, 6, 12, 1, 0, 0, 0), (18, .iload_n 1, 1, 0, 0, 0, 0, 0), (19, .iaload, 0, 0, 0, 0, 0, 0), (20, .iaload, 0, 0, 0, 0, 0, 0), (21, .iconst 1, 0, 0, 0, 0, 1, 0), (22, .isub, 0, 0, 0, 0, 0, 0), (23, .invokestatic 87, 111, 3, 1, 0, 0, 0), (26, .ifCond .ne 6, 19, 0, 0, 0, 0, 0), (29, .bipush (-2), 0, 0, 0, 0, (-2), 0), (31, .ireturn, 0, 0, 0, 0, 0, 0), (32, .aload_n 0, 0, 0, 0, 0, 0, 0), (33, .getfield 41, 6, 12, 1, 0, 0, 0), (36, .iload_n 1, 1, 0, 0, 0, 0, 0), (37, .iaload, 0, 0, 0, 0, 0, 0), (38, .istore_n 3, 3, 0, 0, 0, 0, 0), (39, .aload_n 0, 0, 0, 0, 0, 0, 0), (40, .getfield 7, 6, 1, 1, 0, 0, 0), (43, .aload_n 0, 0, 0, 0, 0, 0, 0), (44, .getfield 38, 6, 11, 1, 0, 0, 0), (47, .iload_n 1, 1, 0, 0, 0, 0, 0), (48, .iaload, 0, 0, 0, 0, 0, 0), (49, .iaload, 0, 0, 0, 0, 0, 0), (50, .istore 4, 4, 0, 0, 0, 0, 0), (52, .aload_n 0, 0, 0, 0, 0, 0, 0), (53, .iload_n 1, 1, 0, 0, 0, 0, 0), (54, .iload_n 2, 2, 0, 0, 0, 0, 0), (55, .invokevirtual 215, 165, 3, 0, 6, 0, 0), (58, .aload_n 0, 0, 0, 0, 0, 0, 0), (59, .iload_n 3, 3, 0, 0, 0, 0, 0), (60, .iload 4, 4, 0, 0, 0, 0, 0), (62, .invokevirtual 203, 156, 3, 2, 6, 0, 0), (65, .ldc2_w 207, 0, 0, 0, 0, 0, 5000), (68, .lcmp, 0, 0, 0, 0, 0, 0), (69, .ifCond .le 6, 45, 0, 0, 0, 0, 0), (72, .bipush (-5), 0, 0, 0, 0, (-5), 0), (74, .ireturn, 0, 0, 0, 0, 0, 0), (75, .iconst 0, 0, 0, 0, 0, 0, 0), (76, .istore 5, 5, 0, 0, 0, 0, 0), (78, .aload_n 0, 0, 0, 0, 0, 0, 0), (79, .iload_n 3, 3, 0, 0, 0, 0, 0), (80, .iload 4, 4, 0, 0, 0, 0, 0), (82, .invokevirtual 194, 157, 3, 1, 6, 0, 0), (85, .istore 6, 6, 0, 0, 0, 0, 0), (87, .iload 6, 6, 0, 0, 0, 0, 0), (89, .ifCond .eq 33, 70, 0, 0, 0, 0, 0), (92, .iload 5, 5, 0, 0, 0, 0, 0), (94, .aload_n 0, 0, 0, 0, 0, 0, 0), (95, .iload_n 1, 1, 0, 0, 0, 0, 0), (96, .invokevirtual 218, 166, 2, 1, 6, 0, 0), (99, .ifCond .eq 7, 61, 0, 0, 0, 0, 0), (102, .iconst 1, 0, 0, 0, 0, 1, 0), (103, .goto 4, 62, 0, 0, 0, 0, 0), (106, .iconst 0, 0, 0, 0, 0, 0, 0), (107, .iadd, 0, 0, 0, 0, 0, 0), (108, .istore 5, 5, 0, 0, 0, 0, 0), (110, .aload_n 0, 0, 0, 0, 0, 0, 0), (111, .iload_n 3, 3, 0, 0, 0, 0, 0), (112, .iload 4, 4, 0, 0, 0, 0, 0), (114, .invokevirtual 200, 158, 3, 1, 6, 0, 0), (117, .istore 6, 6, 0, 0, 0, 0, 0), (119, .goto (-32), 52, 0, 0, 0, 0, 0), (122, .iload 5, 5, 0, 0, 0, 0, 0), (124, .ireturn, 0, 0, 0, 0, 0, 0)]
def az_p168 : List az_I := [(0, .aload_n 0, 0, 0, 0, 0, 0, 0), (1, .getfield 41, 6, 12, 1, 0, 0, 0), (4, .iload_n 1, 1, 0, 0, 0, 0, 0), (5, .iaload, 0, 0, 0, 0, 0, 0), (6, .istore_n 2, 2, 0, 0, 0, 0, 0), (7, .aload_n 0, 0, 0, 0, 0, 0, 0), (8, .getfield 7, 6, 1, 1, 0, 0, 0), (11, .aload_n 0, 0, 0, 0, 0, 0, 0), (12, .getfield 38, 6, 11, 1, 0, 0, 0), (15, .iload_n 1, 1, 0, 0, 0, 0, 0), (16, .iaload, 0, 0, 0, 0, 0, 0), (17, .iaload, 0, 0, 0, 0, 0, 0), (18, .istore_n 3, 3, 0, 0, 0, 0, 0), (19, .aload_n 0, 0, 0, 0, 0, 0, 0), (20, .iconst 0, 0, 0, 0, 0, 0, 0), (21, .putfield 221, 6, 21, 0, 0, 0, 0), (24, .iconst 0, 0, 0, 0, 0, 0, 0), (25, .istore 4, 4, 0, 0, 0, 0, 0), (27, .iload 4, 4, 0, 0, 0, 0, 0), (29, .aload_n 0, 0, 0, 0, 0, 0, 0), (30, .getfield 7, 6, 1, 1, 0, 0, 0), (33, .iload_n 2, 2, 0, 0, 0, 0, 0), (34, .iaload, 0, 0, 0, 0, 0, 0), (35, .if_icmp .ge 31, 39, 0, 0, 0, 0, 0), (38, .aload_n 0, 0, 0, 0, 0, 0, 0), (39, .iload_n 1, 1, 0, 0, 0, 0, 0), (40, .iload 4, 4, 0, 0, 0, 0, 0), (42, .invokevirtual 215, 165, 3, 0, 6, 0, 0), (45, .aload_n 0, 0, 0, 0, 0, 0, 0), (46, .iload_n 2, 2, 0, 0, 0, 0, 0), (47, .iload_n 3, 3, 0, 0, 0, 0, 0), (48, .invokevirtual 203, 156, 3, 2, 6, 0, 0), (51, .ldc2_w 224, 0, 0, 0, 0, 0, 64), (54, .lcmp, 0, 0, 0, 0, 0, 0), (55, .ifCond .le 5, 37, 0, 0, 0, 0, 0), (58, .iconst 0, 0, 0, 0, 0, 0, 0), (59, .ireturn, 0, 0, 1, 0, 0, 0), (60, .iinc 4 1, 4, 0, 0, 0, 1, 0), (63, .goto (-36), 18, 0, 0, 0, 0, 0), (66, .iconst 0, 0, 0, 0, 0, 0, 0), (67, .istore 4, 4, 0, 0, 0, 0, 0), (69, .iload 4, 4, 0, 0, 0, 0, 0), (71, .aload_n 0, 0, 0, 0, 0, 0, 0), (72, .getfield 7, 6, 1, 1, 0, 0, 0), (75, .iload_n 2, 2, 0, 0, 0, 0, 0), (76, .iaload, 0, 0, 0, 0, 0, 0), (77, .if_icmp .ge 106, 102, 0, 0, 0, 0, 0), (80, .aload_n 0, 0, 0, 0, 0, 0, 0), (81, .iload_n 1, 1, 0, 0, 0, 0, 0), (82, .iload 4, 4, 0, 0, 0, 0, 0), (84, .invokevirtual 215, 165, 3, 0, 6, 0, 0), (87, .aload_n 0, 0, 0, 0, 0, 0, 0), (88, .iload_n 2, 2, 0, 0, 0, 0, 0), (89, .iload_n 3, 3, 0, 0, 0, 0, 0), (90, .invokevirtual 194, 157, 3, 1, 6, 0, 0), (93, .istore 5, 5, 0, 0, 0, 0, 0), (95, .iload 5, 5, 0, 0, 0, 0, 0), (97, .ifCond .eq 80, 100, 0, 0, 0, 0, 0), (100, .aload_n 0, 0, 0, 0, 0, 0, 0), (101, .iload_n 1, 1, 0, 0, 0, 0, 0), (102, .invokevirtual 218, 166, 2, 1, 6, 0, 0), (105, .ifCond .eq 61, 94, 0, 0, 0, 0, 0), (108, .aload_n 0, 0, 0, 0, 0, 0, 0), (109, .getfield 65, 6, 22, 1, 0, 0, 0), (112, .aload_n 0, 0, 0, 0, 0, 0, 0), (113, .getfield 221, 6, 21, 0, 0, 0, 0), (116, .iload 4, 4, 0, 0, 0, 0, 0), (118, .iastore, 0, 0, 0, 0, 0, 0), (119, .iconst 0, 0, 0, 0, 0, 0, 0), (120, .istore 6, 6, 0, 0, 0, 0, 0), (122, .iload 6, 6, 0, 0, 0, 0, 0), (124, .iload_n 3, 3, 0, 0, 0, 0, 0), (125, .if_icmp .ge 31, 88, 0, 0, 0, 0, 0), (128, .aload_n 0, 0, 0, 0, 0, 0, 0), (129, .getfield 68, 6, 23, 1, 0, 0, 0), (132, .bipush 6, 0, 0, 0, 0, 6, 0), (134, .aload_n 0, 0, 0, 0, 0, 0, 0), (135, .getfield 221, 6, 21, 0, 0, 0, 0), (138, .imul, 0, 0, 0, 0, 0, 0), (139, .iload 6, 6, 0, 0, 0, 0, 0), (141, .iadd, 0, 0, 0, 0, 0, 0), (142, .aload_n 0, 0, 0, 0, 0, 0, 0), (143, .getfield 62, 6, 20, 1, 0, 0, 0), (146, .iload 6, 6, 0, 0, 0, 0, 0), (148, .iaload, 0, 0, 0, 0, 0, 0), (149, .iastore, 0, 0, 0, 0, 0, 0), (150, .iinc 6 1, 6, 0, 0, 0, 1, 0), (153, .goto (-31), 70, 0, 0, 0, 0, 0), (156, .aload_n 0, 0, 0, 0, 0, 0, 0), (157, .dup, 0, 0, 0, 0, 0, 0), (158, .getfield 221, 6, 21, 0, 0, 0, 0), (161, .iconst 1, 0, 0, 0, 0, 1, 0), (162, .iadd, 0, 0, 0, 0, 0, 0), (163, .putfield 221, 6, 21, 0, 0, 0, 0), (166, .aload_n 0, 0, 0, 0, 0, 0, 0), (167, .iload_n 2, 2, 0, 0, 0, 0, 0), (168, .iload_n 3, 3, 0, 0, 0, 0, 0), (169, .invokevirtual 200, 158, 3, 1, 6, 0, 0), (172, .istore 5, 5, 0, 0, 0, 0, 0), (174, .goto (-79), 56, 0, 0, 0, 0, 0), (177, .iinc 4 1, 4, 0, 0, 0, 1, 0), (180, .goto (-111), 41, 0, 0, 0, 0, 0), (183, .iconst 1, 0, 0, 0, 0, 1, 0), (184, .ireturn, 0, 0, 1, 0, 0, 0)]
def az_p169 : List az_I := [(0, .iconst 0, 0, 0, 0, 0, 0, 0), (1, .istore 5, 5, 0, 0, 0, 0, 0), (3, .iconst 0, 0, 0, 0, 0, 0, 0), (4, .istore 6, 6, 0, 0, 0, 0, 0), (6, .iload 6, 6, 0, 0, 0, 0, 0), (8, .aload_n 0, 0, 0, 0, 0, 0, 0), (9, .getfield 13, 6, 2, 1, 0, 0, 0), (12, .iload_n 1, 1, 0, 0, 0, 0, 0), (13, .iaload, 0, 0, 0, 0, 0, 0), (14, .if_icmp .ge 126, 76, 0, 0, 0, 0, 0), (17, .aload_n 0, 0, 0, 0, 0, 0, 0), (18, .iload_n 1, 1, 0, 0, 0, 0, 0), (19, .iload 6, 6, 0, 0, 0, 0, 0), (21, .invokevirtual 103, 116, 3, 1, 6, 0, 0), (24, .aload_n 0, 0, 0, 0, 0, 0, 0), (25, .getfield 65, 6, 22, 1, 0, 0, 0), (28, .iload_n 3, 3, 0, 0, 0, 0, 0), (29, .iaload, 0, 0, 0, 0, 0, 0), (30, .if_icmp .ne 24, 30, 0, 0, 0, 0, 0), (33, .aload_n 0, 0, 0, 0, 0, 0, 0), (34, .iload_n 1, 1, 0, 0, 0, 0, 0), (35, .iload 6, 6, 0, 0, 0, 0, 0), (37, .invokevirtual 99, 117, 3, 1, 6, 0, 0), (40, .aload_n 0, 0, 0, 0, 0, 0, 0), (41, .getfield 65, 6, 22, 1, 0, 0, 0), (44, .iload 4, 4, 0, 0, 0, 0, 0), (46, .iaload, 0, 0, 0, 0, 0, 0), (47, .if_icmp .ne 7, 30, 0, 0, 0, 0, 0), (50, .iconst 1, 0, 0, 0, 0, 1, 0), (51, .goto 4, 31, 0, 0, 0, 0, 0), (54, .iconst 0, 0, 0, 0, 0, 0, 0), (55, .istore 7, 7, 0, 0, 0, 0, 0), (57, .iconst 0, 0, 0, 0, 0, 0, 0), (58, .istore 8, 8, 0, 0, 0, 0, 0), (60, .iload 8, 8, 0, 0, 0, 0, 0), (62, .iload_n 2, 2, 0, 0, 0, 0, 0), (63, .if_icmp .ge 56, 66, 0, 0, 0, 0, 0), (66, .iload 7, 7, 0, 0, 0, 0, 0), (68, .ifCond .eq 51, 66, 0, 0, 0, 0, 0), (71, .aload_n 0, 0, 0, 0, 0, 0, 0), (72, .iload_n 1, 1, 0, 0, 0, 0, 0), (73, .iload 6, 6, 0, 0, 0, 0, 0), (75, .aload_n 0, 0, 0, 0, 0, 0, 0), (76, .getfield 68, 6, 23, 1, 0, 0, 0), (79, .bipush 6, 0, 0, 0, 0, 6, 0), (81, .iload 4, 4, 0, 0, 0, 0, 0), (83, .imul, 0, 0, 0, 0, 0, 0), (84, .iload 8, 8, 0, 0, 0, 0, 0), (86, .iadd, 0, 0, 0, 0, 0, 0), (87, .iaload, 0, 0, 0, 0, 0, 0), (88, .invokevirtual 118, 118, 4, 1, 6, 0, 0), (91, .aload_n 0, 0, 0, 0, 0, 0, 0), (92, .getfield 68, 6, 23, 1, 0, 0, 0), (95, .bipush 6, 0, 0, 0, 0, 6, 0), (97, .iload_n 3, 3, 0, 0, 0, 0, 0), (98, .imul, 0, 0, 0, 0, 0, 0), (99, .iload 8, 8, 0, 0, 0, 0, 0), (101, .iadd, 0, 0, 0, 0, 0, 0), (102, .iaload, 0, 0, 0, 0, 0, 0), (103, .if_icmp .ne 7, 62, 0, 0, 0, 0, 0), (106, .iconst 1, 0, 0, 0, 0, 1, 0), (107, .goto 4, 63, 0, 0, 0, 0, 0), (110, .iconst 0, 0, 0, 0, 0, 0, 0), (111, .istore 7, 7, 0, 0, 0, 0, 0), (113, .iinc 8 1, 8, 0, 0, 0, 1, 0), (116, .goto (-56), 34, 0, 0, 0, 0, 0), (119, .iload 5, 5, 0, 0, 0, 0, 0), (121, .iload 7, 7, 0, 0, 0, 0, 0), (123, .ifCond .eq 7, 71, 0, 0, 0, 0, 0), (126, .iconst 1, 0, 0, 0, 0, 1, 0), (127, .goto 4, 72, 0, 0, 0, 0, 0), (130, .iconst 0, 0, 0, 0, 0, 0, 0), (131, .iadd, 0, 0, 0, 0, 0, 0), (132, .istore 5, 5, 0, 0, 0, 0, 0), (134, .iinc 6 1, 6, 0, 0, 0, 1, 0), (137, .goto (-131), 4, 0, 0, 0, 0, 0), (140, .iload 5, 5, 0, 0, 0, 0, 0), (142, .ireturn, 0, 0, 0, 0, 0, 0)]
def az_p170 : List az_I := [(0, .aload_n 0, 0, 0, 0, 0, 0, 0), (1, .iload_n 1, 1, 0, 0, 0, 0, 0), (2, .invokevirtual 165, 136, 2, 1, 6, 0, 0), (5, .ifCond .ne 6, 6, 0, 0, 0, 0, 0), (8, .bipush (-2), 0, 0, 0, 0, (-2), 0), (10, .ireturn, 0, 0, 0, 0, 0, 0), (11, .aload_n 0, 0, 0, 0, 0, 0, 0), (12, .iload_n 1, 1, 0, 0, 0, 0, 0), (13, .invokevirtual 226, 168, 2, 1, 6, 0, 0), (16, .ifCond .ne 6, 12, 0, 0, 0, 0, 0), (19, .bipush (-5), 0, 0, 0, 0, (-5), 0), (21, .ireturn, 0, 0, 0, 0, 0, 0), (22, .aload_n 0, 0, 0, 0, 0, 0, 0), (23, .getfield 41, 6, 12, 1, 0, 0, 0), (26, .iload_n 1, 1, 0, 0, 0, 0, 0), (27, .iaload, 0, 0, 0, 0, 0, 0), (28, .istore_n 2, 2, 0, 0, 0, 0, 0), (29, .aload_n 0, 0, 0, 0, 0, 0, 0), (30, .getfield 7, 6, 1, 1, 0, 0, 0), (33, .aload_n 0, 0, 0, 0, 0, 0, 0), (34, .getfield 38, 6, 11, 1, 0, 0, 0), (37, .iload_n 1, 1, 0, 0, 0, 0, 0), (38, .iaload, 0, 0, 0, 0, 0, 0), (39, .iaload, 0, 0, 0, 0, 0, 0), (40, .istore_n 3, 3, 0, 0, 0, 0, 0), (41, .iconst 0, 0, 0, 0, 0, 0, 0), (42, .istore 4, 4, 0, 0, 0, 0, 0), (44, .iload 4, 4, 0, 0, 0, 0, 0), (46, .aload_n 0, 0, 0, 0, 0, 0, 0), (47, .getfield 221, 6, 21, 0, 0, 0, 0), (50, .if_icmp .ge 109, 86, 0, 0, 0, 0, 0), (53, .iconst 1, 0, 0, 0, 0, 1, 0), (54, .istore 5, 5, 0, 0, 0, 0, 0), (56, .iconst 0, 0, 0, 0, 0, 0, 0), (57, .istore 6, 6, 0, 0, 0, 0, 0), (59, .iload 6, 6, 0, 0, 0, 0, 0), (61, .aload_n 0, 0, 0, 0, 0, 0, 0), (62, .getfield 221, 6, 21, 0, 0, 0, 0), (65, .if_icmp .ge 35, 55, 0, 0, 0, 0, 0), (68, .iload 5, 5, 0, 0, 0, 0, 0), (70, .ifCond .eq 30, 55, 0, 0, 0, 0, 0), (73, .aload_n 0, 0, 0, 0, 0, 0, 0), (74, .iload_n 2, 2, 0, 0, 0, 0, 0), (75, .iload_n 3, 3, 0, 0, 0, 0, 0), (76, .iload 6, 6, 0, 0, 0, 0, 0), (78, .iload 4, 4, 0, 0, 0, 0, 0), (80, .invokevirtual 229, 169, 5, 1, 6, 0, 0), (83, .iconst 1, 0, 0, 0, 0, 1, 0), (84, .if_icmp .ne 7, 51, 0, 0, 0, 0, 0), (87, .iconst 1, 0, 0, 0, 0, 1, 0), (88, .goto 4, 52, 0, 0, 0, 0, 0), (91, .iconst 0, 0, 0, 0, 0, 0, 0), (92, .istore 5, 5, 0, 0, 0, 0, 0), (94, .iinc 6 1, 6, 0, 0, 0, 1, 0), (97, .goto (-38), 35, 0, 0, 0, 0, 0), (100, .iload 5, 5, 0, 0, 0, 0, 0), (102, .ifCond .eq 51, 84, 0, 0, 0, 0, 0), (105, .aload_n 0, 0, 0, 0, 0, 0, 0), (106, .iload_n 3, 3, 0, 0, 0, 0, 0), (107, .putfield 233, 6, 25, 0, 0, 0, 0), (110, .iconst 0, 0, 0, 0, 0, 0, 0), (111, .istore 6, 6, 0, 0, 0, 0, 0), (113, .iload 6, 6, 0, 0, 0, 0, 0), (115, .iload_n 3, 3, 0, 0, 0, 0, 0), (116, .if_icmp .ge 29, 79, 0, 0, 0, 0, 0), (119, .aload_n 0, 0, 0, 0, 0, 0, 0), (120, .getfield 71, 6, 24, 1, 0, 0, 0), (123, .iload 6, 6, 0, 0, 0, 0, 0), (125, .aload_n 0, 0, 0, 0, 0, 0, 0), (126, .getfield 68, 6, 23, 1, 0, 0, 0), (129, .bipush 6, 0, 0, 0, 0, 6, 0), (131, .iload 4, 4, 0, 0, 0, 0, 0), (133, .imul, 0, 0, 0, 0, 0, 0), (134, .iload 6, 6, 0, 0, 0, 0, 0), (136, .iadd, 0, 0, 0, 0, 0, 0), (137, .iaload, 0, 0, 0, 0, 0, 0), (138, .iastore, 0, 0, 0, 0, 0, 0), (139, .iinc 6 1, 6, 0, 0, 0, 1, 0), (142, .goto (-29), 62, 0, 0, 0, 0, 0), (145, .aload_n 0, 0, 0, 0, 0, 0, 0), (146, .getfield 65, 6, 22, 1, 0, 0, 0), (149, .iload 4, 4, 0, 0, 0, 0, 0), (151, .iaload, 0, 0, 0, 0, 0, 0), (152, .ireturn, 0, 0, 0, 0, 0, 0), (153, .iinc 4 1, 4, 0, 0, 0, 1, 0), (156, .goto (-112), 27, 0, 0, 0, 0, 0), (159, .iconst (-1), 0, 0, 0, 0, (-1), 0), (160, .ireturn, 0, 0, 0, 0, 0, 0)]
def az_p171 : List az_I := [(0, .iload_n 1, 1, 0, 0, 0, 0, 0), (1, .iconst 0, 0, 0, 0, 0, 0, 0), (2, .aload_n 0, 0, 0, 0, 0, 0, 0), (3, .getfield 233, 6, 25, 0, 0, 0, 0), (6, .iconst 1, 0, 0, 0, 0, 1, 0), (7, .isub, 0, 0, 0, 0, 0, 0), (8, .invokestatic 87, 111, 3, 1, 0, 0, 0), (11, .ifCond .eq 12, 13, 0, 0, 0, 0, 0), (14, .aload_n 0, 0, 0, 0, 0, 0, 0), (15, .getfield 71, 6, 24, 1, 0, 0, 0), (18, .iload_n 1, 1, 0, 0, 0, 0, 0), (19, .iaload, 0, 0, 0, 0, 0, 0), (20, .goto 4, 14, 0, 0, 0, 0, 0), (23, .iconst (-1), 0, 0, 0, 0, (-1), 0), (24, .ireturn, 0, 0, 0, 0, 0, 0)]
def az_p172 : List az_I := [(0, .aload_n 0, 0, 0, 0, 0, 0, 0), (1, .getfield 38, 6, 11, 1, 0, 0, 0), (4, .iload_n 1, 1, 0, 0, 0, 0, 0), (5, .iaload, 0, 0, 0, 0, 0, 0), (6, .istore 5, 5, 0, 0, 0, 0, 0), (8, .aload_n 0, 0, 0, 0, 0, 0, 0), (9, .getfield 41, 6, 12, 1, 0, 0, 0), (12, .iload_n 1, 1, 0, 0, 0, 0, 0), (13, .iaload, 0, 0, 0, 0, 0, 0), (14, .istore 6, 6, 0, 0, 0, 0, 0), (16, .iconst 0, 0, 0, 0, 0, 0, 0), (17, .istore 7, 7, 0, 0, 0, 0, 0), (19, .iload 7, 7, 0, 0, 0, 0, 0), (21, .aload_n 0, 0, 0, 0, 0, 0, 0), (22, .getfield 7, 6, 1, 1, 0, 0, 0), (25, .iload 5, 5, 0, 0, 0, 0, 0), (27, .iaload, 0, 0, 0, 0, 0, 0), (28, .if_icmp .ge 147, 90, 0, 0, 0, 0, 0), (31, .iconst 0, 0, 0, 0, 0, 0, 0), (32, .istore 8, 8, 0, 0, 0, 0, 0), (34, .iload 8, 8, 0, 0, 0, 0, 0), (36, .aload_n 0, 0, 0, 0, 0, 0, 0), (37, .getfield 13, 6, 2, 1, 0, 0, 0), (40, .iload 6, 6, 0, 0, 0, 0, 0), (42, .iaload, 0, 0, 0, 0, 0, 0), (43, .if_icmp .ge 126, 88, 0, 0, 0, 0, 0), (46, .aload_n 0, 0, 0, 0, 0, 0, 0), (47, .iload 6, 6, 0, 0, 0, 0, 0), (49, .iload 8, 8, 0, 0, 0, 0, 0), (51, .invokevirtual 103, 116, 3, 1, 6, 0, 0), (54, .aload_n 0, 0, 0, 0, 0, 0, 0), (55, .iload_n 1, 1, 0, 0, 0, 0, 0), (56, .iload 7, 7, 0, 0, 0, 0, 0), (58, .invokevirtual 168, 145, 3, 1, 6, 0, 0), (61, .if_icmp .ne 102, 86, 0, 0, 0, 0, 0), (64, .aload_n 0, 0, 0, 0, 0, 0, 0), (65, .iload 6, 6, 0, 0, 0, 0, 0), (67, .iload 8, 8, 0, 0, 0, 0, 0), (69, .invokevirtual 99, 117, 3, 1, 6, 0, 0), (72, .iload_n 2, 2, 0, 0, 0, 0, 0), (73, .if_icmp .ne 90, 86, 0, 0, 0, 0, 0), (76, .iconst 0, 0, 0, 0, 0, 0, 0), (77, .istore 9, 9, 0, 0, 0, 0, 0), (79, .iconst 0, 0, 0, 0, 0, 0, 0), (80, .istore 10, 10, 0, 0, 0, 0, 0), (82, .iload 10, 10, 0, 0, 0, 0, 0), (84, .aload_n 0, 0, 0, 0, 0, 0, 0), (85, .getfield 13, 6, 2, 1, 0, 0, 0), (88, .iload 5, 5, 0, 0, 0, 0, 0), (90, .iaload, 0, 0, 0, 0, 0, 0), (91, .if_icmp .ge 64, 81, 0, 0, 0, 0, 0), (94, .iload 9, 9, 0, 0, 0, 0, 0), (96, .aload_n 0, 0, 0, 0, 0, 0, 0), (97, .iload 5, 5, 0, 0, 0, 0, 0), (99, .iload 10, 10, 0, 0, 0, 0, 0), (101, .invokevirtual 103, 116, 3, 1, 6, 0, 0), (104, .iload 7, 7, 0, 0, 0, 0, 0), (106, .if_icmp .ne 39, 76, 0, 0, 0, 0, 0), (109, .aload_n 0, 0, 0, 0, 0, 0, 0), (110, .iload 5, 5, 0, 0, 0, 0, 0), (112, .iload 10, 10, 0, 0, 0, 0, 0), (114, .invokevirtual 99, 117, 3, 1, 6, 0, 0), (117, .iload_n 3, 3, 0, 0, 0, 0, 0), (118, .if_icmp .ne 27, 76, 0, 0, 0, 0, 0), (121, .aload_n 0, 0, 0, 0, 0, 0, 0), (122, .iload 6, 6, 0, 0, 0, 0, 0), (124, .aload_n 0, 0, 0, 0, 0, 0, 0), (125, .iload_n 1, 1, 0, 0, 0, 0, 0), (126, .iload 10, 10, 0, 0, 0, 0, 0), (128, .invokevirtual 168, 145, 3, 1, 6, 0, 0), (131, .iload 4, 4, 0, 0, 0, 0, 0), (133, .invokevirtual 118, 118, 4, 1, 6, 0, 0), (136, .iload 8, 8, 0, 0, 0, 0, 0), (138, .if_icmp .ne 7, 76, 0, 0, 0, 0, 0), (141, .iconst 1, 0, 0, 0, 0, 1, 0), (142, .goto 4, 77, 0, 0, 0, 0, 0), (145, .iconst 0, 0, 0, 0, 0, 0, 0), (146, .iadd, 0, 0, 0, 0, 0, 0), (147, .istore 9, 9, 0, 0, 0, 0, 0), (149, .iinc 10 1, 10, 0, 0, 0, 1, 0), (152, .goto (-70), 45, 0, 0, 0, 0, 0), (155, .iload 9, 9, 0, 0, 0, 0, 0), (157, .iconst 1, 0, 0, 0, 0, 1, 0), (158, .if_icmp .eq 5, 86, 0, 0, 0, 0, 0), (161, .iconst 0, 0, 0, 0, 0, 0, 0), (162, .ireturn, 0, 0, 1, 0, 0, 0), (163, .iinc 8 1, 8, 0, 0, 0, 1, 0), (166, .goto (-132), 20, 0, 0, 0, 0, 0), (169, .iinc 7 1, 7, 0, 0, 0, 1, 0), (172, .goto (-153), 12, 0, 0, 0, 0, 0), (175, .iconst 1, 0, 0, 0, 0, 1, 0), (176, .ireturn, 0, 0, 1, 0, 0, 0)]
def az_p173 : List az_I := [(0, .aload_n 0, 0, 0, 0, 0, 0, 0), (1, .getfield 41, 6, 12, 1, 0, 0, 0), (4, .iload_n 1, 1, 0, 0, 0, 0, 0), (5, .iaload, 0, 0, 0, 0, 0, 0), (6, .istore_n 3, 3, 0, 0, 0, 0, 0), (7, .iconst 0, 0, 0, 0, 0, 0, 0), (8, .istore 4, 4, 0, 0, 0, 0, 0), (10, .iload 4, 4, 0, 0, 0, 0, 0), (12, .aload_n 0, 0, 0, 0, 0, 0, 0), (13, .getfield 7, 6, 1, 1, 0, 0, 0), (16, .aload_n 0, 0, 0, 0, 0, 0, 0), (17, .getfield 38, 6, 11, 1, 0, 0, 0), (20, .iload_n 1, 1, 0, 0, 0, 0, 0), (21, .iaload, 0, 0, 0, 0, 0, 0), (22, .iaload, 0, 0, 0, 0, 0, 0), (23, .if_icmp .ge 84, 58, 0, 0, 0, 0, 0), (26, .iconst 0, 0, 0, 0, 0, 0, 0), (27, .istore 5, 5, 0, 0, 0, 0, 0), (29, .iload 5, 5, 0, 0, 0, 0, 0), (31, .aload_n 0, 0, 0, 0, 0, 0, 0), (32, .getfield 13, 6, 2, 1, 0, 0, 0), (35, .iload_n 3, 3, 0, 0, 0, 0, 0), (36, .iaload, 0, 0, 0, 0, 0, 0), (37, .if_icmp .ge 64, 56, 0, 0, 0, 0, 0), (40, .aload_n 0, 0, 0, 0, 0, 0, 0), (41, .iload_n 3, 3, 0, 0, 0, 0, 0), (42, .iload 5, 5, 0, 0, 0, 0, 0), (44, .invokevirtual 103, 116, 3, 1, 6, 0, 0), (47, .aload_n 0, 0, 0, 0, 0, 0, 0), (48, .iload_n 1, 1, 0, 0, 0, 0, 0), (49, .iload 4, 4, 0, 0, 0, 0, 0), (51, .invokevirtual 168, 145, 3, 1, 6, 0, 0), (54, .if_icmp .ne 41, 54, 0, 0, 0, 0, 0), (57, .aload_n 0, 0, 0, 0, 0, 0, 0), (58, .iload_n 3, 3, 0, 0, 0, 0, 0), (59, .iload 5, 5, 0, 0, 0, 0, 0), (61, .invokevirtual 99, 117, 3, 1, 6, 0, 0), (64, .iload_n 2, 2, 0, 0, 0, 0, 0), (65, .if_icmp .ne 30, 54, 0, 0, 0, 0, 0), (68, .aload_n 0, 0, 0, 0, 0, 0, 0), (69, .iload_n 1, 1, 0, 0, 0, 0, 0), (70, .iload_n 2, 2, 0, 0, 0, 0, 0), (71, .iload 4, 4, 0, 0, 0, 0, 0), (73, .iload 5, 5, 0, 0, 0, 0, 0), (75, .invokevirtual 236, 172, 5, 1, 6, 0, 0), (78, .ifCond .eq 17, 54, 0, 0, 0, 0, 0), (81, .aload_n 0, 0, 0, 0, 0, 0, 0), (82, .iload 4, 4, 0, 0, 0, 0, 0), (84, .putfield 239, 6, 26, 0, 0, 0, 0), (87, .aload_n 0, 0, 0, 0, 0, 0, 0), (88, .iload 5, 5, 0, 0, 0, 0, 0), (90, .putfield 242, 6, 27, 0, 0, 0, 0), (93, .iconst 1, 0, 0, 0, 0, 1, 0), (94, .ireturn, 0, 0, 1, 0, 0, 0), (95, .iinc 5 1, 5, 0, 0, 0, 1, 0), (98, .goto (-69), 18, 0, 0, 0, 0, 0), (101, .iinc 4 1, 4, 0, 0, 0, 1, 0), (104, .goto (-94), 7, 0, 0, 0, 0, 0), (107, .iconst 0, 0, 0, 0, 0, 0, 0), (108, .ireturn, 0, 0, 1, 0, 0, 0)]
def az_p174 : List az_I := [(0, .aload_n 0, 0, 0, 0, 0, 0, 0), (1, .iload_n 1, 1, 0, 0, 0, 0, 0), (2, .invokevirtual 165, 136, 2, 1, 6, 0, 0), (5, .ifCond .eq 33, 22, 0, 0, 0, 0, 0), (8, .iload_n 2, 2, 0, 0, 0, 0, 0), (9, .iconst 0, 0, 0, 0, 0, 0, 0), (10, .aload_n 0, 0, 0, 0, 0, 0, 0), (11, .getfield 7, 6, 1, 1, 0, 0, 0), (14, .aload_n 0, 0, 0, 0, 0, 0, 0), (15, .getfield 41, 6, 12, 1, 0, 0, 0), (18, .iload_n 1, 1, 0, 0, 0, 0, 0), (19, .iaload, 0, 0, 0, 0, 0, 0), (20, .iaload, 0, 0, 0, 0, 0, 0), (21, .iconst 1, 0, 0, 0, 0, 1, 0), (22, .isub, 0, 0, 0, 0, 0, 0), (23, .invokestatic 87, 111, 3, 1, 0, 0, 0), (26, .ifCond .eq 12, 22, 0, 0, 0, 0, 0), (29, .iload_n 3, 3, 0, 0, 0, 0, 0), (30, .iconst 0, 0, 0, 0, 0, 0, 0), (31, .iconst 1, 0, 0, 0, 0, 1, 0), (32, .invokestatic 87, 111, 3, 1, 0, 0, 0), (35, .ifCond .ne 6, 24, 0, 0, 0, 0, 0), (38, .bipush (-2), 0, 0, 0, 0, (-2), 0), (40, .ireturn, 0, 0, 0, 0, 0, 0), (41, .aload_n 0, 0, 0, 0, 0, 0, 0), (42, .iload_n 1, 1, 0, 0, 0, 0, 0), (43, .iload_n 2, 2, 0, 0, 0, 0, 0), (44, .invokevirtual 245, 173, 3, 1, 6, 0, 0), (47, .ifCond .ne 7, 31, 0, 0, 0, 0, 0), (50, .iconst (-1), 0, 0, 0, 0, (-1), 0), (51, .goto 18, 38, 0, 0, 0, 0, 0), (54, .iload_n 3, 3, 0, 0, 0, 0, 0), (55, .ifCond .ne 10, 36, 0, 0, 0, 0, 0), (58, .aload_n 0, 0, 0, 0, 0, 0, 0), (59, .getfield 239, 6, 26, 0, 0, 0, 0), (62, .goto 7, 38, 0, 0, 0, 0, 0), (65, .aload_n 0, 0, 0, 0, 0, 0, 0), (66, .getfield 242, 6, 27, 0, 0, 0, 0), (69, .ireturn, 0, 0, 0, 0, 0, 0)]
def az_p175 : List az_I := [(0, .aload_n 0, 0, 0, 0, 0, 0, 0), (1, .iload_n 1, 1, 0, 0, 0, 0, 0), (2, .invokevirtual 165, 136, 2, 1, 6, 0, 0), (5, .ifCond .ne 6, 6, 0, 0, 0, 0, 0), (8, .bipush (-2), 0, 0, 0, 0, (-2), 0), (10, .ireturn, 0, 0, 0, 0, 0, 0), (11, .aload_n 0, 0, 0, 0, 0, 0, 0), (12, .getfield 38, 6, 11, 1, 0, 0, 0), (15, .iload_n 1, 1, 0, 0, 0, 0, 0), (16, .iaload, 0, 0, 0, 0, 0, 0), (17, .istore_n 2, 2, 0, 0, 0, 0, 0), (18, .aload_n 0, 0, 0, 0, 0, 0, 0), (19, .getfield 41, 6, 12, 1, 0, 0, 0), (22, .iload_n 1, 1, 0, 0, 0, 0, 0), (23, .iaload, 0, 0, 0, 0, 0, 0), (24, .istore_n 3, 3, 0, 0, 0, 0, 0), (25, .iconst 0, 0, 0, 0, 0, 0, 0), (26, .istore 4, 4, 0, 0, 0, 0, 0), (28, .iload 4, 4, 0, 0, 0, 0, 0), (30, .aload_n 0, 0, 0, 0, 0, 0, 0), (31, .getfield 7, 6, 1, 1, 0, 0, 0), (34, .iload_n 3, 3, 0, 0, 0, 0, 0), (35, .iaload, 0, 0, 0, 0, 0, 0), (36, .if_icmp .ge 44, 45, 0, 0, 0, 0, 0), (39, .aload_n 0, 0, 0, 0, 0, 0, 0), (40, .iload_n 1, 1, 0, 0, 0, 0, 0), (41, .iload 4, 4, 0, 0, 0, 0, 0), (43, .invokevirtual 245, 173, 3, 1, 6, 0, 0), (46, .ifCond .ne 6, 31, 0, 0, 0, 0, 0), (49, .bipush (-3), 0, 0, 0, 0, (-3), 0), (51, .ireturn, 0, 0, 0, 0, 0, 0), (52, .aload_n 0, 0, 0, 0, 0, 0, 0), (53, .getfield 74, 6, 28, 1, 0, 0, 0), (56, .iload 4, 4, 0, 0, 0, 0, 0), (58, .aload_n 0, 0, 0, 0, 0, 0, 0), (59, .getfield 239, 6, 26, 0, 0, 0, 0), (62, .iastore, 0, 0, 0, 0, 0, 0), (63, .aload_n 0, 0, 0, 0, 0, 0, 0), (64, .getfield 77, 6, 29, 1, 0, 0, 0), (67, .iload 4, 4, 0, 0, 0, 0, 0), (69, .aload_n 0, 0, 0, 0, 0, 0, 0), (70, .getfield 242, 6, 27, 0, 0, 0, 0), (73, .iastore, 0, 0, 0, 0, 0, 0), (74, .iinc 4 1, 4, 0, 0, 0, 1, 0), (77, .goto (-49), 18, 0, 0, 0, 0, 0), (80, .aload_n 0, 0, 0, 0, 0, 0, 0), (81, .getfield 138, 6, 10, 0, 0, 0, 0), (84, .bipush 24, 0, 0, 0, 0, 24, 0), (86, .if_icmp .ne 6, 51, 0, 0, 0, 0, 0), (89, .bipush (-4), 0, 0, 0, 0, (-4), 0), (91, .ireturn, 0, 0, 0, 0, 0, 0), (92, .aload_n 0, 0, 0, 0, 0, 0, 0), (93, .getfield 38, 6, 11, 1, 0, 0, 0), (96, .bipush 24, 0, 0, 0, 0, 24, 0), (98, .iload_n 3, 3, 0, 0, 0, 0, 0), (99, .iastore, 0, 0, 0, 0, 0, 0), (100, .aload_n 0, 0, 0, 0, 0, 0, 0), (101, .getfield 41, 6, 12, 1, 0, 0, 0), (104, .bipush 24, 0, 0, 0, 0, 24, 0), (106, .iload_n 2, 2, 0, 0, 0, 0, 0), (107, .iastore, 0, 0, 0, 0, 0, 0), (108, .iconst 0, 0, 0, 0, 0, 0, 0), (109, .istore 4, 4, 0, 0, 0, 0, 0), (111, .iload 4, 4, 0, 0, 0, 0, 0), (113, .aload_n 0, 0, 0, 0, 0, 0, 0), (114, .getfield 13, 6, 2, 1, 0, 0, 0), (117, .iload_n 3, 3, 0, 0, 0, 0, 0), (118, .iaload, 0, 0, 0, 0, 0, 0), (119, .if_icmp .ge 119, 130, 0, 0, 0, 0, 0), (122, .aload_n 0, 0, 0, 0, 0, 0, 0), (123, .iload_n 3, 3, 0, 0, 0, 0, 0), (124, .iload 4, 4, 0, 0, 0, 0, 0), (126, .invokevirtual 103, 116, 3, 1, 6, 0, 0), (129, .istore 5, 5, 0, 0, 0, 0, 0), (131, .aload_n 0, 0, 0, 0, 0, 0, 0), (132, .iload_n 3, 3, 0, 0, 0, 0, 0), (133, .iload 4, 4, 0, 0, 0, 0, 0), (135, .invokevirtual 99, 117, 3, 1, 6, 0, 0), (138, .istore 6, 6, 0, 0, 0, 0, 0), (140, .iconst 0, 0, 0, 0, 0, 0, 0), (141, .istore 7, 7, 0, 0, 0, 0, 0), (143, .aload_n 0, 0, 0, 0, 0, 0, 0), (144, .iload_n 2, 2, 0, 0, 0, 0, 0), (145, .iload 7, 7, 0, 0, 0, 0, 0), (147, .invokevirtual 103, 116, 3, 1, 6, 0, 0), (150, .aload_n 0, 0, 0, 0, 0, 0, 0), (151, .getfield 74, 6, 28, 1, 0, 0, 0), (154, .iload 5, 5, 0, 0, 0, 0, 0), (156, .iaload, 0, 0, 0, 0, 0, 0), (157, .if_icmp .ne 56, 119, 0, 0, 0, 0, 0), (160, .aload_n 0, 0, 0, 0, 0, 0, 0), (161, .iload_n 2, 2, 0, 0, 0, 0, 0), (162, .iload 7, 7, 0, 0, 0, 0, 0), (164, .invokevirtual 99, 117, 3, 1, 6, 0, 0), (167, .aload_n 0, 0, 0, 0, 0, 0, 0), (168, .getfield 74, 6, 28, 1, 0, 0, 0), (171, .iload 6, 6, 0, 0, 0, 0, 0), (173, .iaload, 0, 0, 0, 0, 0, 0), (174, .if_icmp .ne 39, 119, 0, 0, 0, 0, 0), (177, .aload_n 0, 0, 0, 0, 0, 0, 0), (178, .iload_n 3, 3, 0, 0, 0, 0, 0), (179, .aload_n 0, 0, 0, 0, 0, 0, 0), (180, .iload_n 1, 1, 0, 0, 0, 0, 0), (181, .iload 7, 7, 0, 0, 0, 0, 0), (183, .invokevirtual 168, 145, 3, 1, 6, 0, 0), (186, .aload_n 0, 0, 0, 0, 0, 0, 0), (187, .getfield 77, 6, 29, 1, 0, 0, 0), (190, .iload 6, 6, 0, 0, 0, 0, 0), (192, .iaload, 0, 0, 0, 0, 0, 0), (193, .invokevirtual 118, 118, 4, 1, 6, 0, 0), (196, .aload_n 0, 0, 0, 0, 0, 0, 0), (197, .iload_n 3, 3, 0, 0, 0, 0, 0), (198, .aload_n 0, 0, 0, 0, 0, 0, 0), (199, .getfield 77, 6, 29, 1, 0, 0, 0), (202, .iload 5, 5, 0, 0, 0, 0, 0), (204, .iaload, 0, 0, 0, 0, 0, 0), (205, .iload 4, 4, 0, 0, 0, 0, 0), (207, .invokevirtual 118, 118, 4, 1, 6, 0, 0), (210, .if_icmp .eq 9, 121, 0, 0, 0, 0, 0), (213, .iinc 7 1, 7, 0, 0, 0, 1, 0), (216, .goto (-73), 81, 0, 0, 0, 0, 0), (219, .aload_n 0, 0, 0, 0, 0, 0, 0), (220, .getfield 44, 6, 13, 1, 0, 0, 0), (223, .sipush 576, 0, 0, 0, 0, 576, 0), (226, .iload 4, 4, 0, 0, 0, 0, 0), (228, .iadd, 0, 0, 0, 0, 0, 0), (229, .iload 7, 7, 0, 0, 0, 0, 0), (231, .iastore, 0, 0, 0, 0, 0, 0), (232, .iinc 4 1, 4, 0, 0, 0, 1, 0), (235, .goto (-124), 63, 0, 0, 0, 0, 0), (238, .aload_n 0, 0, 0, 0, 0, 0, 0), (239, .invokevirtual 161, 142, 1, 1, 6, 0, 0), (242, .ireturn, 0, 0, 0, 0, 0, 0)]
def az_p176 : List az_I := [(0, .aload_n 0, 0, 0, 0, 0, 0, 0), (1, .iconst 0, 0, 0, 0, 0, 0, 0), (2, .putfield 248, 6, 30, 0, 0, 0, 0), (5, .iconst 0, 0, 0, 0, 0, 0, 0), (6, .istore_n 3, 3, 0, 0, 0, 0, 0), (7, .iload_n 3, 3, 0, 0, 0, 0, 0), (8, .aload_n 0, 0, 0, 0, 0, 0, 0), (9, .getfield 13, 6, 2, 1, 0, 0, 0), (12, .iload_n 1, 1, 0, 0, 0, 0, 0), (13, .iaload, 0, 0, 0, 0, 0, 0), (14, .if_icmp .ge 39, 31, 0, 0, 0, 0, 0), (17, .aload_n 0, 0, 0, 0, 0, 0, 0), (18, .iload_n 1, 1, 0, 0, 0, 0, 0), (19, .iload_n 3, 3, 0, 0, 0, 0, 0), (20, .invokevirtual 99, 117, 3, 1, 6, 0, 0), (23, .iload_n 2, 2, 0, 0, 0, 0, 0), (24, .if_icmp .ne 23, 29, 0, 0, 0, 0, 0), (27, .aload_n 0, 0, 0, 0, 0, 0, 0), (28, .getfield 80, 6, 31, 1, 0, 0, 0), (31, .aload_n 0, 0, 0, 0, 0, 0, 0), (32, .getfield 248, 6, 30, 0, 0, 0, 0), (35, .iload_n 3, 3, 0, 0, 0, 0, 0), (36, .iastore, 0, 0, 0, 0, 0, 0), (37, .aload_n 0, 0, 0, 0, 0, 0, 0), (38, .dup, 0, 0, 0, 0, 0, 0), (39, .getfield 248, 6, 30, 0, 0, 0, 0), (42, .iconst 1, 0, 0, 0, 0, 1, 0), (43, .iadd, 0, 0, 0, 0, 0, 0), (44, .putfield 248, 6, 30, 0, 0, 0, 0), (47, .iinc 3 1, 3, 0, 0, 0, 1, 0), (50, .goto (-43), 5, 0, 0, 0, 0, 0), (53, .return_, 0, 0, 0, 0, 0, 0)]
def az_p177 : List az_I := [(0, .iload_n 3, 3, 0, 0, 0, 0, 0), (1, .ifCond .lt 14, 9, 0, 0, 0, 0, 0), (4, .iload_n 3, 3, 0, 0, 0, 0, 0), (5, .aload_n 0, 0, 0, 0, 0, 0, 0), (6, .getfield 13, 6, 2, 1, 0, 0, 0), (9, .iload_n 1, 1, 0, 0, 0, 0, 0), (10, .iaload, 0, 0, 0, 0, 0, 0), (11, .ishr, 0, 0, 0, 0, 0, 0), (12, .ifCond .eq 5, 11, 0, 0, 0, 0, 0), (15, .iconst 0, 0, 0, 0, 0, 0, 0), (16, .ireturn, 0, 0, 1, 0, 0, 0), (17, .iconst 0, 0, 0, 0, 0, 0, 0), (18, .istore 4, 4, 0, 0, 0, 0, 0), (20, .iload 4, 4, 0, 0, 0, 0, 0), (22, .aload_n 0, 0, 0, 0, 0, 0, 0), (23, .getfield 13, 6, 2, 1, 0, 0, 0), (26, .iload_n 1, 1, 0, 0, 0, 0, 0), (27, .iaload, 0, 0, 0, 0, 0, 0), (28, .if_icmp .ge 87, 67, 0, 0, 0, 0, 0), (31, .iload_n 3, 3, 0, 0, 0, 0, 0), (32, .iload 4, 4, 0, 0, 0, 0, 0), (34, .ishr, 0, 0, 0, 0, 0, 0), (35, .iconst 1, 0, 0, 0, 0, 1, 0), (36, .iand, 0, 0, 0, 0, 0, 0), (37, .iconst 1, 0, 0, 0, 0, 1, 0), (38, .if_icmp .ne 71, 65, 0, 0, 0, 0, 0), (41, .aload_n 0, 0, 0, 0, 0, 0, 0), (42, .iload_n 1, 1, 0, 0, 0, 0, 0), (43, .iload 4, 4, 0, 0, 0, 0, 0), (45, .invokevirtual 99, 117, 3, 1, 6, 0, 0), (48, .iload_n 2, 2, 0, 0, 0, 0, 0), (49, .if_icmp .eq 5, 34, 0, 0, 0, 0, 0), (52, .iconst 0, 0, 0, 0, 0, 0, 0), (53, .ireturn, 0, 0, 1, 0, 0, 0), (54, .iconst 0, 0, 0, 0, 0, 0, 0), (55, .istore 5, 5, 0, 0, 0, 0, 0), (57, .iload 5, 5, 0, 0, 0, 0, 0), (59, .aload_n 0, 0, 0, 0, 0, 0, 0), (60, .getfield 13, 6, 2, 1, 0, 0, 0), (63, .iload_n 1, 1, 0, 0, 0, 0, 0), (64, .iaload, 0, 0, 0, 0, 0, 0), (65, .if_icmp .ge 44, 65, 0, 0, 0, 0, 0), (68, .aload_n 0, 0, 0, 0, 0, 0, 0), (69, .iload_n 1, 1, 0, 0, 0, 0, 0), (70, .iload 5, 5, 0, 0, 0, 0, 0), (72, .invokevirtual 99, 117, 3, 1, 6, 0, 0), (75, .aload_n 0, 0, 0, 0, 0, 0, 0), (76, .iload_n 1, 1, 0, 0, 0, 0, 0), (77, .iload 4, 4, 0, 0, 0, 0, 0), (79, .invokevirtual 103, 116, 3, 1, 6, 0, 0), (82, .if_icmp .ne 21, 63, 0, 0, 0, 0, 0), (85, .iload_n 3, 3, 0, 0, 0, 0, 0), (86, .aload_n 0, 0, 0, 0, 0, 0, 0), (87, .iload_n 1, 1, 0, 0, 0, 0, 0), (88, .iload 5, 5, 0, 0, 0, 0, 0), (90, .iload 4, 4, 0, 0, 0, 0, 0), (92, .invokevirtual 118, 118, 4, 1, 6, 0, 0), (95, .ishr, 0, 0, 0, 0, 0, 0), (96, .iconst 1, 0, 0, 0, 0, 1, 0), (97, .iand, 0, 0, 0, 0, 0, 0), (98, .ifCond .ne 5, 63, 0, 0, 0, 0, 0), (101, .iconst 0, 0, 0, 0, 0, 0, 0), (102, .ireturn, 0, 0, 1, 0, 0, 0), (103, .iinc 5 1, 5, 0, 0, 0, 1, 0), (106, .goto (-49), 36, 0, 0, 0, 0, 0), (109, .iinc 4 1, 4, 0, 0, 0, 1, 0), (112, .goto (-92), 13, 0, 0, 0, 0, 0), (115, .iconst 1, 0, 0, 0, 0, 1, 0), (116, .ireturn, 0, 0, 1, 0, 0, 0)]
def az_p178 : List az_I := [(0, .aload_n 0, 0, 0, 0, 0, 0, 0), (1, .iload_n 1, 1, 0, 0, 0, 0, 0), (2, .iload_n 2, 2, 0, 0, 0, 0, 0), (3, .invokevirtual 251, 176, 3, 0, 6, 0, 0), (6, .iconst 0, 0, 0, 0, 0, 0, 0), (7, .istore 4, 4, 0, 0, 0, 0, 0), (9, .iconst 0, 0, 0, 0, 0, 0, 0), (10, .istore 5, 5, 0, 0, 0, 0, 0), (12, .iload 5, 5, 0, 0, 0, 0, 0), (14, .iconst 1, 0, 0, 0, 0, 1, 0), (15, .aload_n 0, 0, 0, 0, 0, 0, 0), (16, .getfield 248, 6, 30, 0, 0, 0, 0), (19, .ishl, 0, 0, 0, 0, 0, 0), (20, .if_icmp .ge 81, 56, 0, 0, 0, 0, 0), (23, .iconst 0, 0, 0, 0, 0, 0, 0), (24, .istore 6, 6, 0, 0, 0, 0, 0), (26, .iconst 0, 0, 0, 0, 0, 0, 0), (27, .istore 7, 7, 0, 0, 0, 0, 0), (29, .iload 7, 7, 0, 0, 0, 0, 0), (31, .aload_n 0, 0, 0, 0, 0, 0, 0), (32, .getfield 248, 6, 30, 0, 0, 0, 0), (35, .if_icmp .ge 29, 37, 0, 0, 0, 0, 0), (38, .iload 6, 6, 0, 0, 0, 0, 0), (40, .iload 5, 5, 0, 0, 0, 0, 0), (42, .iload 7, 7, 0, 0, 0, 0, 0), (44, .ishr, 0, 0, 0, 0, 0, 0), (45, .iconst 1, 0, 0, 0, 0, 1, 0), (46, .iand, 0, 0, 0, 0, 0, 0), (47, .aload_n 0, 0, 0, 0, 0, 0, 0), (48, .getfield 80, 6, 31, 1, 0, 0, 0), (51, .iload 7, 7, 0, 0, 0, 0, 0), (53, .iaload, 0, 0, 0, 0, 0, 0), (54, .ishl, 0, 0, 0, 0, 0, 0), (55, .ior, 0, 0, 0, 0, 0, 0), (56, .istore 6, 6, 0, 0, 0, 0, 0), (58, .iinc 7 1, 7, 0, 0, 0, 1, 0), (61, .goto (-32), 18, 0, 0, 0, 0, 0), (64, .aload_n 0, 0, 0, 0, 0, 0, 0), (65, .iload_n 1, 1, 0, 0, 0, 0, 0), (66, .iload_n 2, 2, 0, 0, 0, 0, 0), (67, .iload 6, 6, 0, 0, 0, 0, 0), (69, .invokevirtual 254, 177, 4, 1, 6, 0, 0), (72, .ifCond .eq 23, 54, 0, 0, 0, 0, 0), (75, .iinc 4 1, 4, 0, 0, 0, 1, 0), (78, .iload 4, 4, 0, 0, 0, 0, 0), (80, .iload_n 3, 3, 0, 0, 0, 0, 0), (81, .iconst 1, 0, 0, 0, 0, 1, 0), (82, .iadd, 0, 0, 0, 0, 0, 0), (83, .if_icmp .ne 12, 54, 0, 0, 0, 0, 0), (86, .aload_n 0, 0, 0, 0, 0, 0, 0), (87, .iload 6, 6, 0, 0, 0, 0, 0), (89, .putfield 257, 6, 32, 0, 0, 0, 0), (92, .iload 4, 4, 0, 0, 0, 0, 0), (94, .ireturn, 0, 0, 0, 0, 0, 0), (95, .iinc 5 1, 5, 0, 0, 0, 1, 0), (98, .goto (-86), 8, 0, 0, 0, 0, 0), (101, .iload 4, 4, 0, 0, 0, 0, 0), (103, .ireturn, 0, 0, 0, 0, 0, 0)]
def az_p179 : List az_I := [(0, .aload_n 0, 0, 0, 0, 0, 0, 0), (1, .getfield 16, 6, 3, 1, 0, 0, 0), (4, .iload_n 1, 1, 0, 0, 0, 0, 0), (5, .baload, 0, 0, 0, 0, 0, 0), (6, .ifCond .ne 6, 7, 0, 0, 0, 0, 0), (9, .bipush (-3), 0, 0, 0, 0, (-3), 0), (11, .ireturn, 0, 0, 0, 0, 0, 0), (12, .aload_n 0, 0, 0, 0, 0, 0, 0), (13, .iload_n 1, 1, 0, 0, 0, 0, 0), (14, .iload_n 2, 2, 0, 0, 0, 0, 0), (15, .invokevirtual 251, 176, 3, 0, 6, 0, 0), (18, .aload_n 0, 0, 0, 0, 0, 0, 0), (19, .getfield 248, 6, 30, 0, 0, 0, 0), (22, .bipush 12, 0, 0, 0, 0, 12, 0), (24, .if_icmp .le 8, 17, 0, 0, 0, 0, 0), (27, .bipush (-5), 0, 0, 0, 0, (-5), 0), (29, .goto 4, 18, 0, 0, 0, 0, 0), (32, .iconst 0, 0, 0, 0, 0, 0, 0), (33, .ireturn, 0, 0, 0, 0, 0, 0)]
def az_p180 : List az_I := [(0, .aload_n 0, 0, 0, 0, 0, 0, 0), (1, .iload_n 1, 1, 0, 0, 0, 0, 0), (2, .invokevirtual 91, 112, 2, 1, 6, 0, 0), (5, .ifCond .eq 23, 16, 0, 0, 0, 0, 0), (8, .iload_n 2, 2, 0, 0, 0, 0, 0), (9, .iconst 0, 0, 0, 0, 0, 0, 0), (10, .aload_n 0, 0, 0, 0, 0, 0, 0), (11, .getfield 7, 6, 1, 1, 0, 0, 0), (14, .iload_n 1, 1, 0, 0, 0, 0, 0), (15, .iaload, 0, 0, 0, 0, 0, 0), (16, .iconst 1, 0, 0, 0, 0, 1, 0), (17, .isub, 0, 0, 0, 0, 0, 0), (18, .invokestatic 87, 111, 3, 1, 0, 0, 0), (21, .ifCond .eq 7, 16, 0, 0, 0, 0, 0), (24, .iconst 1, 0, 0, 0, 0, 1, 0), (25, .goto 4, 17, 0, 0, 0, 0, 0), (28, .iconst 0, 0, 0, 0, 0, 0, 0), (29, .ireturn, 0, 0, 1, 0, 0, 0)]
def az_p181 : List az_I := [(0, .aload_n 0, 0, 0, 0, 0, 0, 0), (1, .iload_n 1, 1, 0, 0, 0, 0, 0), (2, .iload_n 2, 2, 0, 0, 0, 0, 0), (3, .invokevirtual 260, 180, 3, 1, 6, 0, 0), (6, .ifCond .ne 6, 7, 0, 0, 0, 0, 0), (9, .bipush (-2), 0, 0, 0, 0, (-2), 0), (11, .ireturn, 0, 0, 0, 0, 0, 0), (12, .aload_n 0, 0, 0, 0, 0, 0, 0), (13, .iload_n 1, 1, 0, 0, 0, 0, 0), (14, .iload_n 2, 2, 0, 0, 0, 0, 0), (15, .invokevirtual 263, 179, 3, 1, 6, 0, 0), (18, .istore_n 3, 3, 0, 0, 0, 0, 0), (19, .iload_n 3, 3, 0, 0, 0, 0, 0), (20, .ifCond .eq 7, 16, 0, 0, 0, 0, 0), (23, .iload_n 3, 3, 0, 0, 0, 0, 0), (24, .goto 11, 21, 0, 0, 0, 0, 0), (27, .aload_n 0, 0, 0, 0, 0, 0, 0), (28, .iload_n 1, 1, 0, 0, 0, 0, 0), (29, .iload_n 2, 2, 0, 0, 0, 0, 0), (30, .bipush (-2), 0, 0, 0, 0, (-2), 0), (32, .invokevirtual 266, 178, 4, 1, 6, 0, 0), (35, .ireturn, 0, 0, 0, 0, 0, 0)]
def az_p182 : List az_I := [(0, .aload_n 0, 0, 0, 0, 0, 0, 0), (1, .iload_n 1, 1, 0, 0, 0, 0, 0), (2, .iload_n 2, 2, 0, 0, 0, 0, 0), (3, .invokevirtual 260, 180, 3, 1, 6, 0, 0), (6, .ifCond .eq 7, 7, 0, 0, 0, 0, 0), (9, .iload_n 3, 3, 0, 0, 0, 0, 0), (10, .ifCond .ge 6, 9, 0, 0, 0, 0, 0), (13, .bipush (-2), 0, 0, 0, 0, (-2), 0), (15, .ireturn, 0, 0, 0, 0, 0, 0), (16, .aload_n 0, 0, 0, 0, 0, 0, 0), (17, .iload_n 1, 1, 0, 0, 0, 0, 0), (18, .iload_n 2, 2, 0, 0, 0, 0, 0), (19, .invokevirtual 263, 179, 3, 1, 6, 0, 0), (22, .istore 4, 4, 0, 0, 0, 0, 0), (24, .iload 4, 4, 0, 0, 0, 0, 0), (26, .ifCond .eq 8, 18, 0, 0, 0, 0, 0), (29, .iload 4, 4, 0, 0, 0, 0, 0), (31, .goto 24, 31, 0, 0, 0, 0, 0), (34, .aload_n 0, 0, 0, 0, 0, 0, 0), (35, .iload_n 1, 1, 0, 0, 0, 0, 0), (36, .iload_n 2, 2, 0, 0, 0, 0, 0), (37, .iload_n 3, 3, 0, 0, 0, 0, 0), (38, .invokevirtual 266, 178, 4, 1, 6, 0, 0), (41, .iload_n 3, 3, 0, 0, 0, 0, 0), (42, .iconst 1, 0, 0, 0, 0, 1, 0), (43, .iadd, 0, 0, 0, 0, 0, 0), (44, .if_icmp .ne 10, 30, 0, 0, 0, 0, 0), (47, .aload_n 0, 0, 0, 0, 0, 0, 0), (48, .getfield 257, 6, 32, 0, 0, 0, 0), (51, .goto 4, 31, 0, 0, 0, 0, 0), (54, .iconst (-1), 0, 0, 0, 0, (-1), 0), (55, .ireturn, 0, 0, 0, 0, 0, 0)]
def az_p183 : List az_I := [(0, .iconst 0, 0, 0, 0, 0, 0, 0), (1, .istore 4, 4, 0, 0, 0, 0, 0), (3, .iconst 0, 0, 0, 0, 0, 0, 0), (4, .istore 5, 5, 0, 0, 0, 0, 0), (6, .iload 5, 5, 0, 0, 0, 0, 0), (8, .aload_n 0, 0, 0, 0, 0, 0, 0), (9, .getfield 13, 6, 2, 1, 0, 0, 0), (12, .iload_n 1, 1, 0, 0, 0, 0, 0), (13, .iaload, 0, 0, 0, 0, 0, 0), (14, .if_icmp .ge 50, 38, 0, 0, 0, 0, 0), (17, .aload_n 0, 0, 0, 0, 0, 0, 0), (18, .iload_n 1, 1, 0, 0, 0, 0, 0), (19, .iload 5, 5, 0, 0, 0, 0, 0), (21, .invokevirtual 99, 117, 3, 1, 6, 0, 0), (24, .aload_n 0, 0, 0, 0, 0, 0, 0), (25, .iload_n 1, 1, 0, 0, 0, 0, 0), (26, .iload_n 3, 3, 0, 0, 0, 0, 0), (27, .invokevirtual 103, 116, 3, 1, 6, 0, 0), (30, .if_icmp .ne 28, 36, 0, 0, 0, 0, 0), (33, .iload_n 2, 2, 0, 0, 0, 0, 0), (34, .aload_n 0, 0, 0, 0, 0, 0, 0), (35, .iload_n 1, 1, 0, 0, 0, 0, 0), (36, .iload 5, 5, 0, 0, 0, 0, 0), (38, .iload_n 3, 3, 0, 0, 0, 0, 0), (39, .invokevirtual 118, 118, 4, 1, 6, 0, 0), (42, .ishr, 0, 0, 0, 0, 0, 0), (43, .iconst 1, 0, 0, 0, 0, 1, 0), (44, .iand, 0, 0, 0, 0, 0, 0), (45, .iconst 1, 0, 0, 0, 0, 1, 0), (46, .if_icmp .ne 12, 36, 0, 0, 0, 0, 0), (49, .iload 4, 4, 0, 0, 0, 0, 0), (51, .iconst 1, 0, 0, 0, 0, 1, 0), (52, .iload 5, 5, 0, 0, 0, 0, 0), (54, .ishl, 0, 0, 0, 0, 0, 0), (55, .ior, 0, 0, 0, 0, 0, 0), (56, .istore 4, 4, 0, 0, 0, 0, 0), (58, .iinc 5 1, 5, 0, 0, 0, 1, 0), (61, .goto (-55), 4, 0, 0, 0, 0, 0), (64, .iload 4, 4, 0, 0, 0, 0, 0), (66, .ireturn, 0, 0, 0, 0, 0, 0)]
def az_p184 : List az_I := [(0, .aload_n 0, 0, 0, 0, 0, 0, 0), (1, .iload_n 1, 1, 0, 0, 0, 0, 0), (2, .iload_n 2, 2, 0, 0, 0, 0, 0), (3, .invokevirtual 260, 180, 3, 1, 6, 0, 0), (6, .ifCond .eq 13, 10, 0, 0, 0, 0, 0), (9, .aload_n 0, 0, 0, 0, 0, 0, 0), (10, .iload_n 1, 1, 0, 0, 0, 0, 0), (11, .iload 4, 4, 0, 0, 0, 0, 0), (13, .invokevirtual 110, 113, 3, 1, 6, 0, 0), (16, .ifCond .ne 6, 12, 0, 0, 0, 0, 0), (19, .bipush (-2), 0, 0, 0, 0, (-2), 0), (21, .ireturn, 0, 0, 0, 0, 0, 0), (22, .aload_n 0, 0, 0, 0, 0, 0, 0), (23, .getfield 16, 6, 3, 1, 0, 0, 0), (26, .iload_n 1, 1, 0, 0, 0, 0, 0), (27, .baload, 0, 0, 0, 0, 0, 0), (28, .ifCond .eq 24, 29, 0, 0, 0, 0, 0), (31, .aload_n 0, 0, 0, 0, 0, 0, 0), (32, .iload_n 1, 1, 0, 0, 0, 0, 0), (33, .iload_n 2, 2, 0, 0, 0, 0, 0), (34, .iload_n 3, 3, 0, 0, 0, 0, 0), (35, .invokevirtual 254, 177, 4, 1, 6, 0, 0), (38, .ifCond .eq 14, 29, 0, 0, 0, 0, 0), (41, .aload_n 0, 0, 0, 0, 0, 0, 0), (42, .iload_n 1, 1, 0, 0, 0, 0, 0), (43, .iload 4, 4, 0, 0, 0, 0, 0), (45, .invokevirtual 99, 117, 3, 1, 6, 0, 0), (48, .iload_n 2, 2, 0, 0, 0, 0, 0), (49, .if_icmp .eq 6, 31, 0, 0, 0, 0, 0), (52, .bipush (-3), 0, 0, 0, 0, (-3), 0), (54, .ireturn, 0, 0, 0, 0, 0, 0), (55, .aload_n 0, 0, 0, 0, 0, 0, 0), (56, .iload_n 1, 1, 0, 0, 0, 0, 0), (57, .iload_n 3, 3, 0, 0, 0, 0, 0), (58, .iload 4, 4, 0, 0, 0, 0, 0), (60, .invokevirtual 269, 183, 4, 1, 6, 0, 0), (63, .ireturn, 0, 0, 0, 0, 0, 0)]
def az_p185 : List az_I := [(0, .aload_n 0, 0, 0, 0, 0, 0, 0), (1, .iload_n 1, 1, 0, 0, 0, 0, 0), (2, .iload_n 2, 2, 0, 0, 0, 0, 0), (3, .invokevirtual 260, 180, 3, 1, 6, 0, 0), (6, .ifCond .ne 6, 7, 0, 0, 0, 0, 0), (9, .bipush (-2), 0, 0, 0, 0, (-2), 0), (11, .ireturn, 0, 0, 0, 0, 0, 0), (12, .aload_n 0, 0, 0, 0, 0, 0, 0), (13, .getfield 16, 6, 3, 1, 0, 0, 0), (16, .iload_n 1, 1, 0, 0, 0, 0, 0), (17, .baload, 0, 0, 0, 0, 0, 0), (18, .ifCond .eq 24, 24, 0, 0, 0, 0, 0), (21, .aload_n 0, 0, 0, 0, 0, 0, 0), (22, .iload_n 1, 1, 0, 0, 0, 0, 0), (23, .iload_n 2, 2, 0, 0, 0, 0, 0), (24, .iload_n 3, 3, 0, 0, 0, 0, 0), (25, .invokevirtual 254, 177, 4, 1, 6, 0, 0), (28, .ifCond .eq 14, 24, 0, 0, 0, 0, 0), (31, .aload_n 0, 0, 0, 0, 0, 0, 0), (32, .iload_n 1, 1, 0, 0, 0, 0, 0), (33, .iload_n 2, 2, 0, 0, 0, 0, 0), (34, .iload 4, 4, 0, 0, 0, 0, 0), (36, .invokevirtual 254, 177, 4, 1, 6, 0, 0), (39, .ifCond .ne 6, 26, 0, 0, 0, 0, 0), (42, .bipush (-3), 0, 0, 0, 0, (-3), 0), (44, .ireturn, 0, 0, 0, 0, 0, 0), (45, .iconst 0, 0, 0, 0, 0, 0, 0), (46, .istore 5, 5, 0, 0, 0, 0, 0), (48, .iconst 0, 0, 0, 0, 0, 0, 0), (49, .istore 6, 6, 0, 0, 0, 0, 0), (51, .iload 6, 6, 0, 0, 0, 0, 0), (53, .aload_n 0, 0, 0, 0, 0, 0, 0), (54, .getfield 13, 6, 2, 1, 0, 0, 0), (57, .iload_n 1, 1, 0, 0, 0, 0, 0), (58, .iaload, 0, 0, 0, 0, 0, 0), (59, .if_icmp .ge 52, 64, 0, 0, 0, 0, 0), (62, .aload_n 0, 0, 0, 0, 0, 0, 0), (63, .iload_n 1, 1, 0, 0, 0, 0, 0), (64, .iload 6, 6, 0, 0, 0, 0, 0), (66, .invokevirtual 99, 117, 3, 1, 6, 0, 0), (69, .iload_n 2, 2, 0, 0, 0, 0, 0), (70, .if_icmp .ne 35, 62, 0, 0, 0, 0, 0), (73, .aload_n 0, 0, 0, 0, 0, 0, 0), (74, .iload_n 1, 1, 0, 0, 0, 0, 0), (75, .iload_n 3, 3, 0, 0, 0, 0, 0), (76, .iload 6, 6, 0, 0, 0, 0, 0), (78, .invokevirtual 269, 183, 4, 1, 6, 0, 0), (81, .aload_n 0, 0, 0, 0, 0, 0, 0), (82, .iload_n 1, 1, 0, 0, 0, 0, 0), (83, .iload 4, 4, 0, 0, 0, 0, 0), (85, .iload 6, 6, 0, 0, 0, 0, 0), (87, .invokevirtual 269, 183, 4, 1, 6, 0, 0), (90, .iconst (-1), 0, 0, 0, 0, (-1), 0), (91, .ixor, 0, 0, 0, 0, 0, 0), (92, .iand, 0, 0, 0, 0, 0, 0), (93, .ifCond .ne 12, 62, 0, 0, 0, 0, 0), (96, .iload 5, 5, 0, 0, 0, 0, 0), (98, .iconst 1, 0, 0, 0, 0, 1, 0), (99, .iload 6, 6, 0, 0, 0, 0, 0), (101, .ishl, 0, 0, 0, 0, 0, 0), (102, .ior, 0, 0, 0, 0, 0, 0), (103, .istore 5, 5, 0, 0, 0, 0, 0), (105, .iinc 6 1, 6, 0, 0, 0, 1, 0), (108, .goto (-57), 30, 0, 0, 0, 0, 0), (111, .iload 5, 5, 0, 0, 0, 0, 0), (113, .ireturn, 0, 0, 0, 0, 0, 0)]
def az_p186 : List az_I := [(0, .iload_n 1, 1, 0, 0, 0, 0, 0), (1, .ifCond .ne 10, 5, 0, 0, 0, 0, 0), (4, .aload_n 0, 0, 0, 0, 0, 0, 0), (5, .getfield 83, 6, 0, 0, 0, 0, 0), (8, .goto 29, 18, 0, 0, 0, 0, 0), (11, .iload_n 1, 1, 0, 0, 0, 0, 0), (12, .iconst 1, 0, 0, 0, 0, 1, 0), (13, .if_icmp .ne 10, 11, 0, 0, 0, 0, 0), (16, .aload_n 0, 0, 0, 0, 0, 0, 0), (17, .getfield 138, 6, 10, 0, 0, 0, 0), (20, .goto 17, 18, 0, 0, 0, 0, 0), (23, .iload_n 1, 1, 0, 0, 0, 0, 0), (24, .iconst 2, 0, 0, 0, 0, 2, 0), (25, .if_icmp .ne 10, 17, 0, 0, 0, 0, 0), (28, .aload_n 0, 0, 0, 0, 0, 0, 0), (29, .getfield 144, 6, 14, 0, 0, 0, 0), (32, .goto 5, 18, 0, 0, 0, 0, 0), (35, .bipush (-2), 0, 0, 0, 0, (-2), 0), (37, .ireturn, 0, 0, 0, 0, 0, 0)]
def az_p187 : List az_I := [(0, .ldc2_w 272, 0, 0, 0, 0, 0, 97), (3, .lstore_n 1, 1, 0, 0, 0, 0, 0), (4, .iconst 0, 0, 0, 0, 0, 0, 0), (5, .istore_n 3, 3, 0, 0, 0, 0, 0), (6, .iload_n 3, 3, 0, 0, 0, 0, 0), (7, .aload_n 0, 0, 0, 0, 0, 0, 0), (8, .getfield 83, 6, 0, 0, 0, 0, 0), (11, .if_icmp .ge 160, 99, 0, 0, 0, 0, 0), (14, .ldc2_w 274, 0, 0, 0, 0, 0, 31), (17, .ldc2_w 274, 0, 0, 0, 0, 0, 31), (20, .ldc2_w 274, 0, 0, 0, 0, 0, 31), (23, .lload_n 1, 1, 0, 0, 0, 0, 0), (24, .lmul, 0, 0, 0, 0, 0, 0), (25, .aload_n 0, 0, 0, 0, 0, 0, 0), (26, .getfield 7, 6, 1, 1, 0, 0, 0), (29, .iload_n 3, 3, 0, 0, 0, 0, 0), (30, .iaload, 0, 0, 0, 0, 0, 0), (31, .i2l, 0, 0, 0, 0, 0, 0), (32, .ladd, 0, 0, 0, 0, 0, 0), (33, .lmul, 0, 0, 0, 0, 0, 0), (34, .aload_n 0, 0, 0, 0, 0, 0, 0), (35, .getfield 13, 6, 2, 1, 0, 0, 0), (38, .iload_n 3, 3, 0, 0, 0, 0, 0), (39, .iaload, 0, 0, 0, 0, 0, 0), (40, .i2l, 0, 0, 0, 0, 0, 0), (41, .ladd, 0, 0, 0, 0, 0, 0), (42, .lmul, 0, 0, 0, 0, 0, 0), (43, .aload_n 0, 0, 0, 0, 0, 0, 0), (44, .getfield 16, 6, 3, 1, 0, 0, 0), (47, .iload_n 3, 3, 0, 0, 0, 0, 0), (48, .baload, 0, 0, 0, 0, 0, 0), (49, .ifCond .eq 7, 34, 0, 0, 0, 0, 0), (52, .iconst 1, 0, 0, 0, 0, 1, 0), (53, .goto 4, 35, 0, 0, 0, 0, 0), (56, .iconst 0, 0, 0, 0, 0, 0, 0), (57, .i2l, 0, 0, 0, 0, 0, 0), (58, .ladd, 0, 0, 0, 0, 0, 0), (59, .lstore_n 1, 1, 0, 0, 0, 0, 0), (60, .iconst 0, 0, 0, 0, 0, 0, 0), (61, .istore 4, 4, 0, 0, 0, 0, 0), (63, .iload 4, 4, 0, 0, 0, 0, 0), (65, .aload_n 0, 0, 0, 0, 0, 0, 0), (66, .getfield 13, 6, 2, 1, 0, 0, 0), (69, .iload_n 3, 3, 0, 0, 0, 0, 0), (70, .iaload, 0, 0, 0, 0, 0, 0), (71, .if_icmp .ge 37, 66, 0, 0, 0, 0, 0), (74, .ldc2_w 274, 0, 0, 0, 0, 0, 31), (77, .ldc2_w 274, 0, 0, 0, 0, 0, 31), (80, .lload_n 1, 1, 0, 0, 0, 0, 0), (81, .lmul, 0, 0, 0, 0, 0, 0), (82, .aload_n 0, 0, 0, 0, 0, 0, 0), (83, .iload_n 3, 3, 0, 0, 0, 0, 0), (84, .iload 4, 4, 0, 0, 0, 0, 0), (86, .invokevirtual 103, 116, 3, 1, 6, 0, 0), (89, .i2l, 0, 0, 0, 0, 0, 0), (90, .ladd, 0, 0, 0, 0, 0, 0), (91, .lmul, 0, 0, 0, 0, 0, 0), (92, .aload_n 0, 0, 0, 0, 0, 0, 0), (93, .iload_n 3, 3, 0, 0, 0, 0, 0), (94, .iload 4, 4, 0, 0, 0, 0, 0), (96, .invokevirtual 99, 117, 3, 1, 6, 0, 0), (99, .i2l, 0, 0, 0, 0, 0, 0), (100, .ladd, 0, 0, 0, 0, 0, 0), (101, .lstore_n 1, 1, 0, 0, 0, 0, 0), (102, .iinc 4 1, 4, 0, 0, 0, 1, 0), (105, .goto (-42), 40, 0, 0, 0, 0, 0), (108, .iconst 0, 0, 0, 0, 0, 0, 0), (109, .istore 4, 4, 0, 0, 0, 0, 0), (111, .iload 4, 4, 0, 0, 0, 0, 0), (113, .aload_n 0, 0, 0, 0, 0, 0, 0), (114, .getfield 13, 6, 2, 1, 0, 0, 0), (117, .iload_n 3, 3, 0, 0, 0, 0, 0), (118, .iaload, 0, 0, 0, 0, 0, 0), (119, .if_icmp .ge 46, 97, 0, 0, 0, 0, 0), (122, .iconst 0, 0, 0, 0, 0, 0, 0), (123, .istore 5, 5, 0, 0, 0, 0, 0), (125, .iload 5, 5, 0, 0, 0, 0, 0), (127, .aload_n 0, 0, 0, 0, 0, 0, 0), (128, .getfield 13, 6, 2, 1, 0, 0, 0), (131, .iload_n 3, 3, 0, 0, 0, 0, 0), (132, .iaload, 0, 0, 0, 0, 0, 0), (133, .if_icmp .ge 26, 95, 0, 0, 0, 0, 0), (136, .ldc2_w 274, 0, 0, 0, 0, 0, 31), (139, .lload_n 1, 1, 0, 0, 0, 0, 0), (140, .lmul, 0, 0, 0, 0, 0, 0), (141, .aload_n 0, 0, 0, 0, 0, 0, 0), (142, .iload_n 3, 3, 0, 0, 0, 0, 0), (143, .iload 4, 4, 0, 0, 0, 0, 0), (145, .iload 5, 5, 0, 0, 0, 0, 0), (147, .invokevirtual 118, 118, 4, 1, 6, 0, 0), (150, .i2l, 0, 0, 0, 0, 0, 0), (151, .ladd, 0, 0, 0, 0, 0, 0), (152, .lstore_n 1, 1, 0, 0, 0, 0, 0), (153, .iinc 5 1, 5, 0, 0, 0, 1, 0), (156, .goto (-31), 76, 0, 0, 0, 0, 0), (159, .iinc 4 1, 4, 0, 0, 0, 1, 0), (162, .goto (-51), 68, 0, 0, 0, 0, 0), (165, .iinc 3 1, 3, 0, 0, 0, 1, 0), (168, .goto (-162), 4, 0, 0, 0, 0, 0), (171, .iconst 0, 0, 0, 0, 0, 0, 0), (172, .istore_n 3, 3, 0, 0, 0, 0, 0), (173, .iload_n 3, 3, 0, 0, 0, 0, 0), (174, .aload_n 0, 0, 0, 0, 0, 0, 0), (175, .getfield 138, 6, 10, 0, 0, 0, 0), (178, .if_icmp .ge 75, 148, 0, 0, 0, 0, 0), (181, .ldc2_w 274, 0, 0, 0, 0, 0, 31), (184, .ldc2_w 274, 0, 0, 0, 0, 0, 31), (187, .lload_n 1, 1, 0, 0, 0, 0, 0), (188, .lmul, 0, 0, 0, 0, 0, 0), (189, .aload_n 0, 0, 0, 0, 0, 0, 0), (190, .getfield 38, 6, 11, 1, 0, 0, 0), (193, .iload_n 3, 3, 0, 0, 0, 0, 0), (194, .iaload, 0, 0, 0, 0, 0, 0), (195, .i2l, 0, 0, 0, 0, 0, 0), (196, .ladd, 0, 0, 0, 0, 0, 0), (197, .lmul, 0, 0, 0, 0, 0, 0), (198, .aload_n 0, 0, 0, 0, 0, 0, 0), (199, .getfield 41, 6, 12, 1, 0, 0, 0), (202, .iload_n 3, 3, 0, 0, 0, 0, 0), (203, .iaload, 0, 0, 0, 0, 0, 0), (204, .i2l, 0, 0, 0, 0, 0, 0), (205, .ladd, 0, 0, 0, 0, 0, 0), (206, .lstore_n 1, 1, 0, 0, 0, 0, 0), (207, .iconst 0, 0, 0, 0, 0, 0, 0), (208, .istore 4, 4, 0, 0, 0, 0, 0), (210, .iload 4, 4, 0, 0, 0, 0, 0), (212, .aload_n 0, 0, 0, 0, 0, 0, 0), (213, .getfield 13, 6, 2, 1, 0, 0, 0), (216, .aload_n 0, 0, 0, 0, 0, 0, 0), (217, .getfield 38, 6, 11, 1, 0, 0, 0), (220, .iload_n 3, 3, 0, 0, 0, 0, 0), (221, .iaload, 0, 0, 0, 0, 0, 0), (222, .iaload, 0, 0, 0, 0, 0, 0), (223, .if_icmp .ge 24, 146, 0, 0, 0, 0, 0), (226, .ldc2_w 274, 0, 0, 0, 0, 0, 31), (229, .lload_n 1, 1, 0, 0, 0, 0, 0), (230, .lmul, 0, 0, 0, 0, 0, 0), (231, .aload_n 0, 0, 0, 0, 0, 0, 0), (232, .iload_n 3, 3, 0, 0, 0, 0, 0), (233, .iload 4, 4, 0, 0, 0, 0, 0), (235, .invokevirtual 168, 145, 3, 1, 6, 0, 0), (238, .i2l, 0, 0, 0, 0, 0, 0), (239, .ladd, 0, 0, 0, 0, 0, 0), (240, .lstore_n 1, 1, 0, 0, 0, 0, 0), (241, .iinc 4 1, 4, 0, 0, 0, 1, 0), (244, .goto (-34), 125, 0, 0, 0, 0, 0), (247, .iinc 3 1, 3, 0, 0, 0, 1, 0), (250, .goto (-77), 101, 0, 0, 0, 0, 0), (253, .lload_n 1, 1, 0, 0, 0, 0, 0), (254, .lreturn, 0, 0, 0, 0, 0, 0)]
def az_p188 : List az_I := [(0, .iload_n 0, 0, 0, 0, 0, 0, 0), (1, .iload_n 0, 0, 0, 0, 0, 0, 0), (2, .iconst 1, 0, 0, 0, 0, 1, 0), (3, .iushr, 0, 0, 0, 0, 0, 0), (4, .ldc_w 265, 0, 0, 0, 0, 1431655765, 0), (7, .iand, 0, 0, 0, 0, 0, 0), (8, .isub, 0, 0, 0, 0, 0, 0), (9, .istore_n 0, 0, 0, 0, 0, 0, 0), (10, .iload_n 0, 0, 0, 0, 0, 0, 0), (11, .ldc_w 266, 0, 0, 0, 0, 858993459, 0), (14, .iand, 0, 0, 0, 0, 0, 0), (15, .iload_n 0, 0, 0, 0, 0, 0, 0), (16, .iconst 2, 0, 0, 0, 0, 2, 0), (17, .iushr, 0, 0, 0, 0, 0, 0), (18, .ldc_w 266, 0, 0, 0, 0, 858993459, 0), (21, .iand, 0, 0, 0, 0, 0, 0), (22, .iadd, 0, 0, 0, 0, 0, 0), (23, .istore_n 0, 0, 0, 0, 0, 0, 0), (24, .iload_n 0, 0, 0, 0, 0, 0, 0), (25, .iload_n 0, 0, 0, 0, 0, 0, 0), (26, .iconst 4, 0, 0, 0, 0, 4, 0), (27, .iushr, 0, 0, 0, 0, 0, 0), (28, .iadd, 0, 0, 0, 0, 0, 0), (29, .ldc_w 267, 0, 0, 0, 0, 252645135, 0), (32, .iand, 0, 0, 0, 0, 0, 0), (33, .istore_n 0, 0, 0, 0, 0, 0, 0), (34, .iload_n 0, 0, 0, 0, 0, 0, 0), (35, .iload_n 0, 0, 0, 0, 0, 0, 0), (36, .bipush 8, 0, 0, 0, 0, 8, 0), (38, .iushr, 0, 0, 0, 0, 0, 0), (39, .iadd, 0, 0, 0, 0, 0, 0), (40, .istore_n 0, 0, 0, 0, 0, 0, 0), (41, .iload_n 0, 0, 0, 0, 0, 0, 0), (42, .iload_n 0, 0, 0, 0, 0, 0, 0), (43, .bipush 16, 0, 0, 0, 0, 16, 0), (45, .iushr, 0, 0, 0, 0, 0, 0), (46, .iadd, 0, 0, 0, 0, 0, 0), (47, .istore_n 0, 0, 0, 0, 0, 0, 0), (48, .iload_n 0, 0, 0, 0, 0, 0, 0), (49, .bipush 63, 0, 0, 0, 0, 63, 0), (51, .iand, 0, 0, 0, 0, 0, 0), (52, .ireturn, 0, 0, 0, 0, 0, 0)]
def az_p189 : List az_I := [(0, .iconst 0, 0, 0, 0, 0, 0, 0), (1, .istore_n 2, 2, 0, 0, 0, 0, 0), (2, .aload_n 0, 0, 0, 0, 0, 0, 0), (3, .arraylength, 0, 0, 0, 0, 0, 0), (4, .istore_n 3, 3, 0, 0, 0, 0, 0), (5, .iload_n 2, 2, 0, 0, 0, 0, 0), (6, .iload_n 3, 3, 0, 0, 0, 0, 0), (7, .if_icmp .ge 13, 14, 0, 0, 0, 0, 0), (10, .aload_n 0, 0, 0, 0, 0, 0, 0), (11, .iload_n 2, 2, 0, 0, 0, 0, 0), (12, .iload_n 1, 1, 0, 0, 0, 0, 0), (13, .iastore, 0, 0, 0, 0, 0, 0), (14, .iinc 2 1, 2, 0, 0, 0, 1, 0), (17, .goto (-12), 5, 0, 0, 0, 0, 0), (20, .return_, 0, 0, 0, 0, 0, 0)]
def az_pg (y : Nat) : List az_I := match y with
  | 0 => az_p0
  | 1 => az_p1
  | 2 => az_p2
  | 3 => az_p3
  | 4 => az_p4
  | 5 => az_p5
  | 6 => az_p6
  | 7 => az_p7
  | 8 => az_p8
  | 9 => az_p9
  | 10 => az_p10
  | 11 => az_p11
  | 12 => az_p12
  | 13 => az_p13
  | 14 => az_p14
  | 15 => az_p15
  | 16 => az_p16
  | 17 => az_p17
  | 18 => az_p18
  | 19 => az_p19
  | 20 => az_p20
  | 21 => az_p21
  | 22 => az_p22
  | 23 => az_p23
  | 24 => az_p24
  | 25 => az_p25
  | 26 => az_p26
  | 27 => az_p27
  | 28 => az_p28
  | 29 => az_p29
  | 30 => az_p30
  | 31 => az_p31
  | 32 => az_p32
  | 33 => az_p33
  | 34 => az_p34
  | 35 => az_p35
  | 36 => az_p36
  | 37 => az_p37
  | 38 => az_p38
  | 39 => az_p39
  | 40 => az_p40
  | 41 => az_p41
  | 42 => az_p42
  | 43 => az_p43
  | 44 => az_p44
  | 45 => az_p45
  | 46 => az_p46
  | 47 => az_p47
  | 48 => az_p48
  | 49 => az_p49
  | 50 => az_p50
  | 51 => az_p51
  | 52 => az_p52
  | 53 => az_p53
  | 54 => az_p54
  | 55 => az_p55
  | 56 => az_p56
  | 57 => az_p57
  | 58 => az_p58
  | 59 => az_p59
  | 60 => az_p60
  | 61 => az_p61
  | 62 => az_p62
  | 63 => az_p63
  | 64 => az_p64
  | 65 => az_p65
  | 66 => az_p66
  | 67 => az_p67
  | 68 => az_p68
  | 69 => az_p69
  | 70 => az_p70
  | 71 => az_p71
  | 72 => az_p72
  | 73 => az_p73
  | 74 => az_p74
  | 75 => az_p75
  | 76 => az_p76
  | 77 => az_p77
  | 78 => az_p78
  | 79 => az_p79
  | 80 => az_p80
  | 81 => az_p81
  | 82 => az_p82
  | 83 => az_p83
  | 84 => az_p84
  | 85 => az_p85
  | 86 => az_p86
  | 87 => az_p87
  | 88 => az_p88
  | 89 => az_p89
  | 90 => az_p90
  | 91 => az_p91
  | 92 => az_p92
  | 93 => az_p93
  | 94 => az_p94
  | 95 => az_p95
  | 96 => az_p96
  | 97 => az_p97
  | 98 => az_p98
  | 99 => az_p99
  | 100 => az_p100
  | 101 => az_p101
  | 102 => az_p102
  | 103 => az_p103
  | 104 => az_p104
  | 105 => az_p105
  | 106 => az_p106
  | 107 => az_p107
  | 108 => az_p108
  | 109 => az_p109
  | 110 => az_p110
  | 111 => az_p111
  | 112 => az_p112
  | 113 => az_p113
  | 114 => az_p114
  | 115 => az_p115
  | 116 => az_p116
  | 117 => az_p117
  | 118 => az_p118
  | 119 => az_p119
  | 120 => az_p120
  | 121 => az_p121
  | 122 => az_p122
  | 123 => az_p123
  | 124 => az_p124
  | 125 => az_p125
  | 126 => az_p126
  | 127 => az_p127
  | 128 => az_p128
  | 129 => az_p129
  | 130 => az_p130
  | 131 => az_p131
  | 132 => az_p132
  | 133 => az_p133
  | 134 => az_p134
  | 135 => az_p135
  | 136 => az_p136
  | 137 => az_p137
  | 138 => az_p138
  | 139 => az_p139
  | 140 => az_p140
  | 141 => az_p141
  | 142 => az_p142
  | 143 => az_p143
  | 144 => az_p144
  | 145 => az_p145
  | 146 => az_p146
  | 147 => az_p147
  | 148 => az_p148
  | 149 => az_p149
  | 150 => az_p150
  | 151 => az_p151
  | 152 => az_p152
  | 153 => az_p153
  | 154 => az_p154
  | 155 => az_p155
  | 156 => az_p156
  | 157 => az_p157
  | 158 => az_p158
  | 159 => az_p159
  | 160 => az_p160
  | 161 => az_p161
  | 162 => az_p162
  | 163 => az_p163
  | 164 => az_p164
  | 165 => az_p165
  | 166 => az_p166
  | 167 => az_p167
  | 168 => az_p168
  | 169 => az_p169
  | 170 => az_p170
  | 171 => az_p171
  | 172 => az_p172
  | 173 => az_p173
  | 174 => az_p174
  | 175 => az_p175
  | 176 => az_p176
  | 177 => az_p177
  | 178 => az_p178
  | 179 => az_p179
  | 180 => az_p180
  | 181 => az_p181
  | 182 => az_p182
  | 183 => az_p183
  | 184 => az_p184
  | 185 => az_p185
  | 186 => az_p186
  | 187 => az_p187
  | 188 => az_p188
  | 189 => az_p189
  | _ => []
def az_ez (y : Nat) : Nat := match y with
  | 0 => 1247
  | 1 => 34
  | 2 => 9
  | 3 => 23
  | 4 => 72
  | 5 => 9
  | 6 => 14
  | 7 => 30
  | 8 => 35
  | 9 => 61
  | 10 => 43
  | 11 => 46
  | 12 => 115
  | 13 => 86
  | 14 => 42
  | 15 => 80
  | 16 => 57
  | 17 => 39
  | 18 => 30
  | 19 => 163
  | 20 => 132
  | 21 => 168
  | 22 => 63
  | 23 => 49
  | 24 => 31
  | 25 => 34
  | 26 => 9
  | 27 => 9
  | 28 => 18
  | 29 => 18
  | 30 => 18
  | 31 => 19
  | 32 => 24
  | 33 => 16
  | 34 => 30
  | 35 => 22
  | 36 => 26
  | 37 => 63
  | 38 => 107
  | 39 => 59
  | 40 => 36
  | 41 => 46
  | 42 => 38
  | 43 => 39
  | 44 => 51
  | 45 => 42
  | 46 => 53
  | 47 => 103
  | 48 => 41
  | 49 => 67
  | 50 => 128
  | 51 => 52
  | 52 => 39
  | 53 => 59
  | 54 => 46
  | 55 => 101
  | 56 => 96
  | 57 => 53
  | 58 => 41
  | 59 => 71
  | 60 => 144
  | 61 => 128
  | 62 => 129
  | 63 => 32
  | 64 => 127
  | 65 => 36
  | 66 => 86
  | 67 => 134
  | 68 => 25
  | 69 => 68
  | 70 => 67
  | 71 => 132
  | 72 => 30
  | 73 => 38
  | 74 => 75
  | 75 => 124
  | 76 => 49
  | 77 => 84
  | 78 => 18
  | 79 => 15
  | 80 => 24
  | 81 => 32
  | 82 => 32
  | 83 => 49
  | 84 => 49
  | 85 => 144
  | 86 => 61
  | 87 => 21
  | 88 => 64
  | 89 => 40
  | 90 => 53
  | 91 => 144
  | 92 => 97
  | 93 => 175
  | 94 => 101
  | 95 => 98
  | 96 => 74
  | 97 => 32
  | 98 => 60
  | 99 => 89
  | 100 => 44
  | 101 => 64
  | 102 => 82
  | 103 => 32
  | 104 => 126
  | 105 => 108
  | 106 => 79
  | 107 => 63
  | 108 => 123
  | 109 => 98
  | 110 => 204
  | 111 => 16
  | 112 => 12
  | 113 => 30
  | 114 => 86
  | 115 => 47
  | 116 => 12
  | 117 => 12
  | 118 => 63
  | 119 => 37
  | 120 => 79
  | 121 => 131
  | 122 => 30
  | 123 => 208
  | 124 => 46
  | 125 => 32
  | 126 => 21
  | 127 => 89
  | 128 => 34
  | 129 => 281
  | 130 => 164
  | 131 => 434
  | 132 => 84
  | 133 => 221
  | 134 => 43
  | 135 => 31
  | 136 => 12
  | 137 => 22
  | 138 => 151
  | 139 => 160
  | 140 => 230
  | 141 => 52
  | 142 => 87
  | 143 => 101
  | 144 => 134
  | 145 => 12
  | 146 => 92
  | 147 => 69
  | 148 => 126
  | 149 => 94
  | 150 => 36
  | 151 => 30
  | 152 => 108
  | 153 => 34
  | 154 => 71
  | 155 => 72
  | 156 => 63
  | 157 => 40
  | 158 => 69
  | 159 => 48
  | 160 => 92
  | 161 => 91
  | 162 => 74
  | 163 => 43
  | 164 => 86
  | 165 => 43
  | 166 => 70
  | 167 => 125
  | 168 => 185
  | 169 => 143
  | 170 => 161
  | 171 => 25
  | 172 => 177
  | 173 => 109
  | 174 => 70
  | 175 => 243
  | 176 => 54
  | 177 => 117
  | 178 => 104
  | 179 => 34
  | 180 => 30
  | 181 => 36
  | 182 => 56
  | 183 => 67
  | 184 => 64
  | 185 => 114
  | 186 => 38
  | 187 => 255
  | 188 => 53
  | 189 => 21
  | _ => 0
def az_nL (y : Nat) : Nat := match y with
  | 0 => 4
  | 1 => 5
  | 2 => 2
  | 3 => 1
  | 4 => 5
  | 5 => 2
  | 6 => 3
  | 7 => 4
  | 8 => 5
  | 9 => 7
  | 10 => 7
  | 11 => 1
  | 12 => 9
  | 13 => 9
  | 14 => 3
  | 15 => 8
  | 16 => 4
  | 17 => 1
  | 18 => 2
  | 19 => 5
  | 20 => 6
  | 21 => 7
  | 22 => 3
  | 23 => 4
  | 24 => 4
  | 25 => 3
  | 26 => 2
  | 27 => 2
  | 28 => 2
  | 29 => 2
  | 30 => 2
  | 31 => 3
  | 32 => 4
  | 33 => 3
  | 34 => 4
  | 35 => 2
  | 36 => 5
  | 37 => 4
  | 38 => 5
  | 39 => 4
  | 40 => 3
  | 41 => 3
  | 42 => 4
  | 43 => 4
  | 44 => 4
  | 45 => 4
  | 46 => 5
  | 47 => 1
  | 48 => 2
  | 49 => 5
  | 50 => 6
  | 51 => 3
  | 52 => 4
  | 53 => 4
  | 54 => 3
  | 55 => 5
  | 56 => 4
  | 57 => 5
  | 58 => 5
  | 59 => 6
  | 60 => 8
  | 61 => 7
  | 62 => 4
  | 63 => 4
  | 64 => 7
  | 65 => 5
  | 66 => 8
  | 67 => 5
  | 68 => 2
  | 69 => 5
  | 70 => 5
  | 71 => 5
  | 72 => 4
  | 73 => 5
  | 74 => 6
  | 75 => 8
  | 76 => 2
  | 77 => 5
  | 78 => 2
  | 79 => 3
  | 80 => 4
  | 81 => 2
  | 82 => 2
  | 83 => 2
  | 84 => 2
  | 85 => 7
  | 86 => 6
  | 87 => 4
  | 88 => 5
  | 89 => 6
  | 90 => 6
  | 91 => 6
  | 92 => 4
  | 93 => 7
  | 94 => 10
  | 95 => 5
  | 96 => 6
  | 97 => 3
  | 98 => 4
  | 99 => 6
  | 100 => 6
  | 101 => 6
  | 102 => 4
  | 103 => 3
  | 104 => 5
  | 105 => 5
  | 106 => 6
  | 107 => 7
  | 108 => 8
  | 109 => 8
  | 110 => 1
  | 111 => 3
  | 112 => 2
  | 113 => 3
  | 114 => 4
  | 115 => 5
  | 116 => 3
  | 117 => 3
  | 118 => 4
  | 119 => 2
  | 120 => 4
  | 121 => 6
  | 122 => 5
  | 123 => 5
  | 124 => 2
  | 125 => 3
  | 126 => 4
  | 127 => 6
  | 128 => 5
  | 129 => 8
  | 130 => 5
  | 131 => 11
  | 132 => 4
  | 133 => 6
  | 134 => 4
  | 135 => 4
  | 136 => 2
  | 137 => 4
  | 138 => 7
  | 139 => 9
  | 140 => 9
  | 141 => 3
  | 142 => 2
  | 143 => 5
  | 144 => 4
  | 145 => 3
  | 146 => 5
  | 147 => 7
  | 148 => 7
  | 149 => 6
  | 150 => 3
  | 151 => 2
  | 152 => 3
  | 153 => 3
  | 154 => 4
  | 155 => 5
  | 156 => 9
  | 157 => 4
  | 158 => 4
  | 159 => 4
  | 160 => 6
  | 161 => 8
  | 162 => 3
  | 163 => 4
  | 164 => 6
  | 165 => 4
  | 166 => 4
  | 167 => 7
  | 168 => 7
  | 169 => 9
  | 170 => 7
  | 171 => 2
  | 172 => 11
  | 173 => 6
  | 174 => 4
  | 175 => 8
  | 176 => 4
  | 177 => 6
  | 178 => 8
  | 179 => 3
  | 180 => 3
  | 181 => 4
  | 182 => 5
  | 183 => 6
  | 184 => 5
  | 185 => 7
  | 186 => 2
  | 187 => 6
  | 188 => 1
  | 189 => 4
  | _ => 0
def az_fr (y : Nat) : Nat := match y with
  | 0 => 8
  | 1 => 1
  | 2 => 1
  | 3 => 1
  | 4 => 1
  | 5 => 1
  | 6 => 1
  | 7 => 5
  | 8 => 4
  | 9 => 3
  | 10 => 2
  | 11 => 1
  | 12 => 3
  | 13 => 4
  | 14 => 1
  | 15 => 2
  | 16 => 1
  | 17 => 1
  | 18 => 4
  | 19 => 4
  | 20 => 3
  | 21 => 3
  | 22 => 3
  | 23 => 2
  | 24 => 1
  | 25 => 1
  | 26 => 1
  | 27 => 1
  | 28 => 0
  | 29 => 0
  | 30 => 0
  | 31 => 2
  | 32 => 2
  | 33 => 3
  | 34 => 3
  | 35 => 4
  | 36 => 1
  | 37 => 3
  | 38 => 3
  | 39 => 3
  | 40 => 3
  | 41 => 2
  | 42 => 3
  | 43 => 2
  | 44 => 4
  | 45 => 3
  | 46 => 3
  | 47 => 2
  | 48 => 4
  | 49 => 3
  | 50 => 3
  | 51 => 5
  | 52 => 5
  | 53 => 5
  | 54 => 5
  | 55 => 5
  | 56 => 4
  | 57 => 2
  | 58 => 2
  | 59 => 6
  | 60 => 6
  | 61 => 2
  | 62 => 5
  | 63 => 2
  | 64 => 6
  | 65 => 6
  | 66 => 6
  | 67 => 6
  | 68 => 1
  | 69 => 5
  | 70 => 6
  | 71 => 6
  | 72 => 6
  | 73 => 6
  | 74 => 5
  | 75 => 5
  | 76 => 0
  | 77 => 3
  | 78 => 0
  | 79 => 0
  | 80 => 1
  | 81 => 0
  | 82 => 0
  | 83 => 0
  | 84 => 0
  | 85 => 2
  | 86 => 2
  | 87 => 0
  | 88 => 2
  | 89 => 1
  | 90 => 1
  | 91 => 4
  | 92 => 4
  | 93 => 4
  | 94 => 3
  | 95 => 1
  | 96 => 5
  | 97 => 5
  | 98 => 4
  | 99 => 4
  | 100 => 3
  | 101 => 4
  | 102 => 5
  | 103 => 4
  | 104 => 5
  | 105 => 5
  | 106 => 4
  | 107 => 3
  | 108 => 3
  | 109 => 5
  | 110 => 1
  | 111 => 0
  | 112 => 1
  | 113 => 2
  | 114 => 1
  | 115 => 0
  | 116 => 0
  | 117 => 0
  | 118 => 1
  | 119 => 2
  | 120 => 2
  | 121 => 3
  | 122 => 0
  | 123 => 2
  | 124 => 3
  | 125 => 3
  | 126 => 0
  | 127 => 1
  | 128 => 1
  | 129 => 2
  | 130 => 2
  | 131 => 2
  | 132 => 2
  | 133 => 3
  | 134 => 3
  | 135 => 3
  | 136 => 1
  | 137 => 0
  | 138 => 2
  | 139 => 2
  | 140 => 6
  | 141 => 7
  | 142 => 0
  | 143 => 7
  | 144 => 2
  | 145 => 0
  | 146 => 1
  | 147 => 1
  | 148 => 2
  | 149 => 3
  | 150 => 4
  | 151 => 5
  | 152 => 5
  | 153 => 3
  | 154 => 7
  | 155 => 1
  | 156 => 2
  | 157 => 2
  | 158 => 2
  | 159 => 1
  | 160 => 2
  | 161 => 3
  | 162 => 3
  | 163 => 4
  | 164 => 4
  | 165 => 1
  | 166 => 2
  | 167 => 3
  | 168 => 3
  | 169 => 2
  | 170 => 4
  | 171 => 1
  | 172 => 2
  | 173 => 3
  | 174 => 4
  | 175 => 4
  | 176 => 1
  | 177 => 2
  | 178 => 3
  | 179 => 2
  | 180 => 2
  | 181 => 4
  | 182 => 4
  | 183 => 2
  | 184 => 3
  | 185 => 3
  | 186 => 0
  | 187 => 2
  | 188 => 0
  | 189 => 0
  | _ => 0
def az_lo (y : Nat) : Nat := match y with
  | 0 => 188
  | 1 => 20
  | 2 => 21
  | 3 => 20
  | 4 => 22
  | 5 => 21
  | 6 => 21
  | 7 => 119
  | 8 => 95
  | 9 => 69
  | 10 => 43
  | 11 => 20
  | 12 => 65
  | 13 => 93
  | 14 => 22
  | 15 => 43
  | 16 => 22
  | 17 => 20
  | 18 => 89
  | 19 => 91
  | 20 => 64
  | 21 => 65
  | 22 => 68
  | 23 => 45
  | 24 => 22
  | 25 => 21
  | 26 => 21
  | 27 => 21
  | 28 => 0
  | 29 => 0
  | 30 => 0
  | 31 => 42
  | 32 => 42
  | 33 => 65
  | 34 => 65
  | 35 => 88
  | 36 => 22
  | 37 => 64
  | 38 => 64
  | 39 => 64
  | 40 => 65
  | 41 => 43
  | 42 => 65
  | 43 => 42
  | 44 => 87
  | 45 => 64
  | 46 => 64
  | 47 => 40
  | 48 => 90
  | 49 => 68
  | 50 => 64
  | 51 => 109
  | 52 => 109
  | 53 => 115
  | 54 => 113
  | 55 => 119
  | 56 => 87
  | 57 => 42
  | 58 => 43
  | 59 => 140
  | 60 => 140
  | 61 => 44
  | 62 => 115
  | 63 => 42
  | 64 => 137
  | 65 => 144
  | 66 => 144
  | 67 => 142
  | 68 => 21
  | 69 => 121
  | 70 => 140
  | 71 => 140
  | 72 => 137
  | 73 => 137
  | 74 => 110
  | 75 => 110
  | 76 => 0
  | 77 => 69
  | 78 => 0
  | 79 => 0
  | 80 => 22
  | 81 => 0
  | 82 => 0
  | 83 => 0
  | 84 => 0
  | 85 => 43
  | 86 => 42
  | 87 => 0
  | 88 => 48
  | 89 => 23
  | 90 => 23
  | 91 => 90
  | 92 => 90
  | 93 => 93
  | 94 => 64
  | 95 => 21
  | 96 => 115
  | 97 => 115
  | 98 => 87
  | 99 => 90
  | 100 => 65
  | 101 => 88
  | 102 => 121
  | 103 => 93
  | 104 => 115
  | 105 => 116
  | 106 => 91
  | 107 => 65
  | 108 => 65
  | 109 => 110
  | 110 => 20
  | 111 => 0
  | 112 => 22
  | 113 => 43
  | 114 => 24
  | 115 => 0
  | 116 => 0
  | 117 => 0
  | 118 => 22
  | 119 => 47
  | 120 => 43
  | 121 => 65
  | 122 => 0
  | 123 => 45
  | 124 => 69
  | 125 => 69
  | 126 => 0
  | 127 => 23
  | 128 => 22
  | 129 => 48
  | 130 => 47
  | 131 => 47
  | 132 => 45
  | 133 => 68
  | 134 => 65
  | 135 => 65
  | 136 => 22
  | 137 => 0
  | 138 => 45
  | 139 => 45
  | 140 => 136
  | 141 => 164
  | 142 => 0
  | 143 => 164
  | 144 => 43
  | 145 => 0
  | 146 => 22
  | 147 => 22
  | 148 => 48
  | 149 => 68
  | 150 => 93
  | 151 => 115
  | 152 => 115
  | 153 => 65
  | 154 => 164
  | 155 => 22
  | 156 => 46
  | 157 => 46
  | 158 => 46
  | 159 => 22
  | 160 => 45
  | 161 => 70
  | 162 => 74
  | 163 => 97
  | 164 => 97
  | 165 => 22
  | 166 => 45
  | 167 => 74
  | 168 => 74
  | 169 => 45
  | 170 => 100
  | 171 => 22
  | 172 => 45
  | 173 => 75
  | 174 => 100
  | 175 => 100
  | 176 => 22
  | 177 => 45
  | 178 => 70
  | 179 => 45
  | 180 => 43
  | 181 => 97
  | 182 => 97
  | 183 => 45
  | 184 => 70
  | 185 => 70
  | 186 => 0
  | 187 => 45
  | 188 => 0
  | 189 => 0
  | _ => 0
def az_tw (y a : Nat) : List Nat := match y with
  | 0 => [22, 39, 76, 123, 140, 167, 218, 235, 262, 289, 326, 363, 390, 427, 454, 481, 508, 535, 562, 609, 626, 643, 670, 707, 724, 751, 788, 835, 882, 899, 907]
  | 56 => [10, 13, 16, 23, 26, 34]
  | 62 => [10, 13, 16, 26, 38, 50]
  | 76 => [2, 5, 8, 12]
  | 133 => [15, 20, 25, 34, 77]
  | 152 => [13, 18, 23, 31, 39]
  | _ => []
end
section
def az_nm (y : Nat) : MethodName := match y with
  | 0 => yL_law
  | 1 => yX0_init
  | 2 => yX0_givenTo
  | 3 => yX1_init
  | 4 => yX1_add
  | 5 => yX1_apexOf
  | 6 => yX1_legOf
  | 7 => yX1_firstLimit
  | 8 => yX1_isLimit
  | 9 => yX1_arrowsInto
  | 10 => yX1_bringsLegs
  | 11 => yX2_init
  | 12 => yX2_lay
  | 13 => yX2_search
  | 14 => yX2_choose
  | 15 => yX2_holds
  | 16 => yX2_step
  | 17 => yX3_init
  | 18 => yX3_start
  | 19 => yX3_next
  | 20 => yX3_setRules
  | 21 => yX3_fits
  | 22 => yX4_init
  | 23 => yX4_addArrow
  | 24 => yX4_setWay
  | 25 => yX4_wayAt
  | 26 => yX4_fromOf
  | 27 => yX4_toOf
  | 28 => yX4_hasObject
  | 29 => yX4_hasArrow
  | 30 => yX4_doesNothing
  | 31 => yX4_isRow
  | 32 => yX4_leads
  | 33 => yX4_areBeside
  | 34 => yX4_firstBetween
  | 35 => yX4_writeFault
  | 36 => yX4_writeFaultRow
  | 37 => yX4_writeUntold
  | 38 => yX4_writeUnlike
  | 39 => yX4_rowsOfTwo
  | 40 => yX4_arrowsWithBack
  | 41 => yX4_hasBack
  | 42 => yX4_areAlike
  | 43 => yX4_arrowsInto
  | 44 => yX4_isSieve
  | 45 => yX4_hasAllAhead
  | 46 => yX4_pulled
  | 47 => yX5_init
  | 48 => yX5_table
  | 49 => yX5_arrow
  | 50 => yX5_way
  | 51 => yX5_close
  | 52 => yX5_fault
  | 53 => yX5_order
  | 54 => yX5_turned
  | 55 => yX5_beside
  | 56 => yX5_about
  | 57 => yX5_end
  | 58 => yX5_wayOf
  | 59 => yX5_carriers
  | 60 => yX5_carrier
  | 61 => yX5_then
  | 62 => yX5_told
  | 63 => yX5_gives
  | 64 => yX5_same
  | 65 => yX5_bridges
  | 66 => yX5_bridge
  | 67 => yX5_limit
  | 68 => yX5_leg
  | 69 => yX5_cones
  | 70 => yX5_answer
  | 71 => yX5_answers
  | 72 => yX5_sieves
  | 73 => yX5_sieve
  | 74 => yX5_pull
  | 75 => yX5_follows
  | 76 => yX5_count
  | 77 => yX5_digest
  | 78 => yX5_read
  | 79 => yX5_write
  | 80 => yX5_copy
  | 81 => yX5_tableAt
  | 82 => yX5_carrierAt
  | 83 => yX5_keepTable
  | 84 => yX5_keepCarrier
  | 85 => yX5_digestOfTable
  | 86 => yX5_digestOfCarrier
  | 87 => yX5_hasBit
  | 88 => yX5_isRightOrder
  | 89 => yX5_hasAllOf
  | 90 => yX5_bitsOfOrder
  | 91 => yX5_tableOfOrder
  | 92 => yX5_turnedTable
  | 93 => yX5_tableBeside
  | 94 => yX5_tellWaysBeside
  | 95 => yX5_numberBeside
  | 96 => yX5_pickCarrier
  | 97 => yX5_isSame
  | 98 => yX5_keepsUnlike
  | 99 => yX5_givesAll
  | 100 => yX5_isGiven
  | 101 => yX5_reachesAll
  | 102 => yX5_searchBridges
  | 103 => yX5_coneChances
  | 104 => yX5_gatherCones
  | 105 => yX5_writeAnswer
  | 106 => yX5_isAnswer
  | 107 => yX5_arrowsThrough
  | 108 => yX5_answeredArrow
  | 109 => yX5_searchSieves
  | 110 => yX6_init
  | 111 => yX6_in
  | 112 => yX6_isTable
  | 113 => yX6_isArrow
  | 114 => yX6_begins
  | 115 => yX6_comes
  | 116 => yX6_from
  | 117 => yX6_to
  | 118 => yX6_wayIn
  | 119 => yX6_table
  | 120 => yX6_arrow
  | 121 => yX6_way
  | 122 => yX6_finds
  | 123 => yX6_findFault
  | 124 => yX6_close
  | 125 => yX6_fault
  | 126 => yX6_stands
  | 127 => yX6_isOrder
  | 128 => yX6_between
  | 129 => yX6_order
  | 130 => yX6_turned
  | 131 => yX6_beside
  | 132 => yX6_isPaired
  | 133 => yX6_about
  | 134 => yX6_end
  | 135 => yX6_wayOf
  | 136 => yX6_isCarrier
  | 137 => yX6_last
  | 138 => yX6_findPairs
  | 139 => yX6_isKept
  | 140 => yX6_search
  | 141 => yX6_carriers
  | 142 => yX6_keeps
  | 143 => yX6_carrier
  | 144 => yX6_then
  | 145 => yX6_giveOf
  | 146 => yX6_isUnlike
  | 147 => yX6_isGiven
  | 148 => yX6_isFilled
  | 149 => yX6_isCome
  | 150 => yX6_isAllCome
  | 151 => yX6_isSame
  | 152 => yX6_told
  | 153 => yX6_gives
  | 154 => yX6_same
  | 155 => yX6_after
  | 156 => yX6_chances
  | 157 => yX6_firstRow
  | 158 => yX6_nextRow
  | 159 => yX6_betweenCarriers
  | 160 => yX6_isBridge
  | 161 => yX6_findBridge
  | 162 => yX6_against
  | 163 => yX6_bridges
  | 164 => yX6_bridge
  | 165 => yX6_ahead
  | 166 => yX6_isCone
  | 167 => yX6_cones
  | 168 => yX6_findCones
  | 169 => yX6_leads
  | 170 => yX6_limit
  | 171 => yX6_leg
  | 172 => yX6_isAnswer
  | 173 => yX6_findAnswer
  | 174 => yX6_answer
  | 175 => yX6_answers
  | 176 => yX6_findEnds
  | 177 => yX6_isSieve
  | 178 => yX6_findSieve
  | 179 => yX6_againstSieves
  | 180 => yX6_isObject
  | 181 => yX6_sieves
  | 182 => yX6_sieve
  | 183 => yX6_pulled
  | 184 => yX6_pull
  | 185 => yX6_follows
  | 186 => yX6_count
  | 187 => yX6_digest
  | 188 => yJ6_bitCount_0f7a4
  | 189 => yJ7_fill_53178
  | _ => yL_law
def az_mc (y : Nat) : ByteArray := match y with
  | 0 => cL_law
  | 1 => cX0_init
  | 2 => cX0_givenTo
  | 3 => cX1_init
  | 4 => cX1_add
  | 5 => cX1_apexOf
  | 6 => cX1_legOf
  | 7 => cX1_firstLimit
  | 8 => cX1_isLimit
  | 9 => cX1_arrowsInto
  | 10 => cX1_bringsLegs
  | 11 => cX2_init
  | 12 => cX2_lay
  | 13 => cX2_search
  | 14 => cX2_choose
  | 15 => cX2_holds
  | 16 => cX2_step
  | 17 => cX3_init
  | 18 => cX3_start
  | 19 => cX3_next
  | 20 => cX3_setRules
  | 21 => cX3_fits
  | 22 => cX4_init
  | 23 => cX4_addArrow
  | 24 => cX4_setWay
  | 25 => cX4_wayAt
  | 26 => cX4_fromOf
  | 27 => cX4_toOf
  | 28 => cX4_hasObject
  | 29 => cX4_hasArrow
  | 30 => cX4_doesNothing
  | 31 => cX4_isRow
  | 32 => cX4_leads
  | 33 => cX4_areBeside
  | 34 => cX4_firstBetween
  | 35 => cX4_writeFault
  | 36 => cX4_writeFaultRow
  | 37 => cX4_writeUntold
  | 38 => cX4_writeUnlike
  | 39 => cX4_rowsOfTwo
  | 40 => cX4_arrowsWithBack
  | 41 => cX4_hasBack
  | 42 => cX4_areAlike
  | 43 => cX4_arrowsInto
  | 44 => cX4_isSieve
  | 45 => cX4_hasAllAhead
  | 46 => cX4_pulled
  | 47 => cX5_init
  | 48 => cX5_table
  | 49 => cX5_arrow
  | 50 => cX5_way
  | 51 => cX5_close
  | 52 => cX5_fault
  | 53 => cX5_order
  | 54 => cX5_turned
  | 55 => cX5_beside
  | 56 => cX5_about
  | 57 => cX5_end
  | 58 => cX5_wayOf
  | 59 => cX5_carriers
  | 60 => cX5_carrier
  | 61 => cX5_then
  | 62 => cX5_told
  | 63 => cX5_gives
  | 64 => cX5_same
  | 65 => cX5_bridges
  | 66 => cX5_bridge
  | 67 => cX5_limit
  | 68 => cX5_leg
  | 69 => cX5_cones
  | 70 => cX5_answer
  | 71 => cX5_answers
  | 72 => cX5_sieves
  | 73 => cX5_sieve
  | 74 => cX5_pull
  | 75 => cX5_follows
  | 76 => cX5_count
  | 77 => cX5_digest
  | 78 => cX5_read
  | 79 => cX5_write
  | 80 => cX5_copy
  | 81 => cX5_tableAt
  | 82 => cX5_carrierAt
  | 83 => cX5_keepTable
  | 84 => cX5_keepCarrier
  | 85 => cX5_digestOfTable
  | 86 => cX5_digestOfCarrier
  | 87 => cX5_hasBit
  | 88 => cX5_isRightOrder
  | 89 => cX5_hasAllOf
  | 90 => cX5_bitsOfOrder
  | 91 => cX5_tableOfOrder
  | 92 => cX5_turnedTable
  | 93 => cX5_tableBeside
  | 94 => cX5_tellWaysBeside
  | 95 => cX5_numberBeside
  | 96 => cX5_pickCarrier
  | 97 => cX5_isSame
  | 98 => cX5_keepsUnlike
  | 99 => cX5_givesAll
  | 100 => cX5_isGiven
  | 101 => cX5_reachesAll
  | 102 => cX5_searchBridges
  | 103 => cX5_coneChances
  | 104 => cX5_gatherCones
  | 105 => cX5_writeAnswer
  | 106 => cX5_isAnswer
  | 107 => cX5_arrowsThrough
  | 108 => cX5_answeredArrow
  | 109 => cX5_searchSieves
  | 110 => cX6_init
  | 111 => cX6_in
  | 112 => cX6_isTable
  | 113 => cX6_isArrow
  | 114 => cX6_begins
  | 115 => cX6_comes
  | 116 => cX6_from
  | 117 => cX6_to
  | 118 => cX6_wayIn
  | 119 => cX6_table
  | 120 => cX6_arrow
  | 121 => cX6_way
  | 122 => cX6_finds
  | 123 => cX6_findFault
  | 124 => cX6_close
  | 125 => cX6_fault
  | 126 => cX6_stands
  | 127 => cX6_isOrder
  | 128 => cX6_between
  | 129 => cX6_order
  | 130 => cX6_turned
  | 131 => cX6_beside
  | 132 => cX6_isPaired
  | 133 => cX6_about
  | 134 => cX6_end
  | 135 => cX6_wayOf
  | 136 => cX6_isCarrier
  | 137 => cX6_last
  | 138 => cX6_findPairs
  | 139 => cX6_isKept
  | 140 => cX6_search
  | 141 => cX6_carriers
  | 142 => cX6_keeps
  | 143 => cX6_carrier
  | 144 => cX6_then
  | 145 => cX6_giveOf
  | 146 => cX6_isUnlike
  | 147 => cX6_isGiven
  | 148 => cX6_isFilled
  | 149 => cX6_isCome
  | 150 => cX6_isAllCome
  | 151 => cX6_isSame
  | 152 => cX6_told
  | 153 => cX6_gives
  | 154 => cX6_same
  | 155 => cX6_after
  | 156 => cX6_chances
  | 157 => cX6_firstRow
  | 158 => cX6_nextRow
  | 159 => cX6_betweenCarriers
  | 160 => cX6_isBridge
  | 161 => cX6_findBridge
  | 162 => cX6_against
  | 163 => cX6_bridges
  | 164 => cX6_bridge
  | 165 => cX6_ahead
  | 166 => cX6_isCone
  | 167 => cX6_cones
  | 168 => cX6_findCones
  | 169 => cX6_leads
  | 170 => cX6_limit
  | 171 => cX6_leg
  | 172 => cX6_isAnswer
  | 173 => cX6_findAnswer
  | 174 => cX6_answer
  | 175 => cX6_answers
  | 176 => cX6_findEnds
  | 177 => cX6_isSieve
  | 178 => cX6_findSieve
  | 179 => cX6_againstSieves
  | 180 => cX6_isObject
  | 181 => cX6_sieves
  | 182 => cX6_sieve
  | 183 => cX6_pulled
  | 184 => cX6_pull
  | 185 => cX6_follows
  | 186 => cX6_count
  | 187 => cX6_digest
  | 188 => cJ6_bitCount_0f7a4
  | 189 => cJ7_fill_53178
  | _ => cL_law
def az_rt (y : Nat) : Option FieldType := match y with
  | 0 => some .boolean
  | 1 => none
  | 2 => some .int
  | 3 => none
  | 4 => none
  | 5 => some .int
  | 6 => some .int
  | 7 => some .int
  | 8 => some .boolean
  | 9 => some .int
  | 10 => some .boolean
  | 11 => none
  | 12 => some .int
  | 13 => some .int
  | 14 => none
  | 15 => some .boolean
  | 16 => none
  | 17 => none
  | 18 => none
  | 19 => some .boolean
  | 20 => none
  | 21 => some .boolean
  | 22 => none
  | 23 => some .int
  | 24 => none
  | 25 => some .int
  | 26 => some .int
  | 27 => some .int
  | 28 => some .boolean
  | 29 => some .boolean
  | 30 => some .boolean
  | 31 => some .boolean
  | 32 => some .boolean
  | 33 => some .boolean
  | 34 => some .int
  | 35 => none
  | 36 => none
  | 37 => some .boolean
  | 38 => none
  | 39 => some .int
  | 40 => some .int
  | 41 => some .boolean
  | 42 => some .boolean
  | 43 => some .int
  | 44 => some .boolean
  | 45 => some .boolean
  | 46 => some .int
  | 47 => none
  | 48 => some .int
  | 49 => some .int
  | 50 => some .int
  | 51 => some .int
  | 52 => some .int
  | 53 => some .int
  | 54 => some .int
  | 55 => some .int
  | 56 => some .int
  | 57 => some .int
  | 58 => some .int
  | 59 => some .int
  | 60 => some .int
  | 61 => some .int
  | 62 => some .int
  | 63 => some .int
  | 64 => some .int
  | 65 => some .int
  | 66 => some .int
  | 67 => some .int
  | 68 => some .int
  | 69 => some .int
  | 70 => some .int
  | 71 => some .int
  | 72 => some .int
  | 73 => some .int
  | 74 => some .int
  | 75 => some .int
  | 76 => some .int
  | 77 => some .long
  | 78 => some .int
  | 79 => none
  | 80 => none
  | 81 => some (.object "ArrowTables$Table")
  | 82 => some (.object "ArrowTables$Carrier")
  | 83 => some .int
  | 84 => some .int
  | 85 => some .long
  | 86 => some .long
  | 87 => some .boolean
  | 88 => some .boolean
  | 89 => some .boolean
  | 90 => some .int
  | 91 => some (.object "ArrowTables$Table")
  | 92 => some (.object "ArrowTables$Table")
  | 93 => some (.object "ArrowTables$Table")
  | 94 => none
  | 95 => some .int
  | 96 => some .int
  | 97 => some .boolean
  | 98 => some .boolean
  | 99 => some .boolean
  | 100 => some .boolean
  | 101 => some .boolean
  | 102 => some .int
  | 103 => some .int
  | 104 => none
  | 105 => none
  | 106 => some .boolean
  | 107 => some .int
  | 108 => some .int
  | 109 => some .int
  | 110 => none
  | 111 => some .boolean
  | 112 => some .boolean
  | 113 => some .boolean
  | 114 => none
  | 115 => some .int
  | 116 => some .int
  | 117 => some .int
  | 118 => some .int
  | 119 => some .int
  | 120 => some .int
  | 121 => some .int
  | 122 => none
  | 123 => none
  | 124 => some .int
  | 125 => some .int
  | 126 => some .boolean
  | 127 => some .boolean
  | 128 => some .int
  | 129 => some .int
  | 130 => some .int
  | 131 => some .int
  | 132 => some .boolean
  | 133 => some .int
  | 134 => some .int
  | 135 => some .int
  | 136 => some .boolean
  | 137 => some .int
  | 138 => none
  | 139 => some .boolean
  | 140 => some .int
  | 141 => some .int
  | 142 => some .int
  | 143 => some .int
  | 144 => some .int
  | 145 => some .int
  | 146 => some .boolean
  | 147 => some .boolean
  | 148 => some .boolean
  | 149 => some .boolean
  | 150 => some .boolean
  | 151 => some .boolean
  | 152 => some .int
  | 153 => some .int
  | 154 => some .int
  | 155 => some .int
  | 156 => some .long
  | 157 => some .boolean
  | 158 => some .boolean
  | 159 => none
  | 160 => some .boolean
  | 161 => some .int
  | 162 => some .int
  | 163 => some .int
  | 164 => some .int
  | 165 => none
  | 166 => some .boolean
  | 167 => some .int
  | 168 => some .boolean
  | 169 => some .int
  | 170 => some .int
  | 171 => some .int
  | 172 => some .boolean
  | 173 => some .boolean
  | 174 => some .int
  | 175 => some .int
  | 176 => none
  | 177 => some .boolean
  | 178 => some .int
  | 179 => some .int
  | 180 => some .boolean
  | 181 => some .int
  | 182 => some .int
  | 183 => some .int
  | 184 => some .int
  | 185 => some .int
  | 186 => some .int
  | 187 => some .long
  | 188 => some .int
  | 189 => none
  | _ => none
def az_np (y : Nat) : Nat := match y with
  | 0 => 1
  | 1 => 4
  | 2 => 1
  | 3 => 0
  | 4 => 3
  | 5 => 1
  | 6 => 2
  | 7 => 2
  | 8 => 3
  | 9 => 4
  | 10 => 5
  | 11 => 0
  | 12 => 4
  | 13 => 5
  | 14 => 1
  | 15 => 4
  | 16 => 1
  | 17 => 0
  | 18 => 1
  | 19 => 2
  | 20 => 1
  | 21 => 2
  | 22 => 1
  | 23 => 2
  | 24 => 3
  | 25 => 2
  | 26 => 1
  | 27 => 1
  | 28 => 1
  | 29 => 1
  | 30 => 1
  | 31 => 2
  | 32 => 3
  | 33 => 2
  | 34 => 2
  | 35 => 1
  | 36 => 5
  | 37 => 1
  | 38 => 1
  | 39 => 0
  | 40 => 0
  | 41 => 1
  | 42 => 2
  | 43 => 1
  | 44 => 2
  | 45 => 2
  | 46 => 2
  | 47 => 0
  | 48 => 1
  | 49 => 3
  | 50 => 4
  | 51 => 1
  | 52 => 2
  | 53 => 2
  | 54 => 1
  | 55 => 2
  | 56 => 2
  | 57 => 3
  | 58 => 3
  | 59 => 2
  | 60 => 3
  | 61 => 2
  | 62 => 2
  | 63 => 2
  | 64 => 2
  | 65 => 2
  | 66 => 4
  | 67 => 1
  | 68 => 1
  | 69 => 2
  | 70 => 3
  | 71 => 1
  | 72 => 2
  | 73 => 3
  | 74 => 4
  | 75 => 4
  | 76 => 1
  | 77 => 0
  | 78 => 2
  | 79 => 3
  | 80 => 3
  | 81 => 1
  | 82 => 1
  | 83 => 1
  | 84 => 1
  | 85 => 2
  | 86 => 2
  | 87 => 3
  | 88 => 2
  | 89 => 4
  | 90 => 2
  | 91 => 2
  | 92 => 1
  | 93 => 2
  | 94 => 5
  | 95 => 4
  | 96 => 3
  | 97 => 3
  | 98 => 2
  | 99 => 3
  | 100 => 5
  | 101 => 3
  | 102 => 3
  | 103 => 2
  | 104 => 1
  | 105 => 2
  | 106 => 4
  | 107 => 5
  | 108 => 2
  | 109 => 3
  | 110 => 0
  | 111 => 3
  | 112 => 1
  | 113 => 2
  | 114 => 1
  | 115 => 3
  | 116 => 2
  | 117 => 2
  | 118 => 3
  | 119 => 1
  | 120 => 3
  | 121 => 4
  | 122 => 4
  | 123 => 1
  | 124 => 1
  | 125 => 2
  | 126 => 3
  | 127 => 2
  | 128 => 3
  | 129 => 2
  | 130 => 1
  | 131 => 2
  | 132 => 2
  | 133 => 2
  | 134 => 3
  | 135 => 3
  | 136 => 1
  | 137 => 3
  | 138 => 1
  | 139 => 3
  | 140 => 4
  | 141 => 2
  | 142 => 0
  | 143 => 3
  | 144 => 2
  | 145 => 2
  | 146 => 1
  | 147 => 4
  | 148 => 1
  | 149 => 2
  | 150 => 1
  | 151 => 1
  | 152 => 2
  | 153 => 2
  | 154 => 2
  | 155 => 3
  | 156 => 2
  | 157 => 2
  | 158 => 2
  | 159 => 2
  | 160 => 2
  | 161 => 3
  | 162 => 2
  | 163 => 2
  | 164 => 4
  | 165 => 2
  | 166 => 1
  | 167 => 2
  | 168 => 1
  | 169 => 4
  | 170 => 1
  | 171 => 1
  | 172 => 4
  | 173 => 2
  | 174 => 3
  | 175 => 1
  | 176 => 2
  | 177 => 3
  | 178 => 3
  | 179 => 2
  | 180 => 2
  | 181 => 2
  | 182 => 3
  | 183 => 3
  | 184 => 4
  | 185 => 4
  | 186 => 1
  | 187 => 0
  | 188 => 1
  | 189 => 2
  | _ => 0
def az_is (y : Nat) : Bool := match y with
  | 0 => true
  | 1 => false
  | 2 => false
  | 3 => false
  | 4 => false
  | 5 => false
  | 6 => false
  | 7 => false
  | 8 => false
  | 9 => false
  | 10 => false
  | 11 => false
  | 12 => false
  | 13 => false
  | 14 => false
  | 15 => false
  | 16 => false
  | 17 => false
  | 18 => false
  | 19 => false
  | 20 => false
  | 21 => false
  | 22 => false
  | 23 => false
  | 24 => false
  | 25 => false
  | 26 => false
  | 27 => false
  | 28 => false
  | 29 => false
  | 30 => false
  | 31 => false
  | 32 => false
  | 33 => false
  | 34 => false
  | 35 => false
  | 36 => true
  | 37 => false
  | 38 => false
  | 39 => false
  | 40 => false
  | 41 => false
  | 42 => false
  | 43 => false
  | 44 => false
  | 45 => false
  | 46 => false
  | 47 => false
  | 48 => false
  | 49 => false
  | 50 => false
  | 51 => false
  | 52 => false
  | 53 => false
  | 54 => false
  | 55 => false
  | 56 => false
  | 57 => false
  | 58 => false
  | 59 => false
  | 60 => false
  | 61 => false
  | 62 => false
  | 63 => false
  | 64 => false
  | 65 => false
  | 66 => false
  | 67 => false
  | 68 => false
  | 69 => false
  | 70 => false
  | 71 => false
  | 72 => false
  | 73 => false
  | 74 => false
  | 75 => false
  | 76 => false
  | 77 => false
  | 78 => true
  | 79 => true
  | 80 => true
  | 81 => false
  | 82 => false
  | 83 => false
  | 84 => false
  | 85 => true
  | 86 => true
  | 87 => true
  | 88 => true
  | 89 => true
  | 90 => true
  | 91 => true
  | 92 => true
  | 93 => true
  | 94 => true
  | 95 => true
  | 96 => false
  | 97 => true
  | 98 => true
  | 99 => true
  | 100 => true
  | 101 => true
  | 102 => false
  | 103 => false
  | 104 => false
  | 105 => false
  | 106 => true
  | 107 => true
  | 108 => false
  | 109 => true
  | 110 => false
  | 111 => true
  | 112 => false
  | 113 => false
  | 114 => false
  | 115 => false
  | 116 => false
  | 117 => false
  | 118 => false
  | 119 => false
  | 120 => false
  | 121 => false
  | 122 => false
  | 123 => false
  | 124 => false
  | 125 => false
  | 126 => true
  | 127 => true
  | 128 => false
  | 129 => false
  | 130 => false
  | 131 => false
  | 132 => false
  | 133 => false
  | 134 => false
  | 135 => false
  | 136 => false
  | 137 => true
  | 138 => false
  | 139 => false
  | 140 => false
  | 141 => false
  | 142 => false
  | 143 => false
  | 144 => false
  | 145 => false
  | 146 => false
  | 147 => false
  | 148 => false
  | 149 => false
  | 150 => false
  | 151 => false
  | 152 => false
  | 153 => false
  | 154 => false
  | 155 => false
  | 156 => false
  | 157 => false
  | 158 => false
  | 159 => false
  | 160 => false
  | 161 => false
  | 162 => false
  | 163 => false
  | 164 => false
  | 165 => false
  | 166 => false
  | 167 => false
  | 168 => false
  | 169 => false
  | 170 => false
  | 171 => false
  | 172 => false
  | 173 => false
  | 174 => false
  | 175 => false
  | 176 => false
  | 177 => false
  | 178 => false
  | 179 => false
  | 180 => false
  | 181 => false
  | 182 => false
  | 183 => false
  | 184 => false
  | 185 => false
  | 186 => false
  | 187 => false
  | 188 => true
  | 189 => true
  | _ => true
def az_qc (y : Nat) : Nat := match y with
  | 0 => 0
  | 1 => 449
  | 2 => 487
  | 3 => 145
  | 4 => 583
  | 5 => 602
  | 6 => 611
  | 7 => 590
  | 8 => 594
  | 9 => 598
  | 10 => 607
  | 11 => 121
  | 12 => 536
  | 13 => 543
  | 14 => 548
  | 15 => 552
  | 16 => 560
  | 17 => 89
  | 18 => 411
  | 19 => 426
  | 20 => 415
  | 21 => 434
  | 22 => 208
  | 23 => 216
  | 24 => 223
  | 25 => 317
  | 26 => 290
  | 27 => 283
  | 28 => 269
  | 29 => 227
  | 30 => 294
  | 31 => 279
  | 32 => 353
  | 33 => 499
  | 34 => 349
  | 35 => 305
  | 36 => 308
  | 37 => 312
  | 38 => 321
  | 39 => 382
  | 40 => 386
  | 41 => 390
  | 42 => 513
  | 43 => 655
  | 44 => 665
  | 45 => 670
  | 46 => 682
  | 47 => 77
  | 48 => 204
  | 49 => 261
  | 50 => 274
  | 51 => 301
  | 52 => 326
  | 53 => 330
  | 54 => 357
  | 55 => 365
  | 56 => 378
  | 57 => 395
  | 58 => 399
  | 59 => 403
  | 60 => 445
  | 61 => 479
  | 62 => 492
  | 63 => 517
  | 64 => 521
  | 65 => 528
  | 66 => 564
  | 67 => 568
  | 68 => 618
  | 69 => 622
  | 70 => 626
  | 71 => 640
  | 72 => 648
  | 73 => 674
  | 74 => 678
  | 75 => 686
  | 76 => 690
  | 77 => 694
  | 78 => 286
  | 79 => 219
  | 80 => 440
  | 81 => 265
  | 82 => 483
  | 83 => 257
  | 84 => 475
  | 85 => 698
  | 86 => 702
  | 87 => 336
  | 88 => 333
  | 89 => 339
  | 90 => 342
  | 91 => 345
  | 92 => 360
  | 93 => 368
  | 94 => 371
  | 95 => 374
  | 96 => 407
  | 97 => 524
  | 98 => 495
  | 99 => 502
  | 100 => 506
  | 101 => 509
  | 102 => 532
  | 103 => 572
  | 104 => 577
  | 105 => 630
  | 106 => 633
  | 107 => 636
  | 108 => 644
  | 109 => 651
  | 110 => 707
  | 111 => 816
  | 112 => 832
  | 113 => 840
  | 114 => 820
  | 115 => 824
  | 116 => 848
  | 117 => 844
  | 118 => 864
  | 119 => 813
  | 120 => 828
  | 121 => 836
  | 122 => 860
  | 123 => 856
  | 124 => 852
  | 125 => 868
  | 126 => 875
  | 127 => 878
  | 128 => 882
  | 129 => 872
  | 130 => 886
  | 131 => 890
  | 132 => 898
  | 133 => 894
  | 134 => 902
  | 135 => 906
  | 136 => 970
  | 137 => 921
  | 138 => 918
  | 139 => 926
  | 140 => 914
  | 141 => 910
  | 142 => 962
  | 143 => 958
  | 144 => 966
  | 145 => 938
  | 146 => 934
  | 147 => 946
  | 148 => 942
  | 149 => 954
  | 150 => 950
  | 151 => 930
  | 152 => 974
  | 153 => 978
  | 154 => 982
  | 155 => 1002
  | 156 => 998
  | 157 => 1011
  | 158 => 1019
  | 159 => 994
  | 160 => 1015
  | 161 => 1007
  | 162 => 990
  | 163 => 986
  | 164 => 1023
  | 165 => 1031
  | 166 => 1035
  | 167 => 1027
  | 168 => 1043
  | 169 => 1048
  | 170 => 1039
  | 171 => 1052
  | 172 => 1064
  | 173 => 1060
  | 174 => 1056
  | 175 => 1068
  | 176 => 1084
  | 177 => 1092
  | 178 => 1088
  | 179 => 1080
  | 180 => 1076
  | 181 => 1072
  | 182 => 1096
  | 183 => 1104
  | 184 => 1100
  | 185 => 1108
  | 186 => 1112
  | 187 => 1116
  | 188 => 658
  | 189 => 212
  | _ => 0
def az_qi (y : Nat) : Nat := match y with
  | 0 => 62
  | 1 => 71
  | 2 => 71
  | 3 => 66
  | 4 => 66
  | 5 => 66
  | 6 => 66
  | 7 => 66
  | 8 => 66
  | 9 => 66
  | 10 => 66
  | 11 => 65
  | 12 => 65
  | 13 => 65
  | 14 => 65
  | 15 => 65
  | 16 => 65
  | 17 => 64
  | 18 => 64
  | 19 => 64
  | 20 => 64
  | 21 => 64
  | 22 => 68
  | 23 => 68
  | 24 => 68
  | 25 => 68
  | 26 => 68
  | 27 => 68
  | 28 => 68
  | 29 => 68
  | 30 => 68
  | 31 => 68
  | 32 => 68
  | 33 => 68
  | 34 => 68
  | 35 => 68
  | 36 => 68
  | 37 => 68
  | 38 => 68
  | 39 => 68
  | 40 => 68
  | 41 => 68
  | 42 => 68
  | 43 => 68
  | 44 => 68
  | 45 => 68
  | 46 => 68
  | 47 => 63
  | 48 => 63
  | 49 => 63
  | 50 => 63
  | 51 => 63
  | 52 => 63
  | 53 => 63
  | 54 => 63
  | 55 => 63
  | 56 => 63
  | 57 => 63
  | 58 => 63
  | 59 => 63
  | 60 => 63
  | 61 => 63
  | 62 => 63
  | 63 => 63
  | 64 => 63
  | 65 => 63
  | 66 => 63
  | 67 => 63
  | 68 => 63
  | 69 => 63
  | 70 => 63
  | 71 => 63
  | 72 => 63
  | 73 => 63
  | 74 => 63
  | 75 => 63
  | 76 => 63
  | 77 => 63
  | 78 => 63
  | 79 => 63
  | 80 => 63
  | 81 => 63
  | 82 => 63
  | 83 => 63
  | 84 => 63
  | 85 => 63
  | 86 => 63
  | 87 => 63
  | 88 => 63
  | 89 => 63
  | 90 => 63
  | 91 => 63
  | 92 => 63
  | 93 => 63
  | 94 => 63
  | 95 => 63
  | 96 => 63
  | 97 => 63
  | 98 => 63
  | 99 => 63
  | 100 => 63
  | 101 => 63
  | 102 => 63
  | 103 => 63
  | 104 => 63
  | 105 => 63
  | 106 => 63
  | 107 => 63
  | 108 => 63
  | 109 => 63
  | 110 => 67
  | 111 => 67
  | 112 => 67
  | 113 => 67
  | 114 => 67
  | 115 => 67
  | 116 => 67
  | 117 => 67
  | 118 => 67
  | 119 => 67
  | 120 => 67
  | 121 => 67
  | 122 => 67
  | 123 => 67
  | 124 => 67
  | 125 => 67
  | 126 => 67
  | 127 => 67
  | 128 => 67
  | 129 => 67
  | 130 => 67
  | 131 => 67
  | 132 => 67
  | 133 => 67
  | 134 => 67
  | 135 => 67
  | 136 => 67
  | 137 => 67
  | 138 => 67
  | 139 => 67
  | 140 => 67
  | 141 => 67
  | 142 => 67
  | 143 => 67
  | 144 => 67
  | 145 => 67
  | 146 => 67
  | 147 => 67
  | 148 => 67
  | 149 => 67
  | 150 => 67
  | 151 => 67
  | 152 => 67
  | 153 => 67
  | 154 => 67
  | 155 => 67
  | 156 => 67
  | 157 => 67
  | 158 => 67
  | 159 => 67
  | 160 => 67
  | 161 => 67
  | 162 => 67
  | 163 => 67
  | 164 => 67
  | 165 => 67
  | 166 => 67
  | 167 => 67
  | 168 => 67
  | 169 => 67
  | 170 => 67
  | 171 => 67
  | 172 => 67
  | 173 => 67
  | 174 => 67
  | 175 => 67
  | 176 => 67
  | 177 => 67
  | 178 => 67
  | 179 => 67
  | 180 => 67
  | 181 => 67
  | 182 => 67
  | 183 => 67
  | 184 => 67
  | 185 => 67
  | 186 => 67
  | 187 => 67
  | 188 => 72
  | 189 => 69
  | _ => 0
def az_qm (y : Nat) : Nat := match y with
  | 0 => 0
  | 1 => 448
  | 2 => 485
  | 3 => 144
  | 4 => 581
  | 5 => 600
  | 6 => 609
  | 7 => 588
  | 8 => 593
  | 9 => 597
  | 10 => 606
  | 11 => 120
  | 12 => 534
  | 13 => 541
  | 14 => 546
  | 15 => 550
  | 16 => 558
  | 17 => 88
  | 18 => 409
  | 19 => 424
  | 20 => 414
  | 21 => 433
  | 22 => 207
  | 23 => 214
  | 24 => 221
  | 25 => 315
  | 26 => 288
  | 27 => 281
  | 28 => 267
  | 29 => 225
  | 30 => 292
  | 31 => 277
  | 32 => 351
  | 33 => 497
  | 34 => 347
  | 35 => 303
  | 36 => 307
  | 37 => 311
  | 38 => 320
  | 39 => 380
  | 40 => 384
  | 41 => 389
  | 42 => 511
  | 43 => 653
  | 44 => 663
  | 45 => 669
  | 46 => 680
  | 47 => 76
  | 48 => 202
  | 49 => 259
  | 50 => 272
  | 51 => 299
  | 52 => 324
  | 53 => 328
  | 54 => 355
  | 55 => 363
  | 56 => 376
  | 57 => 393
  | 58 => 397
  | 59 => 401
  | 60 => 443
  | 61 => 477
  | 62 => 490
  | 63 => 515
  | 64 => 519
  | 65 => 526
  | 66 => 562
  | 67 => 566
  | 68 => 616
  | 69 => 620
  | 70 => 624
  | 71 => 638
  | 72 => 646
  | 73 => 672
  | 74 => 676
  | 75 => 684
  | 76 => 688
  | 77 => 692
  | 78 => 285
  | 79 => 218
  | 80 => 439
  | 81 => 264
  | 82 => 482
  | 83 => 256
  | 84 => 474
  | 85 => 697
  | 86 => 701
  | 87 => 335
  | 88 => 332
  | 89 => 338
  | 90 => 341
  | 91 => 344
  | 92 => 359
  | 93 => 367
  | 94 => 370
  | 95 => 373
  | 96 => 406
  | 97 => 523
  | 98 => 494
  | 99 => 501
  | 100 => 505
  | 101 => 508
  | 102 => 531
  | 103 => 571
  | 104 => 576
  | 105 => 629
  | 106 => 632
  | 107 => 635
  | 108 => 643
  | 109 => 650
  | 110 => 706
  | 111 => 815
  | 112 => 831
  | 113 => 839
  | 114 => 819
  | 115 => 823
  | 116 => 847
  | 117 => 843
  | 118 => 863
  | 119 => 811
  | 120 => 826
  | 121 => 834
  | 122 => 859
  | 123 => 855
  | 124 => 850
  | 125 => 866
  | 126 => 874
  | 127 => 877
  | 128 => 881
  | 129 => 870
  | 130 => 884
  | 131 => 888
  | 132 => 897
  | 133 => 892
  | 134 => 900
  | 135 => 904
  | 136 => 969
  | 137 => 920
  | 138 => 917
  | 139 => 925
  | 140 => 913
  | 141 => 908
  | 142 => 961
  | 143 => 956
  | 144 => 964
  | 145 => 937
  | 146 => 933
  | 147 => 945
  | 148 => 941
  | 149 => 953
  | 150 => 949
  | 151 => 929
  | 152 => 972
  | 153 => 976
  | 154 => 980
  | 155 => 1001
  | 156 => 997
  | 157 => 1010
  | 158 => 1018
  | 159 => 993
  | 160 => 1014
  | 161 => 1006
  | 162 => 989
  | 163 => 984
  | 164 => 1021
  | 165 => 1030
  | 166 => 1034
  | 167 => 1025
  | 168 => 1042
  | 169 => 1047
  | 170 => 1037
  | 171 => 1050
  | 172 => 1063
  | 173 => 1059
  | 174 => 1054
  | 175 => 1066
  | 176 => 1083
  | 177 => 1091
  | 178 => 1087
  | 179 => 1079
  | 180 => 1075
  | 181 => 1070
  | 182 => 1094
  | 183 => 1103
  | 184 => 1098
  | 185 => 1106
  | 186 => 1110
  | 187 => 1114
  | 188 => 657
  | 189 => 211
  | _ => 0
def az_qs (y : Nat) : Nat := match y with
  | 0 => 9999
  | 1 => 9999
  | 2 => 486
  | 3 => 9999
  | 4 => 582
  | 5 => 601
  | 6 => 610
  | 7 => 589
  | 8 => 13
  | 9 => 14
  | 10 => 15
  | 11 => 9999
  | 12 => 535
  | 13 => 542
  | 14 => 547
  | 15 => 551
  | 16 => 559
  | 17 => 9999
  | 18 => 410
  | 19 => 425
  | 20 => 6
  | 21 => 7
  | 22 => 9999
  | 23 => 215
  | 24 => 222
  | 25 => 316
  | 26 => 289
  | 27 => 282
  | 28 => 268
  | 29 => 226
  | 30 => 293
  | 31 => 278
  | 32 => 352
  | 33 => 498
  | 34 => 348
  | 35 => 304
  | 36 => 9999
  | 37 => 2
  | 38 => 3
  | 39 => 381
  | 40 => 385
  | 41 => 4
  | 42 => 512
  | 43 => 654
  | 44 => 664
  | 45 => 18
  | 46 => 681
  | 47 => 9999
  | 48 => 203
  | 49 => 260
  | 50 => 273
  | 51 => 300
  | 52 => 325
  | 53 => 329
  | 54 => 356
  | 55 => 364
  | 56 => 377
  | 57 => 394
  | 58 => 398
  | 59 => 402
  | 60 => 444
  | 61 => 478
  | 62 => 491
  | 63 => 516
  | 64 => 520
  | 65 => 527
  | 66 => 563
  | 67 => 567
  | 68 => 617
  | 69 => 621
  | 70 => 625
  | 71 => 639
  | 72 => 647
  | 73 => 673
  | 74 => 677
  | 75 => 685
  | 76 => 689
  | 77 => 693
  | 78 => 9999
  | 79 => 9999
  | 80 => 9999
  | 81 => 1
  | 82 => 9
  | 83 => 0
  | 84 => 8
  | 85 => 9999
  | 86 => 9999
  | 87 => 9999
  | 88 => 9999
  | 89 => 9999
  | 90 => 9999
  | 91 => 9999
  | 92 => 9999
  | 93 => 9999
  | 94 => 9999
  | 95 => 9999
  | 96 => 5
  | 97 => 9999
  | 98 => 9999
  | 99 => 9999
  | 100 => 9999
  | 101 => 9999
  | 102 => 10
  | 103 => 11
  | 104 => 12
  | 105 => 16
  | 106 => 9999
  | 107 => 9999
  | 108 => 17
  | 109 => 9999
  | 110 => 9999
  | 111 => 9999
  | 112 => 21
  | 113 => 22
  | 114 => 19
  | 115 => 20
  | 116 => 24
  | 117 => 23
  | 118 => 27
  | 119 => 812
  | 120 => 827
  | 121 => 835
  | 122 => 26
  | 123 => 25
  | 124 => 851
  | 125 => 867
  | 126 => 9999
  | 127 => 9999
  | 128 => 28
  | 129 => 871
  | 130 => 885
  | 131 => 889
  | 132 => 29
  | 133 => 893
  | 134 => 901
  | 135 => 905
  | 136 => 41
  | 137 => 9999
  | 138 => 31
  | 139 => 32
  | 140 => 30
  | 141 => 909
  | 142 => 40
  | 143 => 957
  | 144 => 965
  | 145 => 35
  | 146 => 34
  | 147 => 37
  | 148 => 36
  | 149 => 39
  | 150 => 38
  | 151 => 33
  | 152 => 973
  | 153 => 977
  | 154 => 981
  | 155 => 45
  | 156 => 44
  | 157 => 47
  | 158 => 49
  | 159 => 43
  | 160 => 48
  | 161 => 46
  | 162 => 42
  | 163 => 985
  | 164 => 1022
  | 165 => 50
  | 166 => 51
  | 167 => 1026
  | 168 => 52
  | 169 => 53
  | 170 => 1038
  | 171 => 1051
  | 172 => 55
  | 173 => 54
  | 174 => 1055
  | 175 => 1067
  | 176 => 58
  | 177 => 60
  | 178 => 59
  | 179 => 57
  | 180 => 56
  | 181 => 1071
  | 182 => 1095
  | 183 => 61
  | 184 => 1099
  | 185 => 1107
  | 186 => 1111
  | 187 => 1115
  | 188 => 9999
  | 189 => 9999
  | _ => 9999
def az_nest : List (String × Nat × MethodName × String) := [("ArrowTables$Table", 38, yX5_write, "ArrowTables"), ("ArrowTables$Table", 50, yX5_read, "ArrowTables"), ("ArrowTables$Search", 39, yX5_write, "ArrowTables"), ("ArrowTables$Search", 44, yX5_read, "ArrowTables"), ("ArrowTables$Carrier", 29, yX5_read, "ArrowTables"), ("ArrowTables$Family", 36, yX5_read, "ArrowTables"), ("ArrowTables$Family", 44, yX5_write, "ArrowTables"), ("ArrowTables$Family", 60, yX5_copy, "ArrowTables"), ("ArrowTables$Cones", 22, yX5_write, "ArrowTables"), ("ArrowTables$Cones", 26, yX5_read, "ArrowTables")]
def az_q0 : List Nat := [73, 0, 75, 0, 703, 0, 705, 0, 0, 0, 0, 0, 0, 0, 0, 0, 0, 0, 0, 0, 0, 0, 0, 0, 0, 0, 0, 0, 201, 0, 0, 0, 0, 0, 0, 810, 0, 0, 0, 0, 0, 0, 0, 0, 0, 0, 0, 0, 0, 0, 0, 0, 0, 0, 0, 258, 0, 0, 0, 0, 0, 0, 0, 0, 0, 0, 0, 0, 0, 0, 0, 0, 825, 0, 0, 0, 0, 0, 0, 0, 0, 0, 0, 0, 0, 0, 0, 0, 0, 0, 0, 0, 0, 0, 0, 0, 0, 271, 0, 0, 0, 0, 0, 0, 0, 0, 0, 0, 0, 0, 0, 0, 0, 0, 0, 0, 0, 0, 0, 833, 0, 0, 0, 0, 0, 0, 0, 0, 0, 298, 0, 0, 0, 0, 0, 0, 849, 0, 0, 0, 0, 0, 0, 0, 0, 0, 0, 0, 0, 0, 0, 323, 0, 0, 0, 0, 0, 0, 0, 0, 0, 0, 0, 865, 0, 0, 0, 0, 0, 0, 0, 0, 0, 0, 0, 0, 0, 0, 0, 0, 0, 0, 0, 0, 0, 0, 0, 1119, 0, 0, 327, 0, 0, 0, 0, 0, 0, 0, 0, 0, 0, 0, 0, 0, 0, 0, 0, 0, 0, 0, 0, 1119, 0, 0, 869, 0, 0, 0, 0, 0, 0, 0, 0, 0, 354, 0, 0, 0, 0, 0, 0, 883, 0, 0, 0, 0, 0, 0, 0, 0, 0, 0, 0, 0, 0, 0, 362, 0, 0, 0, 0, 0, 0, 0, 0, 0, 0, 0, 887, 0, 0, 0, 0, 0, 0, 0, 0, 0, 0, 0, 0, 0, 0, 375, 0, 0, 0, 0, 0, 0, 0, 0, 0, 0, 0, 891, 0, 0, 0, 0, 0, 0, 0, 0, 0, 0, 0, 0, 0, 0, 0, 0, 0, 0, 0, 392, 0, 0, 0, 0, 0, 0, 0, 0, 0, 0, 0, 0, 0, 0, 0, 0, 899, 0, 0, 0, 0, 0, 0, 0, 0, 0, 0, 0, 0, 0, 0, 0, 0, 0, 0, 0, 396, 0, 0, 0, 0, 0, 0, 0, 0, 0, 0, 0, 0, 0, 0, 0, 0, 903, 0, 0, 0, 0, 0, 0, 0, 0, 0, 0, 0, 0, 0, 0, 400, 0, 0, 0, 0, 0, 0, 0, 0, 0, 0, 0, 907, 0, 0, 0, 0, 0, 0, 0, 0, 0, 0, 0, 0, 0, 0, 0, 0, 0, 0, 0, 442, 0, 0, 0, 0, 0, 0, 0, 0, 0, 0, 0, 0, 0, 0, 0, 0, 955, 0, 0, 0, 0, 0, 0, 0, 0, 0, 0, 0, 0, 0, 0, 476, 0, 0, 0, 0, 0, 0, 0, 0, 0, 0, 0, 963, 0, 0, 0, 0, 0, 0, 0, 0, 0, 0, 0, 0, 0, 0, 489, 0, 0, 0, 0, 0, 0, 0, 0, 0, 0, 0, 971, 0, 0, 0, 0, 0, 0, 0, 0, 0, 0, 0, 0, 0, 0, 514, 0, 0, 0, 0, 0, 0, 0, 0, 0, 0, 0, 975, 0, 0, 0, 0, 0, 0, 0, 0, 0, 0, 0, 0, 0, 0, 518, 0, 0, 0, 0, 0, 0, 0, 0, 0, 0, 0, 979, 0, 0, 0, 0, 0, 0, 0, 0, 0, 0, 0, 0, 0, 0, 525, 0, 0, 0, 0, 0, 0, 0, 0, 0, 0, 0, 983, 0, 0, 0, 0, 0, 0, 0, 0, 0, 0, 0, 0, 0, 0, 0, 0, 0, 0, 0, 0, 0, 0, 0, 0, 561, 0, 0, 0, 0, 0, 0, 0, 0, 0, 0, 0, 0, 0, 0, 0, 0, 0, 0, 0, 0, 0, 1020, 0, 0, 0, 0, 0, 0, 0, 0, 0, 565, 0, 0, 0, 0, 0, 0, 1036, 0, 0, 0, 0, 0, 0, 0, 0, 0, 615, 0, 0, 0, 0, 0, 0, 1049, 0, 0, 0, 0, 0, 0, 0, 0, 0, 0, 0, 0, 0, 0, 619, 0, 0, 0, 0, 0, 0, 0, 0, 0, 0, 0, 1024, 0, 0, 0, 0, 0, 0, 0, 0, 0, 0, 0, 0, 0, 0, 0, 0, 0, 0, 0, 623, 0, 0, 0, 0, 0, 0, 0, 0, 0, 0, 0, 0, 0, 0, 0, 0, 1053, 0, 0, 0, 0, 0, 0, 0, 0, 0, 637, 0, 0, 0, 0, 0, 0, 1065, 0, 0, 0, 0, 0, 0, 0, 0, 0, 0, 0, 0, 0, 0, 645, 0, 0, 0, 0, 0, 0, 0, 0, 0, 0, 0, 1069, 0, 0, 0, 0, 0, 0, 0, 0, 0, 0, 0, 0, 0, 0, 0, 0, 0, 0, 0, 671, 0, 0, 0, 0, 0, 0, 0, 0, 0, 0, 0, 0, 0, 0, 0, 0, 1093, 0, 0, 0, 0, 0, 0, 0, 0, 0, 0, 0, 0, 0, 0, 0, 0, 0, 0, 0, 0, 0, 0, 0, 0, 675, 0, 0, 0, 0, 0, 0, 0, 0, 0, 0, 0, 0, 0, 0, 0, 0, 0, 0, 0, 0, 0, 1097, 0, 0, 0, 0, 0, 0, 0, 0, 0, 0, 0, 0, 0, 0, 0, 0, 0, 0, 0, 0, 0, 0, 0, 0, 683, 0, 0, 0, 0, 0, 0, 0, 0, 0, 0, 0, 0, 0, 0, 0, 0, 0, 0, 0, 0, 0, 1105, 0, 0, 0, 0, 0, 0, 0, 0, 0, 687, 0, 0, 0, 0, 0, 0, 1109, 0, 0, 0, 0, 691, 0, 1113, 0, 0, 0, 0, 0, 0, 0, 0]
def az_q1 : List Nat := [0, 450, 0, 0, 451, 0, 0, 453, 0, 0, 455, 0, 0, 457, 0, 0, 0, 459, 0]
def az_q2 : List Nat := [0, 459, 0, 10004, 0]
def az_q3 : List Nat := [0, 146, 0, 0, 0, 149, 0, 0, 0, 150, 0]
def az_q4 : List Nat := [0, 147, 0, 0, 0, 0, 149, 0, 147, 0, 10008, 0, 0, 0, 0, 0, 0, 150, 0, 147, 0, 0, 0, 0, 0, 0, 10009, 10008, 0, 0, 0, 0, 147, 0, 0, 147, 0]
def az_q5 : List Nat := [0, 149, 0, 10009, 0]
def az_q6 : List Nat := [0, 150, 0, 0, 0, 0, 0, 10009, 0]
def az_q7 : List Nat := [0, 0, 0, 0, 147, 0, 0, 0, 0, 0, 591, 0, 0, 0, 0, 0, 0, 0]
def az_q8 : List Nat := [0, 0, 0, 0, 147, 0, 0, 0, 0, 0, 0, 595, 0, 0, 0, 0, 0, 0, 0, 0]
def az_q9 : List Nat := [0, 0, 0, 0, 0, 0, 236, 0, 0, 0, 0, 0, 599, 0, 0, 599, 603, 0, 0, 0, 0, 0, 0, 0, 604, 0, 0, 0, 0, 0, 0]
def az_q10 : List Nat := [0, 0, 0, 0, 0, 0, 0, 0, 0, 0, 608, 612, 0, 0, 0, 608, 0, 0, 0, 0, 0, 0, 0]
def az_q11 : List Nat := [0, 122, 0, 0, 0, 123, 0, 0, 0, 125, 0, 0, 0, 127, 0, 0, 0, 128, 0, 0, 0, 129, 0]
def az_q12 : List Nat := [0, 0, 0, 0, 0, 0, 229, 0, 0, 0, 0, 0, 0, 0, 233, 0, 0, 0, 0, 0, 10005, 0, 0, 10005, 538, 0, 0, 127, 0, 0, 0, 0, 0, 0, 10006, 0, 0, 0, 0, 128, 0, 0, 10006, 0, 129, 0, 0, 10006, 0, 0, 0, 0, 0, 0, 0, 0]
def az_q13 : List Nat := [0, 0, 0, 0, 0, 544, 0, 0, 0, 0, 0, 0, 0, 0, 0, 0, 229, 545, 0, 0, 0, 0, 0, 549, 0, 0, 0, 0, 0, 123, 0, 125, 0, 229, 10007, 0, 0, 0, 229, 557, 0, 0, 0, 0]
def az_q14 : List Nat := [0, 0, 0, 0, 0, 0, 123, 0, 0, 127, 0, 0, 0, 0, 129, 0, 10005, 0, 10005, 10006, 0, 0, 0]
def az_q15 : List Nat := [0, 0, 0, 0, 233, 0, 0, 0, 0, 10005, 0, 123, 0, 0, 553, 10005, 554, 0, 0, 0, 123, 0, 0, 555, 10005, 0, 0, 10005, 554, 0, 0, 0, 0, 0, 0, 0, 0, 0, 0]
def az_q16 : List Nat := [0, 0, 0, 0, 0, 0, 0, 129, 0, 10005, 0, 0, 0, 0, 0, 128, 0, 10005, 0, 0, 129, 0, 0, 10006, 0, 0, 129, 0, 0, 10006, 0, 0, 0]
def az_q17 : List Nat := [0, 90, 0, 0, 0, 91, 0, 0, 0, 98, 0, 0, 0, 99, 0, 0, 0, 100, 0]
def az_q18 : List Nat := [0, 0, 412, 0, 0, 93, 0, 0, 95, 0, 0, 97, 0, 91, 0, 0, 10002, 0]
def az_q19 : List Nat := [0, 0, 0, 427, 0, 0, 97, 0, 0, 91, 0, 97, 10003, 0, 0, 0, 0, 0, 0, 97, 429, 0, 0, 230, 0, 0, 235, 0, 0, 0, 97, 0, 0, 97, 0, 0, 93, 430, 0, 0, 0, 95, 0, 0, 0, 0, 93, 0, 0, 93, 0, 91, 0, 97, 0, 10002, 0, 0, 0, 431, 0, 0, 97, 0, 0, 0, 235, 0, 0, 0, 0, 0, 97, 0, 0, 97, 0, 91, 0, 97, 0, 10002, 0, 0, 0, 0]
def az_q20 : List Nat := [0, 0, 0, 0, 0, 0, 235, 0, 0, 98, 0, 0, 10002, 0, 230, 0, 0, 0, 0, 0, 230, 0, 0, 0, 0, 0, 0, 0, 417, 0, 0, 0, 418, 0, 0, 0, 421, 418, 0, 0, 0, 99, 0, 0, 10002, 0, 100, 0, 0, 10002, 0, 0, 0, 0, 0, 0, 0, 0, 98, 0, 235, 0, 10002, 0]
def az_q21 : List Nat := [0, 0, 97, 429, 0, 0, 0, 0, 0, 91, 0, 97, 10003, 0, 91, 0, 0, 97, 435, 10003, 0, 91, 0, 0, 97, 436, 10003, 437, 0, 0, 0, 0, 98, 0, 97, 0, 0, 10003, 0, 0, 98, 0, 97, 10003, 0, 0, 0, 0, 0, 99, 0, 10003, 0, 0, 100, 0, 10003, 0, 0, 0, 91, 0, 10003, 0, 91, 0, 10003, 421, 0, 91, 0, 0, 0, 421, 10003, 0, 0, 0, 0, 0, 0, 0]
def az_q22 : List Nat := [0, 209, 0, 0, 228, 0, 0, 0, 238, 0, 0, 0, 239, 0, 0, 0, 240, 0, 240, 0, 210, 0, 0, 0, 0, 0, 0, 0, 0, 213, 0, 0, 0, 0]
def az_q23 : List Nat := [0, 232, 0, 0, 238, 0, 0, 10000, 0, 239, 0, 0, 10000, 0, 0, 232, 0, 0, 232, 0, 0, 0, 0, 220, 0, 0, 0, 0, 220, 0, 0]
def az_q24 : List Nat := [0, 0, 224, 0, 0, 0, 224, 0, 0, 240, 0, 0, 0, 0, 0, 0, 10000, 0]
def az_q25 : List Nat := [0, 0, 224, 0, 0, 0, 224, 0, 0, 240, 0, 0, 0, 0, 0, 10001, 0, 0, 0]
def az_q26 : List Nat := [0, 238, 0, 10001, 0]
def az_q27 : List Nat := [0, 239, 0, 10001, 0]
def az_q28 : List Nat := [0, 0, 0, 0, 228, 0, 0, 0, 0, 0]
def az_q29 : List Nat := [0, 0, 0, 0, 232, 0, 0, 0, 0, 0]
def az_q30 : List Nat := [0, 0, 0, 0, 228, 0, 0, 0, 0, 0]
def az_q31 : List Nat := [0, 0, 280, 0, 0, 287, 0, 0, 0, 0, 0]
def az_q32 : List Nat := [0, 0, 287, 0, 0, 0, 0, 280, 0, 0, 0, 0, 0, 0]
def az_q33 : List Nat := [0, 0, 0, 0, 287, 0, 0, 280, 350, 0]
def az_q34 : List Nat := [0, 0, 0, 0, 232, 0, 0, 0, 0, 0, 350, 0, 0, 0, 0, 0, 0, 0]
def az_q35 : List Nat := [0, 0, 0, 0, 0, 306, 0, 0, 309, 0, 0, 0, 318, 0]
def az_q36 : List Nat := [0, 0, 0, 10000, 0, 0, 0, 10000, 0, 0, 0, 10000, 0, 0, 0, 10000, 0]
def az_q37 : List Nat := [0, 0, 0, 0, 232, 0, 0, 0, 0, 0, 232, 0, 0, 0, 0, 313, 0, 0, 0, 0, 314, 0, 0, 0, 0, 0, 0, 0, 306, 0, 0, 0, 0, 0, 0, 0, 0]
def az_q38 : List Nat := [0, 0, 0, 0, 232, 0, 0, 0, 0, 0, 232, 0, 0, 0, 0, 0, 232, 0, 0, 0, 0, 313, 0, 0, 0, 0, 313, 0, 0, 0, 0, 0, 314, 0, 314, 0, 0, 0, 0, 0, 314, 314, 0, 0, 0, 0, 0, 0, 306, 0, 0, 0, 0, 0, 0, 0, 0]
def az_q39 : List Nat := [0, 0, 0, 228, 0, 0, 0, 232, 0, 0, 228, 0, 0, 0, 232, 0, 0, 0, 0, 0, 313, 0, 0, 0, 0, 0, 0, 0, 0, 0, 0, 0, 0]
def az_q40 : List Nat := [0, 0, 0, 0, 0, 0, 232, 0, 0, 0, 0, 387, 0, 0, 0, 0, 0, 0, 0, 0, 0, 0]
def az_q41 : List Nat := [0, 0, 0, 0, 232, 0, 0, 0, 0, 0, 314, 391, 0, 0, 0, 0, 0, 314, 391, 0, 0, 0, 0, 0, 0, 0]
def az_q42 : List Nat := [0, 0, 0, 0, 232, 0, 0, 0, 0, 0, 350, 0, 0, 0, 387, 0, 0, 0, 0, 0, 0, 0]
def az_q43 : List Nat := [0, 0, 0, 0, 0, 0, 232, 0, 0, 0, 0, 280, 0, 0, 0, 0, 0, 0, 0, 0, 0, 0, 0, 0, 0]
def az_q44 : List Nat := [0, 0, 0, 666, 0, 0, 0, 0, 0, 0, 0, 0, 0, 0, 232, 0, 0, 0, 0, 0, 0, 0, 0, 0, 0, 667, 0, 0, 0, 0, 0, 0, 0]
def az_q45 : List Nat := [0, 0, 0, 0, 232, 0, 0, 0, 0, 313, 0, 0, 0, 0, 0, 314, 0, 0, 0, 0, 0, 0, 0, 0, 0, 0]
def az_q46 : List Nat := [0, 0, 0, 0, 0, 0, 232, 0, 0, 0, 0, 313, 0, 0, 0, 0, 0, 314, 0, 0, 0, 0, 0, 0, 0, 0, 0, 0, 0, 0, 0, 0]
def az_q47 : List Nat := [0, 78, 0, 0, 81, 158, 0, 0, 83, 159, 0, 85, 0, 87, 160, 0, 117, 0, 119, 161, 0, 141, 0, 143, 162, 0, 0, 0, 163, 0, 0, 0, 164, 0, 0, 0, 165, 0, 0, 0, 166, 0, 0, 0, 167, 0, 0, 0, 168, 0]
def az_q48 : List Nat := [0, 0, 0, 0, 0, 0, 0, 0, 0, 169, 0, 0, 0, 0, 0, 81, 0, 0, 206, 254, 0]
def az_q49 : List Nat := [0, 0, 262, 0, 0, 0, 0, 0, 266, 0, 0, 0, 266, 0, 0, 0, 0, 237, 0, 0, 0, 0, 234, 0, 0, 0, 0, 0, 0, 0, 270, 0]
def az_q50 : List Nat := [0, 0, 262, 0, 0, 0, 0, 0, 275, 0, 0, 0, 275, 0, 0, 0, 275, 0, 0, 0, 0, 237, 0, 0, 0, 0, 276, 0, 0, 0, 291, 0, 0, 0, 291, 0, 0, 0, 0, 0, 295, 0, 0, 295, 0, 0, 0, 296, 0, 0, 296, 0, 0, 0, 0, 0, 0, 0, 297, 0, 0]
def az_q51 : List Nat := [0, 0, 262, 0, 0, 0, 0, 0, 0, 237, 0, 0, 0, 0, 0, 164, 302, 0, 164, 0, 322, 0, 0, 0, 0, 0, 237, 0, 0]
def az_q52 : List Nat := [0, 0, 262, 0, 0, 0, 0, 0, 0, 0, 0, 0, 0, 0, 0, 164, 302, 0, 164, 0, 322, 0]
def az_q53 : List Nat := [0, 0, 0, 0, 0, 0, 0, 0, 0, 0, 331, 0, 0, 0, 340, 0, 0, 0, 0, 0, 169, 0, 0, 0, 0, 0, 0, 0, 343, 254, 0]
def az_q54 : List Nat := [0, 0, 262, 0, 0, 0, 0, 0, 0, 237, 0, 0, 0, 0, 169, 0, 0, 0, 0, 0, 0, 358, 254, 0]
def az_q55 : List Nat := [0, 0, 262, 0, 0, 0, 262, 0, 0, 0, 0, 0, 0, 0, 0, 237, 0, 0, 237, 0, 0, 0, 0, 231, 0, 231, 0, 0, 0, 0, 234, 0, 234, 0, 0, 0, 0, 0, 0, 169, 0, 0, 0, 0, 0, 0, 0, 366, 254, 0]
def az_q56 : List Nat := [0, 0, 262, 0, 0, 0, 0, 0, 0, 0, 0, 231, 0, 0, 234, 0, 0, 237, 0, 0, 0, 0, 0, 0, 379, 0, 0, 237, 0, 0, 383, 0, 0, 0, 0, 0]
def az_q57 : List Nat := [0, 0, 262, 0, 0, 0, 0, 0, 275, 0, 0, 0, 0, 0, 0, 0, 0, 0, 0, 0, 0, 295, 0, 0, 0, 296, 0]
def az_q58 : List Nat := [0, 0, 262, 0, 0, 0, 0, 0, 275, 0, 0, 0, 275, 0, 0, 0, 0, 0, 0, 361, 0]
def az_q59 : List Nat := [0, 0, 262, 0, 0, 0, 262, 0, 0, 0, 0, 0, 0, 0, 0, 237, 0, 0, 237, 0, 0, 0, 0, 0, 0, 0, 404, 0, 0, 160, 96, 0, 0, 0, 0, 0]
def az_q60 : List Nat := [0, 0, 262, 0, 0, 0, 262, 0, 0, 0, 0, 0, 0, 0, 0, 0, 0, 237, 0, 0, 237, 0, 0, 0, 0, 0, 0, 0, 404, 0, 0, 160, 96, 0, 0, 0, 0, 0, 0, 0, 170, 0, 0, 0, 0, 0, 160, 96, 0, 0, 0, 83, 0, 0, 0, 0, 0, 447, 0, 0, 163, 0, 460, 0, 234, 438, 0, 0, 472, 0]
def az_q61 : List Nat := [0, 0, 480, 0, 0, 0, 480, 0, 0, 0, 0, 0, 0, 0, 0, 454, 0, 452, 0, 0, 0, 0, 170, 0, 0, 0, 0, 83, 0, 0, 452, 0, 454, 0, 456, 0, 458, 447, 0, 0, 0, 0, 0, 456, 234, 0, 0, 460, 0, 0, 0, 0, 484, 484, 441, 0, 0, 0, 0, 472, 0]
def az_q62 : List Nat := [0, 0, 480, 0, 0, 0, 0, 0, 0, 0, 0, 452, 0, 0, 454, 0, 0, 456, 0, 460, 493, 0, 0, 0, 0, 0, 0, 456, 0, 458, 0, 460, 500, 0, 0, 0, 0, 0, 0, 456, 0, 458, 0, 460, 507, 0, 0, 0, 0, 0, 0, 0]
def az_q63 : List Nat := [0, 0, 480, 0, 0, 0, 0, 456, 0, 275, 0, 0, 0, 0, 0, 484, 0]
def az_q64 : List Nat := [0, 0, 262, 0, 0, 0, 262, 0, 0, 0, 0, 0, 0, 0, 0, 237, 0, 0, 237, 0, 0, 0, 0, 0, 0, 160, 0, 408, 0, 0, 0, 0, 0, 422, 0, 0, 160, 0, 0, 423, 0, 0, 0, 0, 160, 92, 522, 0, 0, 0, 0, 160, 96, 0, 0, 0, 0, 0, 0, 0, 0, 0]
def az_q65 : List Nat := [0, 0, 480, 0, 0, 0, 480, 0, 0, 0, 0, 0, 0, 0, 0, 0, 0, 0, 529, 0]
def az_q66 : List Nat := [0, 0, 480, 0, 0, 0, 480, 0, 0, 0, 0, 0, 0, 0, 0, 456, 0, 266, 0, 0, 0, 0, 0, 0, 0, 529, 0, 0, 0, 0, 0, 0, 0, 0, 0, 161, 126, 0, 322, 0, 0, 0]
def az_q67 : List Nat := [0, 0, 480, 0, 0, 0, 0, 0, 0, 0, 0, 0, 458, 231, 0, 0, 0, 0, 569, 0, 0, 0, 0, 0, 0, 0, 0, 574, 0, 162, 0, 458, 0, 456, 231, 587, 0, 0, 0, 0, 0, 0, 0, 0, 456, 231, 171, 0, 0, 0, 0, 171, 0, 0, 168, 0, 0, 162, 0, 0, 613, 441, 0, 0, 0, 162, 0, 614, 0]
def az_q68 : List Nat := [0, 0, 0, 0, 171, 0, 0, 0, 0, 168, 0, 322, 0]
def az_q69 : List Nat := [0, 0, 480, 0, 0, 0, 0, 458, 0, 266, 0, 0, 0, 0, 0, 0, 569, 0, 0, 0, 0, 0, 0, 0, 161, 0, 456, 0, 458, 0, 165, 0, 460, 0, 540, 0]
def az_q70 : List Nat := [0, 0, 480, 0, 0, 0, 0, 458, 0, 266, 0, 0, 0, 0, 0, 0, 0, 0, 0, 0, 0, 627, 0, 0, 0, 166, 0, 322, 0, 0, 167, 0, 322, 0]
def az_q71 : List Nat := [0, 0, 480, 0, 0, 0, 0, 0, 0, 0, 0, 0, 458, 231, 0, 0, 0, 0, 627, 0, 166, 0, 322, 0, 0, 0, 0, 0, 0, 0, 170, 0, 0, 0, 0, 83, 0, 0, 454, 0, 452, 0, 458, 0, 456, 447, 0, 0, 0, 0, 0, 458, 234, 0, 0, 460, 0, 0, 0, 0, 641, 441, 0, 0, 0, 0, 472, 0]
def az_q72 : List Nat := [0, 0, 262, 0, 0, 0, 0, 0, 266, 0, 0, 0, 0, 0, 0, 649, 0]
def az_q73 : List Nat := [0, 0, 262, 0, 0, 0, 0, 0, 266, 0, 0, 0, 0, 0, 0, 0, 0, 649, 0]
def az_q74 : List Nat := [0, 0, 262, 0, 0, 0, 0, 0, 266, 0, 0, 0, 275, 0, 0, 0, 0, 237, 0, 0, 0, 0, 662, 0, 0, 0, 296, 0, 0, 0, 0, 0, 0, 0, 679, 0]
def az_q75 : List Nat := [0, 0, 262, 0, 0, 0, 0, 0, 266, 0, 0, 0, 0, 237, 0, 0, 0, 0, 662, 0, 0, 0, 0, 662, 0, 0, 0, 0, 0, 0, 0, 0, 0, 234, 0, 0, 0, 296, 0, 0, 0, 0, 0, 679, 0, 0, 0, 679, 0, 0, 0, 0, 0, 0, 0, 0, 0, 0, 0, 0, 0, 0]
def az_q76 : List Nat := [0, 0, 0, 169, 0, 0, 170, 0, 0, 160, 94, 0, 0, 0]
def az_q77 : List Nat := [695, 0, 0, 0, 0, 0, 169, 0, 0, 0, 262, 0, 0, 0, 0, 0, 0, 0, 696, 0, 0, 0, 0, 0, 0, 0, 170, 0, 0, 0, 480, 0, 0, 0, 0, 0, 0, 0, 700, 0, 0, 0, 0, 0]
def az_q78 : List Nat := [0, 0, 0, 0, 0, 0, 0, 0, 0, 0, 0, 0]
def az_q79 : List Nat := [0, 0, 0, 0, 0, 0, 0, 0, 0, 0, 0]
def az_q80 : List Nat := [0, 0, 0, 0, 0, 0, 0, 0, 0, 322, 441, 0, 0, 0]
def az_q81 : List Nat := [0, 0, 0, 0, 169, 0, 0, 0, 158, 0, 0, 0, 158, 0, 0, 0, 0, 0]
def az_q82 : List Nat := [0, 0, 0, 0, 170, 0, 0, 0, 159, 0, 0, 0, 159, 0, 0, 0, 0, 0]
def az_q83 : List Nat := [0, 169, 0, 0, 169, 0, 158, 0, 0, 0, 0, 0, 158, 0, 169, 0, 0, 0, 0, 169, 0, 0, 169, 0, 169, 0, 0, 0]
def az_q84 : List Nat := [0, 170, 0, 0, 170, 0, 159, 0, 0, 0, 0, 0, 159, 0, 170, 0, 0, 0, 0, 170, 0, 0, 170, 0, 170, 0, 0, 0]
def az_q85 : List Nat := [699, 0, 0, 0, 231, 0, 0, 0, 699, 0, 0, 0, 234, 0, 0, 0, 699, 0, 0, 0, 237, 0, 0, 0, 0, 0, 0, 0, 0, 0, 0, 0, 234, 0, 699, 0, 0, 0, 0, 295, 0, 0, 0, 699, 0, 0, 0, 0, 296, 0, 0, 0, 0, 0, 0, 0, 0, 0, 234, 0, 0, 0, 0, 0, 234, 0, 699, 0, 0, 0, 0, 0, 361, 0, 0, 0, 0, 0, 0, 0, 0, 0]
def az_q86 : List Nat := [699, 0, 0, 0, 452, 0, 0, 0, 699, 0, 0, 0, 454, 0, 0, 0, 0, 0, 0, 0, 456, 234, 0, 699, 0, 0, 0, 0, 484, 0, 0, 0, 0, 0, 0, 0]
def az_q87 : List Nat := [0, 0, 0, 0, 0, 0, 0, 0, 0, 0, 0, 0, 0, 0, 0, 0]
def az_q88 : List Nat := [0, 0, 0, 0, 0, 0, 0, 0, 334, 0, 0, 0, 0, 0, 0, 0, 0, 0, 0, 0, 334, 0, 0, 0, 0, 0, 337, 0, 0, 0, 0, 0, 0, 0, 0, 0]
def az_q89 : List Nat := [0, 0, 0, 0, 0, 0, 0, 0, 334, 0, 0, 0, 0, 334, 0, 0, 0, 0, 0, 0, 0]
def az_q90 : List Nat := [0, 0, 0, 0, 0, 0, 0, 0, 0, 0, 0, 0, 0, 0, 0, 0, 334, 0, 0, 0, 0, 0, 0, 0, 0, 0, 0, 0, 0]
def az_q91 : List Nat := [81, 0, 0, 206, 0, 0, 0, 0, 0, 0, 0, 0, 0, 0, 0, 0, 0, 0, 0, 0, 0, 334, 0, 0, 0, 0, 270, 0, 0, 0, 0, 0, 0, 0, 0, 0, 234, 0, 0, 0, 0, 0, 234, 0, 0, 0, 0, 276, 0, 0, 0, 0, 0, 0, 0, 295, 0, 0, 296, 346, 297, 0, 0, 0, 0, 0, 0, 237, 0, 0]
def az_q92 : List Nat := [81, 0, 0, 231, 206, 0, 0, 231, 0, 0, 0, 234, 0, 0, 0, 0, 296, 0, 0, 295, 270, 0, 0, 0, 0, 0, 0, 0, 234, 0, 0, 0, 0, 0, 234, 0, 0, 0, 0, 0, 0, 0, 361, 297, 0, 0, 0, 0, 0, 0, 237, 0, 0]
def az_q93 : List Nat := [81, 0, 0, 231, 0, 231, 0, 206, 0, 0, 0, 0, 0, 234, 0, 0, 0, 0, 0, 234, 0, 0, 0, 291, 0, 0, 0, 291, 0, 0, 0, 295, 0, 231, 0, 0, 0, 295, 0, 0, 0, 0, 296, 0, 231, 0, 0, 0, 296, 0, 0, 0, 0, 0, 270, 0, 0, 0, 0, 0, 0, 0, 0, 0, 234, 0, 0, 0, 0, 0, 234, 0, 0, 0, 0, 276, 0, 0, 0, 0, 0, 0, 369, 0, 0, 0, 0, 0, 0, 237, 0, 0]
def az_q94 : List Nat := [0, 0, 0, 361, 0, 0, 0, 0, 0, 234, 0, 0, 0, 0, 0, 234, 0, 0, 0, 0, 276, 0, 0, 0, 0, 0, 372, 0, 0, 0, 0, 0, 372, 0, 0, 0, 0, 0, 0, 0, 0, 0, 0, 361, 372, 297, 0, 0, 0, 0, 0]
def az_q95 : List Nat := [0, 234, 0, 231, 0, 0, 0, 0, 291, 0, 0, 0, 291, 0, 0, 0, 231, 0, 0, 0, 0, 0, 0, 291, 0, 0, 231, 0, 231, 0, 0, 0, 0, 0, 0, 0, 0, 231, 0, 0, 0, 231, 0, 231, 0, 0, 231, 0, 0, 0, 0, 0, 231, 0, 0, 234, 0, 0, 0, 0, 0]
def az_q96 : List Nat := [0, 0, 0, 0, 0, 160, 0, 408, 0, 0, 0, 422, 0, 0, 160, 0, 0, 423, 0, 0, 0, 0, 0, 160, 92, 0, 163, 0, 234, 438, 0, 0, 0, 0, 0, 0]
def az_q97 : List Nat := [0, 0, 493, 0, 0, 0, 0, 500, 0, 0, 0, 0, 507, 0, 0, 0, 0, 0]
def az_q98 : List Nat := [0, 0, 0, 0, 234, 0, 0, 0, 0, 0, 0, 0, 234, 0, 0, 0, 0, 496, 0, 0, 0, 322, 0, 0, 322, 0, 0, 0, 0, 0, 0, 0, 0, 0]
def az_q99 : List Nat := [0, 0, 0, 0, 231, 0, 0, 0, 0, 0, 231, 0, 0, 0, 0, 0, 234, 0, 0, 0, 0, 0, 322, 0, 0, 322, 503, 0, 0, 0, 0, 0, 0, 504, 0, 0, 0, 0, 0, 0, 0, 0, 0, 0, 0]
def az_q100 : List Nat := [0, 0, 0, 0, 234, 0, 0, 0, 0, 0, 503, 0, 0, 0, 322, 0, 0, 0, 0, 0, 0, 0, 0]
def az_q101 : List Nat := [0, 0, 0, 0, 231, 0, 0, 0, 0, 0, 0, 0, 231, 0, 0, 0, 0, 0, 0, 0, 322, 510, 0, 0, 0, 0, 0, 0, 0, 0, 0, 0, 0]
def az_q102 : List Nat := [0, 452, 0, 452, 0, 0, 454, 0, 454, 0, 0, 0, 0, 161, 0, 456, 0, 458, 0, 460, 0, 460, 533, 0, 0, 0, 0, 0, 161, 0, 456, 0, 458, 0, 460, 0, 460, 0, 540, 0]
def az_q103 : List Nat := [0, 165, 0, 573, 0, 161, 0, 456, 0, 458, 0, 165, 0, 460, 533, 0]
def az_q104 : List Nat := [0, 162, 0, 148, 0, 0, 0, 0, 458, 231, 0, 0, 0, 0, 569, 0, 0, 0, 0, 0, 0, 0, 161, 0, 456, 231, 578, 0, 161, 0, 456, 0, 458, 0, 165, 0, 460, 579, 0, 0, 162, 0, 0, 161, 124, 0, 456, 231, 580, 0, 161, 0, 456, 231, 586, 0, 0, 0, 0, 0]
def az_q105 : List Nat := [0, 166, 0, 0, 441, 0, 167, 0, 0, 441, 0, 0, 0, 0, 456, 231, 0, 0, 0, 0, 0, 458, 234, 0, 0, 458, 0, 0, 0, 484, 0, 503, 0, 0, 0, 0, 0, 631, 0, 0, 166, 0, 0, 441, 0, 167, 0, 0, 441, 0, 0, 0, 0, 0, 0]
def az_q106 : List Nat := [0, 0, 0, 0, 456, 231, 0, 0, 0, 0, 0, 458, 234, 0, 0, 458, 0, 0, 0, 484, 0, 503, 0, 0, 0, 0, 0, 0, 634, 0, 0, 0, 0, 0, 0, 0, 0, 0, 0]
def az_q107 : List Nat := [0, 0, 0, 0, 0, 0, 456, 234, 0, 0, 456, 0, 0, 0, 503, 0, 0, 458, 0, 0, 484, 0, 361, 0, 0, 0, 0, 0, 0, 0]
def az_q108 : List Nat := [0, 458, 0, 295, 0, 0, 458, 0, 296, 0, 0, 458, 0, 167, 0, 322, 0, 361, 0, 0, 0, 0, 0, 456, 234, 0, 0, 456, 0, 0, 166, 0, 322, 0, 166, 0, 322, 503, 0, 0, 0, 0, 458, 0, 0, 484, 0, 167, 0, 322, 361, 0, 0, 0, 0, 0, 0, 0, 0]
def az_q109 : List Nat := [0, 237, 0, 0, 0, 0, 0, 652, 0, 0, 656, 0, 0, 0, 0, 0, 0, 0, 0, 0, 0, 0, 0, 0, 0, 0, 0, 0, 0, 0, 0, 662, 0, 0, 0, 0, 0, 0, 0, 0, 0, 0, 0, 0, 0, 0, 0, 0, 0, 0, 0, 0, 0, 0]
def az_q110 : List Nat := [0, 708, 0, 0, 0, 710, 0, 0, 0, 711, 0, 0, 0, 712, 0, 0, 0, 713, 0, 0, 0, 714, 0, 0, 0, 715, 0, 0, 0, 716, 0, 0, 0, 717, 0, 0, 0, 718, 0, 0, 0, 720, 0, 0, 0, 721, 0, 0, 0, 722, 0, 0, 0, 724, 0, 0, 0, 725, 0, 0, 0, 726, 0, 0, 0, 727, 0, 0, 0, 728, 0, 0, 0, 729, 0, 0, 0, 731, 0, 0, 0, 732, 0, 0, 0, 733, 0, 0, 0, 737, 0, 0, 0, 738, 0, 0, 0, 740, 0]
def az_q111 : List Nat := [0, 0, 0, 0, 0, 0, 0, 0, 0, 0]
def az_q112 : List Nat := [0, 0, 0, 709, 0, 0, 814, 0]
def az_q113 : List Nat := [0, 0, 829, 0, 0, 0, 0, 711, 0, 0, 0, 0, 814, 0, 0, 0, 0, 0]
def az_q114 : List Nat := [0, 709, 0, 0, 710, 0, 0, 0, 0, 711, 0, 0, 0, 0, 712, 0, 0, 0, 0, 0, 0, 0, 0, 0, 715, 0, 0, 0, 0, 0, 0, 0, 0, 0, 0, 0, 0, 0, 0, 0, 0, 0, 0, 821, 0, 0, 0, 0, 0, 709, 0, 0, 709, 0]
def az_q115 : List Nat := [0, 711, 0, 0, 0, 0, 713, 0, 0, 0, 0, 0, 0, 0, 0, 714, 0, 0, 0, 0, 0, 0, 0, 0, 711, 0, 0, 0, 0, 0, 0, 0, 0]
def az_q116 : List Nat := [0, 713, 0, 0, 0, 0, 0, 0, 0]
def az_q117 : List Nat := [0, 714, 0, 0, 0, 0, 0, 0, 0]
def az_q118 : List Nat := [0, 0, 0, 841, 0, 0, 0, 845, 0, 0, 0, 0, 0, 710, 0, 0, 0, 0, 0, 0, 0, 710, 0, 0, 0, 0, 0, 0, 715, 0, 0, 0, 0, 0, 0, 0, 0, 0, 0, 0]
def az_q119 : List Nat := [0, 0, 0, 814, 0, 0, 0, 0, 709, 0, 0, 0, 0, 0, 0, 817, 0, 709, 0, 0, 0]
def az_q120 : List Nat := [0, 0, 829, 0, 0, 0, 0, 710, 0, 0, 0, 0, 814, 0, 0, 0, 0, 710, 0, 0, 0, 0, 814, 0, 0, 0, 0, 712, 0, 0, 0, 0, 0, 0, 711, 0, 0, 0, 0, 0, 0, 0, 0, 0, 0, 821, 0]
def az_q121 : List Nat := [0, 0, 0, 837, 0, 0, 0, 0, 837, 0, 0, 0, 0, 837, 0, 0, 0, 0, 710, 0, 0, 0, 0, 712, 0, 0, 0, 0, 0, 0, 841, 0, 0, 0, 845, 0, 0, 0, 0, 0, 0, 0, 0, 0, 0, 845, 0, 0, 0, 845, 0, 0, 0, 0, 841, 0, 0, 0, 841, 0, 0, 0, 0, 715, 0, 0, 0, 0, 0, 0, 0, 0, 0, 0, 0, 0, 0]
def az_q122 : List Nat := [0, 716, 0, 0, 0, 0, 716, 0, 0, 0, 0, 716, 0, 0, 0, 0, 716, 0, 0, 0, 0]
def az_q123 : List Nat := [0, 0, 0, 0, 0, 857, 0, 0, 0, 0, 711, 0, 0, 0, 0, 0, 0, 0, 711, 0, 0, 0, 0, 0, 0, 841, 0, 0, 0, 845, 0, 0, 0, 0, 0, 861, 0, 0, 0, 0, 0, 0, 0, 857, 0, 0, 0, 0, 0, 0, 0, 0, 0, 711, 0, 0, 0, 0, 0, 0, 0, 711, 0, 0, 0, 0, 0, 0, 0, 711, 0, 0, 0, 0, 0, 0, 841, 0, 0, 0, 845, 0, 0, 0, 0, 841, 0, 0, 0, 845, 0, 0, 0, 0, 0, 0, 0, 861, 0, 861, 0, 0, 0, 0, 0, 0, 0, 861, 861, 0, 0, 0, 0, 0, 0, 857, 0, 0, 0, 0, 0, 0, 0, 0]
def az_q124 : List Nat := [0, 0, 829, 0, 0, 0, 0, 0, 853, 0, 712, 0, 0, 0, 0, 716, 0, 0, 0, 0, 0, 0, 712, 0, 0, 0, 0, 0]
def az_q125 : List Nat := [0, 0, 829, 0, 0, 0, 0, 814, 0, 0, 0, 0, 0, 853, 0, 716, 0, 0, 0]
def az_q126 : List Nat := [0, 0, 0, 0, 0, 0, 0, 0, 0, 0, 0, 0, 0, 0, 0, 0]
def az_q127 : List Nat := [0, 0, 0, 0, 0, 0, 0, 0, 873, 0, 0, 0, 0, 0, 0, 0, 0, 0, 0, 0, 0, 0, 0, 0, 0, 873, 0, 0, 0, 0, 873, 0, 0, 0, 0, 873, 0, 0, 0, 0, 0, 0, 0, 0, 0, 0, 0]
def az_q128 : List Nat := [0, 0, 0, 0, 0, 845, 0, 0, 0, 0, 0, 841, 0, 0, 0, 0, 0, 0]
def az_q129 : List Nat := [0, 0, 0, 814, 0, 0, 0, 0, 0, 0, 0, 0, 0, 0, 0, 0, 0, 0, 0, 0, 0, 0, 0, 873, 0, 0, 0, 0, 0, 0, 0, 0, 0, 0, 0, 0, 876, 0, 0, 0, 0, 0, 0, 0, 709, 0, 0, 0, 0, 0, 709, 0, 0, 0, 817, 0, 0, 0, 0, 0, 0, 0, 0, 0, 0, 0, 0, 0, 0, 0, 0, 873, 0, 0, 0, 0, 0, 821, 0, 0, 0, 0, 0, 0, 0, 0, 0, 711, 0, 0, 0, 0, 0, 0, 0, 711, 0, 0, 0, 0, 0, 0, 841, 0, 0, 0, 845, 0, 0, 715, 0, 0, 0, 0, 0, 0, 0, 0, 0, 0, 0, 0, 0, 0, 845, 0, 0, 0, 841, 879, 0, 0, 0, 0, 0, 0, 712, 0, 0, 0, 0, 0]
def az_q130 : List Nat := [0, 0, 829, 0, 0, 0, 0, 712, 0, 0, 0, 0, 0, 0, 709, 0, 0, 0, 0, 0, 709, 0, 0, 0, 710, 0, 0, 817, 0, 710, 0, 0, 0, 0, 0, 711, 0, 0, 0, 0, 0, 0, 0, 0, 841, 0, 0, 0, 845, 821, 0, 0, 0, 0, 0, 0, 0, 711, 0, 0, 0, 0, 0, 0, 0, 711, 0, 0, 0, 0, 715, 0, 0, 0, 0, 0, 0, 0, 0, 0, 0, 0, 0, 0, 861, 0, 0, 0, 0, 0, 0, 712, 0, 0, 0, 0, 0]
def az_q131 : List Nat := [0, 0, 829, 0, 0, 0, 829, 0, 0, 0, 0, 710, 0, 0, 0, 0, 710, 0, 0, 0, 0, 712, 0, 0, 0, 0, 712, 0, 0, 0, 0, 0, 0, 0, 0, 0, 711, 0, 0, 0, 711, 0, 0, 0, 0, 0, 0, 0, 0, 709, 0, 0, 0, 0, 0, 709, 0, 0, 0, 0, 0, 817, 0, 0, 0, 0, 0, 0, 0, 0, 717, 0, 0, 0, 0, 0, 0, 718, 0, 0, 0, 0, 0, 0, 0, 0, 0, 0, 0, 711, 0, 0, 0, 0, 0, 0, 0, 711, 0, 0, 0, 0, 0, 0, 0, 0, 0, 0, 0, 0, 0, 0, 0, 845, 0, 0, 0, 0, 845, 0, 0, 0, 0, 0, 841, 0, 0, 0, 0, 841, 0, 821, 0, 0, 717, 0, 0, 0, 0, 718, 0, 0, 0, 0, 0, 0, 0, 0, 0, 0, 0, 711, 0, 0, 0, 0, 0, 0, 0, 711, 0, 0, 0, 0, 0, 0, 841, 0, 0, 0, 845, 0, 0, 0, 0, 717, 0, 0, 0, 717, 0, 0, 861, 0, 0, 0, 0, 718, 0, 0, 0, 718, 0, 0, 861, 0, 0, 0, 0, 717, 0, 0, 0, 0, 0, 718, 0, 0, 0, 0, 0, 0, 0, 715, 0, 0, 0, 0, 0, 0, 0, 0, 0, 0, 0, 0, 0, 0, 0, 0, 712, 0, 0, 0, 0, 0]
def az_q132 : List Nat := [0, 0, 0, 0, 711, 0, 0, 0, 0, 0, 0, 845, 0, 0, 0, 841, 0, 0, 0, 0, 841, 0, 0, 0, 845, 0, 0, 0, 0, 0, 861, 0, 710, 0, 0, 0, 0, 0, 0, 0, 861, 0, 710, 0, 0, 0, 0, 0, 0, 0, 0, 0]
def az_q133 : List Nat := [0, 0, 829, 0, 0, 0, 0, 814, 0, 0, 0, 0, 0, 0, 0, 0, 710, 0, 0, 0, 0, 711, 0, 0, 0, 0, 712, 0, 0, 0, 0, 0, 0, 0, 0, 710, 0, 0, 0, 0, 0, 711, 0, 0, 0, 0, 710, 0, 0, 0, 0, 0, 711, 0, 0, 0, 0, 0, 0, 0, 841, 0, 0, 0, 845, 0, 0, 0, 0, 0, 0, 0, 0, 0, 0, 0, 0, 0, 0, 0, 0, 711, 0, 0, 0, 0, 712, 0, 0, 0, 0, 0, 0, 0, 895, 0, 0, 0, 0, 0, 0, 0, 0, 0, 712, 0, 0, 0, 0, 0, 0, 0]
def az_q134 : List Nat := [0, 0, 0, 837, 0, 0, 0, 0, 814, 0, 0, 0, 0, 0, 0, 0, 0, 845, 0, 0, 0, 0, 841, 0]
def az_q135 : List Nat := [0, 0, 0, 837, 0, 0, 0, 0, 837, 0, 0, 0, 0, 0, 861, 0, 0, 0]
def az_q136 : List Nat := [0, 0, 0, 719, 0, 0, 814, 0]
def az_q137 : List Nat := [0, 0, 0, 0, 0, 0, 0, 0, 0, 0, 0, 0, 0, 0]
def az_q138 : List Nat := [0, 0, 0, 0, 0, 0, 711, 0, 0, 0, 0, 726, 0, 0, 0, 0, 0, 0, 0, 711, 0, 0, 0, 0, 0, 0, 0, 711, 0, 0, 0, 0, 0, 0, 0, 861, 0, 0, 0, 0, 0, 0, 0, 919, 0, 0, 0, 0, 710, 0, 0, 0, 0, 0, 710, 0, 0, 0, 0, 724, 0, 0, 0, 0, 725, 0, 0, 0, 0, 0, 0, 0, 0, 0, 0, 0, 726, 0, 711, 0, 0, 0, 0, 0]
def az_q139 : List Nat := [0, 0, 0, 722, 0, 0, 0, 0, 0, 0, 0, 0, 845, 0, 722, 0, 0, 0, 0, 845, 0, 0, 0, 0, 0, 0, 841, 0, 722, 0, 0, 0, 0, 841, 0, 0, 0, 0, 0, 0, 726, 0, 0, 0, 0, 0, 726, 0, 0, 0, 0, 0, 0, 724, 0, 0, 0, 0, 725, 0, 0, 0, 0, 0, 0, 722, 0, 0, 0, 0, 0, 722, 0, 0, 0, 0, 861, 0, 722, 0, 0, 0, 0, 0, 861, 0, 0, 0, 0, 0, 0, 0, 0, 0]
def az_q140 : List Nat := [0, 0, 723, 0, 0, 0, 0, 0, 720, 0, 0, 0, 0, 721, 0, 0, 0, 0, 0, 915, 0, 0, 0, 722, 0, 0, 0, 0, 0, 0, 722, 0, 0, 0, 0, 0, 0, 0, 0, 0, 0, 710, 0, 0, 0, 0, 710, 0, 0, 0, 0, 711, 0, 0, 0, 0, 722, 0, 0, 0, 0, 0, 0, 0, 0, 0, 723, 922, 0, 0, 0, 0, 0, 723, 0, 0, 723, 0, 0, 710, 0, 0, 0, 0, 0, 0, 0, 923, 0, 0, 0, 711, 0, 0, 0, 0, 0, 0, 0, 722, 0, 0, 0, 0, 0, 0, 0, 0, 0, 0, 0, 0, 0, 0, 0, 0, 927, 0, 0, 0, 0, 0, 0, 0, 0, 0, 0]
def az_q141 : List Nat := [0, 0, 829, 0, 0, 0, 829, 0, 0, 0, 0, 712, 0, 0, 0, 0, 712, 0, 0, 0, 0, 0, 0, 0, 0, 911, 0, 0, 0]
def az_q142 : List Nat := [0, 720, 0, 719, 0, 720, 0, 0, 0, 0, 721, 0, 719, 0, 721, 0, 0, 0, 0, 0, 0, 0, 0, 0, 722, 0, 0, 719, 0, 0, 0, 0, 722, 0, 0, 0, 0, 0, 0, 0, 0, 0, 719, 0, 0, 719, 0, 719, 0, 0, 0]
def az_q143 : List Nat := [0, 0, 829, 0, 0, 0, 829, 0, 0, 0, 0, 0, 0, 712, 0, 0, 0, 0, 712, 0, 0, 0, 0, 0, 0, 0, 0, 0, 0, 911, 0, 0, 0, 0, 0, 0, 0, 0, 0, 0, 719, 0, 0, 0, 0, 0, 0, 0, 0, 0, 0, 959, 0]
def az_q144 : List Nat := [0, 0, 967, 0, 0, 0, 967, 0, 0, 0, 0, 721, 0, 0, 0, 720, 0, 0, 0, 0, 0, 0, 719, 0, 0, 0, 0, 0, 720, 0, 0, 720, 0, 0, 0, 0, 721, 0, 0, 721, 0, 0, 0, 0, 0, 0, 0, 711, 0, 720, 0, 0, 0, 0, 0, 722, 0, 0, 0, 0, 722, 0, 0, 0, 0, 722, 0, 0, 0, 0, 0, 0, 0, 0, 0, 0, 0, 0, 959, 0]
def az_q145 : List Nat := [0, 722, 0, 0, 0, 0, 0, 0, 0]
def az_q146 : List Nat := [0, 720, 0, 0, 0, 0, 0, 0, 0, 711, 0, 0, 0, 0, 0, 0, 0, 0, 0, 0, 0, 845, 0, 0, 0, 845, 0, 0, 0, 0, 841, 0, 0, 0, 841, 0, 0, 0, 0, 935, 0, 0, 0, 935, 0, 0, 0, 0, 0, 0, 0, 0, 0]
def az_q147 : List Nat := [0, 720, 0, 0, 0, 0, 0, 0, 0, 711, 0, 0, 0, 0, 0, 0, 845, 0, 0, 0, 0, 0, 841, 0, 0, 0, 0, 0, 935, 0, 0, 0, 0, 0, 0, 0, 0]
def az_q148 : List Nat := [0, 720, 0, 0, 0, 0, 721, 0, 0, 0, 0, 0, 0, 0, 710, 0, 0, 0, 0, 0, 0, 0, 710, 0, 0, 0, 0, 0, 0, 0, 711, 0, 0, 0, 0, 0, 0, 845, 0, 0, 0, 935, 0, 0, 0, 0, 841, 0, 0, 0, 935, 0, 0, 0, 0, 0, 0, 943, 0, 0, 0, 0, 0, 0, 0, 0, 0, 0, 0]
def az_q149 : List Nat := [0, 721, 0, 0, 0, 0, 0, 0, 0, 711, 0, 0, 0, 0, 0, 0, 0, 710, 0, 720, 0, 0, 0, 0, 0, 0, 0, 845, 0, 0, 0, 935, 0, 0, 0, 0, 841, 0, 0, 0, 0, 0, 895, 0, 0, 0, 0, 0, 0, 0, 0, 0]
def az_q150 : List Nat := [0, 0, 0, 0, 710, 0, 721, 0, 0, 0, 0, 0, 0, 0, 951, 0, 0, 0, 0, 0, 0, 0]
def az_q151 : List Nat := [0, 0, 931, 0, 0, 0, 939, 0, 0, 0, 947, 0, 0, 0, 0, 0]
def az_q152 : List Nat := [0, 0, 967, 0, 0, 0, 0, 814, 0, 0, 0, 0, 0, 0, 720, 0, 0, 0, 0, 721, 0, 0, 0, 0, 0, 931, 0, 0, 0, 0, 0, 0, 0, 939, 0, 0, 0, 0, 0, 0, 0, 947, 0, 0, 0, 0, 0]
def az_q153 : List Nat := [0, 0, 967, 0, 0, 0, 720, 0, 0, 0, 837, 0, 0, 0, 0, 935, 0, 0, 0]
def az_q154 : List Nat := [0, 0, 829, 0, 0, 0, 829, 0, 0, 0, 0, 712, 0, 0, 0, 0, 712, 0, 0, 0, 0, 0, 0, 0, 0, 0, 0, 911, 0, 0, 0, 0, 0, 0, 0, 0, 0, 0, 0, 0]
def az_q155 : List Nat := [0, 0, 0, 0, 0, 0, 711, 0, 0, 0, 0, 0, 0, 845, 0, 727, 0, 0, 0, 0, 0, 0, 841, 0, 728, 0, 0, 0, 0, 0, 0, 0, 711, 0, 0, 0, 0, 0, 0, 0]
def az_q156 : List Nat := [0, 0, 0, 0, 0, 0, 0, 0, 0, 0, 0, 0, 0, 999, 0, 0, 0, 0, 0, 0, 0, 0, 0, 0, 0, 0, 999, 0, 0, 0, 0, 0, 0, 0, 0, 0, 0]
def az_q157 : List Nat := [0, 0, 0, 0, 0, 0, 729, 0, 0, 0, 0, 0, 999, 0, 0, 729, 0, 0, 0, 0, 0, 0, 0, 0, 0, 0]
def az_q158 : List Nat := [0, 0, 0, 0, 0, 0, 0, 0, 0, 0, 729, 0, 0, 999, 0, 0, 0, 729, 0, 0, 0, 0, 0, 999, 0, 0, 0, 0, 0, 0, 0, 0, 729, 0, 0, 0, 0, 0, 729, 0, 0, 999, 0, 0, 0]
def az_q159 : List Nat := [0, 0, 0, 0, 710, 0, 720, 0, 0, 0, 0, 0, 727, 0, 0, 0, 0, 935, 0, 0, 728, 0, 0, 0, 0, 935, 0, 0, 0, 0]
def az_q160 : List Nat := [0, 720, 0, 0, 0, 0, 721, 0, 0, 0, 0, 0, 0, 0, 711, 0, 0, 0, 0, 0, 0, 0, 0, 935, 0, 729, 0, 0, 0, 841, 0, 861, 0, 0, 0, 729, 0, 0, 0, 845, 0, 0, 0, 0, 935, 861, 0, 0, 0, 0, 0, 0, 0]
def az_q161 : List Nat := [0, 721, 0, 0, 0, 0, 710, 0, 720, 0, 0, 0, 0, 0, 0, 0, 0, 0, 991, 0, 0, 0, 1008, 0, 0, 0, 0, 0, 0, 0, 1012, 0, 0, 0, 0, 0, 0, 0, 0, 0, 0, 0, 0, 0, 0, 0, 0, 1016, 0, 0, 0, 0]
def az_q162 : List Nat := [0, 720, 0, 0, 0, 720, 0, 0, 0, 0, 721, 0, 0, 0, 721, 0, 0, 0, 0, 0, 0, 0, 0, 991, 0, 0, 721, 0, 0, 0, 710, 0, 720, 0, 0, 0, 995, 1003, 0, 0, 0, 0, 0, 0]
def az_q163 : List Nat := [0, 0, 967, 0, 0, 0, 967, 0, 0, 0, 0, 0, 0, 987, 0, 0, 0, 0, 0, 0, 0, 0, 0, 1004, 0]
def az_q164 : List Nat := [0, 0, 967, 0, 0, 0, 967, 0, 0, 0, 0, 0, 0, 710, 0, 720, 0, 0, 0, 0, 0, 814, 0, 0, 0, 0, 0, 0, 987, 0, 0, 0, 0, 0, 0, 0, 0, 0, 1004, 0, 0, 0, 0, 0, 729, 0, 0, 0, 0, 0]
def az_q165 : List Nat := [0, 0, 0, 0, 710, 0, 720, 0, 0, 0, 0, 0, 727, 0, 0, 0, 0, 728, 0, 0, 0, 0, 935, 0, 0, 0, 0]
def az_q166 : List Nat := [0, 720, 0, 0, 0, 0, 0, 0, 0, 711, 0, 0, 0, 0, 0, 721, 0, 0, 0, 729, 0, 0, 0, 845, 0, 0, 0, 0, 935, 861, 0, 729, 0, 0, 0, 841, 0, 0, 0, 0, 0, 0, 0, 0]
def az_q167 : List Nat := [0, 0, 967, 0, 0, 0, 0, 710, 0, 721, 0, 0, 0, 0, 0, 814, 0, 0, 0, 0, 721, 0, 0, 0, 0, 710, 0, 720, 0, 0, 0, 0, 0, 0, 0, 1028, 0, 0, 0, 995, 1003, 0, 0, 0, 0, 0, 0, 0, 0, 0, 1008, 0, 0, 0, 0, 0, 0, 1032, 0, 0, 0, 0, 0, 0, 0, 0, 0, 1016, 0, 0, 0, 0]
def az_q168 : List Nat := [0, 721, 0, 0, 0, 0, 710, 0, 720, 0, 0, 0, 0, 0, 0, 730, 0, 0, 0, 0, 710, 0, 0, 0, 0, 0, 0, 1028, 0, 0, 0, 995, 1044, 0, 0, 0, 0, 0, 0, 0, 0, 0, 0, 710, 0, 0, 0, 0, 0, 0, 1028, 0, 0, 0, 1008, 0, 0, 0, 0, 0, 1032, 0, 0, 731, 0, 730, 0, 0, 0, 0, 0, 0, 0, 0, 732, 0, 0, 730, 0, 0, 0, 0, 729, 0, 0, 0, 0, 0, 0, 0, 730, 0, 0, 730, 0, 0, 0, 1016, 0, 0, 0, 0, 0, 0]
def az_q169 : List Nat := [0, 0, 0, 0, 0, 0, 711, 0, 0, 0, 0, 0, 0, 845, 0, 731, 0, 0, 0, 0, 0, 0, 841, 0, 731, 0, 0, 0, 0, 0, 0, 0, 0, 0, 0, 0, 0, 0, 0, 0, 0, 0, 0, 732, 0, 0, 0, 0, 0, 0, 861, 0, 732, 0, 0, 0, 0, 0, 0, 0, 0, 0, 0, 0, 0, 0, 0, 0, 0, 0, 0, 0, 0, 0, 0, 0, 0, 0]
def az_q170 : List Nat := [0, 0, 967, 0, 0, 0, 0, 0, 1040, 0, 0, 0, 0, 721, 0, 0, 0, 0, 710, 0, 720, 0, 0, 0, 0, 0, 0, 0, 0, 730, 0, 0, 0, 0, 0, 0, 0, 730, 0, 0, 0, 0, 0, 0, 0, 0, 1045, 0, 0, 0, 0, 0, 0, 0, 0, 0, 0, 0, 0, 734, 0, 0, 0, 0, 0, 0, 733, 0, 0, 732, 0, 0, 0, 0, 0, 0, 0, 0, 0, 0, 731, 0, 0, 0, 0, 0, 0, 0]
def az_q171 : List Nat := [0, 0, 0, 734, 0, 0, 814, 0, 0, 733, 0, 0, 0, 0, 0]
def az_q172 : List Nat := [0, 720, 0, 0, 0, 0, 721, 0, 0, 0, 0, 0, 0, 0, 710, 0, 0, 0, 0, 0, 0, 0, 711, 0, 0, 0, 0, 0, 0, 845, 0, 0, 0, 935, 0, 0, 0, 0, 841, 0, 0, 0, 0, 0, 0, 0, 0, 711, 0, 0, 0, 0, 0, 0, 0, 845, 0, 0, 0, 0, 0, 841, 0, 0, 0, 0, 0, 0, 0, 935, 0, 861, 0, 0, 0, 0, 0, 0, 0, 0, 0, 0, 0, 0, 0, 0, 0, 0, 0, 0, 0, 0]
def az_q173 : List Nat := [0, 721, 0, 0, 0, 0, 0, 0, 0, 710, 0, 720, 0, 0, 0, 0, 0, 0, 0, 0, 711, 0, 0, 0, 0, 0, 0, 845, 0, 0, 0, 935, 0, 0, 0, 0, 841, 0, 0, 0, 0, 0, 0, 0, 1061, 0, 0, 0, 735, 0, 0, 736, 0, 0, 0, 0, 0, 0, 0, 0]
def az_q174 : List Nat := [0, 0, 967, 0, 0, 0, 0, 710, 0, 721, 0, 0, 0, 0, 0, 814, 0, 0, 0, 0, 814, 0, 0, 0, 0, 0, 0, 1057, 0, 0, 0, 0, 0, 0, 735, 0, 0, 736, 0]
def az_q175 : List Nat := [0, 0, 967, 0, 0, 0, 0, 720, 0, 0, 0, 0, 721, 0, 0, 0, 0, 0, 0, 0, 710, 0, 0, 0, 0, 0, 0, 1057, 0, 0, 0, 0, 737, 0, 0, 735, 0, 0, 738, 0, 0, 736, 0, 0, 0, 0, 719, 0, 0, 0, 0, 0, 720, 0, 0, 0, 0, 721, 0, 0, 0, 0, 0, 0, 0, 711, 0, 0, 0, 0, 0, 0, 845, 0, 0, 0, 0, 841, 0, 0, 0, 0, 0, 0, 845, 0, 737, 0, 0, 0, 0, 0, 0, 841, 0, 737, 0, 0, 0, 0, 0, 0, 0, 0, 935, 0, 738, 0, 0, 861, 0, 0, 0, 738, 0, 0, 0, 861, 0, 0, 0, 0, 722, 0, 0, 0, 0, 0, 0, 0, 0, 959, 0]
def az_q176 : List Nat := [0, 0, 739, 0, 0, 0, 0, 711, 0, 0, 0, 0, 0, 0, 841, 0, 0, 0, 740, 0, 739, 0, 0, 0, 0, 739, 0, 0, 739, 0, 0, 0]
def az_q177 : List Nat := [0, 0, 0, 0, 711, 0, 0, 0, 0, 0, 0, 0, 0, 0, 0, 711, 0, 0, 0, 0, 0, 0, 0, 0, 0, 0, 0, 0, 0, 841, 0, 0, 0, 0, 0, 0, 0, 0, 711, 0, 0, 0, 0, 0, 0, 841, 0, 0, 0, 845, 0, 0, 0, 0, 0, 0, 861, 0, 0, 0, 0, 0, 0, 0, 0, 0, 0, 0, 0]
def az_q178 : List Nat := [0, 0, 0, 1081, 0, 0, 0, 0, 0, 0, 0, 739, 0, 0, 0, 0, 0, 0, 0, 0, 739, 0, 0, 0, 0, 0, 0, 0, 0, 740, 0, 0, 0, 0, 0, 0, 0, 0, 0, 0, 0, 1089, 0, 0, 0, 0, 0, 0, 0, 0, 0, 741, 0, 0, 0, 0, 0, 0]
def az_q179 : List Nat := [0, 712, 0, 0, 0, 0, 0, 0, 0, 0, 1081, 0, 739, 0, 0, 0, 0, 0, 0]
def az_q180 : List Nat := [0, 0, 829, 0, 0, 0, 0, 710, 0, 0, 0, 0, 814, 0, 0, 0, 0, 0]
def az_q181 : List Nat := [0, 0, 0, 1073, 0, 0, 0, 0, 0, 0, 1077, 0, 0, 0, 0, 0, 0, 0, 0, 0, 1085, 0]
def az_q182 : List Nat := [0, 0, 0, 1073, 0, 0, 0, 0, 0, 0, 0, 0, 1077, 0, 0, 0, 0, 0, 0, 0, 0, 0, 1085, 0, 0, 0, 0, 0, 741, 0, 0, 0]
def az_q183 : List Nat := [0, 0, 0, 0, 0, 0, 711, 0, 0, 0, 0, 0, 0, 841, 0, 0, 0, 845, 0, 0, 0, 0, 0, 0, 861, 0, 0, 0, 0, 0, 0, 0, 0, 0, 0, 0, 0, 0, 0, 0]
def az_q184 : List Nat := [0, 0, 0, 1073, 0, 0, 0, 0, 837, 0, 0, 0, 0, 712, 0, 0, 0, 0, 0, 0, 0, 1089, 0, 0, 0, 0, 841, 0, 0, 0, 0, 0, 0, 0, 0, 1101, 0]
def az_q185 : List Nat := [0, 0, 0, 1073, 0, 0, 0, 0, 712, 0, 0, 0, 0, 0, 0, 0, 1089, 0, 0, 0, 0, 0, 1089, 0, 0, 0, 0, 0, 0, 0, 0, 0, 711, 0, 0, 0, 0, 0, 0, 841, 0, 0, 0, 0, 0, 0, 1101, 0, 0, 0, 0, 1101, 0, 0, 0, 0, 0, 0, 0, 0, 0, 0, 0, 0, 0, 0]
def az_q186 : List Nat := [0, 0, 0, 709, 0, 0, 0, 0, 0, 719, 0, 0, 0, 0, 0, 723, 0, 0, 0]
def az_q187 : List Nat := [1117, 0, 0, 0, 0, 0, 709, 0, 1118, 1118, 1118, 0, 0, 0, 710, 0, 0, 0, 0, 0, 0, 711, 0, 0, 0, 0, 0, 0, 712, 0, 0, 0, 0, 0, 0, 0, 0, 0, 0, 0, 0, 0, 711, 0, 0, 0, 1118, 1118, 0, 0, 0, 0, 0, 845, 0, 0, 0, 0, 0, 0, 841, 0, 0, 0, 0, 0, 0, 0, 0, 0, 711, 0, 0, 0, 0, 0, 0, 0, 711, 0, 0, 0, 1118, 0, 0, 0, 0, 0, 0, 861, 0, 0, 0, 0, 0, 0, 0, 0, 0, 0, 0, 0, 0, 719, 0, 1118, 1118, 0, 0, 0, 720, 0, 0, 0, 0, 0, 0, 721, 0, 0, 0, 0, 0, 0, 0, 0, 0, 711, 0, 720, 0, 0, 0, 0, 1118, 0, 0, 0, 0, 0, 935, 0, 0, 0, 0, 0, 0, 0, 0, 0]
def az_q188 : List Nat := [0, 0, 0, 0, 659, 0, 0, 0, 0, 660, 0, 0, 0, 0, 660, 0, 0, 0, 0, 0, 0, 0, 0, 661, 0, 0, 0, 0, 0, 0, 0, 0, 0, 0, 0, 0, 0, 0, 0, 0, 0, 0]
def az_q189 : List Nat := [0, 0, 0, 0, 0, 0, 0, 0, 0, 0, 0, 0, 0, 0, 0]
def az_ps (y : Nat) : List Nat := match y with
  | 0 => az_q0
  | 1 => az_q1
  | 2 => az_q2
  | 3 => az_q3
  | 4 => az_q4
  | 5 => az_q5
  | 6 => az_q6
  | 7 => az_q7
  | 8 => az_q8
  | 9 => az_q9
  | 10 => az_q10
  | 11 => az_q11
  | 12 => az_q12
  | 13 => az_q13
  | 14 => az_q14
  | 15 => az_q15
  | 16 => az_q16
  | 17 => az_q17
  | 18 => az_q18
  | 19 => az_q19
  | 20 => az_q20
  | 21 => az_q21
  | 22 => az_q22
  | 23 => az_q23
  | 24 => az_q24
  | 25 => az_q25
  | 26 => az_q26
  | 27 => az_q27
  | 28 => az_q28
  | 29 => az_q29
  | 30 => az_q30
  | 31 => az_q31
  | 32 => az_q32
  | 33 => az_q33
  | 34 => az_q34
  | 35 => az_q35
  | 36 => az_q36
  | 37 => az_q37
  | 38 => az_q38
  | 39 => az_q39
  | 40 => az_q40
  | 41 => az_q41
  | 42 => az_q42
  | 43 => az_q43
  | 44 => az_q44
  | 45 => az_q45
  | 46 => az_q46
  | 47 => az_q47
  | 48 => az_q48
  | 49 => az_q49
  | 50 => az_q50
  | 51 => az_q51
  | 52 => az_q52
  | 53 => az_q53
  | 54 => az_q54
  | 55 => az_q55
  | 56 => az_q56
  | 57 => az_q57
  | 58 => az_q58
  | 59 => az_q59
  | 60 => az_q60
  | 61 => az_q61
  | 62 => az_q62
  | 63 => az_q63
  | 64 => az_q64
  | 65 => az_q65
  | 66 => az_q66
  | 67 => az_q67
  | 68 => az_q68
  | 69 => az_q69
  | 70 => az_q70
  | 71 => az_q71
  | 72 => az_q72
  | 73 => az_q73
  | 74 => az_q74
  | 75 => az_q75
  | 76 => az_q76
  | 77 => az_q77
  | 78 => az_q78
  | 79 => az_q79
  | 80 => az_q80
  | 81 => az_q81
  | 82 => az_q82
  | 83 => az_q83
  | 84 => az_q84
  | 85 => az_q85
  | 86 => az_q86
  | 87 => az_q87
  | 88 => az_q88
  | 89 => az_q89
  | 90 => az_q90
  | 91 => az_q91
  | 92 => az_q92
  | 93 => az_q93
  | 94 => az_q94
  | 95 => az_q95
  | 96 => az_q96
  | 97 => az_q97
  | 98 => az_q98
  | 99 => az_q99
  | 100 => az_q100
  | 101 => az_q101
  | 102 => az_q102
  | 103 => az_q103
  | 104 => az_q104
  | 105 => az_q105
  | 106 => az_q106
  | 107 => az_q107
  | 108 => az_q108
  | 109 => az_q109
  | 110 => az_q110
  | 111 => az_q111
  | 112 => az_q112
  | 113 => az_q113
  | 114 => az_q114
  | 115 => az_q115
  | 116 => az_q116
  | 117 => az_q117
  | 118 => az_q118
  | 119 => az_q119
  | 120 => az_q120
  | 121 => az_q121
  | 122 => az_q122
  | 123 => az_q123
  | 124 => az_q124
  | 125 => az_q125
  | 126 => az_q126
  | 127 => az_q127
  | 128 => az_q128
  | 129 => az_q129
  | 130 => az_q130
  | 131 => az_q131
  | 132 => az_q132
  | 133 => az_q133
  | 134 => az_q134
  | 135 => az_q135
  | 136 => az_q136
  | 137 => az_q137
  | 138 => az_q138
  | 139 => az_q139
  | 140 => az_q140
  | 141 => az_q141
  | 142 => az_q142
  | 143 => az_q143
  | 144 => az_q144
  | 145 => az_q145
  | 146 => az_q146
  | 147 => az_q147
  | 148 => az_q148
  | 149 => az_q149
  | 150 => az_q150
  | 151 => az_q151
  | 152 => az_q152
  | 153 => az_q153
  | 154 => az_q154
  | 155 => az_q155
  | 156 => az_q156
  | 157 => az_q157
  | 158 => az_q158
  | 159 => az_q159
  | 160 => az_q160
  | 161 => az_q161
  | 162 => az_q162
  | 163 => az_q163
  | 164 => az_q164
  | 165 => az_q165
  | 166 => az_q166
  | 167 => az_q167
  | 168 => az_q168
  | 169 => az_q169
  | 170 => az_q170
  | 171 => az_q171
  | 172 => az_q172
  | 173 => az_q173
  | 174 => az_q174
  | 175 => az_q175
  | 176 => az_q176
  | 177 => az_q177
  | 178 => az_q178
  | 179 => az_q179
  | 180 => az_q180
  | 181 => az_q181
  | 182 => az_q182
  | 183 => az_q183
  | 184 => az_q184
  | 185 => az_q185
  | 186 => az_q186
  | 187 => az_q187
  | 188 => az_q188
  | 189 => az_q189
  | _ => []
def az_ws : List Cond := lw_tbl.filter goodWord
def az_has (p : Nat) (w : Cond) : Bool := decide (lw_tbl[p]? = some w) && goodWord w
def az_C (ci : Nat) : vw_C := match ci with
  | 0 => (RX0, TX0, 5)
  | 1 => (RX1, TX1, 3)
  | 2 => (RX2, TX2, 5)
  | 3 => (RX3, TX3, 7)
  | 4 => (RX4, TX4, 6)
  | 5 => (RX5, TX5, 14)
  | _ => (RX6, TX6, 33)
def az_tf (ci k : Nat) : FieldType := match ci with
  | 0 => tyX0 k
  | 1 => tyX1 k
  | 2 => tyX2 k
  | 3 => tyX3 k
  | 4 => tyX4 k
  | 5 => tyX5 k
  | _ => tyX6 k
def az_pi (ci : Nat) : Nat := match ci with
  | 0 => 446
  | 1 => 142
  | 2 => 118
  | 3 => 86
  | 4 => 205
  | 5 => 74
  | _ => 704
def az_pin (ci : Nat) : Nat := match ci with
  | 0 => 71
  | 1 => 66
  | 2 => 65
  | 3 => 64
  | 4 => 68
  | 5 => 63
  | _ => 67
def az_bp (y k : Nat) : Nat := match (az_pg y)[k]? with
  | some i => i.1
  | none => az_ez y
def az_rk (t : Option FieldType) : Nat := match t with
  | none => 0
  | some .int => 1
  | some .boolean => 1
  | some .long => 2
  | _ => 3
def az_isr (t : FieldType) : Bool := match t with
  | .object _ => true
  | .array _ => true
  | _ => false
def az_own (y : Nat) : String := (az_nm y).cls
/-- a callee: its room, its answer's kind, the number of its parameters -/
def az_cal (y a n c : Nat) : Bool := decide (0 < a) && decide (a < 190) && decide (az_fr a + 1 ≤ az_fr y) && decide (8 + (az_nL a + 11) + az_lo a ≤ az_lo y) && decide (n = az_np a) && decide (c = az_rk (az_rt a))
def az_lnk (y p idx a : Nat) : Bool := if p < 10000 then az_has p (.methodLink (az_own y) idx (az_nm a)) else (match az_nest[p - 10000]? with
  | some e => decide (e.1 = az_own y) && decide (e.2.1 = idx) && decide (e.2.2.1 = az_nm a)
  | none => false)
/-- what the tables say of an instruction's numbers -/
def az_tr (y k : Nat) (i : az_I) (p : Nat) : Bool := match i with
  | (pc, ins, a, b, c, d, x, z) => match ins with
    | .iconst n => decide (Int32.ofInt n = x)
    | .bipush n => decide ((Int8.ofInt n).toInt32 = x)
    | .sipush n => decide ((Int16.ofInt n).toInt32 = x)
    | .ldc j => az_has p (.constant (az_own y) j x)
    | .ldc_w j => az_has p (.constant (az_own y) j x)
    | .lconst n => decide (Int64.ofNat (n : Nat) = z)
    | .ldc2_w j => az_has p (.constantLong (az_own y) j z)
    | .iload_n q => decide ((q : Nat) = a)
    | .iload q => decide (q = a)
    | .lload_n q => decide ((q : Nat) = a)
    | .lload q => decide (q = a)
    | .aload_n q => decide ((q : Nat) = a)
    | .aload q => decide (q = a)
    | .istore_n q => decide ((q : Nat) = a) && decide (a < az_nL y)
    | .istore q => decide (q = a) && decide (a < az_nL y)
    | .lstore_n q => decide ((q : Nat) = a) && decide (a + 1 < az_nL y)
    | .lstore q => decide (q = a) && decide (a + 1 < az_nL y)
    | .astore_n q => decide ((q : Nat) = a) && decide (a < az_nL y)
    | .astore q => decide (q = a) && decide (a < az_nL y)
    | .iinc q n => decide (q = a) && decide (a < az_nL y) && decide (Int32.ofInt n = x)
    | .ifCond _ off => decide ((pc : Int) + off = (az_bp y a : Int))
    | .if_icmp _ off => decide ((pc : Int) + off = (az_bp y a : Int))
    | .goto off => decide ((pc : Int) + off = (az_bp y a : Int))
    | .ifnull off => decide ((pc : Int) + off = (az_bp y a : Int))
    | .ifnonnull off => decide ((pc : Int) + off = (az_bp y a : Int))
    | .tableswitch df lo hi offs => decide (hi = lo + ((az_tw y a).length : Int) - 2) && decide (2 ≤ (az_tw y a).length) && decide ((pc : Int) + df = (az_bp y ((az_tw y a).getLastD 0) : Int)) && (List.range ((az_tw y a).length - 1)).all (fun j => match offs[j]? with
      | some off => decide ((pc : Int) + off = (az_bp y ((az_tw y a).getD j 0) : Int))
      | none => false)
    | .getfield j => decide (a < 7) && decide (b < (az_C a).2.2) && az_has p (.fieldLink (az_own y) j ((az_C a).2.1 b).1 ((az_C a).2.1 b).2.1 ((az_C a).2.1 b).2.2.1)
    | .putfield j => decide (a < 7) && decide (b < (az_C a).2.2) && az_has p (.fieldLink (az_own y) j ((az_C a).2.1 b).1 ((az_C a).2.1 b).2.1 ((az_C a).2.1 b).2.2.1) && (if ((az_C a).2.1 b).2.2.2 = true then decide ((az_nm y).name = "<init>") && decide (((az_C a).2.1 b).1 = az_own y) else true) && (match c with
      | 0 => decide (az_tf a b = .int)
      | 1 => az_isr (az_tf a b)
      | _ => decide (az_tf a b = .boolean))
    | .arraylength => if b = 9 then decide (y = 0) else decide (b < 4)
    | .iaload => if b = 9 then decide (y = 0) else true
    | .aaload => decide (b = 2) || decide (b = 3)
    | .aastore => decide (b = 2) || decide (b = 3)
    | .new j => decide (a < 7) && az_has p (.classLink (az_own y) j (az_C a).1)
    | .newarray t => (decide (t = .int) && decide (b = 0)) || (decide (t = .boolean) && decide (b = 1))
    | .anewarray j => (decide (b = 2) || decide (b = 3)) && az_has p (.classLink (az_own y) j (az_C (az_el b)).1)
    | .invokestatic j => if c = 8 then az_has p (.methodLink (az_own y) j Lib.Math.max.name) && decide (1 ≤ az_fr y) && decide (21 ≤ az_lo y) else az_cal y a b c && az_lnk y p j a && az_is a
    | .invokevirtual j => az_cal y a (b - 1) c && az_lnk y p j a && !(az_is a) && decide (d < 7) && decide ((az_C d).1 = az_own a) && decide (az_qs a < 9999)
    | .invokespecial j => if c = 9 then az_has p (.methodLink (az_own y) j objectInit) && decide (b = 1) && decide (1 ≤ az_fr y) && decide (20 ≤ az_lo y) else az_cal y a (b - 1) c && decide (p < 10000) && az_lnk y p j a && !(az_is a) && decide ((az_nm a).name = "<init>") && decide (c = 0)
    | .ireturn => (match c with
      | 0 => decide (az_rt y = some .int)
      | _ => decide (az_rt y = some .boolean))
    | .lreturn => decide (az_rt y = some .long)
    | .areturn => (match az_rt y with
      | some t => az_isr t
      | none => false)
    | .return_ => decide (az_rt y = none)
    | _ => true
def az_sw1 (i : Instr) : Bool := match i with
  | .tableswitch _ _ _ _ => true
  | _ => false
def az_il (i : Instr) : Nat := match i with
  | .bipush _ => 2
  | .sipush _ => 3
  | .ldc _ => 2
  | .ldc_w _ => 3
  | .ldc2_w _ => 3
  | .iload _ => 2
  | .lload _ => 2
  | .aload _ => 2
  | .istore _ => 2
  | .lstore _ => 2
  | .astore _ => 2
  | .iinc _ _ => 3
  | .ifCond _ _ => 3
  | .if_icmp _ _ => 3
  | .goto _ => 3
  | .ifnull _ => 3
  | .ifnonnull _ => 3
  | .getfield _ => 3
  | .putfield _ => 3
  | .new _ => 3
  | .newarray _ => 2
  | .anewarray _ => 3
  | .invokestatic _ => 3
  | .invokevirtual _ => 3
  | .invokespecial _ => 3
  | _ => 1
def az_ck1 (y k : Nat) : Bool := match (az_pg y)[k]?, (az_ps y)[k]? with
  | some i, some p => decide (decode (az_mc y) i.1 = .ok (i.2.1, az_bp y (k + 1) - i.1)) && (az_sw1 i.2.1 || decide (az_bp y (k + 1) = i.1 + az_il i.2.1)) && az_tr y k i p
  | _, _ => false
def az_chk (y : Nat) : Bool := (List.range (az_pg y).length).all (az_ck1 y)
def az_mok (y : Nat) : Bool := az_has (az_qc y) (.code (az_nm y) (az_mc y) (az_nL y) (az_rt y)) && az_has (az_qi y) (.initialized (az_own y)) && (if az_is y then az_has (az_qm y) (.static (az_nm y)) else az_has (az_qm y) (.instanceMethod (az_nm y))) && plainName (az_own y) && decide (az_own y ≠ "java/lang/invoke/MethodHandle") && decide (az_own y ≠ "java/lang/invoke/VarHandle") && decide ((parseMethodDescriptor (az_nm y).desc).map (fun d => d.parameters.length) = some (az_np y)) && (if az_qs y < 9999 then az_has (az_qs y) (.selects (az_own y) (az_nm y) (az_nm y)) else true) && decide (0 < (az_pg y).length) && decide (az_bp y 0 = 0)
def az_lp (ci : Nat) : List Nat := match ci with
  | 0 => [461, 463, 465, 467, 469]
  | 1 => [151, 153, 155]
  | 2 => [130, 132, 134, 136, 138]
  | 3 => [101, 103, 105, 107, 109, 111, 113]
  | 4 => [241, 243, 245, 247, 249, 251]
  | 5 => [172, 174, 176, 178, 180, 182, 184, 186, 188, 190, 192, 194, 196, 198]
  | _ => [742, 744, 746, 748, 750, 752, 754, 756, 758, 760, 762, 764, 766, 768, 770, 772, 774, 776, 778, 780, 782, 784, 786, 788, 790, 792, 794, 796, 798, 800, 802, 804, 806]
def az_cok (ci : Nat) : Bool := (List.range (az_C ci).2.2).all (fun k => match (az_lp ci)[k]? with
  | some p => az_has p (u_lay (az_C ci).1 (az_C ci).2.1 k)
  | none => false) && az_has (az_pi ci) (.instantiable (az_C ci).1 (az_C ci).2.2) && az_has (az_pin ci) (.initialized (az_C ci).1)
end
section
theorem az_e0 : az_cok 0 = true := by decide +kernel
theorem az_e1 : az_cok 1 = true := by decide +kernel
theorem az_e2 : az_cok 2 = true := by decide +kernel
theorem az_e3 : az_cok 3 = true := by decide +kernel
theorem az_e4 : az_cok 4 = true := by decide +kernel
theorem az_e5 : az_cok 5 = true := by decide +kernel
theorem az_e6 : az_cok 6 = true := by decide +kernel
theorem az_aci : Cond.arrayClass .int ∈ az_ws := List.mem_filter.mpr ⟨List.mem_of_getElem? (i := 116) (by decide +kernel), rfl⟩
theorem az_acz : Cond.arrayClass .boolean ∈ az_ws := List.mem_filter.mpr ⟨List.mem_of_getElem? (i := 809) (by decide +kernel), rfl⟩
theorem az_oii : Cond.instanceMethod objectInit ∈ az_ws := List.mem_filter.mpr ⟨List.mem_of_getElem? (i := 79) (by decide +kernel), by decide +kernel⟩
theorem az_oic : Cond.code objectInit ⟨#[0xb1]⟩ 1 none ∈ az_ws := List.mem_filter.mpr ⟨List.mem_of_getElem? (i := 80) (by decide +kernel), by decide +kernel⟩
theorem az_mx1 : Cond.static Lib.Math.max.name ∈ az_ws := List.mem_filter.mpr ⟨List.mem_of_getElem? (i := 419) (by decide +kernel), by decide +kernel⟩
theorem az_mx2 : Cond.initialized "java/lang/Math" ∈ az_ws := List.mem_filter.mpr ⟨List.mem_of_getElem? (i := 70) (by decide +kernel), by decide +kernel⟩
theorem az_mx3 : Cond.code Lib.Math.max.name Lib.Math.max.code 2 (some .int) ∈ az_ws := List.mem_filter.mpr ⟨List.mem_of_getElem? (i := 420) (by decide +kernel), by decide +kernel⟩
end
section
/-! THE TIE, first part: the relation of heaps, the locals, reading and writing, new cells, calls -/
def az_re (cy : Nat → ClassId) (e : va_E) : va_E := match e with
  | .inl (k, x) => .inl (cy k, x)
  | .inr o => .inr o
def az_tys (cy : Nat → ClassId) : List (ClassId × FieldType) := [(cy 0, .int), (cy 1, .boolean), (cy 2, .object RX4), (cy 3, .object RX0)]
def az_rel (Z : Nat) (D : va_G) (cy : Nat → ClassId) (G : az_H) (H : Heap) : Prop := H.size = G.2.1 ∧ Z ≤ G.2.1 ∧ ∀ a e, G.1 a = some e → Z ≤ a ∧ va_at D vwCl (a, az_re cy e) H
def az_kk (D : va_G) (cy : Nat → ClassId) (U : State) : Prop := va_K D vwCl (az_tys cy) U ∧ (∀ q ∈ az_nest, va_Nw (.methodLinkNest q.1 q.2.1 q.2.2.1 q.2.2.2) U) ∧ va_AO RX4 U ∧ va_AO RX0 U
theorem az_kk.warm {D : va_G} {cy : Nat → ClassId} {s U : State} (hW : s.WarmedH U.vm) (h : az_kk D cy s) : az_kk D cy U :=
  ⟨va_K.moved hW.alike h.1, fun q hq => va_Nw.warmM hW (h.2.1 q hq), va_AO.moved hW.alike h.2.2.1, va_AO.moved hW.alike h.2.2.2⟩
theorem az_kk.same {D : va_G} {cy : Nat → ClassId} {u U : State} (e : u.vm = U.vm) (h : az_kk D cy u) : az_kk D cy U :=
  ⟨va_K.moved (by rw [e]; exact Vm.Alike.refl _) h.1, fun q hq => va_Nw.same rfl e (h.2.1 q hq), va_AO.moved (by rw [e]; exact Vm.Alike.refl _) h.2.2.1, va_AO.moved (by rw [e]; exact Vm.Alike.refl _) h.2.2.2⟩
theorem az_rel.put {Z : Nat} {D : va_G} {cy : Nat → ClassId} {G : az_H} {H H1 : Heap} {r : Nat} {e0 e : va_E} (h : az_rel Z D cy G H) (hr : G.1 r = some e0) (he : va_at D vwCl (r, az_re cy e) H1) (hz : H1.size = H.size) (ho : ∀ q : Nat, q ≠ r → H1[q]? = H[q]?) : az_rel Z D cy (az_set G r e) H1 := by
  refine ⟨hz.trans h.1, h.2.1, fun a x hx => ?_⟩
  by_cases ha : a = r
  · subst ha
    simp [az_set] at hx
    subst hx
    exact ⟨(h.2.2 _ _ hr).1, he⟩
  · simp [az_set, ha] at hx
    exact ⟨(h.2.2 a x hx).1, (h.2.2 a x hx).2.kept (ho a ha)⟩
theorem az_rel.push {Z : Nat} {D : va_G} {cy : Nat → ClassId} {G : az_H} {H H1 : Heap} {e : va_E} {n : Nat} (h : az_rel Z D cy G H) (he : va_at D vwCl (H.size, az_re cy e) H1) (hz : H1.size = H.size + 1) (ho : ∀ q : Nat, q < H.size → H1[q]? = H[q]?) : az_rel Z D cy (az_psh G e n) H1 := by
  refine ⟨by rw [hz, h.1]; rfl, Nat.le_succ_of_le h.2.1, fun a x hx => ?_⟩
  by_cases ha : a = G.2.1
  · subst ha
    simp [az_psh] at hx
    subst hx
    rw [← h.1]
    exact ⟨by rw [h.1]; exact h.2.1, he⟩
  · simp [az_psh, ha] at hx
    have h2 := h.2.2 a x hx
    exact ⟨h2.1, h2.2.kept (ho a h2.2.lt)⟩
theorem az_S.push {Z : Nat} {Hs H H1 : Heap} {locs : List Loc} (h : va_S (fun q => Z ≤ q) Hs H locs) (hz : H1.size = H.size + 1) (ho : ∀ q : Nat, q < H.size → H1[q]? = H[q]?) : va_S (fun q => Z ≤ q) Hs H1 locs :=
  ⟨Nat.le_trans h.1 (by omega), fun q h1 h2 => (ho q (Nat.lt_of_lt_of_le h1 h.1)).trans (h.2.1 q h1 h2), h.2.2⟩
/-- a world of one cell -/
theorem az_P1 {D : va_G} {q : Nat × va_E} {H : Heap} (h : va_at D vwCl q H) : va_P D vwCl [q] H := by
  intro k x hk
  cases k with
  | zero => cases hk; exact h
  | succ k => simp at hk
theorem az_in_ws {p : Nat} {w : Cond} (h : az_has p w = true) : w ∈ az_ws := by
  simp only [az_has, Bool.and_eq_true, decide_eq_true_eq] at h
  exact List.mem_filter.mpr ⟨List.mem_of_getElem? h.1, h.2⟩
theorem az_lays (ci : Nat) (h : ci < 7) : ∀ w ∈ u_ws (az_C ci).1 (az_C ci).2.1 (az_C ci).2.2, w ∈ az_ws := by
  have hc : az_cok ci = true := by
    match ci, h with
    | 0, _ => exact az_e0
    | 1, _ => exact az_e1
    | 2, _ => exact az_e2
    | 3, _ => exact az_e3
    | 4, _ => exact az_e4
    | 5, _ => exact az_e5
    | 6, _ => exact az_e6
  intro w hw
  simp only [az_cok, Bool.and_eq_true, List.all_eq_true] at hc
  obtain ⟨k, hk, rfl⟩ := List.mem_map.mp hw
  have h1 := hc.1.1 k hk
  split at h1
  · exact az_in_ws h1
  · cases h1
theorem az_clo (ci : Nat) (h : ci < 7) : vwCl[ci]? = some ((az_C ci).1, (az_C ci).2.1, (az_C ci).2.2) := by
  match ci, h with
  | 0, _ => rfl
  | 1, _ => rfl
  | 2, _ => rfl
  | 3, _ => rfl
  | 4, _ => rfl
  | 5, _ => rfl
  | 6, _ => rfl
theorem az_tok (ci : Nat) (h : ci < 7) : ∀ k, k < (az_C ci).2.2 → parseFieldDescriptor ((az_C ci).2.1 k).2.2.1 = some (az_tf ci k) := by
  match ci, h with
  | 0, _ => exact tyX0_ok
  | 1, _ => exact tyX1_ok
  | 2, _ => exact tyX2_ok
  | 3, _ => exact tyX3_ok
  | 4, _ => exact tyX4_ok
  | 5, _ => exact tyX5_ok
  | 6, _ => exact tyX6_ok
theorem az_nok (ci : Nat) (h : ci < 7) : ∀ a, a < (az_C ci).2.2 → ∀ b, b < (az_C ci).2.2 → a ≠ b → ((az_C ci).2.1 a).2.1 ≠ ((az_C ci).2.1 b).2.1 := by
  match ci, h with
  | 0, _ => exact nmX0
  | 1, _ => exact nmX1
  | 2, _ => exact nmX2
  | 3, _ => exact nmX3
  | 4, _ => exact nmX4
  | 5, _ => exact nmX5
  | 6, _ => exact nmX6
theorem az_dok (ci : Nat) (h : ci < 7) : ∀ j, j < (az_C ci).2.2 → defaultValue (az_tf ci j) = vp_V (az_df ci) j := by
  match ci, h with
  | 0, _ => decide +kernel
  | 1, _ => decide +kernel
  | 2, _ => decide +kernel
  | 3, _ => decide +kernel
  | 4, _ => decide +kernel
  | 5, _ => decide +kernel
  | 6, _ => decide +kernel
theorem az_nfok (ci : Nat) (h : ci < 7) : (az_C ci).2.2 = az_nf ci := by
  match ci, h with
  | 0, _ => rfl
  | 1, _ => rfl
  | 2, _ => rfl
  | 3, _ => rfl
  | 4, _ => rfl
  | 5, _ => rfl
  | 6, _ => rfl
/-! locals -/
def az_as (L : az_L) : List (Nat × Value) := L.zipIdx.filterMap fun q => q.1.map fun v => (q.2, v)
theorem az_as_mem {L : az_L} {q : Nat × Value} : q ∈ az_as L ↔ L[q.1]? = some (some q.2) := by
  obtain ⟨i, v⟩ := q
  simp only [az_as, List.mem_filterMap, Option.map_eq_some_iff]
  constructor
  · rintro ⟨⟨o, j⟩, h1, w, rfl, h2⟩
    cases h2
    exact (List.mk_mem_zipIdx_iff_getElem?.mp h1)
  · intro h
    exact ⟨(some v, i), List.mk_mem_zipIdx_iff_getElem?.mpr h, v, rfl, rfl⟩
def az_pl (ls : Array Slot) (n : Nat) (L : az_L) : Prop := lv_has ls n (az_as L)
theorem az_pl.at {ls : Array Slot} {n : Nat} {L : az_L} (h : az_pl ls n L) {i : Nat} {v : Value} (hi : L[i]? = some (some v)) : ls[i]? = some (.val v) := h.2.2 (i, v) (az_as_mem.mpr hi)
theorem az_kp_get {L : az_L} {i j : Nat} {w : Value} (h : (az_kp L i)[j]? = some (some w)) : L[j]? = some (some w) ∧ (j + 1 = i → w.category ≠ 2) := by
  unfold az_kp at h
  split at h
  · exact ⟨h, fun e => by omega⟩
  · rename_i i'
    split at h
    · by_cases hj : j = i'
      · subst hj
        rw [List.getElem?_set_self'] at h
        cases hl : L[j]? <;> simp [hl] at h
      · rw [List.getElem?_set_ne (Ne.symm hj)] at h
        exact ⟨h, fun e => by omega⟩
    · by_cases hj : j = i'
      · subst hj
        rw [List.getElem?_set_self'] at h
        cases hl : L[j]? <;> simp [hl] at h
      · rw [List.getElem?_set_ne (Ne.symm hj)] at h
        exact ⟨h, fun e => by omega⟩
    · rename_i h1 h2
      refine ⟨h, fun e => ?_⟩
      have : j = i' := by omega
      subst this
      cases w with
      | long x => exact absurd h (h1 x)
      | double x => exact absurd h (h2 x)
      | _ => simp [Value.category]
theorem az_pl.s1 {ls : Array Slot} {n i : Nat} {L : az_L} {v : Value} (h : lv_has ls n ((i, v) :: (az_as L).filter (fun q => !(q.1 == i) && !(q.1 + 1 == i && q.2.category == 2)))) : az_pl ls n (az_s1 L i v) := by
  refine ⟨h.1, h.2.1, fun q hq => ?_⟩
  obtain ⟨j, w⟩ := q
  have hq := az_as_mem.mp hq
  simp only [az_s1] at hq
  by_cases hj : j = i
  · subst hj
    rw [List.getElem?_set_self'] at hq
    have hw : w = v := by
      cases hl : (az_kp L j)[j]? with
      | none => simp [hl] at hq
      | some o => simp [hl] at hq; exact hq.symm
    subst hw
    exact h.2.2 _ List.mem_cons_self
  · rw [List.getElem?_set_ne (Ne.symm hj)] at hq
    obtain ⟨g1, g2⟩ := az_kp_get hq
    refine h.2.2 (j, w) (List.mem_cons_of_mem _ (List.mem_filter.mpr ⟨az_as_mem.mpr g1, ?_⟩))
    by_cases e : j + 1 = i
    · simp [hj, g2 e]
    · simp [hj, e]
theorem az_pl.s2 {ls : Array Slot} {n i : Nat} {L : az_L} {v : Value} (h : lv_has ls n ((i, v) :: (az_as L).filter (fun q => !(q.1 == i) && (!(q.1 == i + 1) && !(q.1 + 1 == i && q.2.category == 2))))) : az_pl ls n (az_s2 L i v) := by
  refine ⟨h.1, h.2.1, fun q hq => ?_⟩
  obtain ⟨j, w⟩ := q
  have hq := az_as_mem.mp hq
  simp only [az_s2] at hq
  by_cases hj : j = i
  · subst hj
    rw [List.getElem?_set_self'] at hq
    have hw : w = v := by
      cases hl : ((az_kp L j).set (j + 1) none)[j]? with
      | none => simp [hl] at hq
      | some o => simp [hl] at hq; exact hq.symm
    subst hw
    exact h.2.2 _ List.mem_cons_self
  · rw [List.getElem?_set_ne (Ne.symm hj)] at hq
    by_cases hk : j = i + 1
    · subst hk
      rw [List.getElem?_set_self'] at hq
      cases hl : (az_kp L i)[i + 1]? <;> simp [hl] at hq
    · rw [List.getElem?_set_ne (Ne.symm hk)] at hq
      obtain ⟨g1, g2⟩ := az_kp_get hq
      refine h.2.2 (j, w) (List.mem_cons_of_mem _ (List.mem_filter.mpr ⟨az_as_mem.mpr g1, ?_⟩))
      by_cases e : j + 1 = i
      · simp [hj, hk, g2 e]
      · simp [hj, hk, e]
theorem az_en_args : ∀ (vs : List Value) (i j : Nat) (v : Value), (az_en vs)[j]? = some (some v) → (i + j, v) ∈ lv_args i vs := by
  intro vs
  induction vs with
  | nil => intro i j v h; simp [az_en] at h
  | cons w vs ih =>
    intro i j v h
    by_cases hc : w.category = 2
    · have he : az_en (w :: vs) = some w :: none :: az_en vs := by
        cases w <;> first | rfl | simp [Value.category] at hc
      rw [he] at h
      simp only [lv_args, if_pos hc]
      match j, h with
      | 0, h =>
        simp at h
        subst h
        exact List.mem_cons_self
      | 1, h => simp at h
      | j + 2, h =>
        simp at h
        have := ih (i + 2) j v h
        rw [show i + (j + 2) = i + 2 + j by omega]
        exact List.mem_cons_of_mem _ this
    · have he : az_en (w :: vs) = some w :: az_en vs := by
        cases w <;> first | rfl | simp [Value.category] at hc
      rw [he] at h
      simp only [lv_args, if_neg hc]
      match j, h with
      | 0, h =>
        simp at h
        subst h
        exact List.mem_cons_self
      | j + 1, h =>
        simp at h
        have := ih (i + 1) j v h
        rw [show i + (j + 1) = i + 1 + j by omega]
        exact List.mem_cons_of_mem _ this
theorem az_en_len (vs : List Value) : (az_en vs).length = (lg_sl vs).length := by
  induction vs with
  | nil => rfl
  | cons w vs ih =>
    have h1 : lg_sl (w :: vs) = (if w.category = 2 then [.val w, .second] else [.val w]) ++ lg_sl vs := rfl
    rw [h1, List.length_append, ← ih]
    cases w <;> simp [az_en, Value.category] <;> omega
theorem az_pl.entry (vs : List Value) {n : Nat} (h : (az_en vs).length ≤ n) : az_pl ((lg_sl vs ++ List.replicate (n - (lg_sl vs).length) Slot.unset).toArray) n (az_ent n vs) := by
  have h0 := lv_entry vs (n := n) (by rw [← az_en_len]; exact h)
  refine ⟨h0.1, h0.2.1, fun q hq => ?_⟩
  obtain ⟨j, w⟩ := q
  have hq := az_as_mem.mp hq
  simp only [az_ent] at hq
  by_cases hj : j < (az_en vs).length
  · rw [List.getElem?_append_left hj] at hq
    have := az_en_args vs 0 j w hq
    rw [Nat.zero_add] at this
    exact h0.2.2 _ this
  · rw [List.getElem?_append_right (by omega)] at hq
    have := List.eq_of_mem_replicate (List.mem_of_getElem? hq)
    cases this
end
section
/-! THE TIE, second part: one instruction of each kind over the heap -/
section AZB
variable {p : Program} {l : Launch} {e : Env} {R : Room} {s : State} {m : MethodId} {args : Array Value} {below : List Frame} {meth : Method} {c : Code} {H : Heap} {locs : List Loc} {cells slots : Nat} {Q : State → Prop}
variable {cc : ByteArray} {pc : Nat} {ls : Array Slot} {rest : List Value} {D : va_G} {cy : Nat → ClassId} {Z : Nat} {Hs : Heap} {G : az_H}
theorem az_wget (hx : p.tables.exec = Jvm.exec) (hb : c.code = cc) (hts : ∀ w ∈ az_ws, w.before args s = true) {own : String} (hown : s.vm.findClass own = some m.cls) (hK : az_kk D cy s) (hrel : az_rel Z D cy G H) {r a b index : Nat} {fs : List Value} {v : Value} (he : G.1 r = some (.inr (a, fs))) (ha : a < 7) (hk : b < (az_C a).2.2) (hlink : Cond.fieldLink own index ((az_C a).2.1 b).1 ((az_C a).2.1 b).2.1 ((az_C a).2.1 b).2.2.1 ∈ az_ws) (hv : fs[b]? = some v) (hdg : decode cc pc = .ok (.getfield index, 3)) (kk : W p l e R s m args below meth c H locs cells slots Q (F0 m (pc + 3) ls (v :: rest))) : W p l e R s m args below meth c H locs cells slots Q (F0 m pc ls (.ref r :: rest)) :=
  va_get (D := D) (cl := vwCl) (tys := az_tys cy) (ws := [(r, .inr (a, fs))]) (ci := a) hx hb hts (az_lays a ha) hown hK.1 (az_P1 (hrel.2.2 _ _ he).2) 0 rfl (az_clo a ha) b hk (hts _ hlink) (fun _ h => h) hv hdg kk
theorem az_wput (hx : p.tables.exec = Jvm.exec) (hb : c.code = cc) (hts : ∀ w ∈ az_ws, w.before args s = true) {own : String} (hown : s.vm.findClass own = some m.cls) (hK : az_kk D cy s) (hrel : az_rel Z D cy G H) (hS : va_S (fun q => Z ≤ q) Hs H locs) {r a b index : Nat} {fs : List Value} {v : Value} (he : G.1 r = some (.inr (a, fs))) (ha : a < 7) (hk : b < (az_C a).2.2) (hlink : Cond.fieldLink own index ((az_C a).2.1 b).1 ((az_C a).2.1 b).2.1 ((az_C a).2.1 b).2.2.1 ∈ az_ws) (hfin : ((az_C a).2.1 b).2.2.2 = true → meth.name = "<init>" ∧ ((az_C a).2.1 b).1 = own) (hn : narrow (az_tf a b) v = v) (hfit : fits (az_tf a b) v = true) (hl : b < fs.length) (hdg : decode cc pc = .ok (.putfield index, 3)) (kk : ∀ (H1 : Heap) (locs1 : List Loc), az_rel Z D cy (az_set G r (.inr (a, fs.set b v))) H1 → va_S (fun q => Z ≤ q) Hs H1 locs1 → W p l e R s m args below meth c H1 locs1 cells slots Q (F0 m (pc + 3) ls rest)) : W p l e R s m args below meth c H locs cells slots Q (F0 m pc ls (v :: .ref r :: rest)) := by
  have hin := az_lays a ha
  have hc := az_clo a ha
  have hap := va_apart (own := own) hts hin (az_tf a) (az_tok a ha) (az_nok a ha) hK.1 hc
  have hd := az_tok a ha b hk
  obtain ⟨hZ, q, h1, cell, q1, q2, q3, q4⟩ := hrel.2.2 _ _ he
  have hq : q = ((az_C a).1, (az_C a).2.1, (az_C a).2.2) := Option.some.inj (h1.symm.trans hc)
  subst hq
  obtain ⟨hSl, hfc, kC, hkC, hkind⟩ := hK.1.1 a _ hc
  obtain ⟨cf, kf, fi, f, hi, hsl⟩ := hSl b hk
  have hlay := hts _ (hin _ (u_in_lay hk))
  have hst := (u_facts hfc hkC (u_lays hts hin hk) hi).1
  have fin : ∀ H' : Heap, H'[r]? = some (cell.setSlot f.slot v) → H'.size = H.size → (∀ q : Nat, q ≠ r → H'[q]? = H[q]?) → W p l e R s m args below meth c H' (locs ++ [⟨r, f.slot⟩]) cells slots Q (F0 m (pc + 3) ls rest) := by
    intro H' e1 e2 e3
    refine kk H' _ (hrel.put he ?_ e2 e3) (hS.put e2 e3 hZ)
    rw [hsl] at e1
    exact ⟨_, hc, t_OB.to (V := updV (vp_V fs) b v) ⟨_, e1, q2, q3, t_set q4 hap hk v⟩ (fun j _ => vp_updV_set hl v j)⟩
  unfold u_lay at hlay
  by_cases hf : ((az_C a).2.1 b).2.2.2 = true
  · rw [if_pos hf] at hlay
    obtain ⟨f1, f2⟩ := hfin hf
    have hcf : m.cls = cf := by
      obtain ⟨_, _, c', _, _, _, -, -, hf', -, -, -, hown2, -⟩ := Cond.laysFinal_spec hlay
      have e1 : c' = cf := by have := hi.symm.trans hf'; simp at this; exact this.1.symm
      rw [f2] at hown2
      rw [← e1]; exact Option.some.inj (hown.symm.trans hown2)
    have h6 := u_fits hfc hkC hkind (Or.inr hlay) hi hd hn hfit
    exact W.putFinK hx hb hown (hts _ hlink) hi hst hcf f1 (by rw [q2]; exact h6) q1 q3 (by rw [hsl]; exact k2_hasslot (q4 b hk)) rfl rfl hdg fin
  · rw [if_neg hf] at hlay
    have h6 := u_store hfc hkC hkind hlay hi hd hn hfit
    exact W.putK hx hb (f := f) ⟨hown, hts _ hlink, ⟨_, _, _, hi⟩, hst⟩ (by rw [q2]; exact h6) q1 q3 (by rw [hsl]; exact k2_hasslot (q4 b hk)) rfl rfl hdg fin
theorem az_wial (hx : p.tables.exec = Jvm.exec) (hb : c.code = cc) (hK : az_kk D cy s) (hrel : az_rel Z D cy G H) {r n : Nat} {f : Nat → Int32} {i : Int32} (he : G.1 r = some (.inl (0, n, .inl f))) (hin : ¬ (i < 0 ∨ n ≤ i.toNatClampNeg)) (hdg : decode cc pc = .ok (.iaload, 1)) (kk : W p l e R s m args below meth c H locs cells slots Q (F0 m (pc + 1) ls (.int (f i.toNatClampNeg) :: rest))) : W p l e R s m args below meth c H locs cells slots Q (F0 m pc ls (.int i :: .ref r :: rest)) :=
  va_iald (D := D) (cl := vwCl) (tys := az_tys cy) (ws := [(r, .inl (cy 0, n, .inl f))]) hx hb hK.1 (az_P1 (hrel.2.2 _ _ he).2) 0 0 rfl rfl hin hdg kk
theorem az_wzal (hx : p.tables.exec = Jvm.exec) (hb : c.code = cc) (hK : az_kk D cy s) (hrel : az_rel Z D cy G H) {r n : Nat} {f : Nat → Int32} {i : Int32} (he : G.1 r = some (.inl (1, n, .inl f))) (hin : ¬ (i < 0 ∨ n ≤ i.toNatClampNeg)) (hdg : decode cc pc = .ok (.baload, 1)) (kk : W p l e R s m args below meth c H locs cells slots Q (F0 m (pc + 1) ls (.int (f i.toNatClampNeg) :: rest))) : W p l e R s m args below meth c H locs cells slots Q (F0 m pc ls (.int i :: .ref r :: rest)) :=
  va_zald (D := D) (cl := vwCl) (tys := az_tys cy) (ws := [(r, .inl (cy 1, n, .inl f))]) hx hb hK.1 (az_P1 (hrel.2.2 _ _ he).2) 0 1 rfl rfl hin hdg kk
theorem az_waal (hx : p.tables.exec = Jvm.exec) (hb : c.code = cc) (hK : az_kk D cy s) (hrel : az_rel Z D cy G H) {kd r n q : Nat} {f : Nat → Option Nat} {i : Int32} (hkd : kd = 2 ∨ kd = 3) (he : G.1 r = some (.inl (kd, n, .inr (.inr (.inr (.inr f)))))) (hin : ¬ (i < 0 ∨ n ≤ i.toNatClampNeg)) (hq : f i.toNatClampNeg = some q) (hdg : decode cc pc = .ok (.aaload, 1)) (kk : W p l e R s m args below meth c H locs cells slots Q (F0 m (pc + 1) ls (.ref q :: rest))) : W p l e R s m args below meth c H locs cells slots Q (F0 m pc ls (.int i :: .ref r :: rest)) := by
  have k2 : W p l e R s m args below meth c H locs cells slots Q (F0 m (pc + 1) ls (va_rf (f i.toNatClampNeg) :: rest)) := by rw [hq]; exact kk
  rcases hkd with rfl | rfl
  · exact va_aldq (D := D) (cl := vwCl) (tys := az_tys cy) (ws := [(r, .inl (cy 2, n, .inr (.inr (.inr (.inr f)))))]) hx hb hK.1 (az_P1 (hrel.2.2 _ _ he).2) 0 2 rfl rfl hin hdg k2
  · exact va_aldq (D := D) (cl := vwCl) (tys := az_tys cy) (ws := [(r, .inl (cy 3, n, .inr (.inr (.inr (.inr f)))))]) hx hb hK.1 (az_P1 (hrel.2.2 _ _ he).2) 0 3 rfl rfl hin hdg k2
theorem az_waln (hx : p.tables.exec = Jvm.exec) (hb : c.code = cc) (hK : az_kk D cy s) (hrel : az_rel Z D cy G H) {kd r n : Nat} {x : (Nat → Int32) ⊕ (Nat → Int64) ⊕ (Nat → UInt32) ⊕ (Nat → UInt64) ⊕ (Nat → Option Nat)} (hkd : kd < 4) (he : G.1 r = some (.inl (kd, n, x))) (hdg : decode cc pc = .ok (.arraylength, 1)) (kk : W p l e R s m args below meth c H locs cells slots Q (F0 m (pc + 1) ls (.int (Int32.ofNat n) :: rest))) : W p l e R s m args below meth c H locs cells slots Q (F0 m pc ls (.ref r :: rest)) := by
  have hP := az_P1 (hrel.2.2 _ _ he).2
  match kd, hkd with
  | 0, _ => exact va_alen (D := D) (cl := vwCl) (tys := az_tys cy) (ws := [(r, .inl (cy 0, n, x))]) hx hb hK.1 hP 0 0 rfl rfl rfl hdg kk
  | 1, _ => exact va_alen (D := D) (cl := vwCl) (tys := az_tys cy) (ws := [(r, .inl (cy 1, n, x))]) hx hb hK.1 hP 0 1 rfl rfl rfl hdg kk
  | 2, _ => exact va_alen (D := D) (cl := vwCl) (tys := az_tys cy) (ws := [(r, .inl (cy 2, n, x))]) hx hb hK.1 hP 0 2 rfl rfl rfl hdg kk
  | 3, _ => exact va_alen (D := D) (cl := vwCl) (tys := az_tys cy) (ws := [(r, .inl (cy 3, n, x))]) hx hb hK.1 hP 0 3 rfl rfl rfl hdg kk
theorem az_updi (cA : ClassId) (n k : Nat) (f : Nat → Int32) (x : Int32) : (vp_cell cA (n, .inl f)).setSlot k (.int x) = vp_cell cA (n, .inl (upd f k x)) := by
  rw [vp_cell_i, vp_cell_i, arrV_store]
  congr 2
  funext q
  by_cases hq : q = k
  · subst hq; simp [updV, upd]
  · simp [updV, upd, hq]
theorem az_updq (cA : ClassId) (n k v : Nat) (f : Nat → Option Nat) : (vp_cell cA (n, .inr (.inr (.inr (.inr f))))).setSlot k (.ref v) = vp_cell cA (n, .inr (.inr (.inr (.inr (va_up f k (some v)))))) := by
  rw [vp_cell_q, vp_cell_q, arrV_store]
  congr 2
  funext q
  by_cases hq : q = k
  · subst hq; simp [updV, va_up, va_rf]
  · simp [updV, va_up, hq]
theorem az_wias (hx : p.tables.exec = Jvm.exec) (hb : c.code = cc) (hK : az_kk D cy s) (hrel : az_rel Z D cy G H) (hS : va_S (fun q => Z ≤ q) Hs H locs) {r n : Nat} {f : Nat → Int32} {i x : Int32} (he : G.1 r = some (.inl (0, n, .inl f))) (hin : ¬ (i < 0 ∨ n ≤ i.toNatClampNeg)) (hdg : decode cc pc = .ok (.iastore, 1)) (kk : ∀ (H1 : Heap) (locs1 : List Loc), az_rel Z D cy (az_set G r (.inl (0, n, .inl (upd f i.toNatClampNeg x)))) H1 → va_S (fun q => Z ≤ q) Hs H1 locs1 → W p l e R s m args below meth c H1 locs1 cells slots Q (F0 m (pc + 1) ls rest)) : W p l e R s m args below meth c H locs cells slots Q (F0 m pc ls (.int x :: .int i :: .ref r :: rest)) := by
  have h0 := hrel.2.2 _ _ he
  refine W.iast hx hb h0.2 ((hK.1.2 0 _ rfl).1 n (fun j => .int (f j))) (fun q => by cases q) (by show ¬ (i < 0 ∨ (arrV _ _ _).slots.size ≤ _); rw [arrV_size]; exact hin) rfl rfl hdg fun H1 e1 z oq => ?_
  refine kk H1 _ (hrel.put he ?_ z oq) (hS.put z oq h0.1)
  show H1[r]? = some (vp_cell _ _)
  rw [e1]
  exact congrArg some (az_updi _ _ _ _ _)
theorem az_wzas (hx : p.tables.exec = Jvm.exec) (hb : c.code = cc) (hK : az_kk D cy s) (hrel : az_rel Z D cy G H) (hS : va_S (fun q => Z ≤ q) Hs H locs) {r n : Nat} {f : Nat → Int32} {i x : Int32} (he : G.1 r = some (.inl (1, n, .inl f))) (hx1 : x = 0 ∨ x = 1) (hin : ¬ (i < 0 ∨ n ≤ i.toNatClampNeg)) (hdg : decode cc pc = .ok (.bastore, 1)) (kk : ∀ (H1 : Heap) (locs1 : List Loc), az_rel Z D cy (az_set G r (.inl (1, n, .inl (upd f i.toNatClampNeg x)))) H1 → va_S (fun q => Z ≤ q) Hs H1 locs1 → W p l e R s m args below meth c H1 locs1 cells slots Q (F0 m (pc + 1) ls rest)) : W p l e R s m args below meth c H locs cells slots Q (F0 m pc ls (.int x :: .int i :: .ref r :: rest)) := by
  have h0 := hrel.2.2 _ _ he
  have hnr : narrow .boolean (.int x) = .int x := by rcases hx1 with rfl | rfl <;> rfl
  refine W.zast hx hb h0.2 ((hK.1.2 1 _ rfl).1 n (fun j => .int (f j))) (fun q => by cases q) (by show ¬ (i < 0 ∨ (arrV _ _ _).slots.size ≤ _); rw [arrV_size]; exact hin) rfl rfl hdg fun H1 e1 z oq => ?_
  refine kk H1 _ (hrel.put he ?_ z oq) (hS.put z oq h0.1)
  show H1[r]? = some (vp_cell _ _)
  rw [e1, hnr]
  exact congrArg some (az_updi _ _ _ _ _)
theorem az_waas (hx : p.tables.exec = Jvm.exec) (hb : c.code = cc) (hK : az_kk D cy s) (hrel : az_rel Z D cy G H) (hS : va_S (fun q => Z ≤ q) Hs H locs) {kd r n v : Nat} {f : Nat → Option Nat} {vs : List Value} {i : Int32} (hkd : kd = 2 ∨ kd = 3) (he : G.1 r = some (.inl (kd, n, .inr (.inr (.inr (.inr f)))))) (hv : G.1 v = some (.inr (az_el kd, vs))) (hin : ¬ (i < 0 ∨ n ≤ i.toNatClampNeg)) (hdg : decode cc pc = .ok (.aastore, 1)) (kk : ∀ (H1 : Heap) (locs1 : List Loc), az_rel Z D cy (az_set G r (.inl (kd, n, .inr (.inr (.inr (.inr (va_up f i.toNatClampNeg (some v)))))))) H1 → va_S (fun q => Z ≤ q) Hs H1 locs1 → W p l e R s m args below meth c H1 locs1 cells slots Q (F0 m (pc + 1) ls rest)) : W p l e R s m args below meth c H locs cells slots Q (F0 m pc ls (.ref v :: .int i :: .ref r :: rest)) := by
  have hlt : i.toNatClampNeg < n := Nat.not_le.mp fun q => hin (Or.inr q)
  have h0 : ¬ i < 0 := fun q => hin (Or.inl q)
  have hr0 := hrel.2.2 _ _ he
  obtain ⟨-, q, hq, cellV, g1, g2, g3, -⟩ := hrel.2.2 _ _ hv
  obtain ⟨C, cA, t0, hC, hcA, ht⟩ : ∃ (C : String) (cA : ClassId) (t0 : Nat), (vwCl[az_el kd]?).map (fun x => x.1) = some C ∧ cy kd = cA ∧ (az_tys cy)[t0]? = some (cA, .object C) := by
    rcases hkd with rfl | rfl
    · exact ⟨RX4, _, 2, rfl, rfl, rfl⟩
    · exact ⟨RX0, _, 3, rfl, rfl, rfl⟩
  subst hcA
  have hqC : q.1 = C := by
    rw [hq] at hC
    exact Option.some.inj hC
  subst hqC
  have hcls := (hK.1.1 _ q hq).2
  obtain ⟨kA, comp, k1, k2, k3, -⟩ := (hK.1.2 t0 _ ht).2
  have hcomp : comp = D.1 (az_el kd) := Option.some.inj (k3.symm.trans hcls.1)
  subst hcomp
  obtain ⟨kC, hkC, -⟩ := hcls.2
  refine W.aast hx hb hr0.2 (fun q h => by cases h) (fun h => by cases h) k1 k2 rfl hkC ⟨h0, by show _ < (arrV _ _ _).slots.size; rw [arrV_size]; exact hlt⟩ g1 (fun q h => by rw [g3] at h; cases h) (by rw [g2]; exact hkC) (by rw [g2]; exact va_assign hcls) rfl rfl hdg fun H1 e1 z oq => ?_
  refine kk H1 _ (hrel.put he ?_ z oq) (hS.put z oq hr0.1)
  show H1[r]? = some (vp_cell _ _)
  rw [e1]
  exact congrArg some (az_updq _ _ _ _ _)
theorem az_wnew (hx : p.tables.exec = Jvm.exec) (hb : c.code = cc) (hts : ∀ w ∈ az_ws, w.before args s = true) {own : String} (hown : s.vm.findClass own = some m.cls) (hK : az_kk D cy s) (hrel : az_rel Z D cy G H) (hS : va_S (fun q => Z ≤ q) Hs H locs) {a index : Nat} (ha : a < 7) (hlink : Cond.classLink own index (az_C a).1 ∈ az_ws) (hcells : cells + 1 ≤ R.cells) (hslots : slots + az_nf a ≤ R.slots) (hdg : decode cc pc = .ok (.new index, 3)) (kk : ∀ (H1 : Heap), az_rel Z D cy (az_psh G (.inr (a, az_df a)) (az_nf a)) H1 → va_S (fun q => Z ≤ q) Hs H1 locs → W p l e R s m args below meth c H1 locs (cells + 1) (slots + az_nf a) Q (F0 m (pc + 3) ls (.ref G.2.1 :: rest))) : W p l e R s m args below meth c H locs cells slots Q (F0 m pc ls rest) := by
  have hcok : az_cok a = true := by
    match a, ha with
    | 0, _ => exact az_e0
    | 1, _ => exact az_e1
    | 2, _ => exact az_e2
    | 3, _ => exact az_e3
    | 4, _ => exact az_e4
    | 5, _ => exact az_e5
    | 6, _ => exact az_e6
  simp only [az_cok, Bool.and_eq_true] at hcok
  have hin := az_lays a ha
  have hc := az_clo a ha
  have hKn := hK.1.1 a _ hc
  have hnf := az_nfok a ha
  refine W.newcK hx hb hown (hts _ hlink) (by rw [← hnf]; exact hts _ (az_in_ws hcok.1.2)) (hts _ (az_in_ws hcok.2)) rfl hdg hcells hslots hKn.2.1 hrel.1 fun H1 kC hkC e1 z1 o1 => ?_
  rw [← hrel.1] at e1 z1 o1
  refine kk H1 (hrel.push ?_ z1 o1) (az_S.push hS z1 o1)
  exact ⟨_, hc, (u_born (az_tf a) hts hin hKn hkC e1 (az_tok a ha)).to (az_dok a ha)⟩
theorem az_wnwa (hx : p.tables.exec = Jvm.exec) (hb : c.code = cc) (hts : ∀ w ∈ az_ws, w.before args s = true) (hK : az_kk D cy s) (hrel : az_rel Z D cy G H) (hS : va_S (fun q => Z ≤ q) Hs H locs) {b : Nat} {t : ArrayType} (ht : (t = .int ∧ b = 0) ∨ (t = .boolean ∧ b = 1)) {n : Int32} (hn : ¬ n < 0) (hN : n.toNatClampNeg ≤ 100000) (hcells : cells + 1 ≤ R.cells) (hslots : slots + n.toNatClampNeg ≤ R.slots) (hdg : decode cc pc = .ok (.newarray t, 2)) (kk : ∀ (H1 : Heap), az_rel Z D cy (az_psh G (.inl (b, n.toNatClampNeg, .inl (fun _ => 0))) n.toNatClampNeg) H1 → va_S (fun q => Z ≤ q) Hs H1 locs → W p l e R s m args below meth c H1 locs (cells + 1) (slots + n.toNatClampNeg) Q (F0 m (pc + 2) ls (.ref G.2.1 :: rest))) : W p l e R s m args below meth c H locs cells slots Q (F0 m pc ls (.int n :: rest)) := by
  rcases ht with ⟨rfl, rfl⟩ | ⟨rfl, rfl⟩
  · refine va_newaK hx hb (atype := .int) (hts _ az_aci) rfl hdg rfl hn rfl (by show _ * 4 ≤ _; omega) hcells hslots hrel.1 fun H1 cA e1 z1 o1 hAr hf => ?_
    rw [← hrel.1] at e1 z1 o1
    have hcA : cA = cy 0 := Option.some.inj (hf.symm.trans (hK.1.2 0 _ rfl).2)
    subst hcA
    exact kk H1 (hrel.push e1 z1 o1) (az_S.push hS z1 o1)
  · refine va_newaK hx hb (atype := .boolean) (hts _ az_acz) rfl hdg rfl hn rfl (by show _ * 1 ≤ _; omega) hcells hslots hrel.1 fun H1 cA e1 z1 o1 hAr hf => ?_
    rw [← hrel.1] at e1 z1 o1
    have hcA : cA = cy 1 := Option.some.inj (hf.symm.trans (hK.1.2 1 _ rfl).2)
    subst hcA
    exact kk H1 (hrel.push e1 z1 o1) (az_S.push hS z1 o1)
theorem az_wnwq (hx : p.tables.exec = Jvm.exec) (hb : c.code = cc) (hts : ∀ w ∈ az_ws, w.before args s = true) {own : String} (hown : s.vm.findClass own = some m.cls) (hK : az_kk D cy s) (hrel : az_rel Z D cy G H) (hS : va_S (fun q => Z ≤ q) Hs H locs) {b index : Nat} (hkd : b = 2 ∨ b = 3) (hlink : Cond.classLink own index (az_C (az_el b)).1 ∈ az_ws) {n : Int32} (hn : ¬ n < 0) (hN : n.toNatClampNeg ≤ 100000) (hcells : cells + 1 ≤ R.cells) (hslots : slots + n.toNatClampNeg ≤ R.slots) (hdg : decode cc pc = .ok (.anewarray index, 3)) (kk : ∀ (H1 : Heap), az_rel Z D cy (az_psh G (.inl (b, n.toNatClampNeg, .inr (.inr (.inr (.inr (fun _ => none)))))) n.toNatClampNeg) H1 → va_S (fun q => Z ≤ q) Hs H1 locs → W p l e R s m args below meth c H1 locs (cells + 1) (slots + n.toNatClampNeg) Q (F0 m (pc + 3) ls (.ref G.2.1 :: rest))) : W p l e R s m args below meth c H locs cells slots Q (F0 m pc ls (.int n :: rest)) := by
  have key : ∀ (C : String) (t0 : Nat), Cond.classLink own index C ∈ az_ws → va_AO C s → (az_tys cy)[t0]? = some (cy b, .object C) → W p l e R s m args below meth c H locs cells slots Q (F0 m pc ls (.int n :: rest)) := by
    intro C t0 hlink hao ht
    refine W.anew hx hb hown (hts _ hlink) (va_AO.use hao) rfl hdg rfl hn (by omega) hcells hslots fun cA kA comp f1 f2 f3 f4 => ?_
    obtain ⟨_, _, _, _, _, f5⟩ := (hK.1.2 t0 _ ht).2
    have hcA : cA = cy b := Option.some.inj (f1.symm.trans f5)
    subst hcA
    have z1 : (H.push ({ cls := cy b, slots := Array.replicate n.toNatClampNeg .null, vm := .none } : Cell)).size = H.size + 1 := Array.size_push _
    have e1 : (H.push ({ cls := cy b, slots := Array.replicate n.toNatClampNeg .null, vm := .none } : Cell))[H.size]? = some (arrV (cy b) n.toNatClampNeg (fun _ => .null)) := by rw [Array.getElem?_push_size, ← arrV_new]
    have o1 : ∀ q : Nat, q < H.size → (H.push ({ cls := cy b, slots := Array.replicate n.toNatClampNeg .null, vm := .none } : Cell))[q]? = H[q]? := fun q hq => by rw [Array.getElem?_push, if_neg (Nat.ne_of_lt hq)]
    have := kk _ (hrel.push e1 z1 o1) (az_S.push hS z1 o1)
    rw [← hrel.1] at this
    exact this
  rcases hkd with rfl | rfl
  · exact key RX4 2 hlink hK.2.2.1 rfl
  · exact key RX0 3 hlink hK.2.2.2 rfl
theorem az_wcall {mc ms : Nat} {v : Option Value} {G1 : az_H} {avs : Array Value} {st0 : List Value} (hr : va_Run p l e R s m args below meth c H locs cells slots mc ms (F0 m pc ls st0) rest (fun st o t => o = .returned v ∧ az_rel Z D cy G1 t.heap ∧ va_F (fun q => Z ≤ q) st t) (fun q => Z ≤ q)) (hS : va_S (fun q => Z ≤ q) Hs H locs) (kk : ∀ (H1 : Heap) (locs1 : List Loc), az_rel Z D cy G1 H1 → va_S (fun q => Z ≤ q) Hs H1 locs1 → W p l e R s m args below meth c H1 locs1 (cells + mc) (slots + ms) Q (F0 m (pc + 3) ls (v.toList ++ rest))) : W p l e R s m args below meth c H locs cells slots Q (F0 m pc ls st0) := by
  intro T hT X
  obtain ⟨v', st₀, t, T', L, h0, X', hL, e1, e2, ⟨hv, hrel, hz, hk⟩, st⟩ := hr T hT X
  cases hv
  rw [h0] at hz hk
  obtain ⟨t2, a1, b1⟩ := kk T'.heap (locs ++ L) (by rw [e1]; exact hrel) ⟨Nat.le_trans hS.1 (by rw [e1]; exact hz), fun q h1 h2 => by rw [e1, hk q (Nat.lt_of_lt_of_le h1 hS.1) h2]; exact hS.2.1 q h1 h2, fun q hq => by
      rcases List.mem_append.mp hq with h | h
      · exact hS.2.2 q h
      · exact hL q h⟩ T' rfl X'
  exact ⟨t2, st t2 a1, b1⟩
end AZB
end
section
/-! THE TIE, third part: one step of the abstract machine is one of the machine -/
def az_up (G G' : az_H) : Prop := G.2.1 ≤ G'.2.1 ∧ G.2.2 ≤ G'.2.2
def az_Pc (Z : Nat) (D : va_G) (cy : Nat → ClassId) (vs : List Value) (G : az_H) : Array Value → State → Prop := va_Pc vs (fun U => az_rel Z D cy G U.heap ∧ az_kk D cy U)
def az_Qc (Z : Nat) (D : va_G) (cy : Nat → ClassId) (v : Option Value) (G' : az_H) : Array Value → State → Outcome → State → Prop := fun _ st o t => o = .returned v ∧ az_rel Z D cy G' t.heap ∧ va_F (fun q => Z ≤ q) st t
def az_wm (a : Nat) : List Cond := Cond.code (az_nm a) (az_mc a) (az_nL a) (az_rt a) :: az_ws
def az_met (l : Launch) (Z : Nat) (D : va_G) (cy : Nat → ClassId) (a : Nat) (vs : List Value) (G : az_H) (v : Option Value) (G' : az_H) : Prop := Met l (az_nm a) (az_wm a) ({ frames := az_fr a, cells := G'.2.1 - G.2.1, slots := G'.2.2 - G.2.2, locals := az_lo a }) (az_Pc Z D cy vs G) (az_Qc Z D cy v G') (G'.2.1 - G.2.1) (G'.2.2 - G.2.2) (fun q => Z ≤ q)
/-- an instruction that returns, its stack, its answer -/
def az_isret (y : Nat) (ins : Instr) (st : List Value) (v : Option Value) : Prop := (ins = .ireturn ∧ ∃ x, st = [.int x] ∧ v = some (.int x) ∧ (az_rt y = some .int ∨ (az_rt y = some .boolean ∧ (x = 0 ∨ x = 1)))) ∨ (ins = .lreturn ∧ ∃ x, st = [.long x] ∧ v = some (.long x) ∧ az_rt y = some .long) ∨ (ins = .areturn ∧ ∃ x t, st = [x] ∧ v = some x ∧ (x = .null ∨ ∃ q, x = .ref q) ∧ az_rt y = some t ∧ az_isr t = true) ∨ (ins = .return_ ∧ st = [] ∧ v = none ∧ az_rt y = none)
theorem az_blind {Z : Nat} {D : va_G} {cy : Nat → ClassId} {vs : List Value} {G : az_H} : FrameBlind (az_Pc Z D cy vs G) := fun _ _ _ _ q => ⟨q.1, q.2.1, az_kk.same rfl q.2.2⟩
theorem az_good : ∀ w ∈ az_ws, (w.onTables && w.keeps) = true ∨ ∃ ty, w = .arrayClass ty := fun w h => good_of_word (List.mem_filter.mp h).2
theorem az_in_wm (a : Nat) (h : Cond.code (az_nm a) (az_mc a) (az_nL a) (az_rt a) ∈ az_ws) : GoodIn az_ws (az_wm a) := by
  intro w hw
  rcases List.mem_cons.mp hw with rfl | hw
  · exact ⟨h, az_good _ h⟩
  · exact ⟨hw, az_good _ hw⟩
/-- what the table says of a method -/
theorem az_mok_spec {a : Nat} (h : az_mok a = true) : Cond.code (az_nm a) (az_mc a) (az_nL a) (az_rt a) ∈ az_ws ∧ Cond.initialized (az_nm a).cls ∈ az_ws ∧ (az_is a = true → Cond.static (az_nm a) ∈ az_ws) ∧ (az_is a = false → Cond.instanceMethod (az_nm a) ∈ az_ws) ∧ plainName (az_nm a).cls = true ∧ ((az_nm a).cls ≠ "java/lang/invoke/MethodHandle" ∧ (az_nm a).cls ≠ "java/lang/invoke/VarHandle" ∧ (parseMethodDescriptor (az_nm a).desc).map (fun d => d.parameters.length) = some (az_np a)) ∧ (az_qs a < 9999 → Cond.selects (az_nm a).cls (az_nm a) (az_nm a) ∈ az_ws) ∧ 0 < (az_pg a).length ∧ az_bp a 0 = 0 := by
  simp only [az_mok, Bool.and_eq_true, decide_eq_true_eq] at h
  obtain ⟨⟨⟨⟨⟨⟨⟨⟨⟨h1, h2⟩, h3⟩, h4⟩, h5⟩, h6⟩, h7⟩, h8⟩, h9⟩, h10⟩ := h
  refine ⟨az_in_ws h1, az_in_ws h2, fun e => ?_, fun e => ?_, h4, ⟨h5, h6, h7⟩, fun e => ?_, h9, h10⟩
  · rw [if_pos e] at h3; exact az_in_ws h3
  · rw [if_neg (by rw [e]; decide)] at h3; exact az_in_ws h3
  · rw [if_pos e] at h8; exact az_in_ws h8
section AZC
variable {p : Program} {l : Launch} {e : Env} {R : Room} {s : State} {m : MethodId} {args : Array Value} {below : List Frame} {meth : Method} {c : Code} {Q : State → Prop}
variable {y Z n0 s0 : Nat} {D : va_G} {cy : Nat → ClassId} {Hs : Heap} {v0 : Option Value} {G0 : az_H}
/-- what holds of a frame -/
abbrev az_fx (p : Program) (y : Nat) (s : State) (m : MethodId) (args : Array Value) (meth : Method) (c : Code) : Prop := p.tables.exec = Jvm.exec ∧ c.code = az_mc y ∧ c.maxLocals = az_nL y ∧ s.vm.findClass (az_own y) = some m.cls ∧ (∀ w ∈ az_ws, w.before args s = true) ∧ ((az_nm y).name = "<init>" → meth.name = "<init>")
abbrev az_sc (p : Program) (l : Launch) (e : Env) (R : Room) (s : State) (m : MethodId) (args : Array Value) (below : List Frame) (meth : Method) (c : Code) (Q : State → Prop) (y Z n0 s0 : Nat) (D : va_G) (cy : Nat → ClassId) (Hs : Heap) (G0 G : az_H) (k : Nat) (L : az_L) (st : List Value) : Prop := az_up G G0 ∧ (n0 ≤ G.2.1 → s0 ≤ G.2.2 → ∀ (H : Heap) (locs : List Loc) (ls : Array Slot), az_rel Z D cy G H → va_S (fun q => Z ≤ q) Hs H locs → az_pl ls (az_nL y) L → W p l e R s m args below meth c H locs (G.2.1 - n0) (G.2.2 - s0) Q (F0 m (az_bp y k) ls st))
abbrev az_wg (p : Program) (l : Launch) (e : Env) (R : Room) (s : State) (m : MethodId) (args : Array Value) (below : List Frame) (meth : Method) (c : Code) (Q : State → Prop) (n0 s0 : Nat) (G : az_H) (H : Heap) (locs : List Loc) (pc : Nat) (ls : Array Slot) (st : List Value) : Prop := W p l e R s m args below meth c H locs (G.2.1 - n0) (G.2.2 - s0) Q (F0 m pc ls st)

theorem az_nm1 {a b : Nat} {G G1 G0 : az_H} (h1 : az_up G G1) (hn : n0 ≤ G.2.1) : (G.2.1 - n0) + (G1.2.1 - G.2.1) = G1.2.1 - n0 := by
  have := h1.1
  omega
theorem az_callS (X : az_fx p y s m args meth c) (hK : az_kk D cy s) (hRf : az_fr y ≤ R.frames) (hRl : az_lo y ≤ R.locals) (hRc : G0.2.1 - n0 ≤ R.cells) (hRs : G0.2.2 - s0 ≤ R.slots) {a b cc' pos j : Nat} {G G1 : az_H} {vs rest : List Value} {v : Option Value} (hM : az_met l Z D cy a vs G v G1) (h1 : az_up G G1) (h2 : az_up G1 G0) (hcal : az_cal y a b cc' = true) (hlnk : az_lnk y pos j a = true) (hst : az_is a = true) (hmok : az_mok a = true) (hn : n0 ≤ G.2.1) (hs : s0 ≤ G.2.2) (hvs : vs.length = b) (hrm : az_cat rest ≤ 8) {H : Heap} {locs : List Loc} {ls : Array Slot} (hrel : az_rel Z D cy G H) (hS : va_S (fun q => Z ≤ q) Hs H locs) (hls : ls.size = az_nL y) {pc : Nat} (hdc : decode (az_mc y) pc = .ok (.invokestatic j, 3)) (kk : ∀ (H1 : Heap) (locs1 : List Loc), az_rel Z D cy G1 H1 → va_S (fun q => Z ≤ q) Hs H1 locs1 → az_wg p l e R s m args below meth c Q n0 s0 G1 H1 locs1 (pc + 3) ls (v.toList ++ rest)) : az_wg p l e R s m args below meth c Q n0 s0 G H locs pc ls (vs.reverse ++ rest) := by
  obtain ⟨hx, hb, hml, hown, hts, -⟩ := X
  obtain ⟨m1, m2, m3, m4, m5, m6, m7, -, -⟩ := az_mok_spec hmok
  simp only [az_cal, Bool.and_eq_true, decide_eq_true_eq] at hcal
  obtain ⟨⟨⟨⟨⟨c1, c2⟩, c3⟩, c4⟩, c5⟩, c6⟩ := hcal
  have e1 : (G.2.1 - n0) + (G1.2.1 - G.2.1) = G1.2.1 - n0 := by have := h1.1; omega
  have e2 : (G.2.2 - s0) + (G1.2.2 - G.2.2) = G1.2.2 - s0 := by have := h1.2; omega
  have hf : (G.2.1 - n0) + (G1.2.1 - G.2.1) ≤ R.cells ∧ (G.2.2 - s0) + (G1.2.2 - G.2.2) ≤ R.slots := by have := h2.1; have := h2.2; omega
  have hpre : PreS s H (az_Pc Z D cy vs G) vs := ⟨az_blind, fun U hU hW => ⟨rfl, by rw [hU]; exact hrel, az_kk.warm hW hK⟩⟩
  have fin : va_Run p l e R s m args below meth c H locs (G.2.1 - n0) (G.2.2 - s0) (G1.2.1 - G.2.1) (G1.2.2 - G.2.2) (F0 m pc ls (vs.reverse ++ rest)) rest (az_Qc Z D cy v G1 vs.toArray) (fun q => Z ≤ q) := by
    unfold az_lnk at hlnk
    split at hlnk
    · exact va_runS ⟨hx, hb, hml, hown, hts⟩ hM ⟨callB_of (az_np a) hts (az_in_wm a m1) rfl rfl rfl (hts _ m2) (hts _ (az_in_ws hlnk)) m6 ⟨by show az_fr a + 1 ≤ _; omega, by show 8 + (az_nL a + 11) + az_lo a ≤ _; omega⟩, hts _ (m3 hst)⟩ hpre rfl (hvs.trans c5) hls rfl (lv_room hrm) hdc hf
    · split at hlnk
      · rename_i en hen
        simp only [Bool.and_eq_true, decide_eq_true_eq] at hlnk
        obtain ⟨⟨q1, q2⟩, q3⟩ := hlnk
        have hnw := hK.2.1 en (List.mem_of_getElem? hen)
        rw [q1, q2, q3] at hnw
        exact va_runSN ⟨hx, hb, hml, hown, hts⟩ hM ⟨va_cnB (az_np a) hts (az_in_wm a m1) rfl rfl rfl hnw (hts _ m2) m6 ⟨by show az_fr a + 1 ≤ _; omega, by show 8 + (az_nL a + 11) + az_lo a ≤ _; omega⟩, hts _ (m3 hst), trivial⟩ hpre rfl (hvs.trans c5) hls rfl (lv_room hrm) hdc hf
      · cases hlnk
  refine az_wcall (avs := vs.toArray) fin hS fun H1 locs1 g1 g2 => ?_
  rw [e1, e2]
  exact kk H1 locs1 g1 g2
theorem az_callV (X : az_fx p y s m args meth c) (hK : az_kk D cy s) (hRf : az_fr y ≤ R.frames) (hRl : az_lo y ≤ R.locals) (hRc : G0.2.1 - n0 ≤ R.cells) (hRs : G0.2.2 - s0 ≤ R.slots) {a b cc' pos j d r : Nat} {G G1 : az_H} {vs rest fs : List Value} {v : Option Value} (hM : az_met l Z D cy a (.ref r :: vs) G v G1) (h1 : az_up G G1) (h2 : az_up G1 G0) (hcal : az_cal y a b cc' = true) (hlnk : az_lnk y pos j a = true) (hst : az_is a = false) (hmok : az_mok a = true) (hd : d < 7) (hcd : (az_C d).1 = az_own a) (hqs : az_qs a < 9999) (hr : G.1 r = some (.inr (d, fs))) (hn : n0 ≤ G.2.1) (hs : s0 ≤ G.2.2) (hvs : vs.length = b) (hrm : az_cat rest ≤ 8) {H : Heap} {locs : List Loc} {ls : Array Slot} (hrel : az_rel Z D cy G H) (hS : va_S (fun q => Z ≤ q) Hs H locs) (hls : ls.size = az_nL y) {pc : Nat} (hdc : decode (az_mc y) pc = .ok (.invokevirtual j, 3)) (kk : ∀ (H1 : Heap) (locs1 : List Loc), az_rel Z D cy G1 H1 → va_S (fun q => Z ≤ q) Hs H1 locs1 → az_wg p l e R s m args below meth c Q n0 s0 G1 H1 locs1 (pc + 3) ls (v.toList ++ rest)) : az_wg p l e R s m args below meth c Q n0 s0 G H locs pc ls (vs.reverse ++ .ref r :: rest) := by
  obtain ⟨hx, hb, hml, hown, hts, -⟩ := X
  obtain ⟨m1, m2, m3, m4, m5, m6, m7, -, -⟩ := az_mok_spec hmok
  simp only [az_cal, Bool.and_eq_true, decide_eq_true_eq] at hcal
  obtain ⟨⟨⟨⟨⟨c1, c2⟩, c3⟩, c4⟩, c5⟩, c6⟩ := hcal
  have e1 : (G.2.1 - n0) + (G1.2.1 - G.2.1) = G1.2.1 - n0 := by have := h1.1; omega
  have e2 : (G.2.2 - s0) + (G1.2.2 - G.2.2) = G1.2.2 - s0 := by have := h1.2; omega
  have hf : (G.2.1 - n0) + (G1.2.1 - G.2.1) ≤ R.cells ∧ (G.2.2 - s0) + (G1.2.2 - G.2.2) ≤ R.slots := by have := h2.1; have := h2.2; omega
  have hrc := va_recv (q0 := 0) (ws := [(r, .inr (d, fs))]) hK.1 (az_P1 (hrel.2.2 _ _ hr).2) (az_clo d hd) rfl
  have hpre : PreV s H (az_own a) r (az_Pc Z D cy (.ref r :: vs) G) vs := ⟨az_blind, by rw [← hcd]; exact hrc, fun U hU hW => ⟨rfl, by rw [hU]; exact hrel, az_kk.warm hW hK⟩⟩
  have fin : va_Run p l e R s m args below meth c H locs (G.2.1 - n0) (G.2.2 - s0) (G1.2.1 - G.2.1) (G1.2.2 - G.2.2) (F0 m pc ls (vs.reverse ++ .ref r :: rest)) rest (az_Qc Z D cy v G1 (Value.ref r :: vs).toArray) (fun q => Z ≤ q) := by
    unfold az_lnk at hlnk
    split at hlnk
    · exact va_runV ⟨hx, hb, hml, hown, hts⟩ hM ⟨callB_of (az_np a) hts (az_in_wm a m1) rfl rfl rfl (hts _ m2) (hts _ (az_in_ws hlnk)) m6 ⟨by show az_fr a + 1 ≤ _; omega, by show 8 + (az_nL a + 11) + az_lo a ≤ _; omega⟩, hts _ (m4 hst), hts _ (m7 hqs)⟩ hpre rfl (hvs.trans c5) hls rfl (lv_room hrm) hdc hf
    · split at hlnk
      · rename_i en hen
        simp only [Bool.and_eq_true, decide_eq_true_eq] at hlnk
        obtain ⟨⟨q1, q2⟩, q3⟩ := hlnk
        have hnw := hK.2.1 en (List.mem_of_getElem? hen)
        rw [q1, q2, q3] at hnw
        exact va_runVN ⟨hx, hb, hml, hown, hts⟩ hM ⟨va_cnB (az_np a) hts (az_in_wm a m1) rfl rfl rfl hnw (hts _ m2) m6 ⟨by show az_fr a + 1 ≤ _; omega, by show 8 + (az_nL a + 11) + az_lo a ≤ _; omega⟩, hts _ (m4 hst), hts _ (m7 hqs)⟩ hpre rfl (hvs.trans c5) hls rfl (lv_room hrm) hdc hf
      · cases hlnk
  refine az_wcall (avs := (Value.ref r :: vs).toArray) fin hS fun H1 locs1 g1 g2 => ?_
  rw [e1, e2]
  exact kk H1 locs1 g1 g2
theorem az_callI (X : az_fx p y s m args meth c) (hK : az_kk D cy s) (hRf : az_fr y ≤ R.frames) (hRl : az_lo y ≤ R.locals) (hRc : G0.2.1 - n0 ≤ R.cells) (hRs : G0.2.2 - s0 ≤ R.slots) {a b cc' pos j r : Nat} {G G1 : az_H} {vs rest : List Value} {v : Option Value} (hM : az_met l Z D cy a (.ref r :: vs) G v G1) (h1 : az_up G G1) (h2 : az_up G1 G0) (hcal : az_cal y a b cc' = true) (hpos : pos < 10000) (hlnk : az_lnk y pos j a = true) (hst : az_is a = false) (hmok : az_mok a = true) (hnam : (az_nm a).name = "<init>") (hcc : cc' = 0) (hn : n0 ≤ G.2.1) (hs : s0 ≤ G.2.2) (hvs : vs.length = b) (hrm : az_cat rest ≤ 8) {H : Heap} {locs : List Loc} {ls : Array Slot} (hrel : az_rel Z D cy G H) (hS : va_S (fun q => Z ≤ q) Hs H locs) (hls : ls.size = az_nL y) {pc : Nat} (hdc : decode (az_mc y) pc = .ok (.invokespecial j, 3)) (kk : ∀ (H1 : Heap) (locs1 : List Loc), az_rel Z D cy G1 H1 → va_S (fun q => Z ≤ q) Hs H1 locs1 → az_wg p l e R s m args below meth c Q n0 s0 G1 H1 locs1 (pc + 3) ls (v.toList ++ rest)) : az_wg p l e R s m args below meth c Q n0 s0 G H locs pc ls (vs.reverse ++ .ref r :: rest) := by
  obtain ⟨hx, hb, hml, hown, hts, -⟩ := X
  obtain ⟨m1, m2, m3, m4, m5, m6, m7, -, -⟩ := az_mok_spec hmok
  simp only [az_cal, Bool.and_eq_true, decide_eq_true_eq] at hcal
  obtain ⟨⟨⟨⟨⟨c1, c2⟩, c3⟩, c4⟩, c5⟩, c6⟩ := hcal
  have e1 : (G.2.1 - n0) + (G1.2.1 - G.2.1) = G1.2.1 - n0 := by have := h1.1; omega
  have e2 : (G.2.2 - s0) + (G1.2.2 - G.2.2) = G1.2.2 - s0 := by have := h1.2; omega
  have hf : (G.2.1 - n0) + (G1.2.1 - G.2.1) ≤ R.cells ∧ (G.2.2 - s0) + (G1.2.2 - G.2.2) ≤ R.slots := by have := h2.1; have := h2.2; omega
  have hpre : PreS s H (az_Pc Z D cy (.ref r :: vs) G) (.ref r :: vs) := ⟨az_blind, fun U hU hW => ⟨rfl, by rw [hU]; exact hrel, az_kk.warm hW hK⟩⟩
  have hrt : az_rt a = none := by
    have h6 := c6.symm.trans hcc
    cases hq : az_rt a with
    | none => rfl
    | some t => rw [hq] at h6; cases t <;> simp [az_rk] at h6
  have m1' := m1
  unfold az_lnk at hlnk
  rw [if_pos hpos] at hlnk
  have hM' : Met l (az_nm a) (Cond.code (az_nm a) (az_mc a) (az_nL a) none :: az_ws) ({ frames := az_fr a, cells := G1.2.1 - G.2.1, slots := G1.2.2 - G.2.2, locals := az_lo a }) (az_Pc Z D cy (.ref r :: vs) G) (az_Qc Z D cy v G1) (G1.2.1 - G.2.1) (G1.2.2 - G.2.2) (fun q => Z ≤ q) := by
    have := hM
    unfold az_met az_wm at this
    rw [hrt] at this
    exact this
  have hin : GoodIn az_ws (Cond.code (az_nm a) (az_mc a) (az_nL a) none :: az_ws) := by
    have := az_in_wm a m1
    unfold az_wm at this
    rw [hrt] at this
    exact this
  have fin : va_Run p l e R s m args below meth c H locs (G.2.1 - n0) (G.2.2 - s0) (G1.2.1 - G.2.1) (G1.2.2 - G.2.2) (F0 m pc ls (vs.reverse ++ .ref r :: rest)) rest (az_Qc Z D cy v G1 (Value.ref r :: vs).toArray) (fun q => Z ≤ q) :=
    va_runI ⟨hx, hb, hml, hown, hts⟩ hM' ⟨callB_of (az_np a) hts hin rfl rfl rfl (hts _ m2) (hts _ (az_in_ws hlnk)) m6 ⟨by show az_fr a + 1 ≤ _; omega, by show 8 + (az_nL a + 11) + az_lo a ≤ _; omega⟩, hnam, hts _ (m4 hst)⟩ hpre rfl (hvs.trans c5) hls rfl (lv_room hrm) hdc hf
  refine az_wcall (avs := (Value.ref r :: vs).toArray) fin hS fun H1 locs1 g1 g2 => ?_
  rw [e1, e2]
  exact kk H1 locs1 g1 g2
end AZC
end
section
/-- a call's end, turned round -/
theorem az_cl_inv {q : Nat} {r : az_R} {K : List Value → az_H → az_R} {rest : List Value} {z : Option Value × az_H} (h : az_cl q r K rest = some z) : ∃ (v : Option Value) (G1 : az_H), r = some (v, G1) ∧ K (v.toList ++ rest) G1 = some z := by
  unfold az_cl at h
  split at h
  · unfold az_bV at h
    split at h
    · exact ⟨_, _, rfl, h⟩
    · cases h
  · unfold az_bI at h
    split at h
    · exact ⟨_, _, rfl, h⟩
    · cases h
  · unfold az_bL at h
    split at h
    · exact ⟨_, _, rfl, h⟩
    · cases h
  · unfold az_bR at h
    split at h
    · exact ⟨_, _, rfl, h⟩
    · exact ⟨_, _, rfl, h⟩
    · cases h
theorem az_cal_lt {y a n c : Nat} (h : az_cal y a n c = true) : 0 < a ∧ a < 190 := by
  simp only [az_cal, Bool.and_eq_true, decide_eq_true_eq] at h
  obtain ⟨⟨⟨⟨⟨c1, c2⟩, c3⟩, c4⟩, c5⟩, c6⟩ := h
  exact ⟨c1, c2⟩
set_option maxHeartbeats 8000000 in
set_option maxRecDepth 100000 in
/-- one step: what the abstract machine's step says holds of the machine -/
theorem az_snd {p : Program} {l : Launch} {e : Env} {R : Room} {s : State} {m : MethodId} {args : Array Value} {below : List Frame} {meth : Method} {c : Code} {Q : State → Prop} {y Z n0 s0 : Nat} {D : va_G} {cy : Nat → ClassId} {Hs : Heap} {v0 : Option Value} {G0 : az_H} (X : az_fx p y s m args meth c) (hK : az_kk D cy s) {sc : az_S} (hsc : y = 0 → va_X sc.1 sc.2.1 sc.2.2 s Hs ∧ sc.1 < Hs.size ∧ sc.1 < Z) (hRf : az_fr y ≤ R.frames) (hRl : az_lo y ≤ R.locals) (hRc : G0.2.1 - n0 ≤ R.cells) (hRs : G0.2.2 - s0 ≤ R.slots) (hret : ∀ (ins : Instr) (pc : Nat) (ls : Array Slot) (st : List Value) (H : Heap) (locs : List Loc), az_isret y ins st v0 → decode (az_mc y) pc = .ok (ins, 1) → az_rel Z D cy G0 H → va_S (fun q => Z ≤ q) Hs H locs → az_wg p l e R s m args below meth c Q n0 s0 G0 H locs pc ls st) {C : Nat → List Value → az_H → az_R} {K : Nat → az_L → List Value → az_H → az_R} (hC : ∀ a vs G v G', C a vs G = some (v, G') → az_up G G' ∧ (0 < a → a < 190 → az_met l Z D cy a vs G v G')) (hmok : ∀ a, 0 < a → a < 190 → az_mok a = true) (hKs : ∀ k L st G, K k L st G = some (v0, G0) → az_sc p l e R s m args below meth c Q y Z n0 s0 D cy Hs G0 G k L st) (i : az_I) (k : Nat) (hi : (az_pg y)[k]? = some i) (hck : az_ck1 y k = true) (L : az_L) (st : List Value) (G : az_H) (h : az_st sc (az_tw y) C K i k L st G = some (v0, G0)) (hn0 : n0 ≤ G.2.1) (hs0 : s0 ≤ G.2.2) {H : Heap} {locs : List Loc} {ls : Array Slot} (hrel : az_rel Z D cy G H) (hS : va_S (fun q => Z ≤ q) Hs H locs) (hL : az_pl ls (az_nL y) L) : az_wg p l e R s m args below meth c Q n0 s0 G H locs (az_bp y k) ls st := by
  obtain ⟨hx, hb, hml, hown, hts, hini⟩ := id X
  obtain ⟨pc, ins, a, b, c', d, x, z⟩ := i
  have hbp : az_bp y k = pc := by simp only [az_bp, hi]
  rw [hbp]
  simp only [az_ck1, hi] at hck
  split at hck
  rotate_left
  · cases hck
  rename_i i' pp hi' hpp
  cases hi'
  simp only [Bool.and_eq_true, decide_eq_true_eq, Bool.or_eq_true] at hck
  obtain ⟨⟨hdc, hln⟩, htr⟩ := hck
  cases ins with
  | iconst n =>
    have hln : az_bp y (k + 1) = pc + 1 := by simpa [az_sw1, az_il] using hln
    have hdc : decode (az_mc y) pc = .ok (.iconst n, 1) := by rw [hln, Nat.add_sub_cancel_left] at hdc; exact hdc
    simp only [az_st] at h
    have hv : Int32.ofInt n = x := by simpa [az_tr] using htr
    obtain ⟨-, hk⟩ := hKs _ _ _ _ h
    simp only [hln] at hk
    refine lv_iconst hx hb hdc hv ?_
    exact hk hn0 hs0 _ _ _ hrel hS hL
  | bipush n =>
    have hln : az_bp y (k + 1) = pc + 2 := by simpa [az_sw1, az_il] using hln
    have hdc : decode (az_mc y) pc = .ok (.bipush n, 2) := by rw [hln, Nat.add_sub_cancel_left] at hdc; exact hdc
    simp only [az_st] at h
    have hv : (Int8.ofInt n).toInt32 = x := by simpa [az_tr] using htr
    obtain ⟨-, hk⟩ := hKs _ _ _ _ h
    simp only [hln] at hk
    refine lv_bipush hx hb hdc hv ?_
    exact hk hn0 hs0 _ _ _ hrel hS hL
  | sipush n =>
    have hln : az_bp y (k + 1) = pc + 3 := by simpa [az_sw1, az_il] using hln
    have hdc : decode (az_mc y) pc = .ok (.sipush n, 3) := by rw [hln, Nat.add_sub_cancel_left] at hdc; exact hdc
    simp only [az_st] at h
    have hv : (Int16.ofInt n).toInt32 = x := by simpa [az_tr] using htr
    obtain ⟨-, hk⟩ := hKs _ _ _ _ h
    simp only [hln] at hk
    refine lv_sipush hx hb hdc hv ?_
    exact hk hn0 hs0 _ _ _ hrel hS hL
  | ldc n =>
    have hln : az_bp y (k + 1) = pc + 2 := by simpa [az_sw1, az_il] using hln
    have hdc : decode (az_mc y) pc = .ok (.ldc n, 2) := by rw [hln, Nat.add_sub_cancel_left] at hdc; exact hdc
    simp only [az_st] at h
    have hv : az_has pp (.constant (az_own y) n x) = true := htr
    obtain ⟨-, hk⟩ := hKs _ _ _ _ h
    simp only [hln] at hk
    refine lv_ldc hx hb hown (hts _ (az_in_ws hv)) hdc ?_
    exact hk hn0 hs0 _ _ _ hrel hS hL
  | ldc_w n =>
    have hln : az_bp y (k + 1) = pc + 3 := by simpa [az_sw1, az_il] using hln
    have hdc : decode (az_mc y) pc = .ok (.ldc_w n, 3) := by rw [hln, Nat.add_sub_cancel_left] at hdc; exact hdc
    simp only [az_st] at h
    have hv : az_has pp (.constant (az_own y) n x) = true := htr
    obtain ⟨-, hk⟩ := hKs _ _ _ _ h
    simp only [hln] at hk
    refine lv_ldcw hx hb hown (hts _ (az_in_ws hv)) hdc ?_
    exact hk hn0 hs0 _ _ _ hrel hS hL
  | ldc2_w n =>
    have hln : az_bp y (k + 1) = pc + 3 := by simpa [az_sw1, az_il] using hln
    have hdc : decode (az_mc y) pc = .ok (.ldc2_w n, 3) := by rw [hln, Nat.add_sub_cancel_left] at hdc; exact hdc
    simp only [az_st] at h
    have hv : az_has pp (.constantLong (az_own y) n z) = true := htr
    obtain ⟨-, hk⟩ := hKs _ _ _ _ h
    simp only [hln] at hk
    refine lv_ldc2 hx hb hown (hts _ (az_in_ws hv)) hdc ?_
    exact hk hn0 hs0 _ _ _ hrel hS hL
  | lconst n =>
    have hln : az_bp y (k + 1) = pc + 1 := by simpa [az_sw1, az_il] using hln
    have hdc : decode (az_mc y) pc = .ok (.lconst n, 1) := by rw [hln, Nat.add_sub_cancel_left] at hdc; exact hdc
    simp only [az_st] at h
    have hv : Int64.ofNat (n : Nat) = z := by simpa [az_tr] using htr
    obtain ⟨-, hk⟩ := hKs _ _ _ _ h
    simp only [hln] at hk
    refine lv_lconst hx hb hdc hv ?_
    exact hk hn0 hs0 _ _ _ hrel hS hL
  | aconst_null =>
    have hln : az_bp y (k + 1) = pc + 1 := by simpa [az_sw1, az_il] using hln
    have hdc : decode (az_mc y) pc = .ok (.aconst_null, 1) := by rw [hln, Nat.add_sub_cancel_left] at hdc; exact hdc
    simp only [az_st] at h
    obtain ⟨-, hk⟩ := hKs _ _ _ _ h
    simp only [hln] at hk
    refine lv_null hx hb hdc ?_
    exact hk hn0 hs0 _ _ _ hrel hS hL
  | iload_n q =>
    have hln : az_bp y (k + 1) = pc + 1 := by simpa [az_sw1, az_il] using hln
    have hdc : decode (az_mc y) pc = .ok (.iload_n q, 1) := by rw [hln, Nat.add_sub_cancel_left] at hdc; exact hdc
    simp only [az_st] at h
    have hq : (q : Nat) = a := by simpa [az_tr] using htr
    split at h
    rotate_left
    · cases h
    rename_i w hw
    obtain ⟨-, hk⟩ := hKs _ _ _ _ h
    simp only [hln] at hk
    refine lv_iload_n hx hb hdc hq (hL.at hw) ?_
    exact hk hn0 hs0 _ _ _ hrel hS hL
  | iload q =>
    have hln : az_bp y (k + 1) = pc + 2 := by simpa [az_sw1, az_il] using hln
    have hdc : decode (az_mc y) pc = .ok (.iload q, 2) := by rw [hln, Nat.add_sub_cancel_left] at hdc; exact hdc
    simp only [az_st] at h
    have hq : (q : Nat) = a := by simpa [az_tr] using htr
    split at h
    rotate_left
    · cases h
    rename_i w hw
    obtain ⟨-, hk⟩ := hKs _ _ _ _ h
    simp only [hln] at hk
    subst hq
    refine lv_iload hx hb hdc (hL.at hw) ?_
    exact hk hn0 hs0 _ _ _ hrel hS hL
  | lload_n q =>
    have hln : az_bp y (k + 1) = pc + 1 := by simpa [az_sw1, az_il] using hln
    have hdc : decode (az_mc y) pc = .ok (.lload_n q, 1) := by rw [hln, Nat.add_sub_cancel_left] at hdc; exact hdc
    simp only [az_st] at h
    have hq : (q : Nat) = a := by simpa [az_tr] using htr
    split at h
    rotate_left
    · cases h
    rename_i w hw
    obtain ⟨-, hk⟩ := hKs _ _ _ _ h
    simp only [hln] at hk
    refine lv_lload_n hx hb hdc hq (hL.at hw) ?_
    exact hk hn0 hs0 _ _ _ hrel hS hL
  | lload q =>
    have hln : az_bp y (k + 1) = pc + 2 := by simpa [az_sw1, az_il] using hln
    have hdc : decode (az_mc y) pc = .ok (.lload q, 2) := by rw [hln, Nat.add_sub_cancel_left] at hdc; exact hdc
    simp only [az_st] at h
    have hq : (q : Nat) = a := by simpa [az_tr] using htr
    split at h
    rotate_left
    · cases h
    rename_i w hw
    obtain ⟨-, hk⟩ := hKs _ _ _ _ h
    simp only [hln] at hk
    subst hq
    refine lv_lload hx hb hdc (hL.at hw) ?_
    exact hk hn0 hs0 _ _ _ hrel hS hL
  | aload_n q =>
    have hln : az_bp y (k + 1) = pc + 1 := by simpa [az_sw1, az_il] using hln
    have hdc : decode (az_mc y) pc = .ok (.aload_n q, 1) := by rw [hln, Nat.add_sub_cancel_left] at hdc; exact hdc
    simp only [az_st] at h
    have hq : (q : Nat) = a := by simpa [az_tr] using htr
    split at h
    · rename_i w hw
      obtain ⟨-, hk⟩ := hKs _ _ _ _ h
      simp only [hln] at hk
      refine lv_aload_n hx hb hdc hq (hL.at hw) ?_
      exact hk hn0 hs0 _ _ _ hrel hS hL
    · rename_i hw
      obtain ⟨-, hk⟩ := hKs _ _ _ _ h
      simp only [hln] at hk
      refine lv_aload_nN hx hb hdc hq (hL.at hw) ?_
      exact hk hn0 hs0 _ _ _ hrel hS hL
    · cases h
  | aload q =>
    have hln : az_bp y (k + 1) = pc + 2 := by simpa [az_sw1, az_il] using hln
    have hdc : decode (az_mc y) pc = .ok (.aload q, 2) := by rw [hln, Nat.add_sub_cancel_left] at hdc; exact hdc
    simp only [az_st] at h
    have hq : (q : Nat) = a := by simpa [az_tr] using htr
    subst hq
    split at h
    · rename_i w hw
      obtain ⟨-, hk⟩ := hKs _ _ _ _ h
      simp only [hln] at hk
      refine lv_aload hx hb hdc (hL.at hw) ?_
      exact hk hn0 hs0 _ _ _ hrel hS hL
    · rename_i hw
      obtain ⟨-, hk⟩ := hKs _ _ _ _ h
      simp only [hln] at hk
      refine lv_aloadN hx hb hdc (hL.at hw) ?_
      exact hk hn0 hs0 _ _ _ hrel hS hL
    · cases h
  | istore_n q =>
    have hln : az_bp y (k + 1) = pc + 1 := by simpa [az_sw1, az_il] using hln
    have hdc : decode (az_mc y) pc = .ok (.istore_n q, 1) := by rw [hln, Nat.add_sub_cancel_left] at hdc; exact hdc
    simp only [az_st] at h
    have hq : (q : Nat) = a ∧ a < az_nL y := by simpa [az_tr] using htr
    obtain ⟨hq, hlt⟩ := hq
    split at h
    rotate_left
    · cases h
    obtain ⟨-, hk⟩ := hKs _ _ _ _ h
    simp only [hln] at hk
    exact lv_istore_n (lv := az_as L) hx hb hdc hq hL hlt rfl (fun ls1 hl1 => hk hn0 hs0 _ _ _ hrel hS (az_pl.s1 hl1))
  | istore q =>
    have hln : az_bp y (k + 1) = pc + 2 := by simpa [az_sw1, az_il] using hln
    have hdc : decode (az_mc y) pc = .ok (.istore q, 2) := by rw [hln, Nat.add_sub_cancel_left] at hdc; exact hdc
    simp only [az_st] at h
    have hq : (q : Nat) = a ∧ a < az_nL y := by simpa [az_tr] using htr
    obtain ⟨hq, hlt⟩ := hq
    subst hq
    split at h
    rotate_left
    · cases h
    obtain ⟨-, hk⟩ := hKs _ _ _ _ h
    simp only [hln] at hk
    exact lv_istore (lv := az_as L) hx hb hdc hL hlt rfl (fun ls1 hl1 => hk hn0 hs0 _ _ _ hrel hS (az_pl.s1 hl1))
  | lstore_n q =>
    have hln : az_bp y (k + 1) = pc + 1 := by simpa [az_sw1, az_il] using hln
    have hdc : decode (az_mc y) pc = .ok (.lstore_n q, 1) := by rw [hln, Nat.add_sub_cancel_left] at hdc; exact hdc
    simp only [az_st] at h
    have hq : (q : Nat) = a ∧ a + 1 < az_nL y := by simpa [az_tr] using htr
    obtain ⟨hq, hlt⟩ := hq
    split at h
    rotate_left
    · cases h
    obtain ⟨-, hk⟩ := hKs _ _ _ _ h
    simp only [hln] at hk
    exact lv_lstore_n (lv := az_as L) hx hb hdc hq hL hlt rfl (fun ls1 hl1 => hk hn0 hs0 _ _ _ hrel hS (az_pl.s2 hl1))
  | lstore q =>
    have hln : az_bp y (k + 1) = pc + 2 := by simpa [az_sw1, az_il] using hln
    have hdc : decode (az_mc y) pc = .ok (.lstore q, 2) := by rw [hln, Nat.add_sub_cancel_left] at hdc; exact hdc
    simp only [az_st] at h
    have hq : (q : Nat) = a ∧ a + 1 < az_nL y := by simpa [az_tr] using htr
    obtain ⟨hq, hlt⟩ := hq
    subst hq
    split at h
    rotate_left
    · cases h
    obtain ⟨-, hk⟩ := hKs _ _ _ _ h
    simp only [hln] at hk
    exact lv_lstore (lv := az_as L) hx hb hdc hL hlt rfl (fun ls1 hl1 => hk hn0 hs0 _ _ _ hrel hS (az_pl.s2 hl1))
  | astore_n q =>
    have hln : az_bp y (k + 1) = pc + 1 := by simpa [az_sw1, az_il] using hln
    have hdc : decode (az_mc y) pc = .ok (.astore_n q, 1) := by rw [hln, Nat.add_sub_cancel_left] at hdc; exact hdc
    simp only [az_st] at h
    have hq : (q : Nat) = a ∧ a < az_nL y := by simpa [az_tr] using htr
    obtain ⟨hq, hlt⟩ := hq
    split at h
    · obtain ⟨-, hk⟩ := hKs _ _ _ _ h
      simp only [hln] at hk
      exact lv_astore_n (lv := az_as L) hx hb hdc hq hL hlt rfl (fun ls1 hl1 => hk hn0 hs0 _ _ _ hrel hS (az_pl.s1 hl1))
    · obtain ⟨-, hk⟩ := hKs _ _ _ _ h
      simp only [hln] at hk
      exact lv_astore_nN (lv := az_as L) hx hb hdc hq hL hlt rfl (fun ls1 hl1 => hk hn0 hs0 _ _ _ hrel hS (az_pl.s1 hl1))
    · cases h
  | astore q =>
    have hln : az_bp y (k + 1) = pc + 2 := by simpa [az_sw1, az_il] using hln
    have hdc : decode (az_mc y) pc = .ok (.astore q, 2) := by rw [hln, Nat.add_sub_cancel_left] at hdc; exact hdc
    simp only [az_st] at h
    have hq : (q : Nat) = a ∧ a < az_nL y := by simpa [az_tr] using htr
    obtain ⟨hq, hlt⟩ := hq
    subst hq
    split at h
    · obtain ⟨-, hk⟩ := hKs _ _ _ _ h
      simp only [hln] at hk
      exact lv_astore (lv := az_as L) hx hb hdc hL hlt rfl (fun ls1 hl1 => hk hn0 hs0 _ _ _ hrel hS (az_pl.s1 hl1))
    · obtain ⟨-, hk⟩ := hKs _ _ _ _ h
      simp only [hln] at hk
      exact lv_astoreN (lv := az_as L) hx hb hdc hL hlt rfl (fun ls1 hl1 => hk hn0 hs0 _ _ _ hrel hS (az_pl.s1 hl1))
    · cases h
  | iinc q n =>
    have hln : az_bp y (k + 1) = pc + 3 := by simpa [az_sw1, az_il] using hln
    have hdc : decode (az_mc y) pc = .ok (.iinc q n, 3) := by rw [hln, Nat.add_sub_cancel_left] at hdc; exact hdc
    simp only [az_st] at h
    have hq : (q = a ∧ a < az_nL y) ∧ Int32.ofInt n = x := by simpa [az_tr] using htr
    obtain ⟨⟨hq, hlt⟩, hv⟩ := hq
    subst hq
    split at h
    rotate_left
    · cases h
    rename_i w hw
    obtain ⟨-, hk⟩ := hKs _ _ _ _ h
    simp only [hln] at hk
    obtain ⟨j, hj⟩ := List.getElem?_of_mem ((az_as_mem (q := (q, Value.int w))).mpr hw)
    exact lv_iinc (v := w + x) (lv := az_as L) hx hb hdc hL hj (by rw [hv]) hlt rfl (fun ls1 hl1 => hk hn0 hs0 _ _ _ hrel hS (az_pl.s1 hl1))
  | iadd =>
    have hln : az_bp y (k + 1) = pc + 1 := by simpa [az_sw1, az_il] using hln
    have hdc : decode (az_mc y) pc = .ok (.iadd, 1) := by rw [hln, Nat.add_sub_cancel_left] at hdc; exact hdc
    simp only [az_st] at h
    split at h
    rotate_left
    · cases h
    obtain ⟨-, hk⟩ := hKs _ _ _ _ h
    simp only [hln] at hk
    refine lv_iadd hx hb hdc ?_
    exact hk hn0 hs0 _ _ _ hrel hS hL
  | isub =>
    have hln : az_bp y (k + 1) = pc + 1 := by simpa [az_sw1, az_il] using hln
    have hdc : decode (az_mc y) pc = .ok (.isub, 1) := by rw [hln, Nat.add_sub_cancel_left] at hdc; exact hdc
    simp only [az_st] at h
    split at h
    rotate_left
    · cases h
    obtain ⟨-, hk⟩ := hKs _ _ _ _ h
    simp only [hln] at hk
    refine lv_isub hx hb hdc ?_
    exact hk hn0 hs0 _ _ _ hrel hS hL
  | imul =>
    have hln : az_bp y (k + 1) = pc + 1 := by simpa [az_sw1, az_il] using hln
    have hdc : decode (az_mc y) pc = .ok (.imul, 1) := by rw [hln, Nat.add_sub_cancel_left] at hdc; exact hdc
    simp only [az_st] at h
    split at h
    rotate_left
    · cases h
    obtain ⟨-, hk⟩ := hKs _ _ _ _ h
    simp only [hln] at hk
    refine lv_imul hx hb hdc ?_
    exact hk hn0 hs0 _ _ _ hrel hS hL
  | iand =>
    have hln : az_bp y (k + 1) = pc + 1 := by simpa [az_sw1, az_il] using hln
    have hdc : decode (az_mc y) pc = .ok (.iand, 1) := by rw [hln, Nat.add_sub_cancel_left] at hdc; exact hdc
    simp only [az_st] at h
    split at h
    rotate_left
    · cases h
    obtain ⟨-, hk⟩ := hKs _ _ _ _ h
    simp only [hln] at hk
    refine lv_iand hx hb hdc ?_
    exact hk hn0 hs0 _ _ _ hrel hS hL
  | ior =>
    have hln : az_bp y (k + 1) = pc + 1 := by simpa [az_sw1, az_il] using hln
    have hdc : decode (az_mc y) pc = .ok (.ior, 1) := by rw [hln, Nat.add_sub_cancel_left] at hdc; exact hdc
    simp only [az_st] at h
    split at h
    rotate_left
    · cases h
    obtain ⟨-, hk⟩ := hKs _ _ _ _ h
    simp only [hln] at hk
    refine lv_ior hx hb hdc ?_
    exact hk hn0 hs0 _ _ _ hrel hS hL
  | ixor =>
    have hln : az_bp y (k + 1) = pc + 1 := by simpa [az_sw1, az_il] using hln
    have hdc : decode (az_mc y) pc = .ok (.ixor, 1) := by rw [hln, Nat.add_sub_cancel_left] at hdc; exact hdc
    simp only [az_st] at h
    split at h
    rotate_left
    · cases h
    obtain ⟨-, hk⟩ := hKs _ _ _ _ h
    simp only [hln] at hk
    refine lv_ixor hx hb hdc ?_
    exact hk hn0 hs0 _ _ _ hrel hS hL
  | ishl =>
    have hln : az_bp y (k + 1) = pc + 1 := by simpa [az_sw1, az_il] using hln
    have hdc : decode (az_mc y) pc = .ok (.ishl, 1) := by rw [hln, Nat.add_sub_cancel_left] at hdc; exact hdc
    simp only [az_st] at h
    split at h
    rotate_left
    · cases h
    obtain ⟨-, hk⟩ := hKs _ _ _ _ h
    simp only [hln] at hk
    refine lv_ishl hx hb hdc ?_
    exact hk hn0 hs0 _ _ _ hrel hS hL
  | ishr =>
    have hln : az_bp y (k + 1) = pc + 1 := by simpa [az_sw1, az_il] using hln
    have hdc : decode (az_mc y) pc = .ok (.ishr, 1) := by rw [hln, Nat.add_sub_cancel_left] at hdc; exact hdc
    simp only [az_st] at h
    split at h
    rotate_left
    · cases h
    obtain ⟨-, hk⟩ := hKs _ _ _ _ h
    simp only [hln] at hk
    refine lv_ishr hx hb hdc ?_
    exact hk hn0 hs0 _ _ _ hrel hS hL
  | ladd =>
    have hln : az_bp y (k + 1) = pc + 1 := by simpa [az_sw1, az_il] using hln
    have hdc : decode (az_mc y) pc = .ok (.ladd, 1) := by rw [hln, Nat.add_sub_cancel_left] at hdc; exact hdc
    simp only [az_st] at h
    split at h
    rotate_left
    · cases h
    obtain ⟨-, hk⟩ := hKs _ _ _ _ h
    simp only [hln] at hk
    refine lv_ladd hx hb hdc ?_
    exact hk hn0 hs0 _ _ _ hrel hS hL
  | lmul =>
    have hln : az_bp y (k + 1) = pc + 1 := by simpa [az_sw1, az_il] using hln
    have hdc : decode (az_mc y) pc = .ok (.lmul, 1) := by rw [hln, Nat.add_sub_cancel_left] at hdc; exact hdc
    simp only [az_st] at h
    split at h
    rotate_left
    · cases h
    obtain ⟨-, hk⟩ := hKs _ _ _ _ h
    simp only [hln] at hk
    refine lv_lmul hx hb hdc ?_
    exact hk hn0 hs0 _ _ _ hrel hS hL
  | land =>
    have hln : az_bp y (k + 1) = pc + 1 := by simpa [az_sw1, az_il] using hln
    have hdc : decode (az_mc y) pc = .ok (.land, 1) := by rw [hln, Nat.add_sub_cancel_left] at hdc; exact hdc
    simp only [az_st] at h
    split at h
    rotate_left
    · cases h
    obtain ⟨-, hk⟩ := hKs _ _ _ _ h
    simp only [hln] at hk
    refine lv_land hx hb hdc ?_
    exact hk hn0 hs0 _ _ _ hrel hS hL
  | lor =>
    have hln : az_bp y (k + 1) = pc + 1 := by simpa [az_sw1, az_il] using hln
    have hdc : decode (az_mc y) pc = .ok (.lor, 1) := by rw [hln, Nat.add_sub_cancel_left] at hdc; exact hdc
    simp only [az_st] at h
    split at h
    rotate_left
    · cases h
    obtain ⟨-, hk⟩ := hKs _ _ _ _ h
    simp only [hln] at hk
    refine lv_lor hx hb hdc ?_
    exact hk hn0 hs0 _ _ _ hrel hS hL
  | iushr =>
    have hln : az_bp y (k + 1) = pc + 1 := by simpa [az_sw1, az_il] using hln
    have hdc : decode (az_mc y) pc = .ok (.iushr, 1) := by rw [hln, Nat.add_sub_cancel_left] at hdc; exact hdc
    simp only [az_st] at h
    split at h
    rotate_left
    · cases h
    obtain ⟨-, hk⟩ := hKs _ _ _ _ h
    simp only [hln] at hk
    refine lv_iushr hx hb hdc rfl ?_
    exact hk hn0 hs0 _ _ _ hrel hS hL
  | lshl =>
    have hln : az_bp y (k + 1) = pc + 1 := by simpa [az_sw1, az_il] using hln
    have hdc : decode (az_mc y) pc = .ok (.lshl, 1) := by rw [hln, Nat.add_sub_cancel_left] at hdc; exact hdc
    simp only [az_st] at h
    split at h
    rotate_left
    · cases h
    obtain ⟨-, hk⟩ := hKs _ _ _ _ h
    simp only [hln] at hk
    refine lv_lshl hx hb hdc rfl ?_
    exact hk hn0 hs0 _ _ _ hrel hS hL
  | lshr =>
    have hln : az_bp y (k + 1) = pc + 1 := by simpa [az_sw1, az_il] using hln
    have hdc : decode (az_mc y) pc = .ok (.lshr, 1) := by rw [hln, Nat.add_sub_cancel_left] at hdc; exact hdc
    simp only [az_st] at h
    split at h
    rotate_left
    · cases h
    obtain ⟨-, hk⟩ := hKs _ _ _ _ h
    simp only [hln] at hk
    refine lv_lshr hx hb hdc rfl ?_
    exact hk hn0 hs0 _ _ _ hrel hS hL
  | lushr =>
    have hln : az_bp y (k + 1) = pc + 1 := by simpa [az_sw1, az_il] using hln
    have hdc : decode (az_mc y) pc = .ok (.lushr, 1) := by rw [hln, Nat.add_sub_cancel_left] at hdc; exact hdc
    simp only [az_st] at h
    split at h
    rotate_left
    · cases h
    obtain ⟨-, hk⟩ := hKs _ _ _ _ h
    simp only [hln] at hk
    refine lv_lushr hx hb hdc rfl ?_
    exact hk hn0 hs0 _ _ _ hrel hS hL
  | i2l =>
    have hln : az_bp y (k + 1) = pc + 1 := by simpa [az_sw1, az_il] using hln
    have hdc : decode (az_mc y) pc = .ok (.i2l, 1) := by rw [hln, Nat.add_sub_cancel_left] at hdc; exact hdc
    simp only [az_st] at h
    split at h
    rotate_left
    · cases h
    obtain ⟨-, hk⟩ := hKs _ _ _ _ h
    simp only [hln] at hk
    refine lv_i2l hx hb hdc rfl ?_
    exact hk hn0 hs0 _ _ _ hrel hS hL
  | lcmp =>
    have hln : az_bp y (k + 1) = pc + 1 := by simpa [az_sw1, az_il] using hln
    have hdc : decode (az_mc y) pc = .ok (.lcmp, 1) := by rw [hln, Nat.add_sub_cancel_left] at hdc; exact hdc
    simp only [az_st] at h
    split at h
    rotate_left
    · cases h
    obtain ⟨-, hk⟩ := hKs _ _ _ _ h
    simp only [hln] at hk
    refine W.lcmp hx hb hdc ?_
    exact hk hn0 hs0 _ _ _ hrel hS hL
  | idiv =>
    have hln : az_bp y (k + 1) = pc + 1 := by simpa [az_sw1, az_il] using hln
    have hdc : decode (az_mc y) pc = .ok (.idiv, 1) := by rw [hln, Nat.add_sub_cancel_left] at hdc; exact hdc
    simp only [az_st] at h
    split at h
    rotate_left
    · cases h
    unfold az_dv at h
    split at h
    · cases h
    rename_i hne
    obtain ⟨-, hk⟩ := hKs _ _ _ _ h
    simp only [hln] at hk
    refine lv_idiv hx hb hdc hne ?_
    exact hk hn0 hs0 _ _ _ hrel hS hL
  | irem =>
    have hln : az_bp y (k + 1) = pc + 1 := by simpa [az_sw1, az_il] using hln
    have hdc : decode (az_mc y) pc = .ok (.irem, 1) := by rw [hln, Nat.add_sub_cancel_left] at hdc; exact hdc
    simp only [az_st] at h
    split at h
    rotate_left
    · cases h
    unfold az_dv at h
    split at h
    · cases h
    rename_i hne
    obtain ⟨-, hk⟩ := hKs _ _ _ _ h
    simp only [hln] at hk
    refine lv_irem hx hb hdc hne ?_
    exact hk hn0 hs0 _ _ _ hrel hS hL
  | dup =>
    have hln : az_bp y (k + 1) = pc + 1 := by simpa [az_sw1, az_il] using hln
    have hdc : decode (az_mc y) pc = .ok (.dup, 1) := by rw [hln, Nat.add_sub_cancel_left] at hdc; exact hdc
    simp only [az_st] at h
    split at h
    · obtain ⟨-, hk⟩ := hKs _ _ _ _ h
      simp only [hln] at hk
      refine lv_dup hx hb hdc rfl ?_
      exact hk hn0 hs0 _ _ _ hrel hS hL
    · obtain ⟨-, hk⟩ := hKs _ _ _ _ h
      simp only [hln] at hk
      refine lv_dup hx hb hdc rfl ?_
      exact hk hn0 hs0 _ _ _ hrel hS hL
    · cases h
  | pop =>
    have hln : az_bp y (k + 1) = pc + 1 := by simpa [az_sw1, az_il] using hln
    have hdc : decode (az_mc y) pc = .ok (.pop, 1) := by rw [hln, Nat.add_sub_cancel_left] at hdc; exact hdc
    simp only [az_st] at h
    split at h
    rotate_left
    · cases h
    obtain ⟨-, hk⟩ := hKs _ _ _ _ h
    simp only [hln] at hk
    refine lv_pop hx hb hdc rfl ?_
    exact hk hn0 hs0 _ _ _ hrel hS hL
  | dup2 =>
    have hln : az_bp y (k + 1) = pc + 1 := by simpa [az_sw1, az_il] using hln
    have hdc : decode (az_mc y) pc = .ok (.dup2, 1) := by rw [hln, Nat.add_sub_cancel_left] at hdc; exact hdc
    simp only [az_st] at h
    split at h
    rotate_left
    · cases h
    obtain ⟨-, hk⟩ := hKs _ _ _ _ h
    simp only [hln] at hk
    refine lv_dup2_11 hx hb hdc rfl rfl ?_
    exact hk hn0 hs0 _ _ _ hrel hS hL
  | ifCond cond off =>
    have hlm : az_bp y (k + 1) = pc + 3 := by simpa [az_sw1, az_il] using hln
    have hdm : decode (az_mc y) pc = .ok (.ifCond cond off, 3) := by rw [hlm, Nat.add_sub_cancel_left] at hdc; exact hdc
    have ht : (pc : Int) + off = (az_bp y a : Int) := by simpa [az_tr] using htr
    cases cond with
    | eq =>
      simp only [az_st] at h
      split at h
      rotate_left
      · cases h
      refine lv_if_eq hx hb hdm ht (fun hc => ?_) (fun hc => ?_)
      · rw [if_pos hc] at h
        obtain ⟨-, hk⟩ := hKs _ _ _ _ h
        exact hk hn0 hs0 _ _ _ hrel hS hL
      · rw [if_neg hc] at h
        obtain ⟨-, hk⟩ := hKs _ _ _ _ h
        simp only [hlm] at hk
        exact hk hn0 hs0 _ _ _ hrel hS hL
    | ne =>
      simp only [az_st] at h
      split at h
      rotate_left
      · cases h
      refine lv_if_ne hx hb hdm ht (fun hc => ?_) (fun hc => ?_)
      · rw [if_pos hc] at h
        obtain ⟨-, hk⟩ := hKs _ _ _ _ h
        exact hk hn0 hs0 _ _ _ hrel hS hL
      · rw [if_neg (fun hc1 => hc1 hc)] at h
        obtain ⟨-, hk⟩ := hKs _ _ _ _ h
        simp only [hlm] at hk
        exact hk hn0 hs0 _ _ _ hrel hS hL
    | lt =>
      simp only [az_st] at h
      split at h
      rotate_left
      · cases h
      refine lv_if_lt hx hb hdm ht (fun hc => ?_) (fun hc => ?_)
      · rw [if_pos hc] at h
        obtain ⟨-, hk⟩ := hKs _ _ _ _ h
        exact hk hn0 hs0 _ _ _ hrel hS hL
      · rw [if_neg hc] at h
        obtain ⟨-, hk⟩ := hKs _ _ _ _ h
        simp only [hlm] at hk
        exact hk hn0 hs0 _ _ _ hrel hS hL
    | ge =>
      simp only [az_st] at h
      split at h
      rotate_left
      · cases h
      refine lv_if_ge hx hb hdm ht (fun hc => ?_) (fun hc => ?_)
      · rw [if_pos hc] at h
        obtain ⟨-, hk⟩ := hKs _ _ _ _ h
        exact hk hn0 hs0 _ _ _ hrel hS hL
      · rw [if_neg hc] at h
        obtain ⟨-, hk⟩ := hKs _ _ _ _ h
        simp only [hlm] at hk
        exact hk hn0 hs0 _ _ _ hrel hS hL
    | gt =>
      simp only [az_st] at h
      split at h
      rotate_left
      · cases h
      refine lv_if_gt hx hb hdm ht (fun hc => ?_) (fun hc => ?_)
      · rw [if_pos hc] at h
        obtain ⟨-, hk⟩ := hKs _ _ _ _ h
        exact hk hn0 hs0 _ _ _ hrel hS hL
      · rw [if_neg hc] at h
        obtain ⟨-, hk⟩ := hKs _ _ _ _ h
        simp only [hlm] at hk
        exact hk hn0 hs0 _ _ _ hrel hS hL
    | le =>
      simp only [az_st] at h
      split at h
      rotate_left
      · cases h
      refine lv_if_le hx hb hdm ht (fun hc => ?_) (fun hc => ?_)
      · rw [if_pos hc] at h
        obtain ⟨-, hk⟩ := hKs _ _ _ _ h
        exact hk hn0 hs0 _ _ _ hrel hS hL
      · rw [if_neg hc] at h
        obtain ⟨-, hk⟩ := hKs _ _ _ _ h
        simp only [hlm] at hk
        exact hk hn0 hs0 _ _ _ hrel hS hL
  | if_icmp cond off =>
    have hlm : az_bp y (k + 1) = pc + 3 := by simpa [az_sw1, az_il] using hln
    have hdm : decode (az_mc y) pc = .ok (.if_icmp cond off, 3) := by rw [hlm, Nat.add_sub_cancel_left] at hdc; exact hdc
    have ht : (pc : Int) + off = (az_bp y a : Int) := by simpa [az_tr] using htr
    cases cond with
    | eq =>
      simp only [az_st] at h
      split at h
      rotate_left
      · cases h
      refine lv_icmp_eq hx hb hdm ht (fun hc => ?_) (fun hc => ?_)
      · rw [if_pos hc] at h
        obtain ⟨-, hk⟩ := hKs _ _ _ _ h
        exact hk hn0 hs0 _ _ _ hrel hS hL
      · rw [if_neg hc] at h
        obtain ⟨-, hk⟩ := hKs _ _ _ _ h
        simp only [hlm] at hk
        exact hk hn0 hs0 _ _ _ hrel hS hL
    | ne =>
      simp only [az_st] at h
      split at h
      rotate_left
      · cases h
      refine lv_icmp_ne hx hb hdm ht (fun hc => ?_) (fun hc => ?_)
      · rw [if_pos hc] at h
        obtain ⟨-, hk⟩ := hKs _ _ _ _ h
        exact hk hn0 hs0 _ _ _ hrel hS hL
      · rw [if_neg (fun hc1 => hc1 hc)] at h
        obtain ⟨-, hk⟩ := hKs _ _ _ _ h
        simp only [hlm] at hk
        exact hk hn0 hs0 _ _ _ hrel hS hL
    | lt =>
      simp only [az_st] at h
      split at h
      rotate_left
      · cases h
      refine lv_icmp_lt hx hb hdm ht (fun hc => ?_) (fun hc => ?_)
      · rw [if_pos hc] at h
        obtain ⟨-, hk⟩ := hKs _ _ _ _ h
        exact hk hn0 hs0 _ _ _ hrel hS hL
      · rw [if_neg hc] at h
        obtain ⟨-, hk⟩ := hKs _ _ _ _ h
        simp only [hlm] at hk
        exact hk hn0 hs0 _ _ _ hrel hS hL
    | ge =>
      simp only [az_st] at h
      split at h
      rotate_left
      · cases h
      refine lv_icmp_ge hx hb hdm ht (fun hc => ?_) (fun hc => ?_)
      · rw [if_pos hc] at h
        obtain ⟨-, hk⟩ := hKs _ _ _ _ h
        exact hk hn0 hs0 _ _ _ hrel hS hL
      · rw [if_neg hc] at h
        obtain ⟨-, hk⟩ := hKs _ _ _ _ h
        simp only [hlm] at hk
        exact hk hn0 hs0 _ _ _ hrel hS hL
    | gt =>
      simp only [az_st] at h
      split at h
      rotate_left
      · cases h
      refine lv_icmp_gt hx hb hdm ht (fun hc => ?_) (fun hc => ?_)
      · rw [if_pos hc] at h
        obtain ⟨-, hk⟩ := hKs _ _ _ _ h
        exact hk hn0 hs0 _ _ _ hrel hS hL
      · rw [if_neg hc] at h
        obtain ⟨-, hk⟩ := hKs _ _ _ _ h
        simp only [hlm] at hk
        exact hk hn0 hs0 _ _ _ hrel hS hL
    | le =>
      simp only [az_st] at h
      split at h
      rotate_left
      · cases h
      refine lv_icmp_le hx hb hdm ht (fun hc => ?_) (fun hc => ?_)
      · rw [if_pos hc] at h
        obtain ⟨-, hk⟩ := hKs _ _ _ _ h
        exact hk hn0 hs0 _ _ _ hrel hS hL
      · rw [if_neg hc] at h
        obtain ⟨-, hk⟩ := hKs _ _ _ _ h
        simp only [hlm] at hk
        exact hk hn0 hs0 _ _ _ hrel hS hL
  | goto off =>
    have hln : az_bp y (k + 1) = pc + 3 := by simpa [az_sw1, az_il] using hln
    have hdc : decode (az_mc y) pc = .ok (.goto off, 3) := by rw [hln, Nat.add_sub_cancel_left] at hdc; exact hdc
    simp only [az_st] at h
    have ht : (pc : Int) + off = (az_bp y a : Int) := by simpa [az_tr] using htr
    obtain ⟨-, hk⟩ := hKs _ _ _ _ h
    refine lv_goto hx hb hdc ht ?_
    exact hk hn0 hs0 _ _ _ hrel hS hL
  | ifnull off =>
    have hln : az_bp y (k + 1) = pc + 3 := by simpa [az_sw1, az_il] using hln
    have hdc : decode (az_mc y) pc = .ok (.ifnull off, 3) := by rw [hln, Nat.add_sub_cancel_left] at hdc; exact hdc
    simp only [az_st] at h
    have ht : (pc : Int) + off = (az_bp y a : Int) := by simpa [az_tr] using htr
    split at h
    · obtain ⟨-, hk⟩ := hKs _ _ _ _ h
      simp only [hln] at hk
      refine lv_ifnull hx hb hdc ?_
      exact hk hn0 hs0 _ _ _ hrel hS hL
    · obtain ⟨-, hk⟩ := hKs _ _ _ _ h
      refine lv_ifnullN hx hb hdc ht ?_
      exact hk hn0 hs0 _ _ _ hrel hS hL
    · cases h
  | ifnonnull off =>
    have hln : az_bp y (k + 1) = pc + 3 := by simpa [az_sw1, az_il] using hln
    have hdc : decode (az_mc y) pc = .ok (.ifnonnull off, 3) := by rw [hln, Nat.add_sub_cancel_left] at hdc; exact hdc
    simp only [az_st] at h
    have ht : (pc : Int) + off = (az_bp y a : Int) := by simpa [az_tr] using htr
    split at h
    · obtain ⟨-, hk⟩ := hKs _ _ _ _ h
      refine lv_ifnonnull hx hb hdc ht ?_
      exact hk hn0 hs0 _ _ _ hrel hS hL
    · obtain ⟨-, hk⟩ := hKs _ _ _ _ h
      simp only [hln] at hk
      refine lv_ifnonnullN hx hb hdc ?_
      exact hk hn0 hs0 _ _ _ hrel hS hL
    · cases h
  | tableswitch df lo hh offs =>
    simp only [az_st] at h
    split at h
    rotate_left
    · cases h
    rename_i w st'
    obtain ⟨-, hk⟩ := hKs _ _ _ _ h
    simp only [az_tr, Bool.and_eq_true, decide_eq_true_eq, List.all_eq_true] at htr
    obtain ⟨⟨⟨t1, t2⟩, t3⟩, t4⟩ := htr
    by_cases hw : w.toInt < lo ∨ hh < w.toInt
    · refine lv_tableOut hx hb hdc hw t3 ?_
      have e1 : az_sw (az_tw y a) lo w = (az_tw y a).getLastD 0 := by
        unfold az_sw
        rw [if_pos]
        omega
      rw [e1] at hk
      exact hk hn0 hs0 _ _ _ hrel hS hL
    · have e1 : az_sw (az_tw y a) lo w = (az_tw y a).getD (w.toInt - lo).toNat 0 := by
        unfold az_sw
        rw [if_neg]
        omega
      have t5 := t4 (w.toInt - lo).toNat (List.mem_range.mpr (by omega))
      split at t5
      rotate_left
      · cases t5
      rename_i off hoff
      have t6 := of_decide_eq_true t5
      refine lv_tableIn hx hb hdc (fun q => hw (Or.inl q)) (fun q => hw (Or.inr q)) hoff t6 ?_
      rw [e1] at hk
      exact hk hn0 hs0 _ _ _ hrel hS hL
  | getfield j =>
    have hln : az_bp y (k + 1) = pc + 3 := by simpa [az_sw1, az_il] using hln
    have hdc : decode (az_mc y) pc = .ok (.getfield j, 3) := by rw [hln, Nat.add_sub_cancel_left] at hdc; exact hdc
    simp only [az_st] at h
    simp only [az_tr, Bool.and_eq_true, decide_eq_true_eq] at htr
    obtain ⟨⟨t1, t2⟩, t3⟩ := htr
    split at h
    rotate_left
    · cases h
    rename_i r st1
    split at h
    · unfold az_fI at h
      split at h
      rotate_left
      · cases h
      rename_i c1 fs hr
      split at h
      rotate_left
      · cases h
      rename_i hc1
      subst hc1
      split at h
      rotate_left
      · cases h
      rename_i w hw
      obtain ⟨-, hk⟩ := hKs _ _ _ _ h
      simp only [hln] at hk
      refine az_wget hx hb hts hown hK hrel hr t1 t2 (az_in_ws t3) hw hdc ?_
      exact hk hn0 hs0 _ _ _ hrel hS hL
    · unfold az_fR at h
      split at h
      rotate_left
      · cases h
      rename_i c1 fs hr
      split at h
      rotate_left
      · cases h
      rename_i hc1
      subst hc1
      split at h
      rotate_left
      · cases h
      rename_i w hw
      obtain ⟨-, hk⟩ := hKs _ _ _ _ h
      simp only [hln] at hk
      refine az_wget hx hb hts hown hK hrel hr t1 t2 (az_in_ws t3) hw hdc ?_
      exact hk hn0 hs0 _ _ _ hrel hS hL
  | putfield j =>
    have hln : az_bp y (k + 1) = pc + 3 := by simpa [az_sw1, az_il] using hln
    have hdc : decode (az_mc y) pc = .ok (.putfield j, 3) := by rw [hln, Nat.add_sub_cancel_left] at hdc; exact hdc
    simp only [az_st] at h
    simp only [az_tr, Bool.and_eq_true, decide_eq_true_eq] at htr
    obtain ⟨⟨⟨⟨t1, t2⟩, t3⟩, t4⟩, t5⟩ := htr
    have t4 : ((az_C a).2.1 b).2.2.2 = true → (az_nm y).name = "<init>" ∧ ((az_C a).2.1 b).1 = az_own y := by
      intro hf
      rw [if_pos hf] at t4
      simpa using t4
    split at h
    · rename_i w r st1
      split at h
      · have t6 : az_tf a b = .int := by simpa using t5
        unfold az_pt at h
        split at h
        rotate_left
        · cases h
        rename_i c1 fs hr
        split at h
        rotate_left
        · cases h
        rename_i hc1
        obtain ⟨hc1, hl⟩ := hc1
        subst hc1
        obtain ⟨-, hk⟩ := hKs _ _ _ _ h
        simp only [hln] at hk
        exact az_wput hx hb hts hown hK hrel hS hr t1 t2 (az_in_ws t3) (fun hf => ⟨hini (t4 hf).1, (t4 hf).2⟩) (by rw [t6]; rfl) (by rw [t6]; rfl) hl hdc fun H1 locs1 g1 g2 => hk hn0 hs0 _ _ _ g1 g2 hL
      · have t6 : az_tf a b = .boolean := by simpa using t5
        unfold az_w1 at h
        split at h
        rotate_left
        · cases h
        rename_i h01
        unfold az_pt at h
        split at h
        rotate_left
        · cases h
        rename_i c1 fs hr
        split at h
        rotate_left
        · cases h
        rename_i hc1
        obtain ⟨hc1, hl⟩ := hc1
        subst hc1
        obtain ⟨-, hk⟩ := hKs _ _ _ _ h
        simp only [hln] at hk
        exact az_wput hx hb hts hown hK hrel hS hr t1 t2 (az_in_ws t3) (fun hf => ⟨hini (t4 hf).1, (t4 hf).2⟩) (by rw [t6]; rcases h01 with rfl | rfl <;> rfl) (by rw [t6]; rcases h01 with rfl | rfl <;> rfl) hl hdc fun H1 locs1 g1 g2 => hk hn0 hs0 _ _ _ g1 g2 hL
      · cases h
    · rename_i w r st1
      split at h
      · have t6 : az_isr (az_tf a b) = true := by simpa using t5
        have t7 : ∀ q : Nat, narrow (az_tf a b) (.ref q) = .ref q ∧ fits (az_tf a b) (.ref q) = true := by
          intro q
          cases hty : az_tf a b <;> simp [hty, az_isr] at t6 <;> exact ⟨rfl, rfl⟩
        unfold az_pt at h
        split at h
        rotate_left
        · cases h
        rename_i c1 fs hr
        split at h
        rotate_left
        · cases h
        rename_i hc1
        obtain ⟨hc1, hl⟩ := hc1
        subst hc1
        obtain ⟨-, hk⟩ := hKs _ _ _ _ h
        simp only [hln] at hk
        exact az_wput hx hb hts hown hK hrel hS hr t1 t2 (az_in_ws t3) (fun hf => ⟨hini (t4 hf).1, (t4 hf).2⟩) (t7 w).1 (t7 w).2 hl hdc fun H1 locs1 g1 g2 => hk hn0 hs0 _ _ _ g1 g2 hL
      · cases h
    · cases h
  | arraylength =>
    have hln : az_bp y (k + 1) = pc + 1 := by simpa [az_sw1, az_il] using hln
    have hdc : decode (az_mc y) pc = .ok (.arraylength, 1) := by rw [hln, Nat.add_sub_cancel_left] at hdc; exact hdc
    simp only [az_st] at h
    split at h
    rotate_left
    · cases h
    rename_i r st1
    split at h
    · rename_i hb9
      subst hb9
      have hy0 : y = 0 := by simpa [az_tr] using htr
      obtain ⟨s1, s2, s3⟩ := hsc hy0
      split at h
      rotate_left
      · cases h
      rename_i hr
      subst hr
      obtain ⟨-, hk⟩ := hKs _ _ _ _ h
      simp only [hln] at hk
      refine va_slen hx hb s1 s2 (Nat.not_le.mpr s3) hS hdc ?_
      exact hk hn0 hs0 _ _ _ hrel hS hL
    · rename_i hb9
      have hb4 : b < 4 := by simpa [az_tr, hb9] using htr
      unfold az_ln at h
      split at h
      rotate_left
      · cases h
      rename_i c1 n f hr
      split at h
      rotate_left
      · cases h
      rename_i hc1
      subst hc1
      obtain ⟨-, hk⟩ := hKs _ _ _ _ h
      simp only [hln] at hk
      refine az_waln hx hb hK hrel hb4 hr hdc ?_
      exact hk hn0 hs0 _ _ _ hrel hS hL
  | iaload =>
    have hln : az_bp y (k + 1) = pc + 1 := by simpa [az_sw1, az_il] using hln
    have hdc : decode (az_mc y) pc = .ok (.iaload, 1) := by rw [hln, Nat.add_sub_cancel_left] at hdc; exact hdc
    simp only [az_st] at h
    split at h
    rotate_left
    · cases h
    rename_i j r st1
    split at h
    · rename_i hb9
      subst hb9
      have hy0 : y = 0 := by simpa [az_tr] using htr
      obtain ⟨s1, s2, s3⟩ := hsc hy0
      split at h
      rotate_left
      · cases h
      rename_i hr
      obtain ⟨hr, hin⟩ := hr
      subst hr
      obtain ⟨-, hk⟩ := hKs _ _ _ _ h
      simp only [hln] at hk
      refine va_sld hx hb s1 s2 (Nat.not_le.mpr s3) hS hin hdc ?_
      exact hk hn0 hs0 _ _ _ hrel hS hL
    · unfold az_aI at h
      split at h
      rotate_left
      · cases h
      rename_i c1 n f hr
      split at h
      rotate_left
      · cases h
      rename_i hc1
      obtain ⟨hc1, hin⟩ := hc1
      subst hc1
      obtain ⟨-, hk⟩ := hKs _ _ _ _ h
      simp only [hln] at hk
      refine az_wial hx hb hK hrel hr hin hdc ?_
      exact hk hn0 hs0 _ _ _ hrel hS hL
  | baload =>
    have hln : az_bp y (k + 1) = pc + 1 := by simpa [az_sw1, az_il] using hln
    have hdc : decode (az_mc y) pc = .ok (.baload, 1) := by rw [hln, Nat.add_sub_cancel_left] at hdc; exact hdc
    simp only [az_st] at h
    split at h
    rotate_left
    · cases h
    rename_i j r st1
    unfold az_aI at h
    split at h
    rotate_left
    · cases h
    rename_i c1 n f hr
    split at h
    rotate_left
    · cases h
    rename_i hc1
    obtain ⟨hc1, hin⟩ := hc1
    subst hc1
    obtain ⟨-, hk⟩ := hKs _ _ _ _ h
    simp only [hln] at hk
    refine az_wzal hx hb hK hrel hr hin hdc ?_
    exact hk hn0 hs0 _ _ _ hrel hS hL
  | aaload =>
    have hln : az_bp y (k + 1) = pc + 1 := by simpa [az_sw1, az_il] using hln
    have hdc : decode (az_mc y) pc = .ok (.aaload, 1) := by rw [hln, Nat.add_sub_cancel_left] at hdc; exact hdc
    simp only [az_st] at h
    have hkd : b = 2 ∨ b = 3 := by simpa [az_tr] using htr
    split at h
    rotate_left
    · cases h
    rename_i j r st1
    unfold az_aR at h
    split at h
    rotate_left
    · cases h
    rename_i c1 n f hr
    split at h
    rotate_left
    · cases h
    rename_i hc1
    obtain ⟨hc1, hin⟩ := hc1
    subst hc1
    split at h
    rotate_left
    · cases h
    rename_i q hq
    obtain ⟨-, hk⟩ := hKs _ _ _ _ h
    simp only [hln] at hk
    refine az_waal hx hb hK hrel hkd hr hin hq hdc ?_
    exact hk hn0 hs0 _ _ _ hrel hS hL
  | iastore =>
    have hln : az_bp y (k + 1) = pc + 1 := by simpa [az_sw1, az_il] using hln
    have hdc : decode (az_mc y) pc = .ok (.iastore, 1) := by rw [hln, Nat.add_sub_cancel_left] at hdc; exact hdc
    simp only [az_st] at h
    split at h
    rotate_left
    · cases h
    rename_i w j r st1
    unfold az_sI at h
    split at h
    rotate_left
    · cases h
    rename_i c1 n f hr
    split at h
    rotate_left
    · cases h
    rename_i hc1
    obtain ⟨hc1, hin⟩ := hc1
    subst hc1
    obtain ⟨-, hk⟩ := hKs _ _ _ _ h
    simp only [hln] at hk
    exact az_wias hx hb hK hrel hS hr hin hdc fun H1 locs1 g1 g2 => hk hn0 hs0 _ _ _ g1 g2 hL
  | bastore =>
    have hln : az_bp y (k + 1) = pc + 1 := by simpa [az_sw1, az_il] using hln
    have hdc : decode (az_mc y) pc = .ok (.bastore, 1) := by rw [hln, Nat.add_sub_cancel_left] at hdc; exact hdc
    simp only [az_st] at h
    split at h
    rotate_left
    · cases h
    rename_i w j r st1
    unfold az_w1 at h
    split at h
    rotate_left
    · cases h
    rename_i h01
    unfold az_sI at h
    split at h
    rotate_left
    · cases h
    rename_i c1 n f hr
    split at h
    rotate_left
    · cases h
    rename_i hc1
    obtain ⟨hc1, hin⟩ := hc1
    subst hc1
    obtain ⟨-, hk⟩ := hKs _ _ _ _ h
    simp only [hln] at hk
    exact az_wzas hx hb hK hrel hS hr h01 hin hdc fun H1 locs1 g1 g2 => hk hn0 hs0 _ _ _ g1 g2 hL
  | aastore =>
    have hln : az_bp y (k + 1) = pc + 1 := by simpa [az_sw1, az_il] using hln
    have hdc : decode (az_mc y) pc = .ok (.aastore, 1) := by rw [hln, Nat.add_sub_cancel_left] at hdc; exact hdc
    simp only [az_st] at h
    have hkd : b = 2 ∨ b = 3 := by simpa [az_tr] using htr
    split at h
    rotate_left
    · cases h
    rename_i v j r st1
    unfold az_sR at h
    split at h
    rotate_left
    · cases h
    rename_i c1 n f hr
    split at h
    rotate_left
    · cases h
    rename_i cv vs hv
    split at h
    rotate_left
    · cases h
    rename_i hc1
    obtain ⟨hc1, hc2, hin⟩ := hc1
    subst hc1
    subst hc2
    obtain ⟨-, hk⟩ := hKs _ _ _ _ h
    simp only [hln] at hk
    exact az_waas hx hb hK hrel hS hkd hr hv hin hdc fun H1 locs1 g1 g2 => hk hn0 hs0 _ _ _ g1 g2 hL
  | new j =>
    have hln : az_bp y (k + 1) = pc + 3 := by simpa [az_sw1, az_il] using hln
    have hdc : decode (az_mc y) pc = .ok (.new j, 3) := by rw [hln, Nat.add_sub_cancel_left] at hdc; exact hdc
    simp only [az_st] at h
    simp only [az_tr, Bool.and_eq_true, decide_eq_true_eq] at htr
    obtain ⟨t1, t2⟩ := htr
    unfold az_nO at h
    obtain ⟨hu, hk⟩ := hKs _ _ _ _ h
    simp only [hln] at hk
    have u1 := hu.1
    have u2 := hu.2
    simp only [az_psh] at u1 u2
    have e1 : (G.2.1 - n0) + 1 = G.2.1 + 1 - n0 := by omega
    have e2 : (G.2.2 - s0) + az_nf a = G.2.2 + az_nf a - s0 := by omega
    refine az_wnew hx hb hts hown hK hrel hS t1 (az_in_ws t2) (by omega) (by omega) hdc fun H1 g1 g2 => ?_
    rw [e1, e2]
    exact hk (Nat.le_succ_of_le hn0) (Nat.le_add_right_of_le hs0) _ _ _ g1 g2 hL
  | newarray t =>
    have hln : az_bp y (k + 1) = pc + 2 := by simpa [az_sw1, az_il] using hln
    have hdc : decode (az_mc y) pc = .ok (.newarray t, 2) := by rw [hln, Nat.add_sub_cancel_left] at hdc; exact hdc
    simp only [az_st] at h
    have ht : (t = .int ∧ b = 0) ∨ (t = .boolean ∧ b = 1) := by simpa [az_tr] using htr
    split at h
    rotate_left
    · cases h
    rename_i n st1
    unfold az_nA at h
    split at h
    rotate_left
    · cases h
    rename_i hn
    obtain ⟨hu, hk⟩ := hKs _ _ _ _ h
    simp only [hln] at hk
    have u1 := hu.1
    have u2 := hu.2
    simp only [az_psh] at u1 u2
    have e1 : (G.2.1 - n0) + 1 = G.2.1 + 1 - n0 := by omega
    have e2 : (G.2.2 - s0) + n.toNatClampNeg = G.2.2 + n.toNatClampNeg - s0 := by omega
    refine az_wnwa hx hb hts hK hrel hS ht hn.1 hn.2 (by omega) (by omega) hdc fun H1 g1 g2 => ?_
    rw [e1, e2]
    exact hk (Nat.le_succ_of_le hn0) (Nat.le_add_right_of_le hs0) _ _ _ g1 g2 hL
  | anewarray j =>
    have hln : az_bp y (k + 1) = pc + 3 := by simpa [az_sw1, az_il] using hln
    have hdc : decode (az_mc y) pc = .ok (.anewarray j, 3) := by rw [hln, Nat.add_sub_cancel_left] at hdc; exact hdc
    simp only [az_st] at h
    simp only [az_tr, Bool.and_eq_true] at htr
    have hkd : b = 2 ∨ b = 3 := by simpa using htr.1
    split at h
    rotate_left
    · cases h
    rename_i n st1
    unfold az_nR at h
    split at h
    rotate_left
    · cases h
    rename_i hn
    obtain ⟨hu, hk⟩ := hKs _ _ _ _ h
    simp only [hln] at hk
    have u1 := hu.1
    have u2 := hu.2
    simp only [az_psh] at u1 u2
    have e1 : (G.2.1 - n0) + 1 = G.2.1 + 1 - n0 := by omega
    have e2 : (G.2.2 - s0) + n.toNatClampNeg = G.2.2 + n.toNatClampNeg - s0 := by omega
    refine az_wnwq hx hb hts hown hK hrel hS hkd (az_in_ws htr.2) hn.1 hn.2 (by omega) (by omega) hdc fun H1 g1 g2 => ?_
    rw [e1, e2]
    exact hk (Nat.le_succ_of_le hn0) (Nat.le_add_right_of_le hs0) _ _ _ g1 g2 hL
  | invokestatic j =>
    have hln : az_bp y (k + 1) = pc + 3 := by simpa [az_sw1, az_il] using hln
    have hdc : decode (az_mc y) pc = .ok (.invokestatic j, 3) := by rw [hln, Nat.add_sub_cancel_left] at hdc; exact hdc
    simp only [az_st] at h
    split at h
    · rename_i hc8
      subst hc8
      simp only [az_tr, if_true, Bool.and_eq_true, decide_eq_true_eq] at htr
      obtain ⟨⟨t1, t2⟩, t3⟩ := htr
      split at h
      rotate_left
      · cases h
      rename_i w v st1
      unfold az_rm at h
      split at h
      rotate_left
      · cases h
      rename_i hrm
      obtain ⟨hu, hk⟩ := hKs _ _ _ _ h
      simp only [hln] at hk
      have u1 := hu.1
      have u2 := hu.2
      unfold az_cat at hrm
      exact va_mmax hx hb (hml.trans hL.1.symm) hown (hts _ (az_in_ws t1)) (hts _ az_mx1) (hts _ az_mx2) (hts _ az_mx3) (by omega) (by omega) (by omega) (by omega) hdc (hk hn0 hs0 _ _ _ hrel hS hL)
    · rename_i hc8
      simp only [az_tr, hc8, if_false, Bool.and_eq_true] at htr
      obtain ⟨⟨t1, t2⟩, t3⟩ := htr
      split at h
      · cases h
      rename_i hlen
      unfold az_rm at h
      split at h
      rotate_left
      · cases h
      rename_i hrm
      obtain ⟨v, G1, g1, g2⟩ := az_cl_inv h
      obtain ⟨u1, hM⟩ := hC _ _ _ _ _ g1
      obtain ⟨u2, hk⟩ := hKs _ _ _ _ g2
      simp only [hln] at hk
      obtain ⟨a0, a1⟩ := az_cal_lt t1
      have hst : (st.take b).reverse.reverse ++ st.drop b = st := by rw [List.reverse_reverse, List.take_append_drop]
      rw [← hst]
      exact az_callS (y := y) X hK hRf hRl hRc hRs (hM a0 a1) u1 u2 t1 t2 t3 (hmok a a0 a1) hn0 hs0 (by rw [List.length_reverse, List.length_take]; omega) hrm hrel hS hL.1 hdc fun H1 locs1 q1 q2 => hk (Nat.le_trans hn0 u1.1) (Nat.le_trans hs0 u1.2) _ _ _ q1 q2 hL
  | invokevirtual j =>
    have hln : az_bp y (k + 1) = pc + 3 := by simpa [az_sw1, az_il] using hln
    have hdc : decode (az_mc y) pc = .ok (.invokevirtual j, 3) := by rw [hln, Nat.add_sub_cancel_left] at hdc; exact hdc
    simp only [az_st] at h
    simp only [az_tr, Bool.and_eq_true, decide_eq_true_eq, Bool.not_eq_true'] at htr
    obtain ⟨⟨⟨⟨⟨t1, t2⟩, t3⟩, t4⟩, t5⟩, t6⟩ := htr
    split at h
    · cases h
    rename_i hlen
    unfold az_rm at h
    split at h
    rotate_left
    · cases h
    rename_i hrm
    split at h
    rotate_left
    · cases h
    rename_i r vs hrv
    unfold az_rc at h
    split at h
    rotate_left
    · cases h
    rename_i cr fs hr
    split at h
    rotate_left
    · cases h
    rename_i hcr
    subst hcr
    obtain ⟨v, G1, g1, g2⟩ := az_cl_inv h
    obtain ⟨u1, hM⟩ := hC _ _ _ _ _ g1
    obtain ⟨u2, hk⟩ := hKs _ _ _ _ g2
    simp only [hln] at hk
    obtain ⟨a0, a1⟩ := az_cal_lt t1
    have hst : vs.reverse ++ .ref r :: st.drop b = st := by
      have q1 := congrArg List.reverse hrv
      rw [List.reverse_reverse, List.reverse_cons] at q1
      rw [List.append_cons, ← q1, List.take_append_drop]
    have hvl : vs.length = b - 1 := by
      have q1 := congrArg List.length hrv
      rw [List.length_reverse, List.length_take, List.length_cons] at q1
      omega
    rw [← hst]
    exact az_callV (y := y) X hK hRf hRl hRc hRs (hM a0 a1) u1 u2 t1 t2 t3 (hmok a a0 a1) t4 t5 t6 hr hn0 hs0 hvl hrm hrel hS hL.1 hdc fun H1 locs1 q1 q2 => hk (Nat.le_trans hn0 u1.1) (Nat.le_trans hs0 u1.2) _ _ _ q1 q2 hL
  | invokespecial j =>
    have hln : az_bp y (k + 1) = pc + 3 := by simpa [az_sw1, az_il] using hln
    have hdc : decode (az_mc y) pc = .ok (.invokespecial j, 3) := by rw [hln, Nat.add_sub_cancel_left] at hdc; exact hdc
    simp only [az_st] at h
    split at h
    · cases h
    rename_i hlen
    unfold az_rm at h
    split at h
    rotate_left
    · cases h
    rename_i hrm
    split at h
    rotate_left
    · cases h
    rename_i r vs hrv
    have hst : vs.reverse ++ .ref r :: st.drop b = st := by
      have q1 := congrArg List.reverse hrv
      rw [List.reverse_reverse, List.reverse_cons] at q1
      rw [List.append_cons, ← q1, List.take_append_drop]
    have hvl : vs.length = b - 1 := by
      have q1 := congrArg List.length hrv
      rw [List.length_reverse, List.length_take, List.length_cons] at q1
      omega
    split at h
    · rename_i hc9
      subst hc9
      simp only [az_tr, if_true, Bool.and_eq_true, decide_eq_true_eq] at htr
      obtain ⟨⟨⟨t1, t2⟩, t3⟩, t4⟩ := htr
      subst t2
      have hv0 : vs = [] := List.eq_nil_of_length_eq_zero hvl
      subst hv0
      obtain ⟨-, hk⟩ := hKs _ _ _ _ h
      simp only [hln] at hk
      have hst2 : st = .ref r :: st.drop 1 := hst.symm
      rw [hst2]
      refine W.objInit hx hb hown (hts _ (az_in_ws t1)) (hts _ az_oii) (hts _ az_oic) rfl (hL.1.trans hml.symm) rfl hdc (by omega) ?_ (hk hn0 hs0 _ _ _ hrel hS hL)
      have := hrm
      unfold az_cat at this
      show 2 * 0 + _ + 12 ≤ _
      omega
    · rename_i hc9
      simp only [az_tr, hc9, if_false, Bool.and_eq_true, decide_eq_true_eq, Bool.not_eq_true'] at htr
      obtain ⟨⟨⟨⟨⟨t1, t2⟩, t3⟩, t4⟩, t5⟩, t6⟩ := htr
      obtain ⟨v, G1, g1, g2⟩ := az_cl_inv h
      obtain ⟨u1, hM⟩ := hC _ _ _ _ _ g1
      obtain ⟨u2, hk⟩ := hKs _ _ _ _ g2
      simp only [hln] at hk
      obtain ⟨a0, a1⟩ := az_cal_lt t1
      rw [← hst]
      exact az_callI (y := y) X hK hRf hRl hRc hRs (hM a0 a1) u1 u2 t1 t2 t3 t4 (hmok a a0 a1) t5 t6 hn0 hs0 hvl hrm hrel hS hL.1 hdc fun H1 locs1 q1 q2 => hk (Nat.le_trans hn0 u1.1) (Nat.le_trans hs0 u1.2) _ _ _ q1 q2 hL
  | ireturn =>
    have hln : az_bp y (k + 1) = pc + 1 := by simpa [az_sw1, az_il] using hln
    have hdc : decode (az_mc y) pc = .ok (.ireturn, 1) := by rw [hln, Nat.add_sub_cancel_left] at hdc; exact hdc
    simp only [az_st] at h
    split at h
    rotate_left
    · cases h
    rename_i w
    split at h
    · have t1 : az_rt y = some .int := by simpa [az_tr] using htr
      cases h
      exact hret _ _ _ _ _ _ (Or.inl ⟨rfl, w, rfl, rfl, Or.inl t1⟩) hdc hrel hS
    · rename_i hne
      have t1 : az_rt y = some .boolean := by
        cases c' with
        | zero => exact absurd rfl hne
        | succ n => simpa [az_tr] using htr
      unfold az_zr at h
      split at h
      rotate_left
      · cases h
      rename_i h01
      cases h
      exact hret _ _ _ _ _ _ (Or.inl ⟨rfl, w, rfl, rfl, Or.inr ⟨t1, h01⟩⟩) hdc hrel hS
  | lreturn =>
    have hln : az_bp y (k + 1) = pc + 1 := by simpa [az_sw1, az_il] using hln
    have hdc : decode (az_mc y) pc = .ok (.lreturn, 1) := by rw [hln, Nat.add_sub_cancel_left] at hdc; exact hdc
    simp only [az_st] at h
    split at h
    rotate_left
    · cases h
    rename_i w
    have t1 : az_rt y = some .long := by simpa [az_tr] using htr
    cases h
    exact hret _ _ _ _ _ _ (Or.inr (Or.inl ⟨rfl, w, rfl, rfl, t1⟩)) hdc hrel hS
  | areturn =>
    have hln : az_bp y (k + 1) = pc + 1 := by simpa [az_sw1, az_il] using hln
    have hdc : decode (az_mc y) pc = .ok (.areturn, 1) := by rw [hln, Nat.add_sub_cancel_left] at hdc; exact hdc
    simp only [az_st] at h
    simp only [az_tr] at htr
    split at htr
    rotate_left
    · cases htr
    rename_i t ht
    split at h
    · rename_i w
      cases h
      exact hret _ _ _ _ _ _ (Or.inr (Or.inr (Or.inl ⟨rfl, _, t, rfl, rfl, Or.inr ⟨w, rfl⟩, ht, htr⟩))) hdc hrel hS
    · cases h
      exact hret _ _ _ _ _ _ (Or.inr (Or.inr (Or.inl ⟨rfl, _, t, rfl, rfl, Or.inl rfl, ht, htr⟩))) hdc hrel hS
    · cases h
  | return_ =>
    have hln : az_bp y (k + 1) = pc + 1 := by simpa [az_sw1, az_il] using hln
    have hdc : decode (az_mc y) pc = .ok (.return_, 1) := by rw [hln, Nat.add_sub_cancel_left] at hdc; exact hdc
    simp only [az_st] at h
    split at h
    rotate_left
    · cases h
    have t1 : az_rt y = none := by simpa [az_tr] using htr
    cases h
    exact hret _ _ _ _ _ _ (Or.inr (Or.inr (Or.inr ⟨rfl, rfl, rfl, t1⟩))) hdc hrel hS
  | _ => simp only [az_st] at h; cases h
end
section
def az_ge (G : az_H) (r : az_R) : Prop := ∀ v G', r = some (v, G') → az_up G G'
theorem az_up.rf {G : az_H} : az_up G G := ⟨Nat.le_refl _, Nat.le_refl _⟩
theorem az_up.tr {G G1 G2 : az_H} (h : az_up G G1) (h2 : az_up G1 G2) : az_up G G2 := ⟨Nat.le_trans h.1 h2.1, Nat.le_trans h.2 h2.2⟩
theorem az_ge.le {G G1 : az_H} {r : az_R} (h : az_ge G1 r) (u : az_up G G1) : az_ge G r := fun v G' e => u.tr (h v G' e)
theorem az_ge_n {G : az_H} : az_ge G none := fun _ _ h => by cases h
theorem az_ge_r {G : az_H} {v : Option Value} : az_ge G (some (v, G)) := fun _ _ h => by cases h; exact az_up.rf
theorem az_bI_g {G : az_H} {o : az_R} {k : Int32 → az_H → az_R} (ho : az_ge G o) (hk : ∀ x G', az_up G G' → az_ge G (k x G')) : az_ge G (az_bI o k) := by
  unfold az_bI; split
  · exact hk _ _ (ho _ _ rfl)
  · exact az_ge_n
theorem az_bL_g {G : az_H} {o : az_R} {k : Int64 → az_H → az_R} (ho : az_ge G o) (hk : ∀ x G', az_up G G' → az_ge G (k x G')) : az_ge G (az_bL o k) := by
  unfold az_bL; split
  · exact hk _ _ (ho _ _ rfl)
  · exact az_ge_n
theorem az_bV_g {G : az_H} {o : az_R} {k : az_H → az_R} (ho : az_ge G o) (hk : ∀ G', az_up G G' → az_ge G (k G')) : az_ge G (az_bV o k) := by
  unfold az_bV; split
  · exact hk _ (ho _ _ rfl)
  · exact az_ge_n
theorem az_bR_g {G : az_H} {o : az_R} {k0 : az_H → az_R} {k : Nat → az_H → az_R} (ho : az_ge G o) (hk0 : ∀ G', az_up G G' → az_ge G (k0 G')) (hk : ∀ x G', az_up G G' → az_ge G (k x G')) : az_ge G (az_bR o k0 k) := by
  unfold az_bR; split
  · exact hk0 _ (ho _ _ rfl)
  · exact hk _ _ (ho _ _ rfl)
  · exact az_ge_n
theorem az_cl_g {G : az_H} {o : az_R} {K : List Value → az_H → az_R} (q : Nat) (rest : List Value) (ho : az_ge G o) (hK : ∀ st G', az_up G G' → az_ge G (K st G')) : az_ge G (az_cl q o K rest) := by
  unfold az_cl
  split
  · exact az_bV_g ho fun _ u => hK _ _ u
  · exact az_bI_g ho fun _ _ u => hK _ _ u
  · exact az_bL_g ho fun _ _ u => hK _ _ u
  · exact az_bR_g ho (fun _ u => hK _ _ u) fun _ _ u => hK _ _ u
theorem az_fI_g {G : az_H} {r ci j : Nat} {k : Int32 → az_R} (h : ∀ x, az_ge G (k x)) : az_ge G (az_fI G r ci j k) := by
  unfold az_fI; (repeat' split) <;> first | exact h _ | exact az_ge_n
theorem az_fR_g {G : az_H} {r ci j : Nat} {k : Nat → az_R} (h : ∀ x, az_ge G (k x)) : az_ge G (az_fR G r ci j k) := by
  unfold az_fR; (repeat' split) <;> first | exact h _ | exact az_ge_n
theorem az_ln_g {G : az_H} {kd r : Nat} {k : Int32 → az_R} (h : ∀ x, az_ge G (k x)) : az_ge G (az_ln G kd r k) := by
  unfold az_ln; (repeat' split) <;> first | exact h _ | exact az_ge_n
theorem az_aI_g {G : az_H} {kd r : Nat} {i : Int32} {k : Int32 → az_R} (h : ∀ x, az_ge G (k x)) : az_ge G (az_aI G kd r i k) := by
  unfold az_aI; (repeat' split) <;> first | exact h _ | exact az_ge_n
theorem az_aR_g {G : az_H} {kd r : Nat} {i : Int32} {k : Nat → az_R} (h : ∀ x, az_ge G (k x)) : az_ge G (az_aR G kd r i k) := by
  unfold az_aR; (repeat' split) <;> first | exact h _ | exact az_ge_n
theorem az_pt_g {G : az_H} {r ci j : Nat} {v : Value} {k : az_H → az_R} (h : ∀ G', az_up G G' → az_ge G (k G')) : az_ge G (az_pt G r ci j v k) := by
  unfold az_pt; (repeat' split) <;> first | exact h _ az_up.rf | exact az_ge_n
theorem az_sI_g {G : az_H} {kd r : Nat} {i x : Int32} {k : az_H → az_R} (h : ∀ G', az_up G G' → az_ge G (k G')) : az_ge G (az_sI G kd r i x k) := by
  unfold az_sI; (repeat' split) <;> first | exact h _ az_up.rf | exact az_ge_n
theorem az_sR_g {G : az_H} {kd r v : Nat} {i : Int32} {k : az_H → az_R} (h : ∀ G', az_up G G' → az_ge G (k G')) : az_ge G (az_sR G kd r i v k) := by
  unfold az_sR; (repeat' split) <;> first | exact h _ az_up.rf | exact az_ge_n
theorem az_up_psh {G : az_H} {e : va_E} {n : Nat} : az_up G (az_psh G e n) := ⟨Nat.le_succ _, Nat.le_add_right _ _⟩
theorem az_nO_g {G : az_H} {ci : Nat} {k : Nat → az_H → az_R} (h : ∀ q G', az_up G G' → az_ge G (k q G')) : az_ge G (az_nO G ci k) := h _ _ az_up_psh
theorem az_nA_g {G : az_H} {kd : Nat} {n : Int32} {k : Nat → az_H → az_R} (h : ∀ q G', az_up G G' → az_ge G (k q G')) : az_ge G (az_nA G kd n k) := by
  unfold az_nA; split
  · exact h _ _ az_up_psh
  · exact az_ge_n
theorem az_nR_g {G : az_H} {kd : Nat} {n : Int32} {k : Nat → az_H → az_R} (h : ∀ q G', az_up G G' → az_ge G (k q G')) : az_ge G (az_nR G kd n k) := by
  unfold az_nR; split
  · exact h _ _ az_up_psh
  · exact az_ge_n
theorem az_rc_g {G : az_H} {r ci : Nat} {k : az_R} (h : az_ge G k) : az_ge G (az_rc G r ci k) := by
  unfold az_rc; (repeat' split) <;> first | exact h | exact az_ge_n
theorem az_dv_g {G : az_H} {y : Int32} {k : az_R} (h : az_ge G k) : az_ge G (az_dv y k) := by
  unfold az_dv; (repeat' split) <;> first | exact h | exact az_ge_n
theorem az_w1_g {G : az_H} {y : Int32} {k : az_R} (h : az_ge G k) : az_ge G (az_w1 y k) := by
  unfold az_w1; (repeat' split) <;> first | exact h | exact az_ge_n
theorem az_rm_g {G : az_H} {st : List Value} {k : az_R} (h : az_ge G k) : az_ge G (az_rm st k) := by
  unfold az_rm; (repeat' split) <;> first | exact h | exact az_ge_n
theorem az_zr_g {G : az_H} {x : Int32} : az_ge G (az_zr x G) := by
  unfold az_zr; split
  · exact az_ge_r
  · exact az_ge_n
set_option maxHeartbeats 4000000 in
theorem az_st_g (sc : az_S) (tw : Nat → List Nat) {C : Nat → List Value → az_H → az_R} {K : Nat → az_L → List Value → az_H → az_R} (hC : ∀ y vs G, az_ge G (C y vs G)) (hK : ∀ k L st G, az_ge G (K k L st G)) (i : az_I) (k : Nat) (L : az_L) (st : List Value) (G : az_H) : az_ge G (az_st sc tw C K i k L st G) := by
  obtain ⟨pc, ins, a, b, c, d, x, y⟩ := i
  cases ins
  case ifCond cond off => cases cond <;> simp only [az_st] <;> (repeat' first | exact az_ge_n | exact hK _ _ _ _ | split)
  case if_icmp cond off => cases cond <;> simp only [az_st] <;> (repeat' first | exact az_ge_n | exact hK _ _ _ _ | split)
  all_goals simp only [az_st]
  all_goals repeat' first
    | exact az_ge_n
    | exact az_ge_r
    | exact az_zr_g
    | exact hK _ _ _ _
    | refine az_fI_g fun _ => ?_
    | refine az_fR_g fun _ => ?_
    | exact az_pt_g fun _ u => (hK _ _ _ _).le u
    | refine az_ln_g fun _ => ?_
    | refine az_aI_g fun _ => ?_
    | refine az_aR_g fun _ => ?_
    | exact az_sI_g fun _ u => (hK _ _ _ _).le u
    | exact az_sR_g fun _ u => (hK _ _ _ _).le u
    | exact az_nO_g fun _ _ u => (hK _ _ _ _).le u
    | exact az_nA_g fun _ _ u => (hK _ _ _ _).le u
    | exact az_nR_g fun _ _ u => (hK _ _ _ _).le u
    | refine az_rc_g ?_
    | refine az_dv_g ?_
    | refine az_w1_g ?_
    | refine az_rm_g ?_
    | exact az_cl_g _ _ (hC _ _ _) (fun _ _ u => (hK _ _ _ _).le u)
    | split
/-- the abstract machine's run, with so much fuel -/
def az_ev (sc : az_S) : Nat → Nat → Nat → az_L → List Value → az_H → az_R
  | 0, _, _, _, _, _ => none
  | n + 1, y, k, L, st, G => match (az_pg y)[k]? with
    | none => none
    | some i => az_st sc (az_tw y) (fun a vs G => if (az_en vs).length ≤ az_nL a then az_ev sc n a 0 (az_ent (az_nL a) vs) [] G else none) (fun k L st G => az_ev sc n y k L st G) i k L st G
theorem az_ev_s (sc : az_S) : ∀ n y k L st G, az_le (az_ev sc n y k L st G) (az_ev sc (n + 1) y k L st G) := by
  intro n
  induction n with
  | zero => intro y k L st G; exact az_le_n
  | succ n ih =>
    intro y k L st G
    rw [az_ev, az_ev]
    cases (az_pg y)[k]? with
    | none => exact az_le_r
    | some i =>
      refine az_st_m sc _ (fun a vs G => ?_) (fun k L st G => ih _ _ _ _ _) i k L st G
      split
      · exact ih _ _ _ _ _
      · exact az_le_n
theorem az_ev_m (sc : az_S) (y k : Nat) (L : az_L) (st : List Value) (G : az_H) : az_mn (fun n => az_ev sc n y k L st G) := by
  intro n m h
  induction h with
  | refl => exact az_le_r
  | step _ ih => exact fun r e => az_ev_s sc _ y k L st G r (ih r e)
theorem az_ev_g (sc : az_S) : ∀ n y k L st G, az_ge G (az_ev sc n y k L st G) := by
  intro n
  induction n with
  | zero => intro y k L st G; exact az_ge_n
  | succ n ih =>
    intro y k L st G
    rw [az_ev]
    cases (az_pg y)[k]? with
    | none => exact az_ge_n
    | some i =>
      refine az_st_g sc _ (fun a vs G => ?_) (fun k L st G => ih _ _ _ _ _) i k L st G
      split
      · exact ih _ _ _ _ _
      · exact az_ge_n
/-- what the program's table owes: checked by program, method by method -/
def az_all : Prop := ∀ y, y < 190 → az_chk y = true ∧ (0 < y → az_mok y = true)
theorem az_chk_k {y : Nat} (h : az_chk y = true) {k : Nat} {i : az_I} (hi : (az_pg y)[k]? = some i) : az_ck1 y k = true := by
  unfold az_chk at h
  exact List.all_eq_true.mp h k (List.mem_range.mpr (List.getElem?_eq_some_iff.mp hi).1)
/-- the abstract machine's run holds of the machine: a frame -/
def az_fr_ok (l : Launch) (Z : Nat) (D : va_G) (cy : Nat → ClassId) (sc : az_S) (y k : Nat) (L : az_L) (st : List Value) (G : az_H) (v0 : Option Value) (G0 : az_H) : Prop :=
  ∀ (p : Program) (e : Env) (R : Room) (s : State) (m : MethodId) (args : Array Value) (below : List Frame) (meth : Method) (c : Code) (Q : State → Prop) (n0 s0 : Nat) (Hs : Heap), az_fx p y s m args meth c → az_kk D cy s → (y = 0 → va_X sc.1 sc.2.1 sc.2.2 s Hs ∧ sc.1 < Hs.size ∧ sc.1 < Z) → az_fr y ≤ R.frames → az_lo y ≤ R.locals → G0.2.1 - n0 ≤ R.cells → G0.2.2 - s0 ≤ R.slots →
    (∀ (ins : Instr) (pc : Nat) (ls : Array Slot) (st : List Value) (H : Heap) (locs : List Loc), az_isret y ins st v0 → decode (az_mc y) pc = .ok (ins, 1) → az_rel Z D cy G0 H → va_S (fun q => Z ≤ q) Hs H locs → az_wg p l e R s m args below meth c Q n0 s0 G0 H locs pc ls st) →
    n0 ≤ G.2.1 → s0 ≤ G.2.2 → ∀ (H : Heap) (locs : List Loc) (ls : Array Slot), az_rel Z D cy G H → va_S (fun q => Z ≤ q) Hs H locs → az_pl ls (az_nL y) L → az_wg p l e R s m args below meth c Q n0 s0 G H locs (az_bp y k) ls st
/-- from a frame to a contract -/
theorem az_met_of (hA : az_all) (l : Launch) (Z : Nat) (D : va_G) (cy : Nat → ClassId) (sc : az_S) {a : Nat} (h0 : 0 < a) (h1 : a < 190) {vs : List Value} {G G0 : az_H} {v0 : Option Value} (hen : (az_en vs).length ≤ az_nL a) (hfr : az_fr_ok l Z D cy sc a 0 (az_ent (az_nL a) vs) [] G v0 G0) : az_met l Z D cy a vs G v0 G0 := by
  obtain ⟨m1, m2, m3, m4, m5, m6, m7, m8, m9⟩ := az_mok_spec ((hA a h1).2 h0)
  unfold az_met
  refine Met.ofW (cc := az_mc a) (maxL := az_nL a) (ret := az_rt a) m5 rfl ?_
  intro p e s m args below meth c s₁ B hml hv
  obtain ⟨rfl, hrel, hK⟩ := hv
  have hpre := atoms_spec (ws := az_wm a) B.pre
  have hts : ∀ w ∈ az_ws, w.before vs.toArray s = true := fun w hw => hpre w (List.mem_cons_of_mem _ hw)
  have hlocks := B.notSynchronized
  have hl := az_pl.entry vs hen
  rw [lg_entry_eq]
  have hZ : ∀ (H : Heap) (locs : List Loc), va_S (fun q => Z ≤ q) s.heap H locs → ∀ t : State, t.heap = H → va_F (fun q => Z ≤ q) s t := fun H locs hS t ht => ⟨by rw [ht]; exact hS.1, fun q h1 h2 => by rw [ht]; exact hS.2.1 q h1 h2⟩
  have key := hfr p e (headSpec (az_wm a) ({ frames := az_fr a, cells := G0.2.1 - G.2.1, slots := G0.2.2 - G.2.2, locals := az_lo a })).room s m vs.toArray below meth c (MQ below (az_Qc Z D cy v0 G0) vs.toArray s (G0.2.1 - G.2.1) (G0.2.2 - G.2.2) (fun q => Z ≤ q)) G.2.1 G.2.2 s.heap ⟨B.exec, B.bytes, hml, findClass_of_methodNamed B.named, hts, fun hn => ((name_of_methodNamed B.named B.method).1).trans hn⟩ hK (fun hy => absurd hy (by omega)) (Nat.le_refl _) (Nat.le_refl _) (Nat.le_refl _) (Nat.le_refl _) ?_ (Nat.le_refl _) (Nat.le_refl _) s.heap [] _ hrel va_S.rf hl
  · rw [m9] at key
    have e1 : G.2.1 - G.2.1 = 0 := Nat.sub_self _
    have e2 : G.2.2 - G.2.2 = 0 := Nat.sub_self _
    unfold az_wg at key
    rw [e1, e2] at key
    exact key
  · intro ins pc ls st H locs hret hdc hrel1 hS1
    have hfree : ∀ q ∈ locs, Z ≤ q.base := fun q hq => hS1.2.2 q hq
    rcases hret with ⟨rfl, x, rfl, rfl, hrt⟩ | ⟨rfl, x, rfl, rfl, hrt⟩ | ⟨rfl, x, t, rfl, rfl, hxx, hrt, hir⟩ | ⟨rfl, rfl, rfl, hrt⟩
    · rcases hrt with hrt | ⟨hrt, h01⟩
      · exact W.iret (free := fun q => Z ≤ q) B.exec B.bytes (B.returns.trans hrt) (fun t ht _ => ⟨rfl, by rw [ht]; exact hrel1, hZ H locs hS1 t ht⟩) hfree hdc hlocks
      · exact W.zret (free := fun q => Z ≤ q) (ty := .boolean) B.exec B.bytes (B.returns.trans hrt) (by rcases h01 with rfl | rfl <;> rfl) (fun t ht _ => ⟨rfl, by rw [ht]; exact hrel1, hZ H locs hS1 t ht⟩) hfree hdc hlocks
    · exact W.lret (free := fun q => Z ≤ q) B.exec B.bytes (B.returns.trans hrt) (fun t ht _ => ⟨rfl, by rw [ht]; exact hrel1, hZ H locs hS1 t ht⟩) hfree hdc hlocks
    · exact W.aret (free := fun q => Z ≤ q) (rt := t) B.exec B.bytes (B.returns.trans hrt) (by cases t <;> simp [az_isr] at hir <;> simp) hxx (fun t ht _ => ⟨rfl, by rw [ht]; exact hrel1, hZ H locs hS1 t ht⟩) hfree hdc hlocks
    · exact W.vret (free := fun q => Z ≤ q) B.exec B.bytes (B.returns.trans hrt) (fun t ht _ => ⟨rfl, by rw [ht]; exact hrel1, hZ H locs hS1 t ht⟩) hfree hdc hlocks
/-- THE TIE: what the abstract machine comes to, the machine comes to -/
theorem az_sound (hA : az_all) (l : Launch) (Z : Nat) (D : va_G) (cy : Nat → ClassId) (sc : az_S) : ∀ n y, y < 190 → ∀ k L st G v0 G0, az_ev sc n y k L st G = some (v0, G0) → az_fr_ok l Z D cy sc y k L st G v0 G0 := by
  intro n
  induction n with
  | zero => intro y hy k L st G v0 G0 h; cases h
  | succ n ih =>
    intro y hy k L st G v0 G0 h
    rw [az_ev] at h
    cases hi : (az_pg y)[k]? with
    | none => rw [hi] at h; cases h
    | some i =>
      rw [hi] at h
      intro p e R s m args below meth c Q n0 s0 Hs X hK hsc hRf hRl hRc hRs hret hn0 hs0 H locs ls hrel hS hL
      refine az_snd X hK hsc hRf hRl hRc hRs hret ?_ (fun a b c => (hA a c).2 b) ?_ i k hi (az_chk_k (hA y hy).1 hi) L st G h hn0 hs0 hrel hS hL
      · intro a vs G v G' hc
        split at hc
        · rename_i hen
          exact ⟨az_ev_g sc _ _ _ _ _ _ _ _ hc, fun h0 h1 => az_met_of hA l Z D cy sc h0 h1 hen (ih a h1 _ _ _ _ _ _ hc)⟩
        · cases hc
      · intro k L st G hk
        exact ⟨az_ev_g sc _ _ _ _ _ _ _ _ hk, fun hn0 hs0 H locs ls hrel hS hL => ih y hy _ _ _ _ _ _ hk p e R s m args below meth c Q n0 s0 Hs X hK hsc hRf hRl hRc hRs hret hn0 hs0 H locs ls hrel hS hL⟩
end
