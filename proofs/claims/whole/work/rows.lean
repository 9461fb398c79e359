section
-- ===== PART A: goes FIRST, ahead of the names: the tables' words, and 'selects' of the private methods out of them =====
/-- a private method of a class that the tables say can be made, by its rows of tables_1 -/
def lw_okq (q : MethodName × Nat) : Prop := (q.1.cls ≠ "java/lang/invoke/MethodHandle" ∧ q.1.cls ≠ "java/lang/invoke/VarHandle") ∧ Cond.instantiable q.1.cls q.2 ∈ tables_1 ∧ Cond.privateMethod q.1 ∈ tables_1 ∧ Cond.instanceMethod q.1 ∈ tables_1
theorem lw_p0 : lw_okq (⟨"BuiltIndex", "wouldRepeat", "(II)Z"⟩, 15) := ⟨⟨by decide +kernel, by decide +kernel⟩, List.mem_of_getElem? (i := 16) (by decide +kernel), List.mem_of_getElem? (i := 246) (by decide +kernel), List.mem_of_getElem? (i := 247) (by decide +kernel)⟩
theorem lw_p1 : lw_okq (⟨"BuiltIndex", "writeDown", "()Z"⟩, 15) := ⟨⟨by decide +kernel, by decide +kernel⟩, List.mem_of_getElem? (i := 16) (by decide +kernel), List.mem_of_getElem? (i := 254) (by decide +kernel), List.mem_of_getElem? (i := 255) (by decide +kernel)⟩
theorem lw_p2 : lw_okq (⟨"BuiltIndex", "makeCheckpoint", "(I)Z"⟩, 15) := ⟨⟨by decide +kernel, by decide +kernel⟩, List.mem_of_getElem? (i := 16) (by decide +kernel), List.mem_of_getElem? (i := 266) (by decide +kernel), List.mem_of_getElem? (i := 267) (by decide +kernel)⟩
theorem lw_p3 : lw_okq (⟨"BuiltIndex", "putBlocks", "(I)Z"⟩, 15) := ⟨⟨by decide +kernel, by decide +kernel⟩, List.mem_of_getElem? (i := 16) (by decide +kernel), List.mem_of_getElem? (i := 274) (by decide +kernel), List.mem_of_getElem? (i := 275) (by decide +kernel)⟩
theorem lw_p4 : lw_okq (⟨"BuiltIndex", "forgetIndex", "()V"⟩, 15) := ⟨⟨by decide +kernel, by decide +kernel⟩, List.mem_of_getElem? (i := 16) (by decide +kernel), List.mem_of_getElem? (i := 282) (by decide +kernel), List.mem_of_getElem? (i := 283) (by decide +kernel)⟩
theorem lw_p5 : lw_okq (⟨"BuiltIndex", "forgetBuilding", "()V"⟩, 15) := ⟨⟨by decide +kernel, by decide +kernel⟩, List.mem_of_getElem? (i := 16) (by decide +kernel), List.mem_of_getElem? (i := 286) (by decide +kernel), List.mem_of_getElem? (i := 287) (by decide +kernel)⟩
theorem lw_p6 : lw_okq (⟨"BuiltIndex", "follow", "(JZ)V"⟩, 15) := ⟨⟨by decide +kernel, by decide +kernel⟩, List.mem_of_getElem? (i := 16) (by decide +kernel), List.mem_of_getElem? (i := 325) (by decide +kernel), List.mem_of_getElem? (i := 326) (by decide +kernel)⟩
theorem lw_p7 : lw_okq (⟨"BuiltIndex", "bringToTree", "(JZ)V"⟩, 15) := ⟨⟨by decide +kernel, by decide +kernel⟩, List.mem_of_getElem? (i := 16) (by decide +kernel), List.mem_of_getElem? (i := 329) (by decide +kernel), List.mem_of_getElem? (i := 330) (by decide +kernel)⟩
theorem lw_p8 : lw_okq (⟨"BuiltIndex$Tree", "goDown", "(J)V"⟩, 13) := ⟨⟨by decide +kernel, by decide +kernel⟩, List.mem_of_getElem? (i := 140) (by decide +kernel), List.mem_of_getElem? (i := 337) (by decide +kernel), List.mem_of_getElem? (i := 338) (by decide +kernel)⟩
theorem lw_p9 : lw_okq (⟨"BuiltIndex$Tree", "kidOf", "(II)I"⟩, 13) := ⟨⟨by decide +kernel, by decide +kernel⟩, List.mem_of_getElem? (i := 140) (by decide +kernel), List.mem_of_getElem? (i := 341) (by decide +kernel), List.mem_of_getElem? (i := 342) (by decide +kernel)⟩
theorem lw_p10 : lw_okq (⟨"BuiltIndex$Tree", "leastOf", "(I)J"⟩, 13) := ⟨⟨by decide +kernel, by decide +kernel⟩, List.mem_of_getElem? (i := 140) (by decide +kernel), List.mem_of_getElem? (i := 346) (by decide +kernel), List.mem_of_getElem? (i := 347) (by decide +kernel)⟩
theorem lw_p11 : lw_okq (⟨"BuiltIndex$Tree", "takeOut", "(II)V"⟩, 13) := ⟨⟨by decide +kernel, by decide +kernel⟩, List.mem_of_getElem? (i := 140) (by decide +kernel), List.mem_of_getElem? (i := 350) (by decide +kernel), List.mem_of_getElem? (i := 351) (by decide +kernel)⟩
theorem lw_p12 : lw_okq (⟨"BuiltIndex$Tree", "freeNode", "(I)V"⟩, 13) := ⟨⟨by decide +kernel, by decide +kernel⟩, List.mem_of_getElem? (i := 140) (by decide +kernel), List.mem_of_getElem? (i := 354) (by decide +kernel), List.mem_of_getElem? (i := 355) (by decide +kernel)⟩
theorem lw_p13 : lw_okq (⟨"BuiltIndex$Tree", "newNodesOnWay", "()I"⟩, 13) := ⟨⟨by decide +kernel, by decide +kernel⟩, List.mem_of_getElem? (i := 140) (by decide +kernel), List.mem_of_getElem? (i := 362) (by decide +kernel), List.mem_of_getElem? (i := 363) (by decide +kernel)⟩
theorem lw_p14 : lw_okq (⟨"BuiltIndex$Tree", "putIn", "(IIJ)V"⟩, 13) := ⟨⟨by decide +kernel, by decide +kernel⟩, List.mem_of_getElem? (i := 140) (by decide +kernel), List.mem_of_getElem? (i := 366) (by decide +kernel), List.mem_of_getElem? (i := 367) (by decide +kernel)⟩
theorem lw_p15 : lw_okq (⟨"BuiltIndex$Tree", "divide", "(I)V"⟩, 13) := ⟨⟨by decide +kernel, by decide +kernel⟩, List.mem_of_getElem? (i := 140) (by decide +kernel), List.mem_of_getElem? (i := 370) (by decide +kernel), List.mem_of_getElem? (i := 371) (by decide +kernel)⟩
def lw_privs_1 : List (MethodName × Nat) := [(⟨"BuiltIndex", "wouldRepeat", "(II)Z"⟩, 15), (⟨"BuiltIndex", "writeDown", "()Z"⟩, 15), (⟨"BuiltIndex", "makeCheckpoint", "(I)Z"⟩, 15), (⟨"BuiltIndex", "putBlocks", "(I)Z"⟩, 15), (⟨"BuiltIndex", "forgetIndex", "()V"⟩, 15), (⟨"BuiltIndex", "forgetBuilding", "()V"⟩, 15), (⟨"BuiltIndex", "follow", "(JZ)V"⟩, 15), (⟨"BuiltIndex", "bringToTree", "(JZ)V"⟩, 15), (⟨"BuiltIndex$Tree", "goDown", "(J)V"⟩, 13), (⟨"BuiltIndex$Tree", "kidOf", "(II)I"⟩, 13), (⟨"BuiltIndex$Tree", "leastOf", "(I)J"⟩, 13), (⟨"BuiltIndex$Tree", "takeOut", "(II)V"⟩, 13), (⟨"BuiltIndex$Tree", "freeNode", "(I)V"⟩, 13), (⟨"BuiltIndex$Tree", "newNodesOnWay", "()I"⟩, 13), (⟨"BuiltIndex$Tree", "putIn", "(IIJ)V"⟩, 13), (⟨"BuiltIndex$Tree", "divide", "(I)V"⟩, 13)]
theorem lw_r1 : ∀ q ∈ lw_privs_1, lw_okq q := List.forall_mem_cons.mpr ⟨lw_p0, List.forall_mem_cons.mpr ⟨lw_p1, List.forall_mem_cons.mpr ⟨lw_p2, List.forall_mem_cons.mpr ⟨lw_p3, List.forall_mem_cons.mpr ⟨lw_p4, List.forall_mem_cons.mpr ⟨lw_p5, List.forall_mem_cons.mpr ⟨lw_p6, List.forall_mem_cons.mpr ⟨lw_p7, List.forall_mem_cons.mpr ⟨lw_p8, List.forall_mem_cons.mpr ⟨lw_p9, List.forall_mem_cons.mpr ⟨lw_p10, List.forall_mem_cons.mpr ⟨lw_p11, List.forall_mem_cons.mpr ⟨lw_p12, List.forall_mem_cons.mpr ⟨lw_p13, List.forall_mem_cons.mpr ⟨lw_p14, List.forall_mem_cons.mpr ⟨lw_p15, fun _ h => absurd h List.not_mem_nil⟩⟩⟩⟩⟩⟩⟩⟩⟩⟩⟩⟩⟩⟩⟩⟩
theorem lw_p16 : lw_okq (⟨"BuiltIndex$Tree", "putRootOver", "(II)V"⟩, 13) := ⟨⟨by decide +kernel, by decide +kernel⟩, List.mem_of_getElem? (i := 140) (by decide +kernel), List.mem_of_getElem? (i := 378) (by decide +kernel), List.mem_of_getElem? (i := 379) (by decide +kernel)⟩
theorem lw_p17 : lw_okq (⟨"BuiltIndex", "stopBuilding", "(I)V"⟩, 15) := ⟨⟨by decide +kernel, by decide +kernel⟩, List.mem_of_getElem? (i := 16) (by decide +kernel), List.mem_of_getElem? (i := 382) (by decide +kernel), List.mem_of_getElem? (i := 383) (by decide +kernel)⟩
theorem lw_p18 : lw_okq (⟨"BuiltIndex", "isBuilding", "()Z"⟩, 15) := ⟨⟨by decide +kernel, by decide +kernel⟩, List.mem_of_getElem? (i := 16) (by decide +kernel), List.mem_of_getElem? (i := 386) (by decide +kernel), List.mem_of_getElem? (i := 387) (by decide +kernel)⟩
theorem lw_p19 : lw_okq (⟨"BuiltIndex", "scanPage", "()Z"⟩, 15) := ⟨⟨by decide +kernel, by decide +kernel⟩, List.mem_of_getElem? (i := 16) (by decide +kernel), List.mem_of_getElem? (i := 463) (by decide +kernel), List.mem_of_getElem? (i := 464) (by decide +kernel)⟩
theorem lw_p20 : lw_okq (⟨"BuiltIndex", "mergeRuns", "()Z"⟩, 15) := ⟨⟨by decide +kernel, by decide +kernel⟩, List.mem_of_getElem? (i := 16) (by decide +kernel), List.mem_of_getElem? (i := 485) (by decide +kernel), List.mem_of_getElem? (i := 486) (by decide +kernel)⟩
theorem lw_p21 : lw_okq (⟨"BuiltIndex$Runs", "mergeInto", "(II)V"⟩, 7) := ⟨⟨by decide +kernel, by decide +kernel⟩, List.mem_of_getElem? (i := 73) (by decide +kernel), List.mem_of_getElem? (i := 497) (by decide +kernel), List.mem_of_getElem? (i := 498) (by decide +kernel)⟩
theorem lw_p22 : lw_okq (⟨"BuiltIndex", "loadNode", "()Z"⟩, 15) := ⟨⟨by decide +kernel, by decide +kernel⟩, List.mem_of_getElem? (i := 16) (by decide +kernel), List.mem_of_getElem? (i := 509) (by decide +kernel), List.mem_of_getElem? (i := 510) (by decide +kernel)⟩
theorem lw_p23 : lw_okq (⟨"BuiltIndex", "catchUp", "()Z"⟩, 15) := ⟨⟨by decide +kernel, by decide +kernel⟩, List.mem_of_getElem? (i := 16) (by decide +kernel), List.mem_of_getElem? (i := 535) (by decide +kernel), List.mem_of_getElem? (i := 536) (by decide +kernel)⟩
theorem lw_p24 : lw_okq (⟨"BuiltIndex$Tree", "listLeaves", "()I"⟩, 13) := ⟨⟨by decide +kernel, by decide +kernel⟩, List.mem_of_getElem? (i := 140) (by decide +kernel), List.mem_of_getElem? (i := 559) (by decide +kernel), List.mem_of_getElem? (i := 560) (by decide +kernel)⟩
theorem lw_p25 : lw_okq (⟨"BuiltIndex$Tree", "listRowBelow", "(I)I"⟩, 13) := ⟨⟨by decide +kernel, by decide +kernel⟩, List.mem_of_getElem? (i := 140) (by decide +kernel), List.mem_of_getElem? (i := 563) (by decide +kernel), List.mem_of_getElem? (i := 564) (by decide +kernel)⟩
theorem lw_p26 : lw_okq (⟨"BuiltIndex", "hasTree", "()Z"⟩, 15) := ⟨⟨by decide +kernel, by decide +kernel⟩, List.mem_of_getElem? (i := 16) (by decide +kernel), List.mem_of_getElem? (i := 579) (by decide +kernel), List.mem_of_getElem? (i := 580) (by decide +kernel)⟩
theorem lw_p27 : lw_okq (⟨"BuiltIndex", "isEntryOfTree", "(I)Z"⟩, 15) := ⟨⟨by decide +kernel, by decide +kernel⟩, List.mem_of_getElem? (i := 16) (by decide +kernel), List.mem_of_getElem? (i := 595) (by decide +kernel), List.mem_of_getElem? (i := 596) (by decide +kernel)⟩
theorem lw_p28 : lw_okq (⟨"java/lang/Throwable", "fillInStackTrace", "(I)Ljava/lang/Throwable;"⟩, 6) := ⟨⟨by decide +kernel, by decide +kernel⟩, List.mem_of_getElem? (i := 694) (by decide +kernel), List.mem_of_getElem? (i := 692) (by decide +kernel), List.mem_of_getElem? (i := 693) (by decide +kernel)⟩
theorem lw_p29 : lw_okq (⟨"BuiltIndexModel", "clashes", "(II)Z"⟩, 52) := ⟨⟨by decide +kernel, by decide +kernel⟩, List.mem_of_getElem? (i := 753) (by decide +kernel), List.mem_of_getElem? (i := 924) (by decide +kernel), List.mem_of_getElem? (i := 925) (by decide +kernel)⟩
theorem lw_p30 : lw_okq (⟨"BuiltIndexModel", "writeDown", "()Z"⟩, 52) := ⟨⟨by decide +kernel, by decide +kernel⟩, List.mem_of_getElem? (i := 753) (by decide +kernel), List.mem_of_getElem? (i := 928) (by decide +kernel), List.mem_of_getElem? (i := 929) (by decide +kernel)⟩
theorem lw_p31 : lw_okq (⟨"BuiltIndexModel", "dirtyNodes", "()I"⟩, 52) := ⟨⟨by decide +kernel, by decide +kernel⟩, List.mem_of_getElem? (i := 753) (by decide +kernel), List.mem_of_getElem? (i := 932) (by decide +kernel), List.mem_of_getElem? (i := 933) (by decide +kernel)⟩
def lw_privs_2 : List (MethodName × Nat) := [(⟨"BuiltIndex$Tree", "putRootOver", "(II)V"⟩, 13), (⟨"BuiltIndex", "stopBuilding", "(I)V"⟩, 15), (⟨"BuiltIndex", "isBuilding", "()Z"⟩, 15), (⟨"BuiltIndex", "scanPage", "()Z"⟩, 15), (⟨"BuiltIndex", "mergeRuns", "()Z"⟩, 15), (⟨"BuiltIndex$Runs", "mergeInto", "(II)V"⟩, 7), (⟨"BuiltIndex", "loadNode", "()Z"⟩, 15), (⟨"BuiltIndex", "catchUp", "()Z"⟩, 15), (⟨"BuiltIndex$Tree", "listLeaves", "()I"⟩, 13), (⟨"BuiltIndex$Tree", "listRowBelow", "(I)I"⟩, 13), (⟨"BuiltIndex", "hasTree", "()Z"⟩, 15), (⟨"BuiltIndex", "isEntryOfTree", "(I)Z"⟩, 15), (⟨"java/lang/Throwable", "fillInStackTrace", "(I)Ljava/lang/Throwable;"⟩, 6), (⟨"BuiltIndexModel", "clashes", "(II)Z"⟩, 52), (⟨"BuiltIndexModel", "writeDown", "()Z"⟩, 52), (⟨"BuiltIndexModel", "dirtyNodes", "()I"⟩, 52)]
theorem lw_r2 : ∀ q ∈ lw_privs_2, lw_okq q := List.forall_mem_cons.mpr ⟨lw_p16, List.forall_mem_cons.mpr ⟨lw_p17, List.forall_mem_cons.mpr ⟨lw_p18, List.forall_mem_cons.mpr ⟨lw_p19, List.forall_mem_cons.mpr ⟨lw_p20, List.forall_mem_cons.mpr ⟨lw_p21, List.forall_mem_cons.mpr ⟨lw_p22, List.forall_mem_cons.mpr ⟨lw_p23, List.forall_mem_cons.mpr ⟨lw_p24, List.forall_mem_cons.mpr ⟨lw_p25, List.forall_mem_cons.mpr ⟨lw_p26, List.forall_mem_cons.mpr ⟨lw_p27, List.forall_mem_cons.mpr ⟨lw_p28, List.forall_mem_cons.mpr ⟨lw_p29, List.forall_mem_cons.mpr ⟨lw_p30, List.forall_mem_cons.mpr ⟨lw_p31, fun _ h => absurd h List.not_mem_nil⟩⟩⟩⟩⟩⟩⟩⟩⟩⟩⟩⟩⟩⟩⟩⟩
theorem lw_p32 : lw_okq (⟨"BuiltIndexModel", "checkpoint", "(I)Z"⟩, 52) := ⟨⟨by decide +kernel, by decide +kernel⟩, List.mem_of_getElem? (i := 753) (by decide +kernel), List.mem_of_getElem? (i := 936) (by decide +kernel), List.mem_of_getElem? (i := 937) (by decide +kernel)⟩
theorem lw_p33 : lw_okq (⟨"BuiltIndexModel", "writeBlocks", "(I)Z"⟩, 52) := ⟨⟨by decide +kernel, by decide +kernel⟩, List.mem_of_getElem? (i := 753) (by decide +kernel), List.mem_of_getElem? (i := 940) (by decide +kernel), List.mem_of_getElem? (i := 941) (by decide +kernel)⟩
theorem lw_p34 : lw_okq (⟨"BuiltIndexModel", "block", "()Z"⟩, 52) := ⟨⟨by decide +kernel, by decide +kernel⟩, List.mem_of_getElem? (i := 753) (by decide +kernel), List.mem_of_getElem? (i := 944) (by decide +kernel), List.mem_of_getElem? (i := 945) (by decide +kernel)⟩
theorem lw_p35 : lw_okq (⟨"BuiltIndexModel", "forget", "()V"⟩, 52) := ⟨⟨by decide +kernel, by decide +kernel⟩, List.mem_of_getElem? (i := 753) (by decide +kernel), List.mem_of_getElem? (i := 948) (by decide +kernel), List.mem_of_getElem? (i := 949) (by decide +kernel)⟩
theorem lw_p36 : lw_okq (⟨"BuiltIndexModel", "note", "(ZII)V"⟩, 52) := ⟨⟨by decide +kernel, by decide +kernel⟩, List.mem_of_getElem? (i := 753) (by decide +kernel), List.mem_of_getElem? (i := 952) (by decide +kernel), List.mem_of_getElem? (i := 953) (by decide +kernel)⟩
theorem lw_p37 : lw_okq (⟨"BuiltIndexModel", "comes", "(II)V"⟩, 52) := ⟨⟨by decide +kernel, by decide +kernel⟩, List.mem_of_getElem? (i := 753) (by decide +kernel), List.mem_of_getElem? (i := 956) (by decide +kernel), List.mem_of_getElem? (i := 957) (by decide +kernel)⟩
theorem lw_p38 : lw_okq (⟨"BuiltIndexModel", "descend", "(II)V"⟩, 52) := ⟨⟨by decide +kernel, by decide +kernel⟩, List.mem_of_getElem? (i := 753) (by decide +kernel), List.mem_of_getElem? (i := 960) (by decide +kernel), List.mem_of_getElem? (i := 961) (by decide +kernel)⟩
theorem lw_p39 : lw_okq (⟨"BuiltIndexModel", "firstLeaf", "(I)I"⟩, 52) := ⟨⟨by decide +kernel, by decide +kernel⟩, List.mem_of_getElem? (i := 753) (by decide +kernel), List.mem_of_getElem? (i := 964) (by decide +kernel), List.mem_of_getElem? (i := 965) (by decide +kernel)⟩
theorem lw_p40 : lw_okq (⟨"BuiltIndexModel", "openSlot", "(II)V"⟩, 52) := ⟨⟨by decide +kernel, by decide +kernel⟩, List.mem_of_getElem? (i := 753) (by decide +kernel), List.mem_of_getElem? (i := 971) (by decide +kernel), List.mem_of_getElem? (i := 972) (by decide +kernel)⟩
theorem lw_p41 : lw_okq (⟨"BuiltIndexModel", "copySlot", "(II)V"⟩, 52) := ⟨⟨by decide +kernel, by decide +kernel⟩, List.mem_of_getElem? (i := 753) (by decide +kernel), List.mem_of_getElem? (i := 975) (by decide +kernel), List.mem_of_getElem? (i := 976) (by decide +kernel)⟩
theorem lw_p42 : lw_okq (⟨"BuiltIndexModel", "newNode", "(Z)I"⟩, 52) := ⟨⟨by decide +kernel, by decide +kernel⟩, List.mem_of_getElem? (i := 753) (by decide +kernel), List.mem_of_getElem? (i := 979) (by decide +kernel), List.mem_of_getElem? (i := 980) (by decide +kernel)⟩
theorem lw_p43 : lw_okq (⟨"BuiltIndexModel", "goes", "(II)V"⟩, 52) := ⟨⟨by decide +kernel, by decide +kernel⟩, List.mem_of_getElem? (i := 753) (by decide +kernel), List.mem_of_getElem? (i := 983) (by decide +kernel), List.mem_of_getElem? (i := 984) (by decide +kernel)⟩
theorem lw_p44 : lw_okq (⟨"BuiltIndexModel", "closeSlot", "(II)V"⟩, 52) := ⟨⟨by decide +kernel, by decide +kernel⟩, List.mem_of_getElem? (i := 753) (by decide +kernel), List.mem_of_getElem? (i := 987) (by decide +kernel), List.mem_of_getElem? (i := 988) (by decide +kernel)⟩
theorem lw_p45 : lw_okq (⟨"BuiltIndexModel", "giveBack", "(I)V"⟩, 52) := ⟨⟨by decide +kernel, by decide +kernel⟩, List.mem_of_getElem? (i := 753) (by decide +kernel), List.mem_of_getElem? (i := 991) (by decide +kernel), List.mem_of_getElem? (i := 992) (by decide +kernel)⟩
theorem lw_p46 : lw_okq (⟨"BuiltIndexModel", "stop", "(I)V"⟩, 52) := ⟨⟨by decide +kernel, by decide +kernel⟩, List.mem_of_getElem? (i := 753) (by decide +kernel), List.mem_of_getElem? (i := 995) (by decide +kernel), List.mem_of_getElem? (i := 996) (by decide +kernel)⟩
theorem lw_p47 : lw_okq (⟨"BuiltIndexModel", "isRow", "(I)Z"⟩, 52) := ⟨⟨by decide +kernel, by decide +kernel⟩, List.mem_of_getElem? (i := 753) (by decide +kernel), List.mem_of_getElem? (i := 1006) (by decide +kernel), List.mem_of_getElem? (i := 1007) (by decide +kernel)⟩
def lw_privs_3 : List (MethodName × Nat) := [(⟨"BuiltIndexModel", "checkpoint", "(I)Z"⟩, 52), (⟨"BuiltIndexModel", "writeBlocks", "(I)Z"⟩, 52), (⟨"BuiltIndexModel", "block", "()Z"⟩, 52), (⟨"BuiltIndexModel", "forget", "()V"⟩, 52), (⟨"BuiltIndexModel", "note", "(ZII)V"⟩, 52), (⟨"BuiltIndexModel", "comes", "(II)V"⟩, 52), (⟨"BuiltIndexModel", "descend", "(II)V"⟩, 52), (⟨"BuiltIndexModel", "firstLeaf", "(I)I"⟩, 52), (⟨"BuiltIndexModel", "openSlot", "(II)V"⟩, 52), (⟨"BuiltIndexModel", "copySlot", "(II)V"⟩, 52), (⟨"BuiltIndexModel", "newNode", "(Z)I"⟩, 52), (⟨"BuiltIndexModel", "goes", "(II)V"⟩, 52), (⟨"BuiltIndexModel", "closeSlot", "(II)V"⟩, 52), (⟨"BuiltIndexModel", "giveBack", "(I)V"⟩, 52), (⟨"BuiltIndexModel", "stop", "(I)V"⟩, 52), (⟨"BuiltIndexModel", "isRow", "(I)Z"⟩, 52)]
theorem lw_r3 : ∀ q ∈ lw_privs_3, lw_okq q := List.forall_mem_cons.mpr ⟨lw_p32, List.forall_mem_cons.mpr ⟨lw_p33, List.forall_mem_cons.mpr ⟨lw_p34, List.forall_mem_cons.mpr ⟨lw_p35, List.forall_mem_cons.mpr ⟨lw_p36, List.forall_mem_cons.mpr ⟨lw_p37, List.forall_mem_cons.mpr ⟨lw_p38, List.forall_mem_cons.mpr ⟨lw_p39, List.forall_mem_cons.mpr ⟨lw_p40, List.forall_mem_cons.mpr ⟨lw_p41, List.forall_mem_cons.mpr ⟨lw_p42, List.forall_mem_cons.mpr ⟨lw_p43, List.forall_mem_cons.mpr ⟨lw_p44, List.forall_mem_cons.mpr ⟨lw_p45, List.forall_mem_cons.mpr ⟨lw_p46, List.forall_mem_cons.mpr ⟨lw_p47, fun _ h => absurd h List.not_mem_nil⟩⟩⟩⟩⟩⟩⟩⟩⟩⟩⟩⟩⟩⟩⟩⟩
theorem lw_p48 : lw_okq (⟨"BuiltIndexModel", "rowCount", "()I"⟩, 52) := ⟨⟨by decide +kernel, by decide +kernel⟩, List.mem_of_getElem? (i := 753) (by decide +kernel), List.mem_of_getElem? (i := 1026) (by decide +kernel), List.mem_of_getElem? (i := 1027) (by decide +kernel)⟩
theorem lw_p49 : lw_okq (⟨"BuiltIndexModel", "scanStep", "()Z"⟩, 52) := ⟨⟨by decide +kernel, by decide +kernel⟩, List.mem_of_getElem? (i := 753) (by decide +kernel), List.mem_of_getElem? (i := 1042) (by decide +kernel), List.mem_of_getElem? (i := 1043) (by decide +kernel)⟩
theorem lw_p50 : lw_okq (⟨"BuiltIndexModel", "runFrom", "(I)I"⟩, 52) := ⟨⟨by decide +kernel, by decide +kernel⟩, List.mem_of_getElem? (i := 753) (by decide +kernel), List.mem_of_getElem? (i := 1046) (by decide +kernel), List.mem_of_getElem? (i := 1047) (by decide +kernel)⟩
theorem lw_p51 : lw_okq (⟨"BuiltIndexModel", "sort", "(II)V"⟩, 52) := ⟨⟨by decide +kernel, by decide +kernel⟩, List.mem_of_getElem? (i := 753) (by decide +kernel), List.mem_of_getElem? (i := 1050) (by decide +kernel), List.mem_of_getElem? (i := 1051) (by decide +kernel)⟩
theorem lw_p52 : lw_okq (⟨"BuiltIndexModel", "mergeStep", "()Z"⟩, 52) := ⟨⟨by decide +kernel, by decide +kernel⟩, List.mem_of_getElem? (i := 753) (by decide +kernel), List.mem_of_getElem? (i := 1054) (by decide +kernel), List.mem_of_getElem? (i := 1055) (by decide +kernel)⟩
theorem lw_p53 : lw_okq (⟨"BuiltIndexModel", "loadStep", "()Z"⟩, 52) := ⟨⟨by decide +kernel, by decide +kernel⟩, List.mem_of_getElem? (i := 753) (by decide +kernel), List.mem_of_getElem? (i := 1058) (by decide +kernel), List.mem_of_getElem? (i := 1059) (by decide +kernel)⟩
theorem lw_p54 : lw_okq (⟨"BuiltIndexModel", "catchStep", "()Z"⟩, 52) := ⟨⟨by decide +kernel, by decide +kernel⟩, List.mem_of_getElem? (i := 753) (by decide +kernel), List.mem_of_getElem? (i := 1062) (by decide +kernel), List.mem_of_getElem? (i := 1063) (by decide +kernel)⟩
theorem lw_p55 : lw_okq (⟨"BuiltIndexModel", "findClash", "()Z"⟩, 52) := ⟨⟨by decide +kernel, by decide +kernel⟩, List.mem_of_getElem? (i := 753) (by decide +kernel), List.mem_of_getElem? (i := 1066) (by decide +kernel), List.mem_of_getElem? (i := 1067) (by decide +kernel)⟩
theorem lw_p56 : lw_okq (⟨"BuiltIndexModel", "height", "()I"⟩, 52) := ⟨⟨by decide +kernel, by decide +kernel⟩, List.mem_of_getElem? (i := 753) (by decide +kernel), List.mem_of_getElem? (i := 1074) (by decide +kernel), List.mem_of_getElem? (i := 1075) (by decide +kernel)⟩
theorem lw_p57 : lw_okq (⟨"BuiltIndexModel", "entries", "()I"⟩, 52) := ⟨⟨by decide +kernel, by decide +kernel⟩, List.mem_of_getElem? (i := 753) (by decide +kernel), List.mem_of_getElem? (i := 1078) (by decide +kernel), List.mem_of_getElem? (i := 1079) (by decide +kernel)⟩
theorem lw_p58 : lw_okq (⟨"BuiltIndexModel", "goThrough", "()V"⟩, 52) := ⟨⟨by decide +kernel, by decide +kernel⟩, List.mem_of_getElem? (i := 753) (by decide +kernel), List.mem_of_getElem? (i := 1082) (by decide +kernel), List.mem_of_getElem? (i := 1083) (by decide +kernel)⟩
theorem lw_p59 : lw_okq (⟨"BuiltIndexModel", "slotOf", "(I)I"⟩, 52) := ⟨⟨by decide +kernel, by decide +kernel⟩, List.mem_of_getElem? (i := 753) (by decide +kernel), List.mem_of_getElem? (i := 1090) (by decide +kernel), List.mem_of_getElem? (i := 1091) (by decide +kernel)⟩
def lw_privs_4 : List (MethodName × Nat) := [(⟨"BuiltIndexModel", "rowCount", "()I"⟩, 52), (⟨"BuiltIndexModel", "scanStep", "()Z"⟩, 52), (⟨"BuiltIndexModel", "runFrom", "(I)I"⟩, 52), (⟨"BuiltIndexModel", "sort", "(II)V"⟩, 52), (⟨"BuiltIndexModel", "mergeStep", "()Z"⟩, 52), (⟨"BuiltIndexModel", "loadStep", "()Z"⟩, 52), (⟨"BuiltIndexModel", "catchStep", "()Z"⟩, 52), (⟨"BuiltIndexModel", "findClash", "()Z"⟩, 52), (⟨"BuiltIndexModel", "height", "()I"⟩, 52), (⟨"BuiltIndexModel", "entries", "()I"⟩, 52), (⟨"BuiltIndexModel", "goThrough", "()V"⟩, 52), (⟨"BuiltIndexModel", "slotOf", "(I)I"⟩, 52)]
theorem lw_r4 : ∀ q ∈ lw_privs_4, lw_okq q := List.forall_mem_cons.mpr ⟨lw_p48, List.forall_mem_cons.mpr ⟨lw_p49, List.forall_mem_cons.mpr ⟨lw_p50, List.forall_mem_cons.mpr ⟨lw_p51, List.forall_mem_cons.mpr ⟨lw_p52, List.forall_mem_cons.mpr ⟨lw_p53, List.forall_mem_cons.mpr ⟨lw_p54, List.forall_mem_cons.mpr ⟨lw_p55, List.forall_mem_cons.mpr ⟨lw_p56, List.forall_mem_cons.mpr ⟨lw_p57, List.forall_mem_cons.mpr ⟨lw_p58, List.forall_mem_cons.mpr ⟨lw_p59, fun _ h => absurd h List.not_mem_nil⟩⟩⟩⟩⟩⟩⟩⟩⟩⟩⟩⟩
def lw_privs : List (MethodName × Nat) := lw_privs_1 ++ (lw_privs_2 ++ (lw_privs_3 ++ (lw_privs_4)))
def lw_tbl : List Cond := k2_sels lw_privs ++ tables_1
theorem lw_privs_ok : ∀ q ∈ lw_privs, lw_okq q := by
  show ∀ q ∈ lw_privs_1 ++ (lw_privs_2 ++ (lw_privs_3 ++ (lw_privs_4))), lw_okq q
  exact List.forall_mem_append.mpr ⟨lw_r1, List.forall_mem_append.mpr ⟨lw_r2, List.forall_mem_append.mpr ⟨lw_r3, lw_r4⟩⟩⟩
end
section
def RX0 : String := "BuiltIndex$Disk"
def TX0 : u_T := fun k => match k with
  | 0 => ("BuiltIndex$Disk", "down", "Z", false)
  | 1 => ("BuiltIndex$Disk", "blocksTillLoss", "I", false)
  | 2 => ("BuiltIndex$Disk", "allBlocks", "I", false)
  | 3 => ("BuiltIndex$Disk", "checkpointBlocks", "I", false)
  | 4 => ("BuiltIndex$Disk", "checkpoints", "I", false)
  | _ => ("BuiltIndex$Disk", "writesSince", "I", false)
def tyX0 : Nat → FieldType := fun k => match k with
  | 0 => .boolean
  | 1 => .int
  | 2 => .int
  | 3 => .int
  | 4 => .int
  | _ => .int
abbrev wsX00 : List Cond := u_ws RX0 TX0 6
theorem nmX0 : ∀ a, a < 6 → ∀ b, b < 6 → a ≠ b → (TX0 a).2.1 ≠ (TX0 b).2.1 := by decide +kernel
theorem tyX0_ok : ∀ k, k < 6 → parseFieldDescriptor (TX0 k).2.2.1 = some (tyX0 k) := by decide +kernel
abbrev cX0_init : ByteArray := prog_2_method_1_code
def yX0_init : MethodName := ⟨RX0, "<init>", "()V"⟩
abbrev cX0_isDown : ByteArray := prog_2_method_2_code
def yX0_isDown : MethodName := ⟨RX0, "isDown", "()Z"⟩
abbrev cX0_setLoss : ByteArray := prog_2_method_3_code
def yX0_setLoss : MethodName := ⟨RX0, "setLoss", "(I)V"⟩
abbrev cX0_powerUp : ByteArray := prog_2_method_4_code
def yX0_powerUp : MethodName := ⟨RX0, "powerUp", "()V"⟩
abbrev cX0_put : ByteArray := prog_2_method_5_code
def yX0_put : MethodName := ⟨RX0, "put", "(I)Z"⟩
abbrev cX0_noteWrite : ByteArray := prog_2_method_6_code
def yX0_noteWrite : MethodName := ⟨RX0, "noteWrite", "()V"⟩
abbrev cX0_noteCheckpoint : ByteArray := prog_2_method_7_code
def yX0_noteCheckpoint : MethodName := ⟨RX0, "noteCheckpoint", "(I)V"⟩
abbrev cX0_writesSinceCheckpoint : ByteArray := prog_2_method_8_code
def yX0_writesSinceCheckpoint : MethodName := ⟨RX0, "writesSinceCheckpoint", "()I"⟩
abbrev cX0_countOf : ByteArray := prog_2_method_9_code
def yX0_countOf : MethodName := ⟨RX0, "countOf", "(I)I"⟩
def RX1 : String := "BuiltIndex$Loader"
def TX1 : u_T := fun k => match k with
  | 0 => ("BuiltIndex$Loader", "makesLeaves", "Z", false)
  | 1 => ("BuiltIndex$Loader", "next", "I", false)
  | 2 => ("BuiltIndex$Loader", "end", "I", false)
  | _ => ("BuiltIndex$Loader", "rowBegin", "I", false)
def tyX1 : Nat → FieldType := fun k => match k with
  | 0 => .boolean
  | 1 => .int
  | 2 => .int
  | _ => .int
abbrev wsX10 : List Cond := u_ws RX1 TX1 4
theorem nmX1 : ∀ a, a < 4 → ∀ b, b < 4 → a ≠ b → (TX1 a).2.1 ≠ (TX1 b).2.1 := by decide +kernel
theorem tyX1_ok : ∀ k, k < 4 → parseFieldDescriptor (TX1 k).2.2.1 = some (tyX1 k) := by decide +kernel
abbrev cX1_init : ByteArray := prog_3_method_1_code
def yX1_init : MethodName := ⟨RX1, "<init>", "()V"⟩
abbrev cX1_begin : ByteArray := prog_3_method_2_code
def yX1_begin : MethodName := ⟨RX1, "begin", "(I)V"⟩
abbrev cX1_makeNode : ByteArray := prog_3_method_3_code
def yX1_makeNode : MethodName := ⟨RX1, "makeNode", "(LBuiltIndex$Tree;LBuiltIndex$Runs;)Z"⟩
def RX2 : String := "BuiltIndex$LogBeside"
def TX2 : u_T := fun k => match k with
  | 0 => ("BuiltIndex$LogBeside", "entries", "[J", true)
  | 1 => ("BuiltIndex$LogBeside", "comes", "[Z", true)
  | 2 => ("BuiltIndex$LogBeside", "first", "I", false)
  | _ => ("BuiltIndex$LogBeside", "count", "I", false)
def tyX2 : Nat → FieldType := fun k => match k with
  | 0 => .array .long
  | 1 => .array .boolean
  | 2 => .int
  | _ => .int
abbrev wsX20 : List Cond := u_ws RX2 TX2 4
theorem nmX2 : ∀ a, a < 4 → ∀ b, b < 4 → a ≠ b → (TX2 a).2.1 ≠ (TX2 b).2.1 := by decide +kernel
theorem tyX2_ok : ∀ k, k < 4 → parseFieldDescriptor (TX2 k).2.2.1 = some (tyX2 k) := by decide +kernel
abbrev cX2_init : ByteArray := prog_4_method_1_code
def yX2_init : MethodName := ⟨RX2, "<init>", "()V"⟩
abbrev cX2_clear : ByteArray := prog_4_method_2_code
def yX2_clear : MethodName := ⟨RX2, "clear", "()V"⟩
abbrev cX2_count : ByteArray := prog_4_method_3_code
def yX2_count : MethodName := ⟨RX2, "count", "()I"⟩
abbrev cX2_append : ByteArray := prog_4_method_4_code
def yX2_append : MethodName := ⟨RX2, "append", "(JZ)Z"⟩
abbrev cX2_firstEntry : ByteArray := prog_4_method_5_code
def yX2_firstEntry : MethodName := ⟨RX2, "firstEntry", "()J"⟩
abbrev cX2_firstComes : ByteArray := prog_4_method_6_code
def yX2_firstComes : MethodName := ⟨RX2, "firstComes", "()Z"⟩
abbrev cX2_takeFirst : ByteArray := prog_4_method_7_code
def yX2_takeFirst : MethodName := ⟨RX2, "takeFirst", "()V"⟩
def RX3 : String := "BuiltIndex$Runs"
def TX3 : u_T := fun k => match k with
  | 0 => ("BuiltIndex$Runs", "picked", "[J", true)
  | 1 => ("BuiltIndex$Runs", "pickedCount", "I", false)
  | 2 => ("BuiltIndex$Runs", "sorted", "[J", true)
  | 3 => ("BuiltIndex$Runs", "merged", "[J", true)
  | 4 => ("BuiltIndex$Runs", "total", "I", false)
  | 5 => ("BuiltIndex$Runs", "lengths", "[I", true)
  | _ => ("BuiltIndex$Runs", "count", "I", false)
def tyX3 : Nat → FieldType := fun k => match k with
  | 0 => .array .long
  | 1 => .int
  | 2 => .array .long
  | 3 => .array .long
  | 4 => .int
  | 5 => .array .int
  | _ => .int
abbrev wsX30 : List Cond := u_ws RX3 TX3 7
theorem nmX3 : ∀ a, a < 7 → ∀ b, b < 7 → a ≠ b → (TX3 a).2.1 ≠ (TX3 b).2.1 := by decide +kernel
theorem tyX3_ok : ∀ k, k < 7 → parseFieldDescriptor (TX3 k).2.2.1 = some (tyX3 k) := by decide +kernel
abbrev cX3_init : ByteArray := prog_5_method_1_code
def yX3_init : MethodName := ⟨RX3, "<init>", "()V"⟩
abbrev cX3_clear : ByteArray := prog_5_method_2_code
def yX3_clear : MethodName := ⟨RX3, "clear", "()V"⟩
abbrev cX3_count : ByteArray := prog_5_method_3_code
def yX3_count : MethodName := ⟨RX3, "count", "()I"⟩
abbrev cX3_pickedCount : ByteArray := prog_5_method_4_code
def yX3_pickedCount : MethodName := ⟨RX3, "pickedCount", "()I"⟩
abbrev cX3_total : ByteArray := prog_5_method_5_code
def yX3_total : MethodName := ⟨RX3, "total", "()I"⟩
abbrev cX3_entryAt : ByteArray := prog_5_method_6_code
def yX3_entryAt : MethodName := ⟨RX3, "entryAt", "(I)J"⟩
abbrev cX3_pick : ByteArray := prog_5_method_7_code
def yX3_pick : MethodName := ⟨RX3, "pick", "(J)V"⟩
abbrev cX3_closeRun : ByteArray := prog_5_method_8_code
def yX3_closeRun : MethodName := ⟨RX3, "closeRun", "()V"⟩
abbrev cX3_mergeFirstTwo : ByteArray := prog_5_method_9_code
def yX3_mergeFirstTwo : MethodName := ⟨RX3, "mergeFirstTwo", "()I"⟩
abbrev cX3_mergeInto : ByteArray := prog_5_method_10_code
def yX3_mergeInto : MethodName := ⟨RX3, "mergeInto", "(II)V"⟩
def RX4 : String := "BuiltIndex$Table"
def TX4 : u_T := fun k => match k with
  | 0 => ("BuiltIndex$Table", "keys", "[I", true)
  | 1 => ("BuiltIndex$Table", "values", "[I", true)
  | 2 => ("BuiltIndex$Table", "present", "[Z", true)
  | 3 => ("BuiltIndex$Table", "touched", "[Z", true)
  | _ => ("BuiltIndex$Table", "count", "I", false)
def tyX4 : Nat → FieldType := fun k => match k with
  | 0 => .array .int
  | 1 => .array .int
  | 2 => .array .boolean
  | 3 => .array .boolean
  | _ => .int
abbrev wsX40 : List Cond := u_ws RX4 TX4 5
theorem nmX4 : ∀ a, a < 5 → ∀ b, b < 5 → a ≠ b → (TX4 a).2.1 ≠ (TX4 b).2.1 := by decide +kernel
theorem tyX4_ok : ∀ k, k < 5 → parseFieldDescriptor (TX4 k).2.2.1 = some (tyX4 k) := by decide +kernel
abbrev cX4_init : ByteArray := prog_6_method_1_code
def yX4_init : MethodName := ⟨RX4, "<init>", "()V"⟩
abbrev cX4_count : ByteArray := prog_6_method_2_code
def yX4_count : MethodName := ⟨RX4, "count", "()I"⟩
abbrev cX4_has : ByteArray := prog_6_method_3_code
def yX4_has : MethodName := ⟨RX4, "has", "(I)Z"⟩
abbrev cX4_keyAt : ByteArray := prog_6_method_4_code
def yX4_keyAt : MethodName := ⟨RX4, "keyAt", "(I)I"⟩
abbrev cX4_valueAt : ByteArray := prog_6_method_5_code
def yX4_valueAt : MethodName := ⟨RX4, "valueAt", "(I)I"⟩
abbrev cX4_firstFree : ByteArray := prog_6_method_6_code
def yX4_firstFree : MethodName := ⟨RX4, "firstFree", "()I"⟩
abbrev cX4_hasKeyBeside : ByteArray := prog_6_method_7_code
def yX4_hasKeyBeside : MethodName := ⟨RX4, "hasKeyBeside", "(II)Z"⟩
abbrev cX4_put : ByteArray := prog_6_method_8_code
def yX4_put : MethodName := ⟨RX4, "put", "(III)V"⟩
abbrev cX4_clearPlace : ByteArray := prog_6_method_9_code
def yX4_clearPlace : MethodName := ⟨RX4, "clearPlace", "(I)V"⟩
abbrev cX4_tell : ByteArray := prog_6_method_10_code
def yX4_tell : MethodName := ⟨RX4, "tell", "(II[I)I"⟩
abbrev cX4_touchedPages : ByteArray := prog_6_method_11_code
def yX4_touchedPages : MethodName := ⟨RX4, "touchedPages", "()I"⟩
abbrev cX4_untouch : ByteArray := prog_6_method_12_code
def yX4_untouch : MethodName := ⟨RX4, "untouch", "()V"⟩
def RX5 : String := "BuiltIndex$Tree"
def TX5 : u_T := fun k => match k with
  | 0 => ("BuiltIndex$Tree", "held", "[[J", true)
  | 1 => ("BuiltIndex$Tree", "size", "[I", true)
  | 2 => ("BuiltIndex$Tree", "overNodes", "[Z", true)
  | 3 => ("BuiltIndex$Tree", "used", "[Z", true)
  | 4 => ("BuiltIndex$Tree", "touched", "[Z", true)
  | 5 => ("BuiltIndex$Tree", "nodeCount", "I", false)
  | 6 => ("BuiltIndex$Tree", "entryCount", "I", false)
  | 7 => ("BuiltIndex$Tree", "root", "I", false)
  | 8 => ("BuiltIndex$Tree", "way", "[I", true)
  | 9 => ("BuiltIndex$Tree", "wayAt", "[I", true)
  | 10 => ("BuiltIndex$Tree", "wayEnd", "I", false)
  | 11 => ("BuiltIndex$Tree", "listed", "[I", true)
  | _ => ("BuiltIndex$Tree", "below", "[I", true)
def tyX5 : Nat → FieldType := fun k => match k with
  | 0 => .array (.array .long)
  | 1 => .array .int
  | 2 => .array .boolean
  | 3 => .array .boolean
  | 4 => .array .boolean
  | 5 => .int
  | 6 => .int
  | 7 => .int
  | 8 => .array .int
  | 9 => .array .int
  | 10 => .int
  | 11 => .array .int
  | _ => .array .int
abbrev wsX50 : List Cond := u_ws RX5 TX5 13
theorem nmX5 : ∀ a, a < 13 → ∀ b, b < 13 → a ≠ b → (TX5 a).2.1 ≠ (TX5 b).2.1 := by decide +kernel
theorem tyX5_ok : ∀ k, k < 13 → parseFieldDescriptor (TX5 k).2.2.1 = some (tyX5 k) := by decide +kernel
abbrev cX5_init : ByteArray := prog_7_method_1_code
def yX5_init : MethodName := ⟨RX5, "<init>", "()V"⟩
abbrev cX5_clear : ByteArray := prog_7_method_2_code
def yX5_clear : MethodName := ⟨RX5, "clear", "()V"⟩
abbrev cX5_nodeCount : ByteArray := prog_7_method_3_code
def yX5_nodeCount : MethodName := ⟨RX5, "nodeCount", "()I"⟩
abbrev cX5_entryCount : ByteArray := prog_7_method_4_code
def yX5_entryCount : MethodName := ⟨RX5, "entryCount", "()I"⟩
abbrev cX5_touchedCount : ByteArray := prog_7_method_5_code
def yX5_touchedCount : MethodName := ⟨RX5, "touchedCount", "()I"⟩
abbrev cX5_untouch : ByteArray := prog_7_method_6_code
def yX5_untouch : MethodName := ⟨RX5, "untouch", "()V"⟩
abbrev cX5_newNode : ByteArray := prog_7_method_7_code
def yX5_newNode : MethodName := ⟨RX5, "newNode", "(Z)I"⟩
abbrev cX5_freeNode : ByteArray := prog_7_method_8_code
def yX5_freeNode : MethodName := ⟨RX5, "freeNode", "(I)V"⟩
abbrev cX5_append : ByteArray := prog_7_method_9_code
def yX5_append : MethodName := ⟨RX5, "append", "(IJ)V"⟩
abbrev cX5_finishLoad : ByteArray := prog_7_method_10_code
def yX5_finishLoad : MethodName := ⟨RX5, "finishLoad", "(II)V"⟩
abbrev cX5_putIn : ByteArray := prog_7_method_11_code
def yX5_putIn : MethodName := ⟨RX5, "putIn", "(IIJ)V"⟩
abbrev cX5_takeOut : ByteArray := prog_7_method_12_code
def yX5_takeOut : MethodName := ⟨RX5, "takeOut", "(II)V"⟩
abbrev cX5_kidOf : ByteArray := prog_7_method_13_code
def yX5_kidOf : MethodName := ⟨RX5, "kidOf", "(II)I"⟩
abbrev cX5_leastOf : ByteArray := prog_7_method_14_code
def yX5_leastOf : MethodName := ⟨RX5, "leastOf", "(I)J"⟩
abbrev cX5_goDown : ByteArray := prog_7_method_15_code
def yX5_goDown : MethodName := ⟨RX5, "goDown", "(J)V"⟩
abbrev cX5_letCome : ByteArray := prog_7_method_16_code
def yX5_letCome : MethodName := ⟨RX5, "letCome", "(J)Z"⟩
abbrev cX5_newNodesOnWay : ByteArray := prog_7_method_17_code
def yX5_newNodesOnWay : MethodName := ⟨RX5, "newNodesOnWay", "()I"⟩
abbrev cX5_divide : ByteArray := prog_7_method_18_code
def yX5_divide : MethodName := ⟨RX5, "divide", "(I)V"⟩
abbrev cX5_putRootOver : ByteArray := prog_7_method_19_code
def yX5_putRootOver : MethodName := ⟨RX5, "putRootOver", "(II)V"⟩
abbrev cX5_letGo : ByteArray := prog_7_method_20_code
def yX5_letGo : MethodName := ⟨RX5, "letGo", "(J)V"⟩
abbrev cX5_levels : ByteArray := prog_7_method_21_code
def yX5_levels : MethodName := ⟨RX5, "levels", "()I"⟩
abbrev cX5_listLeaves : ByteArray := prog_7_method_22_code
def yX5_listLeaves : MethodName := ⟨RX5, "listLeaves", "()I"⟩
abbrev cX5_listRowBelow : ByteArray := prog_7_method_23_code
def yX5_listRowBelow : MethodName := ⟨RX5, "listRowBelow", "(I)I"⟩
abbrev cX5_entryAt : ByteArray := prog_7_method_24_code
def yX5_entryAt : MethodName := ⟨RX5, "entryAt", "(I)J"⟩
abbrev cX5_sizeOfLeafAt : ByteArray := prog_7_method_25_code
def yX5_sizeOfLeafAt : MethodName := ⟨RX5, "sizeOfLeafAt", "(I)I"⟩
abbrev cX5_firstTwin : ByteArray := prog_7_method_26_code
def yX5_firstTwin : MethodName := ⟨RX5, "firstTwin", "()I"⟩
abbrev cX5_tell : ByteArray := prog_7_method_27_code
def yX5_tell : MethodName := ⟨RX5, "tell", "(II[I)I"⟩
abbrev cX5_costOf : ByteArray := prog_7_method_28_code
def yX5_costOf : MethodName := ⟨RX5, "costOf", "(II)I"⟩
abbrev cX5_hasJustTheRowsOf : ByteArray := prog_7_method_29_code
def yX5_hasJustTheRowsOf : MethodName := ⟨RX5, "hasJustTheRowsOf", "(LBuiltIndex$Table;)Z"⟩
abbrev cX5_sizesAreRight : ByteArray := prog_7_method_30_code
def yX5_sizesAreRight : MethodName := ⟨RX5, "sizesAreRight", "()Z"⟩
abbrev cX5_leavesAreInOneRow : ByteArray := prog_7_method_31_code
def yX5_leavesAreInOneRow : MethodName := ⟨RX5, "leavesAreInOneRow", "()Z"⟩
def RX6 : String := "BuiltIndex"
def TX6 : u_T := fun k => match k with
  | 0 => ("BuiltIndex", "table", "LBuiltIndex$Table;", true)
  | 1 => ("BuiltIndex", "disk", "LBuiltIndex$Disk;", true)
  | 2 => ("BuiltIndex", "state", "I", false)
  | 3 => ("BuiltIndex", "unique", "Z", false)
  | 4 => ("BuiltIndex", "nextPage", "I", false)
  | 5 => ("BuiltIndex", "whyStopped", "I", false)
  | 6 => ("BuiltIndex", "firstTwin", "I", false)
  | 7 => ("BuiltIndex", "secondTwin", "I", false)
  | 8 => ("BuiltIndex", "runs", "LBuiltIndex$Runs;", true)
  | 9 => ("BuiltIndex", "loader", "LBuiltIndex$Loader;", true)
  | 10 => ("BuiltIndex", "log", "LBuiltIndex$LogBeside;", true)
  | 11 => ("BuiltIndex", "tree", "LBuiltIndex$Tree;", true)
  | 12 => ("BuiltIndex", "told", "[I", true)
  | 13 => ("BuiltIndex", "toldCount", "I", false)
  | _ => ("BuiltIndex", "latestCost", "I", false)
def tyX6 : Nat → FieldType := fun k => match k with
  | 0 => .object "BuiltIndex$Table"
  | 1 => .object "BuiltIndex$Disk"
  | 2 => .int
  | 3 => .boolean
  | 4 => .int
  | 5 => .int
  | 6 => .int
  | 7 => .int
  | 8 => .object "BuiltIndex$Runs"
  | 9 => .object "BuiltIndex$Loader"
  | 10 => .object "BuiltIndex$LogBeside"
  | 11 => .object "BuiltIndex$Tree"
  | 12 => .array .int
  | 13 => .int
  | _ => .int
abbrev wsX60 : List Cond := u_ws RX6 TX6 15
theorem nmX6 : ∀ a, a < 15 → ∀ b, b < 15 → a ≠ b → (TX6 a).2.1 ≠ (TX6 b).2.1 := by decide +kernel
theorem tyX6_ok : ∀ k, k < 15 → parseFieldDescriptor (TX6 k).2.2.1 = some (tyX6 k) := by decide +kernel
abbrev cX6_init : ByteArray := prog_1_method_1_code
def yX6_init : MethodName := ⟨RX6, "<init>", "()V"⟩
abbrev cX6_add : ByteArray := prog_1_method_2_code
def yX6_add : MethodName := ⟨RX6, "add", "(II)I"⟩
abbrev cX6_change : ByteArray := prog_1_method_3_code
def yX6_change : MethodName := ⟨RX6, "change", "(III)I"⟩
abbrev cX6_remove : ByteArray := prog_1_method_4_code
def yX6_remove : MethodName := ⟨RX6, "remove", "(I)I"⟩
abbrev cX6_row : ByteArray := prog_1_method_5_code
def yX6_row : MethodName := ⟨RX6, "row", "(IZ)I"⟩
abbrev cX6_rows : ByteArray := prog_1_method_6_code
def yX6_rows : MethodName := ⟨RX6, "rows", "()I"⟩
abbrev cX6_cut : ByteArray := prog_1_method_7_code
def yX6_cut : MethodName := ⟨RX6, "cut", "(II)I"⟩
abbrev cX6_start : ByteArray := prog_1_method_8_code
def yX6_start : MethodName := ⟨RX6, "start", "()I"⟩
abbrev cX6_blocks : ByteArray := prog_1_method_9_code
def yX6_blocks : MethodName := ⟨RX6, "blocks", "(I)I"⟩
abbrev cX6_build : ByteArray := prog_1_method_10_code
def yX6_build : MethodName := ⟨RX6, "build", "(Z)I"⟩
abbrev cX6_drop : ByteArray := prog_1_method_11_code
def yX6_drop : MethodName := ⟨RX6, "drop", "()I"⟩
abbrev cX6_step : ByteArray := prog_1_method_12_code
def yX6_step : MethodName := ⟨RX6, "step", "(I)I"⟩
abbrev cX6_info : ByteArray := prog_1_method_13_code
def yX6_info : MethodName := ⟨RX6, "info", "(I)I"⟩
abbrev cX6_entry : ByteArray := prog_1_method_14_code
def yX6_entry : MethodName := ⟨RX6, "entry", "(IZ)I"⟩
abbrev cX6_leaf : ByteArray := prog_1_method_15_code
def yX6_leaf : MethodName := ⟨RX6, "leaf", "(I)I"⟩
abbrev cX6_audit : ByteArray := prog_1_method_16_code
def yX6_audit : MethodName := ⟨RX6, "audit", "()I"⟩
abbrev cX6_ask : ByteArray := prog_1_method_17_code
def yX6_ask : MethodName := ⟨RX6, "ask", "(II)I"⟩
abbrev cX6_answer : ByteArray := prog_1_method_18_code
def yX6_answer : MethodName := ⟨RX6, "answer", "(I)I"⟩
abbrev cX6_cost : ByteArray := prog_1_method_19_code
def yX6_cost : MethodName := ⟨RX6, "cost", "()I"⟩
abbrev cX6_entryOf : ByteArray := prog_1_method_20_code
def yX6_entryOf : MethodName := ⟨RX6, "entryOf", "(II)J"⟩
abbrev cX6_keyOf : ByteArray := prog_1_method_21_code
def yX6_keyOf : MethodName := ⟨RX6, "keyOf", "(J)I"⟩
abbrev cX6_placeOf : ByteArray := prog_1_method_22_code
def yX6_placeOf : MethodName := ⟨RX6, "placeOf", "(J)I"⟩
abbrev cX6_wouldRepeat : ByteArray := prog_1_method_23_code
def yX6_wouldRepeat : MethodName := ⟨RX6, "wouldRepeat", "(II)Z"⟩
abbrev cX6_writeDown : ByteArray := prog_1_method_24_code
def yX6_writeDown : MethodName := ⟨RX6, "writeDown", "()Z"⟩
abbrev cX6_makeCheckpoint : ByteArray := prog_1_method_25_code
def yX6_makeCheckpoint : MethodName := ⟨RX6, "makeCheckpoint", "(I)Z"⟩
abbrev cX6_putBlocks : ByteArray := prog_1_method_26_code
def yX6_putBlocks : MethodName := ⟨RX6, "putBlocks", "(I)Z"⟩
abbrev cX6_follow : ByteArray := prog_1_method_27_code
def yX6_follow : MethodName := ⟨RX6, "follow", "(JZ)V"⟩
abbrev cX6_bringToTree : ByteArray := prog_1_method_28_code
def yX6_bringToTree : MethodName := ⟨RX6, "bringToTree", "(JZ)V"⟩
abbrev cX6_isBuilding : ByteArray := prog_1_method_29_code
def yX6_isBuilding : MethodName := ⟨RX6, "isBuilding", "()Z"⟩
abbrev cX6_hasTree : ByteArray := prog_1_method_30_code
def yX6_hasTree : MethodName := ⟨RX6, "hasTree", "()Z"⟩
abbrev cX6_isEntryOfTree : ByteArray := prog_1_method_31_code
def yX6_isEntryOfTree : MethodName := ⟨RX6, "isEntryOfTree", "(I)Z"⟩
abbrev cX6_forgetIndex : ByteArray := prog_1_method_32_code
def yX6_forgetIndex : MethodName := ⟨RX6, "forgetIndex", "()V"⟩
abbrev cX6_forgetBuilding : ByteArray := prog_1_method_33_code
def yX6_forgetBuilding : MethodName := ⟨RX6, "forgetBuilding", "()V"⟩
abbrev cX6_stopBuilding : ByteArray := prog_1_method_34_code
def yX6_stopBuilding : MethodName := ⟨RX6, "stopBuilding", "(I)V"⟩
abbrev cX6_scanPage : ByteArray := prog_1_method_35_code
def yX6_scanPage : MethodName := ⟨RX6, "scanPage", "()Z"⟩
abbrev cX6_mergeRuns : ByteArray := prog_1_method_36_code
def yX6_mergeRuns : MethodName := ⟨RX6, "mergeRuns", "()Z"⟩
abbrev cX6_blocksFor : ByteArray := prog_1_method_37_code
def yX6_blocksFor : MethodName := ⟨RX6, "blocksFor", "(I)I"⟩
abbrev cX6_loadNode : ByteArray := prog_1_method_38_code
def yX6_loadNode : MethodName := ⟨RX6, "loadNode", "()Z"⟩
abbrev cX6_catchUp : ByteArray := prog_1_method_39_code
def yX6_catchUp : MethodName := ⟨RX6, "catchUp", "()Z"⟩
def RX7 : String := "BuiltIndexModel"
def TX7 : u_T := fun k => match k with
  | 0 => ("BuiltIndexModel", "thrown", "I", false)
  | 1 => ("BuiltIndexModel", "there", "[Z", true)
  | 2 => ("BuiltIndexModel", "key", "[I", true)
  | 3 => ("BuiltIndexModel", "value", "[I", true)
  | 4 => ("BuiltIndexModel", "down", "Z", false)
  | 5 => ("BuiltIndexModel", "cutAt", "I", false)
  | 6 => ("BuiltIndexModel", "blocks", "I", false)
  | 7 => ("BuiltIndexModel", "made", "I", false)
  | 8 => ("BuiltIndexModel", "checkpoints", "I", false)
  | 9 => ("BuiltIndexModel", "written", "I", false)
  | 10 => ("BuiltIndexModel", "dirtyPage", "[Z", true)
  | 11 => ("BuiltIndexModel", "state", "I", false)
  | 12 => ("BuiltIndexModel", "unique", "Z", false)
  | 13 => ("BuiltIndexModel", "why", "I", false)
  | 14 => ("BuiltIndexModel", "clashOne", "I", false)
  | 15 => ("BuiltIndexModel", "clashOther", "I", false)
  | 16 => ("BuiltIndexModel", "page", "I", false)
  | 17 => ("BuiltIndexModel", "picked", "I", false)
  | 18 => ("BuiltIndexModel", "pickedKey", "[I", true)
  | 19 => ("BuiltIndexModel", "pickedPlace", "[I", true)
  | 20 => ("BuiltIndexModel", "runs", "I", false)
  | 21 => ("BuiltIndexModel", "runEnd", "[I", true)
  | 22 => ("BuiltIndexModel", "logged", "I", false)
  | 23 => ("BuiltIndexModel", "logCame", "[Z", true)
  | 24 => ("BuiltIndexModel", "logKey", "[I", true)
  | 25 => ("BuiltIndexModel", "logPlace", "[I", true)
  | 26 => ("BuiltIndexModel", "loaded", "I", false)
  | 27 => ("BuiltIndexModel", "leavesDone", "Z", false)
  | 28 => ("BuiltIndexModel", "before", "I", false)
  | 29 => ("BuiltIndexModel", "rowBefore", "[I", true)
  | 30 => ("BuiltIndexModel", "taken", "I", false)
  | 31 => ("BuiltIndexModel", "now", "I", false)
  | 32 => ("BuiltIndexModel", "rowNow", "[I", true)
  | 33 => ("BuiltIndexModel", "nodes", "I", false)
  | 34 => ("BuiltIndexModel", "root", "I", false)
  | 35 => ("BuiltIndexModel", "used", "[Z", true)
  | 36 => ("BuiltIndexModel", "leaf", "[Z", true)
  | 37 => ("BuiltIndexModel", "dirty", "[Z", true)
  | 38 => ("BuiltIndexModel", "count", "[I", true)
  | 39 => ("BuiltIndexModel", "keys", "[I", true)
  | 40 => ("BuiltIndexModel", "places", "[I", true)
  | 41 => ("BuiltIndexModel", "child", "[I", true)
  | 42 => ("BuiltIndexModel", "answers", "I", false)
  | 43 => ("BuiltIndexModel", "answer", "[I", true)
  | 44 => ("BuiltIndexModel", "cost", "I", false)
  | 45 => ("BuiltIndexModel", "deep", "I", false)
  | 46 => ("BuiltIndexModel", "path", "[I", true)
  | 47 => ("BuiltIndexModel", "turn", "[I", true)
  | 48 => ("BuiltIndexModel", "spareKey", "[I", true)
  | 49 => ("BuiltIndexModel", "sparePlace", "[I", true)
  | 50 => ("BuiltIndexModel", "leaves", "I", false)
  | _ => ("BuiltIndexModel", "leafAt", "[I", true)
def tyX7 : Nat → FieldType := fun k => match k with
  | 0 => .int
  | 1 => .array .boolean
  | 2 => .array .int
  | 3 => .array .int
  | 4 => .boolean
  | 5 => .int
  | 6 => .int
  | 7 => .int
  | 8 => .int
  | 9 => .int
  | 10 => .array .boolean
  | 11 => .int
  | 12 => .boolean
  | 13 => .int
  | 14 => .int
  | 15 => .int
  | 16 => .int
  | 17 => .int
  | 18 => .array .int
  | 19 => .array .int
  | 20 => .int
  | 21 => .array .int
  | 22 => .int
  | 23 => .array .boolean
  | 24 => .array .int
  | 25 => .array .int
  | 26 => .int
  | 27 => .boolean
  | 28 => .int
  | 29 => .array .int
  | 30 => .int
  | 31 => .int
  | 32 => .array .int
  | 33 => .int
  | 34 => .int
  | 35 => .array .boolean
  | 36 => .array .boolean
  | 37 => .array .boolean
  | 38 => .array .int
  | 39 => .array .int
  | 40 => .array .int
  | 41 => .array .int
  | 42 => .int
  | 43 => .array .int
  | 44 => .int
  | 45 => .int
  | 46 => .array .int
  | 47 => .array .int
  | 48 => .array .int
  | 49 => .array .int
  | 50 => .int
  | _ => .array .int
abbrev wsX70 : List Cond := u_ws RX7 TX7 52
theorem nmX7 : ∀ a, a < 52 → ∀ b, b < 52 → a ≠ b → (TX7 a).2.1 ≠ (TX7 b).2.1 := by decide +kernel
theorem tyX7_ok : ∀ k, k < 52 → parseFieldDescriptor (TX7 k).2.2.1 = some (tyX7 k) := by decide +kernel
abbrev cX7_init : ByteArray := prog_9_method_1_code
def yX7_init : MethodName := ⟨RX7, "<init>", "()V"⟩
abbrev cX7_thrown : ByteArray := prog_9_method_2_code
def yX7_thrown : MethodName := ⟨RX7, "thrown", "()I"⟩
abbrev cX7_in : ByteArray := prog_9_method_3_code
def yX7_in : MethodName := ⟨RX7, "in", "(III)Z"⟩
abbrev cX7_block : ByteArray := prog_9_method_4_code
def yX7_block : MethodName := ⟨RX7, "block", "()Z"⟩
abbrev cX7_writeBlocks : ByteArray := prog_9_method_5_code
def yX7_writeBlocks : MethodName := ⟨RX7, "writeBlocks", "(I)Z"⟩
abbrev cX7_checkpoint : ByteArray := prog_9_method_6_code
def yX7_checkpoint : MethodName := ⟨RX7, "checkpoint", "(I)Z"⟩
abbrev cX7_dirtyNodes : ByteArray := prog_9_method_7_code
def yX7_dirtyNodes : MethodName := ⟨RX7, "dirtyNodes", "()I"⟩
abbrev cX7_writeDown : ByteArray := prog_9_method_8_code
def yX7_writeDown : MethodName := ⟨RX7, "writeDown", "()Z"⟩
abbrev cX7_forget : ByteArray := prog_9_method_9_code
def yX7_forget : MethodName := ⟨RX7, "forget", "()V"⟩
abbrev cX7_stop : ByteArray := prog_9_method_10_code
def yX7_stop : MethodName := ⟨RX7, "stop", "(I)V"⟩
abbrev cX7_newNode : ByteArray := prog_9_method_11_code
def yX7_newNode : MethodName := ⟨RX7, "newNode", "(Z)I"⟩
abbrev cX7_giveBack : ByteArray := prog_9_method_12_code
def yX7_giveBack : MethodName := ⟨RX7, "giveBack", "(I)V"⟩
abbrev cX7_isBefore : ByteArray := prog_9_method_13_code
def yX7_isBefore : MethodName := ⟨RX7, "isBefore", "(IIII)Z"⟩
abbrev cX7_firstLeaf : ByteArray := prog_9_method_14_code
def yX7_firstLeaf : MethodName := ⟨RX7, "firstLeaf", "(I)I"⟩
abbrev cX7_descend : ByteArray := prog_9_method_15_code
def yX7_descend : MethodName := ⟨RX7, "descend", "(II)V"⟩
abbrev cX7_copySlot : ByteArray := prog_9_method_16_code
def yX7_copySlot : MethodName := ⟨RX7, "copySlot", "(II)V"⟩
abbrev cX7_openSlot : ByteArray := prog_9_method_17_code
def yX7_openSlot : MethodName := ⟨RX7, "openSlot", "(II)V"⟩
abbrev cX7_closeSlot : ByteArray := prog_9_method_18_code
def yX7_closeSlot : MethodName := ⟨RX7, "closeSlot", "(II)V"⟩
abbrev cX7_comes : ByteArray := prog_9_method_19_code
def yX7_comes : MethodName := ⟨RX7, "comes", "(II)V"⟩
abbrev cX7_goes : ByteArray := prog_9_method_20_code
def yX7_goes : MethodName := ⟨RX7, "goes", "(II)V"⟩
abbrev cX7_note : ByteArray := prog_9_method_21_code
def yX7_note : MethodName := ⟨RX7, "note", "(ZII)V"⟩
abbrev cX7_clashes : ByteArray := prog_9_method_22_code
def yX7_clashes : MethodName := ⟨RX7, "clashes", "(II)Z"⟩
abbrev cX7_add : ByteArray := prog_9_method_23_code
def yX7_add : MethodName := ⟨RX7, "add", "(II)I"⟩
abbrev cX7_isRow : ByteArray := prog_9_method_24_code
def yX7_isRow : MethodName := ⟨RX7, "isRow", "(I)Z"⟩
abbrev cX7_change : ByteArray := prog_9_method_25_code
def yX7_change : MethodName := ⟨RX7, "change", "(III)I"⟩
abbrev cX7_remove : ByteArray := prog_9_method_26_code
def yX7_remove : MethodName := ⟨RX7, "remove", "(I)I"⟩
abbrev cX7_row : ByteArray := prog_9_method_27_code
def yX7_row : MethodName := ⟨RX7, "row", "(IZ)I"⟩
abbrev cX7_cut : ByteArray := prog_9_method_28_code
def yX7_cut : MethodName := ⟨RX7, "cut", "(II)I"⟩
abbrev cX7_start : ByteArray := prog_9_method_29_code
def yX7_start : MethodName := ⟨RX7, "start", "()I"⟩
abbrev cX7_rowCount : ByteArray := prog_9_method_30_code
def yX7_rowCount : MethodName := ⟨RX7, "rowCount", "()I"⟩
abbrev cX7_build : ByteArray := prog_9_method_31_code
def yX7_build : MethodName := ⟨RX7, "build", "(Z)I"⟩
abbrev cX7_drop : ByteArray := prog_9_method_32_code
def yX7_drop : MethodName := ⟨RX7, "drop", "()I"⟩
abbrev cX7_runFrom : ByteArray := prog_9_method_33_code
def yX7_runFrom : MethodName := ⟨RX7, "runFrom", "(I)I"⟩
abbrev cX7_sort : ByteArray := prog_9_method_34_code
def yX7_sort : MethodName := ⟨RX7, "sort", "(II)V"⟩
abbrev cX7_scanStep : ByteArray := prog_9_method_35_code
def yX7_scanStep : MethodName := ⟨RX7, "scanStep", "()Z"⟩
abbrev cX7_mergeStep : ByteArray := prog_9_method_36_code
def yX7_mergeStep : MethodName := ⟨RX7, "mergeStep", "()Z"⟩
abbrev cX7_loadStep : ByteArray := prog_9_method_37_code
def yX7_loadStep : MethodName := ⟨RX7, "loadStep", "()Z"⟩
abbrev cX7_catchStep : ByteArray := prog_9_method_38_code
def yX7_catchStep : MethodName := ⟨RX7, "catchStep", "()Z"⟩
abbrev cX7_findClash : ByteArray := prog_9_method_39_code
def yX7_findClash : MethodName := ⟨RX7, "findClash", "()Z"⟩
abbrev cX7_step : ByteArray := prog_9_method_40_code
def yX7_step : MethodName := ⟨RX7, "step", "(I)I"⟩
abbrev cX7_height : ByteArray := prog_9_method_41_code
def yX7_height : MethodName := ⟨RX7, "height", "()I"⟩
abbrev cX7_goThrough : ByteArray := prog_9_method_42_code
def yX7_goThrough : MethodName := ⟨RX7, "goThrough", "()V"⟩
abbrev cX7_entries : ByteArray := prog_9_method_43_code
def yX7_entries : MethodName := ⟨RX7, "entries", "()I"⟩
abbrev cX7_info : ByteArray := prog_9_method_44_code
def yX7_info : MethodName := ⟨RX7, "info", "(I)I"⟩
abbrev cX7_slotOf : ByteArray := prog_9_method_45_code
def yX7_slotOf : MethodName := ⟨RX7, "slotOf", "(I)I"⟩
abbrev cX7_entry : ByteArray := prog_9_method_46_code
def yX7_entry : MethodName := ⟨RX7, "entry", "(IZ)I"⟩
abbrev cX7_leaf : ByteArray := prog_9_method_47_code
def yX7_leaf : MethodName := ⟨RX7, "leaf", "(I)I"⟩
abbrev cX7_ask : ByteArray := prog_9_method_48_code
def yX7_ask : MethodName := ⟨RX7, "ask", "(II)I"⟩
abbrev cX7_answer : ByteArray := prog_9_method_49_code
def yX7_answer : MethodName := ⟨RX7, "answer", "(I)I"⟩
abbrev cX7_cost : ByteArray := prog_9_method_50_code
def yX7_cost : MethodName := ⟨RX7, "cost", "()I"⟩
abbrev cX7_blocks : ByteArray := prog_9_method_51_code
def yX7_blocks : MethodName := ⟨RX7, "blocks", "(I)I"⟩
abbrev cX7_rows : ByteArray := prog_9_method_52_code
def yX7_rows : MethodName := ⟨RX7, "rows", "()I"⟩
abbrev cX7_audit : ByteArray := prog_9_method_53_code
def yX7_audit : MethodName := ⟨RX7, "audit", "()I"⟩
def RL : String := "BuiltIndexLaw"
abbrev cL_row : ByteArray := method_3_code
def yL_row : MethodName := ⟨RL, "row", "(LBuiltIndex;IZ[J)I"⟩
abbrev cL_entry : ByteArray := method_4_code
def yL_entry : MethodName := ⟨RL, "entry", "(LBuiltIndex;IZ[J)I"⟩
abbrev cL_law : ByteArray := code
def yL_law : MethodName := ⟨RL, "law", "([I)Z"⟩
def wsL_law0_r1 : List Cond := [Cond.classLink RL 8 RX6, Cond.instantiable RX6 15, Cond.initialized RX6, Cond.classLink RL 21 RX7, Cond.instantiable RX7 52, Cond.initialized RX7, Cond.arrayClass .long, Cond.methodLink RL 20 yX6_init, Cond.instanceMethod yX6_init, Cond.code yX6_init cX6_init 1 none, Cond.methodLink RX6 1 objectInit, Cond.instanceMethod objectInit, Cond.code objectInit ⟨#[0xb1]⟩ 1 none, Cond.classLink RX6 7 RX4, Cond.instantiable RX4 5, Cond.initialized RX4, Cond.fieldLink RX6 10 "BuiltIndex" "table" "LBuiltIndex$Table;", Cond.classLink RX6 16 RX0, Cond.instantiable RX0 6, Cond.initialized RX0, Cond.fieldLink RX6 19 "BuiltIndex" "disk" "LBuiltIndex$Disk;", Cond.fieldLink RX6 23 "BuiltIndex" "state" "I", Cond.fieldLink RX6 27 "BuiltIndex" "unique" "Z", Cond.fieldLink RX6 31 "BuiltIndex" "nextPage" "I"]
def wsL_law0_r2 : List Cond := [Cond.fieldLink RX6 34 "BuiltIndex" "whyStopped" "I", Cond.fieldLink RX6 37 "BuiltIndex" "firstTwin" "I", Cond.fieldLink RX6 40 "BuiltIndex" "secondTwin" "I", Cond.classLink RX6 43 RX3, Cond.instantiable RX3 7, Cond.initialized RX3, Cond.fieldLink RX6 46 "BuiltIndex" "runs" "LBuiltIndex$Runs;", Cond.classLink RX6 50 RX1, Cond.instantiable RX1 4, Cond.initialized RX1, Cond.fieldLink RX6 53 "BuiltIndex" "loader" "LBuiltIndex$Loader;", Cond.classLink RX6 57 RX2, Cond.instantiable RX2 4, Cond.initialized RX2, Cond.fieldLink RX6 60 "BuiltIndex" "log" "LBuiltIndex$LogBeside;", Cond.classLink RX6 64 RX5, Cond.instantiable RX5 13, Cond.initialized RX5, Cond.fieldLink RX6 67 "BuiltIndex" "tree" "LBuiltIndex$Tree;", Cond.arrayClass .int, Cond.fieldLink RX6 71 "BuiltIndex" "told" "[I", Cond.fieldLink RX6 75 "BuiltIndex" "toldCount" "I", Cond.fieldLink RX6 78 "BuiltIndex" "latestCost" "I", Cond.instanceMethod yX4_init]
def wsL_law0_r3 : List Cond := [Cond.code yX4_init cX4_init 1 none, Cond.methodLink RX4 3 objectInit, Cond.fieldLink RX4 9 "BuiltIndex$Table" "keys" "[I", Cond.fieldLink RX4 15 "BuiltIndex$Table" "values" "[I", Cond.arrayClass .boolean, Cond.fieldLink RX4 18 "BuiltIndex$Table" "present" "[Z", Cond.fieldLink RX4 22 "BuiltIndex$Table" "touched" "[Z", Cond.fieldLink RX4 25 "BuiltIndex$Table" "count" "I", Cond.instanceMethod yX0_init, Cond.code yX0_init cX0_init 1 none, Cond.methodLink RX0 3 objectInit, Cond.fieldLink RX0 9 "BuiltIndex$Disk" "down" "Z", Cond.fieldLink RX0 15 "BuiltIndex$Disk" "blocksTillLoss" "I", Cond.fieldLink RX0 19 "BuiltIndex$Disk" "allBlocks" "I", Cond.fieldLink RX0 22 "BuiltIndex$Disk" "checkpointBlocks" "I", Cond.fieldLink RX0 25 "BuiltIndex$Disk" "checkpoints" "I", Cond.fieldLink RX0 28 "BuiltIndex$Disk" "writesSince" "I", Cond.instanceMethod yX3_init, Cond.code yX3_init cX3_init 1 none, Cond.methodLink RX3 3 objectInit, Cond.fieldLink RX3 9 "BuiltIndex$Runs" "picked" "[J", Cond.fieldLink RX3 15 "BuiltIndex$Runs" "pickedCount" "I", Cond.fieldLink RX3 19 "BuiltIndex$Runs" "sorted" "[J", Cond.fieldLink RX3 22 "BuiltIndex$Runs" "merged" "[J"]
def wsL_law0_r4 : List Cond := [Cond.fieldLink RX3 25 "BuiltIndex$Runs" "total" "I", Cond.fieldLink RX3 28 "BuiltIndex$Runs" "lengths" "[I", Cond.fieldLink RX3 32 "BuiltIndex$Runs" "count" "I", Cond.instanceMethod yX1_init, Cond.code yX1_init cX1_init 1 none, Cond.methodLink RX1 3 objectInit, Cond.fieldLink RX1 9 "BuiltIndex$Loader" "makesLeaves" "Z", Cond.fieldLink RX1 15 "BuiltIndex$Loader" "next" "I", Cond.fieldLink RX1 19 "BuiltIndex$Loader" "end" "I", Cond.fieldLink RX1 22 "BuiltIndex$Loader" "rowBegin" "I", Cond.instanceMethod yX2_init, Cond.code yX2_init cX2_init 1 none, Cond.methodLink RX2 3 objectInit, Cond.fieldLink RX2 9 "BuiltIndex$LogBeside" "entries" "[J", Cond.fieldLink RX2 15 "BuiltIndex$LogBeside" "comes" "[Z", Cond.fieldLink RX2 19 "BuiltIndex$LogBeside" "first" "I", Cond.fieldLink RX2 23 "BuiltIndex$LogBeside" "count" "I", Cond.instanceMethod yX5_init, Cond.code yX5_init cX5_init 1 none, Cond.methodLink RX5 3 objectInit, Cond.classLink RX5 9 "[[J", Cond.fieldLink RX5 11 "BuiltIndex$Tree" "held" "[[J", Cond.fieldLink RX5 16 "BuiltIndex$Tree" "size" "[I", Cond.fieldLink RX5 20 "BuiltIndex$Tree" "overNodes" "[Z"]
def wsL_law0_r5 : List Cond := [Cond.fieldLink RX5 24 "BuiltIndex$Tree" "used" "[Z", Cond.fieldLink RX5 27 "BuiltIndex$Tree" "touched" "[Z", Cond.fieldLink RX5 30 "BuiltIndex$Tree" "nodeCount" "I", Cond.fieldLink RX5 34 "BuiltIndex$Tree" "entryCount" "I", Cond.fieldLink RX5 37 "BuiltIndex$Tree" "root" "I", Cond.fieldLink RX5 40 "BuiltIndex$Tree" "way" "[I", Cond.fieldLink RX5 43 "BuiltIndex$Tree" "wayAt" "[I", Cond.fieldLink RX5 46 "BuiltIndex$Tree" "wayEnd" "I", Cond.fieldLink RX5 49 "BuiltIndex$Tree" "listed" "[I", Cond.fieldLink RX5 52 "BuiltIndex$Tree" "below" "[I", Cond.methodLink RL 23 yX7_init, Cond.instanceMethod yX7_init, Cond.code yX7_init cX7_init 1 none, Cond.methodLink RX7 1 objectInit, Cond.fieldLink RX7 7 "BuiltIndexModel" "there" "[Z", Cond.fieldLink RX7 13 "BuiltIndexModel" "key" "[I", Cond.fieldLink RX7 17 "BuiltIndexModel" "value" "[I", Cond.fieldLink RX7 20 "BuiltIndexModel" "cutAt" "I", Cond.fieldLink RX7 24 "BuiltIndexModel" "dirtyPage" "[Z", Cond.fieldLink RX7 27 "BuiltIndexModel" "clashOne" "I", Cond.fieldLink RX7 30 "BuiltIndexModel" "clashOther" "I", Cond.fieldLink RX7 33 "BuiltIndexModel" "pickedKey" "[I", Cond.fieldLink RX7 36 "BuiltIndexModel" "pickedPlace" "[I", Cond.fieldLink RX7 39 "BuiltIndexModel" "runEnd" "[I"]
def wsL_law0_r6 : List Cond := [Cond.fieldLink RX7 42 "BuiltIndexModel" "logCame" "[Z", Cond.fieldLink RX7 45 "BuiltIndexModel" "logKey" "[I", Cond.fieldLink RX7 48 "BuiltIndexModel" "logPlace" "[I", Cond.fieldLink RX7 51 "BuiltIndexModel" "rowBefore" "[I", Cond.fieldLink RX7 54 "BuiltIndexModel" "rowNow" "[I", Cond.fieldLink RX7 57 "BuiltIndexModel" "used" "[Z", Cond.fieldLink RX7 60 "BuiltIndexModel" "leaf" "[Z", Cond.fieldLink RX7 63 "BuiltIndexModel" "dirty" "[Z", Cond.fieldLink RX7 66 "BuiltIndexModel" "count" "[I", Cond.fieldLink RX7 69 "BuiltIndexModel" "keys" "[I", Cond.fieldLink RX7 72 "BuiltIndexModel" "places" "[I", Cond.fieldLink RX7 75 "BuiltIndexModel" "child" "[I", Cond.fieldLink RX7 78 "BuiltIndexModel" "answer" "[I", Cond.fieldLink RX7 81 "BuiltIndexModel" "path" "[I", Cond.fieldLink RX7 84 "BuiltIndexModel" "turn" "[I", Cond.fieldLink RX7 87 "BuiltIndexModel" "spareKey" "[I", Cond.fieldLink RX7 90 "BuiltIndexModel" "sparePlace" "[I", Cond.fieldLink RX7 93 "BuiltIndexModel" "leafAt" "[I", Cond.methodLink RL 24 yX6_add, Cond.instanceMethod yX6_add, Cond.selects RX6 yX6_add yX6_add, Cond.code yX6_add cX6_add 4 (some .int), Cond.methodLink RX6 81 yX0_isDown, Cond.instanceMethod yX0_isDown]
def wsL_law0_r7 : List Cond := [Cond.selects RX0 yX0_isDown yX0_isDown, Cond.code yX0_isDown cX0_isDown 1 (some .boolean), Cond.methodLink RX6 85 yX4_firstFree, Cond.instanceMethod yX4_firstFree, Cond.selects RX4 yX4_firstFree yX4_firstFree, Cond.code yX4_firstFree cX4_firstFree 2 (some .int), Cond.methodLink RX6 89 yX6_wouldRepeat, Cond.instanceMethod yX6_wouldRepeat, Cond.selects RX6 yX6_wouldRepeat yX6_wouldRepeat, Cond.code yX6_wouldRepeat cX6_wouldRepeat 3 (some .boolean), Cond.methodLink RX6 225 yX4_hasKeyBeside, Cond.instanceMethod yX4_hasKeyBeside, Cond.selects RX4 yX4_hasKeyBeside yX4_hasKeyBeside, Cond.code yX4_hasKeyBeside cX4_hasKeyBeside 4 (some .boolean), Cond.methodLink RX6 93 yX6_writeDown, Cond.instanceMethod yX6_writeDown, Cond.selects RX6 yX6_writeDown yX6_writeDown, Cond.code yX6_writeDown cX6_writeDown 2 (some .boolean), Cond.methodLink RX6 228 yX0_writesSinceCheckpoint, Cond.instanceMethod yX0_writesSinceCheckpoint, Cond.selects RX0 yX0_writesSinceCheckpoint yX0_writesSinceCheckpoint, Cond.code yX0_writesSinceCheckpoint cX0_writesSinceCheckpoint 1 (some .int), Cond.methodLink RX6 231 yX5_touchedCount, Cond.instanceMethod yX5_touchedCount]
def wsL_law0_r8 : List Cond := [Cond.selects RX5 yX5_touchedCount yX5_touchedCount, Cond.code yX5_touchedCount cX5_touchedCount 3 (some .int), Cond.methodLink RX6 150 yX6_makeCheckpoint, Cond.instanceMethod yX6_makeCheckpoint, Cond.selects RX6 yX6_makeCheckpoint yX6_makeCheckpoint, Cond.code yX6_makeCheckpoint cX6_makeCheckpoint 3 (some .boolean), Cond.methodLink RX6 240 yX4_touchedPages, Cond.instanceMethod yX4_touchedPages, Cond.selects RX4 yX4_touchedPages yX4_touchedPages, Cond.code yX4_touchedPages cX4_touchedPages 3 (some .int), Cond.methodLink RX6 234 yX6_putBlocks, Cond.instanceMethod yX6_putBlocks, Cond.selects RX6 yX6_putBlocks yX6_putBlocks, Cond.code yX6_putBlocks cX6_putBlocks 2 (some .boolean), Cond.methodLink RX6 250 yX0_put, Cond.instanceMethod yX0_put, Cond.selects RX0 yX0_put yX0_put, Cond.code yX0_put cX0_put 3 (some .boolean), Cond.methodLink RX6 147 yX6_forgetIndex, Cond.instanceMethod yX6_forgetIndex, Cond.selects RX6 yX6_forgetIndex yX6_forgetIndex, Cond.code yX6_forgetIndex cX6_forgetIndex 1 none, Cond.methodLink RX6 270 yX6_forgetBuilding, Cond.instanceMethod yX6_forgetBuilding]
def wsL_law0_r9 : List Cond := [Cond.selects RX6 yX6_forgetBuilding yX6_forgetBuilding, Cond.code yX6_forgetBuilding cX6_forgetBuilding 1 none, Cond.methodLink RX6 276 yX3_clear, Cond.instanceMethod yX3_clear, Cond.selects RX3 yX3_clear yX3_clear, Cond.code yX3_clear cX3_clear 1 none, Cond.methodLink RX6 277 yX2_clear, Cond.instanceMethod yX2_clear, Cond.selects RX2 yX2_clear yX2_clear, Cond.code yX2_clear cX2_clear 1 none, Cond.methodLink RX6 273 yX5_clear, Cond.instanceMethod yX5_clear, Cond.selects RX5 yX5_clear yX5_clear, Cond.code yX5_clear cX5_clear 2 none, Cond.methodLink RX6 243 yX0_noteCheckpoint, Cond.instanceMethod yX0_noteCheckpoint, Cond.selects RX0 yX0_noteCheckpoint yX0_noteCheckpoint, Cond.code yX0_noteCheckpoint cX0_noteCheckpoint 2 none, Cond.methodLink RX6 246 yX4_untouch, Cond.instanceMethod yX4_untouch, Cond.selects RX4 yX4_untouch yX4_untouch, Cond.code yX4_untouch cX4_untouch 2 none, Cond.methodLink RX6 249 yX5_untouch, Cond.instanceMethod yX5_untouch]
def wsL_law0_r10 : List Cond := [Cond.selects RX5 yX5_untouch yX5_untouch, Cond.code yX5_untouch cX5_untouch 2 none, Cond.methodLink RX6 237 yX0_noteWrite, Cond.instanceMethod yX0_noteWrite, Cond.selects RX0 yX0_noteWrite yX0_noteWrite, Cond.code yX0_noteWrite cX0_noteWrite 1 none, Cond.methodLink RX6 96 yX4_put, Cond.instanceMethod yX4_put, Cond.selects RX4 yX4_put yX4_put, Cond.code yX4_put cX4_put 4 none, Cond.methodLink RX6 100 yX6_entryOf, Cond.static yX6_entryOf, Cond.code yX6_entryOf cX6_entryOf 2 (some .long), Cond.methodLink RX6 104 yX6_follow, Cond.instanceMethod yX6_follow, Cond.selects RX6 yX6_follow yX6_follow, Cond.code yX6_follow cX6_follow 4 none, Cond.methodLink RX6 252 yX6_bringToTree, Cond.instanceMethod yX6_bringToTree, Cond.selects RX6 yX6_bringToTree yX6_bringToTree, Cond.code yX6_bringToTree cX6_bringToTree 4 none, Cond.methodLink RX6 262 yX5_letGo, Cond.instanceMethod yX5_letGo, Cond.selects RX5 yX5_letGo yX5_letGo]
def wsL_law0_r11 : List Cond := [Cond.code yX5_letGo cX5_letGo 7 none, Cond.methodLink RX5 69 yX5_goDown, Cond.instanceMethod yX5_goDown, Cond.selects RX5 yX5_goDown yX5_goDown, Cond.code yX5_goDown cX5_goDown 5 none, Cond.methodLink RX5 61 yX5_kidOf, Cond.instanceMethod yX5_kidOf, Cond.selects RX5 yX5_kidOf yX5_kidOf, Cond.code yX5_kidOf cX5_kidOf 5 (some .int), Cond.constantLong RX5 59 (64), Cond.methodLink RX5 65 yX5_leastOf, Cond.instanceMethod yX5_leastOf, Cond.selects RX5 yX5_leastOf yX5_leastOf, Cond.code yX5_leastOf cX5_leastOf 4 (some .long), Cond.methodLink RX5 89 yX5_takeOut, Cond.instanceMethod yX5_takeOut, Cond.selects RX5 yX5_takeOut yX5_takeOut, Cond.code yX5_takeOut cX5_takeOut 4 none, Cond.methodLink RX5 92 yX5_freeNode, Cond.instanceMethod yX5_freeNode, Cond.selects RX5 yX5_freeNode yX5_freeNode, Cond.code yX5_freeNode cX5_freeNode 2 none, Cond.methodLink RX6 266 yX5_letCome, Cond.instanceMethod yX5_letCome]
def wsL_law0_r12 : List Cond := [Cond.selects RX5 yX5_letCome yX5_letCome, Cond.code yX5_letCome cX5_letCome 6 (some .boolean), Cond.methodLink RX5 73 yX5_newNodesOnWay, Cond.instanceMethod yX5_newNodesOnWay, Cond.selects RX5 yX5_newNodesOnWay yX5_newNodesOnWay, Cond.code yX5_newNodesOnWay cX5_newNodesOnWay 3 (some .int), Cond.methodLink RX5 55 yX5_putIn, Cond.instanceMethod yX5_putIn, Cond.selects RX5 yX5_putIn yX5_putIn, Cond.code yX5_putIn cX5_putIn 6 none, Cond.methodLink RX5 77 yX5_divide, Cond.instanceMethod yX5_divide, Cond.selects RX5 yX5_divide yX5_divide, Cond.code yX5_divide cX5_divide 5 none, Cond.methodLink RX5 81 yX5_newNode, Cond.instanceMethod yX5_newNode, Cond.selects RX5 yX5_newNode yX5_newNode, Cond.code yX5_newNode cX5_newNode 3 (some .int), Cond.methodLink RX5 85 yX5_putRootOver, Cond.instanceMethod yX5_putRootOver, Cond.selects RX5 yX5_putRootOver yX5_putRootOver, Cond.code yX5_putRootOver cX5_putRootOver 4 none, Cond.methodLink RX6 259 yX6_stopBuilding, Cond.instanceMethod yX6_stopBuilding]
def wsL_law0_r13 : List Cond := [Cond.selects RX6 yX6_stopBuilding yX6_stopBuilding, Cond.code yX6_stopBuilding cX6_stopBuilding 2 none, Cond.methodLink RX6 153 yX6_isBuilding, Cond.instanceMethod yX6_isBuilding, Cond.selects RX6 yX6_isBuilding yX6_isBuilding, Cond.code yX6_isBuilding cX6_isBuilding 1 (some .boolean), Cond.methodLink RX6 194 yX6_placeOf, Cond.static yX6_placeOf, Cond.code yX6_placeOf cX6_placeOf 2 (some .int), Cond.constantLong RX6 223 (255), Cond.methodLink RX6 255 yX2_append, Cond.instanceMethod yX2_append, Cond.selects RX2 yX2_append yX2_append, Cond.code yX2_append cX2_append 5 (some .boolean), Cond.methodLink RL 28 yX7_add, Cond.instanceMethod yX7_add, Cond.selects RX7 yX7_add yX7_add, Cond.code yX7_add cX7_add 4 (some .int), Cond.fieldLink RX7 96 "BuiltIndexModel" "thrown" "I", Cond.fieldLink RX7 102 "BuiltIndexModel" "down" "Z", Cond.methodLink RX7 205 yX7_clashes, Cond.instanceMethod yX7_clashes, Cond.selects RX7 yX7_clashes yX7_clashes, Cond.code yX7_clashes cX7_clashes 5 (some .boolean)]
def wsL_law0_r14 : List Cond := [Cond.fieldLink RX7 106 "BuiltIndexModel" "state" "I", Cond.fieldLink RX7 154 "BuiltIndexModel" "unique" "Z", Cond.methodLink RX7 209 yX7_writeDown, Cond.instanceMethod yX7_writeDown, Cond.selects RX7 yX7_writeDown yX7_writeDown, Cond.code yX7_writeDown cX7_writeDown 1 (some .boolean), Cond.fieldLink RX7 126 "BuiltIndexModel" "written" "I", Cond.methodLink RX7 129 yX7_dirtyNodes, Cond.instanceMethod yX7_dirtyNodes, Cond.selects RX7 yX7_dirtyNodes yX7_dirtyNodes, Cond.code yX7_dirtyNodes cX7_dirtyNodes 3 (some .int), Cond.methodLink RX7 133 yX7_checkpoint, Cond.instanceMethod yX7_checkpoint, Cond.selects RX7 yX7_checkpoint yX7_checkpoint, Cond.code yX7_checkpoint cX7_checkpoint 4 (some .boolean), Cond.fieldLink RX7 120 "BuiltIndexModel" "made" "I", Cond.fieldLink RX7 123 "BuiltIndexModel" "checkpoints" "I", Cond.methodLink RX7 116 yX7_writeBlocks, Cond.instanceMethod yX7_writeBlocks, Cond.selects RX7 yX7_writeBlocks yX7_writeBlocks, Cond.code yX7_writeBlocks cX7_writeBlocks 4 (some .boolean), Cond.methodLink RX7 112 yX7_block, Cond.instanceMethod yX7_block, Cond.selects RX7 yX7_block yX7_block]
def wsL_law0_r15 : List Cond := [Cond.code yX7_block cX7_block 1 (some .boolean), Cond.fieldLink RX7 99 "BuiltIndexModel" "blocks" "I", Cond.methodLink RX7 109 yX7_forget, Cond.instanceMethod yX7_forget, Cond.selects RX7 yX7_forget yX7_forget, Cond.code yX7_forget cX7_forget 2 none, Cond.fieldLink RX7 136 "BuiltIndexModel" "why" "I", Cond.fieldLink RX7 139 "BuiltIndexModel" "page" "I", Cond.fieldLink RX7 142 "BuiltIndexModel" "picked" "I", Cond.fieldLink RX7 145 "BuiltIndexModel" "runs" "I", Cond.fieldLink RX7 148 "BuiltIndexModel" "logged" "I", Cond.fieldLink RX7 151 "BuiltIndexModel" "nodes" "I", Cond.methodLink RX7 212 yX7_note, Cond.instanceMethod yX7_note, Cond.selects RX7 yX7_note yX7_note, Cond.code yX7_note cX7_note 4 none, Cond.methodLink RX7 192 yX7_comes, Cond.instanceMethod yX7_comes, Cond.selects RX7 yX7_comes yX7_comes, Cond.code yX7_comes cX7_comes 7 none, Cond.fieldLink RX7 157 "BuiltIndexModel" "deep" "I", Cond.fieldLink RX7 160 "BuiltIndexModel" "root" "I", Cond.methodLink RX7 175 yX7_descend, Cond.instanceMethod yX7_descend]
def wsL_law0_r16 : List Cond := [Cond.selects RX7 yX7_descend yX7_descend, Cond.code yX7_descend cX7_descend 7 none, Cond.methodLink RX7 163 yX7_firstLeaf, Cond.instanceMethod yX7_firstLeaf, Cond.selects RX7 yX7_firstLeaf yX7_firstLeaf, Cond.code yX7_firstLeaf cX7_firstLeaf 3 (some .int), Cond.methodLink RX7 167 yX7_isBefore, Cond.static yX7_isBefore, Cond.code yX7_isBefore cX7_isBefore 4 (some .boolean), Cond.methodLink RX7 178 yX7_openSlot, Cond.instanceMethod yX7_openSlot, Cond.selects RX7 yX7_openSlot yX7_openSlot, Cond.code yX7_openSlot cX7_openSlot 4 none, Cond.methodLink RX7 171 yX7_copySlot, Cond.instanceMethod yX7_copySlot, Cond.selects RX7 yX7_copySlot yX7_copySlot, Cond.code yX7_copySlot cX7_copySlot 3 none, Cond.methodLink RX7 181 yX7_newNode, Cond.instanceMethod yX7_newNode, Cond.selects RX7 yX7_newNode yX7_newNode, Cond.code yX7_newNode cX7_newNode 3 (some .int), Cond.methodLink RX7 195 yX7_goes, Cond.instanceMethod yX7_goes, Cond.selects RX7 yX7_goes yX7_goes]
def wsL_law0_r17 : List Cond := [Cond.code yX7_goes cX7_goes 6 none, Cond.methodLink RX7 185 yX7_closeSlot, Cond.instanceMethod yX7_closeSlot, Cond.selects RX7 yX7_closeSlot yX7_closeSlot, Cond.code yX7_closeSlot cX7_closeSlot 4 none, Cond.methodLink RX7 188 yX7_giveBack, Cond.instanceMethod yX7_giveBack, Cond.selects RX7 yX7_giveBack yX7_giveBack, Cond.code yX7_giveBack cX7_giveBack 2 none, Cond.methodLink RX7 198 yX7_stop, Cond.instanceMethod yX7_stop, Cond.selects RX7 yX7_stop yX7_stop, Cond.code yX7_stop cX7_stop 3 none, Cond.methodLink RX7 201 yX7_in, Cond.static yX7_in, Cond.code yX7_in cX7_in 3 (some .boolean), Cond.methodLink RL 29 yX6_change, Cond.instanceMethod yX6_change, Cond.selects RX6 yX6_change yX6_change, Cond.code yX6_change cX6_change 5 (some .int), Cond.methodLink RX6 108 yX4_has, Cond.instanceMethod yX4_has, Cond.selects RX4 yX4_has yX4_has, Cond.code yX4_has cX4_has 2 (some .boolean)]
def wsL_law0_r18 : List Cond := [Cond.methodLink RX6 112 yX4_keyAt, Cond.instanceMethod yX4_keyAt, Cond.selects RX4 yX4_keyAt yX4_keyAt, Cond.code yX4_keyAt cX4_keyAt 2 (some .int), Cond.methodLink RX4 29 yX4_has, Cond.methodLink RL 33 yX7_change, Cond.instanceMethod yX7_change, Cond.selects RX7 yX7_change yX7_change, Cond.code yX7_change cX7_change 5 (some .int), Cond.methodLink RX7 216 yX7_isRow, Cond.instanceMethod yX7_isRow, Cond.selects RX7 yX7_isRow yX7_isRow, Cond.code yX7_isRow cX7_isRow 2 (some .boolean), Cond.methodLink RL 34 yX6_remove, Cond.instanceMethod yX6_remove, Cond.selects RX6 yX6_remove yX6_remove, Cond.code yX6_remove cX6_remove 3 (some .int), Cond.methodLink RX6 116 yX4_clearPlace, Cond.instanceMethod yX4_clearPlace, Cond.selects RX4 yX4_clearPlace yX4_clearPlace, Cond.code yX4_clearPlace cX4_clearPlace 2 none, Cond.methodLink RL 38 yX7_remove, Cond.instanceMethod yX7_remove, Cond.selects RX7 yX7_remove yX7_remove]
def wsL_law0_r19 : List Cond := [Cond.code yX7_remove cX7_remove 2 (some .int), Cond.methodLink RL 39 yL_row, Cond.static yL_row, Cond.initialized RL, Cond.codeWith yL_row cL_row 5 (some .int) [(0, 10, 13, 13), (0, 10, 17, 15)], Cond.classLink RL 13 "java/lang/IllegalStateException", Cond.classLink RL 15 "java/lang/IllegalArgumentException", Cond.methodLink RL 7 yX6_row, Cond.instanceMethod yX6_row, Cond.selects RX6 yX6_row yX6_row, Cond.code yX6_row cX6_row 3 (some .int), Cond.classLink RX6 120 "java/lang/IllegalStateException", Cond.initialized "java/lang/IllegalStateException", Cond.classLink RX6 127 "java/lang/IllegalArgumentException", Cond.initialized "java/lang/IllegalArgumentException", Cond.methodLink RX6 132 yX4_valueAt, Cond.instanceMethod yX4_valueAt, Cond.selects RX4 yX4_valueAt yX4_valueAt, Cond.code yX4_valueAt cX4_valueAt 2 (some .int), Cond.methodLink RL 44 yX7_row, Cond.instanceMethod yX7_row, Cond.selects RX7 yX7_row yX7_row, Cond.code yX7_row cX7_row 3 (some .int), Cond.methodLink RL 45 yX7_thrown]
def wsL_law0_r20 : List Cond := [Cond.instanceMethod yX7_thrown, Cond.selects RX7 yX7_thrown yX7_thrown, Cond.code yX7_thrown cX7_thrown 1 (some .int), Cond.methodLink RL 49 yX6_cut, Cond.instanceMethod yX6_cut, Cond.selects RX6 yX6_cut yX6_cut, Cond.code yX6_cut cX6_cut 3 (some .int), Cond.methodLink RX6 138 yX0_setLoss, Cond.instanceMethod yX0_setLoss, Cond.selects RX0 yX0_setLoss yX0_setLoss, Cond.code yX0_setLoss cX0_setLoss 2 none, Cond.methodLink RL 52 yX7_cut, Cond.instanceMethod yX7_cut, Cond.selects RX7 yX7_cut yX7_cut, Cond.code yX7_cut cX7_cut 3 (some .int), Cond.methodLink RL 53 yX6_start, Cond.instanceMethod yX6_start, Cond.selects RX6 yX6_start yX6_start, Cond.code yX6_start cX6_start 1 (some .int), Cond.methodLink RX6 141 yX0_powerUp, Cond.instanceMethod yX0_powerUp, Cond.selects RX0 yX0_powerUp yX0_powerUp, Cond.code yX0_powerUp cX0_powerUp 1 none, Cond.methodLink RX6 135 yX4_count]
def wsL_law0_r21 : List Cond := [Cond.instanceMethod yX4_count, Cond.selects RX4 yX4_count yX4_count, Cond.code yX4_count cX4_count 1 (some .int), Cond.methodLink RL 56 yX7_start, Cond.instanceMethod yX7_start, Cond.selects RX7 yX7_start yX7_start, Cond.code yX7_start cX7_start 1 (some .int), Cond.methodLink RX7 219 yX7_rowCount, Cond.instanceMethod yX7_rowCount, Cond.selects RX7 yX7_rowCount yX7_rowCount, Cond.code yX7_rowCount cX7_rowCount 3 (some .int), Cond.methodLink RL 57 yX6_build, Cond.instanceMethod yX6_build, Cond.selects RX6 yX6_build yX6_build, Cond.code yX6_build cX6_build 2 (some .int), Cond.methodLink RL 61 yX7_build, Cond.instanceMethod yX7_build, Cond.selects RX7 yX7_build yX7_build, Cond.code yX7_build cX7_build 2 (some .int), Cond.fieldLink RX7 222 "BuiltIndexModel" "loaded" "I", Cond.fieldLink RX7 225 "BuiltIndexModel" "leavesDone" "Z", Cond.fieldLink RX7 228 "BuiltIndexModel" "now" "I", Cond.fieldLink RX7 231 "BuiltIndexModel" "before" "I", Cond.fieldLink RX7 234 "BuiltIndexModel" "taken" "I"]
def wsL_law0_r22 : List Cond := [Cond.methodLink RL 62 yX6_drop, Cond.instanceMethod yX6_drop, Cond.selects RX6 yX6_drop yX6_drop, Cond.code yX6_drop cX6_drop 2 (some .int), Cond.methodLink RL 65 yX7_drop, Cond.instanceMethod yX7_drop, Cond.selects RX7 yX7_drop yX7_drop, Cond.code yX7_drop cX7_drop 2 (some .int), Cond.methodLink RL 66 yX6_step, Cond.instanceMethod yX6_step, Cond.selects RX6 yX6_step yX6_step, Cond.code yX6_step cX6_step 4 (some .int), Cond.methodLink RX6 156 yX6_scanPage, Cond.instanceMethod yX6_scanPage, Cond.selects RX6 yX6_scanPage yX6_scanPage, Cond.code yX6_scanPage cX6_scanPage 4 (some .boolean), Cond.methodLink RX6 278 yX3_pick, Cond.instanceMethod yX3_pick, Cond.selects RX3 yX3_pick yX3_pick, Cond.code yX3_pick cX3_pick 4 none, Cond.methodLink RX6 169 yX3_pickedCount, Cond.instanceMethod yX3_pickedCount, Cond.selects RX3 yX3_pickedCount yX3_pickedCount, Cond.code yX3_pickedCount cX3_pickedCount 1 (some .int)]
def wsL_law0_r23 : List Cond := [Cond.methodLink RX6 281 yX3_closeRun, Cond.instanceMethod yX3_closeRun, Cond.selects RX3 yX3_closeRun yX3_closeRun, Cond.code yX3_closeRun cX3_closeRun 1 none, Cond.methodLink RX3 35 arraycopyName, Cond.native arraycopyName, Cond.static arraycopyName, Cond.initialized "java/lang/System", Cond.methodLink RX6 284 yX6_blocksFor, Cond.static yX6_blocksFor, Cond.code yX6_blocksFor cX6_blocksFor 1 (some .int), Cond.methodLink RX6 159 yX6_mergeRuns, Cond.instanceMethod yX6_mergeRuns, Cond.selects RX6 yX6_mergeRuns yX6_mergeRuns, Cond.code yX6_mergeRuns cX6_mergeRuns 1 (some .boolean), Cond.methodLink RX6 168 yX3_count, Cond.instanceMethod yX3_count, Cond.selects RX3 yX3_count yX3_count, Cond.code yX3_count cX3_count 1 (some .int), Cond.methodLink RX6 287 yX3_mergeFirstTwo, Cond.instanceMethod yX3_mergeFirstTwo, Cond.selects RX3 yX3_mergeFirstTwo yX3_mergeFirstTwo, Cond.code yX3_mergeFirstTwo cX3_mergeFirstTwo 3 (some .int), Cond.methodLink RX3 41 yX3_mergeInto]
def wsL_law0_r24 : List Cond := [Cond.instanceMethod yX3_mergeInto, Cond.selects RX3 yX3_mergeInto yX3_mergeInto, Cond.code yX3_mergeInto cX3_mergeInto 6 none, Cond.methodLink RX6 290 yX3_total, Cond.instanceMethod yX3_total, Cond.selects RX3 yX3_total yX3_total, Cond.code yX3_total cX3_total 1 (some .int), Cond.methodLink RX6 293 yX1_begin, Cond.instanceMethod yX1_begin, Cond.selects RX1 yX1_begin yX1_begin, Cond.code yX1_begin cX1_begin 2 none, Cond.methodLink RX6 162 yX6_loadNode, Cond.instanceMethod yX6_loadNode, Cond.selects RX6 yX6_loadNode yX6_loadNode, Cond.code yX6_loadNode cX6_loadNode 1 (some .boolean), Cond.methodLink RX6 173 yX5_nodeCount, Cond.instanceMethod yX5_nodeCount, Cond.selects RX5 yX5_nodeCount yX5_nodeCount, Cond.code yX5_nodeCount cX5_nodeCount 1 (some .int), Cond.methodLink RX6 296 yX1_makeNode, Cond.instanceMethod yX1_makeNode, Cond.selects RX1 yX1_makeNode yX1_makeNode, Cond.code yX1_makeNode cX1_makeNode 5 (some .boolean), Cond.methodLink RX1 25 yX5_newNode]
def wsL_law0_r25 : List Cond := [Cond.methodLink RX1 31 yX3_entryAt, Cond.instanceMethod yX3_entryAt, Cond.selects RX3 yX3_entryAt yX3_entryAt, Cond.code yX3_entryAt cX3_entryAt 2 (some .long), Cond.methodLink RX1 37 yX5_append, Cond.instanceMethod yX5_append, Cond.selects RX5 yX5_append yX5_append, Cond.code yX5_append cX5_append 4 none, Cond.methodLink RX1 41 yX3_total, Cond.methodLink RX1 45 yX5_finishLoad, Cond.instanceMethod yX5_finishLoad, Cond.selects RX5 yX5_finishLoad yX5_finishLoad, Cond.code yX5_finishLoad cX5_finishLoad 3 none, Cond.methodLink RX6 165 yX6_catchUp, Cond.instanceMethod yX6_catchUp, Cond.selects RX6 yX6_catchUp yX6_catchUp, Cond.code yX6_catchUp cX6_catchUp 4 (some .boolean), Cond.methodLink RX6 172 yX2_count, Cond.instanceMethod yX2_count, Cond.selects RX2 yX2_count yX2_count, Cond.code yX2_count cX2_count 1 (some .int), Cond.methodLink RX6 300 yX2_firstEntry, Cond.instanceMethod yX2_firstEntry, Cond.selects RX2 yX2_firstEntry yX2_firstEntry]
def wsL_law0_r26 : List Cond := [Cond.code yX2_firstEntry cX2_firstEntry 1 (some .long), Cond.methodLink RX6 304 yX2_firstComes, Cond.instanceMethod yX2_firstComes, Cond.selects RX2 yX2_firstComes yX2_firstComes, Cond.code yX2_firstComes cX2_firstComes 1 (some .boolean), Cond.methodLink RX6 307 yX2_takeFirst, Cond.instanceMethod yX2_takeFirst, Cond.selects RX2 yX2_takeFirst yX2_takeFirst, Cond.code yX2_takeFirst cX2_takeFirst 1 none, Cond.methodLink RX6 310 yX5_firstTwin, Cond.instanceMethod yX5_firstTwin, Cond.selects RX5 yX5_firstTwin yX5_firstTwin, Cond.code yX5_firstTwin cX5_firstTwin 10 (some .int), Cond.methodLink RX5 105 yX5_listLeaves, Cond.instanceMethod yX5_listLeaves, Cond.selects RX5 yX5_listLeaves yX5_listLeaves, Cond.code yX5_listLeaves cX5_listLeaves 3 (some .int), Cond.methodLink RX5 95 yX5_listRowBelow, Cond.instanceMethod yX5_listRowBelow, Cond.selects RX5 yX5_listRowBelow yX5_listRowBelow, Cond.code yX5_listRowBelow cX5_listRowBelow 6 (some .int), Cond.methodLink RX5 99 arraycopyName, Cond.static yX6_keyOf, Cond.code yX6_keyOf cX6_keyOf 2 (some .int)]
def wsL_law0_r27 : List Cond := [Cond.methodLink RX6 190 yX5_entryAt, Cond.instanceMethod yX5_entryAt, Cond.selects RX5 yX5_entryAt yX5_entryAt, Cond.code yX5_entryAt cX5_entryAt 6 (some .long), Cond.methodLink RL 69 yX7_step, Cond.instanceMethod yX7_step, Cond.selects RX7 yX7_step yX7_step, Cond.code yX7_step cX7_step 4 (some .int), Cond.methodLink RX7 246 yX7_scanStep, Cond.instanceMethod yX7_scanStep, Cond.selects RX7 yX7_scanStep yX7_scanStep, Cond.code yX7_scanStep cX7_scanStep 2 (some .boolean), Cond.methodLink RX7 237 yX7_runFrom, Cond.instanceMethod yX7_runFrom, Cond.selects RX7 yX7_runFrom yX7_runFrom, Cond.code yX7_runFrom cX7_runFrom 2 (some .int), Cond.methodLink RX7 240 yX7_sort, Cond.instanceMethod yX7_sort, Cond.selects RX7 yX7_sort yX7_sort, Cond.code yX7_sort cX7_sort 7 none, Cond.methodLink RX7 249 yX7_mergeStep, Cond.instanceMethod yX7_mergeStep, Cond.selects RX7 yX7_mergeStep yX7_mergeStep, Cond.code yX7_mergeStep cX7_mergeStep 4 (some .boolean)]
def wsL_law0_r28 : List Cond := [Cond.methodLink RX7 252 yX7_loadStep, Cond.instanceMethod yX7_loadStep, Cond.selects RX7 yX7_loadStep yX7_loadStep, Cond.code yX7_loadStep cX7_loadStep 4 (some .boolean), Cond.methodLink RX7 255 yX7_catchStep, Cond.instanceMethod yX7_catchStep, Cond.selects RX7 yX7_catchStep yX7_catchStep, Cond.code yX7_catchStep cX7_catchStep 5 (some .boolean), Cond.methodLink RX7 243 yX7_findClash, Cond.instanceMethod yX7_findClash, Cond.selects RX7 yX7_findClash yX7_findClash, Cond.code yX7_findClash cX7_findClash 5 (some .boolean), Cond.methodLink RL 70 yX6_info, Cond.instanceMethod yX6_info, Cond.selects RX6 yX6_info yX6_info, Cond.code yX6_info cX6_info 2 (some .int), Cond.methodLink RX6 176 yX6_hasTree, Cond.instanceMethod yX6_hasTree, Cond.selects RX6 yX6_hasTree yX6_hasTree, Cond.code yX6_hasTree cX6_hasTree 1 (some .boolean), Cond.methodLink RX6 179 yX5_levels, Cond.instanceMethod yX5_levels, Cond.selects RX5 yX5_levels yX5_levels, Cond.code yX5_levels cX5_levels 3 (some .int)]
def wsL_law0_r29 : List Cond := [Cond.methodLink RX6 182 yX5_entryCount, Cond.instanceMethod yX5_entryCount, Cond.selects RX5 yX5_entryCount yX5_entryCount, Cond.code yX5_entryCount cX5_entryCount 1 (some .int), Cond.methodLink RL 73 yX7_info, Cond.instanceMethod yX7_info, Cond.selects RX7 yX7_info yX7_info, Cond.code yX7_info cX7_info 4 (some .int), Cond.methodLink RX7 264 yX7_height, Cond.instanceMethod yX7_height, Cond.selects RX7 yX7_height yX7_height, Cond.code yX7_height cX7_height 3 (some .int), Cond.methodLink RX7 267 yX7_entries, Cond.instanceMethod yX7_entries, Cond.selects RX7 yX7_entries yX7_entries, Cond.code yX7_entries cX7_entries 3 (some .int), Cond.fieldLink RX7 258 "BuiltIndexModel" "leaves" "I", Cond.methodLink RX7 261 yX7_goThrough, Cond.instanceMethod yX7_goThrough, Cond.selects RX7 yX7_goThrough yX7_goThrough, Cond.code yX7_goThrough cX7_goThrough 3 none, Cond.methodLink RL 74 yL_entry, Cond.static yL_entry, Cond.codeWith yL_entry cL_entry 5 (some .int) [(0, 10, 13, 13), (0, 10, 17, 15)]]
def wsL_law0_r30 : List Cond := [Cond.methodLink RL 17 yX6_entry, Cond.instanceMethod yX6_entry, Cond.selects RX6 yX6_entry yX6_entry, Cond.code yX6_entry cX6_entry 5 (some .int), Cond.methodLink RX6 185 yX6_isEntryOfTree, Cond.instanceMethod yX6_isEntryOfTree, Cond.selects RX6 yX6_isEntryOfTree yX6_isEntryOfTree, Cond.code yX6_isEntryOfTree cX6_isEntryOfTree 2 (some .boolean), Cond.methodLink RX6 198 yX6_keyOf, Cond.methodLink RL 76 yX7_entry, Cond.instanceMethod yX7_entry, Cond.selects RX7 yX7_entry yX7_entry, Cond.code yX7_entry cX7_entry 4 (some .int), Cond.methodLink RX7 270 yX7_slotOf, Cond.instanceMethod yX7_slotOf, Cond.selects RX7 yX7_slotOf yX7_slotOf, Cond.code yX7_slotOf cX7_slotOf 5 (some .int), Cond.methodLink RL 77 yX6_leaf, Cond.instanceMethod yX6_leaf, Cond.selects RX6 yX6_leaf yX6_leaf, Cond.code yX6_leaf cX6_leaf 2 (some .int), Cond.methodLink RX6 201 yX5_sizeOfLeafAt, Cond.instanceMethod yX5_sizeOfLeafAt, Cond.selects RX5 yX5_sizeOfLeafAt yX5_sizeOfLeafAt]
def wsL_law0_r31 : List Cond := [Cond.code yX5_sizeOfLeafAt cX5_sizeOfLeafAt 6 (some .int), Cond.methodLink RL 80 yX7_leaf, Cond.instanceMethod yX7_leaf, Cond.selects RX7 yX7_leaf yX7_leaf, Cond.code yX7_leaf cX7_leaf 3 (some .int), Cond.methodLink RL 81 yX6_ask, Cond.instanceMethod yX6_ask, Cond.selects RX6 yX6_ask yX6_ask, Cond.code yX6_ask cX6_ask 3 (some .int), Cond.methodLink RX6 214 yX5_costOf, Cond.instanceMethod yX5_costOf, Cond.selects RX5 yX5_costOf yX5_costOf, Cond.code yX5_costOf cX5_costOf 9 (some .int), Cond.methodLink RX6 218 yX5_tell, Cond.instanceMethod yX5_tell, Cond.selects RX5 yX5_tell yX5_tell, Cond.code yX5_tell cX5_tell 10 (some .int), Cond.methodLink RX6 222 yX4_tell, Cond.instanceMethod yX4_tell, Cond.selects RX4 yX4_tell yX4_tell, Cond.code yX4_tell cX4_tell 6 (some .int), Cond.methodLink RL 84 yX7_ask, Cond.instanceMethod yX7_ask, Cond.selects RX7 yX7_ask yX7_ask]
def wsL_law0_r32 : List Cond := [Cond.code yX7_ask cX7_ask 8 (some .int), Cond.fieldLink RX7 273 "BuiltIndexModel" "answers" "I", Cond.fieldLink RX7 276 "BuiltIndexModel" "cost" "I", Cond.methodLink RL 85 yX6_answer, Cond.instanceMethod yX6_answer, Cond.selects RX6 yX6_answer yX6_answer, Cond.code yX6_answer cX6_answer 2 (some .int), Cond.methodLink RL 88 yX7_answer, Cond.instanceMethod yX7_answer, Cond.selects RX7 yX7_answer yX7_answer, Cond.code yX7_answer cX7_answer 2 (some .int), Cond.methodLink RL 89 yX6_cost, Cond.instanceMethod yX6_cost, Cond.selects RX6 yX6_cost yX6_cost, Cond.code yX6_cost cX6_cost 1 (some .int), Cond.methodLink RL 92 yX7_cost, Cond.instanceMethod yX7_cost, Cond.selects RX7 yX7_cost yX7_cost, Cond.code yX7_cost cX7_cost 1 (some .int), Cond.methodLink RL 93 yX6_blocks, Cond.instanceMethod yX6_blocks, Cond.selects RX6 yX6_blocks yX6_blocks, Cond.code yX6_blocks cX6_blocks 2 (some .int), Cond.methodLink RX6 144 yX0_countOf]
def wsL_law0_r33 : List Cond := [Cond.instanceMethod yX0_countOf, Cond.selects RX0 yX0_countOf yX0_countOf, Cond.code yX0_countOf cX0_countOf 2 (some .int), Cond.methodLink RL 96 yX7_blocks, Cond.instanceMethod yX7_blocks, Cond.selects RX7 yX7_blocks yX7_blocks, Cond.code yX7_blocks cX7_blocks 2 (some .int), Cond.methodLink RL 97 yX6_rows, Cond.instanceMethod yX6_rows, Cond.selects RX6 yX6_rows yX6_rows, Cond.code yX6_rows cX6_rows 1 (some .int), Cond.methodLink RL 100 yX7_rows, Cond.instanceMethod yX7_rows, Cond.selects RX7 yX7_rows yX7_rows, Cond.code yX7_rows cX7_rows 1 (some .int), Cond.methodLink RL 101 yX6_audit, Cond.instanceMethod yX6_audit, Cond.selects RX6 yX6_audit yX6_audit, Cond.code yX6_audit cX6_audit 2 (some .int), Cond.methodLink RX6 204 yX5_hasJustTheRowsOf, Cond.instanceMethod yX5_hasJustTheRowsOf, Cond.selects RX5 yX5_hasJustTheRowsOf yX5_hasJustTheRowsOf, Cond.code yX5_hasJustTheRowsOf cX5_hasJustTheRowsOf 12 (some .boolean), Cond.methodLink RX5 119 yX4_has]
def wsL_law0_r34 : List Cond := [Cond.methodLink RX5 125 yX4_keyAt, Cond.methodLink RX5 128 yX4_count, Cond.methodLink RX6 208 yX5_sizesAreRight, Cond.instanceMethod yX5_sizesAreRight, Cond.selects RX5 yX5_sizesAreRight yX5_sizesAreRight, Cond.code yX5_sizesAreRight cX5_sizesAreRight 3 (some .boolean), Cond.methodLink RX6 211 yX5_leavesAreInOneRow, Cond.instanceMethod yX5_leavesAreInOneRow, Cond.selects RX5 yX5_leavesAreInOneRow yX5_leavesAreInOneRow, Cond.code yX5_leavesAreInOneRow cX5_leavesAreInOneRow 4 (some .boolean), Cond.methodLink RL 104 yX7_audit, Cond.instanceMethod yX7_audit, Cond.selects RX7 yX7_audit yX7_audit, Cond.code yX7_audit cX7_audit 1 (some .int)]
def wsL_law0 : List Cond := (wsL_law0_r1 ++ (wsL_law0_r2 ++ (wsL_law0_r3 ++ (wsL_law0_r4 ++ (wsL_law0_r5 ++ (wsL_law0_r6 ++ (wsL_law0_r7 ++ (wsL_law0_r8 ++ (wsL_law0_r9 ++ (wsL_law0_r10 ++ (wsL_law0_r11 ++ (wsL_law0_r12 ++ (wsL_law0_r13 ++ (wsL_law0_r14 ++ (wsL_law0_r15 ++ (wsL_law0_r16 ++ (wsL_law0_r17 ++ (wsL_law0_r18 ++ (wsL_law0_r19 ++ (wsL_law0_r20 ++ (wsL_law0_r21 ++ (wsL_law0_r22 ++ (wsL_law0_r23 ++ (wsL_law0_r24 ++ (wsL_law0_r25 ++ (wsL_law0_r26 ++ (wsL_law0_r27 ++ (wsL_law0_r28 ++ (wsL_law0_r29 ++ (wsL_law0_r30 ++ (wsL_law0_r31 ++ (wsL_law0_r32 ++ (wsL_law0_r33 ++ wsL_law0_r34))))))))))))))))))))))))))))))))) ++ wsX60 ++ wsX70 ++ wsX40 ++ wsX00 ++ wsX30 ++ wsX10 ++ wsX20 ++ wsX50 ++ ([] : List Cond)
abbrev vwCl : List vw_C := [(RX0, TX0, 6), (RX1, TX1, 4), (RX2, TX2, 4), (RX3, TX3, 7), (RX4, TX4, 5), (RX5, TX5, 13), (RX6, TX6, 15), (RX7, TX7, 52)]
theorem inlX6 : ∀ w ∈ wsX60, w ∈ wsL_law0 := fun _ h => List.mem_append_left _ (List.mem_append_left _ (List.mem_append_left _ (List.mem_append_left _ (List.mem_append_left _ (List.mem_append_left _ (List.mem_append_left _ (List.mem_append_left _ (List.mem_append_right _ h))))))))
theorem inlX7 : ∀ w ∈ wsX70, w ∈ wsL_law0 := fun _ h => List.mem_append_left _ (List.mem_append_left _ (List.mem_append_left _ (List.mem_append_left _ (List.mem_append_left _ (List.mem_append_left _ (List.mem_append_left _ (List.mem_append_right _ h)))))))
theorem inlX4 : ∀ w ∈ wsX40, w ∈ wsL_law0 := fun _ h => List.mem_append_left _ (List.mem_append_left _ (List.mem_append_left _ (List.mem_append_left _ (List.mem_append_left _ (List.mem_append_left _ (List.mem_append_right _ h))))))
theorem inlX0 : ∀ w ∈ wsX00, w ∈ wsL_law0 := fun _ h => List.mem_append_left _ (List.mem_append_left _ (List.mem_append_left _ (List.mem_append_left _ (List.mem_append_left _ (List.mem_append_right _ h)))))
theorem inlX3 : ∀ w ∈ wsX30, w ∈ wsL_law0 := fun _ h => List.mem_append_left _ (List.mem_append_left _ (List.mem_append_left _ (List.mem_append_left _ (List.mem_append_right _ h))))
theorem inlX1 : ∀ w ∈ wsX10, w ∈ wsL_law0 := fun _ h => List.mem_append_left _ (List.mem_append_left _ (List.mem_append_left _ (List.mem_append_right _ h)))
theorem inlX2 : ∀ w ∈ wsX20, w ∈ wsL_law0 := fun _ h => List.mem_append_left _ (List.mem_append_left _ (List.mem_append_right _ h))
theorem inlX5 : ∀ w ∈ wsX50, w ∈ wsL_law0 := fun _ h => List.mem_append_left _ (List.mem_append_right _ h)
end
section
/-! the abstract world: 118 cells by number; values of the abstract machine; a method's judgement over it -/
abbrev AV : Type := Int32 ⊕ Int64 ⊕ Nat ⊕ Nat
abbrev vI (x : Int32) : AV := .inl x
abbrev vL (x : Int64) : AV := .inr (.inl x)
abbrev vR (c : Nat) : AV := .inr (.inr (.inl c))
abbrev vW (k : Nat) : AV := .inr (.inr (.inr k))
/-- ints by cell and place; longs by cell and place; the rows of the nodes -/
abbrev Hp : Type := (Nat → Nat → Int32) × (Nat → Nat → Int64) × (Nat → Nat → Int64)
/-- a launch, the classes' numbers and slots, the cells' addresses, the arrays' classes -/
abbrev GG : Type := Launch × va_G × (Nat → Nat) × (Nat → ClassId)
def ro (q : Nat → Nat) : AV → Value
  | .inl x => .int x
  | .inr (.inl x) => .long x
  | .inr (.inr (.inl c)) => .ref (q c)
  | .inr (.inr (.inr k)) => .ref (q (54 + k))
def shL : List ((Nat × List (Option Nat)) ⊕ (Nat × Nat)) := [.inl (6, [some 1, some 6, none, none, none, none, none, none, some 7, some 12, some 13, some 16, some 26, none, none]), .inl (4, [some 2, some 3, some 4, some 5, none]), .inr (0, 240), .inr (0, 240), .inr (1, 240), .inr (1, 20), .inl (0, [none, none, none, none, none, none]), .inl (3, [some 8, none, some 9, some 10, none, some 11, none]), .inr (2, 36), .inr (2, 240), .inr (2, 240), .inr (0, 11), .inl (1, [none, none, none, none]), .inl (2, [some 14, some 15, none, none]), .inr (2, 40), .inr (1, 40), .inl (5, [some 17, some 18, some 19, some 20, some 21, none, none, none, some 22, some 23, none, some 24, some 25]), .inr (3, 64), .inr (0, 64), .inr (1, 64), .inr (1, 64), .inr (1, 64), .inr (0, 64), .inr (0, 64), .inr (0, 64), .inr (0, 64), .inr (0, 240), .inl (7, [none, some 28, some 29, some 30, none, none, none, none, none, none, some 31, none, none, none, none, none, none, none, some 32, some 33, none, some 34, none, some 35, some 36, some 37, none, none, none, some 38, none, none, some 39, none, none, some 40, some 41, some 42, some 43, some 44, some 45, some 46, none, some 47, none, none, some 48, some 49, some 50, some 51, none, some 52]), .inr (1, 240), .inr (0, 240), .inr (0, 240), .inr (1, 20), .inr (0, 240), .inr (0, 240), .inr (0, 40), .inr (1, 40), .inr (0, 40), .inr (0, 40), .inr (0, 80), .inr (0, 80), .inr (1, 80), .inr (1, 80), .inr (1, 80), .inr (0, 80), .inr (0, 720), .inr (0, 720), .inr (0, 720), .inr (0, 240), .inr (0, 16), .inr (0, 16), .inr (0, 240), .inr (0, 240), .inr (0, 80), .inr (2, 1)]
def sh (c : Nat) : (Nat × List (Option Nat)) ⊕ (Nat × Nat) := shL.getD c (.inr (2, 9))
def flV (q : Nat → Nat) (f : Nat → Int32) (k : Nat) (o : Option Nat) : Value := match o with
  | none => .int (f k)
  | some c => .ref (q c)
def ceR (q : Nat → Nat) (cy : Nat → ClassId) (c : Nat) (f : Nat → Int32) (j : Nat → Int64) : va_E := match sh c with
  | .inl (ci, fs) => .inr (ci, fs.mapIdx (fun k o => flV q f k o))
  | .inr (0, n) => .inl (cy 0, n, .inl f)
  | .inr (1, n) => .inl (cy 1, n, .inl f)
  | .inr (2, n) => .inl (cy 2, n, .inr (.inl j))
  | .inr (_, n) => .inl (cy 3, n, .inr (.inr (.inr (.inr (fun i => some (q (54 + i)))))))
def lgs (h : Hp) (c : Nat) : Nat → Int64 := if c < 54 then h.2.1 c else h.2.2 (c - 54)
def cel (g : GG) (h : Hp) (c : Nat) : va_E := ceR g.2.2.1 g.2.2.2 c (h.1 c) (lgs h c)
def wo (g : GG) (h : Hp) : va_W := (List.range 118).map (fun c => (g.2.2.1 c, cel g h c))
def sI (h : Hp) (c : Nat) (f : Nat → Int32) : Hp := (va_up h.1 c f, h.2)
def sJ (h : Hp) (c : Nat) (f : Nat → Int64) : Hp := (h.1, va_up h.2.1 c f, h.2.2)
def sW (h : Hp) (k : Nat) (f : Nat → Int64) : Hp := (h.1, h.2.1, va_up h.2.2 k f)
def Aw (g : GG) : Nat → Prop := fun a => ∃ c, c < 118 ∧ a = g.2.2.1 c
def WD (g : GG) : Prop := ∀ i j, i < 118 → j < 118 → g.2.2.1 i = g.2.2.1 j → i = j
abbrev tyL (g : GG) : List (ClassId × FieldType) := [(g.2.2.2 0, .int), (g.2.2.2 1, .boolean), (g.2.2.2 2, .long), (g.2.2.2 3, .array .long)]
def nwL : List Cond := [.methodLinkNest RX5 108 yX6_keyOf RX6, .methodLinkNest RX5 112 yX6_placeOf RX6, .methodLinkNest RX5 115 yX6_entryOf RX6]
def WK (g : GG) (U : State) : Prop := va_K g.2.1 vwCl (tyL g) U ∧ ∀ w ∈ nwL, va_Nw w U
theorem WK.moved {g : GG} {s U : State} (hW : s.WarmedH U.vm) (h : WK g s) : WK g U := by
  refine ⟨va_K.moved hW.alike h.1, fun w hw => ?_⟩
  have h2 := h.2 w hw
  simp only [nwL, List.mem_cons, List.not_mem_nil, or_false] at hw
  rcases hw with rfl | rfl | rfl <;> exact va_Nw.warmM hW h2
theorem WK.calling {g : GG} {U : State} (h : WK g U) (f : JFrame) (mk : MethodId) (a : Array Value) : WK g (U.calling f mk a) := by
  refine ⟨va_K.moved (u := U) (U := U.calling f mk a) (Vm.Alike.refl U.vm) h.1, fun w hw => ?_⟩
  have h2 := h.2 w hw
  simp only [nwL, List.mem_cons, List.not_mem_nil, or_false] at hw
  rcases hw with rfl | rfl | rfl <;> exact va_Nw.same rfl (u := U) rfl h2
theorem wo_at (g : GG) (h : Hp) {c : Nat} (hc : c < 118) : (wo g h)[c]? = some (g.2.2.1 c, cel g h c) := by
  unfold wo
  rw [List.getElem?_map, List.getElem?_range hc]
  rfl
theorem wo_lt {g : GG} {h : Hp} {c : Nat} {q : Nat × va_E} (hc : (wo g h)[c]? = some q) : c < 118 := by
  have := (List.getElem?_eq_some_iff.mp hc).1
  simpa [wo] using this
theorem wo_D {g : GG} (hg : WD g) (h : Hp) : va_D (Aw g) (wo g h) := by
  refine ⟨fun i j p q hi hj e => ?_, fun k q hk => ?_⟩
  · have h1 := wo_lt hi
    have h2 := wo_lt hj
    rw [wo_at g h h1] at hi
    rw [wo_at g h h2] at hj
    cases hi
    cases hj
    exact hg i j h1 h2 e
  · have h1 := wo_lt hk
    rw [wo_at g h h1] at hk
    cases hk
    exact ⟨k, h1, rfl⟩
theorem wo_set {g : GG} {h h' : Hp} {c : Nat} {e : va_E} (hc : c < 118) (he : cel g h' c = e) (ho : ∀ d, d ≠ c → cel g h' d = cel g h d) : (wo g h).set c (g.2.2.1 c, e) = wo g h' := by
  apply List.ext_getElem?
  intro i
  by_cases hi : i < 118
  · rw [wo_at g h' hi]
    by_cases e1 : i = c
    · subst e1
      rw [List.getElem?_set_self (by simpa [wo] using hi), he]
    · rw [List.getElem?_set_ne (Ne.symm e1), wo_at g h hi, ho i e1]
  · rw [List.getElem?_eq_none (by simp [wo]; omega), List.getElem?_eq_none (by simp [wo]; omega)]
theorem cel_sI_ne (g : GG) (h : Hp) (f : Nat → Int32) {c d : Nat} (hd : d ≠ c) : cel g (sI h c f) d = cel g h d := by
  show ceR _ _ d (va_up h.1 c f d) (lgs (sI h c f) d) = _
  rw [va_up_ne _ _ hd]
  rfl
theorem cel_sI (g : GG) (h : Hp) (f : Nat → Int32) (c : Nat) : cel g (sI h c f) c = ceR g.2.2.1 g.2.2.2 c f (lgs h c) := by
  show ceR _ _ c (va_up h.1 c f c) (lgs (sI h c f) c) = _
  rw [va_up_self]
  rfl
theorem cel_sJ_ne (g : GG) (h : Hp) (f : Nat → Int64) {c d : Nat} (hd : d ≠ c) : cel g (sJ h c f) d = cel g h d := by
  show ceR _ _ d (h.1 d) (lgs (sJ h c f) d) = ceR _ _ d (h.1 d) (lgs h d)
  unfold lgs sJ
  dsimp only
  rw [va_up_ne _ _ hd]
theorem cel_sJ (g : GG) (h : Hp) (f : Nat → Int64) {c : Nat} (hc : c < 54) : cel g (sJ h c f) c = ceR g.2.2.1 g.2.2.2 c (h.1 c) f := by
  show ceR _ _ c (h.1 c) (lgs (sJ h c f) c) = _
  unfold lgs sJ
  dsimp only
  rw [if_pos hc, va_up_self]
theorem cel_sW_ne (g : GG) (h : Hp) (f : Nat → Int64) {k d : Nat} (hd : d ≠ 54 + k) : cel g (sW h k f) d = cel g h d := by
  show ceR _ _ d (h.1 d) (lgs (sW h k f) d) = ceR _ _ d (h.1 d) (lgs h d)
  unfold lgs sW
  dsimp only
  by_cases hc : d < 54
  · rw [if_pos hc, if_pos hc]
  · rw [if_neg hc, if_neg hc, va_up_ne _ _ (show d - 54 ≠ k by omega)]
theorem sh_big (k : Nat) : sh (54 + k) = .inr (2, 9) := by
  unfold sh
  rw [List.getD_eq_getElem?_getD, List.getElem?_eq_none (by simp [shL])]
  rfl
theorem cel_sW (g : GG) (h : Hp) (f : Nat → Int64) (k : Nat) : cel g (sW h k f) (54 + k) = .inl (g.2.2.2 2, 9, .inr (.inl f)) := by
  show ceR _ _ (54 + k) (h.1 (54 + k)) (lgs (sW h k f) (54 + k)) = _
  unfold lgs sW
  dsimp only
  rw [if_neg (by omega), show 54 + k - 54 = k by omega, va_up_self]
  unfold ceR
  rw [sh_big k]
  rfl
theorem cel_row (g : GG) (h : Hp) (k : Nat) : cel g h (54 + k) = .inl (g.2.2.2 2, 9, .inr (.inl (h.2.2 k))) := by
  show ceR _ _ (54 + k) (h.1 (54 + k)) (lgs h (54 + k)) = _
  unfold lgs
  rw [if_neg (by omega), show 54 + k - 54 = k by omega]
  unfold ceR
  rw [sh_big k]
  rfl
theorem cel_obj (g : GG) (h : Hp) {c ci : Nat} {fs : List (Option Nat)} (hs : sh c = .inl (ci, fs)) : cel g h c = .inr (ci, fs.mapIdx (fun k o => flV g.2.2.1 (h.1 c) k o)) := by
  unfold cel ceR
  rw [hs]
theorem cel_i (g : GG) (h : Hp) {c n : Nat} (hs : sh c = .inr (0, n)) : cel g h c = .inl (g.2.2.2 0, n, .inl (h.1 c)) := by
  unfold cel ceR
  rw [hs]
  rfl
theorem cel_z (g : GG) (h : Hp) {c n : Nat} (hs : sh c = .inr (1, n)) : cel g h c = .inl (g.2.2.2 1, n, .inl (h.1 c)) := by
  unfold cel ceR
  rw [hs]
  rfl
theorem cel_j (g : GG) (h : Hp) {c n : Nat} (hs : sh c = .inr (2, n)) (hc : c < 54) : cel g h c = .inl (g.2.2.2 2, n, .inr (.inl (h.2.1 c))) := by
  unfold cel ceR lgs
  rw [hs, if_pos hc]
  rfl
theorem cel_g (g : GG) (h : Hp) {c n : Nat} (hs : sh c = .inr (3, n)) : cel g h c = .inl (g.2.2.2 3, n, .inr (.inr (.inr (.inr (fun i => some (g.2.2.1 (54 + i))))))) := by
  unfold cel ceR
  rw [hs]
  rfl
/-! methods: name, code, locals, what it returns, its class, its room -/
abbrev MD : Type := MethodName × ByteArray × Nat × Option FieldType × String × Room
def wsM (M : MD) : List Cond := .code M.1 M.2.1 M.2.2.1 M.2.2.2.1 :: wsL_law0
def Qx (g : GG) (Q : Option AV → Hp → Prop) : Array Value → State → Outcome → State → Prop := fun _ st o t => (∃ (v : Option AV) (h : Hp), o = .returned (v.map (ro g.2.2.1)) ∧ Q v h ∧ va_P g.2.1 vwCl (wo g h) t.heap) ∧ va_F (Aw g) st t
def Px (g : GG) (h : Hp) (as : List AV) : Array Value → State → Prop := va_Pc (as.map (ro g.2.2.1)) (fun U => va_P g.2.1 vwCl (wo g h) U.heap ∧ WK g U)
/-- the method, called with these values in this world, comes back with Q -/
def EvM (M : MD) (as : List AV) (h : Hp) (Q : Option AV → Hp → Prop) : Prop := ∀ g : GG, WD g → Met g.1 M.1 (wsM M) M.2.2.2.2.2 (Px g h as) (Qx g Q) 0 0 (Aw g)
def Bd (M : MD) (g : GG) (p : Program) (s : State) (m : MethodId) (args : Array Value) (meth : Method) (c : Code) : Prop := p.tables.exec = Jvm.exec ∧ c.code = M.2.1 ∧ meth.sig.returnType = M.2.2.2.1 ∧ meth.locks = false ∧ c.maxLocals = M.2.2.1 ∧ s.vm.findClass M.2.2.2.2.1 = some m.cls ∧ (∀ w ∈ wsL_law0, w.before args s = true) ∧ WK g s
abbrev lm (q : Nat → Nat) (L : List (Nat × AV)) : List (Nat × Value) := L.map (fun x => (x.1, ro q x.2))
/-- what a walk is to: where it may write, the cells and slots made so far, its end, what it may use -/
abbrev KT : Type := (GG → State → Nat → Prop) × (Nat × Nat) × (GG → List Frame → Array Value → State → State → Prop) × (GG → Program → State → Array Value → Code → Prop)
/-- the method at this place of its code, with these locals, this stack, this world, comes to its end -/
def EvK (M : MD) (K : KT) (pc : Nat) (L : List (Nat × AV)) (st : List AV) (h : Hp) : Prop :=
  ∀ g : GG, WD g → ∀ (p : Program) (e : Env) (s : State) (m : MethodId) (args : Array Value) (below : List Frame) (meth : Method) (c : Code), Bd M g p s m args meth c →
    (∀ x, x < 118 → K.1 g s (g.2.2.1 x)) → (K.2.1.1 ≤ M.2.2.2.2.2.cells ∧ K.2.1.2 ≤ M.2.2.2.2.2.slots) → K.2.2.2 g p s args c →
    ∀ (H : Heap) (locs : List Loc) (ls : Array Slot), va_P g.2.1 vwCl (wo g h) H → va_S (K.1 g s) s.heap H locs → lv_has ls M.2.2.1 (lm g.2.2.1 L) →
      W p g.1 e M.2.2.2.2.2 s m args below meth c H locs K.2.1.1 K.2.1.2 (K.2.2.1 g below args s) (F0 m pc ls (st.map (ro g.2.2.1)))
abbrev kQ (Q : Option AV → Hp → Prop) : KT := (fun g _ => Aw g, (0, 0), fun g below args s => MQ below (Qx g Q) args s 0 0 (Aw g), fun _ _ _ _ _ => True)
abbrev Ev (M : MD) (pc : Nat) (L : List (Nat × AV)) (st : List AV) (h : Hp) (Q : Option AV → Hp → Prop) : Prop := EvK M (kQ Q) pc L st h
theorem wo_DA {g : GG} (hg : WD g) {A : Nat → Prop} (hA : ∀ x, x < 118 → A (g.2.2.1 x)) (h : Hp) : va_D A (wo g h) := (wo_D hg h).weaken (fun _ _ _ q => by obtain ⟨x, h1, h2⟩ := q; rw [h2]; exact hA x h1)
theorem Aw_in {g : GG} {A : Nat → Prop} (hA : ∀ x, x < 118 → A (g.2.2.1 x)) (a : Nat) (h : Aw g a) : A a := by
  obtain ⟨x, h1, h2⟩ := h
  rw [h2]
  exact hA x h1
def lk : List (Nat × AV) → Nat → Option AV
  | [], _ => none
  | (j, v) :: t, i => cond (Nat.beq j i) (some v) (lk t i)
theorem lk_mem : ∀ {L : List (Nat × AV)} {i : Nat} {v : AV}, lk L i = some v → (i, v) ∈ L
  | [], _, _, h => by cases h
  | (j, w) :: t, i, v, h => by
    unfold lk at h
    by_cases e : j = i
    · subst e
      rw [Nat.beq_refl] at h
      cases h
      exact List.mem_cons_self
    · rw [show Nat.beq j i = false by cases hb : Nat.beq j i with | false => rfl | true => exact absurd (Nat.eq_of_beq_eq_true hb) e] at h
      exact List.mem_cons_of_mem _ (lk_mem h)
theorem lk_at {q : Nat → Nat} {ls : Array Slot} {n : Nat} {L : List (Nat × AV)} {i : Nat} {v : AV} (hl : lv_has ls n (lm q L)) (h : lk L i = some v) : ls[i]? = some (.val (ro q v)) :=
  hl.2.2 (i, ro q v) (List.mem_map.mpr ⟨(i, v), lk_mem h, rfl⟩)
def isL : AV → Bool
  | .inr (.inl _) => true
  | _ => false
theorem isL_cat (q : Nat → Nat) (v : AV) : (ro q v).category = if isL v = true then 2 else 1 := by
  rcases v with x | x | x | x <;> rfl
def st1 (i : Nat) (v : AV) (L : List (Nat × AV)) : List (Nat × AV) := (i, v) :: L.filter (fun q => !(q.1 == i) && !(q.1 + 1 == i && isL q.2))
def st2 (i : Nat) (v : AV) (L : List (Nat × AV)) : List (Nat × AV) := (i, v) :: L.filter (fun q => !(q.1 == i) && (!(q.1 == i + 1) && !(q.1 + 1 == i && isL q.2)))
theorem st1_lm (q : Nat → Nat) (i : Nat) (v : AV) (L : List (Nat × AV)) : (i, ro q v) :: (lm q L).filter (fun x => !(x.1 == i) && !(x.1 + 1 == i && x.2.category == 2)) = lm q (st1 i v L) := by
  show _ = (i, ro q v) :: List.map _ _
  refine congrArg _ ?_
  rw [List.filter_map]
  refine congrArg _ (List.filter_congr ?_)
  intro x _
  show (!(x.1 == i) && !(x.1 + 1 == i && (ro q x.2).category == 2)) = _
  rw [isL_cat]
  cases isL x.2 <;> rfl
theorem st2_lm (q : Nat → Nat) (i : Nat) (v : AV) (L : List (Nat × AV)) : (i, ro q v) :: (lm q L).filter (fun x => !(x.1 == i) && (!(x.1 == i + 1) && !(x.1 + 1 == i && x.2.category == 2))) = lm q (st2 i v L) := by
  show _ = (i, ro q v) :: List.map _ _
  refine congrArg _ ?_
  rw [List.filter_map]
  refine congrArg _ (List.filter_congr ?_)
  intro x _
  show (!(x.1 == i) && (!(x.1 == i + 1) && !(x.1 + 1 == i && (ro q x.2).category == 2))) = _
  rw [isL_cat]
  cases isL x.2 <;> rfl
def subL (L : List (Nat × AV)) : List (Nat × AV) → Prop
  | [] => True
  | x :: t => lk L x.1 = some x.2 ∧ subL L t
theorem subL_mem {L : List (Nat × AV)} : ∀ {L' : List (Nat × AV)}, subL L L' → ∀ x ∈ L', lk L x.1 = some x.2
  | [], _, x, hx => absurd hx List.not_mem_nil
  | y :: t, hs, x, hx => by
    rcases List.mem_cons.mp hx with rfl | hx
    · exact hs.1
    · exact subL_mem hs.2 x hx
theorem vp_lt {i : Int32} {n : Nat} (h : vp_in i n) : i.toNatClampNeg < n := Nat.not_le.mp fun q => h (Or.inr q)
section VAX
variable {p : Program} {l : Launch} {e : Env} {R : Room} {s : State} {m : MethodId} {args : Array Value} {below : List Frame} {meth : Method} {c : Code} {H : Heap} {locs : List Loc} {cells slots : Nat} {Q : State → Prop}
variable {cc : ByteArray} {pc : Nat} {ls : Array Slot} {rest : List Value} {D : va_G} {cl : List vw_C} {a : Nat} {tys : List (ClassId × FieldType)} {ws : va_W}
theorem va_aldA (hexec : p.tables.exec = Jvm.exec) (hb : c.code = cc) (hK : va_K D cl tys s) (hP : va_P D cl ws H) (q0 t0 : Nat) {cA : ClassId} {C : FieldType} {n : Nat} {f : Nat → Option Nat} (ha : ws[q0]? = some (a, .inl (cA, n, .inr (.inr (.inr (.inr f)))))) (ht : tys[t0]? = some (cA, .array C)) {i : Int32} (hin : vp_in i n) (hdg : decode cc pc = .ok (.aaload, 1))
    (kk : W p l e R s m args below meth c H locs cells slots Q (F0 m (pc + 1) ls (va_rf (f i.toNatClampNeg) :: rest))) : W p l e R s m args below meth c H locs cells slots Q (F0 m pc ls (.int i :: .ref a :: rest)) := by
  have hlt : i.toNatClampNeg < n := Nat.not_le.mp fun q => hin (Or.inr q)
  exact W.aald (v := va_rf (f i.toNatClampNeg)) (ty := .array C) hexec hb (hP q0 _ ha) ((hK.2 t0 _ ht).1 n (fun j => va_rf (f j))) rfl (fun q => by cases q) (by show ¬ (i < 0 ∨ (arrV _ _ _).slots.size ≤ _); rw [arrV_size]; exact hin) (by show (arrV _ _ _).slots[_]? = _; rw [arrV_read _ _ hlt]) rfl rfl hdg kk
end VAX
section EVR
variable {M : MD} {K : KT} {pc : Nat} {L : List (Nat × AV)} {st : List AV} {h : Hp} {Q : Option AV → Hp → Prop}
/-- fewer locals, in any order -/
theorem ev_sub {L' : List (Nat × AV)} (hs : subL L L') (H : EvK M K pc L' st h) : EvK M K pc L st h := by
  intro g hg p e s m args below meth c B kA kr kz H0 locs ls hP hS hl
  refine H g hg p e s m args below meth c B kA kr kz H0 locs ls hP hS ⟨hl.1, hl.2.1, fun q hq => ?_⟩
  obtain ⟨x, hx, rfl⟩ := List.mem_map.mp hq
  exact lk_at hl (subL_mem hs x hx)
theorem ev_L {L' : List (Nat × AV)} (e : L = L') (H : EvK M K pc L' st h) : EvK M K pc L st h := e ▸ H
theorem ev_iadd {x y : Int32} (hd : decode M.2.1 pc = .ok (.iadd, 1)) (H : EvK M K (pc + 1) L (vI (x + y) :: st) h) : EvK M K pc L (vI y :: vI x :: st) h := by
  intro g hg p e s m args below meth c B kA kr kz H0 locs ls hP hS hl
  exact lv_iadd B.1 B.2.1 hd (H g hg p e s m args below meth c B kA kr kz H0 locs ls hP hS hl)
theorem ev_isub {x y : Int32} (hd : decode M.2.1 pc = .ok (.isub, 1)) (H : EvK M K (pc + 1) L (vI (x - y) :: st) h) : EvK M K pc L (vI y :: vI x :: st) h := by
  intro g hg p e s m args below meth c B kA kr kz H0 locs ls hP hS hl
  exact lv_isub B.1 B.2.1 hd (H g hg p e s m args below meth c B kA kr kz H0 locs ls hP hS hl)
theorem ev_imul {x y : Int32} (hd : decode M.2.1 pc = .ok (.imul, 1)) (H : EvK M K (pc + 1) L (vI (x * y) :: st) h) : EvK M K pc L (vI y :: vI x :: st) h := by
  intro g hg p e s m args below meth c B kA kr kz H0 locs ls hP hS hl
  exact lv_imul B.1 B.2.1 hd (H g hg p e s m args below meth c B kA kr kz H0 locs ls hP hS hl)
theorem ev_iand {x y : Int32} (hd : decode M.2.1 pc = .ok (.iand, 1)) (H : EvK M K (pc + 1) L (vI (x &&& y) :: st) h) : EvK M K pc L (vI y :: vI x :: st) h := by
  intro g hg p e s m args below meth c B kA kr kz H0 locs ls hP hS hl
  exact lv_iand B.1 B.2.1 hd (H g hg p e s m args below meth c B kA kr kz H0 locs ls hP hS hl)
theorem ev_land {x y : Int64} (hd : decode M.2.1 pc = .ok (.land, 1)) (H : EvK M K (pc + 1) L (vL (x &&& y) :: st) h) : EvK M K pc L (vL y :: vL x :: st) h := by
  intro g hg p e s m args below meth c B kA kr kz H0 locs ls hP hS hl
  exact lv_land B.1 B.2.1 hd (H g hg p e s m args below meth c B kA kr kz H0 locs ls hP hS hl)
theorem ev_lor {x y : Int64} (hd : decode M.2.1 pc = .ok (.lor, 1)) (H : EvK M K (pc + 1) L (vL (x ||| y) :: st) h) : EvK M K pc L (vL y :: vL x :: st) h := by
  intro g hg p e s m args below meth c B kA kr kz H0 locs ls hP hS hl
  exact lv_lor B.1 B.2.1 hd (H g hg p e s m args below meth c B kA kr kz H0 locs ls hP hS hl)
theorem ev_lshl {x : Int64} {y : Int32} (hd : decode M.2.1 pc = .ok (.lshl, 1)) (H : EvK M K (pc + 1) L (vL (x <<< (y.toInt64 &&& 63)) :: st) h) : EvK M K pc L (vI y :: vL x :: st) h := by
  intro g hg p e s m args below meth c B kA kr kz H0 locs ls hP hS hl
  exact lv_lshl B.1 B.2.1 hd rfl (H g hg p e s m args below meth c B kA kr kz H0 locs ls hP hS hl)
theorem ev_lshr {x : Int64} {y : Int32} (hd : decode M.2.1 pc = .ok (.lshr, 1)) (H : EvK M K (pc + 1) L (vL (x >>> (y.toInt64 &&& 63)) :: st) h) : EvK M K pc L (vI y :: vL x :: st) h := by
  intro g hg p e s m args below meth c B kA kr kz H0 locs ls hP hS hl
  exact lv_lshr B.1 B.2.1 hd rfl (H g hg p e s m args below meth c B kA kr kz H0 locs ls hP hS hl)
theorem ev_idiv {x y : Int32} (hd : decode M.2.1 pc = .ok (.idiv, 1)) (hne : ¬ y = 0) (H : EvK M K (pc + 1) L (vI (x / y) :: st) h) : EvK M K pc L (vI y :: vI x :: st) h := by
  intro g hg p e s m args below meth c B kA kr kz H0 locs ls hP hS hl
  exact lv_idiv B.1 B.2.1 hd hne (H g hg p e s m args below meth c B kA kr kz H0 locs ls hP hS hl)
theorem ev_irem {x y : Int32} (hd : decode M.2.1 pc = .ok (.irem, 1)) (hne : ¬ y = 0) (H : EvK M K (pc + 1) L (vI (x - x / y * y) :: st) h) : EvK M K pc L (vI y :: vI x :: st) h := by
  intro g hg p e s m args below meth c B kA kr kz H0 locs ls hP hS hl
  exact lv_irem B.1 B.2.1 hd hne (H g hg p e s m args below meth c B kA kr kz H0 locs ls hP hS hl)
theorem ev_i2l {x : Int32} (hd : decode M.2.1 pc = .ok (.i2l, 1)) (H : EvK M K (pc + 1) L (vL x.toInt64 :: st) h) : EvK M K pc L (vI x :: st) h := by
  intro g hg p e s m args below meth c B kA kr kz H0 locs ls hP hS hl
  exact lv_i2l B.1 B.2.1 hd rfl (H g hg p e s m args below meth c B kA kr kz H0 locs ls hP hS hl)
theorem ev_l2i {x : Int64} (hd : decode M.2.1 pc = .ok (.l2i, 1)) (H : EvK M K (pc + 1) L (vI x.toInt32 :: st) h) : EvK M K pc L (vL x :: st) h := by
  intro g hg p e s m args below meth c B kA kr kz H0 locs ls hP hS hl
  exact lv_l2i B.1 B.2.1 hd rfl (H g hg p e s m args below meth c B kA kr kz H0 locs ls hP hS hl)
theorem ev_lcmp {x y : Int64} (hd : decode M.2.1 pc = .ok (.lcmp, 1)) (H : EvK M K (pc + 1) L (vI (lg_cmp x y) :: st) h) : EvK M K pc L (vL y :: vL x :: st) h := by
  intro g hg p e s m args below meth c B kA kr kz H0 locs ls hP hS hl
  exact W.lcmp B.1 B.2.1 hd (H g hg p e s m args below meth c B kA kr kz H0 locs ls hP hS hl)
theorem ev_iconst {n : Int} (v : Int32) (hd : decode M.2.1 pc = .ok (.iconst n, 1)) (hv : Int32.ofInt n = v) (H : EvK M K (pc + 1) L (vI v :: st) h) : EvK M K pc L st h := by
  intro g hg p e s m args below meth c B kA kr kz H0 locs ls hP hS hl
  exact lv_iconst B.1 B.2.1 hd hv (H g hg p e s m args below meth c B kA kr kz H0 locs ls hP hS hl)
theorem ev_bipush {n : Int} (v : Int32) (hd : decode M.2.1 pc = .ok (.bipush n, 2)) (hv : (Int8.ofInt n).toInt32 = v) (H : EvK M K (pc + 2) L (vI v :: st) h) : EvK M K pc L st h := by
  intro g hg p e s m args below meth c B kA kr kz H0 locs ls hP hS hl
  exact lv_bipush B.1 B.2.1 hd hv (H g hg p e s m args below meth c B kA kr kz H0 locs ls hP hS hl)
theorem ev_sipush {n : Int} (v : Int32) (hd : decode M.2.1 pc = .ok (.sipush n, 3)) (hv : (Int16.ofInt n).toInt32 = v) (H : EvK M K (pc + 3) L (vI v :: st) h) : EvK M K pc L st h := by
  intro g hg p e s m args below meth c B kA kr kz H0 locs ls hP hS hl
  exact lv_sipush B.1 B.2.1 hd hv (H g hg p e s m args below meth c B kA kr kz H0 locs ls hP hS hl)
theorem ev_lconst {n : Fin 2} (v : Int64) (hd : decode M.2.1 pc = .ok (.lconst n, 1)) (hv : Int64.ofNat (n : Nat) = v) (H : EvK M K (pc + 1) L (vL v :: st) h) : EvK M K pc L st h := by
  intro g hg p e s m args below meth c B kA kr kz H0 locs ls hP hS hl
  exact lv_lconst B.1 B.2.1 hd hv (H g hg p e s m args below meth c B kA kr kz H0 locs ls hP hS hl)
theorem ev_ldc2 {i : Nat} {v : Int64} (hd : decode M.2.1 pc = .ok (.ldc2_w i, 3)) (hw : Cond.constantLong M.2.2.2.2.1 i v ∈ wsL_law0) (H : EvK M K (pc + 3) L (vL v :: st) h) : EvK M K pc L st h := by
  intro g hg p e s m args below meth c B kA kr kz H0 locs ls hP hS hl
  exact lv_ldc2 B.1 B.2.1 B.2.2.2.2.2.1 (B.2.2.2.2.2.2.1 _ hw) hd (H g hg p e s m args below meth c B kA kr kz H0 locs ls hP hS hl)
theorem ev_iload_n {k : Fin 4} {x : Int32} (i : Nat) (hd : decode M.2.1 pc = .ok (.iload_n k, 1)) (hi : (k : Nat) = i) (hl : lk L i = some (vI x)) (H : EvK M K (pc + 1) L (vI x :: st) h) : EvK M K pc L st h := by
  intro g hg p e s m args below meth c B kA kr kz H0 locs ls hP hS hl'
  exact lv_iload_n B.1 B.2.1 hd hi (lk_at hl' hl) (H g hg p e s m args below meth c B kA kr kz H0 locs ls hP hS hl')
theorem ev_iload {i : Nat} {x : Int32} (hd : decode M.2.1 pc = .ok (.iload i, 2)) (hl : lk L i = some (vI x)) (H : EvK M K (pc + 2) L (vI x :: st) h) : EvK M K pc L st h := by
  intro g hg p e s m args below meth c B kA kr kz H0 locs ls hP hS hl'
  exact lv_iload B.1 B.2.1 hd (lk_at hl' hl) (H g hg p e s m args below meth c B kA kr kz H0 locs ls hP hS hl')
theorem ev_lload_n {k : Fin 4} {x : Int64} (i : Nat) (hd : decode M.2.1 pc = .ok (.lload_n k, 1)) (hi : (k : Nat) = i) (hl : lk L i = some (vL x)) (H : EvK M K (pc + 1) L (vL x :: st) h) : EvK M K pc L st h := by
  intro g hg p e s m args below meth c B kA kr kz H0 locs ls hP hS hl'
  exact lv_lload_n B.1 B.2.1 hd hi (lk_at hl' hl) (H g hg p e s m args below meth c B kA kr kz H0 locs ls hP hS hl')
theorem ev_lload {i : Nat} {x : Int64} (hd : decode M.2.1 pc = .ok (.lload i, 2)) (hl : lk L i = some (vL x)) (H : EvK M K (pc + 2) L (vL x :: st) h) : EvK M K pc L st h := by
  intro g hg p e s m args below meth c B kA kr kz H0 locs ls hP hS hl'
  exact lv_lload B.1 B.2.1 hd (lk_at hl' hl) (H g hg p e s m args below meth c B kA kr kz H0 locs ls hP hS hl')
theorem ev_aload_n {k : Fin 4} {x : Nat} (i : Nat) (hd : decode M.2.1 pc = .ok (.aload_n k, 1)) (hi : (k : Nat) = i) (hl : lk L i = some (vR x)) (H : EvK M K (pc + 1) L (vR x :: st) h) : EvK M K pc L st h := by
  intro g hg p e s m args below meth c B kA kr kz H0 locs ls hP hS hl'
  exact lv_aload_n B.1 B.2.1 hd hi (lk_at hl' hl) (H g hg p e s m args below meth c B kA kr kz H0 locs ls hP hS hl')
theorem ev_aload {i : Nat} {x : Nat} (hd : decode M.2.1 pc = .ok (.aload i, 2)) (hl : lk L i = some (vR x)) (H : EvK M K (pc + 2) L (vR x :: st) h) : EvK M K pc L st h := by
  intro g hg p e s m args below meth c B kA kr kz H0 locs ls hP hS hl'
  exact lv_aload B.1 B.2.1 hd (lk_at hl' hl) (H g hg p e s m args below meth c B kA kr kz H0 locs ls hP hS hl')
theorem ev_dup {v : AV} (hd : decode M.2.1 pc = .ok (.dup, 1)) (hv : isL v = false) (H : EvK M K (pc + 1) L (v :: v :: st) h) : EvK M K pc L (v :: st) h := by
  intro g hg p e s m args below meth c B kA kr kz H0 locs ls hP hS hl
  exact lv_dup B.1 B.2.1 hd (by rw [isL_cat, hv]; rfl) (H g hg p e s m args below meth c B kA kr kz H0 locs ls hP hS hl)
theorem ev_dup2 {v w : AV} (hd : decode M.2.1 pc = .ok (.dup2, 1)) (hv : isL v = false) (hw : isL w = false) (H : EvK M K (pc + 1) L (v :: w :: v :: w :: st) h) : EvK M K pc L (v :: w :: st) h := by
  intro g hg p e s m args below meth c B kA kr kz H0 locs ls hP hS hl
  exact lv_dup2_11 B.1 B.2.1 hd (by rw [isL_cat, hv]; rfl) (by rw [isL_cat, hw]; rfl) (H g hg p e s m args below meth c B kA kr kz H0 locs ls hP hS hl)

theorem ev_istore_n {k : Fin 4} {x : Int32} (i : Nat) (hd : decode M.2.1 pc = .ok (.istore_n k, 1)) (hi : (k : Nat) = i) (hn : i < M.2.2.1) (H : EvK M K (pc + 1) (st1 i (vI x) L) st h) : EvK M K pc L (vI x :: st) h := by
  intro g hg p e s m args below meth c B kA kr kz H0 locs ls hP hS hl
  exact lv_istore_n B.1 B.2.1 hd hi hl hn (st1_lm g.2.2.1 i (vI x) L) (fun ls' hl' => H g hg p e s m args below meth c B kA kr kz H0 locs ls' hP hS hl')
theorem ev_istore {i : Nat} {x : Int32} (hd : decode M.2.1 pc = .ok (.istore i, 2)) (hn : i < M.2.2.1) (H : EvK M K (pc + 2) (st1 i (vI x) L) st h) : EvK M K pc L (vI x :: st) h := by
  intro g hg p e s m args below meth c B kA kr kz H0 locs ls hP hS hl
  exact lv_istore B.1 B.2.1 hd hl hn (st1_lm g.2.2.1 i (vI x) L) (fun ls' hl' => H g hg p e s m args below meth c B kA kr kz H0 locs ls' hP hS hl')
theorem ev_lstore_n {k : Fin 4} {x : Int64} (i : Nat) (hd : decode M.2.1 pc = .ok (.lstore_n k, 1)) (hi : (k : Nat) = i) (hn : i + 1 < M.2.2.1) (H : EvK M K (pc + 1) (st2 i (vL x) L) st h) : EvK M K pc L (vL x :: st) h := by
  intro g hg p e s m args below meth c B kA kr kz H0 locs ls hP hS hl
  exact lv_lstore_n B.1 B.2.1 hd hi hl hn (st2_lm g.2.2.1 i (vL x) L) (fun ls' hl' => H g hg p e s m args below meth c B kA kr kz H0 locs ls' hP hS hl')
theorem ev_lstore {i : Nat} {x : Int64} (hd : decode M.2.1 pc = .ok (.lstore i, 2)) (hn : i + 1 < M.2.2.1) (H : EvK M K (pc + 2) (st2 i (vL x) L) st h) : EvK M K pc L (vL x :: st) h := by
  intro g hg p e s m args below meth c B kA kr kz H0 locs ls hP hS hl
  exact lv_lstore B.1 B.2.1 hd hl hn (st2_lm g.2.2.1 i (vL x) L) (fun ls' hl' => H g hg p e s m args below meth c B kA kr kz H0 locs ls' hP hS hl')
theorem ev_iinc {i : Nat} {n : Int} {x v : Int32} (hd : decode M.2.1 pc = .ok (.iinc i n, 3)) (hk : lk L i = some (vI x)) (hv : Int32.ofInt n = v) (hn : i < M.2.2.1) (H : EvK M K (pc + 3) (st1 i (vI (x + v)) L) st h) : EvK M K pc L st h := by
  intro g hg p e s m args below meth c B kA kr kz H0 locs ls hP hS hl
  obtain ⟨k, hk2⟩ := List.getElem?_of_mem (List.mem_map.mpr ⟨(i, vI x), lk_mem hk, rfl⟩ : (i, Value.int x) ∈ lm g.2.2.1 L)
  exact lv_iinc B.1 B.2.1 hd hl hk2 (by rw [hv]) hn (st1_lm g.2.2.1 i (vI (x + v)) L) (fun ls' hl' => H g hg p e s m args below meth c B kA kr kz H0 locs ls' hP hS hl')

theorem ev_if_eq {x : Int32} {off : Int} (tgt : Nat) (hd : decode M.2.1 pc = .ok (.ifCond .eq off, 3)) (ht : (pc : Int) + off = (tgt : Int)) (H : (x = 0 → EvK M K tgt L st h) ∧ (¬ x = 0 → EvK M K (pc + 3) L st h)) : EvK M K pc L (vI x :: st) h := by
  intro g hg p e s m args below meth c B kA kr kz H0 locs ls hP hS hl
  exact lv_if_eq B.1 B.2.1 hd ht (fun q => H.1 q g hg p e s m args below meth c B kA kr kz H0 locs ls hP hS hl) (fun q => H.2 q g hg p e s m args below meth c B kA kr kz H0 locs ls hP hS hl)
theorem ev_if_ne {x : Int32} {off : Int} (tgt : Nat) (hd : decode M.2.1 pc = .ok (.ifCond .ne off, 3)) (ht : (pc : Int) + off = (tgt : Int)) (H : (¬ x = 0 → EvK M K tgt L st h) ∧ (x = 0 → EvK M K (pc + 3) L st h)) : EvK M K pc L (vI x :: st) h := by
  intro g hg p e s m args below meth c B kA kr kz H0 locs ls hP hS hl
  exact lv_if_ne B.1 B.2.1 hd ht (fun q => H.1 q g hg p e s m args below meth c B kA kr kz H0 locs ls hP hS hl) (fun q => H.2 q g hg p e s m args below meth c B kA kr kz H0 locs ls hP hS hl)
theorem ev_if_lt {x : Int32} {off : Int} (tgt : Nat) (hd : decode M.2.1 pc = .ok (.ifCond .lt off, 3)) (ht : (pc : Int) + off = (tgt : Int)) (H : (x < 0 → EvK M K tgt L st h) ∧ (¬ x < 0 → EvK M K (pc + 3) L st h)) : EvK M K pc L (vI x :: st) h := by
  intro g hg p e s m args below meth c B kA kr kz H0 locs ls hP hS hl
  exact lv_if_lt B.1 B.2.1 hd ht (fun q => H.1 q g hg p e s m args below meth c B kA kr kz H0 locs ls hP hS hl) (fun q => H.2 q g hg p e s m args below meth c B kA kr kz H0 locs ls hP hS hl)
theorem ev_if_ge {x : Int32} {off : Int} (tgt : Nat) (hd : decode M.2.1 pc = .ok (.ifCond .ge off, 3)) (ht : (pc : Int) + off = (tgt : Int)) (H : (0 ≤ x → EvK M K tgt L st h) ∧ (¬ 0 ≤ x → EvK M K (pc + 3) L st h)) : EvK M K pc L (vI x :: st) h := by
  intro g hg p e s m args below meth c B kA kr kz H0 locs ls hP hS hl
  exact lv_if_ge B.1 B.2.1 hd ht (fun q => H.1 q g hg p e s m args below meth c B kA kr kz H0 locs ls hP hS hl) (fun q => H.2 q g hg p e s m args below meth c B kA kr kz H0 locs ls hP hS hl)
theorem ev_if_gt {x : Int32} {off : Int} (tgt : Nat) (hd : decode M.2.1 pc = .ok (.ifCond .gt off, 3)) (ht : (pc : Int) + off = (tgt : Int)) (H : (0 < x → EvK M K tgt L st h) ∧ (¬ 0 < x → EvK M K (pc + 3) L st h)) : EvK M K pc L (vI x :: st) h := by
  intro g hg p e s m args below meth c B kA kr kz H0 locs ls hP hS hl
  exact lv_if_gt B.1 B.2.1 hd ht (fun q => H.1 q g hg p e s m args below meth c B kA kr kz H0 locs ls hP hS hl) (fun q => H.2 q g hg p e s m args below meth c B kA kr kz H0 locs ls hP hS hl)
theorem ev_if_le {x : Int32} {off : Int} (tgt : Nat) (hd : decode M.2.1 pc = .ok (.ifCond .le off, 3)) (ht : (pc : Int) + off = (tgt : Int)) (H : (x ≤ 0 → EvK M K tgt L st h) ∧ (¬ x ≤ 0 → EvK M K (pc + 3) L st h)) : EvK M K pc L (vI x :: st) h := by
  intro g hg p e s m args below meth c B kA kr kz H0 locs ls hP hS hl
  exact lv_if_le B.1 B.2.1 hd ht (fun q => H.1 q g hg p e s m args below meth c B kA kr kz H0 locs ls hP hS hl) (fun q => H.2 q g hg p e s m args below meth c B kA kr kz H0 locs ls hP hS hl)
theorem ev_icmp_eq {x y : Int32} {off : Int} (tgt : Nat) (hd : decode M.2.1 pc = .ok (.if_icmp .eq off, 3)) (ht : (pc : Int) + off = (tgt : Int)) (H : (x = y → EvK M K tgt L st h) ∧ (¬ x = y → EvK M K (pc + 3) L st h)) : EvK M K pc L (vI y :: vI x :: st) h := by
  intro g hg p e s m args below meth c B kA kr kz H0 locs ls hP hS hl
  exact lv_icmp_eq B.1 B.2.1 hd ht (fun q => H.1 q g hg p e s m args below meth c B kA kr kz H0 locs ls hP hS hl) (fun q => H.2 q g hg p e s m args below meth c B kA kr kz H0 locs ls hP hS hl)
theorem ev_icmp_ne {x y : Int32} {off : Int} (tgt : Nat) (hd : decode M.2.1 pc = .ok (.if_icmp .ne off, 3)) (ht : (pc : Int) + off = (tgt : Int)) (H : (¬ x = y → EvK M K tgt L st h) ∧ (x = y → EvK M K (pc + 3) L st h)) : EvK M K pc L (vI y :: vI x :: st) h := by
  intro g hg p e s m args below meth c B kA kr kz H0 locs ls hP hS hl
  exact lv_icmp_ne B.1 B.2.1 hd ht (fun q => H.1 q g hg p e s m args below meth c B kA kr kz H0 locs ls hP hS hl) (fun q => H.2 q g hg p e s m args below meth c B kA kr kz H0 locs ls hP hS hl)
theorem ev_icmp_lt {x y : Int32} {off : Int} (tgt : Nat) (hd : decode M.2.1 pc = .ok (.if_icmp .lt off, 3)) (ht : (pc : Int) + off = (tgt : Int)) (H : (x < y → EvK M K tgt L st h) ∧ (¬ x < y → EvK M K (pc + 3) L st h)) : EvK M K pc L (vI y :: vI x :: st) h := by
  intro g hg p e s m args below meth c B kA kr kz H0 locs ls hP hS hl
  exact lv_icmp_lt B.1 B.2.1 hd ht (fun q => H.1 q g hg p e s m args below meth c B kA kr kz H0 locs ls hP hS hl) (fun q => H.2 q g hg p e s m args below meth c B kA kr kz H0 locs ls hP hS hl)
theorem ev_icmp_ge {x y : Int32} {off : Int} (tgt : Nat) (hd : decode M.2.1 pc = .ok (.if_icmp .ge off, 3)) (ht : (pc : Int) + off = (tgt : Int)) (H : (y ≤ x → EvK M K tgt L st h) ∧ (¬ y ≤ x → EvK M K (pc + 3) L st h)) : EvK M K pc L (vI y :: vI x :: st) h := by
  intro g hg p e s m args below meth c B kA kr kz H0 locs ls hP hS hl
  exact lv_icmp_ge B.1 B.2.1 hd ht (fun q => H.1 q g hg p e s m args below meth c B kA kr kz H0 locs ls hP hS hl) (fun q => H.2 q g hg p e s m args below meth c B kA kr kz H0 locs ls hP hS hl)
theorem ev_icmp_gt {x y : Int32} {off : Int} (tgt : Nat) (hd : decode M.2.1 pc = .ok (.if_icmp .gt off, 3)) (ht : (pc : Int) + off = (tgt : Int)) (H : (y < x → EvK M K tgt L st h) ∧ (¬ y < x → EvK M K (pc + 3) L st h)) : EvK M K pc L (vI y :: vI x :: st) h := by
  intro g hg p e s m args below meth c B kA kr kz H0 locs ls hP hS hl
  exact lv_icmp_gt B.1 B.2.1 hd ht (fun q => H.1 q g hg p e s m args below meth c B kA kr kz H0 locs ls hP hS hl) (fun q => H.2 q g hg p e s m args below meth c B kA kr kz H0 locs ls hP hS hl)
theorem ev_icmp_le {x y : Int32} {off : Int} (tgt : Nat) (hd : decode M.2.1 pc = .ok (.if_icmp .le off, 3)) (ht : (pc : Int) + off = (tgt : Int)) (H : (x ≤ y → EvK M K tgt L st h) ∧ (¬ x ≤ y → EvK M K (pc + 3) L st h)) : EvK M K pc L (vI y :: vI x :: st) h := by
  intro g hg p e s m args below meth c B kA kr kz H0 locs ls hP hS hl
  exact lv_icmp_le B.1 B.2.1 hd ht (fun q => H.1 q g hg p e s m args below meth c B kA kr kz H0 locs ls hP hS hl) (fun q => H.2 q g hg p e s m args below meth c B kA kr kz H0 locs ls hP hS hl)
theorem ev_goto {off : Int} (tgt : Nat) (hd : decode M.2.1 pc = .ok (.goto off, 3)) (ht : (pc : Int) + off = (tgt : Int)) (H : EvK M K tgt L st h) : EvK M K pc L st h := by
  intro g hg p e s m args below meth c B kA kr kz H0 locs ls hP hS hl
  exact lv_goto B.1 B.2.1 hd ht (H g hg p e s m args below meth c B kA kr kz H0 locs ls hP hS hl)
theorem ev_switch {x : Int32} {d lo hi : Int} {os : Array Int} {ln : Nat} (tgt : Nat) (hd : decode M.2.1 pc = .ok (.tableswitch d lo hi os, ln)) (hx : (¬ x.toInt < lo ∧ ¬ hi < x.toInt ∧ ∃ o, os[(x.toInt - lo).toNat]? = some o ∧ (pc : Int) + o = (tgt : Int)) ∨ ((x.toInt < lo ∨ hi < x.toInt) ∧ (pc : Int) + d = (tgt : Int))) (H : EvK M K tgt L st h) : EvK M K pc L (vI x :: st) h := by
  intro g hg p e s m args below meth c B kA kr kz H0 locs ls hP hS hl
  rcases hx with ⟨h1, h2, o, h3, h4⟩ | ⟨h1, h2⟩
  · exact lv_tableIn B.1 B.2.1 hd h1 h2 h3 h4 (H g hg p e s m args below meth c B kA kr kz H0 locs ls hP hS hl)
  · exact lv_tableOut B.1 B.2.1 hd h1 h2 (H g hg p e s m args below meth c B kA kr kz H0 locs ls hP hS hl)

/-! fields -/
/-- what links a field: its class is of the world, the words are in the tables -/
def FL (own : String) (idx ci k : Nat) : Prop := ∃ (C : String) (T : u_T) (n : Nat), vwCl[ci]? = some (C, T, n) ∧ k < n ∧ (∀ w ∈ u_ws C T n, w ∈ wsL_law0) ∧ Cond.fieldLink own idx (T k).1 (T k).2.1 (T k).2.2.1 ∈ wsL_law0
/-- and that it may be written -/
def FP (own : String) (idx ci k : Nat) (ty : FieldType) : Prop := ∃ (C : String) (T : u_T) (n : Nat) (ty0 : Nat → FieldType), vwCl[ci]? = some (C, T, n) ∧ k < n ∧ (∀ w ∈ u_ws C T n, w ∈ wsL_law0) ∧ Cond.fieldLink own idx (T k).1 (T k).2.1 (T k).2.2.1 ∈ wsL_law0 ∧ (∀ k, k < n → parseFieldDescriptor (T k).2.2.1 = some (ty0 k)) ∧ (∀ a, a < n → ∀ b, b < n → a ≠ b → (T a).2.1 ≠ (T b).2.1) ∧ (T k).2.2.2 = false ∧ parseFieldDescriptor (T k).2.2.1 = some ty
theorem sh_lt {c ci : Nat} {fs : List (Option Nat)} (hs : sh c = .inl (ci, fs)) : c < 54 := by
  by_cases hc : c < 54
  · exact hc
  · have e : sh c = .inr (2, 9) := by have e2 := sh_big (c - 54); rwa [show 54 + (c - 54) = c by omega] at e2
    rw [e] at hs
    cases hs
theorem sh_ltz {c n : Nat} {k : Nat} (hk : k ≠ 2) (hs : sh c = .inr (k, n)) : c < 54 := by
  by_cases hc : c < 54
  · exact hc
  · have e : sh c = .inr (2, 9) := by have e2 := sh_big (c - 54); rwa [show 54 + (c - 54) = c by omega] at e2
    rw [e] at hs
    cases hs
    exact absurd rfl hk
theorem flV_set (q : Nat → Nat) (f : Nat → Int32) (fs : List (Option Nat)) (k : Nat) (v : Int32) (hf : fs[k]? = some none) : (fs.mapIdx (fun j o => flV q f j o)).set k (.int v) = fs.mapIdx (fun j o => flV q (upd f k v) j o) := by
  have hk : k < fs.length := (List.getElem?_eq_some_iff.mp hf).1
  apply List.ext_getElem?
  intro i
  by_cases e : i = k
  · subst e
    rw [List.getElem?_set_self (by simpa using hk), List.getElem?_mapIdx, hf]
    simp [flV, upd]
  · rw [List.getElem?_set_ne (Ne.symm e), List.getElem?_mapIdx, List.getElem?_mapIdx]
    cases fs[i]? with
    | none => rfl
    | some o => cases o <;> simp [flV, upd, e]
theorem ev_getI {c ci k idx : Nat} {fs : List (Option Nat)} (hd : decode M.2.1 pc = .ok (.getfield idx, 3)) (hF : FL M.2.2.2.2.1 idx ci k) (hs : sh c = .inl (ci, fs)) (hf : fs[k]? = some none) (H : EvK M K (pc + 3) L (vI (h.1 c k) :: st) h) : EvK M K pc L (vR c :: st) h := by
  intro g hg p e s m args below meth cd B kA kr kz H0 locs ls hP hS hl
  obtain ⟨C, T, n, h1, h2, h3, h4⟩ := hF
  have hc := sh_lt hs
  exact va_get (D := g.2.1) (ci := ci) (v := .int (h.1 c k)) (C := C) (T := T) (N := n) B.1 B.2.1 B.2.2.2.2.2.2.1 h3 B.2.2.2.2.2.1 B.2.2.2.2.2.2.2.1 hP c ((wo_at g h (by omega)).trans (by rw [cel_obj g h hs])) h1 k h2 (B.2.2.2.2.2.2.1 _ h4) (fun _ h9 => h9) (by rw [List.getElem?_mapIdx, hf]; rfl) hd (H g hg p e s m args below meth cd B kA kr kz H0 locs ls hP hS hl)
theorem ev_getR {c ci k idx d : Nat} {fs : List (Option Nat)} (hd : decode M.2.1 pc = .ok (.getfield idx, 3)) (hF : FL M.2.2.2.2.1 idx ci k) (hs : sh c = .inl (ci, fs)) (hf : fs[k]? = some (some d)) (H : EvK M K (pc + 3) L (vR d :: st) h) : EvK M K pc L (vR c :: st) h := by
  intro g hg p e s m args below meth cd B kA kr kz H0 locs ls hP hS hl
  obtain ⟨C, T, n, h1, h2, h3, h4⟩ := hF
  have hc := sh_lt hs
  exact va_get (D := g.2.1) (ci := ci) (v := .ref (g.2.2.1 d)) (C := C) (T := T) (N := n) B.1 B.2.1 B.2.2.2.2.2.2.1 h3 B.2.2.2.2.2.1 B.2.2.2.2.2.2.2.1 hP c ((wo_at g h (by omega)).trans (by rw [cel_obj g h hs])) h1 k h2 (B.2.2.2.2.2.2.1 _ h4) (fun _ h9 => h9) (by rw [List.getElem?_mapIdx, hf]; rfl) hd (H g hg p e s m args below meth cd B kA kr kz H0 locs ls hP hS hl)
theorem ev_putT {c ci k idx : Nat} {fs : List (Option Nat)} {x : Int32} {ty : FieldType} (hd : decode M.2.1 pc = .ok (.putfield idx, 3)) (hF : FP M.2.2.2.2.1 idx ci k ty) (hs : sh c = .inl (ci, fs)) (hf : fs[k]? = some none) (hn : narrow ty (.int x) = .int x) (hfit : fits ty (.int x) = true) (H : EvK M K (pc + 3) L st (sI h c (upd (h.1 c) k x))) : EvK M K pc L (vI x :: vR c :: st) h := by
  intro g hg p e s m args below meth cd B kA kr kz H0 locs ls hP hS hl
  obtain ⟨C, T, n, ty0, h1, h2, h3, h4, h5, h6, h7, h8⟩ := hF
  have hc := sh_lt hs
  have hk : k < fs.length := (List.getElem?_eq_some_iff.mp hf).1
  have hset : (wo g h).set c (g.2.2.1 c, .inr (ci, (fs.mapIdx (fun k o => flV g.2.2.1 (h.1 c) k o)).set k (.int x))) = wo g (sI h c (upd (h.1 c) k x)) := by
    refine wo_set (by omega) ?_ (fun d hd => cel_sI_ne g h _ hd)
    rw [cel_obj g _ hs, flV_set _ _ _ _ _ hf]
    show Sum.inr (ci, List.mapIdx (fun j o => flV g.2.2.1 (va_up h.1 c (upd (h.1 c) k x) c) j o) fs) = _
    rw [va_up_self]
  refine va_put (D := g.2.1) (ci := ci) (v := .int x) (ty := ty) (C := C) (T := T) (N := n) B.1 B.2.1 B.2.2.2.2.2.2.1 h3 ty0 h5 h6 B.2.2.2.2.2.1 B.2.2.2.2.2.2.2.1 hP (wo_DA hg kA h) hS c ((wo_at g h (by omega)).trans (by rw [cel_obj g h hs])) h1 k h2 (B.2.2.2.2.2.2.1 _ h4) (fun _ h9 => h9) h7 h8 hn hfit (by simpa using hk) hd (fun H1 locs1 hP1 hD1 hS1 => ?_)
  rw [hset] at hP1
  exact H g hg p e s m args below meth cd B kA kr kz H1 locs1 ls hP1 hS1 hl
theorem ev_putI {c ci k idx : Nat} {fs : List (Option Nat)} {x : Int32} (hd : decode M.2.1 pc = .ok (.putfield idx, 3)) (hF : FP M.2.2.2.2.1 idx ci k .int) (hs : sh c = .inl (ci, fs)) (hf : fs[k]? = some none) (H : EvK M K (pc + 3) L st (sI h c (upd (h.1 c) k x))) : EvK M K pc L (vI x :: vR c :: st) h :=
  ev_putT hd hF hs hf rfl rfl H
theorem ev_putZ {c ci k idx : Nat} {fs : List (Option Nat)} {x : Int32} (hd : decode M.2.1 pc = .ok (.putfield idx, 3)) (hF : FP M.2.2.2.2.1 idx ci k .boolean) (hs : sh c = .inl (ci, fs)) (hf : fs[k]? = some none) (hb : x = 0 ∨ x = 1) (H : EvK M K (pc + 3) L st (sI h c (upd (h.1 c) k x))) : EvK M K pc L (vI x :: vR c :: st) h := by
  rcases hb with rfl | rfl
  · exact ev_putT hd hF hs hf (by decide +kernel) (by decide +kernel) H
  · exact ev_putT hd hF hs hf (by decide +kernel) (by decide +kernel) H
/-! arrays -/
theorem ev_iald {c n : Nat} {i : Int32} (hd : decode M.2.1 pc = .ok (.iaload, 1)) (hs : sh c = .inr (0, n)) (hi : vp_in i n) (H : EvK M K (pc + 1) L (vI (h.1 c i.toNatClampNeg) :: st) h) : EvK M K pc L (vI i :: vR c :: st) h := by
  intro g hg p e s m args below meth cd B kA kr kz H0 locs ls hP hS hl
  have hc := sh_ltz (by decide) hs
  exact va_iald B.1 B.2.1 B.2.2.2.2.2.2.2.1 hP c 0 ((wo_at g h (by omega)).trans (by rw [cel_i g h hs])) rfl hi hd (H g hg p e s m args below meth cd B kA kr kz H0 locs ls hP hS hl)
theorem ev_zald {c n : Nat} {i : Int32} (hd : decode M.2.1 pc = .ok (.baload, 1)) (hs : sh c = .inr (1, n)) (hi : vp_in i n) (H : EvK M K (pc + 1) L (vI (h.1 c i.toNatClampNeg) :: st) h) : EvK M K pc L (vI i :: vR c :: st) h := by
  intro g hg p e s m args below meth cd B kA kr kz H0 locs ls hP hS hl
  have hc := sh_ltz (by decide) hs
  exact va_zald B.1 B.2.1 B.2.2.2.2.2.2.2.1 hP c 1 ((wo_at g h (by omega)).trans (by rw [cel_z g h hs])) rfl hi hd (H g hg p e s m args below meth cd B kA kr kz H0 locs ls hP hS hl)
theorem ev_lald {c n : Nat} {i : Int32} (hd : decode M.2.1 pc = .ok (.laload, 1)) (hs : sh c = .inr (2, n)) (hc : c < 54) (hi : vp_in i n) (H : EvK M K (pc + 1) L (vL (h.2.1 c i.toNatClampNeg) :: st) h) : EvK M K pc L (vI i :: vR c :: st) h := by
  intro g hg p e s m args below meth cd B kA kr kz H0 locs ls hP hS hl
  exact va_lald B.1 B.2.1 B.2.2.2.2.2.2.2.1 hP c 2 ((wo_at g h (by omega)).trans (by rw [cel_j g h hs hc])) rfl hi hd (H g hg p e s m args below meth cd B kA kr kz H0 locs ls hP hS hl)
theorem ev_rald {k : Nat} {i : Int32} (hd : decode M.2.1 pc = .ok (.laload, 1)) (hk : k < 64) (hi : vp_in i 9) (H : EvK M K (pc + 1) L (vL (h.2.2 k i.toNatClampNeg) :: st) h) : EvK M K pc L (vI i :: vW k :: st) h := by
  intro g hg p e s m args below meth cd B kA kr kz H0 locs ls hP hS hl
  exact va_lald B.1 B.2.1 B.2.2.2.2.2.2.2.1 hP (54 + k) 2 ((wo_at g h (by omega)).trans (by rw [cel_row g h k])) rfl hi hd (H g hg p e s m args below meth cd B kA kr kz H0 locs ls hP hS hl)
theorem ev_gald {c : Nat} {i : Int32} (hd : decode M.2.1 pc = .ok (.aaload, 1)) (hs : sh c = .inr (3, 64)) (hi : vp_in i 64) (H : EvK M K (pc + 1) L (vW i.toNatClampNeg :: st) h) : EvK M K pc L (vI i :: vR c :: st) h := by
  intro g hg p e s m args below meth cd B kA kr kz H0 locs ls hP hS hl
  have hc := sh_ltz (by decide) hs
  have ha : (wo g h)[c]? = some (g.2.2.1 c, .inl (g.2.2.2 3, 64, .inr (.inr (.inr (.inr (fun i => some (g.2.2.1 (54 + i)))))))) := (wo_at g h (by omega)).trans (by rw [cel_g g h hs])
  exact va_aldA B.1 B.2.1 B.2.2.2.2.2.2.2.1 hP c 3 ha rfl hi hd (H g hg p e s m args below meth cd B kA kr kz H0 locs ls hP hS hl)
theorem ev_iast {c n : Nat} {i x : Int32} (hd : decode M.2.1 pc = .ok (.iastore, 1)) (hs : sh c = .inr (0, n)) (hi : vp_in i n) (H : EvK M K (pc + 1) L st (sI h c (upd (h.1 c) i.toNatClampNeg x))) : EvK M K pc L (vI x :: vI i :: vR c :: st) h := by
  intro g hg p e s m args below meth cd B kA kr kz H0 locs ls hP hS hl
  have hc := sh_ltz (by decide) hs
  refine va_iast B.1 B.2.1 B.2.2.2.2.2.2.2.1 hP (wo_DA hg kA h) hS c 0 ((wo_at g h (by omega)).trans (by rw [cel_i g h hs])) rfl hi hd (fun H1 locs1 hP1 hD1 hS1 => ?_)
  rw [wo_set (h' := sI h c (upd (h.1 c) i.toNatClampNeg x)) (by omega) (by rw [cel_i g _ hs]; show Sum.inl (_, _, Sum.inl (va_up h.1 c _ c)) = _; rw [va_up_self]) (fun d hd => cel_sI_ne g h _ hd)] at hP1
  exact H g hg p e s m args below meth cd B kA kr kz H1 locs1 ls hP1 hS1 hl
theorem ev_zast {c n : Nat} {i x : Int32} (hd : decode M.2.1 pc = .ok (.bastore, 1)) (hs : sh c = .inr (1, n)) (hi : vp_in i n) (hb : x = 0 ∨ x = 1) (H : EvK M K (pc + 1) L st (sI h c (upd (h.1 c) i.toNatClampNeg x))) : EvK M K pc L (vI x :: vI i :: vR c :: st) h := by
  intro g hg p e s m args below meth cd B kA kr kz H0 locs ls hP hS hl
  have hc := sh_ltz (by decide) hs
  have hx : vp_nar .boolean x = x := by rcases hb with rfl | rfl <;> decide +kernel
  refine va_zast B.1 B.2.1 B.2.2.2.2.2.2.2.1 hP (wo_DA hg kA h) hS c 1 ((wo_at g h (by omega)).trans (by rw [cel_z g h hs])) rfl hi hd (fun H1 locs1 hP1 hD1 hS1 => ?_)
  rw [hx, wo_set (h' := sI h c (upd (h.1 c) i.toNatClampNeg x)) (by omega) (by rw [cel_z g _ hs]; show Sum.inl (_, _, Sum.inl (va_up h.1 c _ c)) = _; rw [va_up_self]) (fun d hd => cel_sI_ne g h _ hd)] at hP1
  exact H g hg p e s m args below meth cd B kA kr kz H1 locs1 ls hP1 hS1 hl
theorem ev_last {c n : Nat} {i : Int32} {x : Int64} (hd : decode M.2.1 pc = .ok (.lastore, 1)) (hs : sh c = .inr (2, n)) (hc : c < 54) (hi : vp_in i n) (H : EvK M K (pc + 1) L st (sJ h c (vp_updL (h.2.1 c) i.toNatClampNeg x))) : EvK M K pc L (vL x :: vI i :: vR c :: st) h := by
  intro g hg p e s m args below meth cd B kA kr kz H0 locs ls hP hS hl
  refine va_last B.1 B.2.1 B.2.2.2.2.2.2.2.1 hP (wo_DA hg kA h) hS c 2 ((wo_at g h (by omega)).trans (by rw [cel_j g h hs hc])) rfl hi hd (fun H1 locs1 hP1 hD1 hS1 => ?_)
  rw [wo_set (h' := sJ h c (vp_updL (h.2.1 c) i.toNatClampNeg x)) (by omega) (by rw [cel_j g _ hs hc]; show Sum.inl (_, _, Sum.inr (Sum.inl (va_up h.2.1 c _ c))) = _; rw [va_up_self]) (fun d hd => cel_sJ_ne g h _ hd)] at hP1
  exact H g hg p e s m args below meth cd B kA kr kz H1 locs1 ls hP1 hS1 hl
theorem ev_rast {k : Nat} {i : Int32} {x : Int64} (hd : decode M.2.1 pc = .ok (.lastore, 1)) (hk : k < 64) (hi : vp_in i 9) (H : EvK M K (pc + 1) L st (sW h k (vp_updL (h.2.2 k) i.toNatClampNeg x))) : EvK M K pc L (vL x :: vI i :: vW k :: st) h := by
  intro g hg p e s m args below meth cd B kA kr kz H0 locs ls hP hS hl
  refine va_last B.1 B.2.1 B.2.2.2.2.2.2.2.1 hP (wo_DA hg kA h) hS (54 + k) 2 ((wo_at g h (by omega)).trans (by rw [cel_row g h k])) rfl hi hd (fun H1 locs1 hP1 hD1 hS1 => ?_)
  rw [wo_set (h' := sW h k (vp_updL (h.2.2 k) i.toNatClampNeg x)) (by omega) (by rw [cel_sW g h _ k]) (fun d hd => cel_sW_ne g h _ hd)] at hP1
  exact H g hg p e s m args below meth cd B kA kr kz H1 locs1 ls hP1 hS1 hl
theorem ev_alen {c kd n : Nat} (v : Int32) (hd : decode M.2.1 pc = .ok (.arraylength, 1)) (hs : sh c = .inr (kd, n)) (hc : c < 54) (hk : kd < 3) (hv : Int32.ofNat n = v) (H : EvK M K (pc + 1) L (vI v :: st) h) : EvK M K pc L (vR c :: st) h := by
  intro g hg p e s m args below meth cd B kA kr kz H0 locs ls hP hS hl
  have hk2 : kd = 0 ∨ kd = 1 ∨ kd = 2 := by omega
  rcases hk2 with rfl | rfl | rfl
  · exact va_alen B.1 B.2.1 B.2.2.2.2.2.2.2.1 hP c 0 ((wo_at g h (by omega)).trans (by rw [cel_i g h hs])) rfl hv hd (H g hg p e s m args below meth cd B kA kr kz H0 locs ls hP hS hl)
  · exact va_alen B.1 B.2.1 B.2.2.2.2.2.2.2.1 hP c 1 ((wo_at g h (by omega)).trans (by rw [cel_z g h hs])) rfl hv hd (H g hg p e s m args below meth cd B kA kr kz H0 locs ls hP hS hl)
  · exact va_alen B.1 B.2.1 B.2.2.2.2.2.2.2.1 hP c 2 ((wo_at g h (by omega)).trans (by rw [cel_j g h hs hc])) rfl hv hd (H g hg p e s m args below meth cd B kA kr kz H0 locs ls hP hS hl)
/-! returns -/
theorem ev_iret {v : Int32} (hd : decode M.2.1 pc = .ok (.ireturn, 1)) (hr : M.2.2.2.1 = some .int) (H : Q (some (vI v)) h) : Ev M pc L [vI v] h Q := by
  intro g hg p e s m args below meth cd B kA kr kz H0 locs ls hP hS hl
  exact W.iret (v := v) B.1 B.2.1 (B.2.2.1.trans hr) (fun t ht hW => ⟨⟨some (vI v), h, rfl, H, by rw [ht]; exact hP⟩, hS.F ht⟩) hS.2.2 hd B.2.2.2.1
theorem ev_zret {v : Int32} (hd : decode M.2.1 pc = .ok (.ireturn, 1)) (hr : M.2.2.2.1 = some .boolean) (hb : v = 0 ∨ v = 1) (H : Q (some (vI v)) h) : Ev M pc L [vI v] h Q := by
  intro g hg p e s m args below meth cd B kA kr kz H0 locs ls hP hS hl
  exact W.zret (v := v) B.1 B.2.1 (B.2.2.1.trans hr) (by rcases hb with rfl | rfl <;> decide +kernel) (fun t ht hW => ⟨⟨some (vI v), h, rfl, H, by rw [ht]; exact hP⟩, hS.F ht⟩) hS.2.2 hd B.2.2.2.1
theorem ev_lret {v : Int64} (hd : decode M.2.1 pc = .ok (.lreturn, 1)) (hr : M.2.2.2.1 = some .long) (H : Q (some (vL v)) h) : Ev M pc L [vL v] h Q := by
  intro g hg p e s m args below meth cd B kA kr kz H0 locs ls hP hS hl
  exact W.lret (v := v) B.1 B.2.1 (B.2.2.1.trans hr) (fun t ht hW => ⟨⟨some (vL v), h, rfl, H, by rw [ht]; exact hP⟩, hS.F ht⟩) hS.2.2 hd B.2.2.2.1
theorem ev_vret (hd : decode M.2.1 pc = .ok (.return_, 1)) (hr : M.2.2.2.1 = none) (H : Q none h) : Ev M pc L [] h Q := by
  intro g hg p e s m args below meth cd B kA kr kz H0 locs ls hP hS hl
  exact W.vret B.1 B.2.1 (B.2.2.1.trans hr) (fun t ht hW => ⟨⟨none, h, rfl, H, by rw [ht]; exact hP⟩, hS.F ht⟩) hS.2.2 hd B.2.2.2.1
/-! calls -/
theorem px_blind (g : GG) (h : Hp) (as : List AV) : FrameBlind (Px g h as) := by
  intro a U f mk q
  obtain ⟨q0, qP, qK⟩ := q
  exact ⟨q0, qP, qK.calling f mk a⟩
theorem px_of {g : GG} {h : Hp} {as : List AV} {s : State} {H : Heap} (hP : va_P g.2.1 vwCl (wo g h) H) (hK : WK g s) (U : State) (hU : U.heap = H) (hW : s.WarmedH U.vm) : Px g h as (as.map (ro g.2.2.1)).toArray U :=
  ⟨rfl, by rw [hU]; exact hP, hK.moved hW⟩
/-- behind a call -/
theorem ev_back {g : GG} {p : Program} {e : Env} {s : State} {m : MethodId} {args : Array Value} {below : List Frame} {meth : Method} {c : Code} {H0 : Heap} {locs : List Loc} {ls : Array Slot} {st0 : List Value} {R : Room} {Qz : State → Prop} {QQ : Option AV → Hp → Prop} {a : Array Value} {rest : List AV} {cells slots : Nat} {A : Nat → Prop}
    (hr : va_Run p g.1 e R s m args below meth c H0 locs cells slots 0 0 (F0 m pc ls st0) (rest.map (ro g.2.2.1)) (Qx g QQ a) (Aw g)) (hAA : ∀ q, Aw g q → A q) (hS : va_S A s.heap H0 locs)
    (kk : ∀ (v : Option AV) (h1 : Hp) (H1 : Heap) (locs1 : List Loc), QQ v h1 → va_P g.2.1 vwCl (wo g h1) H1 → va_S A s.heap H1 locs1 → W p g.1 e R s m args below meth c H1 locs1 cells slots Qz (F0 m (pc + 3) ls ((v.toList ++ rest).map (ro g.2.2.1)))) : W p g.1 e R s m args below meth c H0 locs cells slots Qz (F0 m pc ls st0) := by
  intro T hT X
  obtain ⟨v, st₀, t, T', Lc, h0, X', hL, e1, e2, ⟨⟨v1, h1, hv, hp, hb⟩, hz, hk⟩, stp⟩ := hr T hT X
  have hv : v = v1.map (ro g.2.2.1) := by
    cases hv
    rfl
  rw [h0] at hz hk
  obtain ⟨t2, a1, b1⟩ := kk v1 h1 T'.heap (locs ++ Lc) hp (by rw [e1]; exact hb)
    ⟨Nat.le_trans hS.1 (by rw [e1]; exact hz), fun q h1 h2 => by rw [e1, hk q (Nat.lt_of_lt_of_le h1 hS.1) (fun z => h2 (hAA q z))]; exact hS.2.1 q h1 h2, fun q hq => by
      rcases List.mem_append.mp hq with h | h
      · exact hS.2.2 q h
      · exact hAA _ (hL q h)⟩ T' rfl X'
  refine ⟨t2, stp t2 ?_, b1⟩
  have e9 : v.toList ++ rest.map (ro g.2.2.1) = (v1.toList ++ rest).map (ro g.2.2.1) := by
    rw [hv]
    cases v1 <;> simp
  show Steps _ _ _ (T'.setTop { F0 m pc ls st0 with pc := pc + 3, stack := v.toList ++ rest.map (ro g.2.2.1) }) t2
  rw [e9]
  exact a1
theorem cat_le (q : Nat → Nat) (rest : List AV) (n : Nat) (hr : (rest.map (fun v => if isL v = true then 2 else 1)).sum ≤ n) : ((rest.map (ro q)).map fun v => v.category).sum ≤ n := by
  rw [List.map_map]
  have e : (Value.category ∘ ro q) = (fun v => if isL v = true then 2 else 1) := funext (isL_cat q)
  show (rest.map (Value.category ∘ ro q)).sum ≤ n
  rw [e]
  exact hr
/-- the words of a call of an own method: it is linked, of its class, of the tables -/
def MLv (own : String) (idx : Nat) (N : MD) (n : Nat) : Prop := GoodIn wsL_law0 (wsV own idx N.1.cls N.1 (wsM N)) ∧ N.1.cls ≠ "java/lang/invoke/MethodHandle" ∧ N.1.cls ≠ "java/lang/invoke/VarHandle" ∧ (parseMethodDescriptor N.1.desc).map (fun d => d.parameters.length) = some n
def MLs (own : String) (idx : Nat) (N : MD) (n : Nat) : Prop := GoodIn wsL_law0 (wsS own idx N.1 (wsM N)) ∧ N.1.cls = own ∧ N.1.cls ≠ "java/lang/invoke/MethodHandle" ∧ N.1.cls ≠ "java/lang/invoke/VarHandle" ∧ (parseMethodDescriptor N.1.desc).map (fun d => d.parameters.length) = some n
/-- a nest mate's private static method -/
def MLn (own : String) (idx : Nat) (N : MD) (n : Nat) : Prop := GoodIn wsL_law0 (wsM N) ∧ Cond.methodLinkNest own idx N.1 RX6 ∈ nwL ∧ Cond.initialized N.1.cls ∈ wsL_law0 ∧ Cond.static N.1 ∈ wsL_law0 ∧ N.1.cls ≠ "java/lang/invoke/MethodHandle" ∧ N.1.cls ≠ "java/lang/invoke/VarHandle" ∧ (parseMethodDescriptor N.1.desc).map (fun d => d.parameters.length) = some n
def Rm (M N : MD) : Prop := N.2.2.2.2.2.cells = 0 ∧ N.2.2.2.2.2.slots = 0 ∧ N.2.2.2.2.2.frames + 1 ≤ M.2.2.2.2.2.frames ∧ 8 + (N.2.2.1 + 11) + N.2.2.2.2.2.locals ≤ M.2.2.2.2.2.locals
/-- an own method of the object at cell b; As: what it is given, the last one on top -/
theorem ev_callV {N : MD} {idx n b ci : Nat} {fs : List (Option Nat)} {As rest stk : List AV} (hd : decode M.2.1 pc = .ok (.invokevirtual idx, 3)) (hw : MLv M.2.2.2.2.1 idx N n) (hR : Rm M N) (hs : sh b = .inl (ci, fs)) (hc : (vwCl[ci]?).map (fun q => q.1) = some N.1.cls) (hn : As.length = n) (hst : stk = As.reverse ++ vR b :: rest) (hcat : (rest.map (fun v => if isL v = true then 2 else 1)).sum ≤ 8)
    {QQ : Option AV → Hp → Prop} (H : EvM N (vR b :: As) h QQ) (KK : ∀ v h1, QQ v h1 → EvK M K (pc + 3) L (v.toList ++ rest) h1) : EvK M K pc L stk h := by
  intro g hg p e s m args below meth cd B kA kr kz H0 locs ls hP hS hl
  subst hst
  have hbl := sh_lt hs
  obtain ⟨qc, hq, hqc⟩ : ∃ q, vwCl[ci]? = some q ∧ q.1 = N.1.cls := by
    cases hq : vwCl[ci]? with
    | none => rw [hq] at hc; cases hc
    | some q => rw [hq] at hc; exact ⟨q, rfl, Option.some.inj hc⟩
  have hrecv := va_recv (q0 := b) B.2.2.2.2.2.2.2.1 hP hq ((wo_at g h (by omega)).trans (by rw [cel_obj g h hs]))
  rw [hqc] at hrecv
  have hcw := cwV (R := M.2.2.2.2.2) (rm := N.2.2.2.2.2) (mc := 0) (ms := 0) n B.2.2.2.2.2.2.1 hw.1 rfl hR.1 hR.2.1 ⟨rfl, hw.2⟩ hR.2.2
  have hrun := va_runV (p := p) (e := e) (below := below) (meth := meth) (locs := locs) (cells := K.2.1.1) (slots := K.2.1.2) (As := As.map (ro g.2.2.1)) (rest := rest.map (ro g.2.2.1)) (g := F0 m pc ls ((As.reverse ++ vR b :: rest).map (ro g.2.2.1))) ⟨B.1, B.2.1, B.2.2.2.2.1, B.2.2.2.2.2.1, B.2.2.2.2.2.2.1⟩ (H g hg) hcw ⟨px_blind g h _, hrecv, fun U hU hW => px_of hP B.2.2.2.2.2.2.2 U hU hW⟩ rfl (by simpa using hn) hl.1 (by simp [ro]) (lv_room (cat_le _ _ 8 hcat)) hd kr
  exact ev_back hrun (Aw_in kA) hS (fun v h1 H1 locs1 q1 q2 q3 => KK v h1 q1 g hg p e s m args below meth cd B kA kr kz H1 locs1 ls q2 q3 hl)
theorem ev_callS {N : MD} {idx n : Nat} {As rest stk : List AV} (hd : decode M.2.1 pc = .ok (.invokestatic idx, 3)) (hw : MLs M.2.2.2.2.1 idx N n) (hR : Rm M N) (hn : As.length = n) (hst : stk = As.reverse ++ rest) (hcat : (rest.map (fun v => if isL v = true then 2 else 1)).sum ≤ 8)
    {QQ : Option AV → Hp → Prop} (H : EvM N As h QQ) (KK : ∀ v h1, QQ v h1 → EvK M K (pc + 3) L (v.toList ++ rest) h1) : EvK M K pc L stk h := by
  intro g hg p e s m args below meth cd B kA kr kz H0 locs ls hP hS hl
  subst hst
  have hcw := cwS (R := M.2.2.2.2.2) (rm := N.2.2.2.2.2) (mc := 0) (ms := 0) n B.2.2.2.2.2.2.1 hw.1 rfl hR.1 hR.2.1 hw.2 hR.2.2
  have hrun := va_runS (p := p) (e := e) (below := below) (meth := meth) (locs := locs) (cells := K.2.1.1) (slots := K.2.1.2) (As := As.map (ro g.2.2.1)) (rest := rest.map (ro g.2.2.1)) (g := F0 m pc ls ((As.reverse ++ rest).map (ro g.2.2.1))) ⟨B.1, B.2.1, B.2.2.2.2.1, B.2.2.2.2.2.1, B.2.2.2.2.2.2.1⟩ (H g hg) hcw ⟨px_blind g h _, fun U hU hW => px_of hP B.2.2.2.2.2.2.2 U hU hW⟩ rfl (by simpa using hn) hl.1 (by simp) (lv_room (cat_le _ _ 8 hcat)) hd kr
  exact ev_back hrun (Aw_in kA) hS (fun v h1 H1 locs1 q1 q2 q3 => KK v h1 q1 g hg p e s m args below meth cd B kA kr kz H1 locs1 ls q2 q3 hl)
theorem ev_callN {N : MD} {idx n : Nat} {As rest stk : List AV} (hd : decode M.2.1 pc = .ok (.invokestatic idx, 3)) (hw : MLn M.2.2.2.2.1 idx N n) (hR : Rm M N) (hn : As.length = n) (hst : stk = As.reverse ++ rest) (hcat : (rest.map (fun v => if isL v = true then 2 else 1)).sum ≤ 8)
    {QQ : Option AV → Hp → Prop} (H : EvM N As h QQ) (KK : ∀ v h1, QQ v h1 → EvK M K (pc + 3) L (v.toList ++ rest) h1) : EvK M K pc L stk h := by
  intro g hg p e s m args below meth cd B kA kr kz H0 locs ls hP hS hl
  subst hst
  have hcw := va_cnB (R := M.2.2.2.2.2) (rm := N.2.2.2.2.2) (mc := 0) (ms := 0) (host := RX6) n B.2.2.2.2.2.2.1 hw.1 rfl hR.1 hR.2.1 (B.2.2.2.2.2.2.2.2 _ hw.2.1) (B.2.2.2.2.2.2.1 _ hw.2.2.1) hw.2.2.2.2 hR.2.2
  have hrun := va_runSN (p := p) (e := e) (below := below) (meth := meth) (locs := locs) (cells := K.2.1.1) (slots := K.2.1.2) (As := As.map (ro g.2.2.1)) (rest := rest.map (ro g.2.2.1)) (g := F0 m pc ls ((As.reverse ++ rest).map (ro g.2.2.1))) ⟨B.1, B.2.1, B.2.2.2.2.1, B.2.2.2.2.2.1, B.2.2.2.2.2.2.1⟩ (H g hg) ⟨hcw, B.2.2.2.2.2.2.1 _ hw.2.2.2.1, trivial⟩ ⟨px_blind g h _, fun U hU hW => px_of hP B.2.2.2.2.2.2.2 U hU hW⟩ rfl (by simpa using hn) hl.1 (by simp) (lv_room (cat_le _ _ 8 hcat)) hd kr
  exact ev_back hrun (Aw_in kA) hS (fun v h1 H1 locs1 q1 q2 q3 => KK v h1 q1 g hg p e s m args below meth cd B kA kr kz H1 locs1 ls q2 q3 hl)
/-! a method out of its walk -/
def avA : Nat → List AV → List (Nat × AV)
  | _, [] => []
  | i, v :: vs => (i, v) :: avA (if isL v = true then i + 2 else i + 1) vs
theorem avA_lm (q : Nat → Nat) : ∀ (vs : List AV) (i : Nat), lv_args i (vs.map (ro q)) = lm q (avA i vs)
  | [], _ => rfl
  | v :: vs, i => by
    show (i, ro q v) :: lv_args _ (vs.map (ro q)) = (i, ro q v) :: lm q (avA _ vs)
    refine congrArg _ ?_
    rw [← avA_lm q vs, isL_cat]
    cases isL v <;> rfl
def avN (vs : List AV) : Nat := (vs.map (fun v => if isL v = true then 2 else 1)).sum
theorem avN_sl (q : Nat → Nat) : ∀ vs : List AV, (lg_sl (vs.map (ro q))).length = avN vs
  | [] => rfl
  | v :: vs => by
    have ih := avN_sl q vs
    have e : lg_sl ((v :: vs).map (ro q)) = (if (ro q v).category = 2 then [Slot.val (ro q v), .second] else [.val (ro q v)]) ++ lg_sl (vs.map (ro q)) := by simp [lg_sl]
    rw [e, List.length_append, ih, isL_cat]
    cases h : isL v <;> simp [avN, h]
theorem evM_of {as : List AV} (hy : plainName M.1.cls = true) (hcls : M.2.2.2.2.1 = M.1.cls) (hn : avN as ≤ M.2.2.1) (H : Ev M 0 (avA 0 as) [] h Q) : EvM M as h Q := by
  intro g hg
  refine Met.ofW (cc := M.2.1) (maxL := M.2.2.1) (ret := M.2.2.2.1) hy rfl ?_
  intro p e s m args below meth c s₁ B hml hv
  obtain ⟨rfl, hP, hK⟩ := hv
  have hts := atoms_spec (ws := wsM M) B.pre
  have hown : s.vm.findClass M.2.2.2.2.1 = some m.cls := by rw [hcls]; exact findClass_of_methodNamed B.named
  have hl := lv_entry (as.map (ro g.2.2.1)) (n := M.2.2.1) (by rw [avN_sl]; exact hn)
  rw [lg_entry_eq]
  rw [avA_lm] at hl
  exact H g hg p e s m _ below meth c ⟨B.exec, B.bytes, B.returns, B.notSynchronized, hml, hown, fun w h => hts w (List.mem_cons_of_mem _ h), hK⟩ (fun x hx => ⟨x, hx, rfl⟩) ⟨Nat.zero_le _, Nat.zero_le _⟩ trivial s.heap [] _ hP va_S.rf hl
/-! System.arraycopy -/
def cpk (sp dp n : Int32) (n0 n1 : Nat) : Prop := ¬ sp < 0 ∧ ¬ dp < 0 ∧ ¬ n < 0 ∧ sp.toNatClampNeg + n.toNatClampNeg ≤ n0 ∧ dp.toNatClampNeg + n.toNatClampNeg ≤ n1
def MLc (own : String) (idx : Nat) : Prop := Cond.methodLink own idx arraycopyName ∈ wsL_law0 ∧ Cond.native arraycopyName ∈ wsL_law0 ∧ Cond.static arraycopyName ∈ wsL_law0 ∧ Cond.initialized "java/lang/System" ∈ wsL_law0
def Rc (M : MD) : Prop := 1 ≤ M.2.2.2.2.2.frames ∧ 26 ≤ M.2.2.2.2.2.locals
theorem ev_copyI {c0 c1 n0 n1 idx : Nat} {sp dp n : Int32} (hd : decode M.2.1 pc = .ok (.invokestatic idx, 3)) (hw : MLc M.2.2.2.2.1 idx) (hR : Rc M) (hs0 : sh c0 = .inr (0, n0)) (hs1 : sh c1 = .inr (0, n1)) (hk : cpk sp dp n n0 n1) (hcat : (st.map (fun v => if isL v = true then 2 else 1)).sum ≤ 8)
    (H : EvK M K (pc + 3) L st (sI h c1 (va_cpy (h.1 c0) (h.1 c1) sp.toNatClampNeg dp.toNatClampNeg n.toNatClampNeg))) : EvK M K pc L (vI n :: vI dp :: vR c1 :: vI sp :: vR c0 :: st) h := by
  intro g hg p e s m args below meth cd B kA kr kz H0 locs ls hP hS hl
  have hc0 := sh_ltz (by decide) hs0
  have hc1 := sh_ltz (by decide) hs1
  have hcat2 := cat_le g.2.2.1 st 8 hcat
  refine va_copyi (ty := .int) B.1 B.2.1 (B.2.2.2.2.1.trans hl.1.symm) B.2.2.2.2.2.1 (B.2.2.2.2.2.2.1 _ hw.1) (B.2.2.2.2.2.2.1 _ hw.2.1) (B.2.2.2.2.2.2.1 _ hw.2.2.1) (B.2.2.2.2.2.2.1 _ hw.2.2.2) B.2.2.2.2.2.2.2.1 hP (wo_DA hg kA h) hS c0 c1 0 0 ((wo_at g h (by omega)).trans (by rw [cel_i g h hs0])) ((wo_at g h (by omega)).trans (by rw [cel_i g h hs1])) rfl rfl (by decide) hk.1 hk.2.1 hk.2.2.1 hk.2.2.2.1 hk.2.2.2.2 (fun i _ => rfl) hR.1 (Nat.le_trans (Nat.add_le_add_right hcat2 _) hR.2) hd (fun H1 locs1 hP1 hD1 hS1 => ?_)
  rw [wo_set (h' := sI h c1 (va_cpy (h.1 c0) (h.1 c1) sp.toNatClampNeg dp.toNatClampNeg n.toNatClampNeg)) (by omega) (by rw [cel_i g _ hs1]; show Sum.inl (_, _, Sum.inl (va_up h.1 c1 _ c1)) = _; rw [va_up_self]) (fun d hd => cel_sI_ne g h _ hd)] at hP1
  exact H g hg p e s m args below meth cd B kA kr kz H1 locs1 ls hP1 hS1 hl
theorem ev_copyL {c0 c1 n0 n1 idx : Nat} {sp dp n : Int32} (hd : decode M.2.1 pc = .ok (.invokestatic idx, 3)) (hw : MLc M.2.2.2.2.1 idx) (hR : Rc M) (hs0 : sh c0 = .inr (2, n0)) (hs1 : sh c1 = .inr (2, n1)) (hc0 : c0 < 54) (hc1 : c1 < 54) (hk : cpk sp dp n n0 n1) (hcat : (st.map (fun v => if isL v = true then 2 else 1)).sum ≤ 8)
    (H : EvK M K (pc + 3) L st (sJ h c1 (va_cpy (h.2.1 c0) (h.2.1 c1) sp.toNatClampNeg dp.toNatClampNeg n.toNatClampNeg))) : EvK M K pc L (vI n :: vI dp :: vR c1 :: vI sp :: vR c0 :: st) h := by
  intro g hg p e s m args below meth cd B kA kr kz H0 locs ls hP hS hl
  have hcat2 := cat_le g.2.2.1 st 8 hcat
  refine va_copyl (ty := .long) B.1 B.2.1 (B.2.2.2.2.1.trans hl.1.symm) B.2.2.2.2.2.1 (B.2.2.2.2.2.2.1 _ hw.1) (B.2.2.2.2.2.2.1 _ hw.2.1) (B.2.2.2.2.2.2.1 _ hw.2.2.1) (B.2.2.2.2.2.2.1 _ hw.2.2.2) B.2.2.2.2.2.2.2.1 hP (wo_DA hg kA h) hS c0 c1 2 2 ((wo_at g h (by omega)).trans (by rw [cel_j g h hs0 hc0])) ((wo_at g h (by omega)).trans (by rw [cel_j g h hs1 hc1])) rfl rfl (by decide) hk.1 hk.2.1 hk.2.2.1 hk.2.2.2.1 hk.2.2.2.2 (fun i _ => rfl) hR.1 (Nat.le_trans (Nat.add_le_add_right hcat2 _) hR.2) hd (fun H1 locs1 hP1 hD1 hS1 => ?_)
  rw [wo_set (h' := sJ h c1 (va_cpy (h.2.1 c0) (h.2.1 c1) sp.toNatClampNeg dp.toNatClampNeg n.toNatClampNeg)) (by omega) (by rw [cel_j g _ hs1 hc1]; show Sum.inl (_, _, Sum.inr (Sum.inl (va_up h.2.1 c1 _ c1))) = _; rw [va_up_self]) (fun d hd => cel_sJ_ne g h _ hd)] at hP1
  exact H g hg p e s m args below meth cd B kA kr kz H1 locs1 ls hP1 hS1 hl

end EVR
theorem all_good : wsL_law0.all goodWord = true := by decide +kernel
theorem good_M {N : MD} (hc : Cond.code N.1 N.2.1 N.2.2.1 N.2.2.2.1 ∈ wsL_law0) : GoodIn wsL_law0 (wsM N) := by
  intro w hw
  rcases List.mem_cons.mp hw with rfl | hw
  · exact ⟨hc, good_of_word (List.all_eq_true.mp all_good _ hc)⟩
  · exact ⟨hw, good_of_word (List.all_eq_true.mp all_good _ hw)⟩
theorem mlv_of {own : String} {idx n : Nat} {N : MD} (hm : ∀ w ∈ [Cond.methodLink own idx N.1, .instanceMethod N.1, .selects N.1.cls N.1 N.1, .initialized N.1.cls, .code N.1 N.2.1 N.2.2.1 N.2.2.2.1], w ∈ wsL_law0) (hd : N.1.cls ≠ "java/lang/invoke/MethodHandle" ∧ N.1.cls ≠ "java/lang/invoke/VarHandle" ∧ (parseMethodDescriptor N.1.desc).map (fun d => d.parameters.length) = some n) : MLv own idx N n := by
  refine ⟨fun w hw => ?_, hd⟩
  rcases List.mem_append.mp hw with hw | hw
  · have h1 : w ∈ wsL_law0 := hm w (by simp only [List.mem_cons, List.not_mem_nil, or_false] at hw ⊢; rcases hw with h | h | h | h <;> simp [h])
    exact ⟨h1, good_of_word (List.all_eq_true.mp all_good _ h1)⟩
  · exact good_M (hm _ (by simp)) w hw
theorem mls_of {own : String} {idx n : Nat} {N : MD} (hm : ∀ w ∈ [Cond.methodLink own idx N.1, .static N.1, .initialized own, .code N.1 N.2.1 N.2.2.1 N.2.2.2.1], w ∈ wsL_law0) (hd : N.1.cls = own ∧ N.1.cls ≠ "java/lang/invoke/MethodHandle" ∧ N.1.cls ≠ "java/lang/invoke/VarHandle" ∧ (parseMethodDescriptor N.1.desc).map (fun d => d.parameters.length) = some n) : MLs own idx N n := by
  refine ⟨fun w hw => ?_, hd⟩
  rcases List.mem_append.mp hw with hw | hw
  · have h1 : w ∈ wsL_law0 := hm w (by simp only [List.mem_cons, List.not_mem_nil, or_false] at hw ⊢; rcases hw with h | h | h <;> simp [h])
    exact ⟨h1, good_of_word (List.all_eq_true.mp all_good _ h1)⟩
  · exact good_M (hm _ (by simp)) w hw
end
section
abbrev mX0_isDown : MD := (yX0_isDown, cX0_isDown, 1, (some .boolean), RX0, { frames := 0, cells := 0, slots := 0, locals := 0 })
abbrev mX0_setLoss : MD := (yX0_setLoss, cX0_setLoss, 2, none, RX0, { frames := 0, cells := 0, slots := 0, locals := 0 })
abbrev mX0_powerUp : MD := (yX0_powerUp, cX0_powerUp, 1, none, RX0, { frames := 0, cells := 0, slots := 0, locals := 0 })
abbrev mX0_put : MD := (yX0_put, cX0_put, 3, (some .boolean), RX0, { frames := 0, cells := 0, slots := 0, locals := 0 })
abbrev mX0_noteWrite : MD := (yX0_noteWrite, cX0_noteWrite, 1, none, RX0, { frames := 0, cells := 0, slots := 0, locals := 0 })
abbrev mX0_noteCheckpoint : MD := (yX0_noteCheckpoint, cX0_noteCheckpoint, 2, none, RX0, { frames := 0, cells := 0, slots := 0, locals := 0 })
abbrev mX0_writesSinceCheckpoint : MD := (yX0_writesSinceCheckpoint, cX0_writesSinceCheckpoint, 1, (some .int), RX0, { frames := 0, cells := 0, slots := 0, locals := 0 })
abbrev mX0_countOf : MD := (yX0_countOf, cX0_countOf, 2, (some .int), RX0, { frames := 0, cells := 0, slots := 0, locals := 0 })
abbrev mX1_begin : MD := (yX1_begin, cX1_begin, 2, none, RX1, { frames := 0, cells := 0, slots := 0, locals := 0 })
abbrev mX1_makeNode : MD := (yX1_makeNode, cX1_makeNode, 5, (some .boolean), RX1, { frames := 2, cells := 0, slots := 0, locals := 48 })
abbrev mX2_clear : MD := (yX2_clear, cX2_clear, 1, none, RX2, { frames := 0, cells := 0, slots := 0, locals := 0 })
abbrev mX2_count : MD := (yX2_count, cX2_count, 1, (some .int), RX2, { frames := 0, cells := 0, slots := 0, locals := 0 })
abbrev mX2_append : MD := (yX2_append, cX2_append, 5, (some .boolean), RX2, { frames := 0, cells := 0, slots := 0, locals := 0 })
abbrev mX2_firstEntry : MD := (yX2_firstEntry, cX2_firstEntry, 1, (some .long), RX2, { frames := 0, cells := 0, slots := 0, locals := 0 })
abbrev mX2_firstComes : MD := (yX2_firstComes, cX2_firstComes, 1, (some .boolean), RX2, { frames := 0, cells := 0, slots := 0, locals := 0 })
abbrev mX2_takeFirst : MD := (yX2_takeFirst, cX2_takeFirst, 1, none, RX2, { frames := 0, cells := 0, slots := 0, locals := 0 })
abbrev mX3_clear : MD := (yX3_clear, cX3_clear, 1, none, RX3, { frames := 0, cells := 0, slots := 0, locals := 0 })
abbrev mX3_count : MD := (yX3_count, cX3_count, 1, (some .int), RX3, { frames := 0, cells := 0, slots := 0, locals := 0 })
abbrev mX3_pickedCount : MD := (yX3_pickedCount, cX3_pickedCount, 1, (some .int), RX3, { frames := 0, cells := 0, slots := 0, locals := 0 })
abbrev mX3_total : MD := (yX3_total, cX3_total, 1, (some .int), RX3, { frames := 0, cells := 0, slots := 0, locals := 0 })
abbrev mX3_entryAt : MD := (yX3_entryAt, cX3_entryAt, 2, (some .long), RX3, { frames := 0, cells := 0, slots := 0, locals := 0 })
abbrev mX3_pick : MD := (yX3_pick, cX3_pick, 4, none, RX3, { frames := 0, cells := 0, slots := 0, locals := 0 })
abbrev mX3_closeRun : MD := (yX3_closeRun, cX3_closeRun, 1, none, RX3, { frames := 1, cells := 0, slots := 0, locals := 26 })
abbrev mX3_mergeFirstTwo : MD := (yX3_mergeFirstTwo, cX3_mergeFirstTwo, 3, (some .int), RX3, { frames := 1, cells := 0, slots := 0, locals := 26 })
abbrev mX3_mergeInto : MD := (yX3_mergeInto, cX3_mergeInto, 6, none, RX3, { frames := 0, cells := 0, slots := 0, locals := 0 })
abbrev mX4_count : MD := (yX4_count, cX4_count, 1, (some .int), RX4, { frames := 0, cells := 0, slots := 0, locals := 0 })
abbrev mX4_has : MD := (yX4_has, cX4_has, 2, (some .boolean), RX4, { frames := 0, cells := 0, slots := 0, locals := 0 })
abbrev mX4_keyAt : MD := (yX4_keyAt, cX4_keyAt, 2, (some .int), RX4, { frames := 1, cells := 0, slots := 0, locals := 21 })
abbrev mX4_valueAt : MD := (yX4_valueAt, cX4_valueAt, 2, (some .int), RX4, { frames := 1, cells := 0, slots := 0, locals := 21 })
abbrev mX4_firstFree : MD := (yX4_firstFree, cX4_firstFree, 2, (some .int), RX4, { frames := 0, cells := 0, slots := 0, locals := 0 })
abbrev mX4_hasKeyBeside : MD := (yX4_hasKeyBeside, cX4_hasKeyBeside, 4, (some .boolean), RX4, { frames := 0, cells := 0, slots := 0, locals := 0 })
abbrev mX4_put : MD := (yX4_put, cX4_put, 4, none, RX4, { frames := 0, cells := 0, slots := 0, locals := 0 })
abbrev mX4_clearPlace : MD := (yX4_clearPlace, cX4_clearPlace, 2, none, RX4, { frames := 1, cells := 0, slots := 0, locals := 21 })
abbrev mX4_tell : MD := (yX4_tell, cX4_tell, 6, (some .int), RX4, { frames := 0, cells := 0, slots := 0, locals := 0 })
abbrev mX4_touchedPages : MD := (yX4_touchedPages, cX4_touchedPages, 3, (some .int), RX4, { frames := 0, cells := 0, slots := 0, locals := 0 })
abbrev mX4_untouch : MD := (yX4_untouch, cX4_untouch, 2, none, RX4, { frames := 0, cells := 0, slots := 0, locals := 0 })
abbrev mX5_clear : MD := (yX5_clear, cX5_clear, 2, none, RX5, { frames := 0, cells := 0, slots := 0, locals := 0 })
abbrev mX5_nodeCount : MD := (yX5_nodeCount, cX5_nodeCount, 1, (some .int), RX5, { frames := 0, cells := 0, slots := 0, locals := 0 })
abbrev mX5_entryCount : MD := (yX5_entryCount, cX5_entryCount, 1, (some .int), RX5, { frames := 0, cells := 0, slots := 0, locals := 0 })
abbrev mX5_touchedCount : MD := (yX5_touchedCount, cX5_touchedCount, 3, (some .int), RX5, { frames := 0, cells := 0, slots := 0, locals := 0 })
abbrev mX5_untouch : MD := (yX5_untouch, cX5_untouch, 2, none, RX5, { frames := 0, cells := 0, slots := 0, locals := 0 })
abbrev mX5_newNode : MD := (yX5_newNode, cX5_newNode, 3, (some .int), RX5, { frames := 0, cells := 0, slots := 0, locals := 0 })
abbrev mX5_freeNode : MD := (yX5_freeNode, cX5_freeNode, 2, none, RX5, { frames := 0, cells := 0, slots := 0, locals := 0 })
abbrev mX5_append : MD := (yX5_append, cX5_append, 4, none, RX5, { frames := 1, cells := 0, slots := 0, locals := 25 })
abbrev mX5_finishLoad : MD := (yX5_finishLoad, cX5_finishLoad, 3, none, RX5, { frames := 0, cells := 0, slots := 0, locals := 0 })
abbrev mX5_putIn : MD := (yX5_putIn, cX5_putIn, 6, none, RX5, { frames := 0, cells := 0, slots := 0, locals := 0 })
abbrev mX5_takeOut : MD := (yX5_takeOut, cX5_takeOut, 4, none, RX5, { frames := 0, cells := 0, slots := 0, locals := 0 })
abbrev mX5_kidOf : MD := (yX5_kidOf, cX5_kidOf, 5, (some .int), RX5, { frames := 0, cells := 0, slots := 0, locals := 0 })
abbrev mX5_leastOf : MD := (yX5_leastOf, cX5_leastOf, 4, (some .long), RX5, { frames := 1, cells := 0, slots := 0, locals := 24 })
abbrev mX5_goDown : MD := (yX5_goDown, cX5_goDown, 5, none, RX5, { frames := 2, cells := 0, slots := 0, locals := 47 })
abbrev mX5_letCome : MD := (yX5_letCome, cX5_letCome, 6, (some .boolean), RX5, { frames := 3, cells := 0, slots := 0, locals := 72 })
abbrev mX5_newNodesOnWay : MD := (yX5_newNodesOnWay, cX5_newNodesOnWay, 3, (some .int), RX5, { frames := 0, cells := 0, slots := 0, locals := 0 })
abbrev mX5_divide : MD := (yX5_divide, cX5_divide, 5, none, RX5, { frames := 2, cells := 0, slots := 0, locals := 48 })
abbrev mX5_putRootOver : MD := (yX5_putRootOver, cX5_putRootOver, 4, none, RX5, { frames := 1, cells := 0, slots := 0, locals := 25 })
abbrev mX5_letGo : MD := (yX5_letGo, cX5_letGo, 7, none, RX5, { frames := 3, cells := 0, slots := 0, locals := 71 })
abbrev mX5_levels : MD := (yX5_levels, cX5_levels, 3, (some .int), RX5, { frames := 1, cells := 0, slots := 0, locals := 24 })
abbrev mX5_listLeaves : MD := (yX5_listLeaves, cX5_listLeaves, 3, (some .int), RX5, { frames := 2, cells := 0, slots := 0, locals := 51 })
abbrev mX5_listRowBelow : MD := (yX5_listRowBelow, cX5_listRowBelow, 6, (some .int), RX5, { frames := 1, cells := 0, slots := 0, locals := 26 })
abbrev mX5_entryAt : MD := (yX5_entryAt, cX5_entryAt, 6, (some .long), RX5, { frames := 3, cells := 0, slots := 0, locals := 73 })
abbrev mX5_sizeOfLeafAt : MD := (yX5_sizeOfLeafAt, cX5_sizeOfLeafAt, 6, (some .int), RX5, { frames := 3, cells := 0, slots := 0, locals := 73 })
abbrev mX5_firstTwin : MD := (yX5_firstTwin, cX5_firstTwin, 10, (some .int), RX5, { frames := 3, cells := 0, slots := 0, locals := 73 })
abbrev mX5_tell : MD := (yX5_tell, cX5_tell, 10, (some .int), RX5, { frames := 3, cells := 0, slots := 0, locals := 73 })
abbrev mX5_costOf : MD := (yX5_costOf, cX5_costOf, 9, (some .int), RX5, { frames := 3, cells := 0, slots := 0, locals := 73 })
abbrev mX5_hasJustTheRowsOf : MD := (yX5_hasJustTheRowsOf, cX5_hasJustTheRowsOf, 12, (some .boolean), RX5, { frames := 3, cells := 0, slots := 0, locals := 73 })
abbrev mX5_sizesAreRight : MD := (yX5_sizesAreRight, cX5_sizesAreRight, 3, (some .boolean), RX5, { frames := 0, cells := 0, slots := 0, locals := 0 })
abbrev mX5_leavesAreInOneRow : MD := (yX5_leavesAreInOneRow, cX5_leavesAreInOneRow, 4, (some .boolean), RX5, { frames := 2, cells := 0, slots := 0, locals := 51 })
abbrev mX6_add : MD := (yX6_add, cX6_add, 4, (some .int), RX6, { frames := 6, cells := 0, slots := 0, locals := 143 })
abbrev mX6_change : MD := (yX6_change, cX6_change, 5, (some .int), RX6, { frames := 6, cells := 0, slots := 0, locals := 143 })
abbrev mX6_remove : MD := (yX6_remove, cX6_remove, 3, (some .int), RX6, { frames := 6, cells := 0, slots := 0, locals := 143 })
abbrev mX6_rows : MD := (yX6_rows, cX6_rows, 1, (some .int), RX6, { frames := 1, cells := 0, slots := 0, locals := 20 })
abbrev mX6_cut : MD := (yX6_cut, cX6_cut, 3, (some .int), RX6, { frames := 1, cells := 0, slots := 0, locals := 21 })
abbrev mX6_start : MD := (yX6_start, cX6_start, 1, (some .int), RX6, { frames := 1, cells := 0, slots := 0, locals := 20 })
abbrev mX6_blocks : MD := (yX6_blocks, cX6_blocks, 2, (some .int), RX6, { frames := 1, cells := 0, slots := 0, locals := 21 })
abbrev mX6_build : MD := (yX6_build, cX6_build, 2, (some .int), RX6, { frames := 3, cells := 0, slots := 0, locals := 60 })
abbrev mX6_drop : MD := (yX6_drop, cX6_drop, 2, (some .int), RX6, { frames := 5, cells := 0, slots := 0, locals := 103 })
abbrev mX6_step : MD := (yX6_step, cX6_step, 4, (some .int), RX6, { frames := 6, cells := 0, slots := 0, locals := 143 })
abbrev mX6_info : MD := (yX6_info, cX6_info, 2, (some .int), RX6, { frames := 2, cells := 0, slots := 0, locals := 46 })
abbrev mX6_leaf : MD := (yX6_leaf, cX6_leaf, 2, (some .int), RX6, { frames := 4, cells := 0, slots := 0, locals := 98 })
abbrev mX6_audit : MD := (yX6_audit, cX6_audit, 2, (some .int), RX6, { frames := 4, cells := 0, slots := 0, locals := 104 })
abbrev mX6_ask : MD := (yX6_ask, cX6_ask, 3, (some .int), RX6, { frames := 4, cells := 0, slots := 0, locals := 102 })
abbrev mX6_answer : MD := (yX6_answer, cX6_answer, 2, (some .int), RX6, { frames := 0, cells := 0, slots := 0, locals := 0 })
abbrev mX6_cost : MD := (yX6_cost, cX6_cost, 1, (some .int), RX6, { frames := 0, cells := 0, slots := 0, locals := 0 })
abbrev mX6_entryOf : MD := (yX6_entryOf, cX6_entryOf, 2, (some .long), RX6, { frames := 0, cells := 0, slots := 0, locals := 0 })
abbrev mX6_keyOf : MD := (yX6_keyOf, cX6_keyOf, 2, (some .int), RX6, { frames := 0, cells := 0, slots := 0, locals := 0 })
abbrev mX6_placeOf : MD := (yX6_placeOf, cX6_placeOf, 2, (some .int), RX6, { frames := 0, cells := 0, slots := 0, locals := 0 })
abbrev mX6_wouldRepeat : MD := (yX6_wouldRepeat, cX6_wouldRepeat, 3, (some .boolean), RX6, { frames := 1, cells := 0, slots := 0, locals := 23 })
abbrev mX6_writeDown : MD := (yX6_writeDown, cX6_writeDown, 2, (some .boolean), RX6, { frames := 5, cells := 0, slots := 0, locals := 103 })
abbrev mX6_makeCheckpoint : MD := (yX6_makeCheckpoint, cX6_makeCheckpoint, 3, (some .boolean), RX6, { frames := 4, cells := 0, slots := 0, locals := 81 })
abbrev mX6_putBlocks : MD := (yX6_putBlocks, cX6_putBlocks, 2, (some .boolean), RX6, { frames := 3, cells := 0, slots := 0, locals := 60 })
abbrev mX6_follow : MD := (yX6_follow, cX6_follow, 4, none, RX6, { frames := 5, cells := 0, slots := 0, locals := 120 })
abbrev mX6_bringToTree : MD := (yX6_bringToTree, cX6_bringToTree, 4, none, RX6, { frames := 4, cells := 0, slots := 0, locals := 97 })
abbrev mX6_isBuilding : MD := (yX6_isBuilding, cX6_isBuilding, 1, (some .boolean), RX6, { frames := 0, cells := 0, slots := 0, locals := 0 })
abbrev mX6_hasTree : MD := (yX6_hasTree, cX6_hasTree, 1, (some .boolean), RX6, { frames := 0, cells := 0, slots := 0, locals := 0 })
abbrev mX6_isEntryOfTree : MD := (yX6_isEntryOfTree, cX6_isEntryOfTree, 2, (some .boolean), RX6, { frames := 1, cells := 0, slots := 0, locals := 20 })
abbrev mX6_forgetIndex : MD := (yX6_forgetIndex, cX6_forgetIndex, 1, none, RX6, { frames := 2, cells := 0, slots := 0, locals := 40 })
abbrev mX6_forgetBuilding : MD := (yX6_forgetBuilding, cX6_forgetBuilding, 1, none, RX6, { frames := 1, cells := 0, slots := 0, locals := 20 })
abbrev mX6_stopBuilding : MD := (yX6_stopBuilding, cX6_stopBuilding, 2, none, RX6, { frames := 2, cells := 0, slots := 0, locals := 40 })
abbrev mX6_scanPage : MD := (yX6_scanPage, cX6_scanPage, 4, (some .boolean), RX6, { frames := 4, cells := 0, slots := 0, locals := 81 })
abbrev mX6_mergeRuns : MD := (yX6_mergeRuns, cX6_mergeRuns, 1, (some .boolean), RX6, { frames := 4, cells := 0, slots := 0, locals := 81 })
abbrev mX6_blocksFor : MD := (yX6_blocksFor, cX6_blocksFor, 1, (some .int), RX6, { frames := 0, cells := 0, slots := 0, locals := 0 })
abbrev mX6_loadNode : MD := (yX6_loadNode, cX6_loadNode, 1, (some .boolean), RX6, { frames := 4, cells := 0, slots := 0, locals := 81 })
abbrev mX6_catchUp : MD := (yX6_catchUp, cX6_catchUp, 4, (some .boolean), RX6, { frames := 5, cells := 0, slots := 0, locals := 120 })
abbrev mX7_thrown : MD := (yX7_thrown, cX7_thrown, 1, (some .int), RX7, { frames := 0, cells := 0, slots := 0, locals := 0 })
abbrev mX7_in : MD := (yX7_in, cX7_in, 3, (some .boolean), RX7, { frames := 0, cells := 0, slots := 0, locals := 0 })
abbrev mX7_block : MD := (yX7_block, cX7_block, 1, (some .boolean), RX7, { frames := 1, cells := 0, slots := 0, locals := 21 })
abbrev mX7_writeBlocks : MD := (yX7_writeBlocks, cX7_writeBlocks, 4, (some .boolean), RX7, { frames := 2, cells := 0, slots := 0, locals := 41 })
abbrev mX7_checkpoint : MD := (yX7_checkpoint, cX7_checkpoint, 4, (some .boolean), RX7, { frames := 3, cells := 0, slots := 0, locals := 64 })
abbrev mX7_dirtyNodes : MD := (yX7_dirtyNodes, cX7_dirtyNodes, 3, (some .int), RX7, { frames := 0, cells := 0, slots := 0, locals := 0 })
abbrev mX7_writeDown : MD := (yX7_writeDown, cX7_writeDown, 1, (some .boolean), RX7, { frames := 4, cells := 0, slots := 0, locals := 87 })
abbrev mX7_forget : MD := (yX7_forget, cX7_forget, 2, none, RX7, { frames := 0, cells := 0, slots := 0, locals := 0 })
abbrev mX7_stop : MD := (yX7_stop, cX7_stop, 3, none, RX7, { frames := 1, cells := 0, slots := 0, locals := 21 })
abbrev mX7_newNode : MD := (yX7_newNode, cX7_newNode, 3, (some .int), RX7, { frames := 0, cells := 0, slots := 0, locals := 0 })
abbrev mX7_giveBack : MD := (yX7_giveBack, cX7_giveBack, 2, none, RX7, { frames := 0, cells := 0, slots := 0, locals := 0 })
abbrev mX7_isBefore : MD := (yX7_isBefore, cX7_isBefore, 4, (some .boolean), RX7, { frames := 0, cells := 0, slots := 0, locals := 0 })
abbrev mX7_firstLeaf : MD := (yX7_firstLeaf, cX7_firstLeaf, 3, (some .int), RX7, { frames := 0, cells := 0, slots := 0, locals := 0 })
abbrev mX7_descend : MD := (yX7_descend, cX7_descend, 7, none, RX7, { frames := 1, cells := 0, slots := 0, locals := 23 })
abbrev mX7_copySlot : MD := (yX7_copySlot, cX7_copySlot, 3, none, RX7, { frames := 0, cells := 0, slots := 0, locals := 0 })
abbrev mX7_openSlot : MD := (yX7_openSlot, cX7_openSlot, 4, none, RX7, { frames := 1, cells := 0, slots := 0, locals := 22 })
abbrev mX7_closeSlot : MD := (yX7_closeSlot, cX7_closeSlot, 4, none, RX7, { frames := 1, cells := 0, slots := 0, locals := 22 })
abbrev mX7_comes : MD := (yX7_comes, cX7_comes, 7, none, RX7, { frames := 2, cells := 0, slots := 0, locals := 49 })
abbrev mX7_goes : MD := (yX7_goes, cX7_goes, 6, none, RX7, { frames := 2, cells := 0, slots := 0, locals := 49 })
abbrev mX7_note : MD := (yX7_note, cX7_note, 4, none, RX7, { frames := 3, cells := 0, slots := 0, locals := 75 })
abbrev mX7_clashes : MD := (yX7_clashes, cX7_clashes, 5, (some .boolean), RX7, { frames := 0, cells := 0, slots := 0, locals := 0 })
abbrev mX7_add : MD := (yX7_add, cX7_add, 4, (some .int), RX7, { frames := 5, cells := 0, slots := 0, locals := 107 })
abbrev mX7_isRow : MD := (yX7_isRow, cX7_isRow, 2, (some .boolean), RX7, { frames := 1, cells := 0, slots := 0, locals := 22 })
abbrev mX7_change : MD := (yX7_change, cX7_change, 5, (some .int), RX7, { frames := 5, cells := 0, slots := 0, locals := 107 })
abbrev mX7_remove : MD := (yX7_remove, cX7_remove, 2, (some .int), RX7, { frames := 5, cells := 0, slots := 0, locals := 107 })
abbrev mX7_row : MD := (yX7_row, cX7_row, 3, (some .int), RX7, { frames := 2, cells := 0, slots := 0, locals := 43 })
abbrev mX7_cut : MD := (yX7_cut, cX7_cut, 3, (some .int), RX7, { frames := 1, cells := 0, slots := 0, locals := 22 })
abbrev mX7_start : MD := (yX7_start, cX7_start, 1, (some .int), RX7, { frames := 1, cells := 0, slots := 0, locals := 22 })
abbrev mX7_rowCount : MD := (yX7_rowCount, cX7_rowCount, 3, (some .int), RX7, { frames := 0, cells := 0, slots := 0, locals := 0 })
abbrev mX7_build : MD := (yX7_build, cX7_build, 2, (some .int), RX7, { frames := 1, cells := 0, slots := 0, locals := 22 })
abbrev mX7_drop : MD := (yX7_drop, cX7_drop, 2, (some .int), RX7, { frames := 4, cells := 0, slots := 0, locals := 87 })
abbrev mX7_runFrom : MD := (yX7_runFrom, cX7_runFrom, 2, (some .int), RX7, { frames := 0, cells := 0, slots := 0, locals := 0 })
abbrev mX7_sort : MD := (yX7_sort, cX7_sort, 7, none, RX7, { frames := 1, cells := 0, slots := 0, locals := 23 })
abbrev mX7_scanStep : MD := (yX7_scanStep, cX7_scanStep, 2, (some .boolean), RX7, { frames := 3, cells := 0, slots := 0, locals := 64 })
abbrev mX7_mergeStep : MD := (yX7_mergeStep, cX7_mergeStep, 4, (some .boolean), RX7, { frames := 3, cells := 0, slots := 0, locals := 64 })
abbrev mX7_loadStep : MD := (yX7_loadStep, cX7_loadStep, 4, (some .boolean), RX7, { frames := 2, cells := 0, slots := 0, locals := 43 })
abbrev mX7_catchStep : MD := (yX7_catchStep, cX7_catchStep, 5, (some .boolean), RX7, { frames := 4, cells := 0, slots := 0, locals := 87 })
abbrev mX7_findClash : MD := (yX7_findClash, cX7_findClash, 5, (some .boolean), RX7, { frames := 2, cells := 0, slots := 0, locals := 43 })
abbrev mX7_step : MD := (yX7_step, cX7_step, 4, (some .int), RX7, { frames := 5, cells := 0, slots := 0, locals := 111 })
abbrev mX7_height : MD := (yX7_height, cX7_height, 3, (some .int), RX7, { frames := 0, cells := 0, slots := 0, locals := 0 })
abbrev mX7_goThrough : MD := (yX7_goThrough, cX7_goThrough, 3, none, RX7, { frames := 0, cells := 0, slots := 0, locals := 0 })
abbrev mX7_entries : MD := (yX7_entries, cX7_entries, 3, (some .int), RX7, { frames := 1, cells := 0, slots := 0, locals := 22 })
abbrev mX7_info : MD := (yX7_info, cX7_info, 4, (some .int), RX7, { frames := 2, cells := 0, slots := 0, locals := 44 })
abbrev mX7_slotOf : MD := (yX7_slotOf, cX7_slotOf, 5, (some .int), RX7, { frames := 1, cells := 0, slots := 0, locals := 22 })
abbrev mX7_entry : MD := (yX7_entry, cX7_entry, 4, (some .int), RX7, { frames := 2, cells := 0, slots := 0, locals := 46 })
abbrev mX7_leaf : MD := (yX7_leaf, cX7_leaf, 3, (some .int), RX7, { frames := 2, cells := 0, slots := 0, locals := 46 })
abbrev mX7_ask : MD := (yX7_ask, cX7_ask, 8, (some .int), RX7, { frames := 2, cells := 0, slots := 0, locals := 49 })
abbrev mX7_answer : MD := (yX7_answer, cX7_answer, 2, (some .int), RX7, { frames := 1, cells := 0, slots := 0, locals := 22 })
abbrev mX7_cost : MD := (yX7_cost, cX7_cost, 1, (some .int), RX7, { frames := 0, cells := 0, slots := 0, locals := 0 })
abbrev mX7_blocks : MD := (yX7_blocks, cX7_blocks, 2, (some .int), RX7, { frames := 0, cells := 0, slots := 0, locals := 0 })
abbrev mX7_rows : MD := (yX7_rows, cX7_rows, 1, (some .int), RX7, { frames := 1, cells := 0, slots := 0, locals := 22 })
abbrev mX7_audit : MD := (yX7_audit, cX7_audit, 1, (some .int), RX7, { frames := 2, cells := 0, slots := 0, locals := 44 })
theorem flX0_9 : FL RX0 9 0 0 := ⟨RX0, TX0, 6, rfl, by decide, inlX0, by decide +kernel⟩
theorem flX0_15 : FL RX0 15 0 1 := ⟨RX0, TX0, 6, rfl, by decide, inlX0, by decide +kernel⟩
theorem flX0_19 : FL RX0 19 0 2 := ⟨RX0, TX0, 6, rfl, by decide, inlX0, by decide +kernel⟩
theorem flX0_22 : FL RX0 22 0 3 := ⟨RX0, TX0, 6, rfl, by decide, inlX0, by decide +kernel⟩
theorem flX0_25 : FL RX0 25 0 4 := ⟨RX0, TX0, 6, rfl, by decide, inlX0, by decide +kernel⟩
theorem flX0_28 : FL RX0 28 0 5 := ⟨RX0, TX0, 6, rfl, by decide, inlX0, by decide +kernel⟩
theorem flX1_9 : FL RX1 9 1 0 := ⟨RX1, TX1, 4, rfl, by decide, inlX1, by decide +kernel⟩
theorem flX1_15 : FL RX1 15 1 1 := ⟨RX1, TX1, 4, rfl, by decide, inlX1, by decide +kernel⟩
theorem flX1_19 : FL RX1 19 1 2 := ⟨RX1, TX1, 4, rfl, by decide, inlX1, by decide +kernel⟩
theorem flX1_22 : FL RX1 22 1 3 := ⟨RX1, TX1, 4, rfl, by decide, inlX1, by decide +kernel⟩
theorem flX2_9 : FL RX2 9 2 0 := ⟨RX2, TX2, 4, rfl, by decide, inlX2, by decide +kernel⟩
theorem flX2_15 : FL RX2 15 2 1 := ⟨RX2, TX2, 4, rfl, by decide, inlX2, by decide +kernel⟩
theorem flX2_19 : FL RX2 19 2 2 := ⟨RX2, TX2, 4, rfl, by decide, inlX2, by decide +kernel⟩
theorem flX2_23 : FL RX2 23 2 3 := ⟨RX2, TX2, 4, rfl, by decide, inlX2, by decide +kernel⟩
theorem flX3_9 : FL RX3 9 3 0 := ⟨RX3, TX3, 7, rfl, by decide, inlX3, by decide +kernel⟩
theorem flX3_15 : FL RX3 15 3 1 := ⟨RX3, TX3, 7, rfl, by decide, inlX3, by decide +kernel⟩
theorem flX3_19 : FL RX3 19 3 2 := ⟨RX3, TX3, 7, rfl, by decide, inlX3, by decide +kernel⟩
theorem flX3_22 : FL RX3 22 3 3 := ⟨RX3, TX3, 7, rfl, by decide, inlX3, by decide +kernel⟩
theorem flX3_25 : FL RX3 25 3 4 := ⟨RX3, TX3, 7, rfl, by decide, inlX3, by decide +kernel⟩
theorem flX3_28 : FL RX3 28 3 5 := ⟨RX3, TX3, 7, rfl, by decide, inlX3, by decide +kernel⟩
theorem flX3_32 : FL RX3 32 3 6 := ⟨RX3, TX3, 7, rfl, by decide, inlX3, by decide +kernel⟩
theorem flX4_9 : FL RX4 9 4 0 := ⟨RX4, TX4, 5, rfl, by decide, inlX4, by decide +kernel⟩
theorem flX4_15 : FL RX4 15 4 1 := ⟨RX4, TX4, 5, rfl, by decide, inlX4, by decide +kernel⟩
theorem flX4_18 : FL RX4 18 4 2 := ⟨RX4, TX4, 5, rfl, by decide, inlX4, by decide +kernel⟩
theorem flX4_22 : FL RX4 22 4 3 := ⟨RX4, TX4, 5, rfl, by decide, inlX4, by decide +kernel⟩
theorem flX4_25 : FL RX4 25 4 4 := ⟨RX4, TX4, 5, rfl, by decide, inlX4, by decide +kernel⟩
theorem flX5_11 : FL RX5 11 5 0 := ⟨RX5, TX5, 13, rfl, by decide, inlX5, by decide +kernel⟩
theorem flX5_16 : FL RX5 16 5 1 := ⟨RX5, TX5, 13, rfl, by decide, inlX5, by decide +kernel⟩
theorem flX5_20 : FL RX5 20 5 2 := ⟨RX5, TX5, 13, rfl, by decide, inlX5, by decide +kernel⟩
theorem flX5_24 : FL RX5 24 5 3 := ⟨RX5, TX5, 13, rfl, by decide, inlX5, by decide +kernel⟩
theorem flX5_27 : FL RX5 27 5 4 := ⟨RX5, TX5, 13, rfl, by decide, inlX5, by decide +kernel⟩
theorem flX5_30 : FL RX5 30 5 5 := ⟨RX5, TX5, 13, rfl, by decide, inlX5, by decide +kernel⟩
theorem flX5_34 : FL RX5 34 5 6 := ⟨RX5, TX5, 13, rfl, by decide, inlX5, by decide +kernel⟩
theorem flX5_37 : FL RX5 37 5 7 := ⟨RX5, TX5, 13, rfl, by decide, inlX5, by decide +kernel⟩
theorem flX5_40 : FL RX5 40 5 8 := ⟨RX5, TX5, 13, rfl, by decide, inlX5, by decide +kernel⟩
theorem flX5_43 : FL RX5 43 5 9 := ⟨RX5, TX5, 13, rfl, by decide, inlX5, by decide +kernel⟩
theorem flX5_46 : FL RX5 46 5 10 := ⟨RX5, TX5, 13, rfl, by decide, inlX5, by decide +kernel⟩
theorem flX5_49 : FL RX5 49 5 11 := ⟨RX5, TX5, 13, rfl, by decide, inlX5, by decide +kernel⟩
theorem flX5_52 : FL RX5 52 5 12 := ⟨RX5, TX5, 13, rfl, by decide, inlX5, by decide +kernel⟩
theorem flX6_10 : FL RX6 10 6 0 := ⟨RX6, TX6, 15, rfl, by decide, inlX6, by decide +kernel⟩
theorem flX6_19 : FL RX6 19 6 1 := ⟨RX6, TX6, 15, rfl, by decide, inlX6, by decide +kernel⟩
theorem flX6_23 : FL RX6 23 6 2 := ⟨RX6, TX6, 15, rfl, by decide, inlX6, by decide +kernel⟩
theorem flX6_27 : FL RX6 27 6 3 := ⟨RX6, TX6, 15, rfl, by decide, inlX6, by decide +kernel⟩
theorem flX6_31 : FL RX6 31 6 4 := ⟨RX6, TX6, 15, rfl, by decide, inlX6, by decide +kernel⟩
theorem flX6_34 : FL RX6 34 6 5 := ⟨RX6, TX6, 15, rfl, by decide, inlX6, by decide +kernel⟩
theorem flX6_37 : FL RX6 37 6 6 := ⟨RX6, TX6, 15, rfl, by decide, inlX6, by decide +kernel⟩
theorem flX6_40 : FL RX6 40 6 7 := ⟨RX6, TX6, 15, rfl, by decide, inlX6, by decide +kernel⟩
theorem flX6_46 : FL RX6 46 6 8 := ⟨RX6, TX6, 15, rfl, by decide, inlX6, by decide +kernel⟩
theorem flX6_53 : FL RX6 53 6 9 := ⟨RX6, TX6, 15, rfl, by decide, inlX6, by decide +kernel⟩
theorem flX6_60 : FL RX6 60 6 10 := ⟨RX6, TX6, 15, rfl, by decide, inlX6, by decide +kernel⟩
theorem flX6_67 : FL RX6 67 6 11 := ⟨RX6, TX6, 15, rfl, by decide, inlX6, by decide +kernel⟩
theorem flX6_71 : FL RX6 71 6 12 := ⟨RX6, TX6, 15, rfl, by decide, inlX6, by decide +kernel⟩
theorem flX6_75 : FL RX6 75 6 13 := ⟨RX6, TX6, 15, rfl, by decide, inlX6, by decide +kernel⟩
theorem flX6_78 : FL RX6 78 6 14 := ⟨RX6, TX6, 15, rfl, by decide, inlX6, by decide +kernel⟩
theorem flX7_7 : FL RX7 7 7 1 := ⟨RX7, TX7, 52, rfl, by decide, inlX7, by decide +kernel⟩
theorem flX7_13 : FL RX7 13 7 2 := ⟨RX7, TX7, 52, rfl, by decide, inlX7, by decide +kernel⟩
theorem flX7_17 : FL RX7 17 7 3 := ⟨RX7, TX7, 52, rfl, by decide, inlX7, by decide +kernel⟩
theorem flX7_20 : FL RX7 20 7 5 := ⟨RX7, TX7, 52, rfl, by decide, inlX7, by decide +kernel⟩
theorem flX7_24 : FL RX7 24 7 10 := ⟨RX7, TX7, 52, rfl, by decide, inlX7, by decide +kernel⟩
theorem flX7_27 : FL RX7 27 7 14 := ⟨RX7, TX7, 52, rfl, by decide, inlX7, by decide +kernel⟩
theorem flX7_30 : FL RX7 30 7 15 := ⟨RX7, TX7, 52, rfl, by decide, inlX7, by decide +kernel⟩
theorem flX7_33 : FL RX7 33 7 18 := ⟨RX7, TX7, 52, rfl, by decide, inlX7, by decide +kernel⟩
theorem flX7_36 : FL RX7 36 7 19 := ⟨RX7, TX7, 52, rfl, by decide, inlX7, by decide +kernel⟩
theorem flX7_39 : FL RX7 39 7 21 := ⟨RX7, TX7, 52, rfl, by decide, inlX7, by decide +kernel⟩
theorem flX7_42 : FL RX7 42 7 23 := ⟨RX7, TX7, 52, rfl, by decide, inlX7, by decide +kernel⟩
theorem flX7_45 : FL RX7 45 7 24 := ⟨RX7, TX7, 52, rfl, by decide, inlX7, by decide +kernel⟩
theorem flX7_48 : FL RX7 48 7 25 := ⟨RX7, TX7, 52, rfl, by decide, inlX7, by decide +kernel⟩
theorem flX7_51 : FL RX7 51 7 29 := ⟨RX7, TX7, 52, rfl, by decide, inlX7, by decide +kernel⟩
theorem flX7_54 : FL RX7 54 7 32 := ⟨RX7, TX7, 52, rfl, by decide, inlX7, by decide +kernel⟩
theorem flX7_57 : FL RX7 57 7 35 := ⟨RX7, TX7, 52, rfl, by decide, inlX7, by decide +kernel⟩
theorem flX7_60 : FL RX7 60 7 36 := ⟨RX7, TX7, 52, rfl, by decide, inlX7, by decide +kernel⟩
theorem flX7_63 : FL RX7 63 7 37 := ⟨RX7, TX7, 52, rfl, by decide, inlX7, by decide +kernel⟩
theorem flX7_66 : FL RX7 66 7 38 := ⟨RX7, TX7, 52, rfl, by decide, inlX7, by decide +kernel⟩
theorem flX7_69 : FL RX7 69 7 39 := ⟨RX7, TX7, 52, rfl, by decide, inlX7, by decide +kernel⟩
theorem flX7_72 : FL RX7 72 7 40 := ⟨RX7, TX7, 52, rfl, by decide, inlX7, by decide +kernel⟩
theorem flX7_75 : FL RX7 75 7 41 := ⟨RX7, TX7, 52, rfl, by decide, inlX7, by decide +kernel⟩
theorem flX7_78 : FL RX7 78 7 43 := ⟨RX7, TX7, 52, rfl, by decide, inlX7, by decide +kernel⟩
theorem flX7_81 : FL RX7 81 7 46 := ⟨RX7, TX7, 52, rfl, by decide, inlX7, by decide +kernel⟩
theorem flX7_84 : FL RX7 84 7 47 := ⟨RX7, TX7, 52, rfl, by decide, inlX7, by decide +kernel⟩
theorem flX7_87 : FL RX7 87 7 48 := ⟨RX7, TX7, 52, rfl, by decide, inlX7, by decide +kernel⟩
theorem flX7_90 : FL RX7 90 7 49 := ⟨RX7, TX7, 52, rfl, by decide, inlX7, by decide +kernel⟩
theorem flX7_93 : FL RX7 93 7 51 := ⟨RX7, TX7, 52, rfl, by decide, inlX7, by decide +kernel⟩
theorem flX7_96 : FL RX7 96 7 0 := ⟨RX7, TX7, 52, rfl, by decide, inlX7, by decide +kernel⟩
theorem flX7_99 : FL RX7 99 7 6 := ⟨RX7, TX7, 52, rfl, by decide, inlX7, by decide +kernel⟩
theorem flX7_102 : FL RX7 102 7 4 := ⟨RX7, TX7, 52, rfl, by decide, inlX7, by decide +kernel⟩
theorem flX7_106 : FL RX7 106 7 11 := ⟨RX7, TX7, 52, rfl, by decide, inlX7, by decide +kernel⟩
theorem flX7_120 : FL RX7 120 7 7 := ⟨RX7, TX7, 52, rfl, by decide, inlX7, by decide +kernel⟩
theorem flX7_123 : FL RX7 123 7 8 := ⟨RX7, TX7, 52, rfl, by decide, inlX7, by decide +kernel⟩
theorem flX7_126 : FL RX7 126 7 9 := ⟨RX7, TX7, 52, rfl, by decide, inlX7, by decide +kernel⟩
theorem flX7_136 : FL RX7 136 7 13 := ⟨RX7, TX7, 52, rfl, by decide, inlX7, by decide +kernel⟩
theorem flX7_139 : FL RX7 139 7 16 := ⟨RX7, TX7, 52, rfl, by decide, inlX7, by decide +kernel⟩
theorem flX7_142 : FL RX7 142 7 17 := ⟨RX7, TX7, 52, rfl, by decide, inlX7, by decide +kernel⟩
theorem flX7_145 : FL RX7 145 7 20 := ⟨RX7, TX7, 52, rfl, by decide, inlX7, by decide +kernel⟩
theorem flX7_148 : FL RX7 148 7 22 := ⟨RX7, TX7, 52, rfl, by decide, inlX7, by decide +kernel⟩
theorem flX7_151 : FL RX7 151 7 33 := ⟨RX7, TX7, 52, rfl, by decide, inlX7, by decide +kernel⟩
theorem flX7_154 : FL RX7 154 7 12 := ⟨RX7, TX7, 52, rfl, by decide, inlX7, by decide +kernel⟩
theorem flX7_157 : FL RX7 157 7 45 := ⟨RX7, TX7, 52, rfl, by decide, inlX7, by decide +kernel⟩
theorem flX7_160 : FL RX7 160 7 34 := ⟨RX7, TX7, 52, rfl, by decide, inlX7, by decide +kernel⟩
theorem flX7_222 : FL RX7 222 7 26 := ⟨RX7, TX7, 52, rfl, by decide, inlX7, by decide +kernel⟩
theorem flX7_225 : FL RX7 225 7 27 := ⟨RX7, TX7, 52, rfl, by decide, inlX7, by decide +kernel⟩
theorem flX7_228 : FL RX7 228 7 31 := ⟨RX7, TX7, 52, rfl, by decide, inlX7, by decide +kernel⟩
theorem flX7_231 : FL RX7 231 7 28 := ⟨RX7, TX7, 52, rfl, by decide, inlX7, by decide +kernel⟩
theorem flX7_234 : FL RX7 234 7 30 := ⟨RX7, TX7, 52, rfl, by decide, inlX7, by decide +kernel⟩
theorem flX7_258 : FL RX7 258 7 50 := ⟨RX7, TX7, 52, rfl, by decide, inlX7, by decide +kernel⟩
theorem flX7_273 : FL RX7 273 7 42 := ⟨RX7, TX7, 52, rfl, by decide, inlX7, by decide +kernel⟩
theorem flX7_276 : FL RX7 276 7 44 := ⟨RX7, TX7, 52, rfl, by decide, inlX7, by decide +kernel⟩
theorem fpX0_9 : FP RX0 9 0 0 .boolean := ⟨RX0, TX0, 6, tyX0, rfl, by decide, inlX0, by decide +kernel, tyX0_ok, nmX0, rfl, by decide +kernel⟩
theorem fpX0_15 : FP RX0 15 0 1 .int := ⟨RX0, TX0, 6, tyX0, rfl, by decide, inlX0, by decide +kernel, tyX0_ok, nmX0, rfl, by decide +kernel⟩
theorem fpX0_19 : FP RX0 19 0 2 .int := ⟨RX0, TX0, 6, tyX0, rfl, by decide, inlX0, by decide +kernel, tyX0_ok, nmX0, rfl, by decide +kernel⟩
theorem fpX0_22 : FP RX0 22 0 3 .int := ⟨RX0, TX0, 6, tyX0, rfl, by decide, inlX0, by decide +kernel, tyX0_ok, nmX0, rfl, by decide +kernel⟩
theorem fpX0_25 : FP RX0 25 0 4 .int := ⟨RX0, TX0, 6, tyX0, rfl, by decide, inlX0, by decide +kernel, tyX0_ok, nmX0, rfl, by decide +kernel⟩
theorem fpX0_28 : FP RX0 28 0 5 .int := ⟨RX0, TX0, 6, tyX0, rfl, by decide, inlX0, by decide +kernel, tyX0_ok, nmX0, rfl, by decide +kernel⟩
theorem fpX1_9 : FP RX1 9 1 0 .boolean := ⟨RX1, TX1, 4, tyX1, rfl, by decide, inlX1, by decide +kernel, tyX1_ok, nmX1, rfl, by decide +kernel⟩
theorem fpX1_15 : FP RX1 15 1 1 .int := ⟨RX1, TX1, 4, tyX1, rfl, by decide, inlX1, by decide +kernel, tyX1_ok, nmX1, rfl, by decide +kernel⟩
theorem fpX1_19 : FP RX1 19 1 2 .int := ⟨RX1, TX1, 4, tyX1, rfl, by decide, inlX1, by decide +kernel, tyX1_ok, nmX1, rfl, by decide +kernel⟩
theorem fpX1_22 : FP RX1 22 1 3 .int := ⟨RX1, TX1, 4, tyX1, rfl, by decide, inlX1, by decide +kernel, tyX1_ok, nmX1, rfl, by decide +kernel⟩
theorem fpX2_19 : FP RX2 19 2 2 .int := ⟨RX2, TX2, 4, tyX2, rfl, by decide, inlX2, by decide +kernel, tyX2_ok, nmX2, rfl, by decide +kernel⟩
theorem fpX2_23 : FP RX2 23 2 3 .int := ⟨RX2, TX2, 4, tyX2, rfl, by decide, inlX2, by decide +kernel, tyX2_ok, nmX2, rfl, by decide +kernel⟩
theorem fpX3_15 : FP RX3 15 3 1 .int := ⟨RX3, TX3, 7, tyX3, rfl, by decide, inlX3, by decide +kernel, tyX3_ok, nmX3, rfl, by decide +kernel⟩
theorem fpX3_25 : FP RX3 25 3 4 .int := ⟨RX3, TX3, 7, tyX3, rfl, by decide, inlX3, by decide +kernel, tyX3_ok, nmX3, rfl, by decide +kernel⟩
theorem fpX3_32 : FP RX3 32 3 6 .int := ⟨RX3, TX3, 7, tyX3, rfl, by decide, inlX3, by decide +kernel, tyX3_ok, nmX3, rfl, by decide +kernel⟩
theorem fpX4_25 : FP RX4 25 4 4 .int := ⟨RX4, TX4, 5, tyX4, rfl, by decide, inlX4, by decide +kernel, tyX4_ok, nmX4, rfl, by decide +kernel⟩
theorem fpX5_30 : FP RX5 30 5 5 .int := ⟨RX5, TX5, 13, tyX5, rfl, by decide, inlX5, by decide +kernel, tyX5_ok, nmX5, rfl, by decide +kernel⟩
theorem fpX5_34 : FP RX5 34 5 6 .int := ⟨RX5, TX5, 13, tyX5, rfl, by decide, inlX5, by decide +kernel, tyX5_ok, nmX5, rfl, by decide +kernel⟩
theorem fpX5_37 : FP RX5 37 5 7 .int := ⟨RX5, TX5, 13, tyX5, rfl, by decide, inlX5, by decide +kernel, tyX5_ok, nmX5, rfl, by decide +kernel⟩
theorem fpX5_46 : FP RX5 46 5 10 .int := ⟨RX5, TX5, 13, tyX5, rfl, by decide, inlX5, by decide +kernel, tyX5_ok, nmX5, rfl, by decide +kernel⟩
theorem fpX6_23 : FP RX6 23 6 2 .int := ⟨RX6, TX6, 15, tyX6, rfl, by decide, inlX6, by decide +kernel, tyX6_ok, nmX6, rfl, by decide +kernel⟩
theorem fpX6_27 : FP RX6 27 6 3 .boolean := ⟨RX6, TX6, 15, tyX6, rfl, by decide, inlX6, by decide +kernel, tyX6_ok, nmX6, rfl, by decide +kernel⟩
theorem fpX6_31 : FP RX6 31 6 4 .int := ⟨RX6, TX6, 15, tyX6, rfl, by decide, inlX6, by decide +kernel, tyX6_ok, nmX6, rfl, by decide +kernel⟩
theorem fpX6_34 : FP RX6 34 6 5 .int := ⟨RX6, TX6, 15, tyX6, rfl, by decide, inlX6, by decide +kernel, tyX6_ok, nmX6, rfl, by decide +kernel⟩
theorem fpX6_37 : FP RX6 37 6 6 .int := ⟨RX6, TX6, 15, tyX6, rfl, by decide, inlX6, by decide +kernel, tyX6_ok, nmX6, rfl, by decide +kernel⟩
theorem fpX6_40 : FP RX6 40 6 7 .int := ⟨RX6, TX6, 15, tyX6, rfl, by decide, inlX6, by decide +kernel, tyX6_ok, nmX6, rfl, by decide +kernel⟩
theorem fpX6_75 : FP RX6 75 6 13 .int := ⟨RX6, TX6, 15, tyX6, rfl, by decide, inlX6, by decide +kernel, tyX6_ok, nmX6, rfl, by decide +kernel⟩
theorem fpX6_78 : FP RX6 78 6 14 .int := ⟨RX6, TX6, 15, tyX6, rfl, by decide, inlX6, by decide +kernel, tyX6_ok, nmX6, rfl, by decide +kernel⟩
theorem fpX7_20 : FP RX7 20 7 5 .int := ⟨RX7, TX7, 52, tyX7, rfl, by decide, inlX7, by decide +kernel, tyX7_ok, nmX7, rfl, by decide +kernel⟩
theorem fpX7_27 : FP RX7 27 7 14 .int := ⟨RX7, TX7, 52, tyX7, rfl, by decide, inlX7, by decide +kernel, tyX7_ok, nmX7, rfl, by decide +kernel⟩
theorem fpX7_30 : FP RX7 30 7 15 .int := ⟨RX7, TX7, 52, tyX7, rfl, by decide, inlX7, by decide +kernel, tyX7_ok, nmX7, rfl, by decide +kernel⟩
theorem fpX7_96 : FP RX7 96 7 0 .int := ⟨RX7, TX7, 52, tyX7, rfl, by decide, inlX7, by decide +kernel, tyX7_ok, nmX7, rfl, by decide +kernel⟩
theorem fpX7_99 : FP RX7 99 7 6 .int := ⟨RX7, TX7, 52, tyX7, rfl, by decide, inlX7, by decide +kernel, tyX7_ok, nmX7, rfl, by decide +kernel⟩
theorem fpX7_102 : FP RX7 102 7 4 .boolean := ⟨RX7, TX7, 52, tyX7, rfl, by decide, inlX7, by decide +kernel, tyX7_ok, nmX7, rfl, by decide +kernel⟩
theorem fpX7_106 : FP RX7 106 7 11 .int := ⟨RX7, TX7, 52, tyX7, rfl, by decide, inlX7, by decide +kernel, tyX7_ok, nmX7, rfl, by decide +kernel⟩
theorem fpX7_120 : FP RX7 120 7 7 .int := ⟨RX7, TX7, 52, tyX7, rfl, by decide, inlX7, by decide +kernel, tyX7_ok, nmX7, rfl, by decide +kernel⟩
theorem fpX7_123 : FP RX7 123 7 8 .int := ⟨RX7, TX7, 52, tyX7, rfl, by decide, inlX7, by decide +kernel, tyX7_ok, nmX7, rfl, by decide +kernel⟩
theorem fpX7_126 : FP RX7 126 7 9 .int := ⟨RX7, TX7, 52, tyX7, rfl, by decide, inlX7, by decide +kernel, tyX7_ok, nmX7, rfl, by decide +kernel⟩
theorem fpX7_136 : FP RX7 136 7 13 .int := ⟨RX7, TX7, 52, tyX7, rfl, by decide, inlX7, by decide +kernel, tyX7_ok, nmX7, rfl, by decide +kernel⟩
theorem fpX7_139 : FP RX7 139 7 16 .int := ⟨RX7, TX7, 52, tyX7, rfl, by decide, inlX7, by decide +kernel, tyX7_ok, nmX7, rfl, by decide +kernel⟩
theorem fpX7_142 : FP RX7 142 7 17 .int := ⟨RX7, TX7, 52, tyX7, rfl, by decide, inlX7, by decide +kernel, tyX7_ok, nmX7, rfl, by decide +kernel⟩
theorem fpX7_145 : FP RX7 145 7 20 .int := ⟨RX7, TX7, 52, tyX7, rfl, by decide, inlX7, by decide +kernel, tyX7_ok, nmX7, rfl, by decide +kernel⟩
theorem fpX7_148 : FP RX7 148 7 22 .int := ⟨RX7, TX7, 52, tyX7, rfl, by decide, inlX7, by decide +kernel, tyX7_ok, nmX7, rfl, by decide +kernel⟩
theorem fpX7_151 : FP RX7 151 7 33 .int := ⟨RX7, TX7, 52, tyX7, rfl, by decide, inlX7, by decide +kernel, tyX7_ok, nmX7, rfl, by decide +kernel⟩
theorem fpX7_154 : FP RX7 154 7 12 .boolean := ⟨RX7, TX7, 52, tyX7, rfl, by decide, inlX7, by decide +kernel, tyX7_ok, nmX7, rfl, by decide +kernel⟩
theorem fpX7_157 : FP RX7 157 7 45 .int := ⟨RX7, TX7, 52, tyX7, rfl, by decide, inlX7, by decide +kernel, tyX7_ok, nmX7, rfl, by decide +kernel⟩
theorem fpX7_160 : FP RX7 160 7 34 .int := ⟨RX7, TX7, 52, tyX7, rfl, by decide, inlX7, by decide +kernel, tyX7_ok, nmX7, rfl, by decide +kernel⟩
theorem fpX7_222 : FP RX7 222 7 26 .int := ⟨RX7, TX7, 52, tyX7, rfl, by decide, inlX7, by decide +kernel, tyX7_ok, nmX7, rfl, by decide +kernel⟩
theorem fpX7_225 : FP RX7 225 7 27 .boolean := ⟨RX7, TX7, 52, tyX7, rfl, by decide, inlX7, by decide +kernel, tyX7_ok, nmX7, rfl, by decide +kernel⟩
theorem fpX7_228 : FP RX7 228 7 31 .int := ⟨RX7, TX7, 52, tyX7, rfl, by decide, inlX7, by decide +kernel, tyX7_ok, nmX7, rfl, by decide +kernel⟩
theorem fpX7_231 : FP RX7 231 7 28 .int := ⟨RX7, TX7, 52, tyX7, rfl, by decide, inlX7, by decide +kernel, tyX7_ok, nmX7, rfl, by decide +kernel⟩
theorem fpX7_234 : FP RX7 234 7 30 .int := ⟨RX7, TX7, 52, tyX7, rfl, by decide, inlX7, by decide +kernel, tyX7_ok, nmX7, rfl, by decide +kernel⟩
theorem fpX7_258 : FP RX7 258 7 50 .int := ⟨RX7, TX7, 52, tyX7, rfl, by decide, inlX7, by decide +kernel, tyX7_ok, nmX7, rfl, by decide +kernel⟩
theorem fpX7_273 : FP RX7 273 7 42 .int := ⟨RX7, TX7, 52, tyX7, rfl, by decide, inlX7, by decide +kernel, tyX7_ok, nmX7, rfl, by decide +kernel⟩
theorem fpX7_276 : FP RX7 276 7 44 .int := ⟨RX7, TX7, 52, tyX7, rfl, by decide, inlX7, by decide +kernel, tyX7_ok, nmX7, rfl, by decide +kernel⟩
theorem mlX1_25 : MLv RX1 25 mX5_newNode 1 := mlv_of (by decide +kernel) ⟨by decide +kernel, by decide +kernel, by decide +kernel⟩
theorem mlX1_31 : MLv RX1 31 mX3_entryAt 1 := mlv_of (by decide +kernel) ⟨by decide +kernel, by decide +kernel, by decide +kernel⟩
theorem mlX1_37 : MLv RX1 37 mX5_append 2 := mlv_of (by decide +kernel) ⟨by decide +kernel, by decide +kernel, by decide +kernel⟩
theorem mlX1_41 : MLv RX1 41 mX3_total 0 := mlv_of (by decide +kernel) ⟨by decide +kernel, by decide +kernel, by decide +kernel⟩
theorem mlX1_45 : MLv RX1 45 mX5_finishLoad 2 := mlv_of (by decide +kernel) ⟨by decide +kernel, by decide +kernel, by decide +kernel⟩
theorem mlX3_41 : MLv RX3 41 mX3_mergeInto 2 := mlv_of (by decide +kernel) ⟨by decide +kernel, by decide +kernel, by decide +kernel⟩
theorem mlX4_29 : MLv RX4 29 mX4_has 1 := mlv_of (by decide +kernel) ⟨by decide +kernel, by decide +kernel, by decide +kernel⟩
theorem mlX5_55 : MLv RX5 55 mX5_putIn 3 := mlv_of (by decide +kernel) ⟨by decide +kernel, by decide +kernel, by decide +kernel⟩
theorem mlX5_61 : MLv RX5 61 mX5_kidOf 2 := mlv_of (by decide +kernel) ⟨by decide +kernel, by decide +kernel, by decide +kernel⟩
theorem mlX5_65 : MLv RX5 65 mX5_leastOf 1 := mlv_of (by decide +kernel) ⟨by decide +kernel, by decide +kernel, by decide +kernel⟩
theorem mlX5_69 : MLv RX5 69 mX5_goDown 1 := mlv_of (by decide +kernel) ⟨by decide +kernel, by decide +kernel, by decide +kernel⟩
theorem mlX5_73 : MLv RX5 73 mX5_newNodesOnWay 0 := mlv_of (by decide +kernel) ⟨by decide +kernel, by decide +kernel, by decide +kernel⟩
theorem mlX5_77 : MLv RX5 77 mX5_divide 1 := mlv_of (by decide +kernel) ⟨by decide +kernel, by decide +kernel, by decide +kernel⟩
theorem mlX5_81 : MLv RX5 81 mX5_newNode 1 := mlv_of (by decide +kernel) ⟨by decide +kernel, by decide +kernel, by decide +kernel⟩
theorem mlX5_85 : MLv RX5 85 mX5_putRootOver 2 := mlv_of (by decide +kernel) ⟨by decide +kernel, by decide +kernel, by decide +kernel⟩
theorem mlX5_89 : MLv RX5 89 mX5_takeOut 2 := mlv_of (by decide +kernel) ⟨by decide +kernel, by decide +kernel, by decide +kernel⟩
theorem mlX5_92 : MLv RX5 92 mX5_freeNode 1 := mlv_of (by decide +kernel) ⟨by decide +kernel, by decide +kernel, by decide +kernel⟩
theorem mlX5_95 : MLv RX5 95 mX5_listRowBelow 1 := mlv_of (by decide +kernel) ⟨by decide +kernel, by decide +kernel, by decide +kernel⟩
theorem mlX5_105 : MLv RX5 105 mX5_listLeaves 0 := mlv_of (by decide +kernel) ⟨by decide +kernel, by decide +kernel, by decide +kernel⟩
theorem mlX5_108 : MLn RX5 108 mX6_keyOf 1 := ⟨good_M (by decide +kernel), by decide +kernel, by decide +kernel, by decide +kernel, by decide +kernel, by decide +kernel, by decide +kernel⟩
theorem mlX5_112 : MLn RX5 112 mX6_placeOf 1 := ⟨good_M (by decide +kernel), by decide +kernel, by decide +kernel, by decide +kernel, by decide +kernel, by decide +kernel, by decide +kernel⟩
theorem mlX5_115 : MLn RX5 115 mX6_entryOf 2 := ⟨good_M (by decide +kernel), by decide +kernel, by decide +kernel, by decide +kernel, by decide +kernel, by decide +kernel, by decide +kernel⟩
theorem mlX5_119 : MLv RX5 119 mX4_has 1 := mlv_of (by decide +kernel) ⟨by decide +kernel, by decide +kernel, by decide +kernel⟩
theorem mlX5_125 : MLv RX5 125 mX4_keyAt 1 := mlv_of (by decide +kernel) ⟨by decide +kernel, by decide +kernel, by decide +kernel⟩
theorem mlX5_128 : MLv RX5 128 mX4_count 0 := mlv_of (by decide +kernel) ⟨by decide +kernel, by decide +kernel, by decide +kernel⟩
theorem mlX6_81 : MLv RX6 81 mX0_isDown 0 := mlv_of (by decide +kernel) ⟨by decide +kernel, by decide +kernel, by decide +kernel⟩
theorem mlX6_85 : MLv RX6 85 mX4_firstFree 0 := mlv_of (by decide +kernel) ⟨by decide +kernel, by decide +kernel, by decide +kernel⟩
theorem mlX6_89 : MLv RX6 89 mX6_wouldRepeat 2 := mlv_of (by decide +kernel) ⟨by decide +kernel, by decide +kernel, by decide +kernel⟩
theorem mlX6_93 : MLv RX6 93 mX6_writeDown 0 := mlv_of (by decide +kernel) ⟨by decide +kernel, by decide +kernel, by decide +kernel⟩
theorem mlX6_96 : MLv RX6 96 mX4_put 3 := mlv_of (by decide +kernel) ⟨by decide +kernel, by decide +kernel, by decide +kernel⟩
theorem mlX6_100 : MLs RX6 100 mX6_entryOf 2 := mls_of (by decide +kernel) ⟨rfl, by decide +kernel, by decide +kernel, by decide +kernel⟩
theorem mlX6_104 : MLv RX6 104 mX6_follow 2 := mlv_of (by decide +kernel) ⟨by decide +kernel, by decide +kernel, by decide +kernel⟩
theorem mlX6_108 : MLv RX6 108 mX4_has 1 := mlv_of (by decide +kernel) ⟨by decide +kernel, by decide +kernel, by decide +kernel⟩
theorem mlX6_112 : MLv RX6 112 mX4_keyAt 1 := mlv_of (by decide +kernel) ⟨by decide +kernel, by decide +kernel, by decide +kernel⟩
theorem mlX6_116 : MLv RX6 116 mX4_clearPlace 1 := mlv_of (by decide +kernel) ⟨by decide +kernel, by decide +kernel, by decide +kernel⟩
theorem mlX6_135 : MLv RX6 135 mX4_count 0 := mlv_of (by decide +kernel) ⟨by decide +kernel, by decide +kernel, by decide +kernel⟩
theorem mlX6_138 : MLv RX6 138 mX0_setLoss 1 := mlv_of (by decide +kernel) ⟨by decide +kernel, by decide +kernel, by decide +kernel⟩
theorem mlX6_141 : MLv RX6 141 mX0_powerUp 0 := mlv_of (by decide +kernel) ⟨by decide +kernel, by decide +kernel, by decide +kernel⟩
theorem mlX6_144 : MLv RX6 144 mX0_countOf 1 := mlv_of (by decide +kernel) ⟨by decide +kernel, by decide +kernel, by decide +kernel⟩
theorem mlX6_147 : MLv RX6 147 mX6_forgetIndex 0 := mlv_of (by decide +kernel) ⟨by decide +kernel, by decide +kernel, by decide +kernel⟩
theorem mlX6_150 : MLv RX6 150 mX6_makeCheckpoint 1 := mlv_of (by decide +kernel) ⟨by decide +kernel, by decide +kernel, by decide +kernel⟩
theorem mlX6_153 : MLv RX6 153 mX6_isBuilding 0 := mlv_of (by decide +kernel) ⟨by decide +kernel, by decide +kernel, by decide +kernel⟩
theorem mlX6_156 : MLv RX6 156 mX6_scanPage 0 := mlv_of (by decide +kernel) ⟨by decide +kernel, by decide +kernel, by decide +kernel⟩
theorem mlX6_159 : MLv RX6 159 mX6_mergeRuns 0 := mlv_of (by decide +kernel) ⟨by decide +kernel, by decide +kernel, by decide +kernel⟩
theorem mlX6_162 : MLv RX6 162 mX6_loadNode 0 := mlv_of (by decide +kernel) ⟨by decide +kernel, by decide +kernel, by decide +kernel⟩
theorem mlX6_165 : MLv RX6 165 mX6_catchUp 0 := mlv_of (by decide +kernel) ⟨by decide +kernel, by decide +kernel, by decide +kernel⟩
theorem mlX6_168 : MLv RX6 168 mX3_count 0 := mlv_of (by decide +kernel) ⟨by decide +kernel, by decide +kernel, by decide +kernel⟩
theorem mlX6_169 : MLv RX6 169 mX3_pickedCount 0 := mlv_of (by decide +kernel) ⟨by decide +kernel, by decide +kernel, by decide +kernel⟩
theorem mlX6_172 : MLv RX6 172 mX2_count 0 := mlv_of (by decide +kernel) ⟨by decide +kernel, by decide +kernel, by decide +kernel⟩
theorem mlX6_173 : MLv RX6 173 mX5_nodeCount 0 := mlv_of (by decide +kernel) ⟨by decide +kernel, by decide +kernel, by decide +kernel⟩
theorem mlX6_176 : MLv RX6 176 mX6_hasTree 0 := mlv_of (by decide +kernel) ⟨by decide +kernel, by decide +kernel, by decide +kernel⟩
theorem mlX6_179 : MLv RX6 179 mX5_levels 0 := mlv_of (by decide +kernel) ⟨by decide +kernel, by decide +kernel, by decide +kernel⟩
theorem mlX6_182 : MLv RX6 182 mX5_entryCount 0 := mlv_of (by decide +kernel) ⟨by decide +kernel, by decide +kernel, by decide +kernel⟩
theorem mlX6_185 : MLv RX6 185 mX6_isEntryOfTree 1 := mlv_of (by decide +kernel) ⟨by decide +kernel, by decide +kernel, by decide +kernel⟩
theorem mlX6_190 : MLv RX6 190 mX5_entryAt 1 := mlv_of (by decide +kernel) ⟨by decide +kernel, by decide +kernel, by decide +kernel⟩
theorem mlX6_194 : MLs RX6 194 mX6_placeOf 1 := mls_of (by decide +kernel) ⟨rfl, by decide +kernel, by decide +kernel, by decide +kernel⟩
theorem mlX6_201 : MLv RX6 201 mX5_sizeOfLeafAt 1 := mlv_of (by decide +kernel) ⟨by decide +kernel, by decide +kernel, by decide +kernel⟩
theorem mlX6_204 : MLv RX6 204 mX5_hasJustTheRowsOf 1 := mlv_of (by decide +kernel) ⟨by decide +kernel, by decide +kernel, by decide +kernel⟩
theorem mlX6_208 : MLv RX6 208 mX5_sizesAreRight 0 := mlv_of (by decide +kernel) ⟨by decide +kernel, by decide +kernel, by decide +kernel⟩
theorem mlX6_211 : MLv RX6 211 mX5_leavesAreInOneRow 0 := mlv_of (by decide +kernel) ⟨by decide +kernel, by decide +kernel, by decide +kernel⟩
theorem mlX6_214 : MLv RX6 214 mX5_costOf 2 := mlv_of (by decide +kernel) ⟨by decide +kernel, by decide +kernel, by decide +kernel⟩
theorem mlX6_218 : MLv RX6 218 mX5_tell 3 := mlv_of (by decide +kernel) ⟨by decide +kernel, by decide +kernel, by decide +kernel⟩
theorem mlX6_222 : MLv RX6 222 mX4_tell 3 := mlv_of (by decide +kernel) ⟨by decide +kernel, by decide +kernel, by decide +kernel⟩
theorem mlX6_225 : MLv RX6 225 mX4_hasKeyBeside 2 := mlv_of (by decide +kernel) ⟨by decide +kernel, by decide +kernel, by decide +kernel⟩
theorem mlX6_228 : MLv RX6 228 mX0_writesSinceCheckpoint 0 := mlv_of (by decide +kernel) ⟨by decide +kernel, by decide +kernel, by decide +kernel⟩
theorem mlX6_231 : MLv RX6 231 mX5_touchedCount 0 := mlv_of (by decide +kernel) ⟨by decide +kernel, by decide +kernel, by decide +kernel⟩
theorem mlX6_234 : MLv RX6 234 mX6_putBlocks 1 := mlv_of (by decide +kernel) ⟨by decide +kernel, by decide +kernel, by decide +kernel⟩
theorem mlX6_237 : MLv RX6 237 mX0_noteWrite 0 := mlv_of (by decide +kernel) ⟨by decide +kernel, by decide +kernel, by decide +kernel⟩
theorem mlX6_240 : MLv RX6 240 mX4_touchedPages 0 := mlv_of (by decide +kernel) ⟨by decide +kernel, by decide +kernel, by decide +kernel⟩
theorem mlX6_243 : MLv RX6 243 mX0_noteCheckpoint 1 := mlv_of (by decide +kernel) ⟨by decide +kernel, by decide +kernel, by decide +kernel⟩
theorem mlX6_246 : MLv RX6 246 mX4_untouch 0 := mlv_of (by decide +kernel) ⟨by decide +kernel, by decide +kernel, by decide +kernel⟩
theorem mlX6_249 : MLv RX6 249 mX5_untouch 0 := mlv_of (by decide +kernel) ⟨by decide +kernel, by decide +kernel, by decide +kernel⟩
theorem mlX6_250 : MLv RX6 250 mX0_put 1 := mlv_of (by decide +kernel) ⟨by decide +kernel, by decide +kernel, by decide +kernel⟩
theorem mlX6_252 : MLv RX6 252 mX6_bringToTree 2 := mlv_of (by decide +kernel) ⟨by decide +kernel, by decide +kernel, by decide +kernel⟩
theorem mlX6_255 : MLv RX6 255 mX2_append 2 := mlv_of (by decide +kernel) ⟨by decide +kernel, by decide +kernel, by decide +kernel⟩
theorem mlX6_259 : MLv RX6 259 mX6_stopBuilding 1 := mlv_of (by decide +kernel) ⟨by decide +kernel, by decide +kernel, by decide +kernel⟩
theorem mlX6_262 : MLv RX6 262 mX5_letGo 1 := mlv_of (by decide +kernel) ⟨by decide +kernel, by decide +kernel, by decide +kernel⟩
theorem mlX6_266 : MLv RX6 266 mX5_letCome 1 := mlv_of (by decide +kernel) ⟨by decide +kernel, by decide +kernel, by decide +kernel⟩
theorem mlX6_270 : MLv RX6 270 mX6_forgetBuilding 0 := mlv_of (by decide +kernel) ⟨by decide +kernel, by decide +kernel, by decide +kernel⟩
theorem mlX6_273 : MLv RX6 273 mX5_clear 0 := mlv_of (by decide +kernel) ⟨by decide +kernel, by decide +kernel, by decide +kernel⟩
theorem mlX6_276 : MLv RX6 276 mX3_clear 0 := mlv_of (by decide +kernel) ⟨by decide +kernel, by decide +kernel, by decide +kernel⟩
theorem mlX6_277 : MLv RX6 277 mX2_clear 0 := mlv_of (by decide +kernel) ⟨by decide +kernel, by decide +kernel, by decide +kernel⟩
theorem mlX6_278 : MLv RX6 278 mX3_pick 1 := mlv_of (by decide +kernel) ⟨by decide +kernel, by decide +kernel, by decide +kernel⟩
theorem mlX6_281 : MLv RX6 281 mX3_closeRun 0 := mlv_of (by decide +kernel) ⟨by decide +kernel, by decide +kernel, by decide +kernel⟩
theorem mlX6_284 : MLs RX6 284 mX6_blocksFor 1 := mls_of (by decide +kernel) ⟨rfl, by decide +kernel, by decide +kernel, by decide +kernel⟩
theorem mlX6_287 : MLv RX6 287 mX3_mergeFirstTwo 0 := mlv_of (by decide +kernel) ⟨by decide +kernel, by decide +kernel, by decide +kernel⟩
theorem mlX6_290 : MLv RX6 290 mX3_total 0 := mlv_of (by decide +kernel) ⟨by decide +kernel, by decide +kernel, by decide +kernel⟩
theorem mlX6_293 : MLv RX6 293 mX1_begin 1 := mlv_of (by decide +kernel) ⟨by decide +kernel, by decide +kernel, by decide +kernel⟩
theorem mlX6_296 : MLv RX6 296 mX1_makeNode 2 := mlv_of (by decide +kernel) ⟨by decide +kernel, by decide +kernel, by decide +kernel⟩
theorem mlX6_300 : MLv RX6 300 mX2_firstEntry 0 := mlv_of (by decide +kernel) ⟨by decide +kernel, by decide +kernel, by decide +kernel⟩
theorem mlX6_304 : MLv RX6 304 mX2_firstComes 0 := mlv_of (by decide +kernel) ⟨by decide +kernel, by decide +kernel, by decide +kernel⟩
theorem mlX6_307 : MLv RX6 307 mX2_takeFirst 0 := mlv_of (by decide +kernel) ⟨by decide +kernel, by decide +kernel, by decide +kernel⟩
theorem mlX6_310 : MLv RX6 310 mX5_firstTwin 0 := mlv_of (by decide +kernel) ⟨by decide +kernel, by decide +kernel, by decide +kernel⟩
theorem mlX7_109 : MLv RX7 109 mX7_forget 0 := mlv_of (by decide +kernel) ⟨by decide +kernel, by decide +kernel, by decide +kernel⟩
theorem mlX7_112 : MLv RX7 112 mX7_block 0 := mlv_of (by decide +kernel) ⟨by decide +kernel, by decide +kernel, by decide +kernel⟩
theorem mlX7_116 : MLv RX7 116 mX7_writeBlocks 1 := mlv_of (by decide +kernel) ⟨by decide +kernel, by decide +kernel, by decide +kernel⟩
theorem mlX7_129 : MLv RX7 129 mX7_dirtyNodes 0 := mlv_of (by decide +kernel) ⟨by decide +kernel, by decide +kernel, by decide +kernel⟩
theorem mlX7_133 : MLv RX7 133 mX7_checkpoint 1 := mlv_of (by decide +kernel) ⟨by decide +kernel, by decide +kernel, by decide +kernel⟩
theorem mlX7_163 : MLv RX7 163 mX7_firstLeaf 1 := mlv_of (by decide +kernel) ⟨by decide +kernel, by decide +kernel, by decide +kernel⟩
theorem mlX7_167 : MLs RX7 167 mX7_isBefore 4 := mls_of (by decide +kernel) ⟨rfl, by decide +kernel, by decide +kernel, by decide +kernel⟩
theorem mlX7_171 : MLv RX7 171 mX7_copySlot 2 := mlv_of (by decide +kernel) ⟨by decide +kernel, by decide +kernel, by decide +kernel⟩
theorem mlX7_175 : MLv RX7 175 mX7_descend 2 := mlv_of (by decide +kernel) ⟨by decide +kernel, by decide +kernel, by decide +kernel⟩
theorem mlX7_178 : MLv RX7 178 mX7_openSlot 2 := mlv_of (by decide +kernel) ⟨by decide +kernel, by decide +kernel, by decide +kernel⟩
theorem mlX7_181 : MLv RX7 181 mX7_newNode 1 := mlv_of (by decide +kernel) ⟨by decide +kernel, by decide +kernel, by decide +kernel⟩
theorem mlX7_185 : MLv RX7 185 mX7_closeSlot 2 := mlv_of (by decide +kernel) ⟨by decide +kernel, by decide +kernel, by decide +kernel⟩
theorem mlX7_188 : MLv RX7 188 mX7_giveBack 1 := mlv_of (by decide +kernel) ⟨by decide +kernel, by decide +kernel, by decide +kernel⟩
theorem mlX7_192 : MLv RX7 192 mX7_comes 2 := mlv_of (by decide +kernel) ⟨by decide +kernel, by decide +kernel, by decide +kernel⟩
theorem mlX7_195 : MLv RX7 195 mX7_goes 2 := mlv_of (by decide +kernel) ⟨by decide +kernel, by decide +kernel, by decide +kernel⟩
theorem mlX7_198 : MLv RX7 198 mX7_stop 1 := mlv_of (by decide +kernel) ⟨by decide +kernel, by decide +kernel, by decide +kernel⟩
theorem mlX7_201 : MLs RX7 201 mX7_in 3 := mls_of (by decide +kernel) ⟨rfl, by decide +kernel, by decide +kernel, by decide +kernel⟩
theorem mlX7_205 : MLv RX7 205 mX7_clashes 2 := mlv_of (by decide +kernel) ⟨by decide +kernel, by decide +kernel, by decide +kernel⟩
theorem mlX7_209 : MLv RX7 209 mX7_writeDown 0 := mlv_of (by decide +kernel) ⟨by decide +kernel, by decide +kernel, by decide +kernel⟩
theorem mlX7_212 : MLv RX7 212 mX7_note 3 := mlv_of (by decide +kernel) ⟨by decide +kernel, by decide +kernel, by decide +kernel⟩
theorem mlX7_216 : MLv RX7 216 mX7_isRow 1 := mlv_of (by decide +kernel) ⟨by decide +kernel, by decide +kernel, by decide +kernel⟩
theorem mlX7_219 : MLv RX7 219 mX7_rowCount 0 := mlv_of (by decide +kernel) ⟨by decide +kernel, by decide +kernel, by decide +kernel⟩
theorem mlX7_237 : MLv RX7 237 mX7_runFrom 1 := mlv_of (by decide +kernel) ⟨by decide +kernel, by decide +kernel, by decide +kernel⟩
theorem mlX7_240 : MLv RX7 240 mX7_sort 2 := mlv_of (by decide +kernel) ⟨by decide +kernel, by decide +kernel, by decide +kernel⟩
theorem mlX7_243 : MLv RX7 243 mX7_findClash 0 := mlv_of (by decide +kernel) ⟨by decide +kernel, by decide +kernel, by decide +kernel⟩
theorem mlX7_246 : MLv RX7 246 mX7_scanStep 0 := mlv_of (by decide +kernel) ⟨by decide +kernel, by decide +kernel, by decide +kernel⟩
theorem mlX7_249 : MLv RX7 249 mX7_mergeStep 0 := mlv_of (by decide +kernel) ⟨by decide +kernel, by decide +kernel, by decide +kernel⟩
theorem mlX7_252 : MLv RX7 252 mX7_loadStep 0 := mlv_of (by decide +kernel) ⟨by decide +kernel, by decide +kernel, by decide +kernel⟩
theorem mlX7_255 : MLv RX7 255 mX7_catchStep 0 := mlv_of (by decide +kernel) ⟨by decide +kernel, by decide +kernel, by decide +kernel⟩
theorem mlX7_261 : MLv RX7 261 mX7_goThrough 0 := mlv_of (by decide +kernel) ⟨by decide +kernel, by decide +kernel, by decide +kernel⟩
theorem mlX7_264 : MLv RX7 264 mX7_height 0 := mlv_of (by decide +kernel) ⟨by decide +kernel, by decide +kernel, by decide +kernel⟩
theorem mlX7_267 : MLv RX7 267 mX7_entries 0 := mlv_of (by decide +kernel) ⟨by decide +kernel, by decide +kernel, by decide +kernel⟩
theorem mlX7_270 : MLv RX7 270 mX7_slotOf 1 := mlv_of (by decide +kernel) ⟨by decide +kernel, by decide +kernel, by decide +kernel⟩
theorem mcX3_35 : MLc RX3 35 := ⟨by decide +kernel, by decide +kernel, by decide +kernel, by decide +kernel⟩
theorem mcX5_99 : MLc RX5 99 := ⟨by decide +kernel, by decide +kernel, by decide +kernel, by decide +kernel⟩
theorem lcX5_59 : Cond.constantLong RX5 59 (64) ∈ wsL_law0 := by decide +kernel
theorem lcX6_223 : Cond.constantLong RX6 223 (255) ∈ wsL_law0 := by decide +kernel
theorem rm_mX1_makeNode_mX3_entryAt : Rm mX1_makeNode mX3_entryAt := ⟨rfl, rfl, by decide, by decide⟩
theorem rm_mX1_makeNode_mX3_total : Rm mX1_makeNode mX3_total := ⟨rfl, rfl, by decide, by decide⟩
theorem rm_mX1_makeNode_mX5_append : Rm mX1_makeNode mX5_append := ⟨rfl, rfl, by decide, by decide⟩
theorem rm_mX1_makeNode_mX5_finishLoad : Rm mX1_makeNode mX5_finishLoad := ⟨rfl, rfl, by decide, by decide⟩
theorem rm_mX1_makeNode_mX5_newNode : Rm mX1_makeNode mX5_newNode := ⟨rfl, rfl, by decide, by decide⟩
theorem rm_mX3_mergeFirstTwo_mX3_mergeInto : Rm mX3_mergeFirstTwo mX3_mergeInto := ⟨rfl, rfl, by decide, by decide⟩
theorem rm_mX4_clearPlace_mX4_has : Rm mX4_clearPlace mX4_has := ⟨rfl, rfl, by decide, by decide⟩
theorem rm_mX4_keyAt_mX4_has : Rm mX4_keyAt mX4_has := ⟨rfl, rfl, by decide, by decide⟩
theorem rm_mX4_valueAt_mX4_has : Rm mX4_valueAt mX4_has := ⟨rfl, rfl, by decide, by decide⟩
theorem rm_mX5_append_mX5_putIn : Rm mX5_append mX5_putIn := ⟨rfl, rfl, by decide, by decide⟩
theorem rm_mX5_costOf_mX5_goDown : Rm mX5_costOf mX5_goDown := ⟨rfl, rfl, by decide, by decide⟩
theorem rm_mX5_costOf_mX5_listLeaves : Rm mX5_costOf mX5_listLeaves := ⟨rfl, rfl, by decide, by decide⟩
theorem rm_mX5_costOf_mX6_entryOf : Rm mX5_costOf mX6_entryOf := ⟨rfl, rfl, by decide, by decide⟩
theorem rm_mX5_costOf_mX6_keyOf : Rm mX5_costOf mX6_keyOf := ⟨rfl, rfl, by decide, by decide⟩
theorem rm_mX5_divide_mX5_newNode : Rm mX5_divide mX5_newNode := ⟨rfl, rfl, by decide, by decide⟩
theorem rm_mX5_divide_mX5_putIn : Rm mX5_divide mX5_putIn := ⟨rfl, rfl, by decide, by decide⟩
theorem rm_mX5_divide_mX5_putRootOver : Rm mX5_divide mX5_putRootOver := ⟨rfl, rfl, by decide, by decide⟩
theorem rm_mX5_entryAt_mX5_leastOf : Rm mX5_entryAt mX5_leastOf := ⟨rfl, rfl, by decide, by decide⟩
theorem rm_mX5_entryAt_mX5_listLeaves : Rm mX5_entryAt mX5_listLeaves := ⟨rfl, rfl, by decide, by decide⟩
theorem rm_mX5_firstTwin_mX5_listLeaves : Rm mX5_firstTwin mX5_listLeaves := ⟨rfl, rfl, by decide, by decide⟩
theorem rm_mX5_firstTwin_mX6_keyOf : Rm mX5_firstTwin mX6_keyOf := ⟨rfl, rfl, by decide, by decide⟩
theorem rm_mX5_goDown_mX5_kidOf : Rm mX5_goDown mX5_kidOf := ⟨rfl, rfl, by decide, by decide⟩
theorem rm_mX5_goDown_mX5_leastOf : Rm mX5_goDown mX5_leastOf := ⟨rfl, rfl, by decide, by decide⟩
theorem rm_mX5_hasJustTheRowsOf_mX4_count : Rm mX5_hasJustTheRowsOf mX4_count := ⟨rfl, rfl, by decide, by decide⟩
theorem rm_mX5_hasJustTheRowsOf_mX4_has : Rm mX5_hasJustTheRowsOf mX4_has := ⟨rfl, rfl, by decide, by decide⟩
theorem rm_mX5_hasJustTheRowsOf_mX4_keyAt : Rm mX5_hasJustTheRowsOf mX4_keyAt := ⟨rfl, rfl, by decide, by decide⟩
theorem rm_mX5_hasJustTheRowsOf_mX5_listLeaves : Rm mX5_hasJustTheRowsOf mX5_listLeaves := ⟨rfl, rfl, by decide, by decide⟩
theorem rm_mX5_hasJustTheRowsOf_mX6_keyOf : Rm mX5_hasJustTheRowsOf mX6_keyOf := ⟨rfl, rfl, by decide, by decide⟩
theorem rm_mX5_hasJustTheRowsOf_mX6_placeOf : Rm mX5_hasJustTheRowsOf mX6_placeOf := ⟨rfl, rfl, by decide, by decide⟩
theorem rm_mX5_leastOf_mX5_kidOf : Rm mX5_leastOf mX5_kidOf := ⟨rfl, rfl, by decide, by decide⟩
theorem rm_mX5_leavesAreInOneRow_mX5_listRowBelow : Rm mX5_leavesAreInOneRow mX5_listRowBelow := ⟨rfl, rfl, by decide, by decide⟩
theorem rm_mX5_letCome_mX5_divide : Rm mX5_letCome mX5_divide := ⟨rfl, rfl, by decide, by decide⟩
theorem rm_mX5_letCome_mX5_goDown : Rm mX5_letCome mX5_goDown := ⟨rfl, rfl, by decide, by decide⟩
theorem rm_mX5_letCome_mX5_newNodesOnWay : Rm mX5_letCome mX5_newNodesOnWay := ⟨rfl, rfl, by decide, by decide⟩
theorem rm_mX5_letCome_mX5_putIn : Rm mX5_letCome mX5_putIn := ⟨rfl, rfl, by decide, by decide⟩
theorem rm_mX5_letGo_mX5_freeNode : Rm mX5_letGo mX5_freeNode := ⟨rfl, rfl, by decide, by decide⟩
theorem rm_mX5_letGo_mX5_goDown : Rm mX5_letGo mX5_goDown := ⟨rfl, rfl, by decide, by decide⟩
theorem rm_mX5_letGo_mX5_kidOf : Rm mX5_letGo mX5_kidOf := ⟨rfl, rfl, by decide, by decide⟩
theorem rm_mX5_letGo_mX5_takeOut : Rm mX5_letGo mX5_takeOut := ⟨rfl, rfl, by decide, by decide⟩
theorem rm_mX5_levels_mX5_kidOf : Rm mX5_levels mX5_kidOf := ⟨rfl, rfl, by decide, by decide⟩
theorem rm_mX5_listLeaves_mX5_listRowBelow : Rm mX5_listLeaves mX5_listRowBelow := ⟨rfl, rfl, by decide, by decide⟩
theorem rm_mX5_listRowBelow_mX5_kidOf : Rm mX5_listRowBelow mX5_kidOf := ⟨rfl, rfl, by decide, by decide⟩
theorem rm_mX5_putRootOver_mX5_newNode : Rm mX5_putRootOver mX5_newNode := ⟨rfl, rfl, by decide, by decide⟩
theorem rm_mX5_putRootOver_mX5_putIn : Rm mX5_putRootOver mX5_putIn := ⟨rfl, rfl, by decide, by decide⟩
theorem rm_mX5_sizeOfLeafAt_mX5_listLeaves : Rm mX5_sizeOfLeafAt mX5_listLeaves := ⟨rfl, rfl, by decide, by decide⟩
theorem rm_mX5_tell_mX5_listLeaves : Rm mX5_tell mX5_listLeaves := ⟨rfl, rfl, by decide, by decide⟩
theorem rm_mX5_tell_mX6_keyOf : Rm mX5_tell mX6_keyOf := ⟨rfl, rfl, by decide, by decide⟩
theorem rm_mX5_tell_mX6_placeOf : Rm mX5_tell mX6_placeOf := ⟨rfl, rfl, by decide, by decide⟩
theorem rm_mX6_add_mX0_isDown : Rm mX6_add mX0_isDown := ⟨rfl, rfl, by decide, by decide⟩
theorem rm_mX6_add_mX4_firstFree : Rm mX6_add mX4_firstFree := ⟨rfl, rfl, by decide, by decide⟩
theorem rm_mX6_add_mX4_put : Rm mX6_add mX4_put := ⟨rfl, rfl, by decide, by decide⟩
theorem rm_mX6_add_mX6_entryOf : Rm mX6_add mX6_entryOf := ⟨rfl, rfl, by decide, by decide⟩
theorem rm_mX6_add_mX6_follow : Rm mX6_add mX6_follow := ⟨rfl, rfl, by decide, by decide⟩
theorem rm_mX6_add_mX6_wouldRepeat : Rm mX6_add mX6_wouldRepeat := ⟨rfl, rfl, by decide, by decide⟩
theorem rm_mX6_add_mX6_writeDown : Rm mX6_add mX6_writeDown := ⟨rfl, rfl, by decide, by decide⟩
theorem rm_mX6_ask_mX0_isDown : Rm mX6_ask mX0_isDown := ⟨rfl, rfl, by decide, by decide⟩
theorem rm_mX6_ask_mX4_tell : Rm mX6_ask mX4_tell := ⟨rfl, rfl, by decide, by decide⟩
theorem rm_mX6_ask_mX5_costOf : Rm mX6_ask mX5_costOf := ⟨rfl, rfl, by decide, by decide⟩
theorem rm_mX6_ask_mX5_tell : Rm mX6_ask mX5_tell := ⟨rfl, rfl, by decide, by decide⟩
theorem rm_mX6_audit_mX0_isDown : Rm mX6_audit mX0_isDown := ⟨rfl, rfl, by decide, by decide⟩
theorem rm_mX6_audit_mX5_hasJustTheRowsOf : Rm mX6_audit mX5_hasJustTheRowsOf := ⟨rfl, rfl, by decide, by decide⟩
theorem rm_mX6_audit_mX5_leavesAreInOneRow : Rm mX6_audit mX5_leavesAreInOneRow := ⟨rfl, rfl, by decide, by decide⟩
theorem rm_mX6_audit_mX5_sizesAreRight : Rm mX6_audit mX5_sizesAreRight := ⟨rfl, rfl, by decide, by decide⟩
theorem rm_mX6_audit_mX6_hasTree : Rm mX6_audit mX6_hasTree := ⟨rfl, rfl, by decide, by decide⟩
theorem rm_mX6_blocks_mX0_countOf : Rm mX6_blocks mX0_countOf := ⟨rfl, rfl, by decide, by decide⟩
theorem rm_mX6_bringToTree_mX5_letCome : Rm mX6_bringToTree mX5_letCome := ⟨rfl, rfl, by decide, by decide⟩
theorem rm_mX6_bringToTree_mX5_letGo : Rm mX6_bringToTree mX5_letGo := ⟨rfl, rfl, by decide, by decide⟩
theorem rm_mX6_bringToTree_mX6_stopBuilding : Rm mX6_bringToTree mX6_stopBuilding := ⟨rfl, rfl, by decide, by decide⟩
theorem rm_mX6_build_mX0_isDown : Rm mX6_build mX0_isDown := ⟨rfl, rfl, by decide, by decide⟩
theorem rm_mX6_build_mX6_forgetIndex : Rm mX6_build mX6_forgetIndex := ⟨rfl, rfl, by decide, by decide⟩
theorem rm_mX6_catchUp_mX2_count : Rm mX6_catchUp mX2_count := ⟨rfl, rfl, by decide, by decide⟩
theorem rm_mX6_catchUp_mX2_firstComes : Rm mX6_catchUp mX2_firstComes := ⟨rfl, rfl, by decide, by decide⟩
theorem rm_mX6_catchUp_mX2_firstEntry : Rm mX6_catchUp mX2_firstEntry := ⟨rfl, rfl, by decide, by decide⟩
theorem rm_mX6_catchUp_mX2_takeFirst : Rm mX6_catchUp mX2_takeFirst := ⟨rfl, rfl, by decide, by decide⟩
theorem rm_mX6_catchUp_mX5_entryAt : Rm mX6_catchUp mX5_entryAt := ⟨rfl, rfl, by decide, by decide⟩
theorem rm_mX6_catchUp_mX5_firstTwin : Rm mX6_catchUp mX5_firstTwin := ⟨rfl, rfl, by decide, by decide⟩
theorem rm_mX6_catchUp_mX5_nodeCount : Rm mX6_catchUp mX5_nodeCount := ⟨rfl, rfl, by decide, by decide⟩
theorem rm_mX6_catchUp_mX6_bringToTree : Rm mX6_catchUp mX6_bringToTree := ⟨rfl, rfl, by decide, by decide⟩
theorem rm_mX6_catchUp_mX6_forgetBuilding : Rm mX6_catchUp mX6_forgetBuilding := ⟨rfl, rfl, by decide, by decide⟩
theorem rm_mX6_catchUp_mX6_makeCheckpoint : Rm mX6_catchUp mX6_makeCheckpoint := ⟨rfl, rfl, by decide, by decide⟩
theorem rm_mX6_catchUp_mX6_placeOf : Rm mX6_catchUp mX6_placeOf := ⟨rfl, rfl, by decide, by decide⟩
theorem rm_mX6_catchUp_mX6_stopBuilding : Rm mX6_catchUp mX6_stopBuilding := ⟨rfl, rfl, by decide, by decide⟩
theorem rm_mX6_change_mX0_isDown : Rm mX6_change mX0_isDown := ⟨rfl, rfl, by decide, by decide⟩
theorem rm_mX6_change_mX4_has : Rm mX6_change mX4_has := ⟨rfl, rfl, by decide, by decide⟩
theorem rm_mX6_change_mX4_keyAt : Rm mX6_change mX4_keyAt := ⟨rfl, rfl, by decide, by decide⟩
theorem rm_mX6_change_mX4_put : Rm mX6_change mX4_put := ⟨rfl, rfl, by decide, by decide⟩
theorem rm_mX6_change_mX6_entryOf : Rm mX6_change mX6_entryOf := ⟨rfl, rfl, by decide, by decide⟩
theorem rm_mX6_change_mX6_follow : Rm mX6_change mX6_follow := ⟨rfl, rfl, by decide, by decide⟩
theorem rm_mX6_change_mX6_wouldRepeat : Rm mX6_change mX6_wouldRepeat := ⟨rfl, rfl, by decide, by decide⟩
theorem rm_mX6_change_mX6_writeDown : Rm mX6_change mX6_writeDown := ⟨rfl, rfl, by decide, by decide⟩
theorem rm_mX6_cut_mX0_isDown : Rm mX6_cut mX0_isDown := ⟨rfl, rfl, by decide, by decide⟩
theorem rm_mX6_cut_mX0_setLoss : Rm mX6_cut mX0_setLoss := ⟨rfl, rfl, by decide, by decide⟩
theorem rm_mX6_drop_mX0_isDown : Rm mX6_drop mX0_isDown := ⟨rfl, rfl, by decide, by decide⟩
theorem rm_mX6_drop_mX6_forgetIndex : Rm mX6_drop mX6_forgetIndex := ⟨rfl, rfl, by decide, by decide⟩
theorem rm_mX6_drop_mX6_makeCheckpoint : Rm mX6_drop mX6_makeCheckpoint := ⟨rfl, rfl, by decide, by decide⟩
theorem rm_mX6_follow_mX2_append : Rm mX6_follow mX2_append := ⟨rfl, rfl, by decide, by decide⟩
theorem rm_mX6_follow_mX6_bringToTree : Rm mX6_follow mX6_bringToTree := ⟨rfl, rfl, by decide, by decide⟩
theorem rm_mX6_follow_mX6_isBuilding : Rm mX6_follow mX6_isBuilding := ⟨rfl, rfl, by decide, by decide⟩
theorem rm_mX6_follow_mX6_placeOf : Rm mX6_follow mX6_placeOf := ⟨rfl, rfl, by decide, by decide⟩
theorem rm_mX6_follow_mX6_stopBuilding : Rm mX6_follow mX6_stopBuilding := ⟨rfl, rfl, by decide, by decide⟩
theorem rm_mX6_forgetBuilding_mX2_clear : Rm mX6_forgetBuilding mX2_clear := ⟨rfl, rfl, by decide, by decide⟩
theorem rm_mX6_forgetBuilding_mX3_clear : Rm mX6_forgetBuilding mX3_clear := ⟨rfl, rfl, by decide, by decide⟩
theorem rm_mX6_forgetIndex_mX5_clear : Rm mX6_forgetIndex mX5_clear := ⟨rfl, rfl, by decide, by decide⟩
theorem rm_mX6_forgetIndex_mX6_forgetBuilding : Rm mX6_forgetIndex mX6_forgetBuilding := ⟨rfl, rfl, by decide, by decide⟩
theorem rm_mX6_info_mX0_isDown : Rm mX6_info mX0_isDown := ⟨rfl, rfl, by decide, by decide⟩
theorem rm_mX6_info_mX2_count : Rm mX6_info mX2_count := ⟨rfl, rfl, by decide, by decide⟩
theorem rm_mX6_info_mX3_count : Rm mX6_info mX3_count := ⟨rfl, rfl, by decide, by decide⟩
theorem rm_mX6_info_mX3_pickedCount : Rm mX6_info mX3_pickedCount := ⟨rfl, rfl, by decide, by decide⟩
theorem rm_mX6_info_mX5_entryCount : Rm mX6_info mX5_entryCount := ⟨rfl, rfl, by decide, by decide⟩
theorem rm_mX6_info_mX5_levels : Rm mX6_info mX5_levels := ⟨rfl, rfl, by decide, by decide⟩
theorem rm_mX6_info_mX5_nodeCount : Rm mX6_info mX5_nodeCount := ⟨rfl, rfl, by decide, by decide⟩
theorem rm_mX6_info_mX6_hasTree : Rm mX6_info mX6_hasTree := ⟨rfl, rfl, by decide, by decide⟩
theorem rm_mX6_isEntryOfTree_mX5_entryCount : Rm mX6_isEntryOfTree mX5_entryCount := ⟨rfl, rfl, by decide, by decide⟩
theorem rm_mX6_isEntryOfTree_mX6_hasTree : Rm mX6_isEntryOfTree mX6_hasTree := ⟨rfl, rfl, by decide, by decide⟩
theorem rm_mX6_leaf_mX0_isDown : Rm mX6_leaf mX0_isDown := ⟨rfl, rfl, by decide, by decide⟩
theorem rm_mX6_leaf_mX5_sizeOfLeafAt : Rm mX6_leaf mX5_sizeOfLeafAt := ⟨rfl, rfl, by decide, by decide⟩
theorem rm_mX6_leaf_mX6_isEntryOfTree : Rm mX6_leaf mX6_isEntryOfTree := ⟨rfl, rfl, by decide, by decide⟩
theorem rm_mX6_loadNode_mX1_makeNode : Rm mX6_loadNode mX1_makeNode := ⟨rfl, rfl, by decide, by decide⟩
theorem rm_mX6_loadNode_mX5_nodeCount : Rm mX6_loadNode mX5_nodeCount := ⟨rfl, rfl, by decide, by decide⟩
theorem rm_mX6_loadNode_mX6_putBlocks : Rm mX6_loadNode mX6_putBlocks := ⟨rfl, rfl, by decide, by decide⟩
theorem rm_mX6_loadNode_mX6_stopBuilding : Rm mX6_loadNode mX6_stopBuilding := ⟨rfl, rfl, by decide, by decide⟩
theorem rm_mX6_makeCheckpoint_mX0_noteCheckpoint : Rm mX6_makeCheckpoint mX0_noteCheckpoint := ⟨rfl, rfl, by decide, by decide⟩
theorem rm_mX6_makeCheckpoint_mX4_touchedPages : Rm mX6_makeCheckpoint mX4_touchedPages := ⟨rfl, rfl, by decide, by decide⟩
theorem rm_mX6_makeCheckpoint_mX4_untouch : Rm mX6_makeCheckpoint mX4_untouch := ⟨rfl, rfl, by decide, by decide⟩
theorem rm_mX6_makeCheckpoint_mX5_untouch : Rm mX6_makeCheckpoint mX5_untouch := ⟨rfl, rfl, by decide, by decide⟩
theorem rm_mX6_makeCheckpoint_mX6_putBlocks : Rm mX6_makeCheckpoint mX6_putBlocks := ⟨rfl, rfl, by decide, by decide⟩
theorem rm_mX6_mergeRuns_mX1_begin : Rm mX6_mergeRuns mX1_begin := ⟨rfl, rfl, by decide, by decide⟩
theorem rm_mX6_mergeRuns_mX3_count : Rm mX6_mergeRuns mX3_count := ⟨rfl, rfl, by decide, by decide⟩
theorem rm_mX6_mergeRuns_mX3_mergeFirstTwo : Rm mX6_mergeRuns mX3_mergeFirstTwo := ⟨rfl, rfl, by decide, by decide⟩
theorem rm_mX6_mergeRuns_mX3_total : Rm mX6_mergeRuns mX3_total := ⟨rfl, rfl, by decide, by decide⟩
theorem rm_mX6_mergeRuns_mX6_blocksFor : Rm mX6_mergeRuns mX6_blocksFor := ⟨rfl, rfl, by decide, by decide⟩
theorem rm_mX6_mergeRuns_mX6_putBlocks : Rm mX6_mergeRuns mX6_putBlocks := ⟨rfl, rfl, by decide, by decide⟩
theorem rm_mX6_putBlocks_mX0_put : Rm mX6_putBlocks mX0_put := ⟨rfl, rfl, by decide, by decide⟩
theorem rm_mX6_putBlocks_mX6_forgetIndex : Rm mX6_putBlocks mX6_forgetIndex := ⟨rfl, rfl, by decide, by decide⟩
theorem rm_mX6_remove_mX0_isDown : Rm mX6_remove mX0_isDown := ⟨rfl, rfl, by decide, by decide⟩
theorem rm_mX6_remove_mX4_clearPlace : Rm mX6_remove mX4_clearPlace := ⟨rfl, rfl, by decide, by decide⟩
theorem rm_mX6_remove_mX4_has : Rm mX6_remove mX4_has := ⟨rfl, rfl, by decide, by decide⟩
theorem rm_mX6_remove_mX4_keyAt : Rm mX6_remove mX4_keyAt := ⟨rfl, rfl, by decide, by decide⟩
theorem rm_mX6_remove_mX6_entryOf : Rm mX6_remove mX6_entryOf := ⟨rfl, rfl, by decide, by decide⟩
theorem rm_mX6_remove_mX6_follow : Rm mX6_remove mX6_follow := ⟨rfl, rfl, by decide, by decide⟩
theorem rm_mX6_remove_mX6_writeDown : Rm mX6_remove mX6_writeDown := ⟨rfl, rfl, by decide, by decide⟩
theorem rm_mX6_rows_mX0_isDown : Rm mX6_rows mX0_isDown := ⟨rfl, rfl, by decide, by decide⟩
theorem rm_mX6_rows_mX4_count : Rm mX6_rows mX4_count := ⟨rfl, rfl, by decide, by decide⟩
theorem rm_mX6_scanPage_mX3_closeRun : Rm mX6_scanPage mX3_closeRun := ⟨rfl, rfl, by decide, by decide⟩
theorem rm_mX6_scanPage_mX3_pick : Rm mX6_scanPage mX3_pick := ⟨rfl, rfl, by decide, by decide⟩
theorem rm_mX6_scanPage_mX3_pickedCount : Rm mX6_scanPage mX3_pickedCount := ⟨rfl, rfl, by decide, by decide⟩
theorem rm_mX6_scanPage_mX4_has : Rm mX6_scanPage mX4_has := ⟨rfl, rfl, by decide, by decide⟩
theorem rm_mX6_scanPage_mX4_keyAt : Rm mX6_scanPage mX4_keyAt := ⟨rfl, rfl, by decide, by decide⟩
theorem rm_mX6_scanPage_mX6_blocksFor : Rm mX6_scanPage mX6_blocksFor := ⟨rfl, rfl, by decide, by decide⟩
theorem rm_mX6_scanPage_mX6_entryOf : Rm mX6_scanPage mX6_entryOf := ⟨rfl, rfl, by decide, by decide⟩
theorem rm_mX6_scanPage_mX6_putBlocks : Rm mX6_scanPage mX6_putBlocks := ⟨rfl, rfl, by decide, by decide⟩
theorem rm_mX6_start_mX0_isDown : Rm mX6_start mX0_isDown := ⟨rfl, rfl, by decide, by decide⟩
theorem rm_mX6_start_mX0_powerUp : Rm mX6_start mX0_powerUp := ⟨rfl, rfl, by decide, by decide⟩
theorem rm_mX6_start_mX4_count : Rm mX6_start mX4_count := ⟨rfl, rfl, by decide, by decide⟩
theorem rm_mX6_step_mX0_isDown : Rm mX6_step mX0_isDown := ⟨rfl, rfl, by decide, by decide⟩
theorem rm_mX6_step_mX6_catchUp : Rm mX6_step mX6_catchUp := ⟨rfl, rfl, by decide, by decide⟩
theorem rm_mX6_step_mX6_isBuilding : Rm mX6_step mX6_isBuilding := ⟨rfl, rfl, by decide, by decide⟩
theorem rm_mX6_step_mX6_loadNode : Rm mX6_step mX6_loadNode := ⟨rfl, rfl, by decide, by decide⟩
theorem rm_mX6_step_mX6_mergeRuns : Rm mX6_step mX6_mergeRuns := ⟨rfl, rfl, by decide, by decide⟩
theorem rm_mX6_step_mX6_scanPage : Rm mX6_step mX6_scanPage := ⟨rfl, rfl, by decide, by decide⟩
theorem rm_mX6_stopBuilding_mX5_clear : Rm mX6_stopBuilding mX5_clear := ⟨rfl, rfl, by decide, by decide⟩
theorem rm_mX6_stopBuilding_mX6_forgetBuilding : Rm mX6_stopBuilding mX6_forgetBuilding := ⟨rfl, rfl, by decide, by decide⟩
theorem rm_mX6_wouldRepeat_mX4_hasKeyBeside : Rm mX6_wouldRepeat mX4_hasKeyBeside := ⟨rfl, rfl, by decide, by decide⟩
theorem rm_mX6_writeDown_mX0_noteWrite : Rm mX6_writeDown mX0_noteWrite := ⟨rfl, rfl, by decide, by decide⟩
theorem rm_mX6_writeDown_mX0_writesSinceCheckpoint : Rm mX6_writeDown mX0_writesSinceCheckpoint := ⟨rfl, rfl, by decide, by decide⟩
theorem rm_mX6_writeDown_mX5_touchedCount : Rm mX6_writeDown mX5_touchedCount := ⟨rfl, rfl, by decide, by decide⟩
theorem rm_mX6_writeDown_mX6_makeCheckpoint : Rm mX6_writeDown mX6_makeCheckpoint := ⟨rfl, rfl, by decide, by decide⟩
theorem rm_mX6_writeDown_mX6_putBlocks : Rm mX6_writeDown mX6_putBlocks := ⟨rfl, rfl, by decide, by decide⟩
theorem rm_mX7_add_mX7_clashes : Rm mX7_add mX7_clashes := ⟨rfl, rfl, by decide, by decide⟩
theorem rm_mX7_add_mX7_note : Rm mX7_add mX7_note := ⟨rfl, rfl, by decide, by decide⟩
theorem rm_mX7_add_mX7_writeDown : Rm mX7_add mX7_writeDown := ⟨rfl, rfl, by decide, by decide⟩
theorem rm_mX7_answer_mX7_in : Rm mX7_answer mX7_in := ⟨rfl, rfl, by decide, by decide⟩
theorem rm_mX7_ask_mX7_descend : Rm mX7_ask mX7_descend := ⟨rfl, rfl, by decide, by decide⟩
theorem rm_mX7_ask_mX7_goThrough : Rm mX7_ask mX7_goThrough := ⟨rfl, rfl, by decide, by decide⟩
theorem rm_mX7_ask_mX7_in : Rm mX7_ask mX7_in := ⟨rfl, rfl, by decide, by decide⟩
theorem rm_mX7_audit_mX7_entries : Rm mX7_audit mX7_entries := ⟨rfl, rfl, by decide, by decide⟩
theorem rm_mX7_audit_mX7_rowCount : Rm mX7_audit mX7_rowCount := ⟨rfl, rfl, by decide, by decide⟩
theorem rm_mX7_block_mX7_forget : Rm mX7_block mX7_forget := ⟨rfl, rfl, by decide, by decide⟩
theorem rm_mX7_build_mX7_forget : Rm mX7_build mX7_forget := ⟨rfl, rfl, by decide, by decide⟩
theorem rm_mX7_build_mX7_in : Rm mX7_build mX7_in := ⟨rfl, rfl, by decide, by decide⟩
theorem rm_mX7_catchStep_mX7_checkpoint : Rm mX7_catchStep mX7_checkpoint := ⟨rfl, rfl, by decide, by decide⟩
theorem rm_mX7_catchStep_mX7_comes : Rm mX7_catchStep mX7_comes := ⟨rfl, rfl, by decide, by decide⟩
theorem rm_mX7_catchStep_mX7_findClash : Rm mX7_catchStep mX7_findClash := ⟨rfl, rfl, by decide, by decide⟩
theorem rm_mX7_catchStep_mX7_goes : Rm mX7_catchStep mX7_goes := ⟨rfl, rfl, by decide, by decide⟩
theorem rm_mX7_catchStep_mX7_stop : Rm mX7_catchStep mX7_stop := ⟨rfl, rfl, by decide, by decide⟩
theorem rm_mX7_change_mX7_clashes : Rm mX7_change mX7_clashes := ⟨rfl, rfl, by decide, by decide⟩
theorem rm_mX7_change_mX7_isRow : Rm mX7_change mX7_isRow := ⟨rfl, rfl, by decide, by decide⟩
theorem rm_mX7_change_mX7_note : Rm mX7_change mX7_note := ⟨rfl, rfl, by decide, by decide⟩
theorem rm_mX7_change_mX7_writeDown : Rm mX7_change mX7_writeDown := ⟨rfl, rfl, by decide, by decide⟩
theorem rm_mX7_checkpoint_mX7_writeBlocks : Rm mX7_checkpoint mX7_writeBlocks := ⟨rfl, rfl, by decide, by decide⟩
theorem rm_mX7_closeSlot_mX7_copySlot : Rm mX7_closeSlot mX7_copySlot := ⟨rfl, rfl, by decide, by decide⟩
theorem rm_mX7_comes_mX7_copySlot : Rm mX7_comes mX7_copySlot := ⟨rfl, rfl, by decide, by decide⟩
theorem rm_mX7_comes_mX7_descend : Rm mX7_comes mX7_descend := ⟨rfl, rfl, by decide, by decide⟩
theorem rm_mX7_comes_mX7_isBefore : Rm mX7_comes mX7_isBefore := ⟨rfl, rfl, by decide, by decide⟩
theorem rm_mX7_comes_mX7_newNode : Rm mX7_comes mX7_newNode := ⟨rfl, rfl, by decide, by decide⟩
theorem rm_mX7_comes_mX7_openSlot : Rm mX7_comes mX7_openSlot := ⟨rfl, rfl, by decide, by decide⟩
theorem rm_mX7_cut_mX7_in : Rm mX7_cut mX7_in := ⟨rfl, rfl, by decide, by decide⟩
theorem rm_mX7_descend_mX7_firstLeaf : Rm mX7_descend mX7_firstLeaf := ⟨rfl, rfl, by decide, by decide⟩
theorem rm_mX7_descend_mX7_isBefore : Rm mX7_descend mX7_isBefore := ⟨rfl, rfl, by decide, by decide⟩
theorem rm_mX7_drop_mX7_checkpoint : Rm mX7_drop mX7_checkpoint := ⟨rfl, rfl, by decide, by decide⟩
theorem rm_mX7_drop_mX7_forget : Rm mX7_drop mX7_forget := ⟨rfl, rfl, by decide, by decide⟩
theorem rm_mX7_entries_mX7_goThrough : Rm mX7_entries mX7_goThrough := ⟨rfl, rfl, by decide, by decide⟩
theorem rm_mX7_entry_mX7_slotOf : Rm mX7_entry mX7_slotOf := ⟨rfl, rfl, by decide, by decide⟩
theorem rm_mX7_findClash_mX7_stop : Rm mX7_findClash mX7_stop := ⟨rfl, rfl, by decide, by decide⟩
theorem rm_mX7_goes_mX7_closeSlot : Rm mX7_goes mX7_closeSlot := ⟨rfl, rfl, by decide, by decide⟩
theorem rm_mX7_goes_mX7_descend : Rm mX7_goes mX7_descend := ⟨rfl, rfl, by decide, by decide⟩
theorem rm_mX7_goes_mX7_giveBack : Rm mX7_goes mX7_giveBack := ⟨rfl, rfl, by decide, by decide⟩
theorem rm_mX7_info_mX7_entries : Rm mX7_info mX7_entries := ⟨rfl, rfl, by decide, by decide⟩
theorem rm_mX7_info_mX7_height : Rm mX7_info mX7_height := ⟨rfl, rfl, by decide, by decide⟩
theorem rm_mX7_info_mX7_in : Rm mX7_info mX7_in := ⟨rfl, rfl, by decide, by decide⟩
theorem rm_mX7_info_mX7_runFrom : Rm mX7_info mX7_runFrom := ⟨rfl, rfl, by decide, by decide⟩
theorem rm_mX7_isRow_mX7_in : Rm mX7_isRow mX7_in := ⟨rfl, rfl, by decide, by decide⟩
theorem rm_mX7_leaf_mX7_slotOf : Rm mX7_leaf mX7_slotOf := ⟨rfl, rfl, by decide, by decide⟩
theorem rm_mX7_loadStep_mX7_block : Rm mX7_loadStep mX7_block := ⟨rfl, rfl, by decide, by decide⟩
theorem rm_mX7_loadStep_mX7_newNode : Rm mX7_loadStep mX7_newNode := ⟨rfl, rfl, by decide, by decide⟩
theorem rm_mX7_loadStep_mX7_stop : Rm mX7_loadStep mX7_stop := ⟨rfl, rfl, by decide, by decide⟩
theorem rm_mX7_mergeStep_mX7_sort : Rm mX7_mergeStep mX7_sort := ⟨rfl, rfl, by decide, by decide⟩
theorem rm_mX7_mergeStep_mX7_writeBlocks : Rm mX7_mergeStep mX7_writeBlocks := ⟨rfl, rfl, by decide, by decide⟩
theorem rm_mX7_note_mX7_comes : Rm mX7_note mX7_comes := ⟨rfl, rfl, by decide, by decide⟩
theorem rm_mX7_note_mX7_goes : Rm mX7_note mX7_goes := ⟨rfl, rfl, by decide, by decide⟩
theorem rm_mX7_note_mX7_in : Rm mX7_note mX7_in := ⟨rfl, rfl, by decide, by decide⟩
theorem rm_mX7_note_mX7_stop : Rm mX7_note mX7_stop := ⟨rfl, rfl, by decide, by decide⟩
theorem rm_mX7_openSlot_mX7_copySlot : Rm mX7_openSlot mX7_copySlot := ⟨rfl, rfl, by decide, by decide⟩
theorem rm_mX7_remove_mX7_isRow : Rm mX7_remove mX7_isRow := ⟨rfl, rfl, by decide, by decide⟩
theorem rm_mX7_remove_mX7_note : Rm mX7_remove mX7_note := ⟨rfl, rfl, by decide, by decide⟩
theorem rm_mX7_remove_mX7_writeDown : Rm mX7_remove mX7_writeDown := ⟨rfl, rfl, by decide, by decide⟩
theorem rm_mX7_row_mX7_isRow : Rm mX7_row mX7_isRow := ⟨rfl, rfl, by decide, by decide⟩
theorem rm_mX7_rows_mX7_rowCount : Rm mX7_rows mX7_rowCount := ⟨rfl, rfl, by decide, by decide⟩
theorem rm_mX7_scanStep_mX7_runFrom : Rm mX7_scanStep mX7_runFrom := ⟨rfl, rfl, by decide, by decide⟩
theorem rm_mX7_scanStep_mX7_sort : Rm mX7_scanStep mX7_sort := ⟨rfl, rfl, by decide, by decide⟩
theorem rm_mX7_scanStep_mX7_writeBlocks : Rm mX7_scanStep mX7_writeBlocks := ⟨rfl, rfl, by decide, by decide⟩
theorem rm_mX7_slotOf_mX7_goThrough : Rm mX7_slotOf mX7_goThrough := ⟨rfl, rfl, by decide, by decide⟩
theorem rm_mX7_sort_mX7_isBefore : Rm mX7_sort mX7_isBefore := ⟨rfl, rfl, by decide, by decide⟩
theorem rm_mX7_start_mX7_rowCount : Rm mX7_start mX7_rowCount := ⟨rfl, rfl, by decide, by decide⟩
theorem rm_mX7_step_mX7_catchStep : Rm mX7_step mX7_catchStep := ⟨rfl, rfl, by decide, by decide⟩
theorem rm_mX7_step_mX7_in : Rm mX7_step mX7_in := ⟨rfl, rfl, by decide, by decide⟩
theorem rm_mX7_step_mX7_loadStep : Rm mX7_step mX7_loadStep := ⟨rfl, rfl, by decide, by decide⟩
theorem rm_mX7_step_mX7_mergeStep : Rm mX7_step mX7_mergeStep := ⟨rfl, rfl, by decide, by decide⟩
theorem rm_mX7_step_mX7_scanStep : Rm mX7_step mX7_scanStep := ⟨rfl, rfl, by decide, by decide⟩
theorem rm_mX7_stop_mX7_forget : Rm mX7_stop mX7_forget := ⟨rfl, rfl, by decide, by decide⟩
theorem rm_mX7_writeBlocks_mX7_block : Rm mX7_writeBlocks mX7_block := ⟨rfl, rfl, by decide, by decide⟩
theorem rm_mX7_writeDown_mX7_block : Rm mX7_writeDown mX7_block := ⟨rfl, rfl, by decide, by decide⟩
theorem rm_mX7_writeDown_mX7_checkpoint : Rm mX7_writeDown mX7_checkpoint := ⟨rfl, rfl, by decide, by decide⟩
theorem rm_mX7_writeDown_mX7_dirtyNodes : Rm mX7_writeDown mX7_dirtyNodes := ⟨rfl, rfl, by decide, by decide⟩
theorem rc_mX3_closeRun : Rc mX3_closeRun := ⟨by decide, by decide⟩
theorem rc_mX3_mergeFirstTwo : Rc mX3_mergeFirstTwo := ⟨by decide, by decide⟩
theorem rc_mX5_listRowBelow : Rc mX5_listRowBelow := ⟨by decide, by decide⟩
end
