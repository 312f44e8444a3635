section
-- ===== PART A: goes FIRST, ahead of the names: the tables' words, and 'selects' of the private methods out of them =====
/-- a private method of a class that the tables say can be made, by its rows of tables_1 -/
def lw_okq (q : MethodName × Nat) : Prop := (q.1.cls ≠ "java/lang/invoke/MethodHandle" ∧ q.1.cls ≠ "java/lang/invoke/VarHandle") ∧ Cond.instantiable q.1.cls q.2 ∈ tables_1 ∧ Cond.privateMethod q.1 ∈ tables_1 ∧ Cond.instanceMethod q.1 ∈ tables_1
theorem lw_p0 : lw_okq (⟨"LockedCarts", "freshTrial", "()LLockedCarts$Race;"⟩, 7) := ⟨⟨by decide +kernel, by decide +kernel⟩, List.mem_of_getElem? (i := 18) (by decide +kernel), List.mem_of_getElem? (i := 311) (by decide +kernel), List.mem_of_getElem? (i := 312) (by decide +kernel)⟩
theorem lw_p1 : lw_okq (⟨"LockedCarts", "keep", "(I)I"⟩, 7) := ⟨⟨by decide +kernel, by decide +kernel⟩, List.mem_of_getElem? (i := 18) (by decide +kernel), List.mem_of_getElem? (i := 347) (by decide +kernel), List.mem_of_getElem? (i := 348) (by decide +kernel)⟩
theorem lw_p2 : lw_okq (⟨"LockedCarts$History", "dropOldest", "()V"⟩, 2) := ⟨⟨by decide +kernel, by decide +kernel⟩, List.mem_of_getElem? (i := 151) (by decide +kernel), List.mem_of_getElem? (i := 358) (by decide +kernel), List.mem_of_getElem? (i := 359) (by decide +kernel)⟩
theorem lw_p3 : lw_okq (⟨"LockedCarts$Board", "flipSide", "(II)V"⟩, 4) := ⟨⟨by decide +kernel, by decide +kernel⟩, List.mem_of_getElem? (i := 32) (by decide +kernel), List.mem_of_getElem? (i := 378) (by decide +kernel), List.mem_of_getElem? (i := 379) (by decide +kernel)⟩
theorem lw_p4 : lw_okq (⟨"LockedCarts$Cards", "insert", "(LLockedCarts$Race;II)V"⟩, 2) := ⟨⟨by decide +kernel, by decide +kernel⟩, List.mem_of_getElem? (i := 174) (by decide +kernel), List.mem_of_getElem? (i := 499) (by decide +kernel), List.mem_of_getElem? (i := 500) (by decide +kernel)⟩
theorem lw_p5 : lw_okq (⟨"LockedCarts$Cards", "step", "(LLockedCarts$Race;II)Z"⟩, 2) := ⟨⟨by decide +kernel, by decide +kernel⟩, List.mem_of_getElem? (i := 174) (by decide +kernel), List.mem_of_getElem? (i := 508) (by decide +kernel), List.mem_of_getElem? (i := 509) (by decide +kernel)⟩
theorem lw_p6 : lw_okq (⟨"LockedCarts$Belts", "askAll", "(LLockedCarts$Race;)V"⟩, 3) := ⟨⟨by decide +kernel, by decide +kernel⟩, List.mem_of_getElem? (i := 188) (by decide +kernel), List.mem_of_getElem? (i := 528) (by decide +kernel), List.mem_of_getElem? (i := 529) (by decide +kernel)⟩
theorem lw_p7 : lw_okq (⟨"LockedCarts$Belts", "isHindered", "(LLockedCarts$Race;I)Z"⟩, 3) := ⟨⟨by decide +kernel, by decide +kernel⟩, List.mem_of_getElem? (i := 188) (by decide +kernel), List.mem_of_getElem? (i := 538) (by decide +kernel), List.mem_of_getElem? (i := 539) (by decide +kernel)⟩
theorem lw_p8 : lw_okq (⟨"LockedCarts$Belts", "isBlocked", "(LLockedCarts$Race;I)Z"⟩, 3) := ⟨⟨by decide +kernel, by decide +kernel⟩, List.mem_of_getElem? (i := 188) (by decide +kernel), List.mem_of_getElem? (i := 542) (by decide +kernel), List.mem_of_getElem? (i := 543) (by decide +kernel)⟩
theorem lw_p9 : lw_okq (⟨"LockedCarts$Race", "cellToComeBack", "(I)I"⟩, 8) := ⟨⟨by decide +kernel, by decide +kernel⟩, List.mem_of_getElem? (i := 26) (by decide +kernel), List.mem_of_getElem? (i := 581) (by decide +kernel), List.mem_of_getElem? (i := 582) (by decide +kernel)⟩
theorem lw_p10 : lw_okq (⟨"LockedCarts", "distanceBehind", "(IIII)I"⟩, 7) := ⟨⟨by decide +kernel, by decide +kernel⟩, List.mem_of_getElem? (i := 18) (by decide +kernel), List.mem_of_getElem? (i := 659) (by decide +kernel), List.mem_of_getElem? (i := 660) (by decide +kernel)⟩
theorem lw_p11 : lw_okq (⟨"LockedCarts$Ways", "reach", "(II)V"⟩, 3) := ⟨⟨by decide +kernel, by decide +kernel⟩, List.mem_of_getElem? (i := 212) (by decide +kernel), List.mem_of_getElem? (i := 681) (by decide +kernel), List.mem_of_getElem? (i := 682) (by decide +kernel)⟩
theorem lw_p12 : lw_okq (⟨"LockedCarts$Ways", "reachAround", "(LLockedCarts$Board;I)V"⟩, 3) := ⟨⟨by decide +kernel, by decide +kernel⟩, List.mem_of_getElem? (i := 212) (by decide +kernel), List.mem_of_getElem? (i := 685) (by decide +kernel), List.mem_of_getElem? (i := 686) (by decide +kernel)⟩
theorem lw_p13 : lw_okq (⟨"LockedCarts$OrderText", "take", "(C)Z"⟩, 5) := ⟨⟨by decide +kernel, by decide +kernel⟩, List.mem_of_getElem? (i := 228) (by decide +kernel), List.mem_of_getElem? (i := 741) (by decide +kernel), List.mem_of_getElem? (i := 742) (by decide +kernel)⟩
theorem lw_p14 : lw_okq (⟨"LockedCarts$OrderText", "takeNumber", "(I)Z"⟩, 5) := ⟨⟨by decide +kernel, by decide +kernel⟩, List.mem_of_getElem? (i := 228) (by decide +kernel), List.mem_of_getElem? (i := 745) (by decide +kernel), List.mem_of_getElem? (i := 746) (by decide +kernel)⟩
theorem lw_p15 : lw_okq (⟨"LockedCarts$OrderRunner", "obey", "(LLockedCarts$Race;[I)I"⟩, 6) := ⟨⟨by decide +kernel, by decide +kernel⟩, List.mem_of_getElem? (i := 256) (by decide +kernel), List.mem_of_getElem? (i := 749) (by decide +kernel), List.mem_of_getElem? (i := 750) (by decide +kernel)⟩
def lw_privs_1 : List (MethodName × Nat) := [(⟨"LockedCarts", "freshTrial", "()LLockedCarts$Race;"⟩, 7), (⟨"LockedCarts", "keep", "(I)I"⟩, 7), (⟨"LockedCarts$History", "dropOldest", "()V"⟩, 2), (⟨"LockedCarts$Board", "flipSide", "(II)V"⟩, 4), (⟨"LockedCarts$Cards", "insert", "(LLockedCarts$Race;II)V"⟩, 2), (⟨"LockedCarts$Cards", "step", "(LLockedCarts$Race;II)Z"⟩, 2), (⟨"LockedCarts$Belts", "askAll", "(LLockedCarts$Race;)V"⟩, 3), (⟨"LockedCarts$Belts", "isHindered", "(LLockedCarts$Race;I)Z"⟩, 3), (⟨"LockedCarts$Belts", "isBlocked", "(LLockedCarts$Race;I)Z"⟩, 3), (⟨"LockedCarts$Race", "cellToComeBack", "(I)I"⟩, 8), (⟨"LockedCarts", "distanceBehind", "(IIII)I"⟩, 7), (⟨"LockedCarts$Ways", "reach", "(II)V"⟩, 3), (⟨"LockedCarts$Ways", "reachAround", "(LLockedCarts$Board;I)V"⟩, 3), (⟨"LockedCarts$OrderText", "take", "(C)Z"⟩, 5), (⟨"LockedCarts$OrderText", "takeNumber", "(I)Z"⟩, 5), (⟨"LockedCarts$OrderRunner", "obey", "(LLockedCarts$Race;[I)I"⟩, 6)]
theorem lw_r1 : ∀ q ∈ lw_privs_1, lw_okq q := List.forall_mem_cons.mpr ⟨lw_p0, List.forall_mem_cons.mpr ⟨lw_p1, List.forall_mem_cons.mpr ⟨lw_p2, List.forall_mem_cons.mpr ⟨lw_p3, List.forall_mem_cons.mpr ⟨lw_p4, List.forall_mem_cons.mpr ⟨lw_p5, List.forall_mem_cons.mpr ⟨lw_p6, List.forall_mem_cons.mpr ⟨lw_p7, List.forall_mem_cons.mpr ⟨lw_p8, List.forall_mem_cons.mpr ⟨lw_p9, List.forall_mem_cons.mpr ⟨lw_p10, List.forall_mem_cons.mpr ⟨lw_p11, List.forall_mem_cons.mpr ⟨lw_p12, List.forall_mem_cons.mpr ⟨lw_p13, List.forall_mem_cons.mpr ⟨lw_p14, List.forall_mem_cons.mpr ⟨lw_p15, fun _ h => absurd h List.not_mem_nil⟩⟩⟩⟩⟩⟩⟩⟩⟩⟩⟩⟩⟩⟩⟩⟩
theorem lw_p16 : lw_okq (⟨"LockedCartsModel", "begins", "()V"⟩, 19) := ⟨⟨by decide +kernel, by decide +kernel⟩, List.mem_of_getElem? (i := 764) (by decide +kernel), List.mem_of_getElem? (i := 832) (by decide +kernel), List.mem_of_getElem? (i := 833) (by decide +kernel)⟩
theorem lw_p17 : lw_okq (⟨"LockedCartsModel", "kinds", "(II)I"⟩, 19) := ⟨⟨by decide +kernel, by decide +kernel⟩, List.mem_of_getElem? (i := 764) (by decide +kernel), List.mem_of_getElem? (i := 836) (by decide +kernel), List.mem_of_getElem? (i := 837) (by decide +kernel)⟩
theorem lw_p18 : lw_okq (⟨"LockedCartsModel", "cartOn", "(I)I"⟩, 19) := ⟨⟨by decide +kernel, by decide +kernel⟩, List.mem_of_getElem? (i := 764) (by decide +kernel), List.mem_of_getElem? (i := 847) (by decide +kernel), List.mem_of_getElem? (i := 848) (by decide +kernel)⟩
theorem lw_p19 : lw_okq (⟨"LockedCartsModel", "of", "(II)I"⟩, 19) := ⟨⟨by decide +kernel, by decide +kernel⟩, List.mem_of_getElem? (i := 764) (by decide +kernel), List.mem_of_getElem? (i := 851) (by decide +kernel), List.mem_of_getElem? (i := 852) (by decide +kernel)⟩
theorem lw_p20 : lw_okq (⟨"LockedCartsModel", "acted", "(I)I"⟩, 19) := ⟨⟨by decide +kernel, by decide +kernel⟩, List.mem_of_getElem? (i := 764) (by decide +kernel), List.mem_of_getElem? (i := 856) (by decide +kernel), List.mem_of_getElem? (i := 857) (by decide +kernel)⟩
theorem lw_p21 : lw_okq (⟨"LockedCartsModel", "returns", "()V"⟩, 19) := ⟨⟨by decide +kernel, by decide +kernel⟩, List.mem_of_getElem? (i := 764) (by decide +kernel), List.mem_of_getElem? (i := 860) (by decide +kernel), List.mem_of_getElem? (i := 861) (by decide +kernel)⟩
theorem lw_p22 : lw_okq (⟨"LockedCartsModel", "walls", "(II)I"⟩, 19) := ⟨⟨by decide +kernel, by decide +kernel⟩, List.mem_of_getElem? (i := 764) (by decide +kernel), List.mem_of_getElem? (i := 868) (by decide +kernel), List.mem_of_getElem? (i := 869) (by decide +kernel)⟩
theorem lw_p23 : lw_okq (⟨"LockedCartsModel", "comes", "(II)I"⟩, 19) := ⟨⟨by decide +kernel, by decide +kernel⟩, List.mem_of_getElem? (i := 764) (by decide +kernel), List.mem_of_getElem? (i := 883) (by decide +kernel), List.mem_of_getElem? (i := 884) (by decide +kernel)⟩
theorem lw_p24 : lw_okq (⟨"LockedCartsModel", "isGood", "(I)Z"⟩, 19) := ⟨⟨by decide +kernel, by decide +kernel⟩, List.mem_of_getElem? (i := 764) (by decide +kernel), List.mem_of_getElem? (i := 887) (by decide +kernel), List.mem_of_getElem? (i := 888) (by decide +kernel)⟩
theorem lw_p25 : lw_okq (⟨"LockedCartsModel", "lays", "(III)V"⟩, 19) := ⟨⟨by decide +kernel, by decide +kernel⟩, List.mem_of_getElem? (i := 764) (by decide +kernel), List.mem_of_getElem? (i := 892) (by decide +kernel), List.mem_of_getElem? (i := 893) (by decide +kernel)⟩
theorem lw_p26 : lw_okq (⟨"LockedCartsModel", "cards", "(IIII)I"⟩, 19) := ⟨⟨by decide +kernel, by decide +kernel⟩, List.mem_of_getElem? (i := 764) (by decide +kernel), List.mem_of_getElem? (i := 900) (by decide +kernel), List.mem_of_getElem? (i := 901) (by decide +kernel)⟩
theorem lw_p27 : lw_okq (⟨"LockedCartsModel", "isCart", "(I)Z"⟩, 19) := ⟨⟨by decide +kernel, by decide +kernel⟩, List.mem_of_getElem? (i := 764) (by decide +kernel), List.mem_of_getElem? (i := 904) (by decide +kernel), List.mem_of_getElem? (i := 905) (by decide +kernel)⟩
theorem lw_p28 : lw_okq (⟨"LockedCartsModel", "isOut", "(I)Z"⟩, 19) := ⟨⟨by decide +kernel, by decide +kernel⟩, List.mem_of_getElem? (i := 764) (by decide +kernel), List.mem_of_getElem? (i := 908) (by decide +kernel), List.mem_of_getElem? (i := 909) (by decide +kernel)⟩
theorem lw_p29 : lw_okq (⟨"LockedCartsModel", "isLocked", "(II)Z"⟩, 19) := ⟨⟨by decide +kernel, by decide +kernel⟩, List.mem_of_getElem? (i := 764) (by decide +kernel), List.mem_of_getElem? (i := 912) (by decide +kernel), List.mem_of_getElem? (i := 913) (by decide +kernel)⟩
theorem lw_p30 : lw_okq (⟨"LockedCartsModel", "withCards", "(I)I"⟩, 19) := ⟨⟨by decide +kernel, by decide +kernel⟩, List.mem_of_getElem? (i := 764) (by decide +kernel), List.mem_of_getElem? (i := 916) (by decide +kernel), List.mem_of_getElem? (i := 917) (by decide +kernel)⟩
theorem lw_p31 : lw_okq (⟨"LockedCartsModel", "rank", "(II)I"⟩, 19) := ⟨⟨by decide +kernel, by decide +kernel⟩, List.mem_of_getElem? (i := 764) (by decide +kernel), List.mem_of_getElem? (i := 920) (by decide +kernel), List.mem_of_getElem? (i := 921) (by decide +kernel)⟩
def lw_privs_2 : List (MethodName × Nat) := [(⟨"LockedCartsModel", "begins", "()V"⟩, 19), (⟨"LockedCartsModel", "kinds", "(II)I"⟩, 19), (⟨"LockedCartsModel", "cartOn", "(I)I"⟩, 19), (⟨"LockedCartsModel", "of", "(II)I"⟩, 19), (⟨"LockedCartsModel", "acted", "(I)I"⟩, 19), (⟨"LockedCartsModel", "returns", "()V"⟩, 19), (⟨"LockedCartsModel", "walls", "(II)I"⟩, 19), (⟨"LockedCartsModel", "comes", "(II)I"⟩, 19), (⟨"LockedCartsModel", "isGood", "(I)Z"⟩, 19), (⟨"LockedCartsModel", "lays", "(III)V"⟩, 19), (⟨"LockedCartsModel", "cards", "(IIII)I"⟩, 19), (⟨"LockedCartsModel", "isCart", "(I)Z"⟩, 19), (⟨"LockedCartsModel", "isOut", "(I)Z"⟩, 19), (⟨"LockedCartsModel", "isLocked", "(II)Z"⟩, 19), (⟨"LockedCartsModel", "withCards", "(I)I"⟩, 19), (⟨"LockedCartsModel", "rank", "(II)I"⟩, 19)]
theorem lw_r2 : ∀ q ∈ lw_privs_2, lw_okq q := List.forall_mem_cons.mpr ⟨lw_p16, List.forall_mem_cons.mpr ⟨lw_p17, List.forall_mem_cons.mpr ⟨lw_p18, List.forall_mem_cons.mpr ⟨lw_p19, List.forall_mem_cons.mpr ⟨lw_p20, List.forall_mem_cons.mpr ⟨lw_p21, List.forall_mem_cons.mpr ⟨lw_p22, List.forall_mem_cons.mpr ⟨lw_p23, List.forall_mem_cons.mpr ⟨lw_p24, List.forall_mem_cons.mpr ⟨lw_p25, List.forall_mem_cons.mpr ⟨lw_p26, List.forall_mem_cons.mpr ⟨lw_p27, List.forall_mem_cons.mpr ⟨lw_p28, List.forall_mem_cons.mpr ⟨lw_p29, List.forall_mem_cons.mpr ⟨lw_p30, List.forall_mem_cons.mpr ⟨lw_p31, fun _ h => absurd h List.not_mem_nil⟩⟩⟩⟩⟩⟩⟩⟩⟩⟩⟩⟩⟩⟩⟩⟩
theorem lw_p32 : lw_okq (⟨"LockedCartsModel", "phases", "()I"⟩, 19) := ⟨⟨by decide +kernel, by decide +kernel⟩, List.mem_of_getElem? (i := 764) (by decide +kernel), List.mem_of_getElem? (i := 935) (by decide +kernel), List.mem_of_getElem? (i := 936) (by decide +kernel)⟩
theorem lw_p33 : lw_okq (⟨"LockedCartsModel", "passes", "()I"⟩, 19) := ⟨⟨by decide +kernel, by decide +kernel⟩, List.mem_of_getElem? (i := 764) (by decide +kernel), List.mem_of_getElem? (i := 939) (by decide +kernel), List.mem_of_getElem? (i := 940) (by decide +kernel)⟩
theorem lw_p34 : lw_okq (⟨"LockedCartsModel", "outs", "()I"⟩, 19) := ⟨⟨by decide +kernel, by decide +kernel⟩, List.mem_of_getElem? (i := 764) (by decide +kernel), List.mem_of_getElem? (i := 943) (by decide +kernel), List.mem_of_getElem? (i := 944) (by decide +kernel)⟩
theorem lw_p35 : lw_okq (⟨"LockedCartsModel", "orders", "()V"⟩, 19) := ⟨⟨by decide +kernel, by decide +kernel⟩, List.mem_of_getElem? (i := 764) (by decide +kernel), List.mem_of_getElem? (i := 947) (by decide +kernel), List.mem_of_getElem? (i := 948) (by decide +kernel)⟩
theorem lw_p36 : lw_okq (⟨"LockedCartsModel", "does", "(II)V"⟩, 19) := ⟨⟨by decide +kernel, by decide +kernel⟩, List.mem_of_getElem? (i := 764) (by decide +kernel), List.mem_of_getElem? (i := 951) (by decide +kernel), List.mem_of_getElem? (i := 952) (by decide +kernel)⟩
theorem lw_p37 : lw_okq (⟨"LockedCartsModel", "drives", "(III)V"⟩, 19) := ⟨⟨by decide +kernel, by decide +kernel⟩, List.mem_of_getElem? (i := 764) (by decide +kernel), List.mem_of_getElem? (i := 955) (by decide +kernel), List.mem_of_getElem? (i := 956) (by decide +kernel)⟩
theorem lw_p38 : lw_okq (⟨"LockedCartsModel", "steps1", "(II)Z"⟩, 19) := ⟨⟨by decide +kernel, by decide +kernel⟩, List.mem_of_getElem? (i := 764) (by decide +kernel), List.mem_of_getElem? (i := 959) (by decide +kernel), List.mem_of_getElem? (i := 960) (by decide +kernel)⟩
theorem lw_p39 : lw_okq (⟨"LockedCartsModel", "isWall", "(II)Z"⟩, 19) := ⟨⟨by decide +kernel, by decide +kernel⟩, List.mem_of_getElem? (i := 764) (by decide +kernel), List.mem_of_getElem? (i := 963) (by decide +kernel), List.mem_of_getElem? (i := 964) (by decide +kernel)⟩
theorem lw_p40 : lw_okq (⟨"LockedCartsModel", "comesTo", "(II)V"⟩, 19) := ⟨⟨by decide +kernel, by decide +kernel⟩, List.mem_of_getElem? (i := 764) (by decide +kernel), List.mem_of_getElem? (i := 967) (by decide +kernel), List.mem_of_getElem? (i := 968) (by decide +kernel)⟩
theorem lw_p41 : lw_okq (⟨"LockedCartsModel", "goesOut", "(I)V"⟩, 19) := ⟨⟨by decide +kernel, by decide +kernel⟩, List.mem_of_getElem? (i := 764) (by decide +kernel), List.mem_of_getElem? (i := 971) (by decide +kernel), List.mem_of_getElem? (i := 972) (by decide +kernel)⟩
theorem lw_p42 : lw_okq (⟨"LockedCartsModel", "more", "(II)V"⟩, 19) := ⟨⟨by decide +kernel, by decide +kernel⟩, List.mem_of_getElem? (i := 764) (by decide +kernel), List.mem_of_getElem? (i := 975) (by decide +kernel), List.mem_of_getElem? (i := 976) (by decide +kernel)⟩
theorem lw_p43 : lw_okq (⟨"LockedCartsModel", "turns", "(II)V"⟩, 19) := ⟨⟨by decide +kernel, by decide +kernel⟩, List.mem_of_getElem? (i := 764) (by decide +kernel), List.mem_of_getElem? (i := 979) (by decide +kernel), List.mem_of_getElem? (i := 980) (by decide +kernel)⟩
theorem lw_p44 : lw_okq (⟨"LockedCartsModel", "belts", "()V"⟩, 19) := ⟨⟨by decide +kernel, by decide +kernel⟩, List.mem_of_getElem? (i := 764) (by decide +kernel), List.mem_of_getElem? (i := 983) (by decide +kernel), List.mem_of_getElem? (i := 984) (by decide +kernel)⟩
theorem lw_p45 : lw_okq (⟨"LockedCartsModel", "isOnBelt", "(I)Z"⟩, 19) := ⟨⟨by decide +kernel, by decide +kernel⟩, List.mem_of_getElem? (i := 764) (by decide +kernel), List.mem_of_getElem? (i := 987) (by decide +kernel), List.mem_of_getElem? (i := 988) (by decide +kernel)⟩
theorem lw_p46 : lw_okq (⟨"LockedCartsModel", "wants", "(I)I"⟩, 19) := ⟨⟨by decide +kernel, by decide +kernel⟩, List.mem_of_getElem? (i := 764) (by decide +kernel), List.mem_of_getElem? (i := 991) (by decide +kernel), List.mem_of_getElem? (i := 992) (by decide +kernel)⟩
theorem lw_p47 : lw_okq (⟨"LockedCartsModel", "stays", "(I)Z"⟩, 19) := ⟨⟨by decide +kernel, by decide +kernel⟩, List.mem_of_getElem? (i := 764) (by decide +kernel), List.mem_of_getElem? (i := 995) (by decide +kernel), List.mem_of_getElem? (i := 996) (by decide +kernel)⟩
def lw_privs_3 : List (MethodName × Nat) := [(⟨"LockedCartsModel", "phases", "()I"⟩, 19), (⟨"LockedCartsModel", "passes", "()I"⟩, 19), (⟨"LockedCartsModel", "outs", "()I"⟩, 19), (⟨"LockedCartsModel", "orders", "()V"⟩, 19), (⟨"LockedCartsModel", "does", "(II)V"⟩, 19), (⟨"LockedCartsModel", "drives", "(III)V"⟩, 19), (⟨"LockedCartsModel", "steps1", "(II)Z"⟩, 19), (⟨"LockedCartsModel", "isWall", "(II)Z"⟩, 19), (⟨"LockedCartsModel", "comesTo", "(II)V"⟩, 19), (⟨"LockedCartsModel", "goesOut", "(I)V"⟩, 19), (⟨"LockedCartsModel", "more", "(II)V"⟩, 19), (⟨"LockedCartsModel", "turns", "(II)V"⟩, 19), (⟨"LockedCartsModel", "belts", "()V"⟩, 19), (⟨"LockedCartsModel", "isOnBelt", "(I)Z"⟩, 19), (⟨"LockedCartsModel", "wants", "(I)I"⟩, 19), (⟨"LockedCartsModel", "stays", "(I)Z"⟩, 19)]
theorem lw_r3 : ∀ q ∈ lw_privs_3, lw_okq q := List.forall_mem_cons.mpr ⟨lw_p32, List.forall_mem_cons.mpr ⟨lw_p33, List.forall_mem_cons.mpr ⟨lw_p34, List.forall_mem_cons.mpr ⟨lw_p35, List.forall_mem_cons.mpr ⟨lw_p36, List.forall_mem_cons.mpr ⟨lw_p37, List.forall_mem_cons.mpr ⟨lw_p38, List.forall_mem_cons.mpr ⟨lw_p39, List.forall_mem_cons.mpr ⟨lw_p40, List.forall_mem_cons.mpr ⟨lw_p41, List.forall_mem_cons.mpr ⟨lw_p42, List.forall_mem_cons.mpr ⟨lw_p43, List.forall_mem_cons.mpr ⟨lw_p44, List.forall_mem_cons.mpr ⟨lw_p45, List.forall_mem_cons.mpr ⟨lw_p46, List.forall_mem_cons.mpr ⟨lw_p47, fun _ h => absurd h List.not_mem_nil⟩⟩⟩⟩⟩⟩⟩⟩⟩⟩⟩⟩⟩⟩⟩⟩
theorem lw_p48 : lw_okq (⟨"LockedCartsModel", "isInTheWay", "(IIZ)Z"⟩, 19) := ⟨⟨by decide +kernel, by decide +kernel⟩, List.mem_of_getElem? (i := 764) (by decide +kernel), List.mem_of_getElem? (i := 999) (by decide +kernel), List.mem_of_getElem? (i := 1000) (by decide +kernel)⟩
theorem lw_p49 : lw_okq (⟨"LockedCartsModel", "gears", "()V"⟩, 19) := ⟨⟨by decide +kernel, by decide +kernel⟩, List.mem_of_getElem? (i := 764) (by decide +kernel), List.mem_of_getElem? (i := 1003) (by decide +kernel), List.mem_of_getElem? (i := 1004) (by decide +kernel)⟩
theorem lw_p50 : lw_okq (⟨"LockedCartsModel", "touches", "()V"⟩, 19) := ⟨⟨by decide +kernel, by decide +kernel⟩, List.mem_of_getElem? (i := 764) (by decide +kernel), List.mem_of_getElem? (i := 1007) (by decide +kernel), List.mem_of_getElem? (i := 1008) (by decide +kernel)⟩
theorem lw_p51 : lw_okq (⟨"LockedCartsModel", "nextFlag", "(I)I"⟩, 19) := ⟨⟨by decide +kernel, by decide +kernel⟩, List.mem_of_getElem? (i := 764) (by decide +kernel), List.mem_of_getElem? (i := 1011) (by decide +kernel), List.mem_of_getElem? (i := 1012) (by decide +kernel)⟩
theorem lw_p52 : lw_okq (⟨"LockedCartsModel", "ends", "()V"⟩, 19) := ⟨⟨by decide +kernel, by decide +kernel⟩, List.mem_of_getElem? (i := 764) (by decide +kernel), List.mem_of_getElem? (i := 1015) (by decide +kernel), List.mem_of_getElem? (i := 1016) (by decide +kernel)⟩
theorem lw_p53 : lw_okq (⟨"LockedCartsModel", "empties", "(IZ)V"⟩, 19) := ⟨⟨by decide +kernel, by decide +kernel⟩, List.mem_of_getElem? (i := 764) (by decide +kernel), List.mem_of_getElem? (i := 1019) (by decide +kernel), List.mem_of_getElem? (i := 1020) (by decide +kernel)⟩
theorem lw_p54 : lw_okq (⟨"LockedCartsModel", "comesBack", "(I)V"⟩, 19) := ⟨⟨by decide +kernel, by decide +kernel⟩, List.mem_of_getElem? (i := 764) (by decide +kernel), List.mem_of_getElem? (i := 1023) (by decide +kernel), List.mem_of_getElem? (i := 1024) (by decide +kernel)⟩
theorem lw_p55 : lw_okq (⟨"LockedCartsModel", "flagOn", "(I)I"⟩, 19) := ⟨⟨by decide +kernel, by decide +kernel⟩, List.mem_of_getElem? (i := 764) (by decide +kernel), List.mem_of_getElem? (i := 1039) (by decide +kernel), List.mem_of_getElem? (i := 1040) (by decide +kernel)⟩
theorem lw_p56 : lw_okq (⟨"LockedCartsModel", "locked", "(I)I"⟩, 19) := ⟨⟨by decide +kernel, by decide +kernel⟩, List.mem_of_getElem? (i := 764) (by decide +kernel), List.mem_of_getElem? (i := 1047) (by decide +kernel), List.mem_of_getElem? (i := 1048) (by decide +kernel)⟩
theorem lw_p57 : lw_okq (⟨"LockedCartsModel", "putsAside", "()V"⟩, 19) := ⟨⟨by decide +kernel, by decide +kernel⟩, List.mem_of_getElem? (i := 764) (by decide +kernel), List.mem_of_getElem? (i := 1063) (by decide +kernel), List.mem_of_getElem? (i := 1064) (by decide +kernel)⟩
theorem lw_p58 : lw_okq (⟨"LockedCartsModel", "takesBack", "()V"⟩, 19) := ⟨⟨by decide +kernel, by decide +kernel⟩, List.mem_of_getElem? (i := 764) (by decide +kernel), List.mem_of_getElem? (i := 1068) (by decide +kernel), List.mem_of_getElem? (i := 1069) (by decide +kernel)⟩
theorem lw_p59 : lw_okq (⟨"LockedCartsModel", "farBy", "(IIII)I"⟩, 19) := ⟨⟨by decide +kernel, by decide +kernel⟩, List.mem_of_getElem? (i := 764) (by decide +kernel), List.mem_of_getElem? (i := 1076) (by decide +kernel), List.mem_of_getElem? (i := 1077) (by decide +kernel)⟩
theorem lw_p60 : lw_okq (⟨"LockedCartsModel", "spreads", "(I)Z"⟩, 19) := ⟨⟨by decide +kernel, by decide +kernel⟩, List.mem_of_getElem? (i := 764) (by decide +kernel), List.mem_of_getElem? (i := 1090) (by decide +kernel), List.mem_of_getElem? (i := 1091) (by decide +kernel)⟩
theorem lw_p61 : lw_okq (⟨"LockedCartsModel", "cartsOut", "()I"⟩, 19) := ⟨⟨by decide +kernel, by decide +kernel⟩, List.mem_of_getElem? (i := 764) (by decide +kernel), List.mem_of_getElem? (i := 1098) (by decide +kernel), List.mem_of_getElem? (i := 1099) (by decide +kernel)⟩
theorem lw_p62 : lw_okq (⟨"LockedCartsModel", "doesAll", "()Z"⟩, 19) := ⟨⟨by decide +kernel, by decide +kernel⟩, List.mem_of_getElem? (i := 764) (by decide +kernel), List.mem_of_getElem? (i := 1118) (by decide +kernel), List.mem_of_getElem? (i := 1119) (by decide +kernel)⟩
theorem lw_p63 : lw_okq (⟨"LockedCartsModel", "here", "()I"⟩, 19) := ⟨⟨by decide +kernel, by decide +kernel⟩, List.mem_of_getElem? (i := 764) (by decide +kernel), List.mem_of_getElem? (i := 1122) (by decide +kernel), List.mem_of_getElem? (i := 1123) (by decide +kernel)⟩
def lw_privs_4 : List (MethodName × Nat) := [(⟨"LockedCartsModel", "isInTheWay", "(IIZ)Z"⟩, 19), (⟨"LockedCartsModel", "gears", "()V"⟩, 19), (⟨"LockedCartsModel", "touches", "()V"⟩, 19), (⟨"LockedCartsModel", "nextFlag", "(I)I"⟩, 19), (⟨"LockedCartsModel", "ends", "()V"⟩, 19), (⟨"LockedCartsModel", "empties", "(IZ)V"⟩, 19), (⟨"LockedCartsModel", "comesBack", "(I)V"⟩, 19), (⟨"LockedCartsModel", "flagOn", "(I)I"⟩, 19), (⟨"LockedCartsModel", "locked", "(I)I"⟩, 19), (⟨"LockedCartsModel", "putsAside", "()V"⟩, 19), (⟨"LockedCartsModel", "takesBack", "()V"⟩, 19), (⟨"LockedCartsModel", "farBy", "(IIII)I"⟩, 19), (⟨"LockedCartsModel", "spreads", "(I)Z"⟩, 19), (⟨"LockedCartsModel", "cartsOut", "()I"⟩, 19), (⟨"LockedCartsModel", "doesAll", "()Z"⟩, 19), (⟨"LockedCartsModel", "here", "()I"⟩, 19)]
theorem lw_r4 : ∀ q ∈ lw_privs_4, lw_okq q := List.forall_mem_cons.mpr ⟨lw_p48, List.forall_mem_cons.mpr ⟨lw_p49, List.forall_mem_cons.mpr ⟨lw_p50, List.forall_mem_cons.mpr ⟨lw_p51, List.forall_mem_cons.mpr ⟨lw_p52, List.forall_mem_cons.mpr ⟨lw_p53, List.forall_mem_cons.mpr ⟨lw_p54, List.forall_mem_cons.mpr ⟨lw_p55, List.forall_mem_cons.mpr ⟨lw_p56, List.forall_mem_cons.mpr ⟨lw_p57, List.forall_mem_cons.mpr ⟨lw_p58, List.forall_mem_cons.mpr ⟨lw_p59, List.forall_mem_cons.mpr ⟨lw_p60, List.forall_mem_cons.mpr ⟨lw_p61, List.forall_mem_cons.mpr ⟨lw_p62, List.forall_mem_cons.mpr ⟨lw_p63, fun _ h => absurd h List.not_mem_nil⟩⟩⟩⟩⟩⟩⟩⟩⟩⟩⟩⟩⟩⟩⟩⟩
theorem lw_p64 : lw_okq (⟨"LockedCartsModel", "takesSign", "(I)V"⟩, 19) := ⟨⟨by decide +kernel, by decide +kernel⟩, List.mem_of_getElem? (i := 764) (by decide +kernel), List.mem_of_getElem? (i := 1129) (by decide +kernel), List.mem_of_getElem? (i := 1130) (by decide +kernel)⟩
theorem lw_p65 : lw_okq (⟨"LockedCartsModel", "number", "()I"⟩, 19) := ⟨⟨by decide +kernel, by decide +kernel⟩, List.mem_of_getElem? (i := 764) (by decide +kernel), List.mem_of_getElem? (i := 1133) (by decide +kernel), List.mem_of_getElem? (i := 1134) (by decide +kernel)⟩
theorem lw_p66 : lw_okq (⟨"LockedCartsModel", "isDigit", "()Z"⟩, 19) := ⟨⟨by decide +kernel, by decide +kernel⟩, List.mem_of_getElem? (i := 764) (by decide +kernel), List.mem_of_getElem? (i := 1137) (by decide +kernel), List.mem_of_getElem? (i := 1138) (by decide +kernel)⟩
theorem lw_p67 : lw_okq (⟨"LockedCartsModel", "called", "(I)I"⟩, 19) := ⟨⟨by decide +kernel, by decide +kernel⟩, List.mem_of_getElem? (i := 764) (by decide +kernel), List.mem_of_getElem? (i := 1141) (by decide +kernel), List.mem_of_getElem? (i := 1142) (by decide +kernel)⟩
def lw_privs_5 : List (MethodName × Nat) := [(⟨"LockedCartsModel", "takesSign", "(I)V"⟩, 19), (⟨"LockedCartsModel", "number", "()I"⟩, 19), (⟨"LockedCartsModel", "isDigit", "()Z"⟩, 19), (⟨"LockedCartsModel", "called", "(I)I"⟩, 19)]
theorem lw_r5 : ∀ q ∈ lw_privs_5, lw_okq q := List.forall_mem_cons.mpr ⟨lw_p64, List.forall_mem_cons.mpr ⟨lw_p65, List.forall_mem_cons.mpr ⟨lw_p66, List.forall_mem_cons.mpr ⟨lw_p67, fun _ h => absurd h List.not_mem_nil⟩⟩⟩⟩
def lw_privs : List (MethodName × Nat) := lw_privs_1 ++ (lw_privs_2 ++ (lw_privs_3 ++ (lw_privs_4 ++ (lw_privs_5))))
def lw_tbl : List Cond := k2_sels lw_privs ++ tables_1
theorem lw_privs_ok : ∀ q ∈ lw_privs, lw_okq q := by
  show ∀ q ∈ lw_privs_1 ++ (lw_privs_2 ++ (lw_privs_3 ++ (lw_privs_4 ++ (lw_privs_5)))), lw_okq q
  exact List.forall_mem_append.mpr ⟨lw_r1, List.forall_mem_append.mpr ⟨lw_r2, List.forall_mem_append.mpr ⟨lw_r3, List.forall_mem_append.mpr ⟨lw_r4, lw_r5⟩⟩⟩⟩
end
section
def RX0 : String := "LockedCarts$Belts"
def TX0 : u_T := fun k => match k with
  | 0 => ("LockedCarts$Belts", "onBelt", "[Z", true)
  | 1 => ("LockedCarts$Belts", "wanted", "[I", true)
  | _ => ("LockedCarts$Belts", "carried", "[Z", true)
def tyX0 : Nat → FieldType := fun k => match k with
  | 0 => .array .boolean
  | 1 => .array .int
  | _ => .array .boolean
abbrev wsX00 : List Cond := u_ws RX0 TX0 3
theorem nmX0 : ∀ a, a < 3 → ∀ b, b < 3 → a ≠ b → (TX0 a).2.1 ≠ (TX0 b).2.1 := by decide +kernel
theorem tyX0_ok : ∀ k, k < 3 → parseFieldDescriptor (TX0 k).2.2.1 = some (tyX0 k) := by decide +kernel
abbrev cX0_init : ByteArray := prog_2_method_1_code
def yX0_init : MethodName := ⟨RX0, "<init>", "()V"⟩
abbrev cX0_carry : ByteArray := prog_2_method_2_code
def yX0_carry : MethodName := ⟨RX0, "carry", "(LLockedCarts$Race;)V"⟩
abbrev cX0_askAll : ByteArray := prog_2_method_3_code
def yX0_askAll : MethodName := ⟨RX0, "askAll", "(LLockedCarts$Race;)V"⟩
abbrev cX0_isHindered : ByteArray := prog_2_method_4_code
def yX0_isHindered : MethodName := ⟨RX0, "isHindered", "(LLockedCarts$Race;I)Z"⟩
abbrev cX0_isBlocked : ByteArray := prog_2_method_5_code
def yX0_isBlocked : MethodName := ⟨RX0, "isBlocked", "(LLockedCarts$Race;I)Z"⟩
def RX1 : String := "LockedCarts$Board"
def TX1 : u_T := fun k => match k with
  | 0 => ("LockedCarts$Board", "kinds", "[I", true)
  | 1 => ("LockedCarts$Board", "walls", "[I", true)
  | 2 => ("LockedCarts$Board", "flags", "[I", true)
  | _ => ("LockedCarts$Board", "flagCount", "I", false)
def tyX1 : Nat → FieldType := fun k => match k with
  | 0 => .array .int
  | 1 => .array .int
  | 2 => .array .int
  | _ => .int
abbrev wsX10 : List Cond := u_ws RX1 TX1 4
theorem nmX1 : ∀ a, a < 4 → ∀ b, b < 4 → a ≠ b → (TX1 a).2.1 ≠ (TX1 b).2.1 := by decide +kernel
theorem tyX1_ok : ∀ k, k < 4 → parseFieldDescriptor (TX1 k).2.2.1 = some (tyX1 k) := by decide +kernel
abbrev cX1_init : ByteArray := prog_3_method_1_code
def yX1_init : MethodName := ⟨RX1, "<init>", "()V"⟩
abbrev cX1_copyFrom : ByteArray := prog_3_method_2_code
def yX1_copyFrom : MethodName := ⟨RX1, "copyFrom", "(LLockedCarts$Board;)V"⟩
abbrev cX1_kindOn : ByteArray := prog_3_method_3_code
def yX1_kindOn : MethodName := ⟨RX1, "kindOn", "(I)I"⟩
abbrev cX1_isPit : ByteArray := prog_3_method_4_code
def yX1_isPit : MethodName := ⟨RX1, "isPit", "(I)Z"⟩
abbrev cX1_wallsOf : ByteArray := prog_3_method_5_code
def yX1_wallsOf : MethodName := ⟨RX1, "wallsOf", "(I)I"⟩
abbrev cX1_hasWall : ByteArray := prog_3_method_6_code
def yX1_hasWall : MethodName := ⟨RX1, "hasWall", "(II)Z"⟩
abbrev cX1_flipWall : ByteArray := prog_3_method_7_code
def yX1_flipWall : MethodName := ⟨RX1, "flipWall", "(II)V"⟩
abbrev cX1_flipSide : ByteArray := prog_3_method_8_code
def yX1_flipSide : MethodName := ⟨RX1, "flipSide", "(II)V"⟩
abbrev cX1_lowestFlagOn : ByteArray := prog_3_method_9_code
def yX1_lowestFlagOn : MethodName := ⟨RX1, "lowestFlagOn", "(I)I"⟩
abbrev cX1_neighbour : ByteArray := prog_3_method_10_code
def yX1_neighbour : MethodName := ⟨RX1, "neighbour", "(II)I"⟩
abbrev cX1_distance : ByteArray := prog_3_method_11_code
def yX1_distance : MethodName := ⟨RX1, "distance", "(II)I"⟩
def RX2 : String := "LockedCarts$Cards"
def TX2 : u_T := fun k => match k with
  | 0 => ("LockedCarts$Cards", "order", "[I", true)
  | _ => ("LockedCarts$Cards", "chain", "[I", true)
def tyX2 : Nat → FieldType := fun k => match k with
  | 0 => .array .int
  | _ => .array .int
abbrev wsX20 : List Cond := u_ws RX2 TX2 2
theorem nmX2 : ∀ a, a < 2 → ∀ b, b < 2 → a ≠ b → (TX2 a).2.1 ≠ (TX2 b).2.1 := by decide +kernel
theorem tyX2_ok : ∀ k, k < 2 → parseFieldDescriptor (TX2 k).2.2.1 = some (tyX2 k) := by decide +kernel
abbrev cX2_init : ByteArray := prog_4_method_1_code
def yX2_init : MethodName := ⟨RX2, "<init>", "()V"⟩
abbrev cX2_arrange : ByteArray := prog_4_method_2_code
def yX2_arrange : MethodName := ⟨RX2, "arrange", "(LLockedCarts$Race;)I"⟩
abbrev cX2_insert : ByteArray := prog_4_method_3_code
def yX2_insert : MethodName := ⟨RX2, "insert", "(LLockedCarts$Race;II)V"⟩
abbrev cX2_follow : ByteArray := prog_4_method_4_code
def yX2_follow : MethodName := ⟨RX2, "follow", "(LLockedCarts$Race;I)V"⟩
abbrev cX2_step : ByteArray := prog_4_method_5_code
def yX2_step : MethodName := ⟨RX2, "step", "(LLockedCarts$Race;II)Z"⟩
def RX3 : String := "LockedCarts$Cart"
def TX3 : u_T := fun k => match k with
  | 0 => ("LockedCarts$Cart", "moves", "[I", true)
  | 1 => ("LockedCarts$Cart", "ranks", "[I", true)
  | 2 => ("LockedCarts$Cart", "start", "I", false)
  | 3 => ("LockedCarts$Cart", "cell", "I", false)
  | 4 => ("LockedCarts$Cart", "direction", "I", false)
  | 5 => ("LockedCarts$Cart", "damage", "I", false)
  | 6 => ("LockedCarts$Cart", "touched", "I", false)
  | 7 => ("LockedCarts$Cart", "timesOut", "I", false)
  | _ => ("LockedCarts$Cart", "timesStopped", "I", false)
def tyX3 : Nat → FieldType := fun k => match k with
  | 0 => .array .int
  | 1 => .array .int
  | 2 => .int
  | 3 => .int
  | 4 => .int
  | 5 => .int
  | 6 => .int
  | 7 => .int
  | _ => .int
abbrev wsX30 : List Cond := u_ws RX3 TX3 9
theorem nmX3 : ∀ a, a < 9 → ∀ b, b < 9 → a ≠ b → (TX3 a).2.1 ≠ (TX3 b).2.1 := by decide +kernel
theorem tyX3_ok : ∀ k, k < 9 → parseFieldDescriptor (TX3 k).2.2.1 = some (tyX3 k) := by decide +kernel
abbrev cX3_init : ByteArray := prog_5_method_1_code
def yX3_init : MethodName := ⟨RX3, "<init>", "()V"⟩
abbrev cX3_copyFrom : ByteArray := prog_5_method_2_code
def yX3_copyFrom : MethodName := ⟨RX3, "copyFrom", "(LLockedCarts$Cart;)V"⟩
abbrev cX3_begin : ByteArray := prog_5_method_3_code
def yX3_begin : MethodName := ⟨RX3, "begin", "(II)V"⟩
abbrev cX3_isOut : ByteArray := prog_5_method_4_code
def yX3_isOut : MethodName := ⟨RX3, "isOut", "()Z"⟩
abbrev cX3_hasCard : ByteArray := prog_5_method_5_code
def yX3_hasCard : MethodName := ⟨RX3, "hasCard", "(I)Z"⟩
abbrev cX3_unlockedRegisters : ByteArray := prog_5_method_6_code
def yX3_unlockedRegisters : MethodName := ⟨RX3, "unlockedRegisters", "()I"⟩
abbrev cX3_isLocked : ByteArray := prog_5_method_7_code
def yX3_isLocked : MethodName := ⟨RX3, "isLocked", "(I)Z"⟩
abbrev cX3_lay : ByteArray := prog_5_method_8_code
def yX3_lay : MethodName := ⟨RX3, "lay", "(III)V"⟩
abbrev cX3_emptyRegisters : ByteArray := prog_5_method_9_code
def yX3_emptyRegisters : MethodName := ⟨RX3, "emptyRegisters", "(I)V"⟩
abbrev cX3_addDamage : ByteArray := prog_5_method_10_code
def yX3_addDamage : MethodName := ⟨RX3, "addDamage", "(I)V"⟩
abbrev cX3_bump : ByteArray := prog_5_method_11_code
def yX3_bump : MethodName := ⟨RX3, "bump", "()V"⟩
abbrev cX3_lockedSet : ByteArray := prog_5_method_12_code
def yX3_lockedSet : MethodName := ⟨RX3, "lockedSet", "()I"⟩
abbrev cX3_cardSet : ByteArray := prog_5_method_13_code
def yX3_cardSet : MethodName := ⟨RX3, "cardSet", "()I"⟩
abbrev cX3_value : ByteArray := prog_5_method_14_code
def yX3_value : MethodName := ⟨RX3, "value", "(I)I"⟩
def RX4 : String := "LockedCarts$History"
def TX4 : u_T := fun k => match k with
  | 0 => ("LockedCarts$History", "states", "[LLockedCarts$Race;", true)
  | _ => ("LockedCarts$History", "size", "I", false)
def tyX4 : Nat → FieldType := fun k => match k with
  | 0 => .array (.object "LockedCarts$Race")
  | _ => .int
abbrev wsX40 : List Cond := u_ws RX4 TX4 2
theorem nmX4 : ∀ a, a < 2 → ∀ b, b < 2 → a ≠ b → (TX4 a).2.1 ≠ (TX4 b).2.1 := by decide +kernel
theorem tyX4_ok : ∀ k, k < 2 → parseFieldDescriptor (TX4 k).2.2.1 = some (tyX4 k) := by decide +kernel
abbrev cX4_init : ByteArray := prog_6_method_1_code
def yX4_init : MethodName := ⟨RX4, "<init>", "()V"⟩
abbrev cX4_add : ByteArray := prog_6_method_2_code
def yX4_add : MethodName := ⟨RX4, "add", "(LLockedCarts$Race;)V"⟩
abbrev cX4_restore : ByteArray := prog_6_method_3_code
def yX4_restore : MethodName := ⟨RX4, "restore", "(LLockedCarts$Race;)V"⟩
abbrev cX4_dropOldest : ByteArray := prog_6_method_4_code
def yX4_dropOldest : MethodName := ⟨RX4, "dropOldest", "()V"⟩
def RX5 : String := "LockedCarts$OrderRunner"
def TX5 : u_T := fun k => match k with
  | 0 => ("LockedCarts$OrderRunner", "text", "LLockedCarts$OrderText;", true)
  | 1 => ("LockedCarts$OrderRunner", "runner", "LLockedCarts$PhaseRunner;", true)
  | 2 => ("LockedCarts$OrderRunner", "done", "I", false)
  | 3 => ("LockedCarts$OrderRunner", "position", "I", false)
  | 4 => ("LockedCarts$OrderRunner", "reason", "I", false)
  | _ => ("LockedCarts$OrderRunner", "cause", "I", false)
def tyX5 : Nat → FieldType := fun k => match k with
  | 0 => .object "LockedCarts$OrderText"
  | 1 => .object "LockedCarts$PhaseRunner"
  | 2 => .int
  | 3 => .int
  | 4 => .int
  | _ => .int
abbrev wsX50 : List Cond := u_ws RX5 TX5 6
theorem nmX5 : ∀ a, a < 6 → ∀ b, b < 6 → a ≠ b → (TX5 a).2.1 ≠ (TX5 b).2.1 := by decide +kernel
theorem tyX5_ok : ∀ k, k < 6 → parseFieldDescriptor (TX5 k).2.2.1 = some (tyX5 k) := by decide +kernel
abbrev cX5_init : ByteArray := prog_7_method_1_code
def yX5_init : MethodName := ⟨RX5, "<init>", "(LLockedCarts$OrderText;LLockedCarts$PhaseRunner;)V"⟩
abbrev cX5_isFaulty : ByteArray := prog_7_method_2_code
def yX5_isFaulty : MethodName := ⟨RX5, "isFaulty", "()Z"⟩
abbrev cX5_doAll : ByteArray := prog_7_method_3_code
def yX5_doAll : MethodName := ⟨RX5, "doAll", "(LLockedCarts$Race;)V"⟩
abbrev cX5_obey : ByteArray := prog_7_method_4_code
def yX5_obey : MethodName := ⟨RX5, "obey", "(LLockedCarts$Race;[I)I"⟩
def RX6 : String := "LockedCarts$OrderText"
def TX6 : u_T := fun k => match k with
  | 0 => ("LockedCarts$OrderText", "signs", "[C", true)
  | 1 => ("LockedCarts$OrderText", "length", "I", false)
  | 2 => ("LockedCarts$OrderText", "letter", "C", false)
  | 3 => ("LockedCarts$OrderText", "numbers", "[I", true)
  | _ => ("LockedCarts$OrderText", "end", "I", false)
def tyX6 : Nat → FieldType := fun k => match k with
  | 0 => .array .char
  | 1 => .int
  | 2 => .char
  | 3 => .array .int
  | _ => .int
abbrev wsX60 : List Cond := u_ws RX6 TX6 5
theorem nmX6 : ∀ a, a < 5 → ∀ b, b < 5 → a ≠ b → (TX6 a).2.1 ≠ (TX6 b).2.1 := by decide +kernel
theorem tyX6_ok : ∀ k, k < 5 → parseFieldDescriptor (TX6 k).2.2.1 = some (tyX6 k) := by decide +kernel
abbrev cX6_init : ByteArray := prog_8_method_1_code
def yX6_init : MethodName := ⟨RX6, "<init>", "()V"⟩
abbrev cX6_append : ByteArray := prog_8_method_2_code
def yX6_append : MethodName := ⟨RX6, "append", "(C)I"⟩
abbrev cX6_read : ByteArray := prog_8_method_3_code
def yX6_read : MethodName := ⟨RX6, "read", "(I)Z"⟩
abbrev cX6_numbersBehind : ByteArray := prog_8_method_4_code
def yX6_numbersBehind : MethodName := ⟨RX6, "numbersBehind", "(C)I"⟩
abbrev cX6_take : ByteArray := prog_8_method_5_code
def yX6_take : MethodName := ⟨RX6, "take", "(C)Z"⟩
abbrev cX6_takeNumber : ByteArray := prog_8_method_6_code
def yX6_takeNumber : MethodName := ⟨RX6, "takeNumber", "(I)Z"⟩
def RX7 : String := "LockedCarts$PhaseRunner"
def TX7 : u_T := fun k => match k with
  | 0 => ("LockedCarts$PhaseRunner", "cards", "LLockedCarts$Cards;", true)
  | _ => ("LockedCarts$PhaseRunner", "belts", "LLockedCarts$Belts;", true)
def tyX7 : Nat → FieldType := fun k => match k with
  | 0 => .object "LockedCarts$Cards"
  | _ => .object "LockedCarts$Belts"
abbrev wsX70 : List Cond := u_ws RX7 TX7 2
theorem nmX7 : ∀ a, a < 2 → ∀ b, b < 2 → a ≠ b → (TX7 a).2.1 ≠ (TX7 b).2.1 := by decide +kernel
theorem tyX7_ok : ∀ k, k < 2 → parseFieldDescriptor (TX7 k).2.2.1 = some (tyX7 k) := by decide +kernel
abbrev cX7_init : ByteArray := prog_9_method_1_code
def yX7_init : MethodName := ⟨RX7, "<init>", "()V"⟩
abbrev cX7_runNext : ByteArray := prog_9_method_2_code
def yX7_runNext : MethodName := ⟨RX7, "runNext", "(LLockedCarts$Race;)I"⟩
abbrev cX7_runToRoundEnd : ByteArray := prog_9_method_3_code
def yX7_runToRoundEnd : MethodName := ⟨RX7, "runToRoundEnd", "(LLockedCarts$Race;)I"⟩
abbrev cX7_cartInTurn : ByteArray := prog_9_method_4_code
def yX7_cartInTurn : MethodName := ⟨RX7, "cartInTurn", "(LLockedCarts$Race;I)I"⟩
def RX8 : String := "LockedCarts$Race"
def TX8 : u_T := fun k => match k with
  | 0 => ("LockedCarts$Race", "board", "LLockedCarts$Board;", true)
  | 1 => ("LockedCarts$Race", "carts", "[LLockedCarts$Cart;", true)
  | 2 => ("LockedCarts$Race", "cartCount", "I", false)
  | 3 => ("LockedCarts$Race", "nextPhase", "I", false)
  | 4 => ("LockedCarts$Race", "rounds", "I", false)
  | 5 => ("LockedCarts$Race", "phasesDone", "I", false)
  | 6 => ("LockedCarts$Race", "pushes", "I", false)
  | _ => ("LockedCarts$Race", "winner", "I", false)
def tyX8 : Nat → FieldType := fun k => match k with
  | 0 => .object "LockedCarts$Board"
  | 1 => .array (.object "LockedCarts$Cart")
  | 2 => .int
  | 3 => .int
  | 4 => .int
  | 5 => .int
  | 6 => .int
  | _ => .int
abbrev wsX80 : List Cond := u_ws RX8 TX8 8
theorem nmX8 : ∀ a, a < 8 → ∀ b, b < 8 → a ≠ b → (TX8 a).2.1 ≠ (TX8 b).2.1 := by decide +kernel
theorem tyX8_ok : ∀ k, k < 8 → parseFieldDescriptor (TX8 k).2.2.1 = some (tyX8 k) := by decide +kernel
abbrev cX8_init : ByteArray := prog_10_method_1_code
def yX8_init : MethodName := ⟨RX8, "<init>", "()V"⟩
abbrev cX8_copyFrom : ByteArray := prog_10_method_2_code
def yX8_copyFrom : MethodName := ⟨RX8, "copyFrom", "(LLockedCarts$Race;)V"⟩
abbrev cX8_hasCart : ByteArray := prog_10_method_3_code
def yX8_hasCart : MethodName := ⟨RX8, "hasCart", "(I)Z"⟩
abbrev cX8_cartOn : ByteArray := prog_10_method_4_code
def yX8_cartOn : MethodName := ⟨RX8, "cartOn", "(I)I"⟩
abbrev cX8_cartsOut : ByteArray := prog_10_method_5_code
def yX8_cartsOut : MethodName := ⟨RX8, "cartsOut", "()I"⟩
abbrev cX8_timesOut : ByteArray := prog_10_method_6_code
def yX8_timesOut : MethodName := ⟨RX8, "timesOut", "()I"⟩
abbrev cX8_cellValue : ByteArray := prog_10_method_7_code
def yX8_cellValue : MethodName := ⟨RX8, "cellValue", "(II)I"⟩
abbrev cX8_setKind : ByteArray := prog_10_method_8_code
def yX8_setKind : MethodName := ⟨RX8, "setKind", "(II)I"⟩
abbrev cX8_flipWall : ByteArray := prog_10_method_9_code
def yX8_flipWall : MethodName := ⟨RX8, "flipWall", "(II)I"⟩
abbrev cX8_layFlag : ByteArray := prog_10_method_10_code
def yX8_layFlag : MethodName := ⟨RX8, "layFlag", "(II)I"⟩
abbrev cX8_addCart : ByteArray := prog_10_method_11_code
def yX8_addCart : MethodName := ⟨RX8, "addCart", "(II)I"⟩
abbrev cX8_layCard : ByteArray := prog_10_method_12_code
def yX8_layCard : MethodName := ⟨RX8, "layCard", "(IIII)I"⟩
abbrev cX8_harm : ByteArray := prog_10_method_13_code
def yX8_harm : MethodName := ⟨RX8, "harm", "(II)I"⟩
abbrev cX8_enter : ByteArray := prog_10_method_14_code
def yX8_enter : MethodName := ⟨RX8, "enter", "(LLockedCarts$Cart;I)V"⟩
abbrev cX8_turnOnGears : ByteArray := prog_10_method_15_code
def yX8_turnOnGears : MethodName := ⟨RX8, "turnOnGears", "()V"⟩
abbrev cX8_touchFlags : ByteArray := prog_10_method_16_code
def yX8_touchFlags : MethodName := ⟨RX8, "touchFlags", "()V"⟩
abbrev cX8_countPhase : ByteArray := prog_10_method_17_code
def yX8_countPhase : MethodName := ⟨RX8, "countPhase", "()V"⟩
abbrev cX8_repairAndClear : ByteArray := prog_10_method_18_code
def yX8_repairAndClear : MethodName := ⟨RX8, "repairAndClear", "()V"⟩
abbrev cX8_bringBack : ByteArray := prog_10_method_19_code
def yX8_bringBack : MethodName := ⟨RX8, "bringBack", "()V"⟩
abbrev cX8_cellToComeBack : ByteArray := prog_10_method_20_code
def yX8_cellToComeBack : MethodName := ⟨RX8, "cellToComeBack", "(I)I"⟩
def RX9 : String := "LockedCarts$Ways"
def TX9 : u_T := fun k => match k with
  | 0 => ("LockedCarts$Ways", "distances", "[I", true)
  | 1 => ("LockedCarts$Ways", "queue", "[I", true)
  | _ => ("LockedCarts$Ways", "queued", "I", false)
def tyX9 : Nat → FieldType := fun k => match k with
  | 0 => .array .int
  | 1 => .array .int
  | _ => .int
abbrev wsX90 : List Cond := u_ws RX9 TX9 3
theorem nmX9 : ∀ a, a < 3 → ∀ b, b < 3 → a ≠ b → (TX9 a).2.1 ≠ (TX9 b).2.1 := by decide +kernel
theorem tyX9_ok : ∀ k, k < 3 → parseFieldDescriptor (TX9 k).2.2.1 = some (tyX9 k) := by decide +kernel
abbrev cX9_init : ByteArray := prog_11_method_1_code
def yX9_init : MethodName := ⟨RX9, "<init>", "()V"⟩
abbrev cX9_shortest : ByteArray := prog_11_method_2_code
def yX9_shortest : MethodName := ⟨RX9, "shortest", "(LLockedCarts$Board;II)I"⟩
abbrev cX9_reachAround : ByteArray := prog_11_method_3_code
def yX9_reachAround : MethodName := ⟨RX9, "reachAround", "(LLockedCarts$Board;I)V"⟩
abbrev cX9_reach : ByteArray := prog_11_method_4_code
def yX9_reach : MethodName := ⟨RX9, "reach", "(II)V"⟩
def RX10 : String := "LockedCarts"
def TX10 : u_T := fun k => match k with
  | 0 => ("LockedCarts", "race", "LLockedCarts$Race;", true)
  | 1 => ("LockedCarts", "trial", "LLockedCarts$Race;", true)
  | 2 => ("LockedCarts", "history", "LLockedCarts$History;", true)
  | 3 => ("LockedCarts", "runner", "LLockedCarts$PhaseRunner;", true)
  | 4 => ("LockedCarts", "ways", "LLockedCarts$Ways;", true)
  | 5 => ("LockedCarts", "text", "LLockedCarts$OrderText;", true)
  | _ => ("LockedCarts", "orders", "LLockedCarts$OrderRunner;", true)
def tyX10 : Nat → FieldType := fun k => match k with
  | 0 => .object "LockedCarts$Race"
  | 1 => .object "LockedCarts$Race"
  | 2 => .object "LockedCarts$History"
  | 3 => .object "LockedCarts$PhaseRunner"
  | 4 => .object "LockedCarts$Ways"
  | 5 => .object "LockedCarts$OrderText"
  | _ => .object "LockedCarts$OrderRunner"
abbrev wsX100 : List Cond := u_ws RX10 TX10 7
theorem nmX10 : ∀ a, a < 7 → ∀ b, b < 7 → a ≠ b → (TX10 a).2.1 ≠ (TX10 b).2.1 := by decide +kernel
theorem tyX10_ok : ∀ k, k < 7 → parseFieldDescriptor (TX10 k).2.2.1 = some (tyX10 k) := by decide +kernel
abbrev cX10_init : ByteArray := prog_1_method_1_code
def yX10_init : MethodName := ⟨RX10, "<init>", "()V"⟩
abbrev cX10_kind : ByteArray := prog_1_method_2_code
def yX10_kind : MethodName := ⟨RX10, "kind", "(II)I"⟩
abbrev cX10_wall : ByteArray := prog_1_method_3_code
def yX10_wall : MethodName := ⟨RX10, "wall", "(II)I"⟩
abbrev cX10_flag : ByteArray := prog_1_method_4_code
def yX10_flag : MethodName := ⟨RX10, "flag", "(II)I"⟩
abbrev cX10_cart : ByteArray := prog_1_method_5_code
def yX10_cart : MethodName := ⟨RX10, "cart", "(II)I"⟩
abbrev cX10_card : ByteArray := prog_1_method_6_code
def yX10_card : MethodName := ⟨RX10, "card", "(IIII)I"⟩
abbrev cX10_damage : ByteArray := prog_1_method_7_code
def yX10_damage : MethodName := ⟨RX10, "damage", "(II)I"⟩
abbrev cX10_phase : ByteArray := prog_1_method_8_code
def yX10_phase : MethodName := ⟨RX10, "phase", "()I"⟩
abbrev cX10_round : ByteArray := prog_1_method_9_code
def yX10_round : MethodName := ⟨RX10, "round", "()I"⟩
abbrev cX10_cellOf : ByteArray := prog_1_method_10_code
def yX10_cellOf : MethodName := ⟨RX10, "cellOf", "(II)I"⟩
abbrev cX10_cartOf : ByteArray := prog_1_method_11_code
def yX10_cartOf : MethodName := ⟨RX10, "cartOf", "(II)I"⟩
abbrev cX10_cardOf : ByteArray := prog_1_method_12_code
def yX10_cardOf : MethodName := ⟨RX10, "cardOf", "(III)I"⟩
abbrev cX10_turn : ByteArray := prog_1_method_13_code
def yX10_turn : MethodName := ⟨RX10, "turn", "(I)I"⟩
abbrev cX10_would : ByteArray := prog_1_method_14_code
def yX10_would : MethodName := ⟨RX10, "would", "(III)I"⟩
abbrev cX10_best : ByteArray := prog_1_method_15_code
def yX10_best : MethodName := ⟨RX10, "best", "(III)I"⟩
abbrev cX10_steps : ByteArray := prog_1_method_16_code
def yX10_steps : MethodName := ⟨RX10, "steps", "(II)I"⟩
abbrev cX10_count : ByteArray := prog_1_method_17_code
def yX10_count : MethodName := ⟨RX10, "count", "(I)I"⟩
abbrev cX10_undo : ByteArray := prog_1_method_18_code
def yX10_undo : MethodName := ⟨RX10, "undo", "()I"⟩
abbrev cX10_type : ByteArray := prog_1_method_19_code
def yX10_type : MethodName := ⟨RX10, "type", "(I)I"⟩
abbrev cX10_clearText : ByteArray := prog_1_method_20_code
def yX10_clearText : MethodName := ⟨RX10, "clearText", "()I"⟩
abbrev cX10_fault : ByteArray := prog_1_method_21_code
def yX10_fault : MethodName := ⟨RX10, "fault", "(I)I"⟩
abbrev cX10_play : ByteArray := prog_1_method_22_code
def yX10_play : MethodName := ⟨RX10, "play", "()I"⟩
abbrev cX10_freshTrial : ByteArray := prog_1_method_23_code
def yX10_freshTrial : MethodName := ⟨RX10, "freshTrial", "()LLockedCarts$Race;"⟩
abbrev cX10_keep : ByteArray := prog_1_method_24_code
def yX10_keep : MethodName := ⟨RX10, "keep", "(I)I"⟩
abbrev cX10_distanceBehind : ByteArray := prog_1_method_25_code
def yX10_distanceBehind : MethodName := ⟨RX10, "distanceBehind", "(IIII)I"⟩
abbrev cX10_isWithin : ByteArray := prog_1_method_26_code
def yX10_isWithin : MethodName := ⟨RX10, "isWithin", "(III)Z"⟩
abbrev cX10_isCell : ByteArray := prog_1_method_27_code
def yX10_isCell : MethodName := ⟨RX10, "isCell", "(I)Z"⟩
abbrev cX10_isDirection : ByteArray := prog_1_method_28_code
def yX10_isDirection : MethodName := ⟨RX10, "isDirection", "(I)Z"⟩
abbrev cX10_isRegister : ByteArray := prog_1_method_29_code
def yX10_isRegister : MethodName := ⟨RX10, "isRegister", "(I)Z"⟩
abbrev cX10_isError : ByteArray := prog_1_method_30_code
def yX10_isError : MethodName := ⟨RX10, "isError", "(I)Z"⟩
abbrev cX10_turned : ByteArray := prog_1_method_31_code
def yX10_turned : MethodName := ⟨RX10, "turned", "(II)I"⟩
def RX11 : String := "LockedCartsModel"
def TX11 : u_T := fun k => match k with
  | 0 => ("LockedCartsModel", "s", "[I", true)
  | 1 => ("LockedCartsModel", "begun", "[I", true)
  | 2 => ("LockedCartsModel", "aside", "[I", true)
  | 3 => ("LockedCartsModel", "past", "[I", true)
  | 4 => ("LockedCartsModel", "states", "I", false)
  | 5 => ("LockedCartsModel", "text", "[I", true)
  | 6 => ("LockedCartsModel", "length", "I", false)
  | 7 => ("LockedCartsModel", "row", "[I", true)
  | 8 => ("LockedCartsModel", "order", "[I", true)
  | 9 => ("LockedCartsModel", "ordered", "I", false)
  | 10 => ("LockedCartsModel", "carried", "[Z", true)
  | 11 => ("LockedCartsModel", "goal", "[I", true)
  | 12 => ("LockedCartsModel", "reached", "[I", true)
  | 13 => ("LockedCartsModel", "at", "I", false)
  | 14 => ("LockedCartsModel", "from", "I", false)
  | 15 => ("LockedCartsModel", "done", "I", false)
  | 16 => ("LockedCartsModel", "told", "I", false)
  | 17 => ("LockedCartsModel", "isForm", "Z", false)
  | _ => ("LockedCartsModel", "numbers", "[I", true)
def tyX11 : Nat → FieldType := fun k => match k with
  | 0 => .array .int
  | 1 => .array .int
  | 2 => .array .int
  | 3 => .array .int
  | 4 => .int
  | 5 => .array .int
  | 6 => .int
  | 7 => .array .int
  | 8 => .array .int
  | 9 => .int
  | 10 => .array .boolean
  | 11 => .array .int
  | 12 => .array .int
  | 13 => .int
  | 14 => .int
  | 15 => .int
  | 16 => .int
  | 17 => .boolean
  | _ => .array .int
abbrev wsX110 : List Cond := u_ws RX11 TX11 19
theorem nmX11 : ∀ a, a < 19 → ∀ b, b < 19 → a ≠ b → (TX11 a).2.1 ≠ (TX11 b).2.1 := by decide +kernel
theorem tyX11_ok : ∀ k, k < 19 → parseFieldDescriptor (TX11 k).2.2.1 = some (tyX11 k) := by decide +kernel
abbrev cX11_init : ByteArray := prog_13_method_1_code
def yX11_init : MethodName := ⟨RX11, "<init>", "()V"⟩
abbrev cX11_in : ByteArray := prog_13_method_3_code
def yX11_in : MethodName := ⟨RX11, "in", "(III)Z"⟩
abbrev cX11_isCell : ByteArray := prog_13_method_4_code
def yX11_isCell : MethodName := ⟨RX11, "isCell", "(I)Z"⟩
abbrev cX11_begins : ByteArray := prog_13_method_5_code
def yX11_begins : MethodName := ⟨RX11, "begins", "()V"⟩
abbrev cX11_returns : ByteArray := prog_13_method_6_code
def yX11_returns : MethodName := ⟨RX11, "returns", "()V"⟩
abbrev cX11_putsAside : ByteArray := prog_13_method_7_code
def yX11_putsAside : MethodName := ⟨RX11, "putsAside", "()V"⟩
abbrev cX11_takesBack : ByteArray := prog_13_method_8_code
def yX11_takesBack : MethodName := ⟨RX11, "takesBack", "()V"⟩
abbrev cX11_acted : ByteArray := prog_13_method_9_code
def yX11_acted : MethodName := ⟨RX11, "acted", "(I)I"⟩
abbrev cX11_of : ByteArray := prog_13_method_10_code
def yX11_of : MethodName := ⟨RX11, "of", "(II)I"⟩
abbrev cX11_lays : ByteArray := prog_13_method_11_code
def yX11_lays : MethodName := ⟨RX11, "lays", "(III)V"⟩
abbrev cX11_more : ByteArray := prog_13_method_12_code
def yX11_more : MethodName := ⟨RX11, "more", "(II)V"⟩
abbrev cX11_isCart : ByteArray := prog_13_method_13_code
def yX11_isCart : MethodName := ⟨RX11, "isCart", "(I)Z"⟩
abbrev cX11_isOut : ByteArray := prog_13_method_14_code
def yX11_isOut : MethodName := ⟨RX11, "isOut", "(I)Z"⟩
abbrev cX11_rank : ByteArray := prog_13_method_15_code
def yX11_rank : MethodName := ⟨RX11, "rank", "(II)I"⟩
abbrev cX11_cartOn : ByteArray := prog_13_method_16_code
def yX11_cartOn : MethodName := ⟨RX11, "cartOn", "(I)I"⟩
abbrev cX11_isWall : ByteArray := prog_13_method_17_code
def yX11_isWall : MethodName := ⟨RX11, "isWall", "(II)Z"⟩
abbrev cX11_next : ByteArray := prog_13_method_18_code
def yX11_next : MethodName := ⟨RX11, "next", "(II)I"⟩
abbrev cX11_isLocked : ByteArray := prog_13_method_19_code
def yX11_isLocked : MethodName := ⟨RX11, "isLocked", "(II)Z"⟩
abbrev cX11_outs : ByteArray := prog_13_method_20_code
def yX11_outs : MethodName := ⟨RX11, "outs", "()I"⟩
abbrev cX11_goesOut : ByteArray := prog_13_method_21_code
def yX11_goesOut : MethodName := ⟨RX11, "goesOut", "(I)V"⟩
abbrev cX11_comesTo : ByteArray := prog_13_method_22_code
def yX11_comesTo : MethodName := ⟨RX11, "comesTo", "(II)V"⟩
abbrev cX11_steps1 : ByteArray := prog_13_method_23_code
def yX11_steps1 : MethodName := ⟨RX11, "steps1", "(II)Z"⟩
abbrev cX11_drives : ByteArray := prog_13_method_24_code
def yX11_drives : MethodName := ⟨RX11, "drives", "(III)V"⟩
abbrev cX11_turns : ByteArray := prog_13_method_25_code
def yX11_turns : MethodName := ⟨RX11, "turns", "(II)V"⟩
abbrev cX11_does : ByteArray := prog_13_method_26_code
def yX11_does : MethodName := ⟨RX11, "does", "(II)V"⟩
abbrev cX11_orders : ByteArray := prog_13_method_27_code
def yX11_orders : MethodName := ⟨RX11, "orders", "()V"⟩
abbrev cX11_isOnBelt : ByteArray := prog_13_method_28_code
def yX11_isOnBelt : MethodName := ⟨RX11, "isOnBelt", "(I)Z"⟩
abbrev cX11_wants : ByteArray := prog_13_method_29_code
def yX11_wants : MethodName := ⟨RX11, "wants", "(I)I"⟩
abbrev cX11_isInTheWay : ByteArray := prog_13_method_30_code
def yX11_isInTheWay : MethodName := ⟨RX11, "isInTheWay", "(IIZ)Z"⟩
abbrev cX11_stays : ByteArray := prog_13_method_31_code
def yX11_stays : MethodName := ⟨RX11, "stays", "(I)Z"⟩
abbrev cX11_belts : ByteArray := prog_13_method_32_code
def yX11_belts : MethodName := ⟨RX11, "belts", "()V"⟩
abbrev cX11_gears : ByteArray := prog_13_method_33_code
def yX11_gears : MethodName := ⟨RX11, "gears", "()V"⟩
abbrev cX11_nextFlag : ByteArray := prog_13_method_34_code
def yX11_nextFlag : MethodName := ⟨RX11, "nextFlag", "(I)I"⟩
abbrev cX11_touches : ByteArray := prog_13_method_35_code
def yX11_touches : MethodName := ⟨RX11, "touches", "()V"⟩
abbrev cX11_empties : ByteArray := prog_13_method_36_code
def yX11_empties : MethodName := ⟨RX11, "empties", "(IZ)V"⟩
abbrev cX11_isGood : ByteArray := prog_13_method_37_code
def yX11_isGood : MethodName := ⟨RX11, "isGood", "(I)Z"⟩
abbrev cX11_comesBack : ByteArray := prog_13_method_38_code
def yX11_comesBack : MethodName := ⟨RX11, "comesBack", "(I)V"⟩
abbrev cX11_ends : ByteArray := prog_13_method_39_code
def yX11_ends : MethodName := ⟨RX11, "ends", "()V"⟩
abbrev cX11_passes : ByteArray := prog_13_method_40_code
def yX11_passes : MethodName := ⟨RX11, "passes", "()I"⟩
abbrev cX11_kinds : ByteArray := prog_13_method_41_code
def yX11_kinds : MethodName := ⟨RX11, "kinds", "(II)I"⟩
abbrev cX11_walls : ByteArray := prog_13_method_42_code
def yX11_walls : MethodName := ⟨RX11, "walls", "(II)I"⟩
abbrev cX11_comes : ByteArray := prog_13_method_43_code
def yX11_comes : MethodName := ⟨RX11, "comes", "(II)I"⟩
abbrev cX11_withCards : ByteArray := prog_13_method_44_code
def yX11_withCards : MethodName := ⟨RX11, "withCards", "(I)I"⟩
abbrev cX11_locked : ByteArray := prog_13_method_45_code
def yX11_locked : MethodName := ⟨RX11, "locked", "(I)I"⟩
abbrev cX11_ones : ByteArray := prog_13_method_46_code
def yX11_ones : MethodName := ⟨RX11, "ones", "(I)I"⟩
abbrev cX11_cards : ByteArray := prog_13_method_47_code
def yX11_cards : MethodName := ⟨RX11, "cards", "(IIII)I"⟩
abbrev cX11_phases : ByteArray := prog_13_method_48_code
def yX11_phases : MethodName := ⟨RX11, "phases", "()I"⟩
abbrev cX11_kind : ByteArray := prog_13_method_49_code
def yX11_kind : MethodName := ⟨RX11, "kind", "(II)I"⟩
abbrev cX11_wall : ByteArray := prog_13_method_50_code
def yX11_wall : MethodName := ⟨RX11, "wall", "(II)I"⟩
abbrev cX11_flag : ByteArray := prog_13_method_51_code
def yX11_flag : MethodName := ⟨RX11, "flag", "(II)I"⟩
abbrev cX11_cart : ByteArray := prog_13_method_52_code
def yX11_cart : MethodName := ⟨RX11, "cart", "(II)I"⟩
abbrev cX11_card : ByteArray := prog_13_method_53_code
def yX11_card : MethodName := ⟨RX11, "card", "(IIII)I"⟩
abbrev cX11_damage : ByteArray := prog_13_method_54_code
def yX11_damage : MethodName := ⟨RX11, "damage", "(II)I"⟩
abbrev cX11_phase : ByteArray := prog_13_method_55_code
def yX11_phase : MethodName := ⟨RX11, "phase", "()I"⟩
abbrev cX11_round : ByteArray := prog_13_method_56_code
def yX11_round : MethodName := ⟨RX11, "round", "()I"⟩
abbrev cX11_orNone : ByteArray := prog_13_method_57_code
def yX11_orNone : MethodName := ⟨RX11, "orNone", "(I)I"⟩
abbrev cX11_flagOn : ByteArray := prog_13_method_58_code
def yX11_flagOn : MethodName := ⟨RX11, "flagOn", "(I)I"⟩
abbrev cX11_cellOf : ByteArray := prog_13_method_59_code
def yX11_cellOf : MethodName := ⟨RX11, "cellOf", "(II)I"⟩
abbrev cX11_cartOf : ByteArray := prog_13_method_60_code
def yX11_cartOf : MethodName := ⟨RX11, "cartOf", "(II)I"⟩
abbrev cX11_cardOf : ByteArray := prog_13_method_61_code
def yX11_cardOf : MethodName := ⟨RX11, "cardOf", "(III)I"⟩
abbrev cX11_turn : ByteArray := prog_13_method_62_code
def yX11_turn : MethodName := ⟨RX11, "turn", "(I)I"⟩
abbrev cX11_would : ByteArray := prog_13_method_63_code
def yX11_would : MethodName := ⟨RX11, "would", "(III)I"⟩
abbrev cX11_difference : ByteArray := prog_13_method_64_code
def yX11_difference : MethodName := ⟨RX11, "difference", "(II)I"⟩
abbrev cX11_far : ByteArray := prog_13_method_65_code
def yX11_far : MethodName := ⟨RX11, "far", "(II)I"⟩
abbrev cX11_farBy : ByteArray := prog_13_method_66_code
def yX11_farBy : MethodName := ⟨RX11, "farBy", "(IIII)I"⟩
abbrev cX11_best : ByteArray := prog_13_method_67_code
def yX11_best : MethodName := ⟨RX11, "best", "(III)I"⟩
abbrev cX11_spreads : ByteArray := prog_13_method_68_code
def yX11_spreads : MethodName := ⟨RX11, "spreads", "(I)Z"⟩
abbrev cX11_steps : ByteArray := prog_13_method_69_code
def yX11_steps : MethodName := ⟨RX11, "steps", "(II)I"⟩
abbrev cX11_cartsOut : ByteArray := prog_13_method_70_code
def yX11_cartsOut : MethodName := ⟨RX11, "cartsOut", "()I"⟩
abbrev cX11_count : ByteArray := prog_13_method_71_code
def yX11_count : MethodName := ⟨RX11, "count", "(I)I"⟩
abbrev cX11_undo : ByteArray := prog_13_method_72_code
def yX11_undo : MethodName := ⟨RX11, "undo", "()I"⟩
abbrev cX11_type : ByteArray := prog_13_method_73_code
def yX11_type : MethodName := ⟨RX11, "type", "(I)I"⟩
abbrev cX11_clearText : ByteArray := prog_13_method_74_code
def yX11_clearText : MethodName := ⟨RX11, "clearText", "()I"⟩
abbrev cX11_here : ByteArray := prog_13_method_75_code
def yX11_here : MethodName := ⟨RX11, "here", "()I"⟩
abbrev cX11_isDigit : ByteArray := prog_13_method_76_code
def yX11_isDigit : MethodName := ⟨RX11, "isDigit", "()Z"⟩
abbrev cX11_takesSign : ByteArray := prog_13_method_77_code
def yX11_takesSign : MethodName := ⟨RX11, "takesSign", "(I)V"⟩
abbrev cX11_number : ByteArray := prog_13_method_78_code
def yX11_number : MethodName := ⟨RX11, "number", "()I"⟩
abbrev cX11_wantsOf : ByteArray := prog_13_method_79_code
def yX11_wantsOf : MethodName := ⟨RX11, "wantsOf", "(I)I"⟩
abbrev cX11_called : ByteArray := prog_13_method_80_code
def yX11_called : MethodName := ⟨RX11, "called", "(I)I"⟩
abbrev cX11_doesAll : ByteArray := prog_13_method_81_code
def yX11_doesAll : MethodName := ⟨RX11, "doesAll", "()Z"⟩
abbrev cX11_fault : ByteArray := prog_13_method_82_code
def yX11_fault : MethodName := ⟨RX11, "fault", "(I)I"⟩
abbrev cX11_play : ByteArray := prog_13_method_83_code
def yX11_play : MethodName := ⟨RX11, "play", "()I"⟩
def RJ6 : String := "java/lang/Integer"
def TJ6 : u_T := fun k => match k with
  | _ => ("", "", "", false)
def tyJ6 : Nat → FieldType := fun k => match k with
  | _ => .int
abbrev wsJ60 : List Cond := u_ws RJ6 TJ6 0
theorem nmJ6 : ∀ a, a < 0 → ∀ b, b < 0 → a ≠ b → (TJ6 a).2.1 ≠ (TJ6 b).2.1 := by decide +kernel
theorem tyJ6_ok : ∀ k, k < 0 → parseFieldDescriptor (TJ6 k).2.2.1 = some (tyJ6 k) := by decide +kernel
abbrev cJ6_bitCount_0f7a4 : ByteArray := prog_14_method_49_code
def yJ6_bitCount_0f7a4 : MethodName := ⟨RJ6, "bitCount", "(I)I"⟩
def RJ9 : String := "java/lang/Math"
def TJ9 : u_T := fun k => match k with
  | _ => ("", "", "", false)
def tyJ9 : Nat → FieldType := fun k => match k with
  | _ => .int
abbrev wsJ90 : List Cond := u_ws RJ9 TJ9 0
theorem nmJ9 : ∀ a, a < 0 → ∀ b, b < 0 → a ≠ b → (TJ9 a).2.1 ≠ (TJ9 b).2.1 := by decide +kernel
theorem tyJ9_ok : ∀ k, k < 0 → parseFieldDescriptor (TJ9 k).2.2.1 = some (tyJ9 k) := by decide +kernel
abbrev cJ9_abs_0f7a4 : ByteArray := prog_15_method_59_code
def yJ9_abs_0f7a4 : MethodName := ⟨RJ9, "abs", "(I)I"⟩
abbrev cJ9_max_7cf53 : ByteArray := prog_15_method_65_code
def yJ9_max_7cf53 : MethodName := ⟨RJ9, "max", "(II)I"⟩
abbrev cJ9_min_7cf53 : ByteArray := prog_15_method_69_code
def yJ9_min_7cf53 : MethodName := ⟨RJ9, "min", "(II)I"⟩
def RJ10 : String := "java/lang/System"
def TJ10 : u_T := fun k => match k with
  | _ => ("", "", "", false)
def tyJ10 : Nat → FieldType := fun k => match k with
  | _ => .int
abbrev wsJ100 : List Cond := u_ws RJ10 TJ10 0
theorem nmJ10 : ∀ a, a < 0 → ∀ b, b < 0 → a ≠ b → (TJ10 a).2.1 ≠ (TJ10 b).2.1 := by decide +kernel
theorem tyJ10_ok : ∀ k, k < 0 → parseFieldDescriptor (TJ10 k).2.2.1 = some (tyJ10 k) := by decide +kernel
def RJ7 : String := "java/util/Arrays"
def TJ7 : u_T := fun k => match k with
  | _ => ("", "", "", false)
def tyJ7 : Nat → FieldType := fun k => match k with
  | _ => .int
abbrev wsJ70 : List Cond := u_ws RJ7 TJ7 0
theorem nmJ7 : ∀ a, a < 0 → ∀ b, b < 0 → a ≠ b → (TJ7 a).2.1 ≠ (TJ7 b).2.1 := by decide +kernel
theorem tyJ7_ok : ∀ k, k < 0 → parseFieldDescriptor (TJ7 k).2.2.1 = some (tyJ7 k) := by decide +kernel
abbrev cJ7_rangeCheck_23922 : ByteArray := prog_17_method_30_code
def yJ7_rangeCheck_23922 : MethodName := ⟨RJ7, "rangeCheck", "(III)V"⟩
abbrev cJ7_fill_53178 : ByteArray := prog_17_method_103_code
def yJ7_fill_53178 : MethodName := ⟨RJ7, "fill", "([II)V"⟩
abbrev cJ7_fill_fda19 : ByteArray := prog_17_method_104_code
def yJ7_fill_fda19 : MethodName := ⟨RJ7, "fill", "([IIII)V"⟩
def RL : String := "LockedCartsLaw"
abbrev cL_law : ByteArray := code
def yL_law : MethodName := ⟨RL, "law", "([I)Z"⟩
abbrev vwCl : List vw_C := [(RX0, TX0, 3), (RX1, TX1, 4), (RX2, TX2, 2), (RX3, TX3, 9), (RX4, TX4, 2), (RX5, TX5, 6), (RX6, TX6, 5), (RX7, TX7, 2), (RX8, TX8, 8), (RX9, TX9, 3), (RX10, TX10, 7), (RX11, TX11, 19)]
/-- the words of the tables that stay -/
def tb : List Cond := lw_tbl.filter goodWord
theorem tb_t {w : Cond} (k : Nat) (h : tables_1[k]? = some w) (hg : goodWord w = true) : w ∈ tb := List.mem_filter.mpr ⟨List.mem_append_right _ (List.mem_of_getElem? h), hg⟩
theorem tb_s {w : Cond} (k : Nat) (h : (k2_sels lw_privs)[k]? = some w) (hg : goodWord w = true) : w ∈ tb := List.mem_filter.mpr ⟨List.mem_append_left _ (List.mem_of_getElem? h), hg⟩
theorem tb_lw : ∀ w ∈ tb, w ∈ lw_tbl := fun _ h => (List.mem_filter.mp h).1
theorem tb_good : ∀ w ∈ tb, (w.onTables && w.keeps) = true ∨ ∃ ty, w = .arrayClass ty := fun _ h => good_of_word (List.mem_filter.mp h).2
end
section
theorem wd_0 : Cond.initialized RL ∈ tb := tb_t 0 (by decide +kernel) (by decide +kernel)
theorem wd_1 : Cond.initialized RX10 ∈ tb := tb_t 1 (by decide +kernel) (by decide +kernel)
theorem wd_2 : Cond.initialized RX8 ∈ tb := tb_t 2 (by decide +kernel) (by decide +kernel)
theorem wd_3 : Cond.initialized RX1 ∈ tb := tb_t 3 (by decide +kernel) (by decide +kernel)
theorem wd_4 : Cond.initialized RX3 ∈ tb := tb_t 4 (by decide +kernel) (by decide +kernel)
theorem wd_5 : Cond.initialized RX4 ∈ tb := tb_t 5 (by decide +kernel) (by decide +kernel)
theorem wd_6 : Cond.initialized RX7 ∈ tb := tb_t 6 (by decide +kernel) (by decide +kernel)
theorem wd_7 : Cond.initialized RX2 ∈ tb := tb_t 7 (by decide +kernel) (by decide +kernel)
theorem wd_8 : Cond.initialized RX0 ∈ tb := tb_t 8 (by decide +kernel) (by decide +kernel)
theorem wd_9 : Cond.initialized RX9 ∈ tb := tb_t 9 (by decide +kernel) (by decide +kernel)
theorem wd_10 : Cond.initialized RX6 ∈ tb := tb_t 10 (by decide +kernel) (by decide +kernel)
theorem wd_11 : Cond.initialized RX5 ∈ tb := tb_t 11 (by decide +kernel) (by decide +kernel)
theorem wd_12 : Cond.initialized RX11 ∈ tb := tb_t 12 (by decide +kernel) (by decide +kernel)
theorem wd_13 : Cond.initialized RJ10 ∈ tb := tb_t 13 (by decide +kernel) (by decide +kernel)
theorem wd_14 : Cond.initialized RJ9 ∈ tb := tb_t 14 (by decide +kernel) (by decide +kernel)
theorem wd_15 : Cond.initialized RJ6 ∈ tb := tb_t 15 (by decide +kernel) (by decide +kernel)
theorem wd_16 : Cond.initialized RJ7 ∈ tb := tb_t 16 (by decide +kernel) (by decide +kernel)
theorem wd_17 : Cond.classLink RL 7 RX10 ∈ tb := tb_t 17 (by decide +kernel) (by decide +kernel)
theorem wd_18 : Cond.instantiable RX10 7 ∈ tb := tb_t 18 (by decide +kernel) (by decide +kernel)
theorem wd_19 : Cond.methodLink RL 9 yX10_init ∈ tb := tb_t 19 (by decide +kernel) (by decide +kernel)
theorem wd_20 : Cond.instanceMethod yX10_init ∈ tb := tb_t 20 (by decide +kernel) (by decide +kernel)
theorem wd_21 : Cond.code yX10_init cX10_init 1 none ∈ tb := tb_t 21 (by decide +kernel) (by decide +kernel)
theorem wd_22 : Cond.methodLink RX10 1 objectInit ∈ tb := tb_t 22 (by decide +kernel) (by decide +kernel)
theorem wd_23 : Cond.instanceMethod objectInit ∈ tb := tb_t 23 (by decide +kernel) (by decide +kernel)
theorem wd_24 : Cond.code objectInit ⟨#[0xb1]⟩ 1 none ∈ tb := tb_t 24 (by decide +kernel) (by decide +kernel)
theorem wd_25 : Cond.classLink RX10 7 RX8 ∈ tb := tb_t 25 (by decide +kernel) (by decide +kernel)
theorem wd_26 : Cond.instantiable RX8 8 ∈ tb := tb_t 26 (by decide +kernel) (by decide +kernel)
theorem wd_28 : Cond.instanceMethod yX8_init ∈ tb := tb_t 28 (by decide +kernel) (by decide +kernel)
theorem wd_29 : Cond.code yX8_init cX8_init 1 none ∈ tb := tb_t 29 (by decide +kernel) (by decide +kernel)
theorem wd_30 : Cond.methodLink RX8 3 objectInit ∈ tb := tb_t 30 (by decide +kernel) (by decide +kernel)
theorem wd_31 : Cond.classLink RX8 9 RX1 ∈ tb := tb_t 31 (by decide +kernel) (by decide +kernel)
theorem wd_32 : Cond.instantiable RX1 4 ∈ tb := tb_t 32 (by decide +kernel) (by decide +kernel)
theorem wd_34 : Cond.instanceMethod yX1_init ∈ tb := tb_t 34 (by decide +kernel) (by decide +kernel)
theorem wd_35 : Cond.code yX1_init cX1_init 1 none ∈ tb := tb_t 35 (by decide +kernel) (by decide +kernel)
theorem wd_36 : Cond.methodLink RX1 3 objectInit ∈ tb := tb_t 36 (by decide +kernel) (by decide +kernel)
theorem wd_37 : Cond.fieldLink RX1 9 "LockedCarts$Board" "kinds" "[I" ∈ tb := tb_t 37 (by decide +kernel) (by decide +kernel)
theorem wd_38 : Cond.fieldLink RX8 85 "LockedCarts$Board" "kinds" "[I" ∈ tb := tb_t 38 (by decide +kernel) (by decide +kernel)
theorem wd_39 : Cond.fieldLink RX1 15 "LockedCarts$Board" "walls" "[I" ∈ tb := tb_t 39 (by decide +kernel) (by decide +kernel)
theorem wd_40 : Cond.fieldLink RX1 18 "LockedCarts$Board" "flags" "[I" ∈ tb := tb_t 40 (by decide +kernel) (by decide +kernel)
theorem wd_41 : Cond.fieldLink RX8 103 "LockedCarts$Board" "flags" "[I" ∈ tb := tb_t 41 (by decide +kernel) (by decide +kernel)
theorem wd_42 : Cond.fieldLink RX10 157 "LockedCarts$Board" "flags" "[I" ∈ tb := tb_t 42 (by decide +kernel) (by decide +kernel)
theorem wd_43 : Cond.fieldLink RX1 27 "LockedCarts$Board" "flagCount" "I" ∈ tb := tb_t 43 (by decide +kernel) (by decide +kernel)
theorem wd_44 : Cond.fieldLink RX8 100 "LockedCarts$Board" "flagCount" "I" ∈ tb := tb_t 44 (by decide +kernel) (by decide +kernel)
theorem wd_45 : Cond.fieldLink RX10 151 "LockedCarts$Board" "flagCount" "I" ∈ tb := tb_t 45 (by decide +kernel) (by decide +kernel)
theorem wd_55 : Cond.arrayClass FieldType.int ∈ tb := tb_t 55 (by decide +kernel) (by decide +kernel)
theorem wd_56 : Cond.classLink RX8 18 RX3 ∈ tb := tb_t 56 (by decide +kernel) (by decide +kernel)
theorem wd_57 : Cond.arrayOver (FieldType.object "LockedCarts$Cart") ∈ tb := tb_t 57 (by decide +kernel) (by decide +kernel)
theorem wd_58 : Cond.instantiable RX3 9 ∈ tb := tb_t 58 (by decide +kernel) (by decide +kernel)
theorem wd_60 : Cond.instanceMethod yX3_init ∈ tb := tb_t 60 (by decide +kernel) (by decide +kernel)
theorem wd_61 : Cond.code yX3_init cX3_init 1 none ∈ tb := tb_t 61 (by decide +kernel) (by decide +kernel)
theorem wd_62 : Cond.methodLink RX3 3 objectInit ∈ tb := tb_t 62 (by decide +kernel) (by decide +kernel)
theorem wd_63 : Cond.fieldLink RX3 9 "LockedCarts$Cart" "moves" "[I" ∈ tb := tb_t 63 (by decide +kernel) (by decide +kernel)
theorem wd_64 : Cond.fieldLink RX2 48 "LockedCarts$Cart" "moves" "[I" ∈ tb := tb_t 64 (by decide +kernel) (by decide +kernel)
theorem wd_65 : Cond.fieldLink RX10 122 "LockedCarts$Cart" "moves" "[I" ∈ tb := tb_t 65 (by decide +kernel) (by decide +kernel)
theorem wd_66 : Cond.fieldLink RX3 15 "LockedCarts$Cart" "ranks" "[I" ∈ tb := tb_t 66 (by decide +kernel) (by decide +kernel)
theorem wd_67 : Cond.fieldLink RX2 45 "LockedCarts$Cart" "ranks" "[I" ∈ tb := tb_t 67 (by decide +kernel) (by decide +kernel)
theorem wd_68 : Cond.fieldLink RX10 126 "LockedCarts$Cart" "ranks" "[I" ∈ tb := tb_t 68 (by decide +kernel) (by decide +kernel)
theorem wd_69 : Cond.fieldLink RX3 28 "LockedCarts$Cart" "start" "I" ∈ tb := tb_t 69 (by decide +kernel) (by decide +kernel)
theorem wd_70 : Cond.fieldLink RX8 163 "LockedCarts$Cart" "start" "I" ∈ tb := tb_t 70 (by decide +kernel) (by decide +kernel)
theorem wd_71 : Cond.fieldLink RX3 18 "LockedCarts$Cart" "cell" "I" ∈ tb := tb_t 71 (by decide +kernel) (by decide +kernel)
theorem wd_72 : Cond.fieldLink RX0 47 "LockedCarts$Cart" "cell" "I" ∈ tb := tb_t 72 (by decide +kernel) (by decide +kernel)
theorem wd_73 : Cond.fieldLink RX8 51 "LockedCarts$Cart" "cell" "I" ∈ tb := tb_t 73 (by decide +kernel) (by decide +kernel)
theorem wd_74 : Cond.fieldLink RX2 65 "LockedCarts$Cart" "cell" "I" ∈ tb := tb_t 74 (by decide +kernel) (by decide +kernel)
theorem wd_75 : Cond.fieldLink RX10 234 "LockedCarts$Cart" "cell" "I" ∈ tb := tb_t 75 (by decide +kernel) (by decide +kernel)
theorem wd_76 : Cond.fieldLink RX3 31 "LockedCarts$Cart" "direction" "I" ∈ tb := tb_t 76 (by decide +kernel) (by decide +kernel)
theorem wd_77 : Cond.fieldLink RX2 51 "LockedCarts$Cart" "direction" "I" ∈ tb := tb_t 77 (by decide +kernel) (by decide +kernel)
theorem wd_78 : Cond.fieldLink RX8 148 "LockedCarts$Cart" "direction" "I" ∈ tb := tb_t 78 (by decide +kernel) (by decide +kernel)
theorem wd_79 : Cond.fieldLink RX3 34 "LockedCarts$Cart" "damage" "I" ∈ tb := tb_t 79 (by decide +kernel) (by decide +kernel)
theorem wd_80 : Cond.fieldLink RX8 145 "LockedCarts$Cart" "damage" "I" ∈ tb := tb_t 80 (by decide +kernel) (by decide +kernel)
theorem wd_81 : Cond.fieldLink RX3 37 "LockedCarts$Cart" "touched" "I" ∈ tb := tb_t 81 (by decide +kernel) (by decide +kernel)
theorem wd_82 : Cond.fieldLink RX10 144 "LockedCarts$Cart" "touched" "I" ∈ tb := tb_t 82 (by decide +kernel) (by decide +kernel)
theorem wd_83 : Cond.fieldLink RX8 154 "LockedCarts$Cart" "touched" "I" ∈ tb := tb_t 83 (by decide +kernel) (by decide +kernel)
theorem wd_84 : Cond.fieldLink RX3 40 "LockedCarts$Cart" "timesOut" "I" ∈ tb := tb_t 84 (by decide +kernel) (by decide +kernel)
theorem wd_85 : Cond.fieldLink RX8 58 "LockedCarts$Cart" "timesOut" "I" ∈ tb := tb_t 85 (by decide +kernel) (by decide +kernel)
theorem wd_86 : Cond.fieldLink RX10 231 "LockedCarts$Cart" "timesOut" "I" ∈ tb := tb_t 86 (by decide +kernel) (by decide +kernel)
theorem wd_87 : Cond.fieldLink RX3 43 "LockedCarts$Cart" "timesStopped" "I" ∈ tb := tb_t 87 (by decide +kernel) (by decide +kernel)
theorem wd_107 : Cond.fieldLink RX8 12 "LockedCarts$Race" "board" "LLockedCarts$Board;" ∈ tb := tb_t 107 (by decide +kernel) (by decide +kernel)
theorem wd_108 : Cond.fieldLink RX0 52 "LockedCarts$Race" "board" "LLockedCarts$Board;" ∈ tb := tb_t 108 (by decide +kernel) (by decide +kernel)
theorem wd_109 : Cond.fieldLink RX2 68 "LockedCarts$Race" "board" "LLockedCarts$Board;" ∈ tb := tb_t 109 (by decide +kernel) (by decide +kernel)
theorem wd_110 : Cond.fieldLink RX10 147 "LockedCarts$Race" "board" "LLockedCarts$Board;" ∈ tb := tb_t 110 (by decide +kernel) (by decide +kernel)
theorem wd_111 : Cond.fieldLink RX8 21 "LockedCarts$Race" "carts" "[LLockedCarts$Cart;" ∈ tb := tb_t 111 (by decide +kernel) (by decide +kernel)
theorem wd_112 : Cond.fieldLink RX2 24 "LockedCarts$Race" "carts" "[LLockedCarts$Cart;" ∈ tb := tb_t 112 (by decide +kernel) (by decide +kernel)
theorem wd_113 : Cond.fieldLink RX0 39 "LockedCarts$Race" "carts" "[LLockedCarts$Cart;" ∈ tb := tb_t 113 (by decide +kernel) (by decide +kernel)
theorem wd_114 : Cond.fieldLink RX10 106 "LockedCarts$Race" "carts" "[LLockedCarts$Cart;" ∈ tb := tb_t 114 (by decide +kernel) (by decide +kernel)
theorem wd_115 : Cond.fieldLink RX7 25 "LockedCarts$Race" "cartCount" "I" ∈ tb := tb_t 115 (by decide +kernel) (by decide +kernel)
theorem wd_116 : Cond.fieldLink RX2 18 "LockedCarts$Race" "cartCount" "I" ∈ tb := tb_t 116 (by decide +kernel) (by decide +kernel)
theorem wd_117 : Cond.fieldLink RX0 26 "LockedCarts$Race" "cartCount" "I" ∈ tb := tb_t 117 (by decide +kernel) (by decide +kernel)
theorem wd_118 : Cond.fieldLink RX8 36 "LockedCarts$Race" "cartCount" "I" ∈ tb := tb_t 118 (by decide +kernel) (by decide +kernel)
theorem wd_119 : Cond.fieldLink RX10 167 "LockedCarts$Race" "cartCount" "I" ∈ tb := tb_t 119 (by decide +kernel) (by decide +kernel)
theorem wd_120 : Cond.fieldLink RX2 34 "LockedCarts$Race" "nextPhase" "I" ∈ tb := tb_t 120 (by decide +kernel) (by decide +kernel)
theorem wd_121 : Cond.fieldLink RX8 39 "LockedCarts$Race" "nextPhase" "I" ∈ tb := tb_t 121 (by decide +kernel) (by decide +kernel)
theorem wd_122 : Cond.fieldLink RX7 61 "LockedCarts$Race" "nextPhase" "I" ∈ tb := tb_t 122 (by decide +kernel) (by decide +kernel)
theorem wd_123 : Cond.fieldLink RX10 137 "LockedCarts$Race" "nextPhase" "I" ∈ tb := tb_t 123 (by decide +kernel) (by decide +kernel)
theorem wd_124 : Cond.fieldLink RX8 42 "LockedCarts$Race" "rounds" "I" ∈ tb := tb_t 124 (by decide +kernel) (by decide +kernel)
theorem wd_125 : Cond.fieldLink RX10 170 "LockedCarts$Race" "rounds" "I" ∈ tb := tb_t 125 (by decide +kernel) (by decide +kernel)
theorem wd_126 : Cond.fieldLink RX8 45 "LockedCarts$Race" "phasesDone" "I" ∈ tb := tb_t 126 (by decide +kernel) (by decide +kernel)
theorem wd_127 : Cond.fieldLink RX10 180 "LockedCarts$Race" "phasesDone" "I" ∈ tb := tb_t 127 (by decide +kernel) (by decide +kernel)
theorem wd_128 : Cond.fieldLink RX8 48 "LockedCarts$Race" "pushes" "I" ∈ tb := tb_t 128 (by decide +kernel) (by decide +kernel)
theorem wd_129 : Cond.fieldLink RX2 89 "LockedCarts$Race" "pushes" "I" ∈ tb := tb_t 129 (by decide +kernel) (by decide +kernel)
theorem wd_130 : Cond.fieldLink RX10 189 "LockedCarts$Race" "pushes" "I" ∈ tb := tb_t 130 (by decide +kernel) (by decide +kernel)
theorem wd_131 : Cond.fieldLink RX8 25 "LockedCarts$Race" "winner" "I" ∈ tb := tb_t 131 (by decide +kernel) (by decide +kernel)
theorem wd_132 : Cond.fieldLink RX10 177 "LockedCarts$Race" "winner" "I" ∈ tb := tb_t 132 (by decide +kernel) (by decide +kernel)
theorem wd_150 : Cond.classLink RX10 19 RX4 ∈ tb := tb_t 150 (by decide +kernel) (by decide +kernel)
theorem wd_151 : Cond.instantiable RX4 2 ∈ tb := tb_t 151 (by decide +kernel) (by decide +kernel)
theorem wd_153 : Cond.instanceMethod yX4_init ∈ tb := tb_t 153 (by decide +kernel) (by decide +kernel)
theorem wd_154 : Cond.code yX4_init cX4_init 1 none ∈ tb := tb_t 154 (by decide +kernel) (by decide +kernel)
theorem wd_155 : Cond.methodLink RX4 3 objectInit ∈ tb := tb_t 155 (by decide +kernel) (by decide +kernel)
theorem wd_156 : Cond.classLink RX4 9 RX8 ∈ tb := tb_t 156 (by decide +kernel) (by decide +kernel)
theorem wd_157 : Cond.arrayOver (FieldType.object "LockedCarts$Race") ∈ tb := tb_t 157 (by decide +kernel) (by decide +kernel)
theorem wd_159 : Cond.fieldLink RX4 12 "LockedCarts$History" "states" "[LLockedCarts$Race;" ∈ tb := tb_t 159 (by decide +kernel) (by decide +kernel)
theorem wd_160 : Cond.fieldLink RX4 18 "LockedCarts$History" "size" "I" ∈ tb := tb_t 160 (by decide +kernel) (by decide +kernel)
theorem wd_161 : Cond.fieldLink RX10 183 "LockedCarts$History" "size" "I" ∈ tb := tb_t 161 (by decide +kernel) (by decide +kernel)
theorem wd_167 : Cond.classLink RX10 26 RX7 ∈ tb := tb_t 167 (by decide +kernel) (by decide +kernel)
theorem wd_168 : Cond.instantiable RX7 2 ∈ tb := tb_t 168 (by decide +kernel) (by decide +kernel)
theorem wd_170 : Cond.instanceMethod yX7_init ∈ tb := tb_t 170 (by decide +kernel) (by decide +kernel)
theorem wd_171 : Cond.code yX7_init cX7_init 1 none ∈ tb := tb_t 171 (by decide +kernel) (by decide +kernel)
theorem wd_172 : Cond.methodLink RX7 3 objectInit ∈ tb := tb_t 172 (by decide +kernel) (by decide +kernel)
theorem wd_173 : Cond.classLink RX7 9 RX2 ∈ tb := tb_t 173 (by decide +kernel) (by decide +kernel)
theorem wd_174 : Cond.instantiable RX2 2 ∈ tb := tb_t 174 (by decide +kernel) (by decide +kernel)
theorem wd_176 : Cond.instanceMethod yX2_init ∈ tb := tb_t 176 (by decide +kernel) (by decide +kernel)
theorem wd_177 : Cond.code yX2_init cX2_init 1 none ∈ tb := tb_t 177 (by decide +kernel) (by decide +kernel)
theorem wd_178 : Cond.methodLink RX2 3 objectInit ∈ tb := tb_t 178 (by decide +kernel) (by decide +kernel)
theorem wd_179 : Cond.fieldLink RX2 9 "LockedCarts$Cards" "order" "[I" ∈ tb := tb_t 179 (by decide +kernel) (by decide +kernel)
theorem wd_180 : Cond.fieldLink RX7 40 "LockedCarts$Cards" "order" "[I" ∈ tb := tb_t 180 (by decide +kernel) (by decide +kernel)
theorem wd_181 : Cond.fieldLink RX2 15 "LockedCarts$Cards" "chain" "[I" ∈ tb := tb_t 181 (by decide +kernel) (by decide +kernel)
theorem wd_187 : Cond.classLink RX7 18 RX0 ∈ tb := tb_t 187 (by decide +kernel) (by decide +kernel)
theorem wd_188 : Cond.instantiable RX0 3 ∈ tb := tb_t 188 (by decide +kernel) (by decide +kernel)
theorem wd_190 : Cond.instanceMethod yX0_init ∈ tb := tb_t 190 (by decide +kernel) (by decide +kernel)
theorem wd_191 : Cond.code yX0_init cX0_init 1 none ∈ tb := tb_t 191 (by decide +kernel) (by decide +kernel)
theorem wd_192 : Cond.methodLink RX0 3 objectInit ∈ tb := tb_t 192 (by decide +kernel) (by decide +kernel)
theorem wd_193 : Cond.fieldLink RX0 9 "LockedCarts$Belts" "onBelt" "[Z" ∈ tb := tb_t 193 (by decide +kernel) (by decide +kernel)
theorem wd_194 : Cond.fieldLink RX0 15 "LockedCarts$Belts" "wanted" "[I" ∈ tb := tb_t 194 (by decide +kernel) (by decide +kernel)
theorem wd_195 : Cond.fieldLink RX0 19 "LockedCarts$Belts" "carried" "[Z" ∈ tb := tb_t 195 (by decide +kernel) (by decide +kernel)
theorem wd_203 : Cond.arrayClass FieldType.boolean ∈ tb := tb_t 203 (by decide +kernel) (by decide +kernel)
theorem wd_204 : Cond.fieldLink RX7 12 "LockedCarts$PhaseRunner" "cards" "LLockedCarts$Cards;" ∈ tb := tb_t 204 (by decide +kernel) (by decide +kernel)
theorem wd_205 : Cond.fieldLink RX7 21 "LockedCarts$PhaseRunner" "belts" "LLockedCarts$Belts;" ∈ tb := tb_t 205 (by decide +kernel) (by decide +kernel)
theorem wd_211 : Cond.classLink RX10 33 RX9 ∈ tb := tb_t 211 (by decide +kernel) (by decide +kernel)
theorem wd_212 : Cond.instantiable RX9 3 ∈ tb := tb_t 212 (by decide +kernel) (by decide +kernel)
theorem wd_214 : Cond.instanceMethod yX9_init ∈ tb := tb_t 214 (by decide +kernel) (by decide +kernel)
theorem wd_215 : Cond.code yX9_init cX9_init 1 none ∈ tb := tb_t 215 (by decide +kernel) (by decide +kernel)
theorem wd_216 : Cond.methodLink RX9 3 objectInit ∈ tb := tb_t 216 (by decide +kernel) (by decide +kernel)
theorem wd_217 : Cond.fieldLink RX9 9 "LockedCarts$Ways" "distances" "[I" ∈ tb := tb_t 217 (by decide +kernel) (by decide +kernel)
theorem wd_218 : Cond.fieldLink RX9 15 "LockedCarts$Ways" "queue" "[I" ∈ tb := tb_t 218 (by decide +kernel) (by decide +kernel)
theorem wd_219 : Cond.fieldLink RX9 24 "LockedCarts$Ways" "queued" "I" ∈ tb := tb_t 219 (by decide +kernel) (by decide +kernel)
theorem wd_227 : Cond.classLink RX10 40 RX6 ∈ tb := tb_t 227 (by decide +kernel) (by decide +kernel)
theorem wd_228 : Cond.instantiable RX6 5 ∈ tb := tb_t 228 (by decide +kernel) (by decide +kernel)
theorem wd_230 : Cond.instanceMethod yX6_init ∈ tb := tb_t 230 (by decide +kernel) (by decide +kernel)
theorem wd_231 : Cond.code yX6_init cX6_init 1 none ∈ tb := tb_t 231 (by decide +kernel) (by decide +kernel)
theorem wd_232 : Cond.methodLink RX6 3 objectInit ∈ tb := tb_t 232 (by decide +kernel) (by decide +kernel)
theorem wd_233 : Cond.fieldLink RX6 9 "LockedCarts$OrderText" "signs" "[C" ∈ tb := tb_t 233 (by decide +kernel) (by decide +kernel)
theorem wd_234 : Cond.fieldLink RX6 19 "LockedCarts$OrderText" "length" "I" ∈ tb := tb_t 234 (by decide +kernel) (by decide +kernel)
theorem wd_235 : Cond.fieldLink RX5 32 "LockedCarts$OrderText" "length" "I" ∈ tb := tb_t 235 (by decide +kernel) (by decide +kernel)
theorem wd_236 : Cond.fieldLink RX10 186 "LockedCarts$OrderText" "length" "I" ∈ tb := tb_t 236 (by decide +kernel) (by decide +kernel)
theorem wd_237 : Cond.fieldLink RX6 27 "LockedCarts$OrderText" "letter" "C" ∈ tb := tb_t 237 (by decide +kernel) (by decide +kernel)
theorem wd_238 : Cond.fieldLink RX5 59 "LockedCarts$OrderText" "letter" "C" ∈ tb := tb_t 238 (by decide +kernel) (by decide +kernel)
theorem wd_239 : Cond.fieldLink RX6 15 "LockedCarts$OrderText" "numbers" "[I" ∈ tb := tb_t 239 (by decide +kernel) (by decide +kernel)
theorem wd_240 : Cond.fieldLink RX5 45 "LockedCarts$OrderText" "numbers" "[I" ∈ tb := tb_t 240 (by decide +kernel) (by decide +kernel)
theorem wd_241 : Cond.fieldLink RX6 24 "LockedCarts$OrderText" "end" "I" ∈ tb := tb_t 241 (by decide +kernel) (by decide +kernel)
theorem wd_242 : Cond.fieldLink RX5 53 "LockedCarts$OrderText" "end" "I" ∈ tb := tb_t 242 (by decide +kernel) (by decide +kernel)
theorem wd_254 : Cond.arrayClass FieldType.char ∈ tb := tb_t 254 (by decide +kernel) (by decide +kernel)
theorem wd_255 : Cond.classLink RX10 47 RX5 ∈ tb := tb_t 255 (by decide +kernel) (by decide +kernel)
theorem wd_256 : Cond.instantiable RX5 6 ∈ tb := tb_t 256 (by decide +kernel) (by decide +kernel)
theorem wd_257 : Cond.methodLink RX10 49 yX5_init ∈ tb := tb_t 257 (by decide +kernel) (by decide +kernel)
theorem wd_258 : Cond.instanceMethod yX5_init ∈ tb := tb_t 258 (by decide +kernel) (by decide +kernel)
theorem wd_259 : Cond.code yX5_init cX5_init 3 none ∈ tb := tb_t 259 (by decide +kernel) (by decide +kernel)
theorem wd_260 : Cond.methodLink RX5 3 objectInit ∈ tb := tb_t 260 (by decide +kernel) (by decide +kernel)
theorem wd_261 : Cond.fieldLink RX5 9 "LockedCarts$OrderRunner" "text" "LLockedCarts$OrderText;" ∈ tb := tb_t 261 (by decide +kernel) (by decide +kernel)
theorem wd_262 : Cond.fieldLink RX5 15 "LockedCarts$OrderRunner" "runner" "LLockedCarts$PhaseRunner;" ∈ tb := tb_t 262 (by decide +kernel) (by decide +kernel)
theorem wd_263 : Cond.fieldLink RX5 23 "LockedCarts$OrderRunner" "done" "I" ∈ tb := tb_t 263 (by decide +kernel) (by decide +kernel)
theorem wd_264 : Cond.fieldLink RX10 215 "LockedCarts$OrderRunner" "done" "I" ∈ tb := tb_t 264 (by decide +kernel) (by decide +kernel)
theorem wd_265 : Cond.fieldLink RX5 26 "LockedCarts$OrderRunner" "position" "I" ∈ tb := tb_t 265 (by decide +kernel) (by decide +kernel)
theorem wd_266 : Cond.fieldLink RX10 206 "LockedCarts$OrderRunner" "position" "I" ∈ tb := tb_t 266 (by decide +kernel) (by decide +kernel)
theorem wd_267 : Cond.fieldLink RX5 19 "LockedCarts$OrderRunner" "reason" "I" ∈ tb := tb_t 267 (by decide +kernel) (by decide +kernel)
theorem wd_268 : Cond.fieldLink RX10 209 "LockedCarts$OrderRunner" "reason" "I" ∈ tb := tb_t 268 (by decide +kernel) (by decide +kernel)
theorem wd_269 : Cond.fieldLink RX5 29 "LockedCarts$OrderRunner" "cause" "I" ∈ tb := tb_t 269 (by decide +kernel) (by decide +kernel)
theorem wd_270 : Cond.fieldLink RX10 212 "LockedCarts$OrderRunner" "cause" "I" ∈ tb := tb_t 270 (by decide +kernel) (by decide +kernel)
theorem wd_284 : Cond.fieldLink RX10 10 "LockedCarts" "race" "LLockedCarts$Race;" ∈ tb := tb_t 284 (by decide +kernel) (by decide +kernel)
theorem wd_285 : Cond.fieldLink RX10 16 "LockedCarts" "trial" "LLockedCarts$Race;" ∈ tb := tb_t 285 (by decide +kernel) (by decide +kernel)
theorem wd_286 : Cond.fieldLink RX10 22 "LockedCarts" "history" "LLockedCarts$History;" ∈ tb := tb_t 286 (by decide +kernel) (by decide +kernel)
theorem wd_287 : Cond.fieldLink RX10 29 "LockedCarts" "runner" "LLockedCarts$PhaseRunner;" ∈ tb := tb_t 287 (by decide +kernel) (by decide +kernel)
theorem wd_288 : Cond.fieldLink RX10 36 "LockedCarts" "ways" "LLockedCarts$Ways;" ∈ tb := tb_t 288 (by decide +kernel) (by decide +kernel)
theorem wd_289 : Cond.fieldLink RX10 43 "LockedCarts" "text" "LLockedCarts$OrderText;" ∈ tb := tb_t 289 (by decide +kernel) (by decide +kernel)
theorem wd_290 : Cond.fieldLink RX10 52 "LockedCarts" "orders" "LLockedCarts$OrderRunner;" ∈ tb := tb_t 290 (by decide +kernel) (by decide +kernel)
theorem wd_306 : Cond.methodLink RL 13 yX10_kind ∈ tb := tb_t 306 (by decide +kernel) (by decide +kernel)
theorem wd_307 : Cond.instanceMethod yX10_kind ∈ tb := tb_t 307 (by decide +kernel) (by decide +kernel)
theorem wd_308 : Cond.selects RX10 yX10_kind yX10_kind ∈ tb := tb_t 308 (by decide +kernel) (by decide +kernel)
theorem wd_309 : Cond.code yX10_kind cX10_kind 3 (some FieldType.int) ∈ tb := tb_t 309 (by decide +kernel) (by decide +kernel)
theorem wd_310 : Cond.methodLink RX10 56 yX10_freshTrial ∈ tb := tb_t 310 (by decide +kernel) (by decide +kernel)
theorem wd_312 : Cond.instanceMethod yX10_freshTrial ∈ tb := tb_t 312 (by decide +kernel) (by decide +kernel)
theorem wd_313 : Cond.code yX10_freshTrial cX10_freshTrial 1 (some (FieldType.object "LockedCarts$Race")) ∈ tb := tb_t 313 (by decide +kernel) (by decide +kernel)
theorem wd_314 : Cond.methodLink RX10 218 yX8_copyFrom ∈ tb := tb_t 314 (by decide +kernel) (by decide +kernel)
theorem wd_315 : Cond.instanceMethod yX8_copyFrom ∈ tb := tb_t 315 (by decide +kernel) (by decide +kernel)
theorem wd_316 : Cond.selects RX8 yX8_copyFrom yX8_copyFrom ∈ tb := tb_t 316 (by decide +kernel) (by decide +kernel)
theorem wd_317 : Cond.code yX8_copyFrom cX8_copyFrom 3 none ∈ tb := tb_t 317 (by decide +kernel) (by decide +kernel)
theorem wd_318 : Cond.methodLink RX8 29 yX1_copyFrom ∈ tb := tb_t 318 (by decide +kernel) (by decide +kernel)
theorem wd_319 : Cond.instanceMethod yX1_copyFrom ∈ tb := tb_t 319 (by decide +kernel) (by decide +kernel)
theorem wd_320 : Cond.selects RX1 yX1_copyFrom yX1_copyFrom ∈ tb := tb_t 320 (by decide +kernel) (by decide +kernel)
theorem wd_321 : Cond.code yX1_copyFrom cX1_copyFrom 2 none ∈ tb := tb_t 321 (by decide +kernel) (by decide +kernel)
theorem wd_322 : Cond.methodLink RX1 21 ⟨"java/lang/System", "arraycopy", "(Ljava/lang/Object;ILjava/lang/Object;II)V"⟩ ∈ tb := tb_t 322 (by decide +kernel) (by decide +kernel)
theorem wd_323 : Cond.static arraycopyName ∈ tb := tb_t 323 (by decide +kernel) (by decide +kernel)
theorem wd_324 : Cond.native arraycopyName ∈ tb := tb_t 324 (by decide +kernel) (by decide +kernel)
theorem wd_325 : Cond.methodLink RX8 33 yX3_copyFrom ∈ tb := tb_t 325 (by decide +kernel) (by decide +kernel)
theorem wd_326 : Cond.instanceMethod yX3_copyFrom ∈ tb := tb_t 326 (by decide +kernel) (by decide +kernel)
theorem wd_327 : Cond.selects RX3 yX3_copyFrom yX3_copyFrom ∈ tb := tb_t 327 (by decide +kernel) (by decide +kernel)
theorem wd_328 : Cond.code yX3_copyFrom cX3_copyFrom 2 none ∈ tb := tb_t 328 (by decide +kernel) (by decide +kernel)
theorem wd_329 : Cond.methodLink RX3 22 ⟨"java/lang/System", "arraycopy", "(Ljava/lang/Object;ILjava/lang/Object;II)V"⟩ ∈ tb := tb_t 329 (by decide +kernel) (by decide +kernel)
theorem wd_330 : Cond.methodLink RX10 60 yX8_setKind ∈ tb := tb_t 330 (by decide +kernel) (by decide +kernel)
theorem wd_331 : Cond.instanceMethod yX8_setKind ∈ tb := tb_t 331 (by decide +kernel) (by decide +kernel)
theorem wd_332 : Cond.selects RX8 yX8_setKind yX8_setKind ∈ tb := tb_t 332 (by decide +kernel) (by decide +kernel)
theorem wd_333 : Cond.code yX8_setKind cX8_setKind 4 (some FieldType.int) ∈ tb := tb_t 333 (by decide +kernel) (by decide +kernel)
theorem wd_335 : Cond.static yX10_isCell ∈ tb := tb_t 335 (by decide +kernel) (by decide +kernel)
theorem wd_336 : Cond.code yX10_isCell cX10_isCell 1 (some FieldType.boolean) ∈ tb := tb_t 336 (by decide +kernel) (by decide +kernel)
theorem wd_338 : Cond.static yX10_isWithin ∈ tb := tb_t 338 (by decide +kernel) (by decide +kernel)
theorem wd_339 : Cond.code yX10_isWithin cX10_isWithin 3 (some FieldType.boolean) ∈ tb := tb_t 339 (by decide +kernel) (by decide +kernel)
theorem wd_340 : Cond.constant RX8 83 (-1000001 : Int32) ∈ tb := tb_t 340 (by decide +kernel) (by decide +kernel)
theorem wd_341 : Cond.methodLink RX8 68 yX8_cartOn ∈ tb := tb_t 341 (by decide +kernel) (by decide +kernel)
theorem wd_342 : Cond.instanceMethod yX8_cartOn ∈ tb := tb_t 342 (by decide +kernel) (by decide +kernel)
theorem wd_343 : Cond.selects RX8 yX8_cartOn yX8_cartOn ∈ tb := tb_t 343 (by decide +kernel) (by decide +kernel)
theorem wd_344 : Cond.code yX8_cartOn cX8_cartOn 3 (some FieldType.int) ∈ tb := tb_t 344 (by decide +kernel) (by decide +kernel)
theorem wd_345 : Cond.constant RX8 84 (-1000002 : Int32) ∈ tb := tb_t 345 (by decide +kernel) (by decide +kernel)
theorem wd_346 : Cond.methodLink RX10 64 yX10_keep ∈ tb := tb_t 346 (by decide +kernel) (by decide +kernel)
theorem wd_348 : Cond.instanceMethod yX10_keep ∈ tb := tb_t 348 (by decide +kernel) (by decide +kernel)
theorem wd_349 : Cond.code yX10_keep cX10_keep 2 (some FieldType.int) ∈ tb := tb_t 349 (by decide +kernel) (by decide +kernel)
theorem wd_350 : Cond.methodLink RX10 221 yX10_isError ∈ tb := tb_t 350 (by decide +kernel) (by decide +kernel)
theorem wd_351 : Cond.static yX10_isError ∈ tb := tb_t 351 (by decide +kernel) (by decide +kernel)
theorem wd_352 : Cond.code yX10_isError cX10_isError 1 (some FieldType.boolean) ∈ tb := tb_t 352 (by decide +kernel) (by decide +kernel)
theorem wd_353 : Cond.methodLink RX10 224 yX4_add ∈ tb := tb_t 353 (by decide +kernel) (by decide +kernel)
theorem wd_354 : Cond.instanceMethod yX4_add ∈ tb := tb_t 354 (by decide +kernel) (by decide +kernel)
theorem wd_355 : Cond.selects RX4 yX4_add yX4_add ∈ tb := tb_t 355 (by decide +kernel) (by decide +kernel)
theorem wd_356 : Cond.code yX4_add cX4_add 2 none ∈ tb := tb_t 356 (by decide +kernel) (by decide +kernel)
theorem wd_357 : Cond.methodLink RX4 22 yX4_dropOldest ∈ tb := tb_t 357 (by decide +kernel) (by decide +kernel)
theorem wd_359 : Cond.instanceMethod yX4_dropOldest ∈ tb := tb_t 359 (by decide +kernel) (by decide +kernel)
theorem wd_360 : Cond.code yX4_dropOldest cX4_dropOldest 3 none ∈ tb := tb_t 360 (by decide +kernel) (by decide +kernel)
theorem wd_361 : Cond.methodLink RX4 25 yX8_copyFrom ∈ tb := tb_t 361 (by decide +kernel) (by decide +kernel)
theorem wd_362 : Cond.methodLink RL 18 yX10_wall ∈ tb := tb_t 362 (by decide +kernel) (by decide +kernel)
theorem wd_363 : Cond.instanceMethod yX10_wall ∈ tb := tb_t 363 (by decide +kernel) (by decide +kernel)
theorem wd_364 : Cond.selects RX10 yX10_wall yX10_wall ∈ tb := tb_t 364 (by decide +kernel) (by decide +kernel)
theorem wd_365 : Cond.code yX10_wall cX10_wall 3 (some FieldType.int) ∈ tb := tb_t 365 (by decide +kernel) (by decide +kernel)
theorem wd_366 : Cond.methodLink RX10 68 yX8_flipWall ∈ tb := tb_t 366 (by decide +kernel) (by decide +kernel)
theorem wd_367 : Cond.instanceMethod yX8_flipWall ∈ tb := tb_t 367 (by decide +kernel) (by decide +kernel)
theorem wd_368 : Cond.selects RX8 yX8_flipWall yX8_flipWall ∈ tb := tb_t 368 (by decide +kernel) (by decide +kernel)
theorem wd_369 : Cond.code yX8_flipWall cX8_flipWall 3 (some FieldType.int) ∈ tb := tb_t 369 (by decide +kernel) (by decide +kernel)
theorem wd_371 : Cond.static yX10_isDirection ∈ tb := tb_t 371 (by decide +kernel) (by decide +kernel)
theorem wd_372 : Cond.code yX10_isDirection cX10_isDirection 1 (some FieldType.boolean) ∈ tb := tb_t 372 (by decide +kernel) (by decide +kernel)
theorem wd_373 : Cond.methodLink RX8 92 yX1_flipWall ∈ tb := tb_t 373 (by decide +kernel) (by decide +kernel)
theorem wd_374 : Cond.instanceMethod yX1_flipWall ∈ tb := tb_t 374 (by decide +kernel) (by decide +kernel)
theorem wd_375 : Cond.selects RX1 yX1_flipWall yX1_flipWall ∈ tb := tb_t 375 (by decide +kernel) (by decide +kernel)
theorem wd_376 : Cond.code yX1_flipWall cX1_flipWall 3 none ∈ tb := tb_t 376 (by decide +kernel) (by decide +kernel)
theorem wd_377 : Cond.methodLink RX1 31 yX1_flipSide ∈ tb := tb_t 377 (by decide +kernel) (by decide +kernel)
theorem wd_379 : Cond.instanceMethod yX1_flipSide ∈ tb := tb_t 379 (by decide +kernel) (by decide +kernel)
theorem wd_380 : Cond.code yX1_flipSide cX1_flipSide 3 none ∈ tb := tb_t 380 (by decide +kernel) (by decide +kernel)
theorem wd_381 : Cond.methodLink RX1 35 yX1_neighbour ∈ tb := tb_t 381 (by decide +kernel) (by decide +kernel)
theorem wd_382 : Cond.static yX1_neighbour ∈ tb := tb_t 382 (by decide +kernel) (by decide +kernel)
theorem wd_383 : Cond.code yX1_neighbour cX1_neighbour 3 (some FieldType.int) ∈ tb := tb_t 383 (by decide +kernel) (by decide +kernel)
theorem wd_385 : Cond.static yX10_turned ∈ tb := tb_t 385 (by decide +kernel) (by decide +kernel)
theorem wd_386 : Cond.code yX10_turned cX10_turned 2 (some FieldType.int) ∈ tb := tb_t 386 (by decide +kernel) (by decide +kernel)
theorem wd_387 : Cond.methodLink RX8 96 yX1_hasWall ∈ tb := tb_t 387 (by decide +kernel) (by decide +kernel)
theorem wd_388 : Cond.instanceMethod yX1_hasWall ∈ tb := tb_t 388 (by decide +kernel) (by decide +kernel)
theorem wd_389 : Cond.selects RX1 yX1_hasWall yX1_hasWall ∈ tb := tb_t 389 (by decide +kernel) (by decide +kernel)
theorem wd_390 : Cond.code yX1_hasWall cX1_hasWall 3 (some FieldType.boolean) ∈ tb := tb_t 390 (by decide +kernel) (by decide +kernel)
theorem wd_391 : Cond.methodLink RL 22 yX10_flag ∈ tb := tb_t 391 (by decide +kernel) (by decide +kernel)
theorem wd_392 : Cond.instanceMethod yX10_flag ∈ tb := tb_t 392 (by decide +kernel) (by decide +kernel)
theorem wd_393 : Cond.selects RX10 yX10_flag yX10_flag ∈ tb := tb_t 393 (by decide +kernel) (by decide +kernel)
theorem wd_394 : Cond.code yX10_flag cX10_flag 3 (some FieldType.int) ∈ tb := tb_t 394 (by decide +kernel) (by decide +kernel)
theorem wd_395 : Cond.methodLink RX10 71 yX8_layFlag ∈ tb := tb_t 395 (by decide +kernel) (by decide +kernel)
theorem wd_396 : Cond.instanceMethod yX8_layFlag ∈ tb := tb_t 396 (by decide +kernel) (by decide +kernel)
theorem wd_397 : Cond.selects RX8 yX8_layFlag yX8_layFlag ∈ tb := tb_t 397 (by decide +kernel) (by decide +kernel)
theorem wd_398 : Cond.code yX8_layFlag cX8_layFlag 3 (some FieldType.int) ∈ tb := tb_t 398 (by decide +kernel) (by decide +kernel)
theorem wd_399 : Cond.methodLink RX8 106 yJ9_max_7cf53 ∈ tb := tb_t 399 (by decide +kernel) (by decide +kernel)
theorem wd_400 : Cond.static yJ9_max_7cf53 ∈ tb := tb_t 400 (by decide +kernel) (by decide +kernel)
theorem wd_401 : Cond.code yJ9_max_7cf53 cJ9_max_7cf53 2 (some FieldType.int) ∈ tb := tb_t 401 (by decide +kernel) (by decide +kernel)
theorem wd_402 : Cond.methodLink RL 26 yX10_cart ∈ tb := tb_t 402 (by decide +kernel) (by decide +kernel)
theorem wd_403 : Cond.instanceMethod yX10_cart ∈ tb := tb_t 403 (by decide +kernel) (by decide +kernel)
theorem wd_404 : Cond.selects RX10 yX10_cart yX10_cart ∈ tb := tb_t 404 (by decide +kernel) (by decide +kernel)
theorem wd_405 : Cond.code yX10_cart cX10_cart 3 (some FieldType.int) ∈ tb := tb_t 405 (by decide +kernel) (by decide +kernel)
theorem wd_406 : Cond.methodLink RX10 74 yX8_addCart ∈ tb := tb_t 406 (by decide +kernel) (by decide +kernel)
theorem wd_407 : Cond.instanceMethod yX8_addCart ∈ tb := tb_t 407 (by decide +kernel) (by decide +kernel)
theorem wd_408 : Cond.selects RX8 yX8_addCart yX8_addCart ∈ tb := tb_t 408 (by decide +kernel) (by decide +kernel)
theorem wd_409 : Cond.code yX8_addCart cX8_addCart 3 (some FieldType.int) ∈ tb := tb_t 409 (by decide +kernel) (by decide +kernel)
theorem wd_410 : Cond.methodLink RX8 112 yX1_isPit ∈ tb := tb_t 410 (by decide +kernel) (by decide +kernel)
theorem wd_411 : Cond.instanceMethod yX1_isPit ∈ tb := tb_t 411 (by decide +kernel) (by decide +kernel)
theorem wd_412 : Cond.selects RX1 yX1_isPit yX1_isPit ∈ tb := tb_t 412 (by decide +kernel) (by decide +kernel)
theorem wd_413 : Cond.code yX1_isPit cX1_isPit 2 (some FieldType.boolean) ∈ tb := tb_t 413 (by decide +kernel) (by decide +kernel)
theorem wd_414 : Cond.constant RX8 115 (-1000003 : Int32) ∈ tb := tb_t 414 (by decide +kernel) (by decide +kernel)
theorem wd_415 : Cond.methodLink RX8 116 yX3_begin ∈ tb := tb_t 415 (by decide +kernel) (by decide +kernel)
theorem wd_416 : Cond.instanceMethod yX3_begin ∈ tb := tb_t 416 (by decide +kernel) (by decide +kernel)
theorem wd_417 : Cond.selects RX3 yX3_begin yX3_begin ∈ tb := tb_t 417 (by decide +kernel) (by decide +kernel)
theorem wd_418 : Cond.code yX3_begin cX3_begin 3 none ∈ tb := tb_t 418 (by decide +kernel) (by decide +kernel)
theorem wd_419 : Cond.methodLink RL 30 yX10_card ∈ tb := tb_t 419 (by decide +kernel) (by decide +kernel)
theorem wd_420 : Cond.instanceMethod yX10_card ∈ tb := tb_t 420 (by decide +kernel) (by decide +kernel)
theorem wd_421 : Cond.selects RX10 yX10_card yX10_card ∈ tb := tb_t 421 (by decide +kernel) (by decide +kernel)
theorem wd_422 : Cond.code yX10_card cX10_card 5 (some FieldType.int) ∈ tb := tb_t 422 (by decide +kernel) (by decide +kernel)
theorem wd_423 : Cond.methodLink RX10 77 yX8_layCard ∈ tb := tb_t 423 (by decide +kernel) (by decide +kernel)
theorem wd_424 : Cond.instanceMethod yX8_layCard ∈ tb := tb_t 424 (by decide +kernel) (by decide +kernel)
theorem wd_425 : Cond.selects RX8 yX8_layCard yX8_layCard ∈ tb := tb_t 425 (by decide +kernel) (by decide +kernel)
theorem wd_426 : Cond.code yX8_layCard cX8_layCard 6 (some FieldType.int) ∈ tb := tb_t 426 (by decide +kernel) (by decide +kernel)
theorem wd_427 : Cond.methodLink RX8 119 yX8_hasCart ∈ tb := tb_t 427 (by decide +kernel) (by decide +kernel)
theorem wd_428 : Cond.instanceMethod yX8_hasCart ∈ tb := tb_t 428 (by decide +kernel) (by decide +kernel)
theorem wd_429 : Cond.selects RX8 yX8_hasCart yX8_hasCart ∈ tb := tb_t 429 (by decide +kernel) (by decide +kernel)
theorem wd_430 : Cond.code yX8_hasCart cX8_hasCart 2 (some FieldType.boolean) ∈ tb := tb_t 430 (by decide +kernel) (by decide +kernel)
theorem wd_432 : Cond.static yX10_isRegister ∈ tb := tb_t 432 (by decide +kernel) (by decide +kernel)
theorem wd_433 : Cond.code yX10_isRegister cX10_isRegister 1 (some FieldType.boolean) ∈ tb := tb_t 433 (by decide +kernel) (by decide +kernel)
theorem wd_434 : Cond.methodLink RX8 125 yX3_isLocked ∈ tb := tb_t 434 (by decide +kernel) (by decide +kernel)
theorem wd_435 : Cond.instanceMethod yX3_isLocked ∈ tb := tb_t 435 (by decide +kernel) (by decide +kernel)
theorem wd_436 : Cond.selects RX3 yX3_isLocked yX3_isLocked ∈ tb := tb_t 436 (by decide +kernel) (by decide +kernel)
theorem wd_437 : Cond.code yX3_isLocked cX3_isLocked 2 (some FieldType.boolean) ∈ tb := tb_t 437 (by decide +kernel) (by decide +kernel)
theorem wd_438 : Cond.methodLink RX3 52 yX3_unlockedRegisters ∈ tb := tb_t 438 (by decide +kernel) (by decide +kernel)
theorem wd_439 : Cond.instanceMethod yX3_unlockedRegisters ∈ tb := tb_t 439 (by decide +kernel) (by decide +kernel)
theorem wd_440 : Cond.selects RX3 yX3_unlockedRegisters yX3_unlockedRegisters ∈ tb := tb_t 440 (by decide +kernel) (by decide +kernel)
theorem wd_441 : Cond.code yX3_unlockedRegisters cX3_unlockedRegisters 1 (some FieldType.int) ∈ tb := tb_t 441 (by decide +kernel) (by decide +kernel)
theorem wd_442 : Cond.methodLink RX3 46 yJ9_max_7cf53 ∈ tb := tb_t 442 (by decide +kernel) (by decide +kernel)
theorem wd_443 : Cond.methodLink RX8 54 yX3_isOut ∈ tb := tb_t 443 (by decide +kernel) (by decide +kernel)
theorem wd_444 : Cond.instanceMethod yX3_isOut ∈ tb := tb_t 444 (by decide +kernel) (by decide +kernel)
theorem wd_445 : Cond.selects RX3 yX3_isOut yX3_isOut ∈ tb := tb_t 445 (by decide +kernel) (by decide +kernel)
theorem wd_446 : Cond.code yX3_isOut cX3_isOut 1 (some FieldType.boolean) ∈ tb := tb_t 446 (by decide +kernel) (by decide +kernel)
theorem wd_447 : Cond.methodLink RX8 128 yX3_lay ∈ tb := tb_t 447 (by decide +kernel) (by decide +kernel)
theorem wd_448 : Cond.instanceMethod yX3_lay ∈ tb := tb_t 448 (by decide +kernel) (by decide +kernel)
theorem wd_449 : Cond.selects RX3 yX3_lay yX3_lay ∈ tb := tb_t 449 (by decide +kernel) (by decide +kernel)
theorem wd_450 : Cond.code yX3_lay cX3_lay 4 none ∈ tb := tb_t 450 (by decide +kernel) (by decide +kernel)
theorem wd_451 : Cond.methodLink RX8 132 yX3_cardSet ∈ tb := tb_t 451 (by decide +kernel) (by decide +kernel)
theorem wd_452 : Cond.instanceMethod yX3_cardSet ∈ tb := tb_t 452 (by decide +kernel) (by decide +kernel)
theorem wd_453 : Cond.selects RX3 yX3_cardSet yX3_cardSet ∈ tb := tb_t 453 (by decide +kernel) (by decide +kernel)
theorem wd_454 : Cond.code yX3_cardSet cX3_cardSet 3 (some FieldType.int) ∈ tb := tb_t 454 (by decide +kernel) (by decide +kernel)
theorem wd_455 : Cond.methodLink RX8 136 yJ6_bitCount_0f7a4 ∈ tb := tb_t 455 (by decide +kernel) (by decide +kernel)
theorem wd_456 : Cond.static yJ6_bitCount_0f7a4 ∈ tb := tb_t 456 (by decide +kernel) (by decide +kernel)
theorem wd_457 : Cond.code yJ6_bitCount_0f7a4 cJ6_bitCount_0f7a4 1 (some FieldType.int) ∈ tb := tb_t 457 (by decide +kernel) (by decide +kernel)
theorem wd_458 : Cond.constant RJ6 265 (1431655765 : Int32) ∈ tb := tb_t 458 (by decide +kernel) (by decide +kernel)
theorem wd_459 : Cond.constant RJ6 266 (858993459 : Int32) ∈ tb := tb_t 459 (by decide +kernel) (by decide +kernel)
theorem wd_460 : Cond.constant RJ6 267 (252645135 : Int32) ∈ tb := tb_t 460 (by decide +kernel) (by decide +kernel)
theorem wd_461 : Cond.methodLink RL 35 yX10_damage ∈ tb := tb_t 461 (by decide +kernel) (by decide +kernel)
theorem wd_462 : Cond.instanceMethod yX10_damage ∈ tb := tb_t 462 (by decide +kernel) (by decide +kernel)
theorem wd_463 : Cond.selects RX10 yX10_damage yX10_damage ∈ tb := tb_t 463 (by decide +kernel) (by decide +kernel)
theorem wd_464 : Cond.code yX10_damage cX10_damage 3 (some FieldType.int) ∈ tb := tb_t 464 (by decide +kernel) (by decide +kernel)
theorem wd_465 : Cond.methodLink RX10 81 yX8_harm ∈ tb := tb_t 465 (by decide +kernel) (by decide +kernel)
theorem wd_466 : Cond.instanceMethod yX8_harm ∈ tb := tb_t 466 (by decide +kernel) (by decide +kernel)
theorem wd_467 : Cond.selects RX8 yX8_harm yX8_harm ∈ tb := tb_t 467 (by decide +kernel) (by decide +kernel)
theorem wd_468 : Cond.code yX8_harm cX8_harm 4 (some FieldType.int) ∈ tb := tb_t 468 (by decide +kernel) (by decide +kernel)
theorem wd_469 : Cond.methodLink RX8 141 yX3_addDamage ∈ tb := tb_t 469 (by decide +kernel) (by decide +kernel)
theorem wd_470 : Cond.instanceMethod yX3_addDamage ∈ tb := tb_t 470 (by decide +kernel) (by decide +kernel)
theorem wd_471 : Cond.selects RX3 yX3_addDamage yX3_addDamage ∈ tb := tb_t 471 (by decide +kernel) (by decide +kernel)
theorem wd_472 : Cond.code yX3_addDamage cX3_addDamage 2 none ∈ tb := tb_t 472 (by decide +kernel) (by decide +kernel)
theorem wd_473 : Cond.methodLink RX3 62 yJ9_min_7cf53 ∈ tb := tb_t 473 (by decide +kernel) (by decide +kernel)
theorem wd_474 : Cond.static yJ9_min_7cf53 ∈ tb := tb_t 474 (by decide +kernel) (by decide +kernel)
theorem wd_475 : Cond.code yJ9_min_7cf53 cJ9_min_7cf53 2 (some FieldType.int) ∈ tb := tb_t 475 (by decide +kernel) (by decide +kernel)
theorem wd_476 : Cond.methodLink RL 39 yX10_phase ∈ tb := tb_t 476 (by decide +kernel) (by decide +kernel)
theorem wd_477 : Cond.instanceMethod yX10_phase ∈ tb := tb_t 477 (by decide +kernel) (by decide +kernel)
theorem wd_478 : Cond.selects RX10 yX10_phase yX10_phase ∈ tb := tb_t 478 (by decide +kernel) (by decide +kernel)
theorem wd_479 : Cond.code yX10_phase cX10_phase 1 (some FieldType.int) ∈ tb := tb_t 479 (by decide +kernel) (by decide +kernel)
theorem wd_480 : Cond.methodLink RX10 84 yX7_runNext ∈ tb := tb_t 480 (by decide +kernel) (by decide +kernel)
theorem wd_481 : Cond.instanceMethod yX7_runNext ∈ tb := tb_t 481 (by decide +kernel) (by decide +kernel)
theorem wd_482 : Cond.selects RX7 yX7_runNext yX7_runNext ∈ tb := tb_t 482 (by decide +kernel) (by decide +kernel)
theorem wd_483 : Cond.code yX7_runNext cX7_runNext 5 (some FieldType.int) ∈ tb := tb_t 483 (by decide +kernel) (by decide +kernel)
theorem wd_484 : Cond.constant RX7 31 (-1000002 : Int32) ∈ tb := tb_t 484 (by decide +kernel) (by decide +kernel)
theorem wd_485 : Cond.methodLink RX7 32 yX8_timesOut ∈ tb := tb_t 485 (by decide +kernel) (by decide +kernel)
theorem wd_486 : Cond.instanceMethod yX8_timesOut ∈ tb := tb_t 486 (by decide +kernel) (by decide +kernel)
theorem wd_487 : Cond.selects RX8 yX8_timesOut yX8_timesOut ∈ tb := tb_t 487 (by decide +kernel) (by decide +kernel)
theorem wd_488 : Cond.code yX8_timesOut cX8_timesOut 3 (some FieldType.int) ∈ tb := tb_t 488 (by decide +kernel) (by decide +kernel)
theorem wd_489 : Cond.methodLink RX7 36 yX2_arrange ∈ tb := tb_t 489 (by decide +kernel) (by decide +kernel)
theorem wd_490 : Cond.instanceMethod yX2_arrange ∈ tb := tb_t 490 (by decide +kernel) (by decide +kernel)
theorem wd_491 : Cond.selects RX2 yX2_arrange yX2_arrange ∈ tb := tb_t 491 (by decide +kernel) (by decide +kernel)
theorem wd_492 : Cond.code yX2_arrange cX2_arrange 5 (some FieldType.int) ∈ tb := tb_t 492 (by decide +kernel) (by decide +kernel)
theorem wd_493 : Cond.methodLink RX2 28 yX3_isOut ∈ tb := tb_t 493 (by decide +kernel) (by decide +kernel)
theorem wd_494 : Cond.methodLink RX2 37 yX3_hasCard ∈ tb := tb_t 494 (by decide +kernel) (by decide +kernel)
theorem wd_495 : Cond.instanceMethod yX3_hasCard ∈ tb := tb_t 495 (by decide +kernel) (by decide +kernel)
theorem wd_496 : Cond.selects RX3 yX3_hasCard yX3_hasCard ∈ tb := tb_t 496 (by decide +kernel) (by decide +kernel)
theorem wd_497 : Cond.code yX3_hasCard cX3_hasCard 2 (some FieldType.boolean) ∈ tb := tb_t 497 (by decide +kernel) (by decide +kernel)
theorem wd_498 : Cond.methodLink RX2 41 yX2_insert ∈ tb := tb_t 498 (by decide +kernel) (by decide +kernel)
theorem wd_500 : Cond.instanceMethod yX2_insert ∈ tb := tb_t 500 (by decide +kernel) (by decide +kernel)
theorem wd_501 : Cond.code yX2_insert cX2_insert 7 none ∈ tb := tb_t 501 (by decide +kernel) (by decide +kernel)
theorem wd_502 : Cond.methodLink RX7 44 yX2_follow ∈ tb := tb_t 502 (by decide +kernel) (by decide +kernel)
theorem wd_503 : Cond.instanceMethod yX2_follow ∈ tb := tb_t 503 (by decide +kernel) (by decide +kernel)
theorem wd_504 : Cond.selects RX2 yX2_follow yX2_follow ∈ tb := tb_t 504 (by decide +kernel) (by decide +kernel)
theorem wd_505 : Cond.code yX2_follow cX2_follow 9 none ∈ tb := tb_t 505 (by decide +kernel) (by decide +kernel)
theorem wd_507 : Cond.methodLink RX2 58 yX2_step ∈ tb := tb_t 507 (by decide +kernel) (by decide +kernel)
theorem wd_509 : Cond.instanceMethod yX2_step ∈ tb := tb_t 509 (by decide +kernel) (by decide +kernel)
theorem wd_510 : Cond.code yX2_step cX2_step 8 (some FieldType.boolean) ∈ tb := tb_t 510 (by decide +kernel) (by decide +kernel)
theorem wd_511 : Cond.methodLink RX2 72 yX1_hasWall ∈ tb := tb_t 511 (by decide +kernel) (by decide +kernel)
theorem wd_512 : Cond.methodLink RX2 78 yX1_neighbour ∈ tb := tb_t 512 (by decide +kernel) (by decide +kernel)
theorem wd_513 : Cond.methodLink RX2 81 yX8_cartOn ∈ tb := tb_t 513 (by decide +kernel) (by decide +kernel)
theorem wd_514 : Cond.methodLink RX2 85 yX8_enter ∈ tb := tb_t 514 (by decide +kernel) (by decide +kernel)
theorem wd_515 : Cond.instanceMethod yX8_enter ∈ tb := tb_t 515 (by decide +kernel) (by decide +kernel)
theorem wd_516 : Cond.selects RX8 yX8_enter yX8_enter ∈ tb := tb_t 516 (by decide +kernel) (by decide +kernel)
theorem wd_517 : Cond.code yX8_enter cX8_enter 3 none ∈ tb := tb_t 517 (by decide +kernel) (by decide +kernel)
theorem wd_518 : Cond.methodLink RX2 62 yX3_bump ∈ tb := tb_t 518 (by decide +kernel) (by decide +kernel)
theorem wd_519 : Cond.instanceMethod yX3_bump ∈ tb := tb_t 519 (by decide +kernel) (by decide +kernel)
theorem wd_520 : Cond.selects RX3 yX3_bump yX3_bump ∈ tb := tb_t 520 (by decide +kernel) (by decide +kernel)
theorem wd_521 : Cond.code yX3_bump cX3_bump 1 none ∈ tb := tb_t 521 (by decide +kernel) (by decide +kernel)
theorem wd_522 : Cond.methodLink RX3 65 yX3_addDamage ∈ tb := tb_t 522 (by decide +kernel) (by decide +kernel)
theorem wd_523 : Cond.methodLink RX7 48 yX0_carry ∈ tb := tb_t 523 (by decide +kernel) (by decide +kernel)
theorem wd_524 : Cond.instanceMethod yX0_carry ∈ tb := tb_t 524 (by decide +kernel) (by decide +kernel)
theorem wd_525 : Cond.selects RX0 yX0_carry yX0_carry ∈ tb := tb_t 525 (by decide +kernel) (by decide +kernel)
theorem wd_526 : Cond.code yX0_carry cX0_carry 4 none ∈ tb := tb_t 526 (by decide +kernel) (by decide +kernel)
theorem wd_527 : Cond.methodLink RX0 22 yX0_askAll ∈ tb := tb_t 527 (by decide +kernel) (by decide +kernel)
theorem wd_529 : Cond.instanceMethod yX0_askAll ∈ tb := tb_t 529 (by decide +kernel) (by decide +kernel)
theorem wd_530 : Cond.code yX0_askAll cX0_askAll 6 none ∈ tb := tb_t 530 (by decide +kernel) (by decide +kernel)
theorem wd_531 : Cond.methodLink RX0 56 yX1_kindOn ∈ tb := tb_t 531 (by decide +kernel) (by decide +kernel)
theorem wd_532 : Cond.instanceMethod yX1_kindOn ∈ tb := tb_t 532 (by decide +kernel) (by decide +kernel)
theorem wd_533 : Cond.selects RX1 yX1_kindOn yX1_kindOn ∈ tb := tb_t 533 (by decide +kernel) (by decide +kernel)
theorem wd_534 : Cond.code yX1_kindOn cX1_kindOn 2 (some FieldType.int) ∈ tb := tb_t 534 (by decide +kernel) (by decide +kernel)
theorem wd_535 : Cond.methodLink RX0 62 yX1_neighbour ∈ tb := tb_t 535 (by decide +kernel) (by decide +kernel)
theorem wd_536 : Cond.methodLink RX0 66 yX1_hasWall ∈ tb := tb_t 536 (by decide +kernel) (by decide +kernel)
theorem wd_537 : Cond.methodLink RX0 32 yX0_isHindered ∈ tb := tb_t 537 (by decide +kernel) (by decide +kernel)
theorem wd_539 : Cond.instanceMethod yX0_isHindered ∈ tb := tb_t 539 (by decide +kernel) (by decide +kernel)
theorem wd_540 : Cond.code yX0_isHindered cX0_isHindered 6 (some FieldType.boolean) ∈ tb := tb_t 540 (by decide +kernel) (by decide +kernel)
theorem wd_541 : Cond.methodLink RX0 36 yX0_isBlocked ∈ tb := tb_t 541 (by decide +kernel) (by decide +kernel)
theorem wd_543 : Cond.instanceMethod yX0_isBlocked ∈ tb := tb_t 543 (by decide +kernel) (by decide +kernel)
theorem wd_544 : Cond.code yX0_isBlocked cX0_isBlocked 4 (some FieldType.boolean) ∈ tb := tb_t 544 (by decide +kernel) (by decide +kernel)
theorem wd_545 : Cond.methodLink RX0 70 yX8_cartOn ∈ tb := tb_t 545 (by decide +kernel) (by decide +kernel)
theorem wd_546 : Cond.methodLink RX0 43 yX8_enter ∈ tb := tb_t 546 (by decide +kernel) (by decide +kernel)
theorem wd_547 : Cond.methodLink RX7 52 yX8_turnOnGears ∈ tb := tb_t 547 (by decide +kernel) (by decide +kernel)
theorem wd_548 : Cond.instanceMethod yX8_turnOnGears ∈ tb := tb_t 548 (by decide +kernel) (by decide +kernel)
theorem wd_549 : Cond.selects RX8 yX8_turnOnGears yX8_turnOnGears ∈ tb := tb_t 549 (by decide +kernel) (by decide +kernel)
theorem wd_550 : Cond.code yX8_turnOnGears cX8_turnOnGears 4 none ∈ tb := tb_t 550 (by decide +kernel) (by decide +kernel)
theorem wd_551 : Cond.methodLink RX8 61 yX1_kindOn ∈ tb := tb_t 551 (by decide +kernel) (by decide +kernel)
theorem wd_553 : Cond.methodLink RX7 55 yX8_touchFlags ∈ tb := tb_t 553 (by decide +kernel) (by decide +kernel)
theorem wd_554 : Cond.instanceMethod yX8_touchFlags ∈ tb := tb_t 554 (by decide +kernel) (by decide +kernel)
theorem wd_555 : Cond.selects RX8 yX8_touchFlags yX8_touchFlags ∈ tb := tb_t 555 (by decide +kernel) (by decide +kernel)
theorem wd_556 : Cond.code yX8_touchFlags cX8_touchFlags 3 none ∈ tb := tb_t 556 (by decide +kernel) (by decide +kernel)
theorem wd_557 : Cond.methodLink RX7 58 yX8_countPhase ∈ tb := tb_t 557 (by decide +kernel) (by decide +kernel)
theorem wd_558 : Cond.instanceMethod yX8_countPhase ∈ tb := tb_t 558 (by decide +kernel) (by decide +kernel)
theorem wd_559 : Cond.selects RX8 yX8_countPhase yX8_countPhase ∈ tb := tb_t 559 (by decide +kernel) (by decide +kernel)
theorem wd_560 : Cond.code yX8_countPhase cX8_countPhase 1 none ∈ tb := tb_t 560 (by decide +kernel) (by decide +kernel)
theorem wd_561 : Cond.methodLink RX7 64 yX8_repairAndClear ∈ tb := tb_t 561 (by decide +kernel) (by decide +kernel)
theorem wd_562 : Cond.instanceMethod yX8_repairAndClear ∈ tb := tb_t 562 (by decide +kernel) (by decide +kernel)
theorem wd_563 : Cond.selects RX8 yX8_repairAndClear yX8_repairAndClear ∈ tb := tb_t 563 (by decide +kernel) (by decide +kernel)
theorem wd_564 : Cond.code yX8_repairAndClear cX8_repairAndClear 3 none ∈ tb := tb_t 564 (by decide +kernel) (by decide +kernel)
theorem wd_565 : Cond.methodLink RX8 157 yX3_unlockedRegisters ∈ tb := tb_t 565 (by decide +kernel) (by decide +kernel)
theorem wd_566 : Cond.methodLink RX8 160 yX3_emptyRegisters ∈ tb := tb_t 566 (by decide +kernel) (by decide +kernel)
theorem wd_567 : Cond.instanceMethod yX3_emptyRegisters ∈ tb := tb_t 567 (by decide +kernel) (by decide +kernel)
theorem wd_568 : Cond.selects RX3 yX3_emptyRegisters yX3_emptyRegisters ∈ tb := tb_t 568 (by decide +kernel) (by decide +kernel)
theorem wd_569 : Cond.code yX3_emptyRegisters cX3_emptyRegisters 2 none ∈ tb := tb_t 569 (by decide +kernel) (by decide +kernel)
theorem wd_570 : Cond.methodLink RX3 56 yJ7_fill_fda19 ∈ tb := tb_t 570 (by decide +kernel) (by decide +kernel)
theorem wd_571 : Cond.static yJ7_fill_fda19 ∈ tb := tb_t 571 (by decide +kernel) (by decide +kernel)
theorem wd_572 : Cond.code yJ7_fill_fda19 cJ7_fill_fda19 5 none ∈ tb := tb_t 572 (by decide +kernel) (by decide +kernel)
theorem wd_573 : Cond.methodLink RJ7 13 yJ7_rangeCheck_23922 ∈ tb := tb_t 573 (by decide +kernel) (by decide +kernel)
theorem wd_574 : Cond.static yJ7_rangeCheck_23922 ∈ tb := tb_t 574 (by decide +kernel) (by decide +kernel)
theorem wd_575 : Cond.code yJ7_rangeCheck_23922 cJ7_rangeCheck_23922 3 none ∈ tb := tb_t 575 (by decide +kernel) (by decide +kernel)
theorem wd_576 : Cond.methodLink RX7 67 yX8_bringBack ∈ tb := tb_t 576 (by decide +kernel) (by decide +kernel)
theorem wd_577 : Cond.instanceMethod yX8_bringBack ∈ tb := tb_t 577 (by decide +kernel) (by decide +kernel)
theorem wd_578 : Cond.selects RX8 yX8_bringBack yX8_bringBack ∈ tb := tb_t 578 (by decide +kernel) (by decide +kernel)
theorem wd_579 : Cond.code yX8_bringBack cX8_bringBack 3 none ∈ tb := tb_t 579 (by decide +kernel) (by decide +kernel)
theorem wd_580 : Cond.methodLink RX8 166 yX8_cellToComeBack ∈ tb := tb_t 580 (by decide +kernel) (by decide +kernel)
theorem wd_582 : Cond.instanceMethod yX8_cellToComeBack ∈ tb := tb_t 582 (by decide +kernel) (by decide +kernel)
theorem wd_583 : Cond.code yX8_cellToComeBack cX8_cellToComeBack 3 (some FieldType.int) ∈ tb := tb_t 583 (by decide +kernel) (by decide +kernel)
theorem wd_584 : Cond.methodLink RL 44 yX10_round ∈ tb := tb_t 584 (by decide +kernel) (by decide +kernel)
theorem wd_585 : Cond.instanceMethod yX10_round ∈ tb := tb_t 585 (by decide +kernel) (by decide +kernel)
theorem wd_586 : Cond.selects RX10 yX10_round yX10_round ∈ tb := tb_t 586 (by decide +kernel) (by decide +kernel)
theorem wd_587 : Cond.code yX10_round cX10_round 1 (some FieldType.int) ∈ tb := tb_t 587 (by decide +kernel) (by decide +kernel)
theorem wd_588 : Cond.methodLink RX10 88 yX7_runToRoundEnd ∈ tb := tb_t 588 (by decide +kernel) (by decide +kernel)
theorem wd_589 : Cond.instanceMethod yX7_runToRoundEnd ∈ tb := tb_t 589 (by decide +kernel) (by decide +kernel)
theorem wd_590 : Cond.selects RX7 yX7_runToRoundEnd yX7_runToRoundEnd ∈ tb := tb_t 590 (by decide +kernel) (by decide +kernel)
theorem wd_591 : Cond.code yX7_runToRoundEnd cX7_runToRoundEnd 4 (some FieldType.int) ∈ tb := tb_t 591 (by decide +kernel) (by decide +kernel)
theorem wd_592 : Cond.methodLink RX7 70 yX7_runNext ∈ tb := tb_t 592 (by decide +kernel) (by decide +kernel)
theorem wd_593 : Cond.methodLink RL 48 yX10_cellOf ∈ tb := tb_t 593 (by decide +kernel) (by decide +kernel)
theorem wd_594 : Cond.instanceMethod yX10_cellOf ∈ tb := tb_t 594 (by decide +kernel) (by decide +kernel)
theorem wd_595 : Cond.selects RX10 yX10_cellOf yX10_cellOf ∈ tb := tb_t 595 (by decide +kernel) (by decide +kernel)
theorem wd_596 : Cond.code yX10_cellOf cX10_cellOf 3 (some FieldType.int) ∈ tb := tb_t 596 (by decide +kernel) (by decide +kernel)
theorem wd_597 : Cond.methodLink RX10 91 yX10_isCell ∈ tb := tb_t 597 (by decide +kernel) (by decide +kernel)
theorem wd_598 : Cond.methodLink RX10 95 yX10_isWithin ∈ tb := tb_t 598 (by decide +kernel) (by decide +kernel)
theorem wd_599 : Cond.constant RX10 99 (-1000001 : Int32) ∈ tb := tb_t 599 (by decide +kernel) (by decide +kernel)
theorem wd_600 : Cond.methodLink RX10 100 yX8_cellValue ∈ tb := tb_t 600 (by decide +kernel) (by decide +kernel)
theorem wd_601 : Cond.instanceMethod yX8_cellValue ∈ tb := tb_t 601 (by decide +kernel) (by decide +kernel)
theorem wd_602 : Cond.selects RX8 yX8_cellValue yX8_cellValue ∈ tb := tb_t 602 (by decide +kernel) (by decide +kernel)
theorem wd_603 : Cond.code yX8_cellValue cX8_cellValue 3 (some FieldType.int) ∈ tb := tb_t 603 (by decide +kernel) (by decide +kernel)
theorem wd_604 : Cond.methodLink RX8 65 yX1_wallsOf ∈ tb := tb_t 604 (by decide +kernel) (by decide +kernel)
theorem wd_605 : Cond.instanceMethod yX1_wallsOf ∈ tb := tb_t 605 (by decide +kernel) (by decide +kernel)
theorem wd_606 : Cond.selects RX1 yX1_wallsOf yX1_wallsOf ∈ tb := tb_t 606 (by decide +kernel) (by decide +kernel)
theorem wd_607 : Cond.code yX1_wallsOf cX1_wallsOf 2 (some FieldType.int) ∈ tb := tb_t 607 (by decide +kernel) (by decide +kernel)
theorem wd_608 : Cond.constant RX8 71 (-1000004 : Int32) ∈ tb := tb_t 608 (by decide +kernel) (by decide +kernel)
theorem wd_609 : Cond.methodLink RX8 72 yX1_lowestFlagOn ∈ tb := tb_t 609 (by decide +kernel) (by decide +kernel)
theorem wd_610 : Cond.instanceMethod yX1_lowestFlagOn ∈ tb := tb_t 610 (by decide +kernel) (by decide +kernel)
theorem wd_611 : Cond.selects RX1 yX1_lowestFlagOn yX1_lowestFlagOn ∈ tb := tb_t 611 (by decide +kernel) (by decide +kernel)
theorem wd_612 : Cond.code yX1_lowestFlagOn cX1_lowestFlagOn 3 (some FieldType.int) ∈ tb := tb_t 612 (by decide +kernel) (by decide +kernel)
theorem wd_613 : Cond.constant RX1 42 (-1000004 : Int32) ∈ tb := tb_t 613 (by decide +kernel) (by decide +kernel)
theorem wd_614 : Cond.methodLink RL 52 yX10_cartOf ∈ tb := tb_t 614 (by decide +kernel) (by decide +kernel)
theorem wd_615 : Cond.instanceMethod yX10_cartOf ∈ tb := tb_t 615 (by decide +kernel) (by decide +kernel)
theorem wd_616 : Cond.selects RX10 yX10_cartOf yX10_cartOf ∈ tb := tb_t 616 (by decide +kernel) (by decide +kernel)
theorem wd_617 : Cond.code yX10_cartOf cX10_cartOf 3 (some FieldType.int) ∈ tb := tb_t 617 (by decide +kernel) (by decide +kernel)
theorem wd_618 : Cond.methodLink RX10 103 yX8_hasCart ∈ tb := tb_t 618 (by decide +kernel) (by decide +kernel)
theorem wd_619 : Cond.methodLink RX10 110 yX3_value ∈ tb := tb_t 619 (by decide +kernel) (by decide +kernel)
theorem wd_620 : Cond.instanceMethod yX3_value ∈ tb := tb_t 620 (by decide +kernel) (by decide +kernel)
theorem wd_621 : Cond.selects RX3 yX3_value yX3_value ∈ tb := tb_t 621 (by decide +kernel) (by decide +kernel)
theorem wd_622 : Cond.code yX3_value cX3_value 2 (some FieldType.int) ∈ tb := tb_t 622 (by decide +kernel) (by decide +kernel)
theorem wd_623 : Cond.methodLink RX3 69 yX3_isOut ∈ tb := tb_t 623 (by decide +kernel) (by decide +kernel)
theorem wd_624 : Cond.constant RX3 73 (-1000004 : Int32) ∈ tb := tb_t 624 (by decide +kernel) (by decide +kernel)
theorem wd_625 : Cond.methodLink RX3 74 yX3_lockedSet ∈ tb := tb_t 625 (by decide +kernel) (by decide +kernel)
theorem wd_626 : Cond.instanceMethod yX3_lockedSet ∈ tb := tb_t 626 (by decide +kernel) (by decide +kernel)
theorem wd_627 : Cond.selects RX3 yX3_lockedSet yX3_lockedSet ∈ tb := tb_t 627 (by decide +kernel) (by decide +kernel)
theorem wd_628 : Cond.code yX3_lockedSet cX3_lockedSet 3 (some FieldType.int) ∈ tb := tb_t 628 (by decide +kernel) (by decide +kernel)
theorem wd_629 : Cond.methodLink RX3 77 yX3_cardSet ∈ tb := tb_t 629 (by decide +kernel) (by decide +kernel)
theorem wd_630 : Cond.constant RX3 80 (-1000001 : Int32) ∈ tb := tb_t 630 (by decide +kernel) (by decide +kernel)
theorem wd_631 : Cond.methodLink RL 56 yX10_cardOf ∈ tb := tb_t 631 (by decide +kernel) (by decide +kernel)
theorem wd_632 : Cond.instanceMethod yX10_cardOf ∈ tb := tb_t 632 (by decide +kernel) (by decide +kernel)
theorem wd_633 : Cond.selects RX10 yX10_cardOf yX10_cardOf ∈ tb := tb_t 633 (by decide +kernel) (by decide +kernel)
theorem wd_634 : Cond.code yX10_cardOf cX10_cardOf 5 (some FieldType.int) ∈ tb := tb_t 634 (by decide +kernel) (by decide +kernel)
theorem wd_635 : Cond.methodLink RX10 115 yX10_isRegister ∈ tb := tb_t 635 (by decide +kernel) (by decide +kernel)
theorem wd_636 : Cond.methodLink RX10 118 yX3_hasCard ∈ tb := tb_t 636 (by decide +kernel) (by decide +kernel)
theorem wd_637 : Cond.constant RX10 121 (-1000004 : Int32) ∈ tb := tb_t 637 (by decide +kernel) (by decide +kernel)
theorem wd_638 : Cond.methodLink RL 61 yX10_turn ∈ tb := tb_t 638 (by decide +kernel) (by decide +kernel)
theorem wd_639 : Cond.instanceMethod yX10_turn ∈ tb := tb_t 639 (by decide +kernel) (by decide +kernel)
theorem wd_640 : Cond.selects RX10 yX10_turn yX10_turn ∈ tb := tb_t 640 (by decide +kernel) (by decide +kernel)
theorem wd_641 : Cond.code yX10_turn cX10_turn 2 (some FieldType.int) ∈ tb := tb_t 641 (by decide +kernel) (by decide +kernel)
theorem wd_642 : Cond.methodLink RX10 129 yX7_cartInTurn ∈ tb := tb_t 642 (by decide +kernel) (by decide +kernel)
theorem wd_643 : Cond.instanceMethod yX7_cartInTurn ∈ tb := tb_t 643 (by decide +kernel) (by decide +kernel)
theorem wd_644 : Cond.selects RX7 yX7_cartInTurn yX7_cartInTurn ∈ tb := tb_t 644 (by decide +kernel) (by decide +kernel)
theorem wd_645 : Cond.code yX7_cartInTurn cX7_cartInTurn 3 (some FieldType.int) ∈ tb := tb_t 645 (by decide +kernel) (by decide +kernel)
theorem wd_646 : Cond.constant RX7 73 (-1000004 : Int32) ∈ tb := tb_t 646 (by decide +kernel) (by decide +kernel)
theorem wd_647 : Cond.methodLink RL 66 yX10_would ∈ tb := tb_t 647 (by decide +kernel) (by decide +kernel)
theorem wd_648 : Cond.instanceMethod yX10_would ∈ tb := tb_t 648 (by decide +kernel) (by decide +kernel)
theorem wd_649 : Cond.selects RX10 yX10_would yX10_would ∈ tb := tb_t 649 (by decide +kernel) (by decide +kernel)
theorem wd_650 : Cond.code yX10_would cX10_would 6 (some FieldType.int) ∈ tb := tb_t 650 (by decide +kernel) (by decide +kernel)
theorem wd_651 : Cond.methodLink RL 70 yX10_best ∈ tb := tb_t 651 (by decide +kernel) (by decide +kernel)
theorem wd_652 : Cond.instanceMethod yX10_best ∈ tb := tb_t 652 (by decide +kernel) (by decide +kernel)
theorem wd_653 : Cond.selects RX10 yX10_best yX10_best ∈ tb := tb_t 653 (by decide +kernel) (by decide +kernel)
theorem wd_654 : Cond.code yX10_best cX10_best 10 (some FieldType.int) ∈ tb := tb_t 654 (by decide +kernel) (by decide +kernel)
theorem wd_655 : Cond.methodLink RX10 133 yX3_isOut ∈ tb := tb_t 655 (by decide +kernel) (by decide +kernel)
theorem wd_656 : Cond.methodLink RX10 141 yX3_isLocked ∈ tb := tb_t 656 (by decide +kernel) (by decide +kernel)
theorem wd_657 : Cond.constant RX10 156 (-1000002 : Int32) ∈ tb := tb_t 657 (by decide +kernel) (by decide +kernel)
theorem wd_658 : Cond.methodLink RX10 160 yX10_distanceBehind ∈ tb := tb_t 658 (by decide +kernel) (by decide +kernel)
theorem wd_660 : Cond.instanceMethod yX10_distanceBehind ∈ tb := tb_t 660 (by decide +kernel) (by decide +kernel)
theorem wd_661 : Cond.code yX10_distanceBehind cX10_distanceBehind 8 (some FieldType.int) ∈ tb := tb_t 661 (by decide +kernel) (by decide +kernel)
theorem wd_662 : Cond.methodLink RX10 227 yX3_lay ∈ tb := tb_t 662 (by decide +kernel) (by decide +kernel)
theorem wd_663 : Cond.methodLink RX10 237 yX1_distance ∈ tb := tb_t 663 (by decide +kernel) (by decide +kernel)
theorem wd_664 : Cond.static yX1_distance ∈ tb := tb_t 664 (by decide +kernel) (by decide +kernel)
theorem wd_665 : Cond.code yX1_distance cX1_distance 2 (some FieldType.int) ∈ tb := tb_t 665 (by decide +kernel) (by decide +kernel)
theorem wd_666 : Cond.methodLink RX1 43 yJ9_abs_0f7a4 ∈ tb := tb_t 666 (by decide +kernel) (by decide +kernel)
theorem wd_667 : Cond.static yJ9_abs_0f7a4 ∈ tb := tb_t 667 (by decide +kernel) (by decide +kernel)
theorem wd_668 : Cond.code yJ9_abs_0f7a4 cJ9_abs_0f7a4 1 (some FieldType.int) ∈ tb := tb_t 668 (by decide +kernel) (by decide +kernel)
theorem wd_669 : Cond.methodLink RL 74 yX10_steps ∈ tb := tb_t 669 (by decide +kernel) (by decide +kernel)
theorem wd_670 : Cond.instanceMethod yX10_steps ∈ tb := tb_t 670 (by decide +kernel) (by decide +kernel)
theorem wd_671 : Cond.selects RX10 yX10_steps yX10_steps ∈ tb := tb_t 671 (by decide +kernel) (by decide +kernel)
theorem wd_672 : Cond.code yX10_steps cX10_steps 3 (some FieldType.int) ∈ tb := tb_t 672 (by decide +kernel) (by decide +kernel)
theorem wd_673 : Cond.methodLink RX10 163 yX9_shortest ∈ tb := tb_t 673 (by decide +kernel) (by decide +kernel)
theorem wd_674 : Cond.instanceMethod yX9_shortest ∈ tb := tb_t 674 (by decide +kernel) (by decide +kernel)
theorem wd_675 : Cond.selects RX9 yX9_shortest yX9_shortest ∈ tb := tb_t 675 (by decide +kernel) (by decide +kernel)
theorem wd_676 : Cond.code yX9_shortest cX9_shortest 5 (some FieldType.int) ∈ tb := tb_t 676 (by decide +kernel) (by decide +kernel)
theorem wd_677 : Cond.methodLink RX9 18 yJ7_fill_53178 ∈ tb := tb_t 677 (by decide +kernel) (by decide +kernel)
theorem wd_678 : Cond.static yJ7_fill_53178 ∈ tb := tb_t 678 (by decide +kernel) (by decide +kernel)
theorem wd_679 : Cond.code yJ7_fill_53178 cJ7_fill_53178 4 none ∈ tb := tb_t 679 (by decide +kernel) (by decide +kernel)
theorem wd_680 : Cond.methodLink RX9 28 yX9_reach ∈ tb := tb_t 680 (by decide +kernel) (by decide +kernel)
theorem wd_682 : Cond.instanceMethod yX9_reach ∈ tb := tb_t 682 (by decide +kernel) (by decide +kernel)
theorem wd_683 : Cond.code yX9_reach cX9_reach 3 none ∈ tb := tb_t 683 (by decide +kernel) (by decide +kernel)
theorem wd_684 : Cond.methodLink RX9 32 yX9_reachAround ∈ tb := tb_t 684 (by decide +kernel) (by decide +kernel)
theorem wd_686 : Cond.instanceMethod yX9_reachAround ∈ tb := tb_t 686 (by decide +kernel) (by decide +kernel)
theorem wd_687 : Cond.code yX9_reachAround cX9_reachAround 5 none ∈ tb := tb_t 687 (by decide +kernel) (by decide +kernel)
theorem wd_688 : Cond.methodLink RX9 37 yX1_neighbour ∈ tb := tb_t 688 (by decide +kernel) (by decide +kernel)
theorem wd_689 : Cond.methodLink RX9 43 yX1_hasWall ∈ tb := tb_t 689 (by decide +kernel) (by decide +kernel)
theorem wd_690 : Cond.methodLink RX9 47 yX1_isPit ∈ tb := tb_t 690 (by decide +kernel) (by decide +kernel)
theorem wd_691 : Cond.constant RX9 36 (-1000004 : Int32) ∈ tb := tb_t 691 (by decide +kernel) (by decide +kernel)
theorem wd_692 : Cond.methodLink RL 78 yX10_count ∈ tb := tb_t 692 (by decide +kernel) (by decide +kernel)
theorem wd_693 : Cond.instanceMethod yX10_count ∈ tb := tb_t 693 (by decide +kernel) (by decide +kernel)
theorem wd_694 : Cond.selects RX10 yX10_count yX10_count ∈ tb := tb_t 694 (by decide +kernel) (by decide +kernel)
theorem wd_695 : Cond.code yX10_count cX10_count 2 (some FieldType.int) ∈ tb := tb_t 695 (by decide +kernel) (by decide +kernel)
theorem wd_696 : Cond.methodLink RX10 173 yX8_cartsOut ∈ tb := tb_t 696 (by decide +kernel) (by decide +kernel)
theorem wd_697 : Cond.instanceMethod yX8_cartsOut ∈ tb := tb_t 697 (by decide +kernel) (by decide +kernel)
theorem wd_698 : Cond.selects RX8 yX8_cartsOut yX8_cartsOut ∈ tb := tb_t 698 (by decide +kernel) (by decide +kernel)
theorem wd_699 : Cond.code yX8_cartsOut cX8_cartsOut 3 (some FieldType.int) ∈ tb := tb_t 699 (by decide +kernel) (by decide +kernel)
theorem wd_700 : Cond.methodLink RL 82 yX10_undo ∈ tb := tb_t 700 (by decide +kernel) (by decide +kernel)
theorem wd_701 : Cond.instanceMethod yX10_undo ∈ tb := tb_t 701 (by decide +kernel) (by decide +kernel)
theorem wd_702 : Cond.selects RX10 yX10_undo yX10_undo ∈ tb := tb_t 702 (by decide +kernel) (by decide +kernel)
theorem wd_703 : Cond.code yX10_undo cX10_undo 1 (some FieldType.int) ∈ tb := tb_t 703 (by decide +kernel) (by decide +kernel)
theorem wd_704 : Cond.methodLink RX10 192 yX4_restore ∈ tb := tb_t 704 (by decide +kernel) (by decide +kernel)
theorem wd_705 : Cond.instanceMethod yX4_restore ∈ tb := tb_t 705 (by decide +kernel) (by decide +kernel)
theorem wd_706 : Cond.selects RX4 yX4_restore yX4_restore ∈ tb := tb_t 706 (by decide +kernel) (by decide +kernel)
theorem wd_707 : Cond.code yX4_restore cX4_restore 2 none ∈ tb := tb_t 707 (by decide +kernel) (by decide +kernel)
theorem wd_708 : Cond.methodLink RL 86 yX10_type ∈ tb := tb_t 708 (by decide +kernel) (by decide +kernel)
theorem wd_709 : Cond.instanceMethod yX10_type ∈ tb := tb_t 709 (by decide +kernel) (by decide +kernel)
theorem wd_710 : Cond.selects RX10 yX10_type yX10_type ∈ tb := tb_t 710 (by decide +kernel) (by decide +kernel)
theorem wd_711 : Cond.code yX10_type cX10_type 2 (some FieldType.int) ∈ tb := tb_t 711 (by decide +kernel) (by decide +kernel)
theorem wd_712 : Cond.methodLink RX10 196 yX6_append ∈ tb := tb_t 712 (by decide +kernel) (by decide +kernel)
theorem wd_713 : Cond.instanceMethod yX6_append ∈ tb := tb_t 713 (by decide +kernel) (by decide +kernel)
theorem wd_714 : Cond.selects RX6 yX6_append yX6_append ∈ tb := tb_t 714 (by decide +kernel) (by decide +kernel)
theorem wd_715 : Cond.code yX6_append cX6_append 2 (some FieldType.int) ∈ tb := tb_t 715 (by decide +kernel) (by decide +kernel)
theorem wd_716 : Cond.constant RX6 23 (-1000003 : Int32) ∈ tb := tb_t 716 (by decide +kernel) (by decide +kernel)
theorem wd_717 : Cond.methodLink RL 90 yX10_clearText ∈ tb := tb_t 717 (by decide +kernel) (by decide +kernel)
theorem wd_718 : Cond.instanceMethod yX10_clearText ∈ tb := tb_t 718 (by decide +kernel) (by decide +kernel)
theorem wd_719 : Cond.selects RX10 yX10_clearText yX10_clearText ∈ tb := tb_t 719 (by decide +kernel) (by decide +kernel)
theorem wd_720 : Cond.code yX10_clearText cX10_clearText 2 (some FieldType.int) ∈ tb := tb_t 720 (by decide +kernel) (by decide +kernel)
theorem wd_721 : Cond.methodLink RL 94 yX10_fault ∈ tb := tb_t 721 (by decide +kernel) (by decide +kernel)
theorem wd_722 : Cond.instanceMethod yX10_fault ∈ tb := tb_t 722 (by decide +kernel) (by decide +kernel)
theorem wd_723 : Cond.selects RX10 yX10_fault yX10_fault ∈ tb := tb_t 723 (by decide +kernel) (by decide +kernel)
theorem wd_724 : Cond.code yX10_fault cX10_fault 2 (some FieldType.int) ∈ tb := tb_t 724 (by decide +kernel) (by decide +kernel)
theorem wd_725 : Cond.methodLink RX10 200 yX5_doAll ∈ tb := tb_t 725 (by decide +kernel) (by decide +kernel)
theorem wd_726 : Cond.instanceMethod yX5_doAll ∈ tb := tb_t 726 (by decide +kernel) (by decide +kernel)
theorem wd_727 : Cond.selects RX5 yX5_doAll yX5_doAll ∈ tb := tb_t 727 (by decide +kernel) (by decide +kernel)
theorem wd_728 : Cond.code yX5_doAll cX5_doAll 5 none ∈ tb := tb_t 728 (by decide +kernel) (by decide +kernel)
theorem wd_729 : Cond.methodLink RX5 37 yX5_isFaulty ∈ tb := tb_t 729 (by decide +kernel) (by decide +kernel)
theorem wd_730 : Cond.instanceMethod yX5_isFaulty ∈ tb := tb_t 730 (by decide +kernel) (by decide +kernel)
theorem wd_731 : Cond.selects RX5 yX5_isFaulty yX5_isFaulty ∈ tb := tb_t 731 (by decide +kernel) (by decide +kernel)
theorem wd_732 : Cond.code yX5_isFaulty cX5_isFaulty 1 (some FieldType.boolean) ∈ tb := tb_t 732 (by decide +kernel) (by decide +kernel)
theorem wd_733 : Cond.methodLink RX5 41 yX6_read ∈ tb := tb_t 733 (by decide +kernel) (by decide +kernel)
theorem wd_734 : Cond.instanceMethod yX6_read ∈ tb := tb_t 734 (by decide +kernel) (by decide +kernel)
theorem wd_735 : Cond.selects RX6 yX6_read yX6_read ∈ tb := tb_t 735 (by decide +kernel) (by decide +kernel)
theorem wd_736 : Cond.code yX6_read cX6_read 4 (some FieldType.boolean) ∈ tb := tb_t 736 (by decide +kernel) (by decide +kernel)
theorem wd_737 : Cond.methodLink RX6 31 yX6_numbersBehind ∈ tb := tb_t 737 (by decide +kernel) (by decide +kernel)
theorem wd_738 : Cond.static yX6_numbersBehind ∈ tb := tb_t 738 (by decide +kernel) (by decide +kernel)
theorem wd_739 : Cond.code yX6_numbersBehind cX6_numbersBehind 1 (some FieldType.int) ∈ tb := tb_t 739 (by decide +kernel) (by decide +kernel)
theorem wd_740 : Cond.methodLink RX6 35 yX6_take ∈ tb := tb_t 740 (by decide +kernel) (by decide +kernel)
theorem wd_742 : Cond.instanceMethod yX6_take ∈ tb := tb_t 742 (by decide +kernel) (by decide +kernel)
theorem wd_743 : Cond.code yX6_take cX6_take 2 (some FieldType.boolean) ∈ tb := tb_t 743 (by decide +kernel) (by decide +kernel)
theorem wd_744 : Cond.methodLink RX6 39 yX6_takeNumber ∈ tb := tb_t 744 (by decide +kernel) (by decide +kernel)
theorem wd_746 : Cond.instanceMethod yX6_takeNumber ∈ tb := tb_t 746 (by decide +kernel) (by decide +kernel)
theorem wd_747 : Cond.code yX6_takeNumber cX6_takeNumber 4 (some FieldType.boolean) ∈ tb := tb_t 747 (by decide +kernel) (by decide +kernel)
theorem wd_748 : Cond.methodLink RX5 49 yX5_obey ∈ tb := tb_t 748 (by decide +kernel) (by decide +kernel)
theorem wd_750 : Cond.instanceMethod yX5_obey ∈ tb := tb_t 750 (by decide +kernel) (by decide +kernel)
theorem wd_751 : Cond.code yX5_obey cX5_obey 3 (some FieldType.int) ∈ tb := tb_t 751 (by decide +kernel) (by decide +kernel)
theorem wd_752 : Cond.methodLink RX5 63 yX8_setKind ∈ tb := tb_t 752 (by decide +kernel) (by decide +kernel)
theorem wd_753 : Cond.methodLink RX5 69 yX8_flipWall ∈ tb := tb_t 753 (by decide +kernel) (by decide +kernel)
theorem wd_754 : Cond.methodLink RX5 72 yX8_addCart ∈ tb := tb_t 754 (by decide +kernel) (by decide +kernel)
theorem wd_755 : Cond.methodLink RX5 75 yX8_layCard ∈ tb := tb_t 755 (by decide +kernel) (by decide +kernel)
theorem wd_756 : Cond.methodLink RX5 79 yX7_runNext ∈ tb := tb_t 756 (by decide +kernel) (by decide +kernel)
theorem wd_758 : Cond.methodLink RX10 203 yX5_isFaulty ∈ tb := tb_t 758 (by decide +kernel) (by decide +kernel)
theorem wd_759 : Cond.methodLink RL 98 yX10_play ∈ tb := tb_t 759 (by decide +kernel) (by decide +kernel)
theorem wd_760 : Cond.instanceMethod yX10_play ∈ tb := tb_t 760 (by decide +kernel) (by decide +kernel)
theorem wd_761 : Cond.selects RX10 yX10_play yX10_play ∈ tb := tb_t 761 (by decide +kernel) (by decide +kernel)
theorem wd_762 : Cond.code yX10_play cX10_play 1 (some FieldType.int) ∈ tb := tb_t 762 (by decide +kernel) (by decide +kernel)
theorem wd_763 : Cond.classLink RL 10 RX11 ∈ tb := tb_t 763 (by decide +kernel) (by decide +kernel)
theorem wd_764 : Cond.instantiable RX11 19 ∈ tb := tb_t 764 (by decide +kernel) (by decide +kernel)
theorem wd_765 : Cond.methodLink RL 12 yX11_init ∈ tb := tb_t 765 (by decide +kernel) (by decide +kernel)
theorem wd_766 : Cond.instanceMethod yX11_init ∈ tb := tb_t 766 (by decide +kernel) (by decide +kernel)
theorem wd_767 : Cond.code yX11_init cX11_init 2 none ∈ tb := tb_t 767 (by decide +kernel) (by decide +kernel)
theorem wd_768 : Cond.methodLink RX11 1 objectInit ∈ tb := tb_t 768 (by decide +kernel) (by decide +kernel)
theorem wd_769 : Cond.fieldLink RX11 7 "LockedCartsModel" "s" "[I" ∈ tb := tb_t 769 (by decide +kernel) (by decide +kernel)
theorem wd_770 : Cond.fieldLink RX11 13 "LockedCartsModel" "begun" "[I" ∈ tb := tb_t 770 (by decide +kernel) (by decide +kernel)
theorem wd_771 : Cond.fieldLink RX11 16 "LockedCartsModel" "aside" "[I" ∈ tb := tb_t 771 (by decide +kernel) (by decide +kernel)
theorem wd_772 : Cond.fieldLink RX11 19 "LockedCartsModel" "past" "[I" ∈ tb := tb_t 772 (by decide +kernel) (by decide +kernel)
theorem wd_773 : Cond.fieldLink RX11 52 "LockedCartsModel" "states" "I" ∈ tb := tb_t 773 (by decide +kernel) (by decide +kernel)
theorem wd_774 : Cond.fieldLink RX11 22 "LockedCartsModel" "text" "[I" ∈ tb := tb_t 774 (by decide +kernel) (by decide +kernel)
theorem wd_775 : Cond.fieldLink RX11 229 "LockedCartsModel" "length" "I" ∈ tb := tb_t 775 (by decide +kernel) (by decide +kernel)
theorem wd_776 : Cond.fieldLink RX11 25 "LockedCartsModel" "row" "[I" ∈ tb := tb_t 776 (by decide +kernel) (by decide +kernel)
theorem wd_777 : Cond.fieldLink RX11 28 "LockedCartsModel" "order" "[I" ∈ tb := tb_t 777 (by decide +kernel) (by decide +kernel)
theorem wd_778 : Cond.fieldLink RX11 99 "LockedCartsModel" "ordered" "I" ∈ tb := tb_t 778 (by decide +kernel) (by decide +kernel)
theorem wd_779 : Cond.fieldLink RX11 31 "LockedCartsModel" "carried" "[Z" ∈ tb := tb_t 779 (by decide +kernel) (by decide +kernel)
theorem wd_780 : Cond.fieldLink RX11 35 "LockedCartsModel" "goal" "[I" ∈ tb := tb_t 780 (by decide +kernel) (by decide +kernel)
theorem wd_781 : Cond.fieldLink RX11 38 "LockedCartsModel" "reached" "[I" ∈ tb := tb_t 781 (by decide +kernel) (by decide +kernel)
theorem wd_782 : Cond.fieldLink RX11 232 "LockedCartsModel" "at" "I" ∈ tb := tb_t 782 (by decide +kernel) (by decide +kernel)
theorem wd_783 : Cond.fieldLink RX11 249 "LockedCartsModel" "from" "I" ∈ tb := tb_t 783 (by decide +kernel) (by decide +kernel)
theorem wd_784 : Cond.fieldLink RX11 246 "LockedCartsModel" "done" "I" ∈ tb := tb_t 784 (by decide +kernel) (by decide +kernel)
theorem wd_785 : Cond.fieldLink RX11 264 "LockedCartsModel" "told" "I" ∈ tb := tb_t 785 (by decide +kernel) (by decide +kernel)
theorem wd_786 : Cond.fieldLink RX11 238 "LockedCartsModel" "isForm" "Z" ∈ tb := tb_t 786 (by decide +kernel) (by decide +kernel)
theorem wd_787 : Cond.fieldLink RX11 41 "LockedCartsModel" "numbers" "[I" ∈ tb := tb_t 787 (by decide +kernel) (by decide +kernel)
theorem wd_827 : Cond.methodLink RL 17 yX11_kind ∈ tb := tb_t 827 (by decide +kernel) (by decide +kernel)
theorem wd_828 : Cond.instanceMethod yX11_kind ∈ tb := tb_t 828 (by decide +kernel) (by decide +kernel)
theorem wd_829 : Cond.selects RX11 yX11_kind yX11_kind ∈ tb := tb_t 829 (by decide +kernel) (by decide +kernel)
theorem wd_830 : Cond.code yX11_kind cX11_kind 3 (some FieldType.int) ∈ tb := tb_t 830 (by decide +kernel) (by decide +kernel)
theorem wd_831 : Cond.methodLink RX11 173 yX11_begins ∈ tb := tb_t 831 (by decide +kernel) (by decide +kernel)
theorem wd_833 : Cond.instanceMethod yX11_begins ∈ tb := tb_t 833 (by decide +kernel) (by decide +kernel)
theorem wd_834 : Cond.code yX11_begins cX11_begins 2 none ∈ tb := tb_t 834 (by decide +kernel) (by decide +kernel)
theorem wd_835 : Cond.methodLink RX11 176 yX11_kinds ∈ tb := tb_t 835 (by decide +kernel) (by decide +kernel)
theorem wd_837 : Cond.instanceMethod yX11_kinds ∈ tb := tb_t 837 (by decide +kernel) (by decide +kernel)
theorem wd_838 : Cond.code yX11_kinds cX11_kinds 4 (some FieldType.int) ∈ tb := tb_t 838 (by decide +kernel) (by decide +kernel)
theorem wd_839 : Cond.methodLink RX11 156 yX11_isCell ∈ tb := tb_t 839 (by decide +kernel) (by decide +kernel)
theorem wd_840 : Cond.static yX11_isCell ∈ tb := tb_t 840 (by decide +kernel) (by decide +kernel)
theorem wd_841 : Cond.code yX11_isCell cX11_isCell 1 (some FieldType.boolean) ∈ tb := tb_t 841 (by decide +kernel) (by decide +kernel)
theorem wd_842 : Cond.methodLink RX11 44 yX11_in ∈ tb := tb_t 842 (by decide +kernel) (by decide +kernel)
theorem wd_843 : Cond.static yX11_in ∈ tb := tb_t 843 (by decide +kernel) (by decide +kernel)
theorem wd_844 : Cond.code yX11_in cX11_in 3 (some FieldType.boolean) ∈ tb := tb_t 844 (by decide +kernel) (by decide +kernel)
theorem wd_845 : Cond.constant RX11 48 (-1000001 : Int32) ∈ tb := tb_t 845 (by decide +kernel) (by decide +kernel)
theorem wd_846 : Cond.methodLink RX11 79 yX11_cartOn ∈ tb := tb_t 846 (by decide +kernel) (by decide +kernel)
theorem wd_848 : Cond.instanceMethod yX11_cartOn ∈ tb := tb_t 848 (by decide +kernel) (by decide +kernel)
theorem wd_849 : Cond.code yX11_cartOn cX11_cartOn 4 (some FieldType.int) ∈ tb := tb_t 849 (by decide +kernel) (by decide +kernel)
theorem wd_850 : Cond.methodLink RX11 56 yX11_of ∈ tb := tb_t 850 (by decide +kernel) (by decide +kernel)
theorem wd_852 : Cond.instanceMethod yX11_of ∈ tb := tb_t 852 (by decide +kernel) (by decide +kernel)
theorem wd_853 : Cond.code yX11_of cX11_of 3 (some FieldType.int) ∈ tb := tb_t 853 (by decide +kernel) (by decide +kernel)
theorem wd_854 : Cond.constant RX11 159 (-1000002 : Int32) ∈ tb := tb_t 854 (by decide +kernel) (by decide +kernel)
theorem wd_855 : Cond.methodLink RX11 179 yX11_acted ∈ tb := tb_t 855 (by decide +kernel) (by decide +kernel)
theorem wd_857 : Cond.instanceMethod yX11_acted ∈ tb := tb_t 857 (by decide +kernel) (by decide +kernel)
theorem wd_858 : Cond.code yX11_acted cX11_acted 3 (some FieldType.int) ∈ tb := tb_t 858 (by decide +kernel) (by decide +kernel)
theorem wd_859 : Cond.methodLink RX11 49 yX11_returns ∈ tb := tb_t 859 (by decide +kernel) (by decide +kernel)
theorem wd_861 : Cond.instanceMethod yX11_returns ∈ tb := tb_t 861 (by decide +kernel) (by decide +kernel)
theorem wd_862 : Cond.code yX11_returns cX11_returns 2 none ∈ tb := tb_t 862 (by decide +kernel) (by decide +kernel)
theorem wd_863 : Cond.methodLink RL 21 yX11_wall ∈ tb := tb_t 863 (by decide +kernel) (by decide +kernel)
theorem wd_864 : Cond.instanceMethod yX11_wall ∈ tb := tb_t 864 (by decide +kernel) (by decide +kernel)
theorem wd_865 : Cond.selects RX11 yX11_wall yX11_wall ∈ tb := tb_t 865 (by decide +kernel) (by decide +kernel)
theorem wd_866 : Cond.code yX11_wall cX11_wall 3 (some FieldType.int) ∈ tb := tb_t 866 (by decide +kernel) (by decide +kernel)
theorem wd_867 : Cond.methodLink RX11 182 yX11_walls ∈ tb := tb_t 867 (by decide +kernel) (by decide +kernel)
theorem wd_869 : Cond.instanceMethod yX11_walls ∈ tb := tb_t 869 (by decide +kernel) (by decide +kernel)
theorem wd_870 : Cond.code yX11_walls cX11_walls 4 (some FieldType.int) ∈ tb := tb_t 870 (by decide +kernel) (by decide +kernel)
theorem wd_871 : Cond.methodLink RX11 76 yX11_next ∈ tb := tb_t 871 (by decide +kernel) (by decide +kernel)
theorem wd_872 : Cond.static yX11_next ∈ tb := tb_t 872 (by decide +kernel) (by decide +kernel)
theorem wd_873 : Cond.code yX11_next cX11_next 4 (some FieldType.int) ∈ tb := tb_t 873 (by decide +kernel) (by decide +kernel)
theorem wd_874 : Cond.methodLink RL 25 yX11_flag ∈ tb := tb_t 874 (by decide +kernel) (by decide +kernel)
theorem wd_875 : Cond.instanceMethod yX11_flag ∈ tb := tb_t 875 (by decide +kernel) (by decide +kernel)
theorem wd_876 : Cond.selects RX11 yX11_flag yX11_flag ∈ tb := tb_t 876 (by decide +kernel) (by decide +kernel)
theorem wd_877 : Cond.code yX11_flag cX11_flag 3 (some FieldType.int) ∈ tb := tb_t 877 (by decide +kernel) (by decide +kernel)
theorem wd_878 : Cond.methodLink RL 29 yX11_cart ∈ tb := tb_t 878 (by decide +kernel) (by decide +kernel)
theorem wd_879 : Cond.instanceMethod yX11_cart ∈ tb := tb_t 879 (by decide +kernel) (by decide +kernel)
theorem wd_880 : Cond.selects RX11 yX11_cart yX11_cart ∈ tb := tb_t 880 (by decide +kernel) (by decide +kernel)
theorem wd_881 : Cond.code yX11_cart cX11_cart 3 (some FieldType.int) ∈ tb := tb_t 881 (by decide +kernel) (by decide +kernel)
theorem wd_882 : Cond.methodLink RX11 185 yX11_comes ∈ tb := tb_t 882 (by decide +kernel) (by decide +kernel)
theorem wd_884 : Cond.instanceMethod yX11_comes ∈ tb := tb_t 884 (by decide +kernel) (by decide +kernel)
theorem wd_885 : Cond.code yX11_comes cX11_comes 5 (some FieldType.int) ∈ tb := tb_t 885 (by decide +kernel) (by decide +kernel)
theorem wd_886 : Cond.methodLink RX11 124 yX11_isGood ∈ tb := tb_t 886 (by decide +kernel) (by decide +kernel)
theorem wd_888 : Cond.instanceMethod yX11_isGood ∈ tb := tb_t 888 (by decide +kernel) (by decide +kernel)
theorem wd_889 : Cond.code yX11_isGood cX11_isGood 2 (some FieldType.boolean) ∈ tb := tb_t 889 (by decide +kernel) (by decide +kernel)
theorem wd_890 : Cond.constant RX11 160 (-1000003 : Int32) ∈ tb := tb_t 890 (by decide +kernel) (by decide +kernel)
theorem wd_891 : Cond.methodLink RX11 60 yX11_lays ∈ tb := tb_t 891 (by decide +kernel) (by decide +kernel)
theorem wd_893 : Cond.instanceMethod yX11_lays ∈ tb := tb_t 893 (by decide +kernel) (by decide +kernel)
theorem wd_894 : Cond.code yX11_lays cX11_lays 4 none ∈ tb := tb_t 894 (by decide +kernel) (by decide +kernel)
theorem wd_895 : Cond.methodLink RL 34 yX11_card ∈ tb := tb_t 895 (by decide +kernel) (by decide +kernel)
theorem wd_896 : Cond.instanceMethod yX11_card ∈ tb := tb_t 896 (by decide +kernel) (by decide +kernel)
theorem wd_897 : Cond.selects RX11 yX11_card yX11_card ∈ tb := tb_t 897 (by decide +kernel) (by decide +kernel)
theorem wd_898 : Cond.code yX11_card cX11_card 5 (some FieldType.int) ∈ tb := tb_t 898 (by decide +kernel) (by decide +kernel)
theorem wd_899 : Cond.methodLink RX11 188 yX11_cards ∈ tb := tb_t 899 (by decide +kernel) (by decide +kernel)
theorem wd_901 : Cond.instanceMethod yX11_cards ∈ tb := tb_t 901 (by decide +kernel) (by decide +kernel)
theorem wd_902 : Cond.code yX11_cards cX11_cards 5 (some FieldType.int) ∈ tb := tb_t 902 (by decide +kernel) (by decide +kernel)
theorem wd_903 : Cond.methodLink RX11 161 yX11_isCart ∈ tb := tb_t 903 (by decide +kernel) (by decide +kernel)
theorem wd_905 : Cond.instanceMethod yX11_isCart ∈ tb := tb_t 905 (by decide +kernel) (by decide +kernel)
theorem wd_906 : Cond.code yX11_isCart cX11_isCart 2 (some FieldType.boolean) ∈ tb := tb_t 906 (by decide +kernel) (by decide +kernel)
theorem wd_907 : Cond.methodLink RX11 86 yX11_isOut ∈ tb := tb_t 907 (by decide +kernel) (by decide +kernel)
theorem wd_909 : Cond.instanceMethod yX11_isOut ∈ tb := tb_t 909 (by decide +kernel) (by decide +kernel)
theorem wd_910 : Cond.code yX11_isOut cX11_isOut 2 (some FieldType.boolean) ∈ tb := tb_t 910 (by decide +kernel) (by decide +kernel)
theorem wd_911 : Cond.methodLink RX11 121 yX11_isLocked ∈ tb := tb_t 911 (by decide +kernel) (by decide +kernel)
theorem wd_913 : Cond.instanceMethod yX11_isLocked ∈ tb := tb_t 913 (by decide +kernel) (by decide +kernel)
theorem wd_914 : Cond.code yX11_isLocked cX11_isLocked 3 (some FieldType.boolean) ∈ tb := tb_t 914 (by decide +kernel) (by decide +kernel)
theorem wd_915 : Cond.methodLink RX11 164 yX11_withCards ∈ tb := tb_t 915 (by decide +kernel) (by decide +kernel)
theorem wd_917 : Cond.instanceMethod yX11_withCards ∈ tb := tb_t 917 (by decide +kernel) (by decide +kernel)
theorem wd_918 : Cond.code yX11_withCards cX11_withCards 4 (some FieldType.int) ∈ tb := tb_t 918 (by decide +kernel) (by decide +kernel)
theorem wd_919 : Cond.methodLink RX11 102 yX11_rank ∈ tb := tb_t 919 (by decide +kernel) (by decide +kernel)
theorem wd_921 : Cond.instanceMethod yX11_rank ∈ tb := tb_t 921 (by decide +kernel) (by decide +kernel)
theorem wd_922 : Cond.code yX11_rank cX11_rank 3 (some FieldType.int) ∈ tb := tb_t 922 (by decide +kernel) (by decide +kernel)
theorem wd_923 : Cond.methodLink RX11 167 yX11_ones ∈ tb := tb_t 923 (by decide +kernel) (by decide +kernel)
theorem wd_924 : Cond.static yX11_ones ∈ tb := tb_t 924 (by decide +kernel) (by decide +kernel)
theorem wd_925 : Cond.code yX11_ones cX11_ones 3 (some FieldType.int) ∈ tb := tb_t 925 (by decide +kernel) (by decide +kernel)
theorem wd_926 : Cond.methodLink RL 38 yX11_damage ∈ tb := tb_t 926 (by decide +kernel) (by decide +kernel)
theorem wd_927 : Cond.instanceMethod yX11_damage ∈ tb := tb_t 927 (by decide +kernel) (by decide +kernel)
theorem wd_928 : Cond.selects RX11 yX11_damage yX11_damage ∈ tb := tb_t 928 (by decide +kernel) (by decide +kernel)
theorem wd_929 : Cond.code yX11_damage cX11_damage 4 (some FieldType.int) ∈ tb := tb_t 929 (by decide +kernel) (by decide +kernel)
theorem wd_930 : Cond.methodLink RL 43 yX11_phase ∈ tb := tb_t 930 (by decide +kernel) (by decide +kernel)
theorem wd_931 : Cond.instanceMethod yX11_phase ∈ tb := tb_t 931 (by decide +kernel) (by decide +kernel)
theorem wd_932 : Cond.selects RX11 yX11_phase yX11_phase ∈ tb := tb_t 932 (by decide +kernel) (by decide +kernel)
theorem wd_933 : Cond.code yX11_phase cX11_phase 1 (some FieldType.int) ∈ tb := tb_t 933 (by decide +kernel) (by decide +kernel)
theorem wd_934 : Cond.methodLink RX11 192 yX11_phases ∈ tb := tb_t 934 (by decide +kernel) (by decide +kernel)
theorem wd_936 : Cond.instanceMethod yX11_phases ∈ tb := tb_t 936 (by decide +kernel) (by decide +kernel)
theorem wd_937 : Cond.code yX11_phases cX11_phases 1 (some FieldType.int) ∈ tb := tb_t 937 (by decide +kernel) (by decide +kernel)
theorem wd_938 : Cond.methodLink RX11 170 yX11_passes ∈ tb := tb_t 938 (by decide +kernel) (by decide +kernel)
theorem wd_940 : Cond.instanceMethod yX11_passes ∈ tb := tb_t 940 (by decide +kernel) (by decide +kernel)
theorem wd_941 : Cond.code yX11_passes cX11_passes 4 (some FieldType.int) ∈ tb := tb_t 941 (by decide +kernel) (by decide +kernel)
theorem wd_942 : Cond.methodLink RX11 134 yX11_outs ∈ tb := tb_t 942 (by decide +kernel) (by decide +kernel)
theorem wd_944 : Cond.instanceMethod yX11_outs ∈ tb := tb_t 944 (by decide +kernel) (by decide +kernel)
theorem wd_945 : Cond.code yX11_outs cX11_outs 3 (some FieldType.int) ∈ tb := tb_t 945 (by decide +kernel) (by decide +kernel)
theorem wd_946 : Cond.methodLink RX11 138 yX11_orders ∈ tb := tb_t 946 (by decide +kernel) (by decide +kernel)
theorem wd_948 : Cond.instanceMethod yX11_orders ∈ tb := tb_t 948 (by decide +kernel) (by decide +kernel)
theorem wd_949 : Cond.code yX11_orders cX11_orders 4 none ∈ tb := tb_t 949 (by decide +kernel) (by decide +kernel)
theorem wd_950 : Cond.methodLink RX11 141 yX11_does ∈ tb := tb_t 950 (by decide +kernel) (by decide +kernel)
theorem wd_952 : Cond.instanceMethod yX11_does ∈ tb := tb_t 952 (by decide +kernel) (by decide +kernel)
theorem wd_953 : Cond.code yX11_does cX11_does 4 none ∈ tb := tb_t 953 (by decide +kernel) (by decide +kernel)
theorem wd_954 : Cond.methodLink RX11 93 yX11_drives ∈ tb := tb_t 954 (by decide +kernel) (by decide +kernel)
theorem wd_956 : Cond.instanceMethod yX11_drives ∈ tb := tb_t 956 (by decide +kernel) (by decide +kernel)
theorem wd_957 : Cond.code yX11_drives cX11_drives 5 none ∈ tb := tb_t 957 (by decide +kernel) (by decide +kernel)
theorem wd_958 : Cond.methodLink RX11 90 yX11_steps1 ∈ tb := tb_t 958 (by decide +kernel) (by decide +kernel)
theorem wd_960 : Cond.instanceMethod yX11_steps1 ∈ tb := tb_t 960 (by decide +kernel) (by decide +kernel)
theorem wd_961 : Cond.code yX11_steps1 cX11_steps1 8 (some FieldType.boolean) ∈ tb := tb_t 961 (by decide +kernel) (by decide +kernel)
theorem wd_962 : Cond.methodLink RX11 72 yX11_isWall ∈ tb := tb_t 962 (by decide +kernel) (by decide +kernel)
theorem wd_964 : Cond.instanceMethod yX11_isWall ∈ tb := tb_t 964 (by decide +kernel) (by decide +kernel)
theorem wd_965 : Cond.code yX11_isWall cX11_isWall 3 (some FieldType.boolean) ∈ tb := tb_t 965 (by decide +kernel) (by decide +kernel)
theorem wd_966 : Cond.methodLink RX11 83 yX11_comesTo ∈ tb := tb_t 966 (by decide +kernel) (by decide +kernel)
theorem wd_968 : Cond.instanceMethod yX11_comesTo ∈ tb := tb_t 968 (by decide +kernel) (by decide +kernel)
theorem wd_969 : Cond.code yX11_comesTo cX11_comesTo 3 none ∈ tb := tb_t 969 (by decide +kernel) (by decide +kernel)
theorem wd_970 : Cond.methodLink RX11 68 yX11_goesOut ∈ tb := tb_t 970 (by decide +kernel) (by decide +kernel)
theorem wd_972 : Cond.instanceMethod yX11_goesOut ∈ tb := tb_t 972 (by decide +kernel) (by decide +kernel)
theorem wd_973 : Cond.code yX11_goesOut cX11_goesOut 2 none ∈ tb := tb_t 973 (by decide +kernel) (by decide +kernel)
theorem wd_974 : Cond.methodLink RX11 64 yX11_more ∈ tb := tb_t 974 (by decide +kernel) (by decide +kernel)
theorem wd_976 : Cond.instanceMethod yX11_more ∈ tb := tb_t 976 (by decide +kernel) (by decide +kernel)
theorem wd_977 : Cond.code yX11_more cX11_more 3 none ∈ tb := tb_t 977 (by decide +kernel) (by decide +kernel)
theorem wd_978 : Cond.methodLink RX11 96 yX11_turns ∈ tb := tb_t 978 (by decide +kernel) (by decide +kernel)
theorem wd_980 : Cond.instanceMethod yX11_turns ∈ tb := tb_t 980 (by decide +kernel) (by decide +kernel)
theorem wd_981 : Cond.code yX11_turns cX11_turns 3 none ∈ tb := tb_t 981 (by decide +kernel) (by decide +kernel)
theorem wd_982 : Cond.methodLink RX11 144 yX11_belts ∈ tb := tb_t 982 (by decide +kernel) (by decide +kernel)
theorem wd_984 : Cond.instanceMethod yX11_belts ∈ tb := tb_t 984 (by decide +kernel) (by decide +kernel)
theorem wd_985 : Cond.code yX11_belts cX11_belts 3 none ∈ tb := tb_t 985 (by decide +kernel) (by decide +kernel)
theorem wd_986 : Cond.methodLink RX11 105 yX11_isOnBelt ∈ tb := tb_t 986 (by decide +kernel) (by decide +kernel)
theorem wd_988 : Cond.instanceMethod yX11_isOnBelt ∈ tb := tb_t 988 (by decide +kernel) (by decide +kernel)
theorem wd_989 : Cond.code yX11_isOnBelt cX11_isOnBelt 2 (some FieldType.boolean) ∈ tb := tb_t 989 (by decide +kernel) (by decide +kernel)
theorem wd_990 : Cond.methodLink RX11 108 yX11_wants ∈ tb := tb_t 990 (by decide +kernel) (by decide +kernel)
theorem wd_992 : Cond.instanceMethod yX11_wants ∈ tb := tb_t 992 (by decide +kernel) (by decide +kernel)
theorem wd_993 : Cond.code yX11_wants cX11_wants 2 (some FieldType.int) ∈ tb := tb_t 993 (by decide +kernel) (by decide +kernel)
theorem wd_994 : Cond.methodLink RX11 115 yX11_stays ∈ tb := tb_t 994 (by decide +kernel) (by decide +kernel)
theorem wd_996 : Cond.instanceMethod yX11_stays ∈ tb := tb_t 996 (by decide +kernel) (by decide +kernel)
theorem wd_997 : Cond.code yX11_stays cX11_stays 4 (some FieldType.boolean) ∈ tb := tb_t 997 (by decide +kernel) (by decide +kernel)
theorem wd_998 : Cond.methodLink RX11 111 yX11_isInTheWay ∈ tb := tb_t 998 (by decide +kernel) (by decide +kernel)
theorem wd_1000 : Cond.instanceMethod yX11_isInTheWay ∈ tb := tb_t 1000 (by decide +kernel) (by decide +kernel)
theorem wd_1001 : Cond.code yX11_isInTheWay cX11_isInTheWay 6 (some FieldType.boolean) ∈ tb := tb_t 1001 (by decide +kernel) (by decide +kernel)
theorem wd_1002 : Cond.methodLink RX11 147 yX11_gears ∈ tb := tb_t 1002 (by decide +kernel) (by decide +kernel)
theorem wd_1004 : Cond.instanceMethod yX11_gears ∈ tb := tb_t 1004 (by decide +kernel) (by decide +kernel)
theorem wd_1005 : Cond.code yX11_gears cX11_gears 3 none ∈ tb := tb_t 1005 (by decide +kernel) (by decide +kernel)
theorem wd_1006 : Cond.methodLink RX11 150 yX11_touches ∈ tb := tb_t 1006 (by decide +kernel) (by decide +kernel)
theorem wd_1008 : Cond.instanceMethod yX11_touches ∈ tb := tb_t 1008 (by decide +kernel) (by decide +kernel)
theorem wd_1009 : Cond.code yX11_touches cX11_touches 2 none ∈ tb := tb_t 1009 (by decide +kernel) (by decide +kernel)
theorem wd_1010 : Cond.methodLink RX11 118 yX11_nextFlag ∈ tb := tb_t 1010 (by decide +kernel) (by decide +kernel)
theorem wd_1012 : Cond.instanceMethod yX11_nextFlag ∈ tb := tb_t 1012 (by decide +kernel) (by decide +kernel)
theorem wd_1013 : Cond.code yX11_nextFlag cX11_nextFlag 2 (some FieldType.int) ∈ tb := tb_t 1013 (by decide +kernel) (by decide +kernel)
theorem wd_1014 : Cond.methodLink RX11 153 yX11_ends ∈ tb := tb_t 1014 (by decide +kernel) (by decide +kernel)
theorem wd_1016 : Cond.instanceMethod yX11_ends ∈ tb := tb_t 1016 (by decide +kernel) (by decide +kernel)
theorem wd_1017 : Cond.code yX11_ends cX11_ends 3 none ∈ tb := tb_t 1017 (by decide +kernel) (by decide +kernel)
theorem wd_1018 : Cond.methodLink RX11 127 yX11_empties ∈ tb := tb_t 1018 (by decide +kernel) (by decide +kernel)
theorem wd_1020 : Cond.instanceMethod yX11_empties ∈ tb := tb_t 1020 (by decide +kernel) (by decide +kernel)
theorem wd_1021 : Cond.code yX11_empties cX11_empties 4 none ∈ tb := tb_t 1021 (by decide +kernel) (by decide +kernel)
theorem wd_1022 : Cond.methodLink RX11 131 yX11_comesBack ∈ tb := tb_t 1022 (by decide +kernel) (by decide +kernel)
theorem wd_1024 : Cond.instanceMethod yX11_comesBack ∈ tb := tb_t 1024 (by decide +kernel) (by decide +kernel)
theorem wd_1025 : Cond.code yX11_comesBack cX11_comesBack 3 none ∈ tb := tb_t 1025 (by decide +kernel) (by decide +kernel)
theorem wd_1026 : Cond.methodLink RL 47 yX11_round ∈ tb := tb_t 1026 (by decide +kernel) (by decide +kernel)
theorem wd_1027 : Cond.instanceMethod yX11_round ∈ tb := tb_t 1027 (by decide +kernel) (by decide +kernel)
theorem wd_1028 : Cond.selects RX11 yX11_round yX11_round ∈ tb := tb_t 1028 (by decide +kernel) (by decide +kernel)
theorem wd_1029 : Cond.code yX11_round cX11_round 2 (some FieldType.int) ∈ tb := tb_t 1029 (by decide +kernel) (by decide +kernel)
theorem wd_1030 : Cond.methodLink RL 51 yX11_cellOf ∈ tb := tb_t 1030 (by decide +kernel) (by decide +kernel)
theorem wd_1031 : Cond.instanceMethod yX11_cellOf ∈ tb := tb_t 1031 (by decide +kernel) (by decide +kernel)
theorem wd_1032 : Cond.selects RX11 yX11_cellOf yX11_cellOf ∈ tb := tb_t 1032 (by decide +kernel) (by decide +kernel)
theorem wd_1033 : Cond.code yX11_cellOf cX11_cellOf 3 (some FieldType.int) ∈ tb := tb_t 1033 (by decide +kernel) (by decide +kernel)
theorem wd_1034 : Cond.methodLink RX11 196 yX11_orNone ∈ tb := tb_t 1034 (by decide +kernel) (by decide +kernel)
theorem wd_1035 : Cond.static yX11_orNone ∈ tb := tb_t 1035 (by decide +kernel) (by decide +kernel)
theorem wd_1036 : Cond.code yX11_orNone cX11_orNone 1 (some FieldType.int) ∈ tb := tb_t 1036 (by decide +kernel) (by decide +kernel)
theorem wd_1037 : Cond.constant RX11 195 (-1000004 : Int32) ∈ tb := tb_t 1037 (by decide +kernel) (by decide +kernel)
theorem wd_1038 : Cond.methodLink RX11 199 yX11_flagOn ∈ tb := tb_t 1038 (by decide +kernel) (by decide +kernel)
theorem wd_1040 : Cond.instanceMethod yX11_flagOn ∈ tb := tb_t 1040 (by decide +kernel) (by decide +kernel)
theorem wd_1041 : Cond.code yX11_flagOn cX11_flagOn 4 (some FieldType.int) ∈ tb := tb_t 1041 (by decide +kernel) (by decide +kernel)
theorem wd_1042 : Cond.methodLink RL 55 yX11_cartOf ∈ tb := tb_t 1042 (by decide +kernel) (by decide +kernel)
theorem wd_1043 : Cond.instanceMethod yX11_cartOf ∈ tb := tb_t 1043 (by decide +kernel) (by decide +kernel)
theorem wd_1044 : Cond.selects RX11 yX11_cartOf yX11_cartOf ∈ tb := tb_t 1044 (by decide +kernel) (by decide +kernel)
theorem wd_1045 : Cond.code yX11_cartOf cX11_cartOf 3 (some FieldType.int) ∈ tb := tb_t 1045 (by decide +kernel) (by decide +kernel)
theorem wd_1046 : Cond.methodLink RX11 202 yX11_locked ∈ tb := tb_t 1046 (by decide +kernel) (by decide +kernel)
theorem wd_1048 : Cond.instanceMethod yX11_locked ∈ tb := tb_t 1048 (by decide +kernel) (by decide +kernel)
theorem wd_1049 : Cond.code yX11_locked cX11_locked 4 (some FieldType.int) ∈ tb := tb_t 1049 (by decide +kernel) (by decide +kernel)
theorem wd_1050 : Cond.methodLink RL 60 yX11_cardOf ∈ tb := tb_t 1050 (by decide +kernel) (by decide +kernel)
theorem wd_1051 : Cond.instanceMethod yX11_cardOf ∈ tb := tb_t 1051 (by decide +kernel) (by decide +kernel)
theorem wd_1052 : Cond.selects RX11 yX11_cardOf yX11_cardOf ∈ tb := tb_t 1052 (by decide +kernel) (by decide +kernel)
theorem wd_1053 : Cond.code yX11_cardOf cX11_cardOf 4 (some FieldType.int) ∈ tb := tb_t 1053 (by decide +kernel) (by decide +kernel)
theorem wd_1054 : Cond.methodLink RL 65 yX11_turn ∈ tb := tb_t 1054 (by decide +kernel) (by decide +kernel)
theorem wd_1055 : Cond.instanceMethod yX11_turn ∈ tb := tb_t 1055 (by decide +kernel) (by decide +kernel)
theorem wd_1056 : Cond.selects RX11 yX11_turn yX11_turn ∈ tb := tb_t 1056 (by decide +kernel) (by decide +kernel)
theorem wd_1057 : Cond.code yX11_turn cX11_turn 2 (some FieldType.int) ∈ tb := tb_t 1057 (by decide +kernel) (by decide +kernel)
theorem wd_1058 : Cond.methodLink RL 69 yX11_would ∈ tb := tb_t 1058 (by decide +kernel) (by decide +kernel)
theorem wd_1059 : Cond.instanceMethod yX11_would ∈ tb := tb_t 1059 (by decide +kernel) (by decide +kernel)
theorem wd_1060 : Cond.selects RX11 yX11_would yX11_would ∈ tb := tb_t 1060 (by decide +kernel) (by decide +kernel)
theorem wd_1061 : Cond.code yX11_would cX11_would 6 (some FieldType.int) ∈ tb := tb_t 1061 (by decide +kernel) (by decide +kernel)
theorem wd_1062 : Cond.methodLink RX11 205 yX11_putsAside ∈ tb := tb_t 1062 (by decide +kernel) (by decide +kernel)
theorem wd_1064 : Cond.instanceMethod yX11_putsAside ∈ tb := tb_t 1064 (by decide +kernel) (by decide +kernel)
theorem wd_1065 : Cond.code yX11_putsAside cX11_putsAside 2 none ∈ tb := tb_t 1065 (by decide +kernel) (by decide +kernel)
theorem wd_1066 : Cond.methodLink RX11 208 yX11_cartOf ∈ tb := tb_t 1066 (by decide +kernel) (by decide +kernel)
theorem wd_1067 : Cond.methodLink RX11 211 yX11_takesBack ∈ tb := tb_t 1067 (by decide +kernel) (by decide +kernel)
theorem wd_1069 : Cond.instanceMethod yX11_takesBack ∈ tb := tb_t 1069 (by decide +kernel) (by decide +kernel)
theorem wd_1070 : Cond.code yX11_takesBack cX11_takesBack 2 none ∈ tb := tb_t 1070 (by decide +kernel) (by decide +kernel)
theorem wd_1071 : Cond.methodLink RL 73 yX11_best ∈ tb := tb_t 1071 (by decide +kernel) (by decide +kernel)
theorem wd_1072 : Cond.instanceMethod yX11_best ∈ tb := tb_t 1072 (by decide +kernel) (by decide +kernel)
theorem wd_1073 : Cond.selects RX11 yX11_best yX11_best ∈ tb := tb_t 1073 (by decide +kernel) (by decide +kernel)
theorem wd_1074 : Cond.code yX11_best cX11_best 10 (some FieldType.int) ∈ tb := tb_t 1074 (by decide +kernel) (by decide +kernel)
theorem wd_1075 : Cond.methodLink RX11 220 yX11_farBy ∈ tb := tb_t 1075 (by decide +kernel) (by decide +kernel)
theorem wd_1077 : Cond.instanceMethod yX11_farBy ∈ tb := tb_t 1077 (by decide +kernel) (by decide +kernel)
theorem wd_1078 : Cond.code yX11_farBy cX11_farBy 9 (some FieldType.int) ∈ tb := tb_t 1078 (by decide +kernel) (by decide +kernel)
theorem wd_1079 : Cond.methodLink RX11 217 yX11_far ∈ tb := tb_t 1079 (by decide +kernel) (by decide +kernel)
theorem wd_1080 : Cond.static yX11_far ∈ tb := tb_t 1080 (by decide +kernel) (by decide +kernel)
theorem wd_1081 : Cond.code yX11_far cX11_far 2 (some FieldType.int) ∈ tb := tb_t 1081 (by decide +kernel) (by decide +kernel)
theorem wd_1082 : Cond.methodLink RX11 214 yX11_difference ∈ tb := tb_t 1082 (by decide +kernel) (by decide +kernel)
theorem wd_1083 : Cond.static yX11_difference ∈ tb := tb_t 1083 (by decide +kernel) (by decide +kernel)
theorem wd_1084 : Cond.code yX11_difference cX11_difference 2 (some FieldType.int) ∈ tb := tb_t 1084 (by decide +kernel) (by decide +kernel)
theorem wd_1085 : Cond.methodLink RL 77 yX11_steps ∈ tb := tb_t 1085 (by decide +kernel) (by decide +kernel)
theorem wd_1086 : Cond.instanceMethod yX11_steps ∈ tb := tb_t 1086 (by decide +kernel) (by decide +kernel)
theorem wd_1087 : Cond.selects RX11 yX11_steps yX11_steps ∈ tb := tb_t 1087 (by decide +kernel) (by decide +kernel)
theorem wd_1088 : Cond.code yX11_steps cX11_steps 4 (some FieldType.int) ∈ tb := tb_t 1088 (by decide +kernel) (by decide +kernel)
theorem wd_1089 : Cond.methodLink RX11 223 yX11_spreads ∈ tb := tb_t 1089 (by decide +kernel) (by decide +kernel)
theorem wd_1091 : Cond.instanceMethod yX11_spreads ∈ tb := tb_t 1091 (by decide +kernel) (by decide +kernel)
theorem wd_1092 : Cond.code yX11_spreads cX11_spreads 6 (some FieldType.boolean) ∈ tb := tb_t 1092 (by decide +kernel) (by decide +kernel)
theorem wd_1093 : Cond.methodLink RL 81 yX11_count ∈ tb := tb_t 1093 (by decide +kernel) (by decide +kernel)
theorem wd_1094 : Cond.instanceMethod yX11_count ∈ tb := tb_t 1094 (by decide +kernel) (by decide +kernel)
theorem wd_1095 : Cond.selects RX11 yX11_count yX11_count ∈ tb := tb_t 1095 (by decide +kernel) (by decide +kernel)
theorem wd_1096 : Cond.code yX11_count cX11_count 2 (some FieldType.int) ∈ tb := tb_t 1096 (by decide +kernel) (by decide +kernel)
theorem wd_1097 : Cond.methodLink RX11 226 yX11_cartsOut ∈ tb := tb_t 1097 (by decide +kernel) (by decide +kernel)
theorem wd_1099 : Cond.instanceMethod yX11_cartsOut ∈ tb := tb_t 1099 (by decide +kernel) (by decide +kernel)
theorem wd_1100 : Cond.code yX11_cartsOut cX11_cartsOut 3 (some FieldType.int) ∈ tb := tb_t 1100 (by decide +kernel) (by decide +kernel)
theorem wd_1101 : Cond.methodLink RL 85 yX11_undo ∈ tb := tb_t 1101 (by decide +kernel) (by decide +kernel)
theorem wd_1102 : Cond.instanceMethod yX11_undo ∈ tb := tb_t 1102 (by decide +kernel) (by decide +kernel)
theorem wd_1103 : Cond.selects RX11 yX11_undo yX11_undo ∈ tb := tb_t 1103 (by decide +kernel) (by decide +kernel)
theorem wd_1104 : Cond.code yX11_undo cX11_undo 2 (some FieldType.int) ∈ tb := tb_t 1104 (by decide +kernel) (by decide +kernel)
theorem wd_1105 : Cond.methodLink RL 89 yX11_type ∈ tb := tb_t 1105 (by decide +kernel) (by decide +kernel)
theorem wd_1106 : Cond.instanceMethod yX11_type ∈ tb := tb_t 1106 (by decide +kernel) (by decide +kernel)
theorem wd_1107 : Cond.selects RX11 yX11_type yX11_type ∈ tb := tb_t 1107 (by decide +kernel) (by decide +kernel)
theorem wd_1108 : Cond.code yX11_type cX11_type 2 (some FieldType.int) ∈ tb := tb_t 1108 (by decide +kernel) (by decide +kernel)
theorem wd_1109 : Cond.methodLink RL 93 yX11_clearText ∈ tb := tb_t 1109 (by decide +kernel) (by decide +kernel)
theorem wd_1110 : Cond.instanceMethod yX11_clearText ∈ tb := tb_t 1110 (by decide +kernel) (by decide +kernel)
theorem wd_1111 : Cond.selects RX11 yX11_clearText yX11_clearText ∈ tb := tb_t 1111 (by decide +kernel) (by decide +kernel)
theorem wd_1112 : Cond.code yX11_clearText cX11_clearText 2 (some FieldType.int) ∈ tb := tb_t 1112 (by decide +kernel) (by decide +kernel)
theorem wd_1113 : Cond.methodLink RL 97 yX11_fault ∈ tb := tb_t 1113 (by decide +kernel) (by decide +kernel)
theorem wd_1114 : Cond.instanceMethod yX11_fault ∈ tb := tb_t 1114 (by decide +kernel) (by decide +kernel)
theorem wd_1115 : Cond.selects RX11 yX11_fault yX11_fault ∈ tb := tb_t 1115 (by decide +kernel) (by decide +kernel)
theorem wd_1116 : Cond.code yX11_fault cX11_fault 3 (some FieldType.int) ∈ tb := tb_t 1116 (by decide +kernel) (by decide +kernel)
theorem wd_1117 : Cond.methodLink RX11 267 yX11_doesAll ∈ tb := tb_t 1117 (by decide +kernel) (by decide +kernel)
theorem wd_1119 : Cond.instanceMethod yX11_doesAll ∈ tb := tb_t 1119 (by decide +kernel) (by decide +kernel)
theorem wd_1120 : Cond.code yX11_doesAll cX11_doesAll 3 (some FieldType.boolean) ∈ tb := tb_t 1120 (by decide +kernel) (by decide +kernel)
theorem wd_1121 : Cond.methodLink RX11 235 yX11_here ∈ tb := tb_t 1121 (by decide +kernel) (by decide +kernel)
theorem wd_1123 : Cond.instanceMethod yX11_here ∈ tb := tb_t 1123 (by decide +kernel) (by decide +kernel)
theorem wd_1124 : Cond.code yX11_here cX11_here 1 (some FieldType.int) ∈ tb := tb_t 1124 (by decide +kernel) (by decide +kernel)
theorem wd_1125 : Cond.methodLink RX11 252 yX11_wantsOf ∈ tb := tb_t 1125 (by decide +kernel) (by decide +kernel)
theorem wd_1126 : Cond.static yX11_wantsOf ∈ tb := tb_t 1126 (by decide +kernel) (by decide +kernel)
theorem wd_1127 : Cond.code yX11_wantsOf cX11_wantsOf 1 (some FieldType.int) ∈ tb := tb_t 1127 (by decide +kernel) (by decide +kernel)
theorem wd_1128 : Cond.methodLink RX11 255 yX11_takesSign ∈ tb := tb_t 1128 (by decide +kernel) (by decide +kernel)
theorem wd_1130 : Cond.instanceMethod yX11_takesSign ∈ tb := tb_t 1130 (by decide +kernel) (by decide +kernel)
theorem wd_1131 : Cond.code yX11_takesSign cX11_takesSign 2 none ∈ tb := tb_t 1131 (by decide +kernel) (by decide +kernel)
theorem wd_1132 : Cond.methodLink RX11 258 yX11_number ∈ tb := tb_t 1132 (by decide +kernel) (by decide +kernel)
theorem wd_1134 : Cond.instanceMethod yX11_number ∈ tb := tb_t 1134 (by decide +kernel) (by decide +kernel)
theorem wd_1135 : Cond.code yX11_number cX11_number 3 (some FieldType.int) ∈ tb := tb_t 1135 (by decide +kernel) (by decide +kernel)
theorem wd_1136 : Cond.methodLink RX11 242 yX11_isDigit ∈ tb := tb_t 1136 (by decide +kernel) (by decide +kernel)
theorem wd_1138 : Cond.instanceMethod yX11_isDigit ∈ tb := tb_t 1138 (by decide +kernel) (by decide +kernel)
theorem wd_1139 : Cond.code yX11_isDigit cX11_isDigit 1 (some FieldType.boolean) ∈ tb := tb_t 1139 (by decide +kernel) (by decide +kernel)
theorem wd_1140 : Cond.methodLink RX11 261 yX11_called ∈ tb := tb_t 1140 (by decide +kernel) (by decide +kernel)
theorem wd_1142 : Cond.instanceMethod yX11_called ∈ tb := tb_t 1142 (by decide +kernel) (by decide +kernel)
theorem wd_1143 : Cond.code yX11_called cX11_called 2 (some FieldType.int) ∈ tb := tb_t 1143 (by decide +kernel) (by decide +kernel)
theorem wd_1144 : Cond.methodLink RL 101 yX11_play ∈ tb := tb_t 1144 (by decide +kernel) (by decide +kernel)
theorem wd_1145 : Cond.instanceMethod yX11_play ∈ tb := tb_t 1145 (by decide +kernel) (by decide +kernel)
theorem wd_1146 : Cond.selects RX11 yX11_play yX11_play ∈ tb := tb_t 1146 (by decide +kernel) (by decide +kernel)
theorem wd_1147 : Cond.code yX11_play cX11_play 1 (some FieldType.int) ∈ tb := tb_t 1147 (by decide +kernel) (by decide +kernel)
theorem wp_0 : Cond.selects RX10 yX10_freshTrial yX10_freshTrial ∈ tb := tb_s 0 (by decide +kernel) (by decide +kernel)
theorem wp_1 : Cond.selects RX10 yX10_keep yX10_keep ∈ tb := tb_s 1 (by decide +kernel) (by decide +kernel)
theorem wp_2 : Cond.selects RX4 yX4_dropOldest yX4_dropOldest ∈ tb := tb_s 2 (by decide +kernel) (by decide +kernel)
theorem wp_3 : Cond.selects RX1 yX1_flipSide yX1_flipSide ∈ tb := tb_s 3 (by decide +kernel) (by decide +kernel)
theorem wp_4 : Cond.selects RX2 yX2_insert yX2_insert ∈ tb := tb_s 4 (by decide +kernel) (by decide +kernel)
theorem wp_5 : Cond.selects RX2 yX2_step yX2_step ∈ tb := tb_s 5 (by decide +kernel) (by decide +kernel)
theorem wp_6 : Cond.selects RX0 yX0_askAll yX0_askAll ∈ tb := tb_s 6 (by decide +kernel) (by decide +kernel)
theorem wp_7 : Cond.selects RX0 yX0_isHindered yX0_isHindered ∈ tb := tb_s 7 (by decide +kernel) (by decide +kernel)
theorem wp_8 : Cond.selects RX0 yX0_isBlocked yX0_isBlocked ∈ tb := tb_s 8 (by decide +kernel) (by decide +kernel)
theorem wp_9 : Cond.selects RX8 yX8_cellToComeBack yX8_cellToComeBack ∈ tb := tb_s 9 (by decide +kernel) (by decide +kernel)
theorem wp_10 : Cond.selects RX10 yX10_distanceBehind yX10_distanceBehind ∈ tb := tb_s 10 (by decide +kernel) (by decide +kernel)
theorem wp_11 : Cond.selects RX9 yX9_reach yX9_reach ∈ tb := tb_s 11 (by decide +kernel) (by decide +kernel)
theorem wp_12 : Cond.selects RX9 yX9_reachAround yX9_reachAround ∈ tb := tb_s 12 (by decide +kernel) (by decide +kernel)
theorem wp_13 : Cond.selects RX6 yX6_take yX6_take ∈ tb := tb_s 13 (by decide +kernel) (by decide +kernel)
theorem wp_14 : Cond.selects RX6 yX6_takeNumber yX6_takeNumber ∈ tb := tb_s 14 (by decide +kernel) (by decide +kernel)
theorem wp_15 : Cond.selects RX5 yX5_obey yX5_obey ∈ tb := tb_s 15 (by decide +kernel) (by decide +kernel)
theorem wp_16 : Cond.selects RX11 yX11_begins yX11_begins ∈ tb := tb_s 16 (by decide +kernel) (by decide +kernel)
theorem wp_17 : Cond.selects RX11 yX11_kinds yX11_kinds ∈ tb := tb_s 17 (by decide +kernel) (by decide +kernel)
theorem wp_18 : Cond.selects RX11 yX11_cartOn yX11_cartOn ∈ tb := tb_s 18 (by decide +kernel) (by decide +kernel)
theorem wp_19 : Cond.selects RX11 yX11_of yX11_of ∈ tb := tb_s 19 (by decide +kernel) (by decide +kernel)
theorem wp_20 : Cond.selects RX11 yX11_acted yX11_acted ∈ tb := tb_s 20 (by decide +kernel) (by decide +kernel)
theorem wp_21 : Cond.selects RX11 yX11_returns yX11_returns ∈ tb := tb_s 21 (by decide +kernel) (by decide +kernel)
theorem wp_22 : Cond.selects RX11 yX11_walls yX11_walls ∈ tb := tb_s 22 (by decide +kernel) (by decide +kernel)
theorem wp_23 : Cond.selects RX11 yX11_comes yX11_comes ∈ tb := tb_s 23 (by decide +kernel) (by decide +kernel)
theorem wp_24 : Cond.selects RX11 yX11_isGood yX11_isGood ∈ tb := tb_s 24 (by decide +kernel) (by decide +kernel)
theorem wp_25 : Cond.selects RX11 yX11_lays yX11_lays ∈ tb := tb_s 25 (by decide +kernel) (by decide +kernel)
theorem wp_26 : Cond.selects RX11 yX11_cards yX11_cards ∈ tb := tb_s 26 (by decide +kernel) (by decide +kernel)
theorem wp_27 : Cond.selects RX11 yX11_isCart yX11_isCart ∈ tb := tb_s 27 (by decide +kernel) (by decide +kernel)
theorem wp_28 : Cond.selects RX11 yX11_isOut yX11_isOut ∈ tb := tb_s 28 (by decide +kernel) (by decide +kernel)
theorem wp_29 : Cond.selects RX11 yX11_isLocked yX11_isLocked ∈ tb := tb_s 29 (by decide +kernel) (by decide +kernel)
theorem wp_30 : Cond.selects RX11 yX11_withCards yX11_withCards ∈ tb := tb_s 30 (by decide +kernel) (by decide +kernel)
theorem wp_31 : Cond.selects RX11 yX11_rank yX11_rank ∈ tb := tb_s 31 (by decide +kernel) (by decide +kernel)
theorem wp_32 : Cond.selects RX11 yX11_phases yX11_phases ∈ tb := tb_s 32 (by decide +kernel) (by decide +kernel)
theorem wp_33 : Cond.selects RX11 yX11_passes yX11_passes ∈ tb := tb_s 33 (by decide +kernel) (by decide +kernel)
theorem wp_34 : Cond.selects RX11 yX11_outs yX11_outs ∈ tb := tb_s 34 (by decide +kernel) (by decide +kernel)
theorem wp_35 : Cond.selects RX11 yX11_orders yX11_orders ∈ tb := tb_s 35 (by decide +kernel) (by decide +kernel)
theorem wp_36 : Cond.selects RX11 yX11_does yX11_does ∈ tb := tb_s 36 (by decide +kernel) (by decide +kernel)
theorem wp_37 : Cond.selects RX11 yX11_drives yX11_drives ∈ tb := tb_s 37 (by decide +kernel) (by decide +kernel)
theorem wp_38 : Cond.selects RX11 yX11_steps1 yX11_steps1 ∈ tb := tb_s 38 (by decide +kernel) (by decide +kernel)
theorem wp_39 : Cond.selects RX11 yX11_isWall yX11_isWall ∈ tb := tb_s 39 (by decide +kernel) (by decide +kernel)
theorem wp_40 : Cond.selects RX11 yX11_comesTo yX11_comesTo ∈ tb := tb_s 40 (by decide +kernel) (by decide +kernel)
theorem wp_41 : Cond.selects RX11 yX11_goesOut yX11_goesOut ∈ tb := tb_s 41 (by decide +kernel) (by decide +kernel)
theorem wp_42 : Cond.selects RX11 yX11_more yX11_more ∈ tb := tb_s 42 (by decide +kernel) (by decide +kernel)
theorem wp_43 : Cond.selects RX11 yX11_turns yX11_turns ∈ tb := tb_s 43 (by decide +kernel) (by decide +kernel)
theorem wp_44 : Cond.selects RX11 yX11_belts yX11_belts ∈ tb := tb_s 44 (by decide +kernel) (by decide +kernel)
theorem wp_45 : Cond.selects RX11 yX11_isOnBelt yX11_isOnBelt ∈ tb := tb_s 45 (by decide +kernel) (by decide +kernel)
theorem wp_46 : Cond.selects RX11 yX11_wants yX11_wants ∈ tb := tb_s 46 (by decide +kernel) (by decide +kernel)
theorem wp_47 : Cond.selects RX11 yX11_stays yX11_stays ∈ tb := tb_s 47 (by decide +kernel) (by decide +kernel)
theorem wp_48 : Cond.selects RX11 yX11_isInTheWay yX11_isInTheWay ∈ tb := tb_s 48 (by decide +kernel) (by decide +kernel)
theorem wp_49 : Cond.selects RX11 yX11_gears yX11_gears ∈ tb := tb_s 49 (by decide +kernel) (by decide +kernel)
theorem wp_50 : Cond.selects RX11 yX11_touches yX11_touches ∈ tb := tb_s 50 (by decide +kernel) (by decide +kernel)
theorem wp_51 : Cond.selects RX11 yX11_nextFlag yX11_nextFlag ∈ tb := tb_s 51 (by decide +kernel) (by decide +kernel)
theorem wp_52 : Cond.selects RX11 yX11_ends yX11_ends ∈ tb := tb_s 52 (by decide +kernel) (by decide +kernel)
theorem wp_53 : Cond.selects RX11 yX11_empties yX11_empties ∈ tb := tb_s 53 (by decide +kernel) (by decide +kernel)
theorem wp_54 : Cond.selects RX11 yX11_comesBack yX11_comesBack ∈ tb := tb_s 54 (by decide +kernel) (by decide +kernel)
theorem wp_55 : Cond.selects RX11 yX11_flagOn yX11_flagOn ∈ tb := tb_s 55 (by decide +kernel) (by decide +kernel)
theorem wp_56 : Cond.selects RX11 yX11_locked yX11_locked ∈ tb := tb_s 56 (by decide +kernel) (by decide +kernel)
theorem wp_57 : Cond.selects RX11 yX11_putsAside yX11_putsAside ∈ tb := tb_s 57 (by decide +kernel) (by decide +kernel)
theorem wp_58 : Cond.selects RX11 yX11_takesBack yX11_takesBack ∈ tb := tb_s 58 (by decide +kernel) (by decide +kernel)
theorem wp_59 : Cond.selects RX11 yX11_farBy yX11_farBy ∈ tb := tb_s 59 (by decide +kernel) (by decide +kernel)
theorem wp_60 : Cond.selects RX11 yX11_spreads yX11_spreads ∈ tb := tb_s 60 (by decide +kernel) (by decide +kernel)
theorem wp_61 : Cond.selects RX11 yX11_cartsOut yX11_cartsOut ∈ tb := tb_s 61 (by decide +kernel) (by decide +kernel)
theorem wp_62 : Cond.selects RX11 yX11_doesAll yX11_doesAll ∈ tb := tb_s 62 (by decide +kernel) (by decide +kernel)
theorem wp_63 : Cond.selects RX11 yX11_here yX11_here ∈ tb := tb_s 63 (by decide +kernel) (by decide +kernel)
theorem wp_64 : Cond.selects RX11 yX11_takesSign yX11_takesSign ∈ tb := tb_s 64 (by decide +kernel) (by decide +kernel)
theorem wp_65 : Cond.selects RX11 yX11_number yX11_number ∈ tb := tb_s 65 (by decide +kernel) (by decide +kernel)
theorem wp_66 : Cond.selects RX11 yX11_isDigit yX11_isDigit ∈ tb := tb_s 66 (by decide +kernel) (by decide +kernel)
theorem wp_67 : Cond.selects RX11 yX11_called yX11_called ∈ tb := tb_s 67 (by decide +kernel) (by decide +kernel)
theorem inTX0 : ∀ w ∈ wsX00, w ∈ tb := by
  intro w h
  obtain ⟨k, hk, rfl⟩ := List.mem_map.mp h
  have hk := List.mem_range.mp hk
  rcases (show k = 0 ∨ k = 1 ∨ k = 2 by omega) with rfl | rfl | rfl
  · exact tb_t 196 (by decide +kernel) (by decide +kernel)
  · exact tb_t 198 (by decide +kernel) (by decide +kernel)
  · exact tb_t 200 (by decide +kernel) (by decide +kernel)
theorem inTX1 : ∀ w ∈ wsX10, w ∈ tb := by
  intro w h
  obtain ⟨k, hk, rfl⟩ := List.mem_map.mp h
  have hk := List.mem_range.mp hk
  rcases (show k = 0 ∨ k = 1 ∨ k = 2 ∨ k = 3 by omega) with rfl | rfl | rfl | rfl
  · exact tb_t 46 (by decide +kernel) (by decide +kernel)
  · exact tb_t 48 (by decide +kernel) (by decide +kernel)
  · exact tb_t 50 (by decide +kernel) (by decide +kernel)
  · exact tb_t 52 (by decide +kernel) (by decide +kernel)
theorem inTX2 : ∀ w ∈ wsX20, w ∈ tb := by
  intro w h
  obtain ⟨k, hk, rfl⟩ := List.mem_map.mp h
  have hk := List.mem_range.mp hk
  rcases (show k = 0 ∨ k = 1 by omega) with rfl | rfl
  · exact tb_t 182 (by decide +kernel) (by decide +kernel)
  · exact tb_t 184 (by decide +kernel) (by decide +kernel)
theorem inTX3 : ∀ w ∈ wsX30, w ∈ tb := by
  intro w h
  obtain ⟨k, hk, rfl⟩ := List.mem_map.mp h
  have hk := List.mem_range.mp hk
  rcases (show k = 0 ∨ k = 1 ∨ k = 2 ∨ k = 3 ∨ k = 4 ∨ k = 5 ∨ k = 6 ∨ k = 7 ∨ k = 8 by omega) with rfl | rfl | rfl | rfl | rfl | rfl | rfl | rfl | rfl
  · exact tb_t 88 (by decide +kernel) (by decide +kernel)
  · exact tb_t 90 (by decide +kernel) (by decide +kernel)
  · exact tb_t 92 (by decide +kernel) (by decide +kernel)
  · exact tb_t 94 (by decide +kernel) (by decide +kernel)
  · exact tb_t 96 (by decide +kernel) (by decide +kernel)
  · exact tb_t 98 (by decide +kernel) (by decide +kernel)
  · exact tb_t 100 (by decide +kernel) (by decide +kernel)
  · exact tb_t 102 (by decide +kernel) (by decide +kernel)
  · exact tb_t 104 (by decide +kernel) (by decide +kernel)
theorem inTX4 : ∀ w ∈ wsX40, w ∈ tb := by
  intro w h
  obtain ⟨k, hk, rfl⟩ := List.mem_map.mp h
  have hk := List.mem_range.mp hk
  rcases (show k = 0 ∨ k = 1 by omega) with rfl | rfl
  · exact tb_t 162 (by decide +kernel) (by decide +kernel)
  · exact tb_t 164 (by decide +kernel) (by decide +kernel)
theorem inTX5 : ∀ w ∈ wsX50, w ∈ tb := by
  intro w h
  obtain ⟨k, hk, rfl⟩ := List.mem_map.mp h
  have hk := List.mem_range.mp hk
  rcases (show k = 0 ∨ k = 1 ∨ k = 2 ∨ k = 3 ∨ k = 4 ∨ k = 5 by omega) with rfl | rfl | rfl | rfl | rfl | rfl
  · exact tb_t 271 (by decide +kernel) (by decide +kernel)
  · exact tb_t 273 (by decide +kernel) (by decide +kernel)
  · exact tb_t 275 (by decide +kernel) (by decide +kernel)
  · exact tb_t 277 (by decide +kernel) (by decide +kernel)
  · exact tb_t 279 (by decide +kernel) (by decide +kernel)
  · exact tb_t 281 (by decide +kernel) (by decide +kernel)
theorem inTX6 : ∀ w ∈ wsX60, w ∈ tb := by
  intro w h
  obtain ⟨k, hk, rfl⟩ := List.mem_map.mp h
  have hk := List.mem_range.mp hk
  rcases (show k = 0 ∨ k = 1 ∨ k = 2 ∨ k = 3 ∨ k = 4 by omega) with rfl | rfl | rfl | rfl | rfl
  · exact tb_t 243 (by decide +kernel) (by decide +kernel)
  · exact tb_t 245 (by decide +kernel) (by decide +kernel)
  · exact tb_t 247 (by decide +kernel) (by decide +kernel)
  · exact tb_t 249 (by decide +kernel) (by decide +kernel)
  · exact tb_t 251 (by decide +kernel) (by decide +kernel)
theorem inTX7 : ∀ w ∈ wsX70, w ∈ tb := by
  intro w h
  obtain ⟨k, hk, rfl⟩ := List.mem_map.mp h
  have hk := List.mem_range.mp hk
  rcases (show k = 0 ∨ k = 1 by omega) with rfl | rfl
  · exact tb_t 206 (by decide +kernel) (by decide +kernel)
  · exact tb_t 208 (by decide +kernel) (by decide +kernel)
theorem inTX8 : ∀ w ∈ wsX80, w ∈ tb := by
  intro w h
  obtain ⟨k, hk, rfl⟩ := List.mem_map.mp h
  have hk := List.mem_range.mp hk
  rcases (show k = 0 ∨ k = 1 ∨ k = 2 ∨ k = 3 ∨ k = 4 ∨ k = 5 ∨ k = 6 ∨ k = 7 by omega) with rfl | rfl | rfl | rfl | rfl | rfl | rfl | rfl
  · exact tb_t 133 (by decide +kernel) (by decide +kernel)
  · exact tb_t 135 (by decide +kernel) (by decide +kernel)
  · exact tb_t 137 (by decide +kernel) (by decide +kernel)
  · exact tb_t 139 (by decide +kernel) (by decide +kernel)
  · exact tb_t 141 (by decide +kernel) (by decide +kernel)
  · exact tb_t 143 (by decide +kernel) (by decide +kernel)
  · exact tb_t 145 (by decide +kernel) (by decide +kernel)
  · exact tb_t 147 (by decide +kernel) (by decide +kernel)
theorem inTX9 : ∀ w ∈ wsX90, w ∈ tb := by
  intro w h
  obtain ⟨k, hk, rfl⟩ := List.mem_map.mp h
  have hk := List.mem_range.mp hk
  rcases (show k = 0 ∨ k = 1 ∨ k = 2 by omega) with rfl | rfl | rfl
  · exact tb_t 220 (by decide +kernel) (by decide +kernel)
  · exact tb_t 222 (by decide +kernel) (by decide +kernel)
  · exact tb_t 224 (by decide +kernel) (by decide +kernel)
theorem inTX10 : ∀ w ∈ wsX100, w ∈ tb := by
  intro w h
  obtain ⟨k, hk, rfl⟩ := List.mem_map.mp h
  have hk := List.mem_range.mp hk
  rcases (show k = 0 ∨ k = 1 ∨ k = 2 ∨ k = 3 ∨ k = 4 ∨ k = 5 ∨ k = 6 by omega) with rfl | rfl | rfl | rfl | rfl | rfl | rfl
  · exact tb_t 291 (by decide +kernel) (by decide +kernel)
  · exact tb_t 293 (by decide +kernel) (by decide +kernel)
  · exact tb_t 295 (by decide +kernel) (by decide +kernel)
  · exact tb_t 297 (by decide +kernel) (by decide +kernel)
  · exact tb_t 299 (by decide +kernel) (by decide +kernel)
  · exact tb_t 301 (by decide +kernel) (by decide +kernel)
  · exact tb_t 303 (by decide +kernel) (by decide +kernel)
theorem inTX11 : ∀ w ∈ wsX110, w ∈ tb := by
  intro w h
  obtain ⟨k, hk, rfl⟩ := List.mem_map.mp h
  have hk := List.mem_range.mp hk
  rcases (show k = 0 ∨ k = 1 ∨ k = 2 ∨ k = 3 ∨ k = 4 ∨ k = 5 ∨ k = 6 ∨ k = 7 ∨ k = 8 ∨ k = 9 ∨ k = 10 ∨ k = 11 ∨ k = 12 ∨ k = 13 ∨ k = 14 ∨ k = 15 ∨ k = 16 ∨ k = 17 ∨ k = 18 by omega) with rfl | rfl | rfl | rfl | rfl | rfl | rfl | rfl | rfl | rfl | rfl | rfl | rfl | rfl | rfl | rfl | rfl | rfl | rfl
  · exact tb_t 788 (by decide +kernel) (by decide +kernel)
  · exact tb_t 790 (by decide +kernel) (by decide +kernel)
  · exact tb_t 792 (by decide +kernel) (by decide +kernel)
  · exact tb_t 794 (by decide +kernel) (by decide +kernel)
  · exact tb_t 796 (by decide +kernel) (by decide +kernel)
  · exact tb_t 798 (by decide +kernel) (by decide +kernel)
  · exact tb_t 800 (by decide +kernel) (by decide +kernel)
  · exact tb_t 802 (by decide +kernel) (by decide +kernel)
  · exact tb_t 804 (by decide +kernel) (by decide +kernel)
  · exact tb_t 806 (by decide +kernel) (by decide +kernel)
  · exact tb_t 808 (by decide +kernel) (by decide +kernel)
  · exact tb_t 810 (by decide +kernel) (by decide +kernel)
  · exact tb_t 812 (by decide +kernel) (by decide +kernel)
  · exact tb_t 814 (by decide +kernel) (by decide +kernel)
  · exact tb_t 816 (by decide +kernel) (by decide +kernel)
  · exact tb_t 818 (by decide +kernel) (by decide +kernel)
  · exact tb_t 820 (by decide +kernel) (by decide +kernel)
  · exact tb_t 822 (by decide +kernel) (by decide +kernel)
  · exact tb_t 824 (by decide +kernel) (by decide +kernel)
end
section
theorem dX0_init_0 : decode cX0_init 0 = .ok (.aload_n 0, 1) := by decide +kernel
theorem dX0_init_1 : decode cX0_init 1 = .ok (.invokespecial 3, 3) := by decide +kernel
theorem dX0_init_4 : decode cX0_init 4 = .ok (.aload_n 0, 1) := by decide +kernel
theorem dX0_init_5 : decode cX0_init 5 = .ok (.iconst 4, 1) := by decide +kernel
theorem dX0_init_6 : decode cX0_init 6 = .ok (.newarray .boolean, 2) := by decide +kernel
theorem dX0_init_8 : decode cX0_init 8 = .ok (.putfield 9, 3) := by decide +kernel
theorem dX0_init_11 : decode cX0_init 11 = .ok (.aload_n 0, 1) := by decide +kernel
theorem dX0_init_12 : decode cX0_init 12 = .ok (.iconst 4, 1) := by decide +kernel
theorem dX0_init_13 : decode cX0_init 13 = .ok (.newarray .int, 2) := by decide +kernel
theorem dX0_init_15 : decode cX0_init 15 = .ok (.putfield 15, 3) := by decide +kernel
theorem dX0_init_18 : decode cX0_init 18 = .ok (.aload_n 0, 1) := by decide +kernel
theorem dX0_init_19 : decode cX0_init 19 = .ok (.iconst 4, 1) := by decide +kernel
theorem dX0_init_20 : decode cX0_init 20 = .ok (.newarray .boolean, 2) := by decide +kernel
theorem dX0_init_22 : decode cX0_init 22 = .ok (.putfield 19, 3) := by decide +kernel
theorem dX0_init_25 : decode cX0_init 25 = .ok (.return_, 1) := by decide +kernel
theorem dX0_carry_0 : decode cX0_carry 0 = .ok (.aload_n 0, 1) := by decide +kernel
theorem dX0_carry_1 : decode cX0_carry 1 = .ok (.aload_n 1, 1) := by decide +kernel
theorem dX0_carry_2 : decode cX0_carry 2 = .ok (.invokevirtual 22, 3) := by decide +kernel
theorem dX0_carry_5 : decode cX0_carry 5 = .ok (.iconst 0, 1) := by decide +kernel
theorem dX0_carry_6 : decode cX0_carry 6 = .ok (.istore_n 2, 1) := by decide +kernel
theorem dX0_carry_7 : decode cX0_carry 7 = .ok (.iload_n 2, 1) := by decide +kernel
theorem dX0_carry_8 : decode cX0_carry 8 = .ok (.aload_n 1, 1) := by decide +kernel
theorem dX0_carry_9 : decode cX0_carry 9 = .ok (.getfield 26, 3) := by decide +kernel
theorem dX0_carry_12 : decode cX0_carry 12 = .ok (.if_icmp .ge 34, 3) := by decide +kernel
theorem dX0_carry_15 : decode cX0_carry 15 = .ok (.aload_n 0, 1) := by decide +kernel
theorem dX0_carry_16 : decode cX0_carry 16 = .ok (.getfield 19, 3) := by decide +kernel
theorem dX0_carry_19 : decode cX0_carry 19 = .ok (.iload_n 2, 1) := by decide +kernel
theorem dX0_carry_20 : decode cX0_carry 20 = .ok (.baload, 1) := by decide +kernel
theorem dX0_carry_21 : decode cX0_carry 21 = .ok (.ifCond .eq 19, 3) := by decide +kernel
theorem dX0_carry_24 : decode cX0_carry 24 = .ok (.aload_n 0, 1) := by decide +kernel
theorem dX0_carry_25 : decode cX0_carry 25 = .ok (.aload_n 1, 1) := by decide +kernel
theorem dX0_carry_26 : decode cX0_carry 26 = .ok (.iload_n 2, 1) := by decide +kernel
theorem dX0_carry_27 : decode cX0_carry 27 = .ok (.invokevirtual 32, 3) := by decide +kernel
theorem dX0_carry_30 : decode cX0_carry 30 = .ok (.ifCond .eq 10, 3) := by decide +kernel
theorem dX0_carry_33 : decode cX0_carry 33 = .ok (.aload_n 0, 1) := by decide +kernel
theorem dX0_carry_34 : decode cX0_carry 34 = .ok (.getfield 19, 3) := by decide +kernel
theorem dX0_carry_37 : decode cX0_carry 37 = .ok (.iload_n 2, 1) := by decide +kernel
theorem dX0_carry_38 : decode cX0_carry 38 = .ok (.iconst 0, 1) := by decide +kernel
theorem dX0_carry_39 : decode cX0_carry 39 = .ok (.bastore, 1) := by decide +kernel
theorem dX0_carry_40 : decode cX0_carry 40 = .ok (.iinc 2 1, 3) := by decide +kernel
theorem dX0_carry_43 : decode cX0_carry 43 = .ok (.goto (-36), 3) := by decide +kernel
theorem dX0_carry_46 : decode cX0_carry 46 = .ok (.iconst 0, 1) := by decide +kernel
theorem dX0_carry_47 : decode cX0_carry 47 = .ok (.istore_n 2, 1) := by decide +kernel
theorem dX0_carry_48 : decode cX0_carry 48 = .ok (.iload_n 2, 1) := by decide +kernel
theorem dX0_carry_49 : decode cX0_carry 49 = .ok (.aload_n 1, 1) := by decide +kernel
theorem dX0_carry_50 : decode cX0_carry 50 = .ok (.getfield 26, 3) := by decide +kernel
theorem dX0_carry_53 : decode cX0_carry 53 = .ok (.if_icmp .ge 50, 3) := by decide +kernel
theorem dX0_carry_56 : decode cX0_carry 56 = .ok (.iconst 0, 1) := by decide +kernel
theorem dX0_carry_57 : decode cX0_carry 57 = .ok (.istore_n 3, 1) := by decide +kernel
theorem dX0_carry_58 : decode cX0_carry 58 = .ok (.iload_n 3, 1) := by decide +kernel
theorem dX0_carry_59 : decode cX0_carry 59 = .ok (.aload_n 1, 1) := by decide +kernel
theorem dX0_carry_60 : decode cX0_carry 60 = .ok (.getfield 26, 3) := by decide +kernel
theorem dX0_carry_63 : decode cX0_carry 63 = .ok (.if_icmp .ge 34, 3) := by decide +kernel
theorem dX0_carry_66 : decode cX0_carry 66 = .ok (.aload_n 0, 1) := by decide +kernel
theorem dX0_carry_67 : decode cX0_carry 67 = .ok (.getfield 19, 3) := by decide +kernel
theorem dX0_carry_70 : decode cX0_carry 70 = .ok (.iload_n 3, 1) := by decide +kernel
theorem dX0_carry_71 : decode cX0_carry 71 = .ok (.baload, 1) := by decide +kernel
theorem dX0_carry_72 : decode cX0_carry 72 = .ok (.ifCond .eq 19, 3) := by decide +kernel
theorem dX0_carry_75 : decode cX0_carry 75 = .ok (.aload_n 0, 1) := by decide +kernel
theorem dX0_carry_76 : decode cX0_carry 76 = .ok (.aload_n 1, 1) := by decide +kernel
theorem dX0_carry_77 : decode cX0_carry 77 = .ok (.iload_n 3, 1) := by decide +kernel
theorem dX0_carry_78 : decode cX0_carry 78 = .ok (.invokevirtual 36, 3) := by decide +kernel
theorem dX0_carry_81 : decode cX0_carry 81 = .ok (.ifCond .eq 10, 3) := by decide +kernel
theorem dX0_carry_84 : decode cX0_carry 84 = .ok (.aload_n 0, 1) := by decide +kernel
theorem dX0_carry_85 : decode cX0_carry 85 = .ok (.getfield 19, 3) := by decide +kernel
theorem dX0_carry_88 : decode cX0_carry 88 = .ok (.iload_n 3, 1) := by decide +kernel
theorem dX0_carry_89 : decode cX0_carry 89 = .ok (.iconst 0, 1) := by decide +kernel
theorem dX0_carry_90 : decode cX0_carry 90 = .ok (.bastore, 1) := by decide +kernel
theorem dX0_carry_91 : decode cX0_carry 91 = .ok (.iinc 3 1, 3) := by decide +kernel
theorem dX0_carry_94 : decode cX0_carry 94 = .ok (.goto (-36), 3) := by decide +kernel
theorem dX0_carry_97 : decode cX0_carry 97 = .ok (.iinc 2 1, 3) := by decide +kernel
theorem dX0_carry_100 : decode cX0_carry 100 = .ok (.goto (-52), 3) := by decide +kernel
theorem dX0_carry_103 : decode cX0_carry 103 = .ok (.iconst 0, 1) := by decide +kernel
theorem dX0_carry_104 : decode cX0_carry 104 = .ok (.istore_n 2, 1) := by decide +kernel
theorem dX0_carry_105 : decode cX0_carry 105 = .ok (.iload_n 2, 1) := by decide +kernel
theorem dX0_carry_106 : decode cX0_carry 106 = .ok (.aload_n 1, 1) := by decide +kernel
theorem dX0_carry_107 : decode cX0_carry 107 = .ok (.getfield 26, 3) := by decide +kernel
theorem dX0_carry_110 : decode cX0_carry 110 = .ok (.if_icmp .ge 34, 3) := by decide +kernel
theorem dX0_carry_113 : decode cX0_carry 113 = .ok (.aload_n 0, 1) := by decide +kernel
theorem dX0_carry_114 : decode cX0_carry 114 = .ok (.getfield 19, 3) := by decide +kernel
theorem dX0_carry_117 : decode cX0_carry 117 = .ok (.iload_n 2, 1) := by decide +kernel
theorem dX0_carry_118 : decode cX0_carry 118 = .ok (.baload, 1) := by decide +kernel
theorem dX0_carry_119 : decode cX0_carry 119 = .ok (.ifCond .eq 19, 3) := by decide +kernel
theorem dX0_carry_122 : decode cX0_carry 122 = .ok (.aload_n 1, 1) := by decide +kernel
theorem dX0_carry_123 : decode cX0_carry 123 = .ok (.aload_n 1, 1) := by decide +kernel
theorem dX0_carry_124 : decode cX0_carry 124 = .ok (.getfield 39, 3) := by decide +kernel
theorem dX0_carry_127 : decode cX0_carry 127 = .ok (.iload_n 2, 1) := by decide +kernel
theorem dX0_carry_128 : decode cX0_carry 128 = .ok (.aaload, 1) := by decide +kernel
theorem dX0_carry_129 : decode cX0_carry 129 = .ok (.aload_n 0, 1) := by decide +kernel
theorem dX0_carry_130 : decode cX0_carry 130 = .ok (.getfield 15, 3) := by decide +kernel
theorem dX0_carry_133 : decode cX0_carry 133 = .ok (.iload_n 2, 1) := by decide +kernel
theorem dX0_carry_134 : decode cX0_carry 134 = .ok (.iaload, 1) := by decide +kernel
theorem dX0_carry_135 : decode cX0_carry 135 = .ok (.invokevirtual 43, 3) := by decide +kernel
theorem dX0_carry_138 : decode cX0_carry 138 = .ok (.iinc 2 1, 3) := by decide +kernel
theorem dX0_carry_141 : decode cX0_carry 141 = .ok (.goto (-36), 3) := by decide +kernel
theorem dX0_carry_144 : decode cX0_carry 144 = .ok (.return_, 1) := by decide +kernel
theorem dX0_askAll_0 : decode cX0_askAll 0 = .ok (.iconst 0, 1) := by decide +kernel
theorem dX0_askAll_1 : decode cX0_askAll 1 = .ok (.istore_n 2, 1) := by decide +kernel
theorem dX0_askAll_2 : decode cX0_askAll 2 = .ok (.iload_n 2, 1) := by decide +kernel
theorem dX0_askAll_3 : decode cX0_askAll 3 = .ok (.aload_n 1, 1) := by decide +kernel
theorem dX0_askAll_4 : decode cX0_askAll 4 = .ok (.getfield 26, 3) := by decide +kernel
theorem dX0_askAll_7 : decode cX0_askAll 7 = .ok (.if_icmp .ge 116, 3) := by decide +kernel
theorem dX0_askAll_10 : decode cX0_askAll 10 = .ok (.aload_n 1, 1) := by decide +kernel
theorem dX0_askAll_11 : decode cX0_askAll 11 = .ok (.getfield 39, 3) := by decide +kernel
theorem dX0_askAll_14 : decode cX0_askAll 14 = .ok (.iload_n 2, 1) := by decide +kernel
theorem dX0_askAll_15 : decode cX0_askAll 15 = .ok (.aaload, 1) := by decide +kernel
theorem dX0_askAll_16 : decode cX0_askAll 16 = .ok (.getfield 47, 3) := by decide +kernel
theorem dX0_askAll_19 : decode cX0_askAll 19 = .ok (.istore_n 3, 1) := by decide +kernel
theorem dX0_askAll_20 : decode cX0_askAll 20 = .ok (.aload_n 1, 1) := by decide +kernel
theorem dX0_askAll_21 : decode cX0_askAll 21 = .ok (.getfield 52, 3) := by decide +kernel
theorem dX0_askAll_24 : decode cX0_askAll 24 = .ok (.iload_n 3, 1) := by decide +kernel
theorem dX0_askAll_25 : decode cX0_askAll 25 = .ok (.invokevirtual 56, 3) := by decide +kernel
theorem dX0_askAll_28 : decode cX0_askAll 28 = .ok (.istore 4, 2) := by decide +kernel
theorem dX0_askAll_30 : decode cX0_askAll 30 = .ok (.iload 4, 2) := by decide +kernel
theorem dX0_askAll_32 : decode cX0_askAll 32 = .ok (.iconst 1, 1) := by decide +kernel
theorem dX0_askAll_33 : decode cX0_askAll 33 = .ok (.isub, 1) := by decide +kernel
theorem dX0_askAll_34 : decode cX0_askAll 34 = .ok (.istore 5, 2) := by decide +kernel
theorem dX0_askAll_36 : decode cX0_askAll 36 = .ok (.aload_n 0, 1) := by decide +kernel
theorem dX0_askAll_37 : decode cX0_askAll 37 = .ok (.getfield 9, 3) := by decide +kernel
theorem dX0_askAll_40 : decode cX0_askAll 40 = .ok (.iload_n 2, 1) := by decide +kernel
theorem dX0_askAll_41 : decode cX0_askAll 41 = .ok (.iload 4, 2) := by decide +kernel
theorem dX0_askAll_43 : decode cX0_askAll 43 = .ok (.iconst 1, 1) := by decide +kernel
theorem dX0_askAll_44 : decode cX0_askAll 44 = .ok (.if_icmp .lt 13, 3) := by decide +kernel
theorem dX0_askAll_47 : decode cX0_askAll 47 = .ok (.iload 4, 2) := by decide +kernel
theorem dX0_askAll_49 : decode cX0_askAll 49 = .ok (.iconst 4, 1) := by decide +kernel
theorem dX0_askAll_50 : decode cX0_askAll 50 = .ok (.if_icmp .gt 7, 3) := by decide +kernel
theorem dX0_askAll_53 : decode cX0_askAll 53 = .ok (.iconst 1, 1) := by decide +kernel
theorem dX0_askAll_54 : decode cX0_askAll 54 = .ok (.goto 4, 3) := by decide +kernel
theorem dX0_askAll_57 : decode cX0_askAll 57 = .ok (.iconst 0, 1) := by decide +kernel
theorem dX0_askAll_58 : decode cX0_askAll 58 = .ok (.bastore, 1) := by decide +kernel
theorem dX0_askAll_59 : decode cX0_askAll 59 = .ok (.aload_n 0, 1) := by decide +kernel
theorem dX0_askAll_60 : decode cX0_askAll 60 = .ok (.getfield 15, 3) := by decide +kernel
theorem dX0_askAll_63 : decode cX0_askAll 63 = .ok (.iload_n 2, 1) := by decide +kernel
theorem dX0_askAll_64 : decode cX0_askAll 64 = .ok (.aload_n 0, 1) := by decide +kernel
theorem dX0_askAll_65 : decode cX0_askAll 65 = .ok (.getfield 9, 3) := by decide +kernel
theorem dX0_askAll_68 : decode cX0_askAll 68 = .ok (.iload_n 2, 1) := by decide +kernel
theorem dX0_askAll_69 : decode cX0_askAll 69 = .ok (.baload, 1) := by decide +kernel
theorem dX0_askAll_70 : decode cX0_askAll 70 = .ok (.ifCond .eq 12, 3) := by decide +kernel
theorem dX0_askAll_73 : decode cX0_askAll 73 = .ok (.iload_n 3, 1) := by decide +kernel
theorem dX0_askAll_74 : decode cX0_askAll 74 = .ok (.iload 5, 2) := by decide +kernel
theorem dX0_askAll_76 : decode cX0_askAll 76 = .ok (.invokestatic 62, 3) := by decide +kernel
theorem dX0_askAll_79 : decode cX0_askAll 79 = .ok (.goto 4, 3) := by decide +kernel
theorem dX0_askAll_82 : decode cX0_askAll 82 = .ok (.iconst (-1), 1) := by decide +kernel
theorem dX0_askAll_83 : decode cX0_askAll 83 = .ok (.iastore, 1) := by decide +kernel
theorem dX0_askAll_84 : decode cX0_askAll 84 = .ok (.aload_n 0, 1) := by decide +kernel
theorem dX0_askAll_85 : decode cX0_askAll 85 = .ok (.getfield 19, 3) := by decide +kernel
theorem dX0_askAll_88 : decode cX0_askAll 88 = .ok (.iload_n 2, 1) := by decide +kernel
theorem dX0_askAll_89 : decode cX0_askAll 89 = .ok (.aload_n 0, 1) := by decide +kernel
theorem dX0_askAll_90 : decode cX0_askAll 90 = .ok (.getfield 9, 3) := by decide +kernel
theorem dX0_askAll_93 : decode cX0_askAll 93 = .ok (.iload_n 2, 1) := by decide +kernel
theorem dX0_askAll_94 : decode cX0_askAll 94 = .ok (.baload, 1) := by decide +kernel
theorem dX0_askAll_95 : decode cX0_askAll 95 = .ok (.ifCond .eq 20, 3) := by decide +kernel
theorem dX0_askAll_98 : decode cX0_askAll 98 = .ok (.aload_n 1, 1) := by decide +kernel
theorem dX0_askAll_99 : decode cX0_askAll 99 = .ok (.getfield 52, 3) := by decide +kernel
theorem dX0_askAll_102 : decode cX0_askAll 102 = .ok (.iload_n 3, 1) := by decide +kernel
theorem dX0_askAll_103 : decode cX0_askAll 103 = .ok (.iload 5, 2) := by decide +kernel
theorem dX0_askAll_105 : decode cX0_askAll 105 = .ok (.invokevirtual 66, 3) := by decide +kernel
theorem dX0_askAll_108 : decode cX0_askAll 108 = .ok (.ifCond .ne 7, 3) := by decide +kernel
theorem dX0_askAll_111 : decode cX0_askAll 111 = .ok (.iconst 1, 1) := by decide +kernel
theorem dX0_askAll_112 : decode cX0_askAll 112 = .ok (.goto 4, 3) := by decide +kernel
theorem dX0_askAll_115 : decode cX0_askAll 115 = .ok (.iconst 0, 1) := by decide +kernel
theorem dX0_askAll_116 : decode cX0_askAll 116 = .ok (.bastore, 1) := by decide +kernel
theorem dX0_askAll_117 : decode cX0_askAll 117 = .ok (.iinc 2 1, 3) := by decide +kernel
theorem dX0_askAll_120 : decode cX0_askAll 120 = .ok (.goto (-118), 3) := by decide +kernel
theorem dX0_askAll_123 : decode cX0_askAll 123 = .ok (.return_, 1) := by decide +kernel
theorem dX0_isHindered_0 : decode cX0_isHindered 0 = .ok (.iconst 0, 1) := by decide +kernel
theorem dX0_isHindered_1 : decode cX0_isHindered 1 = .ok (.istore_n 3, 1) := by decide +kernel
theorem dX0_isHindered_2 : decode cX0_isHindered 2 = .ok (.iload_n 3, 1) := by decide +kernel
theorem dX0_isHindered_3 : decode cX0_isHindered 3 = .ok (.aload_n 1, 1) := by decide +kernel
theorem dX0_isHindered_4 : decode cX0_isHindered 4 = .ok (.getfield 26, 3) := by decide +kernel
theorem dX0_isHindered_7 : decode cX0_isHindered 7 = .ok (.if_icmp .ge 113, 3) := by decide +kernel
theorem dX0_isHindered_10 : decode cX0_isHindered 10 = .ok (.iload_n 3, 1) := by decide +kernel
theorem dX0_isHindered_11 : decode cX0_isHindered 11 = .ok (.iload_n 2, 1) := by decide +kernel
theorem dX0_isHindered_12 : decode cX0_isHindered 12 = .ok (.if_icmp .eq 102, 3) := by decide +kernel
theorem dX0_isHindered_15 : decode cX0_isHindered 15 = .ok (.aload_n 0, 1) := by decide +kernel
theorem dX0_isHindered_16 : decode cX0_isHindered 16 = .ok (.getfield 9, 3) := by decide +kernel
theorem dX0_isHindered_19 : decode cX0_isHindered 19 = .ok (.iload_n 3, 1) := by decide +kernel
theorem dX0_isHindered_20 : decode cX0_isHindered 20 = .ok (.baload, 1) := by decide +kernel
theorem dX0_isHindered_21 : decode cX0_isHindered 21 = .ok (.ifCond .eq 93, 3) := by decide +kernel
theorem dX0_isHindered_24 : decode cX0_isHindered 24 = .ok (.aload_n 0, 1) := by decide +kernel
theorem dX0_isHindered_25 : decode cX0_isHindered 25 = .ok (.getfield 15, 3) := by decide +kernel
theorem dX0_isHindered_28 : decode cX0_isHindered 28 = .ok (.iload_n 2, 1) := by decide +kernel
theorem dX0_isHindered_29 : decode cX0_isHindered 29 = .ok (.iaload, 1) := by decide +kernel
theorem dX0_isHindered_30 : decode cX0_isHindered 30 = .ok (.iconst (-1), 1) := by decide +kernel
theorem dX0_isHindered_31 : decode cX0_isHindered 31 = .ok (.if_icmp .ne 6, 3) := by decide +kernel
theorem dX0_isHindered_34 : decode cX0_isHindered 34 = .ok (.goto 80, 3) := by decide +kernel
theorem dX0_isHindered_37 : decode cX0_isHindered 37 = .ok (.aload_n 0, 1) := by decide +kernel
theorem dX0_isHindered_38 : decode cX0_isHindered 38 = .ok (.getfield 15, 3) := by decide +kernel
theorem dX0_isHindered_41 : decode cX0_isHindered 41 = .ok (.iload_n 3, 1) := by decide +kernel
theorem dX0_isHindered_42 : decode cX0_isHindered 42 = .ok (.iaload, 1) := by decide +kernel
theorem dX0_isHindered_43 : decode cX0_isHindered 43 = .ok (.aload_n 0, 1) := by decide +kernel
theorem dX0_isHindered_44 : decode cX0_isHindered 44 = .ok (.getfield 15, 3) := by decide +kernel
theorem dX0_isHindered_47 : decode cX0_isHindered 47 = .ok (.iload_n 2, 1) := by decide +kernel
theorem dX0_isHindered_48 : decode cX0_isHindered 48 = .ok (.iaload, 1) := by decide +kernel
theorem dX0_isHindered_49 : decode cX0_isHindered 49 = .ok (.if_icmp .ne 7, 3) := by decide +kernel
theorem dX0_isHindered_52 : decode cX0_isHindered 52 = .ok (.iconst 1, 1) := by decide +kernel
theorem dX0_isHindered_53 : decode cX0_isHindered 53 = .ok (.goto 4, 3) := by decide +kernel
theorem dX0_isHindered_56 : decode cX0_isHindered 56 = .ok (.iconst 0, 1) := by decide +kernel
theorem dX0_isHindered_57 : decode cX0_isHindered 57 = .ok (.istore 4, 2) := by decide +kernel
theorem dX0_isHindered_59 : decode cX0_isHindered 59 = .ok (.aload_n 0, 1) := by decide +kernel
theorem dX0_isHindered_60 : decode cX0_isHindered 60 = .ok (.getfield 15, 3) := by decide +kernel
theorem dX0_isHindered_63 : decode cX0_isHindered 63 = .ok (.iload_n 2, 1) := by decide +kernel
theorem dX0_isHindered_64 : decode cX0_isHindered 64 = .ok (.iaload, 1) := by decide +kernel
theorem dX0_isHindered_65 : decode cX0_isHindered 65 = .ok (.aload_n 1, 1) := by decide +kernel
theorem dX0_isHindered_66 : decode cX0_isHindered 66 = .ok (.getfield 39, 3) := by decide +kernel
theorem dX0_isHindered_69 : decode cX0_isHindered 69 = .ok (.iload_n 3, 1) := by decide +kernel
theorem dX0_isHindered_70 : decode cX0_isHindered 70 = .ok (.aaload, 1) := by decide +kernel
theorem dX0_isHindered_71 : decode cX0_isHindered 71 = .ok (.getfield 47, 3) := by decide +kernel
theorem dX0_isHindered_74 : decode cX0_isHindered 74 = .ok (.if_icmp .ne 25, 3) := by decide +kernel
theorem dX0_isHindered_77 : decode cX0_isHindered 77 = .ok (.aload_n 0, 1) := by decide +kernel
theorem dX0_isHindered_78 : decode cX0_isHindered 78 = .ok (.getfield 15, 3) := by decide +kernel
theorem dX0_isHindered_81 : decode cX0_isHindered 81 = .ok (.iload_n 3, 1) := by decide +kernel
theorem dX0_isHindered_82 : decode cX0_isHindered 82 = .ok (.iaload, 1) := by decide +kernel
theorem dX0_isHindered_83 : decode cX0_isHindered 83 = .ok (.aload_n 1, 1) := by decide +kernel
theorem dX0_isHindered_84 : decode cX0_isHindered 84 = .ok (.getfield 39, 3) := by decide +kernel
theorem dX0_isHindered_87 : decode cX0_isHindered 87 = .ok (.iload_n 2, 1) := by decide +kernel
theorem dX0_isHindered_88 : decode cX0_isHindered 88 = .ok (.aaload, 1) := by decide +kernel
theorem dX0_isHindered_89 : decode cX0_isHindered 89 = .ok (.getfield 47, 3) := by decide +kernel
theorem dX0_isHindered_92 : decode cX0_isHindered 92 = .ok (.if_icmp .ne 7, 3) := by decide +kernel
theorem dX0_isHindered_95 : decode cX0_isHindered 95 = .ok (.iconst 1, 1) := by decide +kernel
theorem dX0_isHindered_96 : decode cX0_isHindered 96 = .ok (.goto 4, 3) := by decide +kernel
theorem dX0_isHindered_99 : decode cX0_isHindered 99 = .ok (.iconst 0, 1) := by decide +kernel
theorem dX0_isHindered_100 : decode cX0_isHindered 100 = .ok (.istore 5, 2) := by decide +kernel
theorem dX0_isHindered_102 : decode cX0_isHindered 102 = .ok (.iload 4, 2) := by decide +kernel
theorem dX0_isHindered_104 : decode cX0_isHindered 104 = .ok (.ifCond .ne 8, 3) := by decide +kernel
theorem dX0_isHindered_107 : decode cX0_isHindered 107 = .ok (.iload 5, 2) := by decide +kernel
theorem dX0_isHindered_109 : decode cX0_isHindered 109 = .ok (.ifCond .eq 5, 3) := by decide +kernel
theorem dX0_isHindered_112 : decode cX0_isHindered 112 = .ok (.iconst 1, 1) := by decide +kernel
theorem dX0_isHindered_113 : decode cX0_isHindered 113 = .ok (.ireturn, 1) := by decide +kernel
theorem dX0_isHindered_114 : decode cX0_isHindered 114 = .ok (.iinc 3 1, 3) := by decide +kernel
theorem dX0_isHindered_117 : decode cX0_isHindered 117 = .ok (.goto (-115), 3) := by decide +kernel
theorem dX0_isHindered_120 : decode cX0_isHindered 120 = .ok (.iconst 0, 1) := by decide +kernel
theorem dX0_isHindered_121 : decode cX0_isHindered 121 = .ok (.ireturn, 1) := by decide +kernel
theorem dX0_isBlocked_0 : decode cX0_isBlocked 0 = .ok (.aload_n 1, 1) := by decide +kernel
theorem dX0_isBlocked_1 : decode cX0_isBlocked 1 = .ok (.aload_n 0, 1) := by decide +kernel
theorem dX0_isBlocked_2 : decode cX0_isBlocked 2 = .ok (.getfield 15, 3) := by decide +kernel
theorem dX0_isBlocked_5 : decode cX0_isBlocked 5 = .ok (.iload_n 2, 1) := by decide +kernel
theorem dX0_isBlocked_6 : decode cX0_isBlocked 6 = .ok (.iaload, 1) := by decide +kernel
theorem dX0_isBlocked_7 : decode cX0_isBlocked 7 = .ok (.invokevirtual 70, 3) := by decide +kernel
theorem dX0_isBlocked_10 : decode cX0_isBlocked 10 = .ok (.istore_n 3, 1) := by decide +kernel
theorem dX0_isBlocked_11 : decode cX0_isBlocked 11 = .ok (.iload_n 3, 1) := by decide +kernel
theorem dX0_isBlocked_12 : decode cX0_isBlocked 12 = .ok (.iconst (-1), 1) := by decide +kernel
theorem dX0_isBlocked_13 : decode cX0_isBlocked 13 = .ok (.if_icmp .eq 16, 3) := by decide +kernel
theorem dX0_isBlocked_16 : decode cX0_isBlocked 16 = .ok (.aload_n 0, 1) := by decide +kernel
theorem dX0_isBlocked_17 : decode cX0_isBlocked 17 = .ok (.getfield 19, 3) := by decide +kernel
theorem dX0_isBlocked_20 : decode cX0_isBlocked 20 = .ok (.iload_n 3, 1) := by decide +kernel
theorem dX0_isBlocked_21 : decode cX0_isBlocked 21 = .ok (.baload, 1) := by decide +kernel
theorem dX0_isBlocked_22 : decode cX0_isBlocked 22 = .ok (.ifCond .ne 7, 3) := by decide +kernel
theorem dX0_isBlocked_25 : decode cX0_isBlocked 25 = .ok (.iconst 1, 1) := by decide +kernel
theorem dX0_isBlocked_26 : decode cX0_isBlocked 26 = .ok (.goto 4, 3) := by decide +kernel
theorem dX0_isBlocked_29 : decode cX0_isBlocked 29 = .ok (.iconst 0, 1) := by decide +kernel
theorem dX0_isBlocked_30 : decode cX0_isBlocked 30 = .ok (.ireturn, 1) := by decide +kernel
theorem dX1_init_0 : decode cX1_init 0 = .ok (.aload_n 0, 1) := by decide +kernel
theorem dX1_init_1 : decode cX1_init 1 = .ok (.invokespecial 3, 3) := by decide +kernel
theorem dX1_init_4 : decode cX1_init 4 = .ok (.aload_n 0, 1) := by decide +kernel
theorem dX1_init_5 : decode cX1_init 5 = .ok (.bipush 64, 2) := by decide +kernel
theorem dX1_init_7 : decode cX1_init 7 = .ok (.newarray .int, 2) := by decide +kernel
theorem dX1_init_9 : decode cX1_init 9 = .ok (.putfield 9, 3) := by decide +kernel
theorem dX1_init_12 : decode cX1_init 12 = .ok (.aload_n 0, 1) := by decide +kernel
theorem dX1_init_13 : decode cX1_init 13 = .ok (.bipush 64, 2) := by decide +kernel
theorem dX1_init_15 : decode cX1_init 15 = .ok (.newarray .int, 2) := by decide +kernel
theorem dX1_init_17 : decode cX1_init 17 = .ok (.putfield 15, 3) := by decide +kernel
theorem dX1_init_20 : decode cX1_init 20 = .ok (.aload_n 0, 1) := by decide +kernel
theorem dX1_init_21 : decode cX1_init 21 = .ok (.iconst 4, 1) := by decide +kernel
theorem dX1_init_22 : decode cX1_init 22 = .ok (.newarray .int, 2) := by decide +kernel
theorem dX1_init_24 : decode cX1_init 24 = .ok (.putfield 18, 3) := by decide +kernel
theorem dX1_init_27 : decode cX1_init 27 = .ok (.return_, 1) := by decide +kernel
theorem dX1_copyFrom_0 : decode cX1_copyFrom 0 = .ok (.aload_n 1, 1) := by decide +kernel
theorem dX1_copyFrom_1 : decode cX1_copyFrom 1 = .ok (.getfield 9, 3) := by decide +kernel
theorem dX1_copyFrom_4 : decode cX1_copyFrom 4 = .ok (.iconst 0, 1) := by decide +kernel
theorem dX1_copyFrom_5 : decode cX1_copyFrom 5 = .ok (.aload_n 0, 1) := by decide +kernel
theorem dX1_copyFrom_6 : decode cX1_copyFrom 6 = .ok (.getfield 9, 3) := by decide +kernel
theorem dX1_copyFrom_9 : decode cX1_copyFrom 9 = .ok (.iconst 0, 1) := by decide +kernel
theorem dX1_copyFrom_10 : decode cX1_copyFrom 10 = .ok (.bipush 64, 2) := by decide +kernel
theorem dX1_copyFrom_12 : decode cX1_copyFrom 12 = .ok (.invokestatic 21, 3) := by decide +kernel
theorem dX1_copyFrom_15 : decode cX1_copyFrom 15 = .ok (.aload_n 1, 1) := by decide +kernel
theorem dX1_copyFrom_16 : decode cX1_copyFrom 16 = .ok (.getfield 15, 3) := by decide +kernel
theorem dX1_copyFrom_19 : decode cX1_copyFrom 19 = .ok (.iconst 0, 1) := by decide +kernel
theorem dX1_copyFrom_20 : decode cX1_copyFrom 20 = .ok (.aload_n 0, 1) := by decide +kernel
theorem dX1_copyFrom_21 : decode cX1_copyFrom 21 = .ok (.getfield 15, 3) := by decide +kernel
theorem dX1_copyFrom_24 : decode cX1_copyFrom 24 = .ok (.iconst 0, 1) := by decide +kernel
theorem dX1_copyFrom_25 : decode cX1_copyFrom 25 = .ok (.bipush 64, 2) := by decide +kernel
theorem dX1_copyFrom_27 : decode cX1_copyFrom 27 = .ok (.invokestatic 21, 3) := by decide +kernel
theorem dX1_copyFrom_30 : decode cX1_copyFrom 30 = .ok (.aload_n 1, 1) := by decide +kernel
theorem dX1_copyFrom_31 : decode cX1_copyFrom 31 = .ok (.getfield 18, 3) := by decide +kernel
theorem dX1_copyFrom_34 : decode cX1_copyFrom 34 = .ok (.iconst 0, 1) := by decide +kernel
theorem dX1_copyFrom_35 : decode cX1_copyFrom 35 = .ok (.aload_n 0, 1) := by decide +kernel
theorem dX1_copyFrom_36 : decode cX1_copyFrom 36 = .ok (.getfield 18, 3) := by decide +kernel
theorem dX1_copyFrom_39 : decode cX1_copyFrom 39 = .ok (.iconst 0, 1) := by decide +kernel
theorem dX1_copyFrom_40 : decode cX1_copyFrom 40 = .ok (.iconst 4, 1) := by decide +kernel
theorem dX1_copyFrom_41 : decode cX1_copyFrom 41 = .ok (.invokestatic 21, 3) := by decide +kernel
theorem dX1_copyFrom_44 : decode cX1_copyFrom 44 = .ok (.aload_n 0, 1) := by decide +kernel
theorem dX1_copyFrom_45 : decode cX1_copyFrom 45 = .ok (.aload_n 1, 1) := by decide +kernel
theorem dX1_copyFrom_46 : decode cX1_copyFrom 46 = .ok (.getfield 27, 3) := by decide +kernel
theorem dX1_copyFrom_49 : decode cX1_copyFrom 49 = .ok (.putfield 27, 3) := by decide +kernel
theorem dX1_copyFrom_52 : decode cX1_copyFrom 52 = .ok (.return_, 1) := by decide +kernel
theorem dX1_kindOn_0 : decode cX1_kindOn 0 = .ok (.iload_n 1, 1) := by decide +kernel
theorem dX1_kindOn_1 : decode cX1_kindOn 1 = .ok (.ifCond .lt 18, 3) := by decide +kernel
theorem dX1_kindOn_4 : decode cX1_kindOn 4 = .ok (.iload_n 1, 1) := by decide +kernel
theorem dX1_kindOn_5 : decode cX1_kindOn 5 = .ok (.bipush 64, 2) := by decide +kernel
theorem dX1_kindOn_7 : decode cX1_kindOn 7 = .ok (.if_icmp .ge 12, 3) := by decide +kernel
theorem dX1_kindOn_10 : decode cX1_kindOn 10 = .ok (.aload_n 0, 1) := by decide +kernel
theorem dX1_kindOn_11 : decode cX1_kindOn 11 = .ok (.getfield 9, 3) := by decide +kernel
theorem dX1_kindOn_14 : decode cX1_kindOn 14 = .ok (.iload_n 1, 1) := by decide +kernel
theorem dX1_kindOn_15 : decode cX1_kindOn 15 = .ok (.iaload, 1) := by decide +kernel
theorem dX1_kindOn_16 : decode cX1_kindOn 16 = .ok (.goto 4, 3) := by decide +kernel
theorem dX1_kindOn_19 : decode cX1_kindOn 19 = .ok (.iconst (-1), 1) := by decide +kernel
theorem dX1_kindOn_20 : decode cX1_kindOn 20 = .ok (.ireturn, 1) := by decide +kernel
theorem dX1_isPit_0 : decode cX1_isPit 0 = .ok (.iload_n 1, 1) := by decide +kernel
theorem dX1_isPit_1 : decode cX1_isPit 1 = .ok (.ifCond .lt 24, 3) := by decide +kernel
theorem dX1_isPit_4 : decode cX1_isPit 4 = .ok (.iload_n 1, 1) := by decide +kernel
theorem dX1_isPit_5 : decode cX1_isPit 5 = .ok (.bipush 64, 2) := by decide +kernel
theorem dX1_isPit_7 : decode cX1_isPit 7 = .ok (.if_icmp .ge 18, 3) := by decide +kernel
theorem dX1_isPit_10 : decode cX1_isPit 10 = .ok (.aload_n 0, 1) := by decide +kernel
theorem dX1_isPit_11 : decode cX1_isPit 11 = .ok (.getfield 9, 3) := by decide +kernel
theorem dX1_isPit_14 : decode cX1_isPit 14 = .ok (.iload_n 1, 1) := by decide +kernel
theorem dX1_isPit_15 : decode cX1_isPit 15 = .ok (.iaload, 1) := by decide +kernel
theorem dX1_isPit_16 : decode cX1_isPit 16 = .ok (.bipush 7, 2) := by decide +kernel
theorem dX1_isPit_18 : decode cX1_isPit 18 = .ok (.if_icmp .ne 7, 3) := by decide +kernel
theorem dX1_isPit_21 : decode cX1_isPit 21 = .ok (.iconst 1, 1) := by decide +kernel
theorem dX1_isPit_22 : decode cX1_isPit 22 = .ok (.goto 4, 3) := by decide +kernel
theorem dX1_isPit_25 : decode cX1_isPit 25 = .ok (.iconst 0, 1) := by decide +kernel
theorem dX1_isPit_26 : decode cX1_isPit 26 = .ok (.ireturn, 1) := by decide +kernel
theorem dX1_wallsOf_0 : decode cX1_wallsOf 0 = .ok (.iload_n 1, 1) := by decide +kernel
theorem dX1_wallsOf_1 : decode cX1_wallsOf 1 = .ok (.ifCond .lt 18, 3) := by decide +kernel
theorem dX1_wallsOf_4 : decode cX1_wallsOf 4 = .ok (.iload_n 1, 1) := by decide +kernel
theorem dX1_wallsOf_5 : decode cX1_wallsOf 5 = .ok (.bipush 64, 2) := by decide +kernel
theorem dX1_wallsOf_7 : decode cX1_wallsOf 7 = .ok (.if_icmp .ge 12, 3) := by decide +kernel
theorem dX1_wallsOf_10 : decode cX1_wallsOf 10 = .ok (.aload_n 0, 1) := by decide +kernel
theorem dX1_wallsOf_11 : decode cX1_wallsOf 11 = .ok (.getfield 15, 3) := by decide +kernel
theorem dX1_wallsOf_14 : decode cX1_wallsOf 14 = .ok (.iload_n 1, 1) := by decide +kernel
theorem dX1_wallsOf_15 : decode cX1_wallsOf 15 = .ok (.iaload, 1) := by decide +kernel
theorem dX1_wallsOf_16 : decode cX1_wallsOf 16 = .ok (.goto 4, 3) := by decide +kernel
theorem dX1_wallsOf_19 : decode cX1_wallsOf 19 = .ok (.iconst 0, 1) := by decide +kernel
theorem dX1_wallsOf_20 : decode cX1_wallsOf 20 = .ok (.ireturn, 1) := by decide +kernel
theorem dX1_hasWall_0 : decode cX1_hasWall 0 = .ok (.iload_n 1, 1) := by decide +kernel
theorem dX1_hasWall_1 : decode cX1_hasWall 1 = .ok (.ifCond .lt 26, 3) := by decide +kernel
theorem dX1_hasWall_4 : decode cX1_hasWall 4 = .ok (.iload_n 1, 1) := by decide +kernel
theorem dX1_hasWall_5 : decode cX1_hasWall 5 = .ok (.bipush 64, 2) := by decide +kernel
theorem dX1_hasWall_7 : decode cX1_hasWall 7 = .ok (.if_icmp .ge 20, 3) := by decide +kernel
theorem dX1_hasWall_10 : decode cX1_hasWall 10 = .ok (.aload_n 0, 1) := by decide +kernel
theorem dX1_hasWall_11 : decode cX1_hasWall 11 = .ok (.getfield 15, 3) := by decide +kernel
theorem dX1_hasWall_14 : decode cX1_hasWall 14 = .ok (.iload_n 1, 1) := by decide +kernel
theorem dX1_hasWall_15 : decode cX1_hasWall 15 = .ok (.iaload, 1) := by decide +kernel
theorem dX1_hasWall_16 : decode cX1_hasWall 16 = .ok (.iload_n 2, 1) := by decide +kernel
theorem dX1_hasWall_17 : decode cX1_hasWall 17 = .ok (.ishr, 1) := by decide +kernel
theorem dX1_hasWall_18 : decode cX1_hasWall 18 = .ok (.iconst 1, 1) := by decide +kernel
theorem dX1_hasWall_19 : decode cX1_hasWall 19 = .ok (.iand, 1) := by decide +kernel
theorem dX1_hasWall_20 : decode cX1_hasWall 20 = .ok (.ifCond .eq 7, 3) := by decide +kernel
theorem dX1_hasWall_23 : decode cX1_hasWall 23 = .ok (.iconst 1, 1) := by decide +kernel
theorem dX1_hasWall_24 : decode cX1_hasWall 24 = .ok (.goto 4, 3) := by decide +kernel
theorem dX1_hasWall_27 : decode cX1_hasWall 27 = .ok (.iconst 0, 1) := by decide +kernel
theorem dX1_hasWall_28 : decode cX1_hasWall 28 = .ok (.ireturn, 1) := by decide +kernel
theorem dX1_flipWall_0 : decode cX1_flipWall 0 = .ok (.aload_n 0, 1) := by decide +kernel
theorem dX1_flipWall_1 : decode cX1_flipWall 1 = .ok (.iload_n 1, 1) := by decide +kernel
theorem dX1_flipWall_2 : decode cX1_flipWall 2 = .ok (.iload_n 2, 1) := by decide +kernel
theorem dX1_flipWall_3 : decode cX1_flipWall 3 = .ok (.invokevirtual 31, 3) := by decide +kernel
theorem dX1_flipWall_6 : decode cX1_flipWall 6 = .ok (.aload_n 0, 1) := by decide +kernel
theorem dX1_flipWall_7 : decode cX1_flipWall 7 = .ok (.iload_n 1, 1) := by decide +kernel
theorem dX1_flipWall_8 : decode cX1_flipWall 8 = .ok (.iload_n 2, 1) := by decide +kernel
theorem dX1_flipWall_9 : decode cX1_flipWall 9 = .ok (.invokestatic 35, 3) := by decide +kernel
theorem dX1_flipWall_12 : decode cX1_flipWall 12 = .ok (.iload_n 2, 1) := by decide +kernel
theorem dX1_flipWall_13 : decode cX1_flipWall 13 = .ok (.iconst 2, 1) := by decide +kernel
theorem dX1_flipWall_14 : decode cX1_flipWall 14 = .ok (.invokestatic 39, 3) := by decide +kernel
theorem dX1_flipWall_17 : decode cX1_flipWall 17 = .ok (.invokevirtual 31, 3) := by decide +kernel
theorem dX1_flipWall_20 : decode cX1_flipWall 20 = .ok (.return_, 1) := by decide +kernel
theorem dX1_flipSide_0 : decode cX1_flipSide 0 = .ok (.iload_n 1, 1) := by decide +kernel
theorem dX1_flipSide_1 : decode cX1_flipSide 1 = .ok (.ifCond .lt 21, 3) := by decide +kernel
theorem dX1_flipSide_4 : decode cX1_flipSide 4 = .ok (.iload_n 1, 1) := by decide +kernel
theorem dX1_flipSide_5 : decode cX1_flipSide 5 = .ok (.bipush 64, 2) := by decide +kernel
theorem dX1_flipSide_7 : decode cX1_flipSide 7 = .ok (.if_icmp .ge 15, 3) := by decide +kernel
theorem dX1_flipSide_10 : decode cX1_flipSide 10 = .ok (.aload_n 0, 1) := by decide +kernel
theorem dX1_flipSide_11 : decode cX1_flipSide 11 = .ok (.getfield 15, 3) := by decide +kernel
theorem dX1_flipSide_14 : decode cX1_flipSide 14 = .ok (.iload_n 1, 1) := by decide +kernel
theorem dX1_flipSide_15 : decode cX1_flipSide 15 = .ok (.dup2, 1) := by decide +kernel
theorem dX1_flipSide_16 : decode cX1_flipSide 16 = .ok (.iaload, 1) := by decide +kernel
theorem dX1_flipSide_17 : decode cX1_flipSide 17 = .ok (.iconst 1, 1) := by decide +kernel
theorem dX1_flipSide_18 : decode cX1_flipSide 18 = .ok (.iload_n 2, 1) := by decide +kernel
theorem dX1_flipSide_19 : decode cX1_flipSide 19 = .ok (.ishl, 1) := by decide +kernel
theorem dX1_flipSide_20 : decode cX1_flipSide 20 = .ok (.ixor, 1) := by decide +kernel
theorem dX1_flipSide_21 : decode cX1_flipSide 21 = .ok (.iastore, 1) := by decide +kernel
theorem dX1_flipSide_22 : decode cX1_flipSide 22 = .ok (.return_, 1) := by decide +kernel
theorem dX1_lowestFlagOn_0 : decode cX1_lowestFlagOn 0 = .ok (.iconst 0, 1) := by decide +kernel
theorem dX1_lowestFlagOn_1 : decode cX1_lowestFlagOn 1 = .ok (.istore_n 2, 1) := by decide +kernel
theorem dX1_lowestFlagOn_2 : decode cX1_lowestFlagOn 2 = .ok (.iload_n 2, 1) := by decide +kernel
theorem dX1_lowestFlagOn_3 : decode cX1_lowestFlagOn 3 = .ok (.aload_n 0, 1) := by decide +kernel
theorem dX1_lowestFlagOn_4 : decode cX1_lowestFlagOn 4 = .ok (.getfield 27, 3) := by decide +kernel
theorem dX1_lowestFlagOn_7 : decode cX1_lowestFlagOn 7 = .ok (.if_icmp .ge 21, 3) := by decide +kernel
theorem dX1_lowestFlagOn_10 : decode cX1_lowestFlagOn 10 = .ok (.aload_n 0, 1) := by decide +kernel
theorem dX1_lowestFlagOn_11 : decode cX1_lowestFlagOn 11 = .ok (.getfield 18, 3) := by decide +kernel
theorem dX1_lowestFlagOn_14 : decode cX1_lowestFlagOn 14 = .ok (.iload_n 2, 1) := by decide +kernel
theorem dX1_lowestFlagOn_15 : decode cX1_lowestFlagOn 15 = .ok (.iaload, 1) := by decide +kernel
theorem dX1_lowestFlagOn_16 : decode cX1_lowestFlagOn 16 = .ok (.iload_n 1, 1) := by decide +kernel
theorem dX1_lowestFlagOn_17 : decode cX1_lowestFlagOn 17 = .ok (.if_icmp .ne 5, 3) := by decide +kernel
theorem dX1_lowestFlagOn_20 : decode cX1_lowestFlagOn 20 = .ok (.iload_n 2, 1) := by decide +kernel
theorem dX1_lowestFlagOn_21 : decode cX1_lowestFlagOn 21 = .ok (.ireturn, 1) := by decide +kernel
theorem dX1_lowestFlagOn_22 : decode cX1_lowestFlagOn 22 = .ok (.iinc 2 1, 3) := by decide +kernel
theorem dX1_lowestFlagOn_25 : decode cX1_lowestFlagOn 25 = .ok (.goto (-23), 3) := by decide +kernel
theorem dX1_lowestFlagOn_28 : decode cX1_lowestFlagOn 28 = .ok (.ldc 42, 2) := by decide +kernel
theorem dX1_lowestFlagOn_30 : decode cX1_lowestFlagOn 30 = .ok (.ireturn, 1) := by decide +kernel
theorem dX1_neighbour_0 : decode cX1_neighbour 0 = .ok (.iload_n 0, 1) := by decide +kernel
theorem dX1_neighbour_1 : decode cX1_neighbour 1 = .ok (.ifCond .lt 9, 3) := by decide +kernel
theorem dX1_neighbour_4 : decode cX1_neighbour 4 = .ok (.iload_n 0, 1) := by decide +kernel
theorem dX1_neighbour_5 : decode cX1_neighbour 5 = .ok (.bipush 64, 2) := by decide +kernel
theorem dX1_neighbour_7 : decode cX1_neighbour 7 = .ok (.if_icmp .lt 5, 3) := by decide +kernel
theorem dX1_neighbour_10 : decode cX1_neighbour 10 = .ok (.iconst (-1), 1) := by decide +kernel
theorem dX1_neighbour_11 : decode cX1_neighbour 11 = .ok (.ireturn, 1) := by decide +kernel
theorem dX1_neighbour_12 : decode cX1_neighbour 12 = .ok (.iload_n 0, 1) := by decide +kernel
theorem dX1_neighbour_13 : decode cX1_neighbour 13 = .ok (.bipush 8, 2) := by decide +kernel
theorem dX1_neighbour_15 : decode cX1_neighbour 15 = .ok (.irem, 1) := by decide +kernel
theorem dX1_neighbour_16 : decode cX1_neighbour 16 = .ok (.istore_n 2, 1) := by decide +kernel
theorem dX1_neighbour_17 : decode cX1_neighbour 17 = .ok (.iload_n 1, 1) := by decide +kernel
theorem dX1_neighbour_18 : decode cX1_neighbour 18 = .ok (.tableswitch 86 0 3 #[30, 45, 59, 74], 30) := by decide +kernel
theorem dX1_neighbour_48 : decode cX1_neighbour 48 = .ok (.iload_n 0, 1) := by decide +kernel
theorem dX1_neighbour_49 : decode cX1_neighbour 49 = .ok (.bipush 8, 2) := by decide +kernel
theorem dX1_neighbour_51 : decode cX1_neighbour 51 = .ok (.if_icmp .lt 10, 3) := by decide +kernel
theorem dX1_neighbour_54 : decode cX1_neighbour 54 = .ok (.iload_n 0, 1) := by decide +kernel
theorem dX1_neighbour_55 : decode cX1_neighbour 55 = .ok (.bipush 8, 2) := by decide +kernel
theorem dX1_neighbour_57 : decode cX1_neighbour 57 = .ok (.isub, 1) := by decide +kernel
theorem dX1_neighbour_58 : decode cX1_neighbour 58 = .ok (.goto 4, 3) := by decide +kernel
theorem dX1_neighbour_61 : decode cX1_neighbour 61 = .ok (.iconst (-1), 1) := by decide +kernel
theorem dX1_neighbour_62 : decode cX1_neighbour 62 = .ok (.ireturn, 1) := by decide +kernel
theorem dX1_neighbour_63 : decode cX1_neighbour 63 = .ok (.iload_n 2, 1) := by decide +kernel
theorem dX1_neighbour_64 : decode cX1_neighbour 64 = .ok (.bipush 7, 2) := by decide +kernel
theorem dX1_neighbour_66 : decode cX1_neighbour 66 = .ok (.if_icmp .ge 9, 3) := by decide +kernel
theorem dX1_neighbour_69 : decode cX1_neighbour 69 = .ok (.iload_n 0, 1) := by decide +kernel
theorem dX1_neighbour_70 : decode cX1_neighbour 70 = .ok (.iconst 1, 1) := by decide +kernel
theorem dX1_neighbour_71 : decode cX1_neighbour 71 = .ok (.iadd, 1) := by decide +kernel
theorem dX1_neighbour_72 : decode cX1_neighbour 72 = .ok (.goto 4, 3) := by decide +kernel
theorem dX1_neighbour_75 : decode cX1_neighbour 75 = .ok (.iconst (-1), 1) := by decide +kernel
theorem dX1_neighbour_76 : decode cX1_neighbour 76 = .ok (.ireturn, 1) := by decide +kernel
theorem dX1_neighbour_77 : decode cX1_neighbour 77 = .ok (.iload_n 0, 1) := by decide +kernel
theorem dX1_neighbour_78 : decode cX1_neighbour 78 = .ok (.bipush 56, 2) := by decide +kernel
theorem dX1_neighbour_80 : decode cX1_neighbour 80 = .ok (.if_icmp .ge 10, 3) := by decide +kernel
theorem dX1_neighbour_83 : decode cX1_neighbour 83 = .ok (.iload_n 0, 1) := by decide +kernel
theorem dX1_neighbour_84 : decode cX1_neighbour 84 = .ok (.bipush 8, 2) := by decide +kernel
theorem dX1_neighbour_86 : decode cX1_neighbour 86 = .ok (.iadd, 1) := by decide +kernel
theorem dX1_neighbour_87 : decode cX1_neighbour 87 = .ok (.goto 4, 3) := by decide +kernel
theorem dX1_neighbour_90 : decode cX1_neighbour 90 = .ok (.iconst (-1), 1) := by decide +kernel
theorem dX1_neighbour_91 : decode cX1_neighbour 91 = .ok (.ireturn, 1) := by decide +kernel
theorem dX1_neighbour_92 : decode cX1_neighbour 92 = .ok (.iload_n 2, 1) := by decide +kernel
theorem dX1_neighbour_93 : decode cX1_neighbour 93 = .ok (.ifCond .le 9, 3) := by decide +kernel
theorem dX1_neighbour_96 : decode cX1_neighbour 96 = .ok (.iload_n 0, 1) := by decide +kernel
theorem dX1_neighbour_97 : decode cX1_neighbour 97 = .ok (.iconst 1, 1) := by decide +kernel
theorem dX1_neighbour_98 : decode cX1_neighbour 98 = .ok (.isub, 1) := by decide +kernel
theorem dX1_neighbour_99 : decode cX1_neighbour 99 = .ok (.goto 4, 3) := by decide +kernel
theorem dX1_neighbour_102 : decode cX1_neighbour 102 = .ok (.iconst (-1), 1) := by decide +kernel
theorem dX1_neighbour_103 : decode cX1_neighbour 103 = .ok (.ireturn, 1) := by decide +kernel
theorem dX1_neighbour_104 : decode cX1_neighbour 104 = .ok (.iconst (-1), 1) := by decide +kernel
theorem dX1_neighbour_105 : decode cX1_neighbour 105 = .ok (.ireturn, 1) := by decide +kernel
theorem dX1_distance_0 : decode cX1_distance 0 = .ok (.iload_n 0, 1) := by decide +kernel
theorem dX1_distance_1 : decode cX1_distance 1 = .ok (.bipush 8, 2) := by decide +kernel
theorem dX1_distance_3 : decode cX1_distance 3 = .ok (.irem, 1) := by decide +kernel
theorem dX1_distance_4 : decode cX1_distance 4 = .ok (.iload_n 1, 1) := by decide +kernel
theorem dX1_distance_5 : decode cX1_distance 5 = .ok (.bipush 8, 2) := by decide +kernel
theorem dX1_distance_7 : decode cX1_distance 7 = .ok (.irem, 1) := by decide +kernel
theorem dX1_distance_8 : decode cX1_distance 8 = .ok (.isub, 1) := by decide +kernel
theorem dX1_distance_9 : decode cX1_distance 9 = .ok (.invokestatic 43, 3) := by decide +kernel
theorem dX1_distance_12 : decode cX1_distance 12 = .ok (.iload_n 0, 1) := by decide +kernel
theorem dX1_distance_13 : decode cX1_distance 13 = .ok (.bipush 8, 2) := by decide +kernel
theorem dX1_distance_15 : decode cX1_distance 15 = .ok (.idiv, 1) := by decide +kernel
theorem dX1_distance_16 : decode cX1_distance 16 = .ok (.iload_n 1, 1) := by decide +kernel
theorem dX1_distance_17 : decode cX1_distance 17 = .ok (.bipush 8, 2) := by decide +kernel
theorem dX1_distance_19 : decode cX1_distance 19 = .ok (.idiv, 1) := by decide +kernel
theorem dX1_distance_20 : decode cX1_distance 20 = .ok (.isub, 1) := by decide +kernel
theorem dX1_distance_21 : decode cX1_distance 21 = .ok (.invokestatic 43, 3) := by decide +kernel
theorem dX1_distance_24 : decode cX1_distance 24 = .ok (.iadd, 1) := by decide +kernel
theorem dX1_distance_25 : decode cX1_distance 25 = .ok (.ireturn, 1) := by decide +kernel
theorem dX2_init_0 : decode cX2_init 0 = .ok (.aload_n 0, 1) := by decide +kernel
theorem dX2_init_1 : decode cX2_init 1 = .ok (.invokespecial 3, 3) := by decide +kernel
theorem dX2_init_4 : decode cX2_init 4 = .ok (.aload_n 0, 1) := by decide +kernel
theorem dX2_init_5 : decode cX2_init 5 = .ok (.iconst 4, 1) := by decide +kernel
theorem dX2_init_6 : decode cX2_init 6 = .ok (.newarray .int, 2) := by decide +kernel
theorem dX2_init_8 : decode cX2_init 8 = .ok (.putfield 9, 3) := by decide +kernel
theorem dX2_init_11 : decode cX2_init 11 = .ok (.aload_n 0, 1) := by decide +kernel
theorem dX2_init_12 : decode cX2_init 12 = .ok (.iconst 4, 1) := by decide +kernel
theorem dX2_init_13 : decode cX2_init 13 = .ok (.newarray .int, 2) := by decide +kernel
theorem dX2_init_15 : decode cX2_init 15 = .ok (.putfield 15, 3) := by decide +kernel
theorem dX2_init_18 : decode cX2_init 18 = .ok (.return_, 1) := by decide +kernel
theorem dX2_arrange_0 : decode cX2_arrange 0 = .ok (.iconst 0, 1) := by decide +kernel
theorem dX2_arrange_1 : decode cX2_arrange 1 = .ok (.istore_n 2, 1) := by decide +kernel
theorem dX2_arrange_2 : decode cX2_arrange 2 = .ok (.iconst 0, 1) := by decide +kernel
theorem dX2_arrange_3 : decode cX2_arrange 3 = .ok (.istore_n 3, 1) := by decide +kernel
theorem dX2_arrange_4 : decode cX2_arrange 4 = .ok (.iload_n 3, 1) := by decide +kernel
theorem dX2_arrange_5 : decode cX2_arrange 5 = .ok (.aload_n 1, 1) := by decide +kernel
theorem dX2_arrange_6 : decode cX2_arrange 6 = .ok (.getfield 18, 3) := by decide +kernel
theorem dX2_arrange_9 : decode cX2_arrange 9 = .ok (.if_icmp .ge 47, 3) := by decide +kernel
theorem dX2_arrange_12 : decode cX2_arrange 12 = .ok (.aload_n 1, 1) := by decide +kernel
theorem dX2_arrange_13 : decode cX2_arrange 13 = .ok (.getfield 24, 3) := by decide +kernel
theorem dX2_arrange_16 : decode cX2_arrange 16 = .ok (.iload_n 3, 1) := by decide +kernel
theorem dX2_arrange_17 : decode cX2_arrange 17 = .ok (.aaload, 1) := by decide +kernel
theorem dX2_arrange_18 : decode cX2_arrange 18 = .ok (.astore 4, 2) := by decide +kernel
theorem dX2_arrange_20 : decode cX2_arrange 20 = .ok (.aload 4, 2) := by decide +kernel
theorem dX2_arrange_22 : decode cX2_arrange 22 = .ok (.invokevirtual 28, 3) := by decide +kernel
theorem dX2_arrange_25 : decode cX2_arrange 25 = .ok (.ifCond .ne 25, 3) := by decide +kernel
theorem dX2_arrange_28 : decode cX2_arrange 28 = .ok (.aload 4, 2) := by decide +kernel
theorem dX2_arrange_30 : decode cX2_arrange 30 = .ok (.aload_n 1, 1) := by decide +kernel
theorem dX2_arrange_31 : decode cX2_arrange 31 = .ok (.getfield 34, 3) := by decide +kernel
theorem dX2_arrange_34 : decode cX2_arrange 34 = .ok (.invokevirtual 37, 3) := by decide +kernel
theorem dX2_arrange_37 : decode cX2_arrange 37 = .ok (.ifCond .eq 13, 3) := by decide +kernel
theorem dX2_arrange_40 : decode cX2_arrange 40 = .ok (.aload_n 0, 1) := by decide +kernel
theorem dX2_arrange_41 : decode cX2_arrange 41 = .ok (.aload_n 1, 1) := by decide +kernel
theorem dX2_arrange_42 : decode cX2_arrange 42 = .ok (.iload_n 3, 1) := by decide +kernel
theorem dX2_arrange_43 : decode cX2_arrange 43 = .ok (.iload_n 2, 1) := by decide +kernel
theorem dX2_arrange_44 : decode cX2_arrange 44 = .ok (.invokevirtual 41, 3) := by decide +kernel
theorem dX2_arrange_47 : decode cX2_arrange 47 = .ok (.iinc 2 1, 3) := by decide +kernel
theorem dX2_arrange_50 : decode cX2_arrange 50 = .ok (.iinc 3 1, 3) := by decide +kernel
theorem dX2_arrange_53 : decode cX2_arrange 53 = .ok (.goto (-49), 3) := by decide +kernel
theorem dX2_arrange_56 : decode cX2_arrange 56 = .ok (.iload_n 2, 1) := by decide +kernel
theorem dX2_arrange_57 : decode cX2_arrange 57 = .ok (.ireturn, 1) := by decide +kernel
theorem dX2_insert_0 : decode cX2_insert 0 = .ok (.aload_n 1, 1) := by decide +kernel
theorem dX2_insert_1 : decode cX2_insert 1 = .ok (.getfield 34, 3) := by decide +kernel
theorem dX2_insert_4 : decode cX2_insert 4 = .ok (.istore 4, 2) := by decide +kernel
theorem dX2_insert_6 : decode cX2_insert 6 = .ok (.aload_n 1, 1) := by decide +kernel
theorem dX2_insert_7 : decode cX2_insert 7 = .ok (.getfield 24, 3) := by decide +kernel
theorem dX2_insert_10 : decode cX2_insert 10 = .ok (.iload_n 2, 1) := by decide +kernel
theorem dX2_insert_11 : decode cX2_insert 11 = .ok (.aaload, 1) := by decide +kernel
theorem dX2_insert_12 : decode cX2_insert 12 = .ok (.getfield 45, 3) := by decide +kernel
theorem dX2_insert_15 : decode cX2_insert 15 = .ok (.iload 4, 2) := by decide +kernel
theorem dX2_insert_17 : decode cX2_insert 17 = .ok (.iaload, 1) := by decide +kernel
theorem dX2_insert_18 : decode cX2_insert 18 = .ok (.istore 5, 2) := by decide +kernel
theorem dX2_insert_20 : decode cX2_insert 20 = .ok (.iload_n 3, 1) := by decide +kernel
theorem dX2_insert_21 : decode cX2_insert 21 = .ok (.istore 6, 2) := by decide +kernel
theorem dX2_insert_23 : decode cX2_insert 23 = .ok (.iload 6, 2) := by decide +kernel
theorem dX2_insert_25 : decode cX2_insert 25 = .ok (.ifCond .le 50, 3) := by decide +kernel
theorem dX2_insert_28 : decode cX2_insert 28 = .ok (.aload_n 1, 1) := by decide +kernel
theorem dX2_insert_29 : decode cX2_insert 29 = .ok (.getfield 24, 3) := by decide +kernel
theorem dX2_insert_32 : decode cX2_insert 32 = .ok (.aload_n 0, 1) := by decide +kernel
theorem dX2_insert_33 : decode cX2_insert 33 = .ok (.getfield 9, 3) := by decide +kernel
theorem dX2_insert_36 : decode cX2_insert 36 = .ok (.iload 6, 2) := by decide +kernel
theorem dX2_insert_38 : decode cX2_insert 38 = .ok (.iconst 1, 1) := by decide +kernel
theorem dX2_insert_39 : decode cX2_insert 39 = .ok (.isub, 1) := by decide +kernel
theorem dX2_insert_40 : decode cX2_insert 40 = .ok (.iaload, 1) := by decide +kernel
theorem dX2_insert_41 : decode cX2_insert 41 = .ok (.aaload, 1) := by decide +kernel
theorem dX2_insert_42 : decode cX2_insert 42 = .ok (.getfield 45, 3) := by decide +kernel
theorem dX2_insert_45 : decode cX2_insert 45 = .ok (.iload 4, 2) := by decide +kernel
theorem dX2_insert_47 : decode cX2_insert 47 = .ok (.iaload, 1) := by decide +kernel
theorem dX2_insert_48 : decode cX2_insert 48 = .ok (.iload 5, 2) := by decide +kernel
theorem dX2_insert_50 : decode cX2_insert 50 = .ok (.if_icmp .ge 25, 3) := by decide +kernel
theorem dX2_insert_53 : decode cX2_insert 53 = .ok (.aload_n 0, 1) := by decide +kernel
theorem dX2_insert_54 : decode cX2_insert 54 = .ok (.getfield 9, 3) := by decide +kernel
theorem dX2_insert_57 : decode cX2_insert 57 = .ok (.iload 6, 2) := by decide +kernel
theorem dX2_insert_59 : decode cX2_insert 59 = .ok (.aload_n 0, 1) := by decide +kernel
theorem dX2_insert_60 : decode cX2_insert 60 = .ok (.getfield 9, 3) := by decide +kernel
theorem dX2_insert_63 : decode cX2_insert 63 = .ok (.iload 6, 2) := by decide +kernel
theorem dX2_insert_65 : decode cX2_insert 65 = .ok (.iconst 1, 1) := by decide +kernel
theorem dX2_insert_66 : decode cX2_insert 66 = .ok (.isub, 1) := by decide +kernel
theorem dX2_insert_67 : decode cX2_insert 67 = .ok (.iaload, 1) := by decide +kernel
theorem dX2_insert_68 : decode cX2_insert 68 = .ok (.iastore, 1) := by decide +kernel
theorem dX2_insert_69 : decode cX2_insert 69 = .ok (.iinc 6 (-1), 3) := by decide +kernel
theorem dX2_insert_72 : decode cX2_insert 72 = .ok (.goto (-49), 3) := by decide +kernel
theorem dX2_insert_75 : decode cX2_insert 75 = .ok (.aload_n 0, 1) := by decide +kernel
theorem dX2_insert_76 : decode cX2_insert 76 = .ok (.getfield 9, 3) := by decide +kernel
theorem dX2_insert_79 : decode cX2_insert 79 = .ok (.iload 6, 2) := by decide +kernel
theorem dX2_insert_81 : decode cX2_insert 81 = .ok (.iload_n 2, 1) := by decide +kernel
theorem dX2_insert_82 : decode cX2_insert 82 = .ok (.iastore, 1) := by decide +kernel
theorem dX2_insert_83 : decode cX2_insert 83 = .ok (.return_, 1) := by decide +kernel
theorem dX2_follow_0 : decode cX2_follow 0 = .ok (.aload_n 1, 1) := by decide +kernel
theorem dX2_follow_1 : decode cX2_follow 1 = .ok (.getfield 24, 3) := by decide +kernel
theorem dX2_follow_4 : decode cX2_follow 4 = .ok (.iload_n 2, 1) := by decide +kernel
theorem dX2_follow_5 : decode cX2_follow 5 = .ok (.aaload, 1) := by decide +kernel
theorem dX2_follow_6 : decode cX2_follow 6 = .ok (.astore_n 3, 1) := by decide +kernel
theorem dX2_follow_7 : decode cX2_follow 7 = .ok (.aload_n 3, 1) := by decide +kernel
theorem dX2_follow_8 : decode cX2_follow 8 = .ok (.invokevirtual 28, 3) := by decide +kernel
theorem dX2_follow_11 : decode cX2_follow 11 = .ok (.ifCond .eq 4, 3) := by decide +kernel
theorem dX2_follow_14 : decode cX2_follow 14 = .ok (.return_, 1) := by decide +kernel
theorem dX2_follow_15 : decode cX2_follow 15 = .ok (.aload_n 3, 1) := by decide +kernel
theorem dX2_follow_16 : decode cX2_follow 16 = .ok (.getfield 48, 3) := by decide +kernel
theorem dX2_follow_19 : decode cX2_follow 19 = .ok (.aload_n 1, 1) := by decide +kernel
theorem dX2_follow_20 : decode cX2_follow 20 = .ok (.getfield 34, 3) := by decide +kernel
theorem dX2_follow_23 : decode cX2_follow 23 = .ok (.iaload, 1) := by decide +kernel
theorem dX2_follow_24 : decode cX2_follow 24 = .ok (.istore 4, 2) := by decide +kernel
theorem dX2_follow_26 : decode cX2_follow 26 = .ok (.aload_n 3, 1) := by decide +kernel
theorem dX2_follow_27 : decode cX2_follow 27 = .ok (.getfield 51, 3) := by decide +kernel
theorem dX2_follow_30 : decode cX2_follow 30 = .ok (.istore 5, 2) := by decide +kernel
theorem dX2_follow_32 : decode cX2_follow 32 = .ok (.iconst 0, 1) := by decide +kernel
theorem dX2_follow_33 : decode cX2_follow 33 = .ok (.istore 6, 2) := by decide +kernel
theorem dX2_follow_35 : decode cX2_follow 35 = .ok (.iload 4, 2) := by decide +kernel
theorem dX2_follow_37 : decode cX2_follow 37 = .ok (.tableswitch 92 3 6 #[76, 31, 46, 61], 31) := by decide +kernel
theorem dX2_follow_68 : decode cX2_follow 68 = .ok (.aload_n 3, 1) := by decide +kernel
theorem dX2_follow_69 : decode cX2_follow 69 = .ok (.aload_n 3, 1) := by decide +kernel
theorem dX2_follow_70 : decode cX2_follow 70 = .ok (.getfield 51, 3) := by decide +kernel
theorem dX2_follow_73 : decode cX2_follow 73 = .ok (.iconst 3, 1) := by decide +kernel
theorem dX2_follow_74 : decode cX2_follow 74 = .ok (.invokestatic 54, 3) := by decide +kernel
theorem dX2_follow_77 : decode cX2_follow 77 = .ok (.putfield 51, 3) := by decide +kernel
theorem dX2_follow_80 : decode cX2_follow 80 = .ok (.goto 55, 3) := by decide +kernel
theorem dX2_follow_83 : decode cX2_follow 83 = .ok (.aload_n 3, 1) := by decide +kernel
theorem dX2_follow_84 : decode cX2_follow 84 = .ok (.aload_n 3, 1) := by decide +kernel
theorem dX2_follow_85 : decode cX2_follow 85 = .ok (.getfield 51, 3) := by decide +kernel
theorem dX2_follow_88 : decode cX2_follow 88 = .ok (.iconst 1, 1) := by decide +kernel
theorem dX2_follow_89 : decode cX2_follow 89 = .ok (.invokestatic 54, 3) := by decide +kernel
theorem dX2_follow_92 : decode cX2_follow 92 = .ok (.putfield 51, 3) := by decide +kernel
theorem dX2_follow_95 : decode cX2_follow 95 = .ok (.goto 40, 3) := by decide +kernel
theorem dX2_follow_98 : decode cX2_follow 98 = .ok (.aload_n 3, 1) := by decide +kernel
theorem dX2_follow_99 : decode cX2_follow 99 = .ok (.aload_n 3, 1) := by decide +kernel
theorem dX2_follow_100 : decode cX2_follow 100 = .ok (.getfield 51, 3) := by decide +kernel
theorem dX2_follow_103 : decode cX2_follow 103 = .ok (.iconst 2, 1) := by decide +kernel
theorem dX2_follow_104 : decode cX2_follow 104 = .ok (.invokestatic 54, 3) := by decide +kernel
theorem dX2_follow_107 : decode cX2_follow 107 = .ok (.putfield 51, 3) := by decide +kernel
theorem dX2_follow_110 : decode cX2_follow 110 = .ok (.goto 25, 3) := by decide +kernel
theorem dX2_follow_113 : decode cX2_follow 113 = .ok (.aload_n 3, 1) := by decide +kernel
theorem dX2_follow_114 : decode cX2_follow 114 = .ok (.getfield 51, 3) := by decide +kernel
theorem dX2_follow_117 : decode cX2_follow 117 = .ok (.iconst 2, 1) := by decide +kernel
theorem dX2_follow_118 : decode cX2_follow 118 = .ok (.invokestatic 54, 3) := by decide +kernel
theorem dX2_follow_121 : decode cX2_follow 121 = .ok (.istore 5, 2) := by decide +kernel
theorem dX2_follow_123 : decode cX2_follow 123 = .ok (.iconst 1, 1) := by decide +kernel
theorem dX2_follow_124 : decode cX2_follow 124 = .ok (.istore 6, 2) := by decide +kernel
theorem dX2_follow_126 : decode cX2_follow 126 = .ok (.goto 9, 3) := by decide +kernel
theorem dX2_follow_129 : decode cX2_follow 129 = .ok (.iload 4, 2) := by decide +kernel
theorem dX2_follow_131 : decode cX2_follow 131 = .ok (.iconst 1, 1) := by decide +kernel
theorem dX2_follow_132 : decode cX2_follow 132 = .ok (.iadd, 1) := by decide +kernel
theorem dX2_follow_133 : decode cX2_follow 133 = .ok (.istore 6, 2) := by decide +kernel
theorem dX2_follow_135 : decode cX2_follow 135 = .ok (.iconst 0, 1) := by decide +kernel
theorem dX2_follow_136 : decode cX2_follow 136 = .ok (.istore 7, 2) := by decide +kernel
theorem dX2_follow_138 : decode cX2_follow 138 = .ok (.iconst 0, 1) := by decide +kernel
theorem dX2_follow_139 : decode cX2_follow 139 = .ok (.istore 8, 2) := by decide +kernel
theorem dX2_follow_141 : decode cX2_follow 141 = .ok (.iload 8, 2) := by decide +kernel
theorem dX2_follow_143 : decode cX2_follow 143 = .ok (.iload 6, 2) := by decide +kernel
theorem dX2_follow_145 : decode cX2_follow 145 = .ok (.if_icmp .ge 39, 3) := by decide +kernel
theorem dX2_follow_148 : decode cX2_follow 148 = .ok (.iload 7, 2) := by decide +kernel
theorem dX2_follow_150 : decode cX2_follow 150 = .ok (.ifCond .ne 34, 3) := by decide +kernel
theorem dX2_follow_153 : decode cX2_follow 153 = .ok (.aload_n 3, 1) := by decide +kernel
theorem dX2_follow_154 : decode cX2_follow 154 = .ok (.invokevirtual 28, 3) := by decide +kernel
theorem dX2_follow_157 : decode cX2_follow 157 = .ok (.ifCond .ne 27, 3) := by decide +kernel
theorem dX2_follow_160 : decode cX2_follow 160 = .ok (.aload_n 0, 1) := by decide +kernel
theorem dX2_follow_161 : decode cX2_follow 161 = .ok (.aload_n 1, 1) := by decide +kernel
theorem dX2_follow_162 : decode cX2_follow 162 = .ok (.iload_n 2, 1) := by decide +kernel
theorem dX2_follow_163 : decode cX2_follow 163 = .ok (.iload 5, 2) := by decide +kernel
theorem dX2_follow_165 : decode cX2_follow 165 = .ok (.invokevirtual 58, 3) := by decide +kernel
theorem dX2_follow_168 : decode cX2_follow 168 = .ok (.ifCond .ne 7, 3) := by decide +kernel
theorem dX2_follow_171 : decode cX2_follow 171 = .ok (.iconst 1, 1) := by decide +kernel
theorem dX2_follow_172 : decode cX2_follow 172 = .ok (.goto 4, 3) := by decide +kernel
theorem dX2_follow_175 : decode cX2_follow 175 = .ok (.iconst 0, 1) := by decide +kernel
theorem dX2_follow_176 : decode cX2_follow 176 = .ok (.istore 7, 2) := by decide +kernel
theorem dX2_follow_178 : decode cX2_follow 178 = .ok (.iinc 8 1, 3) := by decide +kernel
theorem dX2_follow_181 : decode cX2_follow 181 = .ok (.goto (-40), 3) := by decide +kernel
theorem dX2_follow_184 : decode cX2_follow 184 = .ok (.iload 7, 2) := by decide +kernel
theorem dX2_follow_186 : decode cX2_follow 186 = .ok (.ifCond .eq 7, 3) := by decide +kernel
theorem dX2_follow_189 : decode cX2_follow 189 = .ok (.aload_n 3, 1) := by decide +kernel
theorem dX2_follow_190 : decode cX2_follow 190 = .ok (.invokevirtual 62, 3) := by decide +kernel
theorem dX2_follow_193 : decode cX2_follow 193 = .ok (.return_, 1) := by decide +kernel
theorem dX2_step_0 : decode cX2_step 0 = .ok (.iconst 0, 1) := by decide +kernel
theorem dX2_step_1 : decode cX2_step 1 = .ok (.istore 4, 2) := by decide +kernel
theorem dX2_step_3 : decode cX2_step 3 = .ok (.iload_n 2, 1) := by decide +kernel
theorem dX2_step_4 : decode cX2_step 4 = .ok (.istore 5, 2) := by decide +kernel
theorem dX2_step_6 : decode cX2_step 6 = .ok (.iload 5, 2) := by decide +kernel
theorem dX2_step_8 : decode cX2_step 8 = .ok (.iconst (-1), 1) := by decide +kernel
theorem dX2_step_9 : decode cX2_step 9 = .ok (.if_icmp .eq 63, 3) := by decide +kernel
theorem dX2_step_12 : decode cX2_step 12 = .ok (.iload 4, 2) := by decide +kernel
theorem dX2_step_14 : decode cX2_step 14 = .ok (.iconst 4, 1) := by decide +kernel
theorem dX2_step_15 : decode cX2_step 15 = .ok (.if_icmp .ge 57, 3) := by decide +kernel
theorem dX2_step_18 : decode cX2_step 18 = .ok (.aload_n 1, 1) := by decide +kernel
theorem dX2_step_19 : decode cX2_step 19 = .ok (.getfield 24, 3) := by decide +kernel
theorem dX2_step_22 : decode cX2_step 22 = .ok (.iload 5, 2) := by decide +kernel
theorem dX2_step_24 : decode cX2_step 24 = .ok (.aaload, 1) := by decide +kernel
theorem dX2_step_25 : decode cX2_step 25 = .ok (.getfield 65, 3) := by decide +kernel
theorem dX2_step_28 : decode cX2_step 28 = .ok (.istore 6, 2) := by decide +kernel
theorem dX2_step_30 : decode cX2_step 30 = .ok (.aload_n 1, 1) := by decide +kernel
theorem dX2_step_31 : decode cX2_step 31 = .ok (.getfield 68, 3) := by decide +kernel
theorem dX2_step_34 : decode cX2_step 34 = .ok (.iload 6, 2) := by decide +kernel
theorem dX2_step_36 : decode cX2_step 36 = .ok (.iload_n 3, 1) := by decide +kernel
theorem dX2_step_37 : decode cX2_step 37 = .ok (.invokevirtual 72, 3) := by decide +kernel
theorem dX2_step_40 : decode cX2_step 40 = .ok (.ifCond .eq 5, 3) := by decide +kernel
theorem dX2_step_43 : decode cX2_step 43 = .ok (.iconst 0, 1) := by decide +kernel
theorem dX2_step_44 : decode cX2_step 44 = .ok (.ireturn, 1) := by decide +kernel
theorem dX2_step_45 : decode cX2_step 45 = .ok (.aload_n 0, 1) := by decide +kernel
theorem dX2_step_46 : decode cX2_step 46 = .ok (.getfield 15, 3) := by decide +kernel
theorem dX2_step_49 : decode cX2_step 49 = .ok (.iload 4, 2) := by decide +kernel
theorem dX2_step_51 : decode cX2_step 51 = .ok (.iload 5, 2) := by decide +kernel
theorem dX2_step_53 : decode cX2_step 53 = .ok (.iastore, 1) := by decide +kernel
theorem dX2_step_54 : decode cX2_step 54 = .ok (.iinc 4 1, 3) := by decide +kernel
theorem dX2_step_57 : decode cX2_step 57 = .ok (.aload_n 1, 1) := by decide +kernel
theorem dX2_step_58 : decode cX2_step 58 = .ok (.iload 6, 2) := by decide +kernel
theorem dX2_step_60 : decode cX2_step 60 = .ok (.iload_n 3, 1) := by decide +kernel
theorem dX2_step_61 : decode cX2_step 61 = .ok (.invokestatic 78, 3) := by decide +kernel
theorem dX2_step_64 : decode cX2_step 64 = .ok (.invokevirtual 81, 3) := by decide +kernel
theorem dX2_step_67 : decode cX2_step 67 = .ok (.istore 5, 2) := by decide +kernel
theorem dX2_step_69 : decode cX2_step 69 = .ok (.goto (-63), 3) := by decide +kernel
theorem dX2_step_72 : decode cX2_step 72 = .ok (.iconst 0, 1) := by decide +kernel
theorem dX2_step_73 : decode cX2_step 73 = .ok (.istore 6, 2) := by decide +kernel
theorem dX2_step_75 : decode cX2_step 75 = .ok (.iload 6, 2) := by decide +kernel
theorem dX2_step_77 : decode cX2_step 77 = .ok (.iload 4, 2) := by decide +kernel
theorem dX2_step_79 : decode cX2_step 79 = .ok (.if_icmp .ge 38, 3) := by decide +kernel
theorem dX2_step_82 : decode cX2_step 82 = .ok (.aload_n 1, 1) := by decide +kernel
theorem dX2_step_83 : decode cX2_step 83 = .ok (.getfield 24, 3) := by decide +kernel
theorem dX2_step_86 : decode cX2_step 86 = .ok (.aload_n 0, 1) := by decide +kernel
theorem dX2_step_87 : decode cX2_step 87 = .ok (.getfield 15, 3) := by decide +kernel
theorem dX2_step_90 : decode cX2_step 90 = .ok (.iload 6, 2) := by decide +kernel
theorem dX2_step_92 : decode cX2_step 92 = .ok (.iaload, 1) := by decide +kernel
theorem dX2_step_93 : decode cX2_step 93 = .ok (.aaload, 1) := by decide +kernel
theorem dX2_step_94 : decode cX2_step 94 = .ok (.astore 7, 2) := by decide +kernel
theorem dX2_step_96 : decode cX2_step 96 = .ok (.aload_n 1, 1) := by decide +kernel
theorem dX2_step_97 : decode cX2_step 97 = .ok (.aload 7, 2) := by decide +kernel
theorem dX2_step_99 : decode cX2_step 99 = .ok (.aload 7, 2) := by decide +kernel
theorem dX2_step_101 : decode cX2_step 101 = .ok (.getfield 65, 3) := by decide +kernel
theorem dX2_step_104 : decode cX2_step 104 = .ok (.iload_n 3, 1) := by decide +kernel
theorem dX2_step_105 : decode cX2_step 105 = .ok (.invokestatic 78, 3) := by decide +kernel
theorem dX2_step_108 : decode cX2_step 108 = .ok (.invokevirtual 85, 3) := by decide +kernel
theorem dX2_step_111 : decode cX2_step 111 = .ok (.iinc 6 1, 3) := by decide +kernel
theorem dX2_step_114 : decode cX2_step 114 = .ok (.goto (-39), 3) := by decide +kernel
theorem dX2_step_117 : decode cX2_step 117 = .ok (.aload_n 1, 1) := by decide +kernel
theorem dX2_step_118 : decode cX2_step 118 = .ok (.dup, 1) := by decide +kernel
theorem dX2_step_119 : decode cX2_step 119 = .ok (.getfield 89, 3) := by decide +kernel
theorem dX2_step_122 : decode cX2_step 122 = .ok (.iload 4, 2) := by decide +kernel
theorem dX2_step_124 : decode cX2_step 124 = .ok (.iconst 1, 1) := by decide +kernel
theorem dX2_step_125 : decode cX2_step 125 = .ok (.isub, 1) := by decide +kernel
theorem dX2_step_126 : decode cX2_step 126 = .ok (.iadd, 1) := by decide +kernel
theorem dX2_step_127 : decode cX2_step 127 = .ok (.putfield 89, 3) := by decide +kernel
theorem dX2_step_130 : decode cX2_step 130 = .ok (.iconst 1, 1) := by decide +kernel
theorem dX2_step_131 : decode cX2_step 131 = .ok (.ireturn, 1) := by decide +kernel
theorem dX3_init_0 : decode cX3_init 0 = .ok (.aload_n 0, 1) := by decide +kernel
theorem dX3_init_1 : decode cX3_init 1 = .ok (.invokespecial 3, 3) := by decide +kernel
theorem dX3_init_4 : decode cX3_init 4 = .ok (.aload_n 0, 1) := by decide +kernel
theorem dX3_init_5 : decode cX3_init 5 = .ok (.iconst 5, 1) := by decide +kernel
theorem dX3_init_6 : decode cX3_init 6 = .ok (.newarray .int, 2) := by decide +kernel
theorem dX3_init_8 : decode cX3_init 8 = .ok (.putfield 9, 3) := by decide +kernel
theorem dX3_init_11 : decode cX3_init 11 = .ok (.aload_n 0, 1) := by decide +kernel
theorem dX3_init_12 : decode cX3_init 12 = .ok (.iconst 5, 1) := by decide +kernel
theorem dX3_init_13 : decode cX3_init 13 = .ok (.newarray .int, 2) := by decide +kernel
theorem dX3_init_15 : decode cX3_init 15 = .ok (.putfield 15, 3) := by decide +kernel
theorem dX3_init_18 : decode cX3_init 18 = .ok (.aload_n 0, 1) := by decide +kernel
theorem dX3_init_19 : decode cX3_init 19 = .ok (.iconst (-1), 1) := by decide +kernel
theorem dX3_init_20 : decode cX3_init 20 = .ok (.putfield 18, 3) := by decide +kernel
theorem dX3_init_23 : decode cX3_init 23 = .ok (.return_, 1) := by decide +kernel
theorem dX3_copyFrom_0 : decode cX3_copyFrom 0 = .ok (.aload_n 1, 1) := by decide +kernel
theorem dX3_copyFrom_1 : decode cX3_copyFrom 1 = .ok (.getfield 9, 3) := by decide +kernel
theorem dX3_copyFrom_4 : decode cX3_copyFrom 4 = .ok (.iconst 0, 1) := by decide +kernel
theorem dX3_copyFrom_5 : decode cX3_copyFrom 5 = .ok (.aload_n 0, 1) := by decide +kernel
theorem dX3_copyFrom_6 : decode cX3_copyFrom 6 = .ok (.getfield 9, 3) := by decide +kernel
theorem dX3_copyFrom_9 : decode cX3_copyFrom 9 = .ok (.iconst 0, 1) := by decide +kernel
theorem dX3_copyFrom_10 : decode cX3_copyFrom 10 = .ok (.iconst 5, 1) := by decide +kernel
theorem dX3_copyFrom_11 : decode cX3_copyFrom 11 = .ok (.invokestatic 22, 3) := by decide +kernel
theorem dX3_copyFrom_14 : decode cX3_copyFrom 14 = .ok (.aload_n 1, 1) := by decide +kernel
theorem dX3_copyFrom_15 : decode cX3_copyFrom 15 = .ok (.getfield 15, 3) := by decide +kernel
theorem dX3_copyFrom_18 : decode cX3_copyFrom 18 = .ok (.iconst 0, 1) := by decide +kernel
theorem dX3_copyFrom_19 : decode cX3_copyFrom 19 = .ok (.aload_n 0, 1) := by decide +kernel
theorem dX3_copyFrom_20 : decode cX3_copyFrom 20 = .ok (.getfield 15, 3) := by decide +kernel
theorem dX3_copyFrom_23 : decode cX3_copyFrom 23 = .ok (.iconst 0, 1) := by decide +kernel
theorem dX3_copyFrom_24 : decode cX3_copyFrom 24 = .ok (.iconst 5, 1) := by decide +kernel
theorem dX3_copyFrom_25 : decode cX3_copyFrom 25 = .ok (.invokestatic 22, 3) := by decide +kernel
theorem dX3_copyFrom_28 : decode cX3_copyFrom 28 = .ok (.aload_n 0, 1) := by decide +kernel
theorem dX3_copyFrom_29 : decode cX3_copyFrom 29 = .ok (.aload_n 1, 1) := by decide +kernel
theorem dX3_copyFrom_30 : decode cX3_copyFrom 30 = .ok (.getfield 28, 3) := by decide +kernel
theorem dX3_copyFrom_33 : decode cX3_copyFrom 33 = .ok (.putfield 28, 3) := by decide +kernel
theorem dX3_copyFrom_36 : decode cX3_copyFrom 36 = .ok (.aload_n 0, 1) := by decide +kernel
theorem dX3_copyFrom_37 : decode cX3_copyFrom 37 = .ok (.aload_n 1, 1) := by decide +kernel
theorem dX3_copyFrom_38 : decode cX3_copyFrom 38 = .ok (.getfield 18, 3) := by decide +kernel
theorem dX3_copyFrom_41 : decode cX3_copyFrom 41 = .ok (.putfield 18, 3) := by decide +kernel
theorem dX3_copyFrom_44 : decode cX3_copyFrom 44 = .ok (.aload_n 0, 1) := by decide +kernel
theorem dX3_copyFrom_45 : decode cX3_copyFrom 45 = .ok (.aload_n 1, 1) := by decide +kernel
theorem dX3_copyFrom_46 : decode cX3_copyFrom 46 = .ok (.getfield 31, 3) := by decide +kernel
theorem dX3_copyFrom_49 : decode cX3_copyFrom 49 = .ok (.putfield 31, 3) := by decide +kernel
theorem dX3_copyFrom_52 : decode cX3_copyFrom 52 = .ok (.aload_n 0, 1) := by decide +kernel
theorem dX3_copyFrom_53 : decode cX3_copyFrom 53 = .ok (.aload_n 1, 1) := by decide +kernel
theorem dX3_copyFrom_54 : decode cX3_copyFrom 54 = .ok (.getfield 34, 3) := by decide +kernel
theorem dX3_copyFrom_57 : decode cX3_copyFrom 57 = .ok (.putfield 34, 3) := by decide +kernel
theorem dX3_copyFrom_60 : decode cX3_copyFrom 60 = .ok (.aload_n 0, 1) := by decide +kernel
theorem dX3_copyFrom_61 : decode cX3_copyFrom 61 = .ok (.aload_n 1, 1) := by decide +kernel
theorem dX3_copyFrom_62 : decode cX3_copyFrom 62 = .ok (.getfield 37, 3) := by decide +kernel
theorem dX3_copyFrom_65 : decode cX3_copyFrom 65 = .ok (.putfield 37, 3) := by decide +kernel
theorem dX3_copyFrom_68 : decode cX3_copyFrom 68 = .ok (.aload_n 0, 1) := by decide +kernel
theorem dX3_copyFrom_69 : decode cX3_copyFrom 69 = .ok (.aload_n 1, 1) := by decide +kernel
theorem dX3_copyFrom_70 : decode cX3_copyFrom 70 = .ok (.getfield 40, 3) := by decide +kernel
theorem dX3_copyFrom_73 : decode cX3_copyFrom 73 = .ok (.putfield 40, 3) := by decide +kernel
theorem dX3_copyFrom_76 : decode cX3_copyFrom 76 = .ok (.aload_n 0, 1) := by decide +kernel
theorem dX3_copyFrom_77 : decode cX3_copyFrom 77 = .ok (.aload_n 1, 1) := by decide +kernel
theorem dX3_copyFrom_78 : decode cX3_copyFrom 78 = .ok (.getfield 43, 3) := by decide +kernel
theorem dX3_copyFrom_81 : decode cX3_copyFrom 81 = .ok (.putfield 43, 3) := by decide +kernel
theorem dX3_copyFrom_84 : decode cX3_copyFrom 84 = .ok (.return_, 1) := by decide +kernel
theorem dX3_begin_0 : decode cX3_begin 0 = .ok (.aload_n 0, 1) := by decide +kernel
theorem dX3_begin_1 : decode cX3_begin 1 = .ok (.iload_n 1, 1) := by decide +kernel
theorem dX3_begin_2 : decode cX3_begin 2 = .ok (.putfield 28, 3) := by decide +kernel
theorem dX3_begin_5 : decode cX3_begin 5 = .ok (.aload_n 0, 1) := by decide +kernel
theorem dX3_begin_6 : decode cX3_begin 6 = .ok (.iload_n 1, 1) := by decide +kernel
theorem dX3_begin_7 : decode cX3_begin 7 = .ok (.putfield 18, 3) := by decide +kernel
theorem dX3_begin_10 : decode cX3_begin 10 = .ok (.aload_n 0, 1) := by decide +kernel
theorem dX3_begin_11 : decode cX3_begin 11 = .ok (.iload_n 2, 1) := by decide +kernel
theorem dX3_begin_12 : decode cX3_begin 12 = .ok (.putfield 31, 3) := by decide +kernel
theorem dX3_begin_15 : decode cX3_begin 15 = .ok (.return_, 1) := by decide +kernel
theorem dX3_isOut_0 : decode cX3_isOut 0 = .ok (.aload_n 0, 1) := by decide +kernel
theorem dX3_isOut_1 : decode cX3_isOut 1 = .ok (.getfield 18, 3) := by decide +kernel
theorem dX3_isOut_4 : decode cX3_isOut 4 = .ok (.iconst (-1), 1) := by decide +kernel
theorem dX3_isOut_5 : decode cX3_isOut 5 = .ok (.if_icmp .ne 7, 3) := by decide +kernel
theorem dX3_isOut_8 : decode cX3_isOut 8 = .ok (.iconst 1, 1) := by decide +kernel
theorem dX3_isOut_9 : decode cX3_isOut 9 = .ok (.goto 4, 3) := by decide +kernel
theorem dX3_isOut_12 : decode cX3_isOut 12 = .ok (.iconst 0, 1) := by decide +kernel
theorem dX3_isOut_13 : decode cX3_isOut 13 = .ok (.ireturn, 1) := by decide +kernel
theorem dX3_hasCard_0 : decode cX3_hasCard 0 = .ok (.aload_n 0, 1) := by decide +kernel
theorem dX3_hasCard_1 : decode cX3_hasCard 1 = .ok (.getfield 15, 3) := by decide +kernel
theorem dX3_hasCard_4 : decode cX3_hasCard 4 = .ok (.iload_n 1, 1) := by decide +kernel
theorem dX3_hasCard_5 : decode cX3_hasCard 5 = .ok (.iaload, 1) := by decide +kernel
theorem dX3_hasCard_6 : decode cX3_hasCard 6 = .ok (.ifCond .le 7, 3) := by decide +kernel
theorem dX3_hasCard_9 : decode cX3_hasCard 9 = .ok (.iconst 1, 1) := by decide +kernel
theorem dX3_hasCard_10 : decode cX3_hasCard 10 = .ok (.goto 4, 3) := by decide +kernel
theorem dX3_hasCard_13 : decode cX3_hasCard 13 = .ok (.iconst 0, 1) := by decide +kernel
theorem dX3_hasCard_14 : decode cX3_hasCard 14 = .ok (.ireturn, 1) := by decide +kernel
theorem dX3_unlockedRegisters_0 : decode cX3_unlockedRegisters 0 = .ok (.iconst 5, 1) := by decide +kernel
theorem dX3_unlockedRegisters_1 : decode cX3_unlockedRegisters 1 = .ok (.iconst 0, 1) := by decide +kernel
theorem dX3_unlockedRegisters_2 : decode cX3_unlockedRegisters 2 = .ok (.aload_n 0, 1) := by decide +kernel
theorem dX3_unlockedRegisters_3 : decode cX3_unlockedRegisters 3 = .ok (.getfield 34, 3) := by decide +kernel
theorem dX3_unlockedRegisters_6 : decode cX3_unlockedRegisters 6 = .ok (.iconst 4, 1) := by decide +kernel
theorem dX3_unlockedRegisters_7 : decode cX3_unlockedRegisters 7 = .ok (.isub, 1) := by decide +kernel
theorem dX3_unlockedRegisters_8 : decode cX3_unlockedRegisters 8 = .ok (.invokestatic 46, 3) := by decide +kernel
theorem dX3_unlockedRegisters_11 : decode cX3_unlockedRegisters 11 = .ok (.isub, 1) := by decide +kernel
theorem dX3_unlockedRegisters_12 : decode cX3_unlockedRegisters 12 = .ok (.ireturn, 1) := by decide +kernel
theorem dX3_isLocked_0 : decode cX3_isLocked 0 = .ok (.iload_n 1, 1) := by decide +kernel
theorem dX3_isLocked_1 : decode cX3_isLocked 1 = .ok (.aload_n 0, 1) := by decide +kernel
theorem dX3_isLocked_2 : decode cX3_isLocked 2 = .ok (.invokevirtual 52, 3) := by decide +kernel
theorem dX3_isLocked_5 : decode cX3_isLocked 5 = .ok (.if_icmp .lt 7, 3) := by decide +kernel
theorem dX3_isLocked_8 : decode cX3_isLocked 8 = .ok (.iconst 1, 1) := by decide +kernel
theorem dX3_isLocked_9 : decode cX3_isLocked 9 = .ok (.goto 4, 3) := by decide +kernel
theorem dX3_isLocked_12 : decode cX3_isLocked 12 = .ok (.iconst 0, 1) := by decide +kernel
theorem dX3_isLocked_13 : decode cX3_isLocked 13 = .ok (.ireturn, 1) := by decide +kernel
theorem dX3_lay_0 : decode cX3_lay 0 = .ok (.aload_n 0, 1) := by decide +kernel
theorem dX3_lay_1 : decode cX3_lay 1 = .ok (.getfield 9, 3) := by decide +kernel
theorem dX3_lay_4 : decode cX3_lay 4 = .ok (.iload_n 1, 1) := by decide +kernel
theorem dX3_lay_5 : decode cX3_lay 5 = .ok (.iload_n 2, 1) := by decide +kernel
theorem dX3_lay_6 : decode cX3_lay 6 = .ok (.iastore, 1) := by decide +kernel
theorem dX3_lay_7 : decode cX3_lay 7 = .ok (.aload_n 0, 1) := by decide +kernel
theorem dX3_lay_8 : decode cX3_lay 8 = .ok (.getfield 15, 3) := by decide +kernel
theorem dX3_lay_11 : decode cX3_lay 11 = .ok (.iload_n 1, 1) := by decide +kernel
theorem dX3_lay_12 : decode cX3_lay 12 = .ok (.iload_n 3, 1) := by decide +kernel
theorem dX3_lay_13 : decode cX3_lay 13 = .ok (.iastore, 1) := by decide +kernel
theorem dX3_lay_14 : decode cX3_lay 14 = .ok (.return_, 1) := by decide +kernel
theorem dX3_emptyRegisters_0 : decode cX3_emptyRegisters 0 = .ok (.aload_n 0, 1) := by decide +kernel
theorem dX3_emptyRegisters_1 : decode cX3_emptyRegisters 1 = .ok (.getfield 15, 3) := by decide +kernel
theorem dX3_emptyRegisters_4 : decode cX3_emptyRegisters 4 = .ok (.iconst 0, 1) := by decide +kernel
theorem dX3_emptyRegisters_5 : decode cX3_emptyRegisters 5 = .ok (.iload_n 1, 1) := by decide +kernel
theorem dX3_emptyRegisters_6 : decode cX3_emptyRegisters 6 = .ok (.iconst 0, 1) := by decide +kernel
theorem dX3_emptyRegisters_7 : decode cX3_emptyRegisters 7 = .ok (.invokestatic 56, 3) := by decide +kernel
theorem dX3_emptyRegisters_10 : decode cX3_emptyRegisters 10 = .ok (.return_, 1) := by decide +kernel
theorem dX3_addDamage_0 : decode cX3_addDamage 0 = .ok (.aload_n 0, 1) := by decide +kernel
theorem dX3_addDamage_1 : decode cX3_addDamage 1 = .ok (.iconst 0, 1) := by decide +kernel
theorem dX3_addDamage_2 : decode cX3_addDamage 2 = .ok (.bipush 9, 2) := by decide +kernel
theorem dX3_addDamage_4 : decode cX3_addDamage 4 = .ok (.aload_n 0, 1) := by decide +kernel
theorem dX3_addDamage_5 : decode cX3_addDamage 5 = .ok (.getfield 34, 3) := by decide +kernel
theorem dX3_addDamage_8 : decode cX3_addDamage 8 = .ok (.iload_n 1, 1) := by decide +kernel
theorem dX3_addDamage_9 : decode cX3_addDamage 9 = .ok (.iadd, 1) := by decide +kernel
theorem dX3_addDamage_10 : decode cX3_addDamage 10 = .ok (.invokestatic 62, 3) := by decide +kernel
theorem dX3_addDamage_13 : decode cX3_addDamage 13 = .ok (.invokestatic 46, 3) := by decide +kernel
theorem dX3_addDamage_16 : decode cX3_addDamage 16 = .ok (.putfield 34, 3) := by decide +kernel
theorem dX3_addDamage_19 : decode cX3_addDamage 19 = .ok (.return_, 1) := by decide +kernel
theorem dX3_bump_0 : decode cX3_bump 0 = .ok (.aload_n 0, 1) := by decide +kernel
theorem dX3_bump_1 : decode cX3_bump 1 = .ok (.dup, 1) := by decide +kernel
theorem dX3_bump_2 : decode cX3_bump 2 = .ok (.getfield 43, 3) := by decide +kernel
theorem dX3_bump_5 : decode cX3_bump 5 = .ok (.iconst 1, 1) := by decide +kernel
theorem dX3_bump_6 : decode cX3_bump 6 = .ok (.iadd, 1) := by decide +kernel
theorem dX3_bump_7 : decode cX3_bump 7 = .ok (.putfield 43, 3) := by decide +kernel
theorem dX3_bump_10 : decode cX3_bump 10 = .ok (.aload_n 0, 1) := by decide +kernel
theorem dX3_bump_11 : decode cX3_bump 11 = .ok (.iconst 1, 1) := by decide +kernel
theorem dX3_bump_12 : decode cX3_bump 12 = .ok (.invokevirtual 65, 3) := by decide +kernel
theorem dX3_bump_15 : decode cX3_bump 15 = .ok (.return_, 1) := by decide +kernel
theorem dX3_lockedSet_0 : decode cX3_lockedSet 0 = .ok (.iconst 0, 1) := by decide +kernel
theorem dX3_lockedSet_1 : decode cX3_lockedSet 1 = .ok (.istore_n 1, 1) := by decide +kernel
theorem dX3_lockedSet_2 : decode cX3_lockedSet 2 = .ok (.aload_n 0, 1) := by decide +kernel
theorem dX3_lockedSet_3 : decode cX3_lockedSet 3 = .ok (.invokevirtual 52, 3) := by decide +kernel
theorem dX3_lockedSet_6 : decode cX3_lockedSet 6 = .ok (.istore_n 2, 1) := by decide +kernel
theorem dX3_lockedSet_7 : decode cX3_lockedSet 7 = .ok (.iload_n 2, 1) := by decide +kernel
theorem dX3_lockedSet_8 : decode cX3_lockedSet 8 = .ok (.iconst 5, 1) := by decide +kernel
theorem dX3_lockedSet_9 : decode cX3_lockedSet 9 = .ok (.if_icmp .ge 15, 3) := by decide +kernel
theorem dX3_lockedSet_12 : decode cX3_lockedSet 12 = .ok (.iload_n 1, 1) := by decide +kernel
theorem dX3_lockedSet_13 : decode cX3_lockedSet 13 = .ok (.iconst 1, 1) := by decide +kernel
theorem dX3_lockedSet_14 : decode cX3_lockedSet 14 = .ok (.iload_n 2, 1) := by decide +kernel
theorem dX3_lockedSet_15 : decode cX3_lockedSet 15 = .ok (.ishl, 1) := by decide +kernel
theorem dX3_lockedSet_16 : decode cX3_lockedSet 16 = .ok (.ior, 1) := by decide +kernel
theorem dX3_lockedSet_17 : decode cX3_lockedSet 17 = .ok (.istore_n 1, 1) := by decide +kernel
theorem dX3_lockedSet_18 : decode cX3_lockedSet 18 = .ok (.iinc 2 1, 3) := by decide +kernel
theorem dX3_lockedSet_21 : decode cX3_lockedSet 21 = .ok (.goto (-14), 3) := by decide +kernel
theorem dX3_lockedSet_24 : decode cX3_lockedSet 24 = .ok (.iload_n 1, 1) := by decide +kernel
theorem dX3_lockedSet_25 : decode cX3_lockedSet 25 = .ok (.ireturn, 1) := by decide +kernel
theorem dX3_cardSet_0 : decode cX3_cardSet 0 = .ok (.iconst 0, 1) := by decide +kernel
theorem dX3_cardSet_1 : decode cX3_cardSet 1 = .ok (.istore_n 1, 1) := by decide +kernel
theorem dX3_cardSet_2 : decode cX3_cardSet 2 = .ok (.iconst 0, 1) := by decide +kernel
theorem dX3_cardSet_3 : decode cX3_cardSet 3 = .ok (.istore_n 2, 1) := by decide +kernel
theorem dX3_cardSet_4 : decode cX3_cardSet 4 = .ok (.iload_n 2, 1) := by decide +kernel
theorem dX3_cardSet_5 : decode cX3_cardSet 5 = .ok (.iconst 5, 1) := by decide +kernel
theorem dX3_cardSet_6 : decode cX3_cardSet 6 = .ok (.if_icmp .ge 24, 3) := by decide +kernel
theorem dX3_cardSet_9 : decode cX3_cardSet 9 = .ok (.aload_n 0, 1) := by decide +kernel
theorem dX3_cardSet_10 : decode cX3_cardSet 10 = .ok (.getfield 15, 3) := by decide +kernel
theorem dX3_cardSet_13 : decode cX3_cardSet 13 = .ok (.iload_n 2, 1) := by decide +kernel
theorem dX3_cardSet_14 : decode cX3_cardSet 14 = .ok (.iaload, 1) := by decide +kernel
theorem dX3_cardSet_15 : decode cX3_cardSet 15 = .ok (.ifCond .le 9, 3) := by decide +kernel
theorem dX3_cardSet_18 : decode cX3_cardSet 18 = .ok (.iload_n 1, 1) := by decide +kernel
theorem dX3_cardSet_19 : decode cX3_cardSet 19 = .ok (.iconst 1, 1) := by decide +kernel
theorem dX3_cardSet_20 : decode cX3_cardSet 20 = .ok (.iload_n 2, 1) := by decide +kernel
theorem dX3_cardSet_21 : decode cX3_cardSet 21 = .ok (.ishl, 1) := by decide +kernel
theorem dX3_cardSet_22 : decode cX3_cardSet 22 = .ok (.ior, 1) := by decide +kernel
theorem dX3_cardSet_23 : decode cX3_cardSet 23 = .ok (.istore_n 1, 1) := by decide +kernel
theorem dX3_cardSet_24 : decode cX3_cardSet 24 = .ok (.iinc 2 1, 3) := by decide +kernel
theorem dX3_cardSet_27 : decode cX3_cardSet 27 = .ok (.goto (-23), 3) := by decide +kernel
theorem dX3_cardSet_30 : decode cX3_cardSet 30 = .ok (.iload_n 1, 1) := by decide +kernel
theorem dX3_cardSet_31 : decode cX3_cardSet 31 = .ok (.ireturn, 1) := by decide +kernel
theorem dX3_value_0 : decode cX3_value 0 = .ok (.iload_n 1, 1) := by decide +kernel
theorem dX3_value_1 : decode cX3_value 1 = .ok (.tableswitch 120 0 8 #[51, 68, 85, 90, 95, 100, 105, 110, 115], 51) := by decide +kernel
theorem dX3_value_52 : decode cX3_value 52 = .ok (.aload_n 0, 1) := by decide +kernel
theorem dX3_value_53 : decode cX3_value 53 = .ok (.invokevirtual 69, 3) := by decide +kernel
theorem dX3_value_56 : decode cX3_value 56 = .ok (.ifCond .eq 8, 3) := by decide +kernel
theorem dX3_value_59 : decode cX3_value 59 = .ok (.ldc 73, 2) := by decide +kernel
theorem dX3_value_61 : decode cX3_value 61 = .ok (.goto 7, 3) := by decide +kernel
theorem dX3_value_64 : decode cX3_value 64 = .ok (.aload_n 0, 1) := by decide +kernel
end
section
theorem dX3_value_65 : decode cX3_value 65 = .ok (.getfield 18, 3) := by decide +kernel
theorem dX3_value_68 : decode cX3_value 68 = .ok (.ireturn, 1) := by decide +kernel
theorem dX3_value_69 : decode cX3_value 69 = .ok (.aload_n 0, 1) := by decide +kernel
theorem dX3_value_70 : decode cX3_value 70 = .ok (.invokevirtual 69, 3) := by decide +kernel
theorem dX3_value_73 : decode cX3_value 73 = .ok (.ifCond .eq 8, 3) := by decide +kernel
theorem dX3_value_76 : decode cX3_value 76 = .ok (.ldc 73, 2) := by decide +kernel
theorem dX3_value_78 : decode cX3_value 78 = .ok (.goto 7, 3) := by decide +kernel
theorem dX3_value_81 : decode cX3_value 81 = .ok (.aload_n 0, 1) := by decide +kernel
theorem dX3_value_82 : decode cX3_value 82 = .ok (.getfield 31, 3) := by decide +kernel
theorem dX3_value_85 : decode cX3_value 85 = .ok (.ireturn, 1) := by decide +kernel
theorem dX3_value_86 : decode cX3_value 86 = .ok (.aload_n 0, 1) := by decide +kernel
theorem dX3_value_87 : decode cX3_value 87 = .ok (.getfield 34, 3) := by decide +kernel
theorem dX3_value_90 : decode cX3_value 90 = .ok (.ireturn, 1) := by decide +kernel
theorem dX3_value_91 : decode cX3_value 91 = .ok (.aload_n 0, 1) := by decide +kernel
theorem dX3_value_92 : decode cX3_value 92 = .ok (.getfield 37, 3) := by decide +kernel
theorem dX3_value_95 : decode cX3_value 95 = .ok (.ireturn, 1) := by decide +kernel
theorem dX3_value_96 : decode cX3_value 96 = .ok (.aload_n 0, 1) := by decide +kernel
theorem dX3_value_97 : decode cX3_value 97 = .ok (.getfield 28, 3) := by decide +kernel
theorem dX3_value_100 : decode cX3_value 100 = .ok (.ireturn, 1) := by decide +kernel
theorem dX3_value_101 : decode cX3_value 101 = .ok (.aload_n 0, 1) := by decide +kernel
theorem dX3_value_102 : decode cX3_value 102 = .ok (.invokevirtual 74, 3) := by decide +kernel
theorem dX3_value_105 : decode cX3_value 105 = .ok (.ireturn, 1) := by decide +kernel
theorem dX3_value_106 : decode cX3_value 106 = .ok (.aload_n 0, 1) := by decide +kernel
theorem dX3_value_107 : decode cX3_value 107 = .ok (.invokevirtual 77, 3) := by decide +kernel
theorem dX3_value_110 : decode cX3_value 110 = .ok (.ireturn, 1) := by decide +kernel
theorem dX3_value_111 : decode cX3_value 111 = .ok (.aload_n 0, 1) := by decide +kernel
theorem dX3_value_112 : decode cX3_value 112 = .ok (.getfield 40, 3) := by decide +kernel
theorem dX3_value_115 : decode cX3_value 115 = .ok (.ireturn, 1) := by decide +kernel
theorem dX3_value_116 : decode cX3_value 116 = .ok (.aload_n 0, 1) := by decide +kernel
theorem dX3_value_117 : decode cX3_value 117 = .ok (.getfield 43, 3) := by decide +kernel
theorem dX3_value_120 : decode cX3_value 120 = .ok (.ireturn, 1) := by decide +kernel
theorem dX3_value_121 : decode cX3_value 121 = .ok (.ldc 80, 2) := by decide +kernel
theorem dX3_value_123 : decode cX3_value 123 = .ok (.ireturn, 1) := by decide +kernel
theorem dX4_init_0 : decode cX4_init 0 = .ok (.aload_n 0, 1) := by decide +kernel
theorem dX4_init_1 : decode cX4_init 1 = .ok (.invokespecial 3, 3) := by decide +kernel
theorem dX4_init_4 : decode cX4_init 4 = .ok (.aload_n 0, 1) := by decide +kernel
theorem dX4_init_5 : decode cX4_init 5 = .ok (.iconst 4, 1) := by decide +kernel
theorem dX4_init_6 : decode cX4_init 6 = .ok (.anewarray 9, 3) := by decide +kernel
theorem dX4_init_9 : decode cX4_init 9 = .ok (.dup, 1) := by decide +kernel
theorem dX4_init_10 : decode cX4_init 10 = .ok (.iconst 0, 1) := by decide +kernel
theorem dX4_init_11 : decode cX4_init 11 = .ok (.new 9, 3) := by decide +kernel
theorem dX4_init_14 : decode cX4_init 14 = .ok (.dup, 1) := by decide +kernel
theorem dX4_init_15 : decode cX4_init 15 = .ok (.invokespecial 11, 3) := by decide +kernel
theorem dX4_init_18 : decode cX4_init 18 = .ok (.aastore, 1) := by decide +kernel
theorem dX4_init_19 : decode cX4_init 19 = .ok (.dup, 1) := by decide +kernel
theorem dX4_init_20 : decode cX4_init 20 = .ok (.iconst 1, 1) := by decide +kernel
theorem dX4_init_21 : decode cX4_init 21 = .ok (.new 9, 3) := by decide +kernel
theorem dX4_init_24 : decode cX4_init 24 = .ok (.dup, 1) := by decide +kernel
theorem dX4_init_25 : decode cX4_init 25 = .ok (.invokespecial 11, 3) := by decide +kernel
theorem dX4_init_28 : decode cX4_init 28 = .ok (.aastore, 1) := by decide +kernel
theorem dX4_init_29 : decode cX4_init 29 = .ok (.dup, 1) := by decide +kernel
theorem dX4_init_30 : decode cX4_init 30 = .ok (.iconst 2, 1) := by decide +kernel
theorem dX4_init_31 : decode cX4_init 31 = .ok (.new 9, 3) := by decide +kernel
theorem dX4_init_34 : decode cX4_init 34 = .ok (.dup, 1) := by decide +kernel
theorem dX4_init_35 : decode cX4_init 35 = .ok (.invokespecial 11, 3) := by decide +kernel
theorem dX4_init_38 : decode cX4_init 38 = .ok (.aastore, 1) := by decide +kernel
theorem dX4_init_39 : decode cX4_init 39 = .ok (.dup, 1) := by decide +kernel
theorem dX4_init_40 : decode cX4_init 40 = .ok (.iconst 3, 1) := by decide +kernel
theorem dX4_init_41 : decode cX4_init 41 = .ok (.new 9, 3) := by decide +kernel
theorem dX4_init_44 : decode cX4_init 44 = .ok (.dup, 1) := by decide +kernel
theorem dX4_init_45 : decode cX4_init 45 = .ok (.invokespecial 11, 3) := by decide +kernel
theorem dX4_init_48 : decode cX4_init 48 = .ok (.aastore, 1) := by decide +kernel
theorem dX4_init_49 : decode cX4_init 49 = .ok (.putfield 12, 3) := by decide +kernel
theorem dX4_init_52 : decode cX4_init 52 = .ok (.return_, 1) := by decide +kernel
theorem dX4_add_0 : decode cX4_add 0 = .ok (.aload_n 0, 1) := by decide +kernel
theorem dX4_add_1 : decode cX4_add 1 = .ok (.getfield 18, 3) := by decide +kernel
theorem dX4_add_4 : decode cX4_add 4 = .ok (.iconst 4, 1) := by decide +kernel
theorem dX4_add_5 : decode cX4_add 5 = .ok (.if_icmp .ne 7, 3) := by decide +kernel
theorem dX4_add_8 : decode cX4_add 8 = .ok (.aload_n 0, 1) := by decide +kernel
theorem dX4_add_9 : decode cX4_add 9 = .ok (.invokevirtual 22, 3) := by decide +kernel
theorem dX4_add_12 : decode cX4_add 12 = .ok (.aload_n 0, 1) := by decide +kernel
theorem dX4_add_13 : decode cX4_add 13 = .ok (.getfield 12, 3) := by decide +kernel
theorem dX4_add_16 : decode cX4_add 16 = .ok (.aload_n 0, 1) := by decide +kernel
theorem dX4_add_17 : decode cX4_add 17 = .ok (.getfield 18, 3) := by decide +kernel
theorem dX4_add_20 : decode cX4_add 20 = .ok (.aaload, 1) := by decide +kernel
theorem dX4_add_21 : decode cX4_add 21 = .ok (.aload_n 1, 1) := by decide +kernel
theorem dX4_add_22 : decode cX4_add 22 = .ok (.invokevirtual 25, 3) := by decide +kernel
theorem dX4_add_25 : decode cX4_add 25 = .ok (.aload_n 0, 1) := by decide +kernel
theorem dX4_add_26 : decode cX4_add 26 = .ok (.dup, 1) := by decide +kernel
theorem dX4_add_27 : decode cX4_add 27 = .ok (.getfield 18, 3) := by decide +kernel
theorem dX4_add_30 : decode cX4_add 30 = .ok (.iconst 1, 1) := by decide +kernel
theorem dX4_add_31 : decode cX4_add 31 = .ok (.iadd, 1) := by decide +kernel
theorem dX4_add_32 : decode cX4_add 32 = .ok (.putfield 18, 3) := by decide +kernel
theorem dX4_add_35 : decode cX4_add 35 = .ok (.return_, 1) := by decide +kernel
theorem dX4_restore_0 : decode cX4_restore 0 = .ok (.aload_n 0, 1) := by decide +kernel
theorem dX4_restore_1 : decode cX4_restore 1 = .ok (.getfield 18, 3) := by decide +kernel
theorem dX4_restore_4 : decode cX4_restore 4 = .ok (.ifCond .le 26, 3) := by decide +kernel
theorem dX4_restore_7 : decode cX4_restore 7 = .ok (.aload_n 0, 1) := by decide +kernel
theorem dX4_restore_8 : decode cX4_restore 8 = .ok (.dup, 1) := by decide +kernel
theorem dX4_restore_9 : decode cX4_restore 9 = .ok (.getfield 18, 3) := by decide +kernel
theorem dX4_restore_12 : decode cX4_restore 12 = .ok (.iconst 1, 1) := by decide +kernel
theorem dX4_restore_13 : decode cX4_restore 13 = .ok (.isub, 1) := by decide +kernel
theorem dX4_restore_14 : decode cX4_restore 14 = .ok (.putfield 18, 3) := by decide +kernel
theorem dX4_restore_17 : decode cX4_restore 17 = .ok (.aload_n 1, 1) := by decide +kernel
theorem dX4_restore_18 : decode cX4_restore 18 = .ok (.aload_n 0, 1) := by decide +kernel
theorem dX4_restore_19 : decode cX4_restore 19 = .ok (.getfield 12, 3) := by decide +kernel
theorem dX4_restore_22 : decode cX4_restore 22 = .ok (.aload_n 0, 1) := by decide +kernel
theorem dX4_restore_23 : decode cX4_restore 23 = .ok (.getfield 18, 3) := by decide +kernel
theorem dX4_restore_26 : decode cX4_restore 26 = .ok (.aaload, 1) := by decide +kernel
theorem dX4_restore_27 : decode cX4_restore 27 = .ok (.invokevirtual 25, 3) := by decide +kernel
theorem dX4_restore_30 : decode cX4_restore 30 = .ok (.return_, 1) := by decide +kernel
theorem dX4_dropOldest_0 : decode cX4_dropOldest 0 = .ok (.aload_n 0, 1) := by decide +kernel
theorem dX4_dropOldest_1 : decode cX4_dropOldest 1 = .ok (.getfield 12, 3) := by decide +kernel
theorem dX4_dropOldest_4 : decode cX4_dropOldest 4 = .ok (.iconst 0, 1) := by decide +kernel
theorem dX4_dropOldest_5 : decode cX4_dropOldest 5 = .ok (.aaload, 1) := by decide +kernel
theorem dX4_dropOldest_6 : decode cX4_dropOldest 6 = .ok (.astore_n 1, 1) := by decide +kernel
theorem dX4_dropOldest_7 : decode cX4_dropOldest 7 = .ok (.iconst 1, 1) := by decide +kernel
theorem dX4_dropOldest_8 : decode cX4_dropOldest 8 = .ok (.istore_n 2, 1) := by decide +kernel
theorem dX4_dropOldest_9 : decode cX4_dropOldest 9 = .ok (.iload_n 2, 1) := by decide +kernel
theorem dX4_dropOldest_10 : decode cX4_dropOldest 10 = .ok (.iconst 4, 1) := by decide +kernel
theorem dX4_dropOldest_11 : decode cX4_dropOldest 11 = .ok (.if_icmp .ge 23, 3) := by decide +kernel
theorem dX4_dropOldest_14 : decode cX4_dropOldest 14 = .ok (.aload_n 0, 1) := by decide +kernel
theorem dX4_dropOldest_15 : decode cX4_dropOldest 15 = .ok (.getfield 12, 3) := by decide +kernel
theorem dX4_dropOldest_18 : decode cX4_dropOldest 18 = .ok (.iload_n 2, 1) := by decide +kernel
theorem dX4_dropOldest_19 : decode cX4_dropOldest 19 = .ok (.iconst 1, 1) := by decide +kernel
theorem dX4_dropOldest_20 : decode cX4_dropOldest 20 = .ok (.isub, 1) := by decide +kernel
theorem dX4_dropOldest_21 : decode cX4_dropOldest 21 = .ok (.aload_n 0, 1) := by decide +kernel
theorem dX4_dropOldest_22 : decode cX4_dropOldest 22 = .ok (.getfield 12, 3) := by decide +kernel
theorem dX4_dropOldest_25 : decode cX4_dropOldest 25 = .ok (.iload_n 2, 1) := by decide +kernel
theorem dX4_dropOldest_26 : decode cX4_dropOldest 26 = .ok (.aaload, 1) := by decide +kernel
theorem dX4_dropOldest_27 : decode cX4_dropOldest 27 = .ok (.aastore, 1) := by decide +kernel
theorem dX4_dropOldest_28 : decode cX4_dropOldest 28 = .ok (.iinc 2 1, 3) := by decide +kernel
theorem dX4_dropOldest_31 : decode cX4_dropOldest 31 = .ok (.goto (-22), 3) := by decide +kernel
theorem dX4_dropOldest_34 : decode cX4_dropOldest 34 = .ok (.aload_n 0, 1) := by decide +kernel
theorem dX4_dropOldest_35 : decode cX4_dropOldest 35 = .ok (.getfield 12, 3) := by decide +kernel
theorem dX4_dropOldest_38 : decode cX4_dropOldest 38 = .ok (.iconst 3, 1) := by decide +kernel
theorem dX4_dropOldest_39 : decode cX4_dropOldest 39 = .ok (.aload_n 1, 1) := by decide +kernel
theorem dX4_dropOldest_40 : decode cX4_dropOldest 40 = .ok (.aastore, 1) := by decide +kernel
theorem dX4_dropOldest_41 : decode cX4_dropOldest 41 = .ok (.aload_n 0, 1) := by decide +kernel
theorem dX4_dropOldest_42 : decode cX4_dropOldest 42 = .ok (.iconst 3, 1) := by decide +kernel
theorem dX4_dropOldest_43 : decode cX4_dropOldest 43 = .ok (.putfield 18, 3) := by decide +kernel
theorem dX4_dropOldest_46 : decode cX4_dropOldest 46 = .ok (.return_, 1) := by decide +kernel
theorem dX5_init_0 : decode cX5_init 0 = .ok (.aload_n 0, 1) := by decide +kernel
theorem dX5_init_1 : decode cX5_init 1 = .ok (.invokespecial 3, 3) := by decide +kernel
theorem dX5_init_4 : decode cX5_init 4 = .ok (.aload_n 0, 1) := by decide +kernel
theorem dX5_init_5 : decode cX5_init 5 = .ok (.aload_n 1, 1) := by decide +kernel
theorem dX5_init_6 : decode cX5_init 6 = .ok (.putfield 9, 3) := by decide +kernel
theorem dX5_init_9 : decode cX5_init 9 = .ok (.aload_n 0, 1) := by decide +kernel
theorem dX5_init_10 : decode cX5_init 10 = .ok (.aload_n 2, 1) := by decide +kernel
theorem dX5_init_11 : decode cX5_init 11 = .ok (.putfield 15, 3) := by decide +kernel
theorem dX5_init_14 : decode cX5_init 14 = .ok (.return_, 1) := by decide +kernel
theorem dX5_isFaulty_0 : decode cX5_isFaulty 0 = .ok (.aload_n 0, 1) := by decide +kernel
theorem dX5_isFaulty_1 : decode cX5_isFaulty 1 = .ok (.getfield 19, 3) := by decide +kernel
theorem dX5_isFaulty_4 : decode cX5_isFaulty 4 = .ok (.ifCond .eq 7, 3) := by decide +kernel
theorem dX5_isFaulty_7 : decode cX5_isFaulty 7 = .ok (.iconst 1, 1) := by decide +kernel
theorem dX5_isFaulty_8 : decode cX5_isFaulty 8 = .ok (.goto 4, 3) := by decide +kernel
theorem dX5_isFaulty_11 : decode cX5_isFaulty 11 = .ok (.iconst 0, 1) := by decide +kernel
theorem dX5_isFaulty_12 : decode cX5_isFaulty 12 = .ok (.ireturn, 1) := by decide +kernel
theorem dX5_doAll_0 : decode cX5_doAll 0 = .ok (.aload_n 0, 1) := by decide +kernel
theorem dX5_doAll_1 : decode cX5_doAll 1 = .ok (.iconst 0, 1) := by decide +kernel
theorem dX5_doAll_2 : decode cX5_doAll 2 = .ok (.putfield 23, 3) := by decide +kernel
theorem dX5_doAll_5 : decode cX5_doAll 5 = .ok (.aload_n 0, 1) := by decide +kernel
theorem dX5_doAll_6 : decode cX5_doAll 6 = .ok (.iconst 0, 1) := by decide +kernel
theorem dX5_doAll_7 : decode cX5_doAll 7 = .ok (.putfield 26, 3) := by decide +kernel
theorem dX5_doAll_10 : decode cX5_doAll 10 = .ok (.aload_n 0, 1) := by decide +kernel
theorem dX5_doAll_11 : decode cX5_doAll 11 = .ok (.iconst 0, 1) := by decide +kernel
theorem dX5_doAll_12 : decode cX5_doAll 12 = .ok (.putfield 19, 3) := by decide +kernel
theorem dX5_doAll_15 : decode cX5_doAll 15 = .ok (.aload_n 0, 1) := by decide +kernel
theorem dX5_doAll_16 : decode cX5_doAll 16 = .ok (.iconst 0, 1) := by decide +kernel
theorem dX5_doAll_17 : decode cX5_doAll 17 = .ok (.putfield 29, 3) := by decide +kernel
theorem dX5_doAll_20 : decode cX5_doAll 20 = .ok (.iconst 0, 1) := by decide +kernel
theorem dX5_doAll_21 : decode cX5_doAll 21 = .ok (.istore_n 2, 1) := by decide +kernel
theorem dX5_doAll_22 : decode cX5_doAll 22 = .ok (.iload_n 2, 1) := by decide +kernel
theorem dX5_doAll_23 : decode cX5_doAll 23 = .ok (.bipush 60, 2) := by decide +kernel
theorem dX5_doAll_25 : decode cX5_doAll 25 = .ok (.if_icmp .ge 135, 3) := by decide +kernel
theorem dX5_doAll_28 : decode cX5_doAll 28 = .ok (.aload_n 0, 1) := by decide +kernel
theorem dX5_doAll_29 : decode cX5_doAll 29 = .ok (.getfield 26, 3) := by decide +kernel
theorem dX5_doAll_32 : decode cX5_doAll 32 = .ok (.aload_n 0, 1) := by decide +kernel
theorem dX5_doAll_33 : decode cX5_doAll 33 = .ok (.getfield 9, 3) := by decide +kernel
theorem dX5_doAll_36 : decode cX5_doAll 36 = .ok (.getfield 32, 3) := by decide +kernel
theorem dX5_doAll_39 : decode cX5_doAll 39 = .ok (.if_icmp .ge 121, 3) := by decide +kernel
theorem dX5_doAll_42 : decode cX5_doAll 42 = .ok (.aload_n 0, 1) := by decide +kernel
theorem dX5_doAll_43 : decode cX5_doAll 43 = .ok (.invokevirtual 37, 3) := by decide +kernel
theorem dX5_doAll_46 : decode cX5_doAll 46 = .ok (.ifCond .ne 114, 3) := by decide +kernel
theorem dX5_doAll_49 : decode cX5_doAll 49 = .ok (.aload_n 0, 1) := by decide +kernel
theorem dX5_doAll_50 : decode cX5_doAll 50 = .ok (.getfield 9, 3) := by decide +kernel
theorem dX5_doAll_53 : decode cX5_doAll 53 = .ok (.aload_n 0, 1) := by decide +kernel
theorem dX5_doAll_54 : decode cX5_doAll 54 = .ok (.getfield 26, 3) := by decide +kernel
theorem dX5_doAll_57 : decode cX5_doAll 57 = .ok (.invokevirtual 41, 3) := by decide +kernel
theorem dX5_doAll_60 : decode cX5_doAll 60 = .ok (.istore_n 3, 1) := by decide +kernel
theorem dX5_doAll_61 : decode cX5_doAll 61 = .ok (.iload_n 3, 1) := by decide +kernel
theorem dX5_doAll_62 : decode cX5_doAll 62 = .ok (.ifCond .eq 18, 3) := by decide +kernel
theorem dX5_doAll_65 : decode cX5_doAll 65 = .ok (.aload_n 0, 1) := by decide +kernel
theorem dX5_doAll_66 : decode cX5_doAll 66 = .ok (.aload_n 1, 1) := by decide +kernel
theorem dX5_doAll_67 : decode cX5_doAll 67 = .ok (.aload_n 0, 1) := by decide +kernel
theorem dX5_doAll_68 : decode cX5_doAll 68 = .ok (.getfield 9, 3) := by decide +kernel
theorem dX5_doAll_71 : decode cX5_doAll 71 = .ok (.getfield 45, 3) := by decide +kernel
theorem dX5_doAll_74 : decode cX5_doAll 74 = .ok (.invokevirtual 49, 3) := by decide +kernel
theorem dX5_doAll_77 : decode cX5_doAll 77 = .ok (.goto 4, 3) := by decide +kernel
theorem dX5_doAll_80 : decode cX5_doAll 80 = .ok (.iconst 0, 1) := by decide +kernel
theorem dX5_doAll_81 : decode cX5_doAll 81 = .ok (.istore 4, 2) := by decide +kernel
theorem dX5_doAll_83 : decode cX5_doAll 83 = .ok (.iload_n 3, 1) := by decide +kernel
theorem dX5_doAll_84 : decode cX5_doAll 84 = .ok (.ifCond .ne 27, 3) := by decide +kernel
theorem dX5_doAll_87 : decode cX5_doAll 87 = .ok (.aload_n 0, 1) := by decide +kernel
theorem dX5_doAll_88 : decode cX5_doAll 88 = .ok (.iconst 1, 1) := by decide +kernel
theorem dX5_doAll_89 : decode cX5_doAll 89 = .ok (.putfield 19, 3) := by decide +kernel
theorem dX5_doAll_92 : decode cX5_doAll 92 = .ok (.aload_n 0, 1) := by decide +kernel
theorem dX5_doAll_93 : decode cX5_doAll 93 = .ok (.aload_n 0, 1) := by decide +kernel
theorem dX5_doAll_94 : decode cX5_doAll 94 = .ok (.getfield 9, 3) := by decide +kernel
theorem dX5_doAll_97 : decode cX5_doAll 97 = .ok (.getfield 53, 3) := by decide +kernel
theorem dX5_doAll_100 : decode cX5_doAll 100 = .ok (.aload_n 0, 1) := by decide +kernel
theorem dX5_doAll_101 : decode cX5_doAll 101 = .ok (.getfield 26, 3) := by decide +kernel
theorem dX5_doAll_104 : decode cX5_doAll 104 = .ok (.isub, 1) := by decide +kernel
theorem dX5_doAll_105 : decode cX5_doAll 105 = .ok (.putfield 29, 3) := by decide +kernel
theorem dX5_doAll_108 : decode cX5_doAll 108 = .ok (.goto 46, 3) := by decide +kernel
theorem dX5_doAll_111 : decode cX5_doAll 111 = .ok (.iload 4, 2) := by decide +kernel
theorem dX5_doAll_113 : decode cX5_doAll 113 = .ok (.invokestatic 56, 3) := by decide +kernel
theorem dX5_doAll_116 : decode cX5_doAll 116 = .ok (.ifCond .eq 17, 3) := by decide +kernel
theorem dX5_doAll_119 : decode cX5_doAll 119 = .ok (.aload_n 0, 1) := by decide +kernel
theorem dX5_doAll_120 : decode cX5_doAll 120 = .ok (.iconst 2, 1) := by decide +kernel
theorem dX5_doAll_121 : decode cX5_doAll 121 = .ok (.putfield 19, 3) := by decide +kernel
theorem dX5_doAll_124 : decode cX5_doAll 124 = .ok (.aload_n 0, 1) := by decide +kernel
theorem dX5_doAll_125 : decode cX5_doAll 125 = .ok (.iload 4, 2) := by decide +kernel
theorem dX5_doAll_127 : decode cX5_doAll 127 = .ok (.putfield 29, 3) := by decide +kernel
theorem dX5_doAll_130 : decode cX5_doAll 130 = .ok (.goto 24, 3) := by decide +kernel
theorem dX5_doAll_133 : decode cX5_doAll 133 = .ok (.aload_n 0, 1) := by decide +kernel
theorem dX5_doAll_134 : decode cX5_doAll 134 = .ok (.aload_n 0, 1) := by decide +kernel
theorem dX5_doAll_135 : decode cX5_doAll 135 = .ok (.getfield 9, 3) := by decide +kernel
theorem dX5_doAll_138 : decode cX5_doAll 138 = .ok (.getfield 53, 3) := by decide +kernel
theorem dX5_doAll_141 : decode cX5_doAll 141 = .ok (.putfield 26, 3) := by decide +kernel
theorem dX5_doAll_144 : decode cX5_doAll 144 = .ok (.aload_n 0, 1) := by decide +kernel
theorem dX5_doAll_145 : decode cX5_doAll 145 = .ok (.dup, 1) := by decide +kernel
theorem dX5_doAll_146 : decode cX5_doAll 146 = .ok (.getfield 23, 3) := by decide +kernel
theorem dX5_doAll_149 : decode cX5_doAll 149 = .ok (.iconst 1, 1) := by decide +kernel
theorem dX5_doAll_150 : decode cX5_doAll 150 = .ok (.iadd, 1) := by decide +kernel
theorem dX5_doAll_151 : decode cX5_doAll 151 = .ok (.putfield 23, 3) := by decide +kernel
theorem dX5_doAll_154 : decode cX5_doAll 154 = .ok (.iinc 2 1, 3) := by decide +kernel
theorem dX5_doAll_157 : decode cX5_doAll 157 = .ok (.goto (-135), 3) := by decide +kernel
theorem dX5_doAll_160 : decode cX5_doAll 160 = .ok (.return_, 1) := by decide +kernel
theorem dX5_obey_0 : decode cX5_obey 0 = .ok (.aload_n 0, 1) := by decide +kernel
theorem dX5_obey_1 : decode cX5_obey 1 = .ok (.getfield 9, 3) := by decide +kernel
theorem dX5_obey_4 : decode cX5_obey 4 = .ok (.getfield 59, 3) := by decide +kernel
theorem dX5_obey_7 : decode cX5_obey 7 = .ok (.lookupswitch 91 #[(99, 63), (107, 41), (112, 74), (119, 52)], 41) := by decide +kernel
theorem dX5_obey_48 : decode cX5_obey 48 = .ok (.aload_n 1, 1) := by decide +kernel
theorem dX5_obey_49 : decode cX5_obey 49 = .ok (.aload_n 2, 1) := by decide +kernel
theorem dX5_obey_50 : decode cX5_obey 50 = .ok (.iconst 0, 1) := by decide +kernel
theorem dX5_obey_51 : decode cX5_obey 51 = .ok (.iaload, 1) := by decide +kernel
theorem dX5_obey_52 : decode cX5_obey 52 = .ok (.aload_n 2, 1) := by decide +kernel
theorem dX5_obey_53 : decode cX5_obey 53 = .ok (.iconst 1, 1) := by decide +kernel
theorem dX5_obey_54 : decode cX5_obey 54 = .ok (.iaload, 1) := by decide +kernel
theorem dX5_obey_55 : decode cX5_obey 55 = .ok (.invokevirtual 63, 3) := by decide +kernel
theorem dX5_obey_58 : decode cX5_obey 58 = .ok (.ireturn, 1) := by decide +kernel
theorem dX5_obey_59 : decode cX5_obey 59 = .ok (.aload_n 1, 1) := by decide +kernel
theorem dX5_obey_60 : decode cX5_obey 60 = .ok (.aload_n 2, 1) := by decide +kernel
theorem dX5_obey_61 : decode cX5_obey 61 = .ok (.iconst 0, 1) := by decide +kernel
theorem dX5_obey_62 : decode cX5_obey 62 = .ok (.iaload, 1) := by decide +kernel
theorem dX5_obey_63 : decode cX5_obey 63 = .ok (.aload_n 2, 1) := by decide +kernel
theorem dX5_obey_64 : decode cX5_obey 64 = .ok (.iconst 1, 1) := by decide +kernel
theorem dX5_obey_65 : decode cX5_obey 65 = .ok (.iaload, 1) := by decide +kernel
theorem dX5_obey_66 : decode cX5_obey 66 = .ok (.invokevirtual 69, 3) := by decide +kernel
theorem dX5_obey_69 : decode cX5_obey 69 = .ok (.ireturn, 1) := by decide +kernel
theorem dX5_obey_70 : decode cX5_obey 70 = .ok (.aload_n 1, 1) := by decide +kernel
theorem dX5_obey_71 : decode cX5_obey 71 = .ok (.aload_n 2, 1) := by decide +kernel
theorem dX5_obey_72 : decode cX5_obey 72 = .ok (.iconst 0, 1) := by decide +kernel
theorem dX5_obey_73 : decode cX5_obey 73 = .ok (.iaload, 1) := by decide +kernel
theorem dX5_obey_74 : decode cX5_obey 74 = .ok (.aload_n 2, 1) := by decide +kernel
theorem dX5_obey_75 : decode cX5_obey 75 = .ok (.iconst 1, 1) := by decide +kernel
theorem dX5_obey_76 : decode cX5_obey 76 = .ok (.iaload, 1) := by decide +kernel
theorem dX5_obey_77 : decode cX5_obey 77 = .ok (.invokevirtual 72, 3) := by decide +kernel
theorem dX5_obey_80 : decode cX5_obey 80 = .ok (.ireturn, 1) := by decide +kernel
theorem dX5_obey_81 : decode cX5_obey 81 = .ok (.aload_n 1, 1) := by decide +kernel
theorem dX5_obey_82 : decode cX5_obey 82 = .ok (.aload_n 2, 1) := by decide +kernel
theorem dX5_obey_83 : decode cX5_obey 83 = .ok (.iconst 0, 1) := by decide +kernel
theorem dX5_obey_84 : decode cX5_obey 84 = .ok (.iaload, 1) := by decide +kernel
theorem dX5_obey_85 : decode cX5_obey 85 = .ok (.aload_n 2, 1) := by decide +kernel
theorem dX5_obey_86 : decode cX5_obey 86 = .ok (.iconst 1, 1) := by decide +kernel
theorem dX5_obey_87 : decode cX5_obey 87 = .ok (.iaload, 1) := by decide +kernel
theorem dX5_obey_88 : decode cX5_obey 88 = .ok (.aload_n 2, 1) := by decide +kernel
theorem dX5_obey_89 : decode cX5_obey 89 = .ok (.iconst 2, 1) := by decide +kernel
theorem dX5_obey_90 : decode cX5_obey 90 = .ok (.iaload, 1) := by decide +kernel
theorem dX5_obey_91 : decode cX5_obey 91 = .ok (.aload_n 2, 1) := by decide +kernel
theorem dX5_obey_92 : decode cX5_obey 92 = .ok (.iconst 3, 1) := by decide +kernel
theorem dX5_obey_93 : decode cX5_obey 93 = .ok (.iaload, 1) := by decide +kernel
theorem dX5_obey_94 : decode cX5_obey 94 = .ok (.invokevirtual 75, 3) := by decide +kernel
theorem dX5_obey_97 : decode cX5_obey 97 = .ok (.ireturn, 1) := by decide +kernel
theorem dX5_obey_98 : decode cX5_obey 98 = .ok (.aload_n 0, 1) := by decide +kernel
theorem dX5_obey_99 : decode cX5_obey 99 = .ok (.getfield 15, 3) := by decide +kernel
theorem dX5_obey_102 : decode cX5_obey 102 = .ok (.aload_n 1, 1) := by decide +kernel
theorem dX5_obey_103 : decode cX5_obey 103 = .ok (.invokevirtual 79, 3) := by decide +kernel
theorem dX5_obey_106 : decode cX5_obey 106 = .ok (.ireturn, 1) := by decide +kernel
theorem dX6_init_0 : decode cX6_init 0 = .ok (.aload_n 0, 1) := by decide +kernel
theorem dX6_init_1 : decode cX6_init 1 = .ok (.invokespecial 3, 3) := by decide +kernel
theorem dX6_init_4 : decode cX6_init 4 = .ok (.aload_n 0, 1) := by decide +kernel
theorem dX6_init_5 : decode cX6_init 5 = .ok (.bipush 60, 2) := by decide +kernel
theorem dX6_init_7 : decode cX6_init 7 = .ok (.newarray .char, 2) := by decide +kernel
theorem dX6_init_9 : decode cX6_init 9 = .ok (.putfield 9, 3) := by decide +kernel
theorem dX6_init_12 : decode cX6_init 12 = .ok (.aload_n 0, 1) := by decide +kernel
theorem dX6_init_13 : decode cX6_init 13 = .ok (.iconst 4, 1) := by decide +kernel
theorem dX6_init_14 : decode cX6_init 14 = .ok (.newarray .int, 2) := by decide +kernel
theorem dX6_init_16 : decode cX6_init 16 = .ok (.putfield 15, 3) := by decide +kernel
theorem dX6_init_19 : decode cX6_init 19 = .ok (.return_, 1) := by decide +kernel
theorem dX6_append_0 : decode cX6_append 0 = .ok (.aload_n 0, 1) := by decide +kernel
theorem dX6_append_1 : decode cX6_append 1 = .ok (.getfield 19, 3) := by decide +kernel
theorem dX6_append_4 : decode cX6_append 4 = .ok (.bipush 60, 2) := by decide +kernel
theorem dX6_append_6 : decode cX6_append 6 = .ok (.if_icmp .lt 6, 3) := by decide +kernel
theorem dX6_append_9 : decode cX6_append 9 = .ok (.ldc 23, 2) := by decide +kernel
theorem dX6_append_11 : decode cX6_append 11 = .ok (.ireturn, 1) := by decide +kernel
theorem dX6_append_12 : decode cX6_append 12 = .ok (.aload_n 0, 1) := by decide +kernel
theorem dX6_append_13 : decode cX6_append 13 = .ok (.getfield 9, 3) := by decide +kernel
theorem dX6_append_16 : decode cX6_append 16 = .ok (.aload_n 0, 1) := by decide +kernel
theorem dX6_append_17 : decode cX6_append 17 = .ok (.getfield 19, 3) := by decide +kernel
theorem dX6_append_20 : decode cX6_append 20 = .ok (.iload_n 1, 1) := by decide +kernel
theorem dX6_append_21 : decode cX6_append 21 = .ok (.castore, 1) := by decide +kernel
theorem dX6_append_22 : decode cX6_append 22 = .ok (.aload_n 0, 1) := by decide +kernel
theorem dX6_append_23 : decode cX6_append 23 = .ok (.dup, 1) := by decide +kernel
theorem dX6_append_24 : decode cX6_append 24 = .ok (.getfield 19, 3) := by decide +kernel
theorem dX6_append_27 : decode cX6_append 27 = .ok (.iconst 1, 1) := by decide +kernel
theorem dX6_append_28 : decode cX6_append 28 = .ok (.iadd, 1) := by decide +kernel
theorem dX6_append_29 : decode cX6_append 29 = .ok (.putfield 19, 3) := by decide +kernel
theorem dX6_append_32 : decode cX6_append 32 = .ok (.aload_n 0, 1) := by decide +kernel
theorem dX6_append_33 : decode cX6_append 33 = .ok (.getfield 19, 3) := by decide +kernel
theorem dX6_append_36 : decode cX6_append 36 = .ok (.ireturn, 1) := by decide +kernel
theorem dX6_read_0 : decode cX6_read 0 = .ok (.aload_n 0, 1) := by decide +kernel
theorem dX6_read_1 : decode cX6_read 1 = .ok (.iload_n 1, 1) := by decide +kernel
theorem dX6_read_2 : decode cX6_read 2 = .ok (.putfield 24, 3) := by decide +kernel
theorem dX6_read_5 : decode cX6_read 5 = .ok (.aload_n 0, 1) := by decide +kernel
theorem dX6_read_6 : decode cX6_read 6 = .ok (.aload_n 0, 1) := by decide +kernel
theorem dX6_read_7 : decode cX6_read 7 = .ok (.getfield 24, 3) := by decide +kernel
theorem dX6_read_10 : decode cX6_read 10 = .ok (.aload_n 0, 1) := by decide +kernel
theorem dX6_read_11 : decode cX6_read 11 = .ok (.getfield 19, 3) := by decide +kernel
theorem dX6_read_14 : decode cX6_read 14 = .ok (.if_icmp .ge 15, 3) := by decide +kernel
theorem dX6_read_17 : decode cX6_read 17 = .ok (.aload_n 0, 1) := by decide +kernel
theorem dX6_read_18 : decode cX6_read 18 = .ok (.getfield 9, 3) := by decide +kernel
theorem dX6_read_21 : decode cX6_read 21 = .ok (.aload_n 0, 1) := by decide +kernel
theorem dX6_read_22 : decode cX6_read 22 = .ok (.getfield 24, 3) := by decide +kernel
theorem dX6_read_25 : decode cX6_read 25 = .ok (.caload, 1) := by decide +kernel
theorem dX6_read_26 : decode cX6_read 26 = .ok (.goto 5, 3) := by decide +kernel
theorem dX6_read_29 : decode cX6_read 29 = .ok (.bipush 32, 2) := by decide +kernel
theorem dX6_read_31 : decode cX6_read 31 = .ok (.putfield 27, 3) := by decide +kernel
theorem dX6_read_34 : decode cX6_read 34 = .ok (.aload_n 0, 1) := by decide +kernel
theorem dX6_read_35 : decode cX6_read 35 = .ok (.getfield 27, 3) := by decide +kernel
theorem dX6_read_38 : decode cX6_read 38 = .ok (.invokestatic 31, 3) := by decide +kernel
theorem dX6_read_41 : decode cX6_read 41 = .ok (.istore_n 2, 1) := by decide +kernel
theorem dX6_read_42 : decode cX6_read 42 = .ok (.iload_n 2, 1) := by decide +kernel
theorem dX6_read_43 : decode cX6_read 43 = .ok (.iconst (-1), 1) := by decide +kernel
theorem dX6_read_44 : decode cX6_read 44 = .ok (.if_icmp .ne 5, 3) := by decide +kernel
theorem dX6_read_47 : decode cX6_read 47 = .ok (.iconst 0, 1) := by decide +kernel
theorem dX6_read_48 : decode cX6_read 48 = .ok (.ireturn, 1) := by decide +kernel
theorem dX6_read_49 : decode cX6_read 49 = .ok (.aload_n 0, 1) := by decide +kernel
theorem dX6_read_50 : decode cX6_read 50 = .ok (.dup, 1) := by decide +kernel
theorem dX6_read_51 : decode cX6_read 51 = .ok (.getfield 24, 3) := by decide +kernel
theorem dX6_read_54 : decode cX6_read 54 = .ok (.iconst 1, 1) := by decide +kernel
theorem dX6_read_55 : decode cX6_read 55 = .ok (.iadd, 1) := by decide +kernel
theorem dX6_read_56 : decode cX6_read 56 = .ok (.putfield 24, 3) := by decide +kernel
theorem dX6_read_59 : decode cX6_read 59 = .ok (.iconst 0, 1) := by decide +kernel
theorem dX6_read_60 : decode cX6_read 60 = .ok (.istore_n 3, 1) := by decide +kernel
theorem dX6_read_61 : decode cX6_read 61 = .ok (.iload_n 3, 1) := by decide +kernel
theorem dX6_read_62 : decode cX6_read 62 = .ok (.iload_n 2, 1) := by decide +kernel
theorem dX6_read_63 : decode cX6_read 63 = .ok (.if_icmp .ge 32, 3) := by decide +kernel
theorem dX6_read_66 : decode cX6_read 66 = .ok (.iload_n 3, 1) := by decide +kernel
theorem dX6_read_67 : decode cX6_read 67 = .ok (.ifCond .le 12, 3) := by decide +kernel
theorem dX6_read_70 : decode cX6_read 70 = .ok (.aload_n 0, 1) := by decide +kernel
theorem dX6_read_71 : decode cX6_read 71 = .ok (.bipush 44, 2) := by decide +kernel
theorem dX6_read_73 : decode cX6_read 73 = .ok (.invokevirtual 35, 3) := by decide +kernel
theorem dX6_read_76 : decode cX6_read 76 = .ok (.ifCond .eq 11, 3) := by decide +kernel
theorem dX6_read_79 : decode cX6_read 79 = .ok (.aload_n 0, 1) := by decide +kernel
theorem dX6_read_80 : decode cX6_read 80 = .ok (.iload_n 3, 1) := by decide +kernel
theorem dX6_read_81 : decode cX6_read 81 = .ok (.invokevirtual 39, 3) := by decide +kernel
theorem dX6_read_84 : decode cX6_read 84 = .ok (.ifCond .ne 5, 3) := by decide +kernel
theorem dX6_read_87 : decode cX6_read 87 = .ok (.iconst 0, 1) := by decide +kernel
theorem dX6_read_88 : decode cX6_read 88 = .ok (.ireturn, 1) := by decide +kernel
theorem dX6_read_89 : decode cX6_read 89 = .ok (.iinc 3 1, 3) := by decide +kernel
theorem dX6_read_92 : decode cX6_read 92 = .ok (.goto (-31), 3) := by decide +kernel
theorem dX6_read_95 : decode cX6_read 95 = .ok (.aload_n 0, 1) := by decide +kernel
theorem dX6_read_96 : decode cX6_read 96 = .ok (.bipush 59, 2) := by decide +kernel
theorem dX6_read_98 : decode cX6_read 98 = .ok (.invokevirtual 35, 3) := by decide +kernel
theorem dX6_read_101 : decode cX6_read 101 = .ok (.ireturn, 1) := by decide +kernel
theorem dX6_numbersBehind_0 : decode cX6_numbersBehind 0 = .ok (.iload_n 0, 1) := by decide +kernel
theorem dX6_numbersBehind_1 : decode cX6_numbersBehind 1 = .ok (.lookupswitch 57 #[(99, 51), (107, 51), (112, 53), (114, 55), (119, 51)], 51) := by decide +kernel
theorem dX6_numbersBehind_52 : decode cX6_numbersBehind 52 = .ok (.iconst 2, 1) := by decide +kernel
theorem dX6_numbersBehind_53 : decode cX6_numbersBehind 53 = .ok (.ireturn, 1) := by decide +kernel
theorem dX6_numbersBehind_54 : decode cX6_numbersBehind 54 = .ok (.iconst 4, 1) := by decide +kernel
theorem dX6_numbersBehind_55 : decode cX6_numbersBehind 55 = .ok (.ireturn, 1) := by decide +kernel
theorem dX6_numbersBehind_56 : decode cX6_numbersBehind 56 = .ok (.iconst 0, 1) := by decide +kernel
theorem dX6_numbersBehind_57 : decode cX6_numbersBehind 57 = .ok (.ireturn, 1) := by decide +kernel
theorem dX6_numbersBehind_58 : decode cX6_numbersBehind 58 = .ok (.iconst (-1), 1) := by decide +kernel
theorem dX6_numbersBehind_59 : decode cX6_numbersBehind 59 = .ok (.ireturn, 1) := by decide +kernel
theorem dX6_take_0 : decode cX6_take 0 = .ok (.aload_n 0, 1) := by decide +kernel
theorem dX6_take_1 : decode cX6_take 1 = .ok (.getfield 24, 3) := by decide +kernel
theorem dX6_take_4 : decode cX6_take 4 = .ok (.aload_n 0, 1) := by decide +kernel
theorem dX6_take_5 : decode cX6_take 5 = .ok (.getfield 19, 3) := by decide +kernel
theorem dX6_take_8 : decode cX6_take 8 = .ok (.if_icmp .ge 16, 3) := by decide +kernel
theorem dX6_take_11 : decode cX6_take 11 = .ok (.aload_n 0, 1) := by decide +kernel
theorem dX6_take_12 : decode cX6_take 12 = .ok (.getfield 9, 3) := by decide +kernel
theorem dX6_take_15 : decode cX6_take 15 = .ok (.aload_n 0, 1) := by decide +kernel
theorem dX6_take_16 : decode cX6_take 16 = .ok (.getfield 24, 3) := by decide +kernel
theorem dX6_take_19 : decode cX6_take 19 = .ok (.caload, 1) := by decide +kernel
theorem dX6_take_20 : decode cX6_take 20 = .ok (.iload_n 1, 1) := by decide +kernel
theorem dX6_take_21 : decode cX6_take 21 = .ok (.if_icmp .eq 5, 3) := by decide +kernel
theorem dX6_take_24 : decode cX6_take 24 = .ok (.iconst 0, 1) := by decide +kernel
theorem dX6_take_25 : decode cX6_take 25 = .ok (.ireturn, 1) := by decide +kernel
theorem dX6_take_26 : decode cX6_take 26 = .ok (.aload_n 0, 1) := by decide +kernel
theorem dX6_take_27 : decode cX6_take 27 = .ok (.dup, 1) := by decide +kernel
theorem dX6_take_28 : decode cX6_take 28 = .ok (.getfield 24, 3) := by decide +kernel
theorem dX6_take_31 : decode cX6_take 31 = .ok (.iconst 1, 1) := by decide +kernel
theorem dX6_take_32 : decode cX6_take 32 = .ok (.iadd, 1) := by decide +kernel
theorem dX6_take_33 : decode cX6_take 33 = .ok (.putfield 24, 3) := by decide +kernel
theorem dX6_take_36 : decode cX6_take 36 = .ok (.iconst 1, 1) := by decide +kernel
theorem dX6_take_37 : decode cX6_take 37 = .ok (.ireturn, 1) := by decide +kernel
theorem dX6_takeNumber_0 : decode cX6_takeNumber 0 = .ok (.iconst 0, 1) := by decide +kernel
theorem dX6_takeNumber_1 : decode cX6_takeNumber 1 = .ok (.istore_n 2, 1) := by decide +kernel
theorem dX6_takeNumber_2 : decode cX6_takeNumber 2 = .ok (.iconst 0, 1) := by decide +kernel
theorem dX6_takeNumber_3 : decode cX6_takeNumber 3 = .ok (.istore_n 3, 1) := by decide +kernel
theorem dX6_takeNumber_4 : decode cX6_takeNumber 4 = .ok (.iload_n 3, 1) := by decide +kernel
theorem dX6_takeNumber_5 : decode cX6_takeNumber 5 = .ok (.iconst 3, 1) := by decide +kernel
theorem dX6_takeNumber_6 : decode cX6_takeNumber 6 = .ok (.if_icmp .ge 76, 3) := by decide +kernel
theorem dX6_takeNumber_9 : decode cX6_takeNumber 9 = .ok (.aload_n 0, 1) := by decide +kernel
theorem dX6_takeNumber_10 : decode cX6_takeNumber 10 = .ok (.getfield 24, 3) := by decide +kernel
theorem dX6_takeNumber_13 : decode cX6_takeNumber 13 = .ok (.aload_n 0, 1) := by decide +kernel
theorem dX6_takeNumber_14 : decode cX6_takeNumber 14 = .ok (.getfield 19, 3) := by decide +kernel
theorem dX6_takeNumber_17 : decode cX6_takeNumber 17 = .ok (.if_icmp .ge 65, 3) := by decide +kernel
theorem dX6_takeNumber_20 : decode cX6_takeNumber 20 = .ok (.aload_n 0, 1) := by decide +kernel
theorem dX6_takeNumber_21 : decode cX6_takeNumber 21 = .ok (.getfield 9, 3) := by decide +kernel
theorem dX6_takeNumber_24 : decode cX6_takeNumber 24 = .ok (.aload_n 0, 1) := by decide +kernel
theorem dX6_takeNumber_25 : decode cX6_takeNumber 25 = .ok (.getfield 24, 3) := by decide +kernel
theorem dX6_takeNumber_28 : decode cX6_takeNumber 28 = .ok (.caload, 1) := by decide +kernel
theorem dX6_takeNumber_29 : decode cX6_takeNumber 29 = .ok (.bipush 48, 2) := by decide +kernel
theorem dX6_takeNumber_31 : decode cX6_takeNumber 31 = .ok (.if_icmp .lt 51, 3) := by decide +kernel
theorem dX6_takeNumber_34 : decode cX6_takeNumber 34 = .ok (.aload_n 0, 1) := by decide +kernel
theorem dX6_takeNumber_35 : decode cX6_takeNumber 35 = .ok (.getfield 9, 3) := by decide +kernel
theorem dX6_takeNumber_38 : decode cX6_takeNumber 38 = .ok (.aload_n 0, 1) := by decide +kernel
theorem dX6_takeNumber_39 : decode cX6_takeNumber 39 = .ok (.getfield 24, 3) := by decide +kernel
theorem dX6_takeNumber_42 : decode cX6_takeNumber 42 = .ok (.caload, 1) := by decide +kernel
theorem dX6_takeNumber_43 : decode cX6_takeNumber 43 = .ok (.bipush 57, 2) := by decide +kernel
theorem dX6_takeNumber_45 : decode cX6_takeNumber 45 = .ok (.if_icmp .gt 37, 3) := by decide +kernel
theorem dX6_takeNumber_48 : decode cX6_takeNumber 48 = .ok (.iload_n 2, 1) := by decide +kernel
theorem dX6_takeNumber_49 : decode cX6_takeNumber 49 = .ok (.bipush 10, 2) := by decide +kernel
theorem dX6_takeNumber_51 : decode cX6_takeNumber 51 = .ok (.imul, 1) := by decide +kernel
theorem dX6_takeNumber_52 : decode cX6_takeNumber 52 = .ok (.aload_n 0, 1) := by decide +kernel
theorem dX6_takeNumber_53 : decode cX6_takeNumber 53 = .ok (.getfield 9, 3) := by decide +kernel
theorem dX6_takeNumber_56 : decode cX6_takeNumber 56 = .ok (.aload_n 0, 1) := by decide +kernel
theorem dX6_takeNumber_57 : decode cX6_takeNumber 57 = .ok (.getfield 24, 3) := by decide +kernel
theorem dX6_takeNumber_60 : decode cX6_takeNumber 60 = .ok (.caload, 1) := by decide +kernel
theorem dX6_takeNumber_61 : decode cX6_takeNumber 61 = .ok (.bipush 48, 2) := by decide +kernel
theorem dX6_takeNumber_63 : decode cX6_takeNumber 63 = .ok (.isub, 1) := by decide +kernel
theorem dX6_takeNumber_64 : decode cX6_takeNumber 64 = .ok (.iadd, 1) := by decide +kernel
theorem dX6_takeNumber_65 : decode cX6_takeNumber 65 = .ok (.istore_n 2, 1) := by decide +kernel
theorem dX6_takeNumber_66 : decode cX6_takeNumber 66 = .ok (.iinc 3 1, 3) := by decide +kernel
theorem dX6_takeNumber_69 : decode cX6_takeNumber 69 = .ok (.aload_n 0, 1) := by decide +kernel
theorem dX6_takeNumber_70 : decode cX6_takeNumber 70 = .ok (.dup, 1) := by decide +kernel
theorem dX6_takeNumber_71 : decode cX6_takeNumber 71 = .ok (.getfield 24, 3) := by decide +kernel
theorem dX6_takeNumber_74 : decode cX6_takeNumber 74 = .ok (.iconst 1, 1) := by decide +kernel
theorem dX6_takeNumber_75 : decode cX6_takeNumber 75 = .ok (.iadd, 1) := by decide +kernel
theorem dX6_takeNumber_76 : decode cX6_takeNumber 76 = .ok (.putfield 24, 3) := by decide +kernel
theorem dX6_takeNumber_79 : decode cX6_takeNumber 79 = .ok (.goto (-75), 3) := by decide +kernel
theorem dX6_takeNumber_82 : decode cX6_takeNumber 82 = .ok (.aload_n 0, 1) := by decide +kernel
theorem dX6_takeNumber_83 : decode cX6_takeNumber 83 = .ok (.getfield 15, 3) := by decide +kernel
theorem dX6_takeNumber_86 : decode cX6_takeNumber 86 = .ok (.iload_n 1, 1) := by decide +kernel
theorem dX6_takeNumber_87 : decode cX6_takeNumber 87 = .ok (.iload_n 2, 1) := by decide +kernel
theorem dX6_takeNumber_88 : decode cX6_takeNumber 88 = .ok (.iastore, 1) := by decide +kernel
theorem dX6_takeNumber_89 : decode cX6_takeNumber 89 = .ok (.iload_n 3, 1) := by decide +kernel
theorem dX6_takeNumber_90 : decode cX6_takeNumber 90 = .ok (.ifCond .le 7, 3) := by decide +kernel
theorem dX6_takeNumber_93 : decode cX6_takeNumber 93 = .ok (.iconst 1, 1) := by decide +kernel
theorem dX6_takeNumber_94 : decode cX6_takeNumber 94 = .ok (.goto 4, 3) := by decide +kernel
theorem dX6_takeNumber_97 : decode cX6_takeNumber 97 = .ok (.iconst 0, 1) := by decide +kernel
theorem dX6_takeNumber_98 : decode cX6_takeNumber 98 = .ok (.ireturn, 1) := by decide +kernel
theorem dX7_init_0 : decode cX7_init 0 = .ok (.aload_n 0, 1) := by decide +kernel
theorem dX7_init_1 : decode cX7_init 1 = .ok (.invokespecial 3, 3) := by decide +kernel
theorem dX7_init_4 : decode cX7_init 4 = .ok (.aload_n 0, 1) := by decide +kernel
theorem dX7_init_5 : decode cX7_init 5 = .ok (.new 9, 3) := by decide +kernel
theorem dX7_init_8 : decode cX7_init 8 = .ok (.dup, 1) := by decide +kernel
theorem dX7_init_9 : decode cX7_init 9 = .ok (.invokespecial 11, 3) := by decide +kernel
theorem dX7_init_12 : decode cX7_init 12 = .ok (.putfield 12, 3) := by decide +kernel
theorem dX7_init_15 : decode cX7_init 15 = .ok (.aload_n 0, 1) := by decide +kernel
theorem dX7_init_16 : decode cX7_init 16 = .ok (.new 18, 3) := by decide +kernel
theorem dX7_init_19 : decode cX7_init 19 = .ok (.dup, 1) := by decide +kernel
theorem dX7_init_20 : decode cX7_init 20 = .ok (.invokespecial 20, 3) := by decide +kernel
theorem dX7_init_23 : decode cX7_init 23 = .ok (.putfield 21, 3) := by decide +kernel
theorem dX7_init_26 : decode cX7_init 26 = .ok (.return_, 1) := by decide +kernel
theorem dX7_runNext_0 : decode cX7_runNext 0 = .ok (.aload_n 1, 1) := by decide +kernel
theorem dX7_runNext_1 : decode cX7_runNext 1 = .ok (.getfield 25, 3) := by decide +kernel
theorem dX7_runNext_4 : decode cX7_runNext 4 = .ok (.ifCond .ne 6, 3) := by decide +kernel
theorem dX7_runNext_7 : decode cX7_runNext 7 = .ok (.ldc 31, 2) := by decide +kernel
theorem dX7_runNext_9 : decode cX7_runNext 9 = .ok (.ireturn, 1) := by decide +kernel
theorem dX7_runNext_10 : decode cX7_runNext 10 = .ok (.aload_n 1, 1) := by decide +kernel
theorem dX7_runNext_11 : decode cX7_runNext 11 = .ok (.invokevirtual 32, 3) := by decide +kernel
theorem dX7_runNext_14 : decode cX7_runNext 14 = .ok (.istore_n 2, 1) := by decide +kernel
theorem dX7_runNext_15 : decode cX7_runNext 15 = .ok (.aload_n 0, 1) := by decide +kernel
theorem dX7_runNext_16 : decode cX7_runNext 16 = .ok (.getfield 12, 3) := by decide +kernel
theorem dX7_runNext_19 : decode cX7_runNext 19 = .ok (.aload_n 1, 1) := by decide +kernel
theorem dX7_runNext_20 : decode cX7_runNext 20 = .ok (.invokevirtual 36, 3) := by decide +kernel
theorem dX7_runNext_23 : decode cX7_runNext 23 = .ok (.istore_n 3, 1) := by decide +kernel
theorem dX7_runNext_24 : decode cX7_runNext 24 = .ok (.iconst 0, 1) := by decide +kernel
theorem dX7_runNext_25 : decode cX7_runNext 25 = .ok (.istore 4, 2) := by decide +kernel
theorem dX7_runNext_27 : decode cX7_runNext 27 = .ok (.iload 4, 2) := by decide +kernel
theorem dX7_runNext_29 : decode cX7_runNext 29 = .ok (.iload_n 3, 1) := by decide +kernel
theorem dX7_runNext_30 : decode cX7_runNext 30 = .ok (.if_icmp .ge 27, 3) := by decide +kernel
theorem dX7_runNext_33 : decode cX7_runNext 33 = .ok (.aload_n 0, 1) := by decide +kernel
theorem dX7_runNext_34 : decode cX7_runNext 34 = .ok (.getfield 12, 3) := by decide +kernel
theorem dX7_runNext_37 : decode cX7_runNext 37 = .ok (.aload_n 1, 1) := by decide +kernel
theorem dX7_runNext_38 : decode cX7_runNext 38 = .ok (.aload_n 0, 1) := by decide +kernel
theorem dX7_runNext_39 : decode cX7_runNext 39 = .ok (.getfield 12, 3) := by decide +kernel
theorem dX7_runNext_42 : decode cX7_runNext 42 = .ok (.getfield 40, 3) := by decide +kernel
theorem dX7_runNext_45 : decode cX7_runNext 45 = .ok (.iload 4, 2) := by decide +kernel
theorem dX7_runNext_47 : decode cX7_runNext 47 = .ok (.iaload, 1) := by decide +kernel
theorem dX7_runNext_48 : decode cX7_runNext 48 = .ok (.invokevirtual 44, 3) := by decide +kernel
theorem dX7_runNext_51 : decode cX7_runNext 51 = .ok (.iinc 4 1, 3) := by decide +kernel
theorem dX7_runNext_54 : decode cX7_runNext 54 = .ok (.goto (-27), 3) := by decide +kernel
theorem dX7_runNext_57 : decode cX7_runNext 57 = .ok (.aload_n 0, 1) := by decide +kernel
theorem dX7_runNext_58 : decode cX7_runNext 58 = .ok (.getfield 21, 3) := by decide +kernel
theorem dX7_runNext_61 : decode cX7_runNext 61 = .ok (.aload_n 1, 1) := by decide +kernel
theorem dX7_runNext_62 : decode cX7_runNext 62 = .ok (.invokevirtual 48, 3) := by decide +kernel
theorem dX7_runNext_65 : decode cX7_runNext 65 = .ok (.aload_n 1, 1) := by decide +kernel
theorem dX7_runNext_66 : decode cX7_runNext 66 = .ok (.invokevirtual 52, 3) := by decide +kernel
theorem dX7_runNext_69 : decode cX7_runNext 69 = .ok (.aload_n 1, 1) := by decide +kernel
theorem dX7_runNext_70 : decode cX7_runNext 70 = .ok (.invokevirtual 55, 3) := by decide +kernel
theorem dX7_runNext_73 : decode cX7_runNext 73 = .ok (.aload_n 1, 1) := by decide +kernel
theorem dX7_runNext_74 : decode cX7_runNext 74 = .ok (.invokevirtual 58, 3) := by decide +kernel
theorem dX7_runNext_77 : decode cX7_runNext 77 = .ok (.aload_n 1, 1) := by decide +kernel
theorem dX7_runNext_78 : decode cX7_runNext 78 = .ok (.getfield 61, 3) := by decide +kernel
theorem dX7_runNext_81 : decode cX7_runNext 81 = .ok (.ifCond .ne 11, 3) := by decide +kernel
theorem dX7_runNext_84 : decode cX7_runNext 84 = .ok (.aload_n 1, 1) := by decide +kernel
theorem dX7_runNext_85 : decode cX7_runNext 85 = .ok (.invokevirtual 64, 3) := by decide +kernel
theorem dX7_runNext_88 : decode cX7_runNext 88 = .ok (.aload_n 1, 1) := by decide +kernel
theorem dX7_runNext_89 : decode cX7_runNext 89 = .ok (.invokevirtual 67, 3) := by decide +kernel
theorem dX7_runNext_92 : decode cX7_runNext 92 = .ok (.aload_n 1, 1) := by decide +kernel
theorem dX7_runNext_93 : decode cX7_runNext 93 = .ok (.invokevirtual 32, 3) := by decide +kernel
theorem dX7_runNext_96 : decode cX7_runNext 96 = .ok (.iload_n 2, 1) := by decide +kernel
theorem dX7_runNext_97 : decode cX7_runNext 97 = .ok (.isub, 1) := by decide +kernel
theorem dX7_runNext_98 : decode cX7_runNext 98 = .ok (.ireturn, 1) := by decide +kernel
theorem dX7_runToRoundEnd_0 : decode cX7_runToRoundEnd 0 = .ok (.aload_n 1, 1) := by decide +kernel
theorem dX7_runToRoundEnd_1 : decode cX7_runToRoundEnd 1 = .ok (.getfield 25, 3) := by decide +kernel
theorem dX7_runToRoundEnd_4 : decode cX7_runToRoundEnd 4 = .ok (.ifCond .ne 6, 3) := by decide +kernel
theorem dX7_runToRoundEnd_7 : decode cX7_runToRoundEnd 7 = .ok (.ldc 31, 2) := by decide +kernel
theorem dX7_runToRoundEnd_9 : decode cX7_runToRoundEnd 9 = .ok (.ireturn, 1) := by decide +kernel
theorem dX7_runToRoundEnd_10 : decode cX7_runToRoundEnd 10 = .ok (.iconst 0, 1) := by decide +kernel
theorem dX7_runToRoundEnd_11 : decode cX7_runToRoundEnd 11 = .ok (.istore_n 2, 1) := by decide +kernel
theorem dX7_runToRoundEnd_12 : decode cX7_runToRoundEnd 12 = .ok (.aload_n 1, 1) := by decide +kernel
theorem dX7_runToRoundEnd_13 : decode cX7_runToRoundEnd 13 = .ok (.getfield 61, 3) := by decide +kernel
theorem dX7_runToRoundEnd_16 : decode cX7_runToRoundEnd 16 = .ok (.istore_n 3, 1) := by decide +kernel
theorem dX7_runToRoundEnd_17 : decode cX7_runToRoundEnd 17 = .ok (.iload_n 3, 1) := by decide +kernel
theorem dX7_runToRoundEnd_18 : decode cX7_runToRoundEnd 18 = .ok (.iconst 5, 1) := by decide +kernel
theorem dX7_runToRoundEnd_19 : decode cX7_runToRoundEnd 19 = .ok (.if_icmp .ge 17, 3) := by decide +kernel
theorem dX7_runToRoundEnd_22 : decode cX7_runToRoundEnd 22 = .ok (.iload_n 2, 1) := by decide +kernel
theorem dX7_runToRoundEnd_23 : decode cX7_runToRoundEnd 23 = .ok (.aload_n 0, 1) := by decide +kernel
theorem dX7_runToRoundEnd_24 : decode cX7_runToRoundEnd 24 = .ok (.aload_n 1, 1) := by decide +kernel
theorem dX7_runToRoundEnd_25 : decode cX7_runToRoundEnd 25 = .ok (.invokevirtual 70, 3) := by decide +kernel
theorem dX7_runToRoundEnd_28 : decode cX7_runToRoundEnd 28 = .ok (.iadd, 1) := by decide +kernel
theorem dX7_runToRoundEnd_29 : decode cX7_runToRoundEnd 29 = .ok (.istore_n 2, 1) := by decide +kernel
theorem dX7_runToRoundEnd_30 : decode cX7_runToRoundEnd 30 = .ok (.iinc 3 1, 3) := by decide +kernel
theorem dX7_runToRoundEnd_33 : decode cX7_runToRoundEnd 33 = .ok (.goto (-16), 3) := by decide +kernel
theorem dX7_runToRoundEnd_36 : decode cX7_runToRoundEnd 36 = .ok (.iload_n 2, 1) := by decide +kernel
theorem dX7_runToRoundEnd_37 : decode cX7_runToRoundEnd 37 = .ok (.ireturn, 1) := by decide +kernel
theorem dX7_cartInTurn_0 : decode cX7_cartInTurn 0 = .ok (.iload_n 2, 1) := by decide +kernel
theorem dX7_cartInTurn_1 : decode cX7_cartInTurn 1 = .ok (.aload_n 0, 1) := by decide +kernel
theorem dX7_cartInTurn_2 : decode cX7_cartInTurn 2 = .ok (.getfield 12, 3) := by decide +kernel
theorem dX7_cartInTurn_5 : decode cX7_cartInTurn 5 = .ok (.aload_n 1, 1) := by decide +kernel
theorem dX7_cartInTurn_6 : decode cX7_cartInTurn 6 = .ok (.invokevirtual 36, 3) := by decide +kernel
theorem dX7_cartInTurn_9 : decode cX7_cartInTurn 9 = .ok (.if_icmp .ge 15, 3) := by decide +kernel
theorem dX7_cartInTurn_12 : decode cX7_cartInTurn 12 = .ok (.aload_n 0, 1) := by decide +kernel
theorem dX7_cartInTurn_13 : decode cX7_cartInTurn 13 = .ok (.getfield 12, 3) := by decide +kernel
theorem dX7_cartInTurn_16 : decode cX7_cartInTurn 16 = .ok (.getfield 40, 3) := by decide +kernel
theorem dX7_cartInTurn_19 : decode cX7_cartInTurn 19 = .ok (.iload_n 2, 1) := by decide +kernel
theorem dX7_cartInTurn_20 : decode cX7_cartInTurn 20 = .ok (.iaload, 1) := by decide +kernel
theorem dX7_cartInTurn_21 : decode cX7_cartInTurn 21 = .ok (.goto 5, 3) := by decide +kernel
theorem dX7_cartInTurn_24 : decode cX7_cartInTurn 24 = .ok (.ldc 73, 2) := by decide +kernel
theorem dX7_cartInTurn_26 : decode cX7_cartInTurn 26 = .ok (.ireturn, 1) := by decide +kernel
theorem dX8_init_0 : decode cX8_init 0 = .ok (.aload_n 0, 1) := by decide +kernel
theorem dX8_init_1 : decode cX8_init 1 = .ok (.invokespecial 3, 3) := by decide +kernel
theorem dX8_init_4 : decode cX8_init 4 = .ok (.aload_n 0, 1) := by decide +kernel
theorem dX8_init_5 : decode cX8_init 5 = .ok (.new 9, 3) := by decide +kernel
theorem dX8_init_8 : decode cX8_init 8 = .ok (.dup, 1) := by decide +kernel
theorem dX8_init_9 : decode cX8_init 9 = .ok (.invokespecial 11, 3) := by decide +kernel
theorem dX8_init_12 : decode cX8_init 12 = .ok (.putfield 12, 3) := by decide +kernel
theorem dX8_init_15 : decode cX8_init 15 = .ok (.aload_n 0, 1) := by decide +kernel
theorem dX8_init_16 : decode cX8_init 16 = .ok (.iconst 4, 1) := by decide +kernel
theorem dX8_init_17 : decode cX8_init 17 = .ok (.anewarray 18, 3) := by decide +kernel
theorem dX8_init_20 : decode cX8_init 20 = .ok (.dup, 1) := by decide +kernel
theorem dX8_init_21 : decode cX8_init 21 = .ok (.iconst 0, 1) := by decide +kernel
theorem dX8_init_22 : decode cX8_init 22 = .ok (.new 18, 3) := by decide +kernel
theorem dX8_init_25 : decode cX8_init 25 = .ok (.dup, 1) := by decide +kernel
theorem dX8_init_26 : decode cX8_init 26 = .ok (.invokespecial 20, 3) := by decide +kernel
theorem dX8_init_29 : decode cX8_init 29 = .ok (.aastore, 1) := by decide +kernel
theorem dX8_init_30 : decode cX8_init 30 = .ok (.dup, 1) := by decide +kernel
theorem dX8_init_31 : decode cX8_init 31 = .ok (.iconst 1, 1) := by decide +kernel
theorem dX8_init_32 : decode cX8_init 32 = .ok (.new 18, 3) := by decide +kernel
theorem dX8_init_35 : decode cX8_init 35 = .ok (.dup, 1) := by decide +kernel
theorem dX8_init_36 : decode cX8_init 36 = .ok (.invokespecial 20, 3) := by decide +kernel
theorem dX8_init_39 : decode cX8_init 39 = .ok (.aastore, 1) := by decide +kernel
theorem dX8_init_40 : decode cX8_init 40 = .ok (.dup, 1) := by decide +kernel
theorem dX8_init_41 : decode cX8_init 41 = .ok (.iconst 2, 1) := by decide +kernel
theorem dX8_init_42 : decode cX8_init 42 = .ok (.new 18, 3) := by decide +kernel
theorem dX8_init_45 : decode cX8_init 45 = .ok (.dup, 1) := by decide +kernel
theorem dX8_init_46 : decode cX8_init 46 = .ok (.invokespecial 20, 3) := by decide +kernel
theorem dX8_init_49 : decode cX8_init 49 = .ok (.aastore, 1) := by decide +kernel
theorem dX8_init_50 : decode cX8_init 50 = .ok (.dup, 1) := by decide +kernel
theorem dX8_init_51 : decode cX8_init 51 = .ok (.iconst 3, 1) := by decide +kernel
theorem dX8_init_52 : decode cX8_init 52 = .ok (.new 18, 3) := by decide +kernel
theorem dX8_init_55 : decode cX8_init 55 = .ok (.dup, 1) := by decide +kernel
theorem dX8_init_56 : decode cX8_init 56 = .ok (.invokespecial 20, 3) := by decide +kernel
theorem dX8_init_59 : decode cX8_init 59 = .ok (.aastore, 1) := by decide +kernel
theorem dX8_init_60 : decode cX8_init 60 = .ok (.putfield 21, 3) := by decide +kernel
theorem dX8_init_63 : decode cX8_init 63 = .ok (.aload_n 0, 1) := by decide +kernel
theorem dX8_init_64 : decode cX8_init 64 = .ok (.iconst (-1), 1) := by decide +kernel
theorem dX8_init_65 : decode cX8_init 65 = .ok (.putfield 25, 3) := by decide +kernel
theorem dX8_init_68 : decode cX8_init 68 = .ok (.return_, 1) := by decide +kernel
theorem dX8_copyFrom_0 : decode cX8_copyFrom 0 = .ok (.aload_n 0, 1) := by decide +kernel
theorem dX8_copyFrom_1 : decode cX8_copyFrom 1 = .ok (.getfield 12, 3) := by decide +kernel
theorem dX8_copyFrom_4 : decode cX8_copyFrom 4 = .ok (.aload_n 1, 1) := by decide +kernel
theorem dX8_copyFrom_5 : decode cX8_copyFrom 5 = .ok (.getfield 12, 3) := by decide +kernel
theorem dX8_copyFrom_8 : decode cX8_copyFrom 8 = .ok (.invokevirtual 29, 3) := by decide +kernel
theorem dX8_copyFrom_11 : decode cX8_copyFrom 11 = .ok (.iconst 0, 1) := by decide +kernel
theorem dX8_copyFrom_12 : decode cX8_copyFrom 12 = .ok (.istore_n 2, 1) := by decide +kernel
theorem dX8_copyFrom_13 : decode cX8_copyFrom 13 = .ok (.iload_n 2, 1) := by decide +kernel
theorem dX8_copyFrom_14 : decode cX8_copyFrom 14 = .ok (.iconst 4, 1) := by decide +kernel
theorem dX8_copyFrom_15 : decode cX8_copyFrom 15 = .ok (.if_icmp .ge 24, 3) := by decide +kernel
theorem dX8_copyFrom_18 : decode cX8_copyFrom 18 = .ok (.aload_n 0, 1) := by decide +kernel
theorem dX8_copyFrom_19 : decode cX8_copyFrom 19 = .ok (.getfield 21, 3) := by decide +kernel
theorem dX8_copyFrom_22 : decode cX8_copyFrom 22 = .ok (.iload_n 2, 1) := by decide +kernel
theorem dX8_copyFrom_23 : decode cX8_copyFrom 23 = .ok (.aaload, 1) := by decide +kernel
theorem dX8_copyFrom_24 : decode cX8_copyFrom 24 = .ok (.aload_n 1, 1) := by decide +kernel
theorem dX8_copyFrom_25 : decode cX8_copyFrom 25 = .ok (.getfield 21, 3) := by decide +kernel
theorem dX8_copyFrom_28 : decode cX8_copyFrom 28 = .ok (.iload_n 2, 1) := by decide +kernel
theorem dX8_copyFrom_29 : decode cX8_copyFrom 29 = .ok (.aaload, 1) := by decide +kernel
theorem dX8_copyFrom_30 : decode cX8_copyFrom 30 = .ok (.invokevirtual 33, 3) := by decide +kernel
theorem dX8_copyFrom_33 : decode cX8_copyFrom 33 = .ok (.iinc 2 1, 3) := by decide +kernel
theorem dX8_copyFrom_36 : decode cX8_copyFrom 36 = .ok (.goto (-23), 3) := by decide +kernel
theorem dX8_copyFrom_39 : decode cX8_copyFrom 39 = .ok (.aload_n 0, 1) := by decide +kernel
theorem dX8_copyFrom_40 : decode cX8_copyFrom 40 = .ok (.aload_n 1, 1) := by decide +kernel
theorem dX8_copyFrom_41 : decode cX8_copyFrom 41 = .ok (.getfield 36, 3) := by decide +kernel
theorem dX8_copyFrom_44 : decode cX8_copyFrom 44 = .ok (.putfield 36, 3) := by decide +kernel
theorem dX8_copyFrom_47 : decode cX8_copyFrom 47 = .ok (.aload_n 0, 1) := by decide +kernel
theorem dX8_copyFrom_48 : decode cX8_copyFrom 48 = .ok (.aload_n 1, 1) := by decide +kernel
theorem dX8_copyFrom_49 : decode cX8_copyFrom 49 = .ok (.getfield 39, 3) := by decide +kernel
theorem dX8_copyFrom_52 : decode cX8_copyFrom 52 = .ok (.putfield 39, 3) := by decide +kernel
theorem dX8_copyFrom_55 : decode cX8_copyFrom 55 = .ok (.aload_n 0, 1) := by decide +kernel
theorem dX8_copyFrom_56 : decode cX8_copyFrom 56 = .ok (.aload_n 1, 1) := by decide +kernel
theorem dX8_copyFrom_57 : decode cX8_copyFrom 57 = .ok (.getfield 42, 3) := by decide +kernel
theorem dX8_copyFrom_60 : decode cX8_copyFrom 60 = .ok (.putfield 42, 3) := by decide +kernel
theorem dX8_copyFrom_63 : decode cX8_copyFrom 63 = .ok (.aload_n 0, 1) := by decide +kernel
theorem dX8_copyFrom_64 : decode cX8_copyFrom 64 = .ok (.aload_n 1, 1) := by decide +kernel
theorem dX8_copyFrom_65 : decode cX8_copyFrom 65 = .ok (.getfield 45, 3) := by decide +kernel
theorem dX8_copyFrom_68 : decode cX8_copyFrom 68 = .ok (.putfield 45, 3) := by decide +kernel
theorem dX8_copyFrom_71 : decode cX8_copyFrom 71 = .ok (.aload_n 0, 1) := by decide +kernel
theorem dX8_copyFrom_72 : decode cX8_copyFrom 72 = .ok (.aload_n 1, 1) := by decide +kernel
theorem dX8_copyFrom_73 : decode cX8_copyFrom 73 = .ok (.getfield 48, 3) := by decide +kernel
theorem dX8_copyFrom_76 : decode cX8_copyFrom 76 = .ok (.putfield 48, 3) := by decide +kernel
theorem dX8_copyFrom_79 : decode cX8_copyFrom 79 = .ok (.aload_n 0, 1) := by decide +kernel
theorem dX8_copyFrom_80 : decode cX8_copyFrom 80 = .ok (.aload_n 1, 1) := by decide +kernel
theorem dX8_copyFrom_81 : decode cX8_copyFrom 81 = .ok (.getfield 25, 3) := by decide +kernel
theorem dX8_copyFrom_84 : decode cX8_copyFrom 84 = .ok (.putfield 25, 3) := by decide +kernel
theorem dX8_copyFrom_87 : decode cX8_copyFrom 87 = .ok (.return_, 1) := by decide +kernel
theorem dX8_hasCart_0 : decode cX8_hasCart 0 = .ok (.iload_n 1, 1) := by decide +kernel
theorem dX8_hasCart_1 : decode cX8_hasCart 1 = .ok (.ifCond .lt 15, 3) := by decide +kernel
theorem dX8_hasCart_4 : decode cX8_hasCart 4 = .ok (.iload_n 1, 1) := by decide +kernel
theorem dX8_hasCart_5 : decode cX8_hasCart 5 = .ok (.aload_n 0, 1) := by decide +kernel
theorem dX8_hasCart_6 : decode cX8_hasCart 6 = .ok (.getfield 36, 3) := by decide +kernel
theorem dX8_hasCart_9 : decode cX8_hasCart 9 = .ok (.if_icmp .ge 7, 3) := by decide +kernel
theorem dX8_hasCart_12 : decode cX8_hasCart 12 = .ok (.iconst 1, 1) := by decide +kernel
theorem dX8_hasCart_13 : decode cX8_hasCart 13 = .ok (.goto 4, 3) := by decide +kernel
theorem dX8_hasCart_16 : decode cX8_hasCart 16 = .ok (.iconst 0, 1) := by decide +kernel
theorem dX8_hasCart_17 : decode cX8_hasCart 17 = .ok (.ireturn, 1) := by decide +kernel
theorem dX8_cartOn_0 : decode cX8_cartOn 0 = .ok (.iconst 0, 1) := by decide +kernel
theorem dX8_cartOn_1 : decode cX8_cartOn 1 = .ok (.istore_n 2, 1) := by decide +kernel
theorem dX8_cartOn_2 : decode cX8_cartOn 2 = .ok (.iload_n 2, 1) := by decide +kernel
theorem dX8_cartOn_3 : decode cX8_cartOn 3 = .ok (.aload_n 0, 1) := by decide +kernel
theorem dX8_cartOn_4 : decode cX8_cartOn 4 = .ok (.getfield 36, 3) := by decide +kernel
theorem dX8_cartOn_7 : decode cX8_cartOn 7 = .ok (.if_icmp .ge 29, 3) := by decide +kernel
theorem dX8_cartOn_10 : decode cX8_cartOn 10 = .ok (.aload_n 0, 1) := by decide +kernel
theorem dX8_cartOn_11 : decode cX8_cartOn 11 = .ok (.getfield 21, 3) := by decide +kernel
theorem dX8_cartOn_14 : decode cX8_cartOn 14 = .ok (.iload_n 2, 1) := by decide +kernel
theorem dX8_cartOn_15 : decode cX8_cartOn 15 = .ok (.aaload, 1) := by decide +kernel
theorem dX8_cartOn_16 : decode cX8_cartOn 16 = .ok (.getfield 51, 3) := by decide +kernel
theorem dX8_cartOn_19 : decode cX8_cartOn 19 = .ok (.iload_n 1, 1) := by decide +kernel
theorem dX8_cartOn_20 : decode cX8_cartOn 20 = .ok (.if_icmp .ne 10, 3) := by decide +kernel
theorem dX8_cartOn_23 : decode cX8_cartOn 23 = .ok (.iload_n 1, 1) := by decide +kernel
theorem dX8_cartOn_24 : decode cX8_cartOn 24 = .ok (.iconst (-1), 1) := by decide +kernel
theorem dX8_cartOn_25 : decode cX8_cartOn 25 = .ok (.if_icmp .eq 5, 3) := by decide +kernel
theorem dX8_cartOn_28 : decode cX8_cartOn 28 = .ok (.iload_n 2, 1) := by decide +kernel
theorem dX8_cartOn_29 : decode cX8_cartOn 29 = .ok (.ireturn, 1) := by decide +kernel
theorem dX8_cartOn_30 : decode cX8_cartOn 30 = .ok (.iinc 2 1, 3) := by decide +kernel
theorem dX8_cartOn_33 : decode cX8_cartOn 33 = .ok (.goto (-31), 3) := by decide +kernel
theorem dX8_cartOn_36 : decode cX8_cartOn 36 = .ok (.iconst (-1), 1) := by decide +kernel
theorem dX8_cartOn_37 : decode cX8_cartOn 37 = .ok (.ireturn, 1) := by decide +kernel
theorem dX8_cartsOut_0 : decode cX8_cartsOut 0 = .ok (.iconst 0, 1) := by decide +kernel
theorem dX8_cartsOut_1 : decode cX8_cartsOut 1 = .ok (.istore_n 1, 1) := by decide +kernel
theorem dX8_cartsOut_2 : decode cX8_cartsOut 2 = .ok (.iconst 0, 1) := by decide +kernel
theorem dX8_cartsOut_3 : decode cX8_cartsOut 3 = .ok (.istore_n 2, 1) := by decide +kernel
theorem dX8_cartsOut_4 : decode cX8_cartsOut 4 = .ok (.iload_n 2, 1) := by decide +kernel
theorem dX8_cartsOut_5 : decode cX8_cartsOut 5 = .ok (.aload_n 0, 1) := by decide +kernel
theorem dX8_cartsOut_6 : decode cX8_cartsOut 6 = .ok (.getfield 36, 3) := by decide +kernel
theorem dX8_cartsOut_9 : decode cX8_cartsOut 9 = .ok (.if_icmp .ge 24, 3) := by decide +kernel
theorem dX8_cartsOut_12 : decode cX8_cartsOut 12 = .ok (.aload_n 0, 1) := by decide +kernel
theorem dX8_cartsOut_13 : decode cX8_cartsOut 13 = .ok (.getfield 21, 3) := by decide +kernel
theorem dX8_cartsOut_16 : decode cX8_cartsOut 16 = .ok (.iload_n 2, 1) := by decide +kernel
theorem dX8_cartsOut_17 : decode cX8_cartsOut 17 = .ok (.aaload, 1) := by decide +kernel
theorem dX8_cartsOut_18 : decode cX8_cartsOut 18 = .ok (.invokevirtual 54, 3) := by decide +kernel
theorem dX8_cartsOut_21 : decode cX8_cartsOut 21 = .ok (.ifCond .eq 6, 3) := by decide +kernel
theorem dX8_cartsOut_24 : decode cX8_cartsOut 24 = .ok (.iinc 1 1, 3) := by decide +kernel
theorem dX8_cartsOut_27 : decode cX8_cartsOut 27 = .ok (.iinc 2 1, 3) := by decide +kernel
theorem dX8_cartsOut_30 : decode cX8_cartsOut 30 = .ok (.goto (-26), 3) := by decide +kernel
theorem dX8_cartsOut_33 : decode cX8_cartsOut 33 = .ok (.iload_n 1, 1) := by decide +kernel
theorem dX8_cartsOut_34 : decode cX8_cartsOut 34 = .ok (.ireturn, 1) := by decide +kernel
theorem dX8_timesOut_0 : decode cX8_timesOut 0 = .ok (.iconst 0, 1) := by decide +kernel
theorem dX8_timesOut_1 : decode cX8_timesOut 1 = .ok (.istore_n 1, 1) := by decide +kernel
theorem dX8_timesOut_2 : decode cX8_timesOut 2 = .ok (.iconst 0, 1) := by decide +kernel
theorem dX8_timesOut_3 : decode cX8_timesOut 3 = .ok (.istore_n 2, 1) := by decide +kernel
theorem dX8_timesOut_4 : decode cX8_timesOut 4 = .ok (.iload_n 2, 1) := by decide +kernel
theorem dX8_timesOut_5 : decode cX8_timesOut 5 = .ok (.aload_n 0, 1) := by decide +kernel
theorem dX8_timesOut_6 : decode cX8_timesOut 6 = .ok (.getfield 36, 3) := by decide +kernel
theorem dX8_timesOut_9 : decode cX8_timesOut 9 = .ok (.if_icmp .ge 21, 3) := by decide +kernel
theorem dX8_timesOut_12 : decode cX8_timesOut 12 = .ok (.iload_n 1, 1) := by decide +kernel
theorem dX8_timesOut_13 : decode cX8_timesOut 13 = .ok (.aload_n 0, 1) := by decide +kernel
theorem dX8_timesOut_14 : decode cX8_timesOut 14 = .ok (.getfield 21, 3) := by decide +kernel
theorem dX8_timesOut_17 : decode cX8_timesOut 17 = .ok (.iload_n 2, 1) := by decide +kernel
theorem dX8_timesOut_18 : decode cX8_timesOut 18 = .ok (.aaload, 1) := by decide +kernel
theorem dX8_timesOut_19 : decode cX8_timesOut 19 = .ok (.getfield 58, 3) := by decide +kernel
theorem dX8_timesOut_22 : decode cX8_timesOut 22 = .ok (.iadd, 1) := by decide +kernel
theorem dX8_timesOut_23 : decode cX8_timesOut 23 = .ok (.istore_n 1, 1) := by decide +kernel
theorem dX8_timesOut_24 : decode cX8_timesOut 24 = .ok (.iinc 2 1, 3) := by decide +kernel
theorem dX8_timesOut_27 : decode cX8_timesOut 27 = .ok (.goto (-23), 3) := by decide +kernel
theorem dX8_timesOut_30 : decode cX8_timesOut 30 = .ok (.iload_n 1, 1) := by decide +kernel
theorem dX8_timesOut_31 : decode cX8_timesOut 31 = .ok (.ireturn, 1) := by decide +kernel
theorem dX8_cellValue_0 : decode cX8_cellValue 0 = .ok (.iload_n 2, 1) := by decide +kernel
theorem dX8_cellValue_1 : decode cX8_cellValue 1 = .ok (.tableswitch 65 0 2 #[27, 36, 45], 27) := by decide +kernel
theorem dX8_cellValue_28 : decode cX8_cellValue 28 = .ok (.aload_n 0, 1) := by decide +kernel
theorem dX8_cellValue_29 : decode cX8_cellValue 29 = .ok (.getfield 12, 3) := by decide +kernel
theorem dX8_cellValue_32 : decode cX8_cellValue 32 = .ok (.iload_n 1, 1) := by decide +kernel
theorem dX8_cellValue_33 : decode cX8_cellValue 33 = .ok (.invokevirtual 61, 3) := by decide +kernel
theorem dX8_cellValue_36 : decode cX8_cellValue 36 = .ok (.ireturn, 1) := by decide +kernel
theorem dX8_cellValue_37 : decode cX8_cellValue 37 = .ok (.aload_n 0, 1) := by decide +kernel
theorem dX8_cellValue_38 : decode cX8_cellValue 38 = .ok (.getfield 12, 3) := by decide +kernel
theorem dX8_cellValue_41 : decode cX8_cellValue 41 = .ok (.iload_n 1, 1) := by decide +kernel
theorem dX8_cellValue_42 : decode cX8_cellValue 42 = .ok (.invokevirtual 65, 3) := by decide +kernel
theorem dX8_cellValue_45 : decode cX8_cellValue 45 = .ok (.ireturn, 1) := by decide +kernel
theorem dX8_cellValue_46 : decode cX8_cellValue 46 = .ok (.aload_n 0, 1) := by decide +kernel
theorem dX8_cellValue_47 : decode cX8_cellValue 47 = .ok (.iload_n 1, 1) := by decide +kernel
theorem dX8_cellValue_48 : decode cX8_cellValue 48 = .ok (.invokevirtual 68, 3) := by decide +kernel
theorem dX8_cellValue_51 : decode cX8_cellValue 51 = .ok (.iconst (-1), 1) := by decide +kernel
theorem dX8_cellValue_52 : decode cX8_cellValue 52 = .ok (.if_icmp .ne 8, 3) := by decide +kernel
theorem dX8_cellValue_55 : decode cX8_cellValue 55 = .ok (.ldc 71, 2) := by decide +kernel
theorem dX8_cellValue_57 : decode cX8_cellValue 57 = .ok (.goto 8, 3) := by decide +kernel
theorem dX8_cellValue_60 : decode cX8_cellValue 60 = .ok (.aload_n 0, 1) := by decide +kernel
theorem dX8_cellValue_61 : decode cX8_cellValue 61 = .ok (.iload_n 1, 1) := by decide +kernel
theorem dX8_cellValue_62 : decode cX8_cellValue 62 = .ok (.invokevirtual 68, 3) := by decide +kernel
theorem dX8_cellValue_65 : decode cX8_cellValue 65 = .ok (.ireturn, 1) := by decide +kernel
theorem dX8_cellValue_66 : decode cX8_cellValue 66 = .ok (.aload_n 0, 1) := by decide +kernel
theorem dX8_cellValue_67 : decode cX8_cellValue 67 = .ok (.getfield 12, 3) := by decide +kernel
theorem dX8_cellValue_70 : decode cX8_cellValue 70 = .ok (.iload_n 1, 1) := by decide +kernel
theorem dX8_cellValue_71 : decode cX8_cellValue 71 = .ok (.invokevirtual 72, 3) := by decide +kernel
theorem dX8_cellValue_74 : decode cX8_cellValue 74 = .ok (.ireturn, 1) := by decide +kernel
theorem dX8_setKind_0 : decode cX8_setKind 0 = .ok (.iload_n 1, 1) := by decide +kernel
theorem dX8_setKind_1 : decode cX8_setKind 1 = .ok (.invokestatic 75, 3) := by decide +kernel
theorem dX8_setKind_4 : decode cX8_setKind 4 = .ok (.ifCond .eq 13, 3) := by decide +kernel
theorem dX8_setKind_7 : decode cX8_setKind 7 = .ok (.iload_n 2, 1) := by decide +kernel
theorem dX8_setKind_8 : decode cX8_setKind 8 = .ok (.iconst 0, 1) := by decide +kernel
theorem dX8_setKind_9 : decode cX8_setKind 9 = .ok (.bipush 8, 2) := by decide +kernel
theorem dX8_setKind_11 : decode cX8_setKind 11 = .ok (.invokestatic 79, 3) := by decide +kernel
theorem dX8_setKind_14 : decode cX8_setKind 14 = .ok (.ifCond .ne 6, 3) := by decide +kernel
theorem dX8_setKind_17 : decode cX8_setKind 17 = .ok (.ldc 83, 2) := by decide +kernel
theorem dX8_setKind_19 : decode cX8_setKind 19 = .ok (.ireturn, 1) := by decide +kernel
theorem dX8_setKind_20 : decode cX8_setKind 20 = .ok (.iload_n 2, 1) := by decide +kernel
theorem dX8_setKind_21 : decode cX8_setKind 21 = .ok (.bipush 7, 2) := by decide +kernel
theorem dX8_setKind_23 : decode cX8_setKind 23 = .ok (.if_icmp .ne 15, 3) := by decide +kernel
theorem dX8_setKind_26 : decode cX8_setKind 26 = .ok (.aload_n 0, 1) := by decide +kernel
theorem dX8_setKind_27 : decode cX8_setKind 27 = .ok (.iload_n 1, 1) := by decide +kernel
theorem dX8_setKind_28 : decode cX8_setKind 28 = .ok (.invokevirtual 68, 3) := by decide +kernel
theorem dX8_setKind_31 : decode cX8_setKind 31 = .ok (.iconst (-1), 1) := by decide +kernel
theorem dX8_setKind_32 : decode cX8_setKind 32 = .ok (.if_icmp .eq 6, 3) := by decide +kernel
theorem dX8_setKind_35 : decode cX8_setKind 35 = .ok (.ldc 84, 2) := by decide +kernel
theorem dX8_setKind_37 : decode cX8_setKind 37 = .ok (.ireturn, 1) := by decide +kernel
theorem dX8_setKind_38 : decode cX8_setKind 38 = .ok (.aload_n 0, 1) := by decide +kernel
theorem dX8_setKind_39 : decode cX8_setKind 39 = .ok (.getfield 12, 3) := by decide +kernel
theorem dX8_setKind_42 : decode cX8_setKind 42 = .ok (.getfield 85, 3) := by decide +kernel
theorem dX8_setKind_45 : decode cX8_setKind 45 = .ok (.iload_n 1, 1) := by decide +kernel
theorem dX8_setKind_46 : decode cX8_setKind 46 = .ok (.iaload, 1) := by decide +kernel
theorem dX8_setKind_47 : decode cX8_setKind 47 = .ok (.istore_n 3, 1) := by decide +kernel
theorem dX8_setKind_48 : decode cX8_setKind 48 = .ok (.aload_n 0, 1) := by decide +kernel
theorem dX8_setKind_49 : decode cX8_setKind 49 = .ok (.getfield 12, 3) := by decide +kernel
theorem dX8_setKind_52 : decode cX8_setKind 52 = .ok (.getfield 85, 3) := by decide +kernel
theorem dX8_setKind_55 : decode cX8_setKind 55 = .ok (.iload_n 1, 1) := by decide +kernel
theorem dX8_setKind_56 : decode cX8_setKind 56 = .ok (.iload_n 2, 1) := by decide +kernel
theorem dX8_setKind_57 : decode cX8_setKind 57 = .ok (.iastore, 1) := by decide +kernel
theorem dX8_setKind_58 : decode cX8_setKind 58 = .ok (.iload_n 3, 1) := by decide +kernel
theorem dX8_setKind_59 : decode cX8_setKind 59 = .ok (.ireturn, 1) := by decide +kernel
theorem dX8_flipWall_0 : decode cX8_flipWall 0 = .ok (.iload_n 1, 1) := by decide +kernel
theorem dX8_flipWall_1 : decode cX8_flipWall 1 = .ok (.invokestatic 75, 3) := by decide +kernel
theorem dX8_flipWall_4 : decode cX8_flipWall 4 = .ok (.ifCond .eq 10, 3) := by decide +kernel
theorem dX8_flipWall_7 : decode cX8_flipWall 7 = .ok (.iload_n 2, 1) := by decide +kernel
theorem dX8_flipWall_8 : decode cX8_flipWall 8 = .ok (.invokestatic 89, 3) := by decide +kernel
theorem dX8_flipWall_11 : decode cX8_flipWall 11 = .ok (.ifCond .ne 6, 3) := by decide +kernel
theorem dX8_flipWall_14 : decode cX8_flipWall 14 = .ok (.ldc 83, 2) := by decide +kernel
theorem dX8_flipWall_16 : decode cX8_flipWall 16 = .ok (.ireturn, 1) := by decide +kernel
theorem dX8_flipWall_17 : decode cX8_flipWall 17 = .ok (.aload_n 0, 1) := by decide +kernel
theorem dX8_flipWall_18 : decode cX8_flipWall 18 = .ok (.getfield 12, 3) := by decide +kernel
theorem dX8_flipWall_21 : decode cX8_flipWall 21 = .ok (.iload_n 1, 1) := by decide +kernel
theorem dX8_flipWall_22 : decode cX8_flipWall 22 = .ok (.iload_n 2, 1) := by decide +kernel
theorem dX8_flipWall_23 : decode cX8_flipWall 23 = .ok (.invokevirtual 92, 3) := by decide +kernel
theorem dX8_flipWall_26 : decode cX8_flipWall 26 = .ok (.aload_n 0, 1) := by decide +kernel
theorem dX8_flipWall_27 : decode cX8_flipWall 27 = .ok (.getfield 12, 3) := by decide +kernel
theorem dX8_flipWall_30 : decode cX8_flipWall 30 = .ok (.iload_n 1, 1) := by decide +kernel
theorem dX8_flipWall_31 : decode cX8_flipWall 31 = .ok (.iload_n 2, 1) := by decide +kernel
theorem dX8_flipWall_32 : decode cX8_flipWall 32 = .ok (.invokevirtual 96, 3) := by decide +kernel
theorem dX8_flipWall_35 : decode cX8_flipWall 35 = .ok (.ifCond .eq 7, 3) := by decide +kernel
theorem dX8_flipWall_38 : decode cX8_flipWall 38 = .ok (.iconst 1, 1) := by decide +kernel
theorem dX8_flipWall_39 : decode cX8_flipWall 39 = .ok (.goto 4, 3) := by decide +kernel
theorem dX8_flipWall_42 : decode cX8_flipWall 42 = .ok (.iconst 0, 1) := by decide +kernel
theorem dX8_flipWall_43 : decode cX8_flipWall 43 = .ok (.ireturn, 1) := by decide +kernel
theorem dX8_layFlag_0 : decode cX8_layFlag 0 = .ok (.iload_n 1, 1) := by decide +kernel
theorem dX8_layFlag_1 : decode cX8_layFlag 1 = .ok (.iconst 0, 1) := by decide +kernel
theorem dX8_layFlag_2 : decode cX8_layFlag 2 = .ok (.iconst 3, 1) := by decide +kernel
theorem dX8_layFlag_3 : decode cX8_layFlag 3 = .ok (.invokestatic 79, 3) := by decide +kernel
theorem dX8_layFlag_6 : decode cX8_layFlag 6 = .ok (.ifCond .eq 10, 3) := by decide +kernel
theorem dX8_layFlag_9 : decode cX8_layFlag 9 = .ok (.iload_n 2, 1) := by decide +kernel
theorem dX8_layFlag_10 : decode cX8_layFlag 10 = .ok (.invokestatic 75, 3) := by decide +kernel
theorem dX8_layFlag_13 : decode cX8_layFlag 13 = .ok (.ifCond .ne 6, 3) := by decide +kernel
theorem dX8_layFlag_16 : decode cX8_layFlag 16 = .ok (.ldc 83, 2) := by decide +kernel
theorem dX8_layFlag_18 : decode cX8_layFlag 18 = .ok (.ireturn, 1) := by decide +kernel
theorem dX8_layFlag_19 : decode cX8_layFlag 19 = .ok (.iload_n 1, 1) := by decide +kernel
theorem dX8_layFlag_20 : decode cX8_layFlag 20 = .ok (.aload_n 0, 1) := by decide +kernel
theorem dX8_layFlag_21 : decode cX8_layFlag 21 = .ok (.getfield 12, 3) := by decide +kernel
theorem dX8_layFlag_24 : decode cX8_layFlag 24 = .ok (.getfield 100, 3) := by decide +kernel
theorem dX8_layFlag_27 : decode cX8_layFlag 27 = .ok (.if_icmp .le 6, 3) := by decide +kernel
theorem dX8_layFlag_30 : decode cX8_layFlag 30 = .ok (.ldc 84, 2) := by decide +kernel
theorem dX8_layFlag_32 : decode cX8_layFlag 32 = .ok (.ireturn, 1) := by decide +kernel
theorem dX8_layFlag_33 : decode cX8_layFlag 33 = .ok (.aload_n 0, 1) := by decide +kernel
theorem dX8_layFlag_34 : decode cX8_layFlag 34 = .ok (.getfield 12, 3) := by decide +kernel
theorem dX8_layFlag_37 : decode cX8_layFlag 37 = .ok (.getfield 103, 3) := by decide +kernel
theorem dX8_layFlag_40 : decode cX8_layFlag 40 = .ok (.iload_n 1, 1) := by decide +kernel
theorem dX8_layFlag_41 : decode cX8_layFlag 41 = .ok (.iload_n 2, 1) := by decide +kernel
theorem dX8_layFlag_42 : decode cX8_layFlag 42 = .ok (.iastore, 1) := by decide +kernel
theorem dX8_layFlag_43 : decode cX8_layFlag 43 = .ok (.aload_n 0, 1) := by decide +kernel
theorem dX8_layFlag_44 : decode cX8_layFlag 44 = .ok (.getfield 12, 3) := by decide +kernel
theorem dX8_layFlag_47 : decode cX8_layFlag 47 = .ok (.aload_n 0, 1) := by decide +kernel
theorem dX8_layFlag_48 : decode cX8_layFlag 48 = .ok (.getfield 12, 3) := by decide +kernel
theorem dX8_layFlag_51 : decode cX8_layFlag 51 = .ok (.getfield 100, 3) := by decide +kernel
theorem dX8_layFlag_54 : decode cX8_layFlag 54 = .ok (.iload_n 1, 1) := by decide +kernel
theorem dX8_layFlag_55 : decode cX8_layFlag 55 = .ok (.iconst 1, 1) := by decide +kernel
theorem dX8_layFlag_56 : decode cX8_layFlag 56 = .ok (.iadd, 1) := by decide +kernel
theorem dX8_layFlag_57 : decode cX8_layFlag 57 = .ok (.invokestatic 106, 3) := by decide +kernel
theorem dX8_layFlag_60 : decode cX8_layFlag 60 = .ok (.putfield 100, 3) := by decide +kernel
theorem dX8_layFlag_63 : decode cX8_layFlag 63 = .ok (.aload_n 0, 1) := by decide +kernel
theorem dX8_layFlag_64 : decode cX8_layFlag 64 = .ok (.getfield 12, 3) := by decide +kernel
theorem dX8_layFlag_67 : decode cX8_layFlag 67 = .ok (.getfield 100, 3) := by decide +kernel
theorem dX8_layFlag_70 : decode cX8_layFlag 70 = .ok (.ireturn, 1) := by decide +kernel
theorem dX8_addCart_0 : decode cX8_addCart 0 = .ok (.iload_n 1, 1) := by decide +kernel
theorem dX8_addCart_1 : decode cX8_addCart 1 = .ok (.invokestatic 75, 3) := by decide +kernel
theorem dX8_addCart_4 : decode cX8_addCart 4 = .ok (.ifCond .eq 10, 3) := by decide +kernel
theorem dX8_addCart_7 : decode cX8_addCart 7 = .ok (.iload_n 2, 1) := by decide +kernel
theorem dX8_addCart_8 : decode cX8_addCart 8 = .ok (.invokestatic 89, 3) := by decide +kernel
theorem dX8_addCart_11 : decode cX8_addCart 11 = .ok (.ifCond .ne 6, 3) := by decide +kernel
theorem dX8_addCart_14 : decode cX8_addCart 14 = .ok (.ldc 83, 2) := by decide +kernel
theorem dX8_addCart_16 : decode cX8_addCart 16 = .ok (.ireturn, 1) := by decide +kernel
theorem dX8_addCart_17 : decode cX8_addCart 17 = .ok (.aload_n 0, 1) := by decide +kernel
theorem dX8_addCart_18 : decode cX8_addCart 18 = .ok (.iload_n 1, 1) := by decide +kernel
theorem dX8_addCart_19 : decode cX8_addCart 19 = .ok (.invokevirtual 68, 3) := by decide +kernel
theorem dX8_addCart_22 : decode cX8_addCart 22 = .ok (.iconst (-1), 1) := by decide +kernel
theorem dX8_addCart_23 : decode cX8_addCart 23 = .ok (.if_icmp .ne 14, 3) := by decide +kernel
theorem dX8_addCart_26 : decode cX8_addCart 26 = .ok (.aload_n 0, 1) := by decide +kernel
theorem dX8_addCart_27 : decode cX8_addCart 27 = .ok (.getfield 12, 3) := by decide +kernel
theorem dX8_addCart_30 : decode cX8_addCart 30 = .ok (.iload_n 1, 1) := by decide +kernel
theorem dX8_addCart_31 : decode cX8_addCart 31 = .ok (.invokevirtual 112, 3) := by decide +kernel
theorem dX8_addCart_34 : decode cX8_addCart 34 = .ok (.ifCond .eq 6, 3) := by decide +kernel
theorem dX8_addCart_37 : decode cX8_addCart 37 = .ok (.ldc 84, 2) := by decide +kernel
theorem dX8_addCart_39 : decode cX8_addCart 39 = .ok (.ireturn, 1) := by decide +kernel
theorem dX8_addCart_40 : decode cX8_addCart 40 = .ok (.aload_n 0, 1) := by decide +kernel
theorem dX8_addCart_41 : decode cX8_addCart 41 = .ok (.getfield 36, 3) := by decide +kernel
theorem dX8_addCart_44 : decode cX8_addCart 44 = .ok (.iconst 4, 1) := by decide +kernel
theorem dX8_addCart_45 : decode cX8_addCart 45 = .ok (.if_icmp .lt 6, 3) := by decide +kernel
theorem dX8_addCart_48 : decode cX8_addCart 48 = .ok (.ldc 115, 2) := by decide +kernel
theorem dX8_addCart_50 : decode cX8_addCart 50 = .ok (.ireturn, 1) := by decide +kernel
theorem dX8_addCart_51 : decode cX8_addCart 51 = .ok (.aload_n 0, 1) := by decide +kernel
theorem dX8_addCart_52 : decode cX8_addCart 52 = .ok (.getfield 21, 3) := by decide +kernel
theorem dX8_addCart_55 : decode cX8_addCart 55 = .ok (.aload_n 0, 1) := by decide +kernel
theorem dX8_addCart_56 : decode cX8_addCart 56 = .ok (.getfield 36, 3) := by decide +kernel
theorem dX8_addCart_59 : decode cX8_addCart 59 = .ok (.aaload, 1) := by decide +kernel
theorem dX8_addCart_60 : decode cX8_addCart 60 = .ok (.iload_n 1, 1) := by decide +kernel
theorem dX8_addCart_61 : decode cX8_addCart 61 = .ok (.iload_n 2, 1) := by decide +kernel
theorem dX8_addCart_62 : decode cX8_addCart 62 = .ok (.invokevirtual 116, 3) := by decide +kernel
theorem dX8_addCart_65 : decode cX8_addCart 65 = .ok (.aload_n 0, 1) := by decide +kernel
theorem dX8_addCart_66 : decode cX8_addCart 66 = .ok (.dup, 1) := by decide +kernel
theorem dX8_addCart_67 : decode cX8_addCart 67 = .ok (.getfield 36, 3) := by decide +kernel
theorem dX8_addCart_70 : decode cX8_addCart 70 = .ok (.iconst 1, 1) := by decide +kernel
theorem dX8_addCart_71 : decode cX8_addCart 71 = .ok (.iadd, 1) := by decide +kernel
theorem dX8_addCart_72 : decode cX8_addCart 72 = .ok (.putfield 36, 3) := by decide +kernel
theorem dX8_addCart_75 : decode cX8_addCart 75 = .ok (.aload_n 0, 1) := by decide +kernel
theorem dX8_addCart_76 : decode cX8_addCart 76 = .ok (.getfield 36, 3) := by decide +kernel
theorem dX8_addCart_79 : decode cX8_addCart 79 = .ok (.iconst 1, 1) := by decide +kernel
theorem dX8_addCart_80 : decode cX8_addCart 80 = .ok (.isub, 1) := by decide +kernel
theorem dX8_addCart_81 : decode cX8_addCart 81 = .ok (.ireturn, 1) := by decide +kernel
theorem dX8_layCard_0 : decode cX8_layCard 0 = .ok (.aload_n 0, 1) := by decide +kernel
theorem dX8_layCard_1 : decode cX8_layCard 1 = .ok (.iload_n 1, 1) := by decide +kernel
theorem dX8_layCard_2 : decode cX8_layCard 2 = .ok (.invokevirtual 119, 3) := by decide +kernel
theorem dX8_layCard_5 : decode cX8_layCard 5 = .ok (.ifCond .eq 32, 3) := by decide +kernel
theorem dX8_layCard_8 : decode cX8_layCard 8 = .ok (.iload_n 2, 1) := by decide +kernel
theorem dX8_layCard_9 : decode cX8_layCard 9 = .ok (.invokestatic 122, 3) := by decide +kernel
theorem dX8_layCard_12 : decode cX8_layCard 12 = .ok (.ifCond .eq 25, 3) := by decide +kernel
theorem dX8_layCard_15 : decode cX8_layCard 15 = .ok (.iload_n 3, 1) := by decide +kernel
theorem dX8_layCard_16 : decode cX8_layCard 16 = .ok (.iconst 0, 1) := by decide +kernel
theorem dX8_layCard_17 : decode cX8_layCard 17 = .ok (.bipush 6, 2) := by decide +kernel
theorem dX8_layCard_19 : decode cX8_layCard 19 = .ok (.invokestatic 79, 3) := by decide +kernel
theorem dX8_layCard_22 : decode cX8_layCard 22 = .ok (.ifCond .eq 15, 3) := by decide +kernel
theorem dX8_layCard_25 : decode cX8_layCard 25 = .ok (.iload 4, 2) := by decide +kernel
theorem dX8_layCard_27 : decode cX8_layCard 27 = .ok (.iconst 1, 1) := by decide +kernel
theorem dX8_layCard_28 : decode cX8_layCard 28 = .ok (.sipush 999, 3) := by decide +kernel
theorem dX8_layCard_31 : decode cX8_layCard 31 = .ok (.invokestatic 79, 3) := by decide +kernel
theorem dX8_layCard_34 : decode cX8_layCard 34 = .ok (.ifCond .ne 6, 3) := by decide +kernel
theorem dX8_layCard_37 : decode cX8_layCard 37 = .ok (.ldc 83, 2) := by decide +kernel
theorem dX8_layCard_39 : decode cX8_layCard 39 = .ok (.ireturn, 1) := by decide +kernel
theorem dX8_layCard_40 : decode cX8_layCard 40 = .ok (.aload_n 0, 1) := by decide +kernel
end
section
theorem dX8_layCard_41 : decode cX8_layCard 41 = .ok (.getfield 21, 3) := by decide +kernel
theorem dX8_layCard_44 : decode cX8_layCard 44 = .ok (.iload_n 1, 1) := by decide +kernel
theorem dX8_layCard_45 : decode cX8_layCard 45 = .ok (.aaload, 1) := by decide +kernel
theorem dX8_layCard_46 : decode cX8_layCard 46 = .ok (.astore 5, 2) := by decide +kernel
theorem dX8_layCard_48 : decode cX8_layCard 48 = .ok (.aload 5, 2) := by decide +kernel
theorem dX8_layCard_50 : decode cX8_layCard 50 = .ok (.iload_n 2, 1) := by decide +kernel
theorem dX8_layCard_51 : decode cX8_layCard 51 = .ok (.invokevirtual 125, 3) := by decide +kernel
theorem dX8_layCard_54 : decode cX8_layCard 54 = .ok (.ifCond .ne 19, 3) := by decide +kernel
theorem dX8_layCard_57 : decode cX8_layCard 57 = .ok (.aload 5, 2) := by decide +kernel
theorem dX8_layCard_59 : decode cX8_layCard 59 = .ok (.invokevirtual 54, 3) := by decide +kernel
theorem dX8_layCard_62 : decode cX8_layCard 62 = .ok (.ifCond .ne 11, 3) := by decide +kernel
theorem dX8_layCard_65 : decode cX8_layCard 65 = .ok (.iload_n 2, 1) := by decide +kernel
theorem dX8_layCard_66 : decode cX8_layCard 66 = .ok (.aload_n 0, 1) := by decide +kernel
theorem dX8_layCard_67 : decode cX8_layCard 67 = .ok (.getfield 39, 3) := by decide +kernel
theorem dX8_layCard_70 : decode cX8_layCard 70 = .ok (.if_icmp .ge 6, 3) := by decide +kernel
theorem dX8_layCard_73 : decode cX8_layCard 73 = .ok (.ldc 84, 2) := by decide +kernel
theorem dX8_layCard_75 : decode cX8_layCard 75 = .ok (.ireturn, 1) := by decide +kernel
theorem dX8_layCard_76 : decode cX8_layCard 76 = .ok (.aload 5, 2) := by decide +kernel
theorem dX8_layCard_78 : decode cX8_layCard 78 = .ok (.iload_n 2, 1) := by decide +kernel
theorem dX8_layCard_79 : decode cX8_layCard 79 = .ok (.iload_n 3, 1) := by decide +kernel
theorem dX8_layCard_80 : decode cX8_layCard 80 = .ok (.iload 4, 2) := by decide +kernel
theorem dX8_layCard_82 : decode cX8_layCard 82 = .ok (.invokevirtual 128, 3) := by decide +kernel
theorem dX8_layCard_85 : decode cX8_layCard 85 = .ok (.aload 5, 2) := by decide +kernel
theorem dX8_layCard_87 : decode cX8_layCard 87 = .ok (.invokevirtual 132, 3) := by decide +kernel
theorem dX8_layCard_90 : decode cX8_layCard 90 = .ok (.invokestatic 136, 3) := by decide +kernel
theorem dX8_layCard_93 : decode cX8_layCard 93 = .ok (.ireturn, 1) := by decide +kernel
theorem dX8_harm_0 : decode cX8_harm 0 = .ok (.aload_n 0, 1) := by decide +kernel
theorem dX8_harm_1 : decode cX8_harm 1 = .ok (.iload_n 1, 1) := by decide +kernel
theorem dX8_harm_2 : decode cX8_harm 2 = .ok (.invokevirtual 119, 3) := by decide +kernel
theorem dX8_harm_5 : decode cX8_harm 5 = .ok (.ifCond .eq 14, 3) := by decide +kernel
theorem dX8_harm_8 : decode cX8_harm 8 = .ok (.iload_n 2, 1) := by decide +kernel
theorem dX8_harm_9 : decode cX8_harm 9 = .ok (.bipush (-9), 2) := by decide +kernel
theorem dX8_harm_11 : decode cX8_harm 11 = .ok (.bipush 9, 2) := by decide +kernel
theorem dX8_harm_13 : decode cX8_harm 13 = .ok (.invokestatic 79, 3) := by decide +kernel
theorem dX8_harm_16 : decode cX8_harm 16 = .ok (.ifCond .ne 6, 3) := by decide +kernel
theorem dX8_harm_19 : decode cX8_harm 19 = .ok (.ldc 83, 2) := by decide +kernel
theorem dX8_harm_21 : decode cX8_harm 21 = .ok (.ireturn, 1) := by decide +kernel
theorem dX8_harm_22 : decode cX8_harm 22 = .ok (.aload_n 0, 1) := by decide +kernel
theorem dX8_harm_23 : decode cX8_harm 23 = .ok (.getfield 21, 3) := by decide +kernel
theorem dX8_harm_26 : decode cX8_harm 26 = .ok (.iload_n 1, 1) := by decide +kernel
theorem dX8_harm_27 : decode cX8_harm 27 = .ok (.aaload, 1) := by decide +kernel
theorem dX8_harm_28 : decode cX8_harm 28 = .ok (.astore_n 3, 1) := by decide +kernel
theorem dX8_harm_29 : decode cX8_harm 29 = .ok (.aload_n 3, 1) := by decide +kernel
theorem dX8_harm_30 : decode cX8_harm 30 = .ok (.invokevirtual 54, 3) := by decide +kernel
theorem dX8_harm_33 : decode cX8_harm 33 = .ok (.ifCond .eq 6, 3) := by decide +kernel
theorem dX8_harm_36 : decode cX8_harm 36 = .ok (.ldc 84, 2) := by decide +kernel
theorem dX8_harm_38 : decode cX8_harm 38 = .ok (.ireturn, 1) := by decide +kernel
theorem dX8_harm_39 : decode cX8_harm 39 = .ok (.aload_n 3, 1) := by decide +kernel
theorem dX8_harm_40 : decode cX8_harm 40 = .ok (.iload_n 2, 1) := by decide +kernel
theorem dX8_harm_41 : decode cX8_harm 41 = .ok (.invokevirtual 141, 3) := by decide +kernel
theorem dX8_harm_44 : decode cX8_harm 44 = .ok (.aload_n 3, 1) := by decide +kernel
theorem dX8_harm_45 : decode cX8_harm 45 = .ok (.getfield 145, 3) := by decide +kernel
theorem dX8_harm_48 : decode cX8_harm 48 = .ok (.ireturn, 1) := by decide +kernel
theorem dX8_enter_0 : decode cX8_enter 0 = .ok (.iload_n 2, 1) := by decide +kernel
theorem dX8_enter_1 : decode cX8_enter 1 = .ok (.ifCond .lt 23, 3) := by decide +kernel
theorem dX8_enter_4 : decode cX8_enter 4 = .ok (.iload_n 2, 1) := by decide +kernel
theorem dX8_enter_5 : decode cX8_enter 5 = .ok (.bipush 64, 2) := by decide +kernel
theorem dX8_enter_7 : decode cX8_enter 7 = .ok (.if_icmp .ge 17, 3) := by decide +kernel
theorem dX8_enter_10 : decode cX8_enter 10 = .ok (.aload_n 0, 1) := by decide +kernel
theorem dX8_enter_11 : decode cX8_enter 11 = .ok (.getfield 12, 3) := by decide +kernel
theorem dX8_enter_14 : decode cX8_enter 14 = .ok (.getfield 85, 3) := by decide +kernel
theorem dX8_enter_17 : decode cX8_enter 17 = .ok (.iload_n 2, 1) := by decide +kernel
theorem dX8_enter_18 : decode cX8_enter 18 = .ok (.iaload, 1) := by decide +kernel
theorem dX8_enter_19 : decode cX8_enter 19 = .ok (.bipush 7, 2) := by decide +kernel
theorem dX8_enter_21 : decode cX8_enter 21 = .ok (.if_icmp .ne 21, 3) := by decide +kernel
theorem dX8_enter_24 : decode cX8_enter 24 = .ok (.aload_n 1, 1) := by decide +kernel
theorem dX8_enter_25 : decode cX8_enter 25 = .ok (.iconst (-1), 1) := by decide +kernel
theorem dX8_enter_26 : decode cX8_enter 26 = .ok (.putfield 51, 3) := by decide +kernel
theorem dX8_enter_29 : decode cX8_enter 29 = .ok (.aload_n 1, 1) := by decide +kernel
theorem dX8_enter_30 : decode cX8_enter 30 = .ok (.dup, 1) := by decide +kernel
theorem dX8_enter_31 : decode cX8_enter 31 = .ok (.getfield 58, 3) := by decide +kernel
theorem dX8_enter_34 : decode cX8_enter 34 = .ok (.iconst 1, 1) := by decide +kernel
theorem dX8_enter_35 : decode cX8_enter 35 = .ok (.iadd, 1) := by decide +kernel
theorem dX8_enter_36 : decode cX8_enter 36 = .ok (.putfield 58, 3) := by decide +kernel
theorem dX8_enter_39 : decode cX8_enter 39 = .ok (.goto 8, 3) := by decide +kernel
theorem dX8_enter_42 : decode cX8_enter 42 = .ok (.aload_n 1, 1) := by decide +kernel
theorem dX8_enter_43 : decode cX8_enter 43 = .ok (.iload_n 2, 1) := by decide +kernel
theorem dX8_enter_44 : decode cX8_enter 44 = .ok (.putfield 51, 3) := by decide +kernel
theorem dX8_enter_47 : decode cX8_enter 47 = .ok (.return_, 1) := by decide +kernel
theorem dX8_turnOnGears_0 : decode cX8_turnOnGears 0 = .ok (.iconst 0, 1) := by decide +kernel
theorem dX8_turnOnGears_1 : decode cX8_turnOnGears 1 = .ok (.istore_n 1, 1) := by decide +kernel
theorem dX8_turnOnGears_2 : decode cX8_turnOnGears 2 = .ok (.iload_n 1, 1) := by decide +kernel
theorem dX8_turnOnGears_3 : decode cX8_turnOnGears 3 = .ok (.aload_n 0, 1) := by decide +kernel
theorem dX8_turnOnGears_4 : decode cX8_turnOnGears 4 = .ok (.getfield 36, 3) := by decide +kernel
theorem dX8_turnOnGears_7 : decode cX8_turnOnGears 7 = .ok (.if_icmp .ge 66, 3) := by decide +kernel
theorem dX8_turnOnGears_10 : decode cX8_turnOnGears 10 = .ok (.aload_n 0, 1) := by decide +kernel
theorem dX8_turnOnGears_11 : decode cX8_turnOnGears 11 = .ok (.getfield 21, 3) := by decide +kernel
theorem dX8_turnOnGears_14 : decode cX8_turnOnGears 14 = .ok (.iload_n 1, 1) := by decide +kernel
theorem dX8_turnOnGears_15 : decode cX8_turnOnGears 15 = .ok (.aaload, 1) := by decide +kernel
theorem dX8_turnOnGears_16 : decode cX8_turnOnGears 16 = .ok (.astore_n 2, 1) := by decide +kernel
theorem dX8_turnOnGears_17 : decode cX8_turnOnGears 17 = .ok (.aload_n 0, 1) := by decide +kernel
theorem dX8_turnOnGears_18 : decode cX8_turnOnGears 18 = .ok (.getfield 12, 3) := by decide +kernel
theorem dX8_turnOnGears_21 : decode cX8_turnOnGears 21 = .ok (.aload_n 2, 1) := by decide +kernel
theorem dX8_turnOnGears_22 : decode cX8_turnOnGears 22 = .ok (.getfield 51, 3) := by decide +kernel
theorem dX8_turnOnGears_25 : decode cX8_turnOnGears 25 = .ok (.invokevirtual 61, 3) := by decide +kernel
theorem dX8_turnOnGears_28 : decode cX8_turnOnGears 28 = .ok (.istore_n 3, 1) := by decide +kernel
theorem dX8_turnOnGears_29 : decode cX8_turnOnGears 29 = .ok (.iload_n 3, 1) := by decide +kernel
theorem dX8_turnOnGears_30 : decode cX8_turnOnGears 30 = .ok (.iconst 5, 1) := by decide +kernel
theorem dX8_turnOnGears_31 : decode cX8_turnOnGears 31 = .ok (.if_icmp .ne 18, 3) := by decide +kernel
theorem dX8_turnOnGears_34 : decode cX8_turnOnGears 34 = .ok (.aload_n 2, 1) := by decide +kernel
theorem dX8_turnOnGears_35 : decode cX8_turnOnGears 35 = .ok (.aload_n 2, 1) := by decide +kernel
theorem dX8_turnOnGears_36 : decode cX8_turnOnGears 36 = .ok (.getfield 148, 3) := by decide +kernel
theorem dX8_turnOnGears_39 : decode cX8_turnOnGears 39 = .ok (.iconst 3, 1) := by decide +kernel
theorem dX8_turnOnGears_40 : decode cX8_turnOnGears 40 = .ok (.invokestatic 151, 3) := by decide +kernel
theorem dX8_turnOnGears_43 : decode cX8_turnOnGears 43 = .ok (.putfield 148, 3) := by decide +kernel
theorem dX8_turnOnGears_46 : decode cX8_turnOnGears 46 = .ok (.goto 21, 3) := by decide +kernel
theorem dX8_turnOnGears_49 : decode cX8_turnOnGears 49 = .ok (.iload_n 3, 1) := by decide +kernel
theorem dX8_turnOnGears_50 : decode cX8_turnOnGears 50 = .ok (.bipush 6, 2) := by decide +kernel
theorem dX8_turnOnGears_52 : decode cX8_turnOnGears 52 = .ok (.if_icmp .ne 15, 3) := by decide +kernel
theorem dX8_turnOnGears_55 : decode cX8_turnOnGears 55 = .ok (.aload_n 2, 1) := by decide +kernel
theorem dX8_turnOnGears_56 : decode cX8_turnOnGears 56 = .ok (.aload_n 2, 1) := by decide +kernel
theorem dX8_turnOnGears_57 : decode cX8_turnOnGears 57 = .ok (.getfield 148, 3) := by decide +kernel
theorem dX8_turnOnGears_60 : decode cX8_turnOnGears 60 = .ok (.iconst 1, 1) := by decide +kernel
theorem dX8_turnOnGears_61 : decode cX8_turnOnGears 61 = .ok (.invokestatic 151, 3) := by decide +kernel
theorem dX8_turnOnGears_64 : decode cX8_turnOnGears 64 = .ok (.putfield 148, 3) := by decide +kernel
theorem dX8_turnOnGears_67 : decode cX8_turnOnGears 67 = .ok (.iinc 1 1, 3) := by decide +kernel
theorem dX8_turnOnGears_70 : decode cX8_turnOnGears 70 = .ok (.goto (-68), 3) := by decide +kernel
theorem dX8_turnOnGears_73 : decode cX8_turnOnGears 73 = .ok (.return_, 1) := by decide +kernel
theorem dX8_touchFlags_0 : decode cX8_touchFlags 0 = .ok (.iconst 0, 1) := by decide +kernel
theorem dX8_touchFlags_1 : decode cX8_touchFlags 1 = .ok (.istore_n 1, 1) := by decide +kernel
theorem dX8_touchFlags_2 : decode cX8_touchFlags 2 = .ok (.iload_n 1, 1) := by decide +kernel
theorem dX8_touchFlags_3 : decode cX8_touchFlags 3 = .ok (.aload_n 0, 1) := by decide +kernel
theorem dX8_touchFlags_4 : decode cX8_touchFlags 4 = .ok (.getfield 36, 3) := by decide +kernel
theorem dX8_touchFlags_7 : decode cX8_touchFlags 7 = .ok (.if_icmp .ge 86, 3) := by decide +kernel
theorem dX8_touchFlags_10 : decode cX8_touchFlags 10 = .ok (.aload_n 0, 1) := by decide +kernel
theorem dX8_touchFlags_11 : decode cX8_touchFlags 11 = .ok (.getfield 21, 3) := by decide +kernel
theorem dX8_touchFlags_14 : decode cX8_touchFlags 14 = .ok (.iload_n 1, 1) := by decide +kernel
theorem dX8_touchFlags_15 : decode cX8_touchFlags 15 = .ok (.aaload, 1) := by decide +kernel
theorem dX8_touchFlags_16 : decode cX8_touchFlags 16 = .ok (.astore_n 2, 1) := by decide +kernel
theorem dX8_touchFlags_17 : decode cX8_touchFlags 17 = .ok (.aload_n 2, 1) := by decide +kernel
theorem dX8_touchFlags_18 : decode cX8_touchFlags 18 = .ok (.getfield 154, 3) := by decide +kernel
theorem dX8_touchFlags_21 : decode cX8_touchFlags 21 = .ok (.aload_n 0, 1) := by decide +kernel
theorem dX8_touchFlags_22 : decode cX8_touchFlags 22 = .ok (.getfield 12, 3) := by decide +kernel
theorem dX8_touchFlags_25 : decode cX8_touchFlags 25 = .ok (.getfield 100, 3) := by decide +kernel
theorem dX8_touchFlags_28 : decode cX8_touchFlags 28 = .ok (.if_icmp .ge 59, 3) := by decide +kernel
theorem dX8_touchFlags_31 : decode cX8_touchFlags 31 = .ok (.aload_n 0, 1) := by decide +kernel
theorem dX8_touchFlags_32 : decode cX8_touchFlags 32 = .ok (.getfield 12, 3) := by decide +kernel
theorem dX8_touchFlags_35 : decode cX8_touchFlags 35 = .ok (.getfield 103, 3) := by decide +kernel
theorem dX8_touchFlags_38 : decode cX8_touchFlags 38 = .ok (.aload_n 2, 1) := by decide +kernel
theorem dX8_touchFlags_39 : decode cX8_touchFlags 39 = .ok (.getfield 154, 3) := by decide +kernel
theorem dX8_touchFlags_42 : decode cX8_touchFlags 42 = .ok (.iaload, 1) := by decide +kernel
theorem dX8_touchFlags_43 : decode cX8_touchFlags 43 = .ok (.aload_n 2, 1) := by decide +kernel
theorem dX8_touchFlags_44 : decode cX8_touchFlags 44 = .ok (.getfield 51, 3) := by decide +kernel
theorem dX8_touchFlags_47 : decode cX8_touchFlags 47 = .ok (.if_icmp .ne 40, 3) := by decide +kernel
theorem dX8_touchFlags_50 : decode cX8_touchFlags 50 = .ok (.aload_n 2, 1) := by decide +kernel
theorem dX8_touchFlags_51 : decode cX8_touchFlags 51 = .ok (.dup, 1) := by decide +kernel
theorem dX8_touchFlags_52 : decode cX8_touchFlags 52 = .ok (.getfield 154, 3) := by decide +kernel
theorem dX8_touchFlags_55 : decode cX8_touchFlags 55 = .ok (.iconst 1, 1) := by decide +kernel
theorem dX8_touchFlags_56 : decode cX8_touchFlags 56 = .ok (.iadd, 1) := by decide +kernel
theorem dX8_touchFlags_57 : decode cX8_touchFlags 57 = .ok (.putfield 154, 3) := by decide +kernel
theorem dX8_touchFlags_60 : decode cX8_touchFlags 60 = .ok (.aload_n 0, 1) := by decide +kernel
theorem dX8_touchFlags_61 : decode cX8_touchFlags 61 = .ok (.getfield 25, 3) := by decide +kernel
theorem dX8_touchFlags_64 : decode cX8_touchFlags 64 = .ok (.iconst (-1), 1) := by decide +kernel
theorem dX8_touchFlags_65 : decode cX8_touchFlags 65 = .ok (.if_icmp .ne 22, 3) := by decide +kernel
theorem dX8_touchFlags_68 : decode cX8_touchFlags 68 = .ok (.aload_n 2, 1) := by decide +kernel
theorem dX8_touchFlags_69 : decode cX8_touchFlags 69 = .ok (.getfield 154, 3) := by decide +kernel
theorem dX8_touchFlags_72 : decode cX8_touchFlags 72 = .ok (.aload_n 0, 1) := by decide +kernel
theorem dX8_touchFlags_73 : decode cX8_touchFlags 73 = .ok (.getfield 12, 3) := by decide +kernel
theorem dX8_touchFlags_76 : decode cX8_touchFlags 76 = .ok (.getfield 100, 3) := by decide +kernel
theorem dX8_touchFlags_79 : decode cX8_touchFlags 79 = .ok (.if_icmp .ne 8, 3) := by decide +kernel
theorem dX8_touchFlags_82 : decode cX8_touchFlags 82 = .ok (.aload_n 0, 1) := by decide +kernel
theorem dX8_touchFlags_83 : decode cX8_touchFlags 83 = .ok (.iload_n 1, 1) := by decide +kernel
theorem dX8_touchFlags_84 : decode cX8_touchFlags 84 = .ok (.putfield 25, 3) := by decide +kernel
theorem dX8_touchFlags_87 : decode cX8_touchFlags 87 = .ok (.iinc 1 1, 3) := by decide +kernel
theorem dX8_touchFlags_90 : decode cX8_touchFlags 90 = .ok (.goto (-88), 3) := by decide +kernel
theorem dX8_touchFlags_93 : decode cX8_touchFlags 93 = .ok (.return_, 1) := by decide +kernel
theorem dX8_countPhase_0 : decode cX8_countPhase 0 = .ok (.aload_n 0, 1) := by decide +kernel
theorem dX8_countPhase_1 : decode cX8_countPhase 1 = .ok (.dup, 1) := by decide +kernel
theorem dX8_countPhase_2 : decode cX8_countPhase 2 = .ok (.getfield 45, 3) := by decide +kernel
theorem dX8_countPhase_5 : decode cX8_countPhase 5 = .ok (.iconst 1, 1) := by decide +kernel
theorem dX8_countPhase_6 : decode cX8_countPhase 6 = .ok (.iadd, 1) := by decide +kernel
theorem dX8_countPhase_7 : decode cX8_countPhase 7 = .ok (.putfield 45, 3) := by decide +kernel
theorem dX8_countPhase_10 : decode cX8_countPhase 10 = .ok (.aload_n 0, 1) := by decide +kernel
theorem dX8_countPhase_11 : decode cX8_countPhase 11 = .ok (.dup, 1) := by decide +kernel
theorem dX8_countPhase_12 : decode cX8_countPhase 12 = .ok (.getfield 39, 3) := by decide +kernel
theorem dX8_countPhase_15 : decode cX8_countPhase 15 = .ok (.iconst 1, 1) := by decide +kernel
theorem dX8_countPhase_16 : decode cX8_countPhase 16 = .ok (.iadd, 1) := by decide +kernel
theorem dX8_countPhase_17 : decode cX8_countPhase 17 = .ok (.putfield 39, 3) := by decide +kernel
theorem dX8_countPhase_20 : decode cX8_countPhase 20 = .ok (.aload_n 0, 1) := by decide +kernel
theorem dX8_countPhase_21 : decode cX8_countPhase 21 = .ok (.getfield 39, 3) := by decide +kernel
theorem dX8_countPhase_24 : decode cX8_countPhase 24 = .ok (.iconst 5, 1) := by decide +kernel
theorem dX8_countPhase_25 : decode cX8_countPhase 25 = .ok (.if_icmp .ne 18, 3) := by decide +kernel
theorem dX8_countPhase_28 : decode cX8_countPhase 28 = .ok (.aload_n 0, 1) := by decide +kernel
theorem dX8_countPhase_29 : decode cX8_countPhase 29 = .ok (.iconst 0, 1) := by decide +kernel
theorem dX8_countPhase_30 : decode cX8_countPhase 30 = .ok (.putfield 39, 3) := by decide +kernel
theorem dX8_countPhase_33 : decode cX8_countPhase 33 = .ok (.aload_n 0, 1) := by decide +kernel
theorem dX8_countPhase_34 : decode cX8_countPhase 34 = .ok (.dup, 1) := by decide +kernel
theorem dX8_countPhase_35 : decode cX8_countPhase 35 = .ok (.getfield 42, 3) := by decide +kernel
theorem dX8_countPhase_38 : decode cX8_countPhase 38 = .ok (.iconst 1, 1) := by decide +kernel
theorem dX8_countPhase_39 : decode cX8_countPhase 39 = .ok (.iadd, 1) := by decide +kernel
theorem dX8_countPhase_40 : decode cX8_countPhase 40 = .ok (.putfield 42, 3) := by decide +kernel
theorem dX8_countPhase_43 : decode cX8_countPhase 43 = .ok (.return_, 1) := by decide +kernel
theorem dX8_repairAndClear_0 : decode cX8_repairAndClear 0 = .ok (.iconst 0, 1) := by decide +kernel
theorem dX8_repairAndClear_1 : decode cX8_repairAndClear 1 = .ok (.istore_n 1, 1) := by decide +kernel
theorem dX8_repairAndClear_2 : decode cX8_repairAndClear 2 = .ok (.iload_n 1, 1) := by decide +kernel
theorem dX8_repairAndClear_3 : decode cX8_repairAndClear 3 = .ok (.aload_n 0, 1) := by decide +kernel
theorem dX8_repairAndClear_4 : decode cX8_repairAndClear 4 = .ok (.getfield 36, 3) := by decide +kernel
theorem dX8_repairAndClear_7 : decode cX8_repairAndClear 7 = .ok (.if_icmp .ge 45, 3) := by decide +kernel
theorem dX8_repairAndClear_10 : decode cX8_repairAndClear 10 = .ok (.aload_n 0, 1) := by decide +kernel
theorem dX8_repairAndClear_11 : decode cX8_repairAndClear 11 = .ok (.getfield 21, 3) := by decide +kernel
theorem dX8_repairAndClear_14 : decode cX8_repairAndClear 14 = .ok (.iload_n 1, 1) := by decide +kernel
theorem dX8_repairAndClear_15 : decode cX8_repairAndClear 15 = .ok (.aaload, 1) := by decide +kernel
theorem dX8_repairAndClear_16 : decode cX8_repairAndClear 16 = .ok (.astore_n 2, 1) := by decide +kernel
theorem dX8_repairAndClear_17 : decode cX8_repairAndClear 17 = .ok (.aload_n 0, 1) := by decide +kernel
theorem dX8_repairAndClear_18 : decode cX8_repairAndClear 18 = .ok (.getfield 12, 3) := by decide +kernel
theorem dX8_repairAndClear_21 : decode cX8_repairAndClear 21 = .ok (.aload_n 2, 1) := by decide +kernel
theorem dX8_repairAndClear_22 : decode cX8_repairAndClear 22 = .ok (.getfield 51, 3) := by decide +kernel
theorem dX8_repairAndClear_25 : decode cX8_repairAndClear 25 = .ok (.invokevirtual 61, 3) := by decide +kernel
theorem dX8_repairAndClear_28 : decode cX8_repairAndClear 28 = .ok (.bipush 8, 2) := by decide +kernel
theorem dX8_repairAndClear_30 : decode cX8_repairAndClear 30 = .ok (.if_icmp .ne 8, 3) := by decide +kernel
theorem dX8_repairAndClear_33 : decode cX8_repairAndClear 33 = .ok (.aload_n 2, 1) := by decide +kernel
theorem dX8_repairAndClear_34 : decode cX8_repairAndClear 34 = .ok (.iconst (-1), 1) := by decide +kernel
theorem dX8_repairAndClear_35 : decode cX8_repairAndClear 35 = .ok (.invokevirtual 141, 3) := by decide +kernel
theorem dX8_repairAndClear_38 : decode cX8_repairAndClear 38 = .ok (.aload_n 2, 1) := by decide +kernel
theorem dX8_repairAndClear_39 : decode cX8_repairAndClear 39 = .ok (.aload_n 2, 1) := by decide +kernel
theorem dX8_repairAndClear_40 : decode cX8_repairAndClear 40 = .ok (.invokevirtual 157, 3) := by decide +kernel
theorem dX8_repairAndClear_43 : decode cX8_repairAndClear 43 = .ok (.invokevirtual 160, 3) := by decide +kernel
theorem dX8_repairAndClear_46 : decode cX8_repairAndClear 46 = .ok (.iinc 1 1, 3) := by decide +kernel
theorem dX8_repairAndClear_49 : decode cX8_repairAndClear 49 = .ok (.goto (-47), 3) := by decide +kernel
theorem dX8_repairAndClear_52 : decode cX8_repairAndClear 52 = .ok (.return_, 1) := by decide +kernel
theorem dX8_bringBack_0 : decode cX8_bringBack 0 = .ok (.iconst 0, 1) := by decide +kernel
theorem dX8_bringBack_1 : decode cX8_bringBack 1 = .ok (.istore_n 1, 1) := by decide +kernel
theorem dX8_bringBack_2 : decode cX8_bringBack 2 = .ok (.iload_n 1, 1) := by decide +kernel
theorem dX8_bringBack_3 : decode cX8_bringBack 3 = .ok (.aload_n 0, 1) := by decide +kernel
theorem dX8_bringBack_4 : decode cX8_bringBack 4 = .ok (.getfield 36, 3) := by decide +kernel
theorem dX8_bringBack_7 : decode cX8_bringBack 7 = .ok (.if_icmp .ge 50, 3) := by decide +kernel
theorem dX8_bringBack_10 : decode cX8_bringBack 10 = .ok (.aload_n 0, 1) := by decide +kernel
theorem dX8_bringBack_11 : decode cX8_bringBack 11 = .ok (.getfield 21, 3) := by decide +kernel
theorem dX8_bringBack_14 : decode cX8_bringBack 14 = .ok (.iload_n 1, 1) := by decide +kernel
theorem dX8_bringBack_15 : decode cX8_bringBack 15 = .ok (.aaload, 1) := by decide +kernel
theorem dX8_bringBack_16 : decode cX8_bringBack 16 = .ok (.astore_n 2, 1) := by decide +kernel
theorem dX8_bringBack_17 : decode cX8_bringBack 17 = .ok (.aload_n 2, 1) := by decide +kernel
theorem dX8_bringBack_18 : decode cX8_bringBack 18 = .ok (.invokevirtual 54, 3) := by decide +kernel
theorem dX8_bringBack_21 : decode cX8_bringBack 21 = .ok (.ifCond .eq 30, 3) := by decide +kernel
theorem dX8_bringBack_24 : decode cX8_bringBack 24 = .ok (.aload_n 2, 1) := by decide +kernel
theorem dX8_bringBack_25 : decode cX8_bringBack 25 = .ok (.aload_n 0, 1) := by decide +kernel
theorem dX8_bringBack_26 : decode cX8_bringBack 26 = .ok (.aload_n 2, 1) := by decide +kernel
theorem dX8_bringBack_27 : decode cX8_bringBack 27 = .ok (.getfield 163, 3) := by decide +kernel
theorem dX8_bringBack_30 : decode cX8_bringBack 30 = .ok (.invokevirtual 166, 3) := by decide +kernel
theorem dX8_bringBack_33 : decode cX8_bringBack 33 = .ok (.putfield 51, 3) := by decide +kernel
theorem dX8_bringBack_36 : decode cX8_bringBack 36 = .ok (.aload_n 2, 1) := by decide +kernel
theorem dX8_bringBack_37 : decode cX8_bringBack 37 = .ok (.iconst 0, 1) := by decide +kernel
theorem dX8_bringBack_38 : decode cX8_bringBack 38 = .ok (.putfield 148, 3) := by decide +kernel
theorem dX8_bringBack_41 : decode cX8_bringBack 41 = .ok (.aload_n 2, 1) := by decide +kernel
theorem dX8_bringBack_42 : decode cX8_bringBack 42 = .ok (.iconst 2, 1) := by decide +kernel
theorem dX8_bringBack_43 : decode cX8_bringBack 43 = .ok (.putfield 145, 3) := by decide +kernel
theorem dX8_bringBack_46 : decode cX8_bringBack 46 = .ok (.aload_n 2, 1) := by decide +kernel
theorem dX8_bringBack_47 : decode cX8_bringBack 47 = .ok (.iconst 5, 1) := by decide +kernel
theorem dX8_bringBack_48 : decode cX8_bringBack 48 = .ok (.invokevirtual 160, 3) := by decide +kernel
theorem dX8_bringBack_51 : decode cX8_bringBack 51 = .ok (.iinc 1 1, 3) := by decide +kernel
theorem dX8_bringBack_54 : decode cX8_bringBack 54 = .ok (.goto (-52), 3) := by decide +kernel
theorem dX8_bringBack_57 : decode cX8_bringBack 57 = .ok (.return_, 1) := by decide +kernel
theorem dX8_cellToComeBack_0 : decode cX8_cellToComeBack 0 = .ok (.aload_n 0, 1) := by decide +kernel
theorem dX8_cellToComeBack_1 : decode cX8_cellToComeBack 1 = .ok (.getfield 12, 3) := by decide +kernel
theorem dX8_cellToComeBack_4 : decode cX8_cellToComeBack 4 = .ok (.iload_n 1, 1) := by decide +kernel
theorem dX8_cellToComeBack_5 : decode cX8_cellToComeBack 5 = .ok (.invokevirtual 112, 3) := by decide +kernel
theorem dX8_cellToComeBack_8 : decode cX8_cellToComeBack 8 = .ok (.ifCond .ne 14, 3) := by decide +kernel
theorem dX8_cellToComeBack_11 : decode cX8_cellToComeBack 11 = .ok (.aload_n 0, 1) := by decide +kernel
theorem dX8_cellToComeBack_12 : decode cX8_cellToComeBack 12 = .ok (.iload_n 1, 1) := by decide +kernel
theorem dX8_cellToComeBack_13 : decode cX8_cellToComeBack 13 = .ok (.invokevirtual 68, 3) := by decide +kernel
theorem dX8_cellToComeBack_16 : decode cX8_cellToComeBack 16 = .ok (.iconst (-1), 1) := by decide +kernel
theorem dX8_cellToComeBack_17 : decode cX8_cellToComeBack 17 = .ok (.if_icmp .ne 5, 3) := by decide +kernel
theorem dX8_cellToComeBack_20 : decode cX8_cellToComeBack 20 = .ok (.iload_n 1, 1) := by decide +kernel
theorem dX8_cellToComeBack_21 : decode cX8_cellToComeBack 21 = .ok (.ireturn, 1) := by decide +kernel
theorem dX8_cellToComeBack_22 : decode cX8_cellToComeBack 22 = .ok (.iconst 0, 1) := by decide +kernel
theorem dX8_cellToComeBack_23 : decode cX8_cellToComeBack 23 = .ok (.istore_n 2, 1) := by decide +kernel
theorem dX8_cellToComeBack_24 : decode cX8_cellToComeBack 24 = .ok (.iload_n 2, 1) := by decide +kernel
theorem dX8_cellToComeBack_25 : decode cX8_cellToComeBack 25 = .ok (.bipush 64, 2) := by decide +kernel
theorem dX8_cellToComeBack_27 : decode cX8_cellToComeBack 27 = .ok (.if_icmp .ge 31, 3) := by decide +kernel
theorem dX8_cellToComeBack_30 : decode cX8_cellToComeBack 30 = .ok (.aload_n 0, 1) := by decide +kernel
theorem dX8_cellToComeBack_31 : decode cX8_cellToComeBack 31 = .ok (.getfield 12, 3) := by decide +kernel
theorem dX8_cellToComeBack_34 : decode cX8_cellToComeBack 34 = .ok (.iload_n 2, 1) := by decide +kernel
theorem dX8_cellToComeBack_35 : decode cX8_cellToComeBack 35 = .ok (.invokevirtual 112, 3) := by decide +kernel
theorem dX8_cellToComeBack_38 : decode cX8_cellToComeBack 38 = .ok (.ifCond .ne 14, 3) := by decide +kernel
theorem dX8_cellToComeBack_41 : decode cX8_cellToComeBack 41 = .ok (.aload_n 0, 1) := by decide +kernel
theorem dX8_cellToComeBack_42 : decode cX8_cellToComeBack 42 = .ok (.iload_n 2, 1) := by decide +kernel
theorem dX8_cellToComeBack_43 : decode cX8_cellToComeBack 43 = .ok (.invokevirtual 68, 3) := by decide +kernel
theorem dX8_cellToComeBack_46 : decode cX8_cellToComeBack 46 = .ok (.iconst (-1), 1) := by decide +kernel
theorem dX8_cellToComeBack_47 : decode cX8_cellToComeBack 47 = .ok (.if_icmp .ne 5, 3) := by decide +kernel
theorem dX8_cellToComeBack_50 : decode cX8_cellToComeBack 50 = .ok (.iload_n 2, 1) := by decide +kernel
theorem dX8_cellToComeBack_51 : decode cX8_cellToComeBack 51 = .ok (.ireturn, 1) := by decide +kernel
theorem dX8_cellToComeBack_52 : decode cX8_cellToComeBack 52 = .ok (.iinc 2 1, 3) := by decide +kernel
theorem dX8_cellToComeBack_55 : decode cX8_cellToComeBack 55 = .ok (.goto (-31), 3) := by decide +kernel
theorem dX8_cellToComeBack_58 : decode cX8_cellToComeBack 58 = .ok (.iconst (-1), 1) := by decide +kernel
theorem dX8_cellToComeBack_59 : decode cX8_cellToComeBack 59 = .ok (.ireturn, 1) := by decide +kernel
theorem dX9_init_0 : decode cX9_init 0 = .ok (.aload_n 0, 1) := by decide +kernel
theorem dX9_init_1 : decode cX9_init 1 = .ok (.invokespecial 3, 3) := by decide +kernel
theorem dX9_init_4 : decode cX9_init 4 = .ok (.aload_n 0, 1) := by decide +kernel
theorem dX9_init_5 : decode cX9_init 5 = .ok (.bipush 64, 2) := by decide +kernel
theorem dX9_init_7 : decode cX9_init 7 = .ok (.newarray .int, 2) := by decide +kernel
theorem dX9_init_9 : decode cX9_init 9 = .ok (.putfield 9, 3) := by decide +kernel
theorem dX9_init_12 : decode cX9_init 12 = .ok (.aload_n 0, 1) := by decide +kernel
theorem dX9_init_13 : decode cX9_init 13 = .ok (.bipush 64, 2) := by decide +kernel
theorem dX9_init_15 : decode cX9_init 15 = .ok (.newarray .int, 2) := by decide +kernel
theorem dX9_init_17 : decode cX9_init 17 = .ok (.putfield 15, 3) := by decide +kernel
theorem dX9_init_20 : decode cX9_init 20 = .ok (.return_, 1) := by decide +kernel
theorem dX9_shortest_0 : decode cX9_shortest 0 = .ok (.aload_n 0, 1) := by decide +kernel
theorem dX9_shortest_1 : decode cX9_shortest 1 = .ok (.getfield 9, 3) := by decide +kernel
theorem dX9_shortest_4 : decode cX9_shortest 4 = .ok (.iconst (-1), 1) := by decide +kernel
theorem dX9_shortest_5 : decode cX9_shortest 5 = .ok (.invokestatic 18, 3) := by decide +kernel
theorem dX9_shortest_8 : decode cX9_shortest 8 = .ok (.aload_n 0, 1) := by decide +kernel
theorem dX9_shortest_9 : decode cX9_shortest 9 = .ok (.iconst 0, 1) := by decide +kernel
theorem dX9_shortest_10 : decode cX9_shortest 10 = .ok (.putfield 24, 3) := by decide +kernel
theorem dX9_shortest_13 : decode cX9_shortest 13 = .ok (.aload_n 0, 1) := by decide +kernel
theorem dX9_shortest_14 : decode cX9_shortest 14 = .ok (.iload_n 2, 1) := by decide +kernel
theorem dX9_shortest_15 : decode cX9_shortest 15 = .ok (.iconst 0, 1) := by decide +kernel
theorem dX9_shortest_16 : decode cX9_shortest 16 = .ok (.invokevirtual 28, 3) := by decide +kernel
theorem dX9_shortest_19 : decode cX9_shortest 19 = .ok (.iconst 0, 1) := by decide +kernel
theorem dX9_shortest_20 : decode cX9_shortest 20 = .ok (.istore 4, 2) := by decide +kernel
theorem dX9_shortest_22 : decode cX9_shortest 22 = .ok (.iload 4, 2) := by decide +kernel
theorem dX9_shortest_24 : decode cX9_shortest 24 = .ok (.bipush 64, 2) := by decide +kernel
theorem dX9_shortest_26 : decode cX9_shortest 26 = .ok (.if_icmp .ge 40, 3) := by decide +kernel
theorem dX9_shortest_29 : decode cX9_shortest 29 = .ok (.iload 4, 2) := by decide +kernel
theorem dX9_shortest_31 : decode cX9_shortest 31 = .ok (.aload_n 0, 1) := by decide +kernel
theorem dX9_shortest_32 : decode cX9_shortest 32 = .ok (.getfield 24, 3) := by decide +kernel
theorem dX9_shortest_35 : decode cX9_shortest 35 = .ok (.if_icmp .ge 31, 3) := by decide +kernel
theorem dX9_shortest_38 : decode cX9_shortest 38 = .ok (.aload_n 0, 1) := by decide +kernel
theorem dX9_shortest_39 : decode cX9_shortest 39 = .ok (.getfield 9, 3) := by decide +kernel
theorem dX9_shortest_42 : decode cX9_shortest 42 = .ok (.iload_n 3, 1) := by decide +kernel
theorem dX9_shortest_43 : decode cX9_shortest 43 = .ok (.iaload, 1) := by decide +kernel
theorem dX9_shortest_44 : decode cX9_shortest 44 = .ok (.iconst (-1), 1) := by decide +kernel
theorem dX9_shortest_45 : decode cX9_shortest 45 = .ok (.if_icmp .ne 21, 3) := by decide +kernel
theorem dX9_shortest_48 : decode cX9_shortest 48 = .ok (.aload_n 0, 1) := by decide +kernel
theorem dX9_shortest_49 : decode cX9_shortest 49 = .ok (.aload_n 1, 1) := by decide +kernel
theorem dX9_shortest_50 : decode cX9_shortest 50 = .ok (.aload_n 0, 1) := by decide +kernel
theorem dX9_shortest_51 : decode cX9_shortest 51 = .ok (.getfield 15, 3) := by decide +kernel
theorem dX9_shortest_54 : decode cX9_shortest 54 = .ok (.iload 4, 2) := by decide +kernel
theorem dX9_shortest_56 : decode cX9_shortest 56 = .ok (.iaload, 1) := by decide +kernel
theorem dX9_shortest_57 : decode cX9_shortest 57 = .ok (.invokevirtual 32, 3) := by decide +kernel
theorem dX9_shortest_60 : decode cX9_shortest 60 = .ok (.iinc 4 1, 3) := by decide +kernel
theorem dX9_shortest_63 : decode cX9_shortest 63 = .ok (.goto (-41), 3) := by decide +kernel
theorem dX9_shortest_66 : decode cX9_shortest 66 = .ok (.aload_n 0, 1) := by decide +kernel
theorem dX9_shortest_67 : decode cX9_shortest 67 = .ok (.getfield 9, 3) := by decide +kernel
theorem dX9_shortest_70 : decode cX9_shortest 70 = .ok (.iload_n 3, 1) := by decide +kernel
theorem dX9_shortest_71 : decode cX9_shortest 71 = .ok (.iaload, 1) := by decide +kernel
theorem dX9_shortest_72 : decode cX9_shortest 72 = .ok (.iconst (-1), 1) := by decide +kernel
theorem dX9_shortest_73 : decode cX9_shortest 73 = .ok (.if_icmp .ne 8, 3) := by decide +kernel
theorem dX9_shortest_76 : decode cX9_shortest 76 = .ok (.ldc 36, 2) := by decide +kernel
theorem dX9_shortest_78 : decode cX9_shortest 78 = .ok (.goto 9, 3) := by decide +kernel
theorem dX9_shortest_81 : decode cX9_shortest 81 = .ok (.aload_n 0, 1) := by decide +kernel
theorem dX9_shortest_82 : decode cX9_shortest 82 = .ok (.getfield 9, 3) := by decide +kernel
theorem dX9_shortest_85 : decode cX9_shortest 85 = .ok (.iload_n 3, 1) := by decide +kernel
theorem dX9_shortest_86 : decode cX9_shortest 86 = .ok (.iaload, 1) := by decide +kernel
theorem dX9_shortest_87 : decode cX9_shortest 87 = .ok (.ireturn, 1) := by decide +kernel
theorem dX9_reachAround_0 : decode cX9_reachAround 0 = .ok (.iconst 0, 1) := by decide +kernel
theorem dX9_reachAround_1 : decode cX9_reachAround 1 = .ok (.istore_n 3, 1) := by decide +kernel
theorem dX9_reachAround_2 : decode cX9_reachAround 2 = .ok (.iload_n 3, 1) := by decide +kernel
theorem dX9_reachAround_3 : decode cX9_reachAround 3 = .ok (.iconst 4, 1) := by decide +kernel
theorem dX9_reachAround_4 : decode cX9_reachAround 4 = .ok (.if_icmp .ge 54, 3) := by decide +kernel
theorem dX9_reachAround_7 : decode cX9_reachAround 7 = .ok (.iload_n 2, 1) := by decide +kernel
theorem dX9_reachAround_8 : decode cX9_reachAround 8 = .ok (.iload_n 3, 1) := by decide +kernel
theorem dX9_reachAround_9 : decode cX9_reachAround 9 = .ok (.invokestatic 37, 3) := by decide +kernel
theorem dX9_reachAround_12 : decode cX9_reachAround 12 = .ok (.istore 4, 2) := by decide +kernel
theorem dX9_reachAround_14 : decode cX9_reachAround 14 = .ok (.iload 4, 2) := by decide +kernel
theorem dX9_reachAround_16 : decode cX9_reachAround 16 = .ok (.iconst (-1), 1) := by decide +kernel
theorem dX9_reachAround_17 : decode cX9_reachAround 17 = .ok (.if_icmp .eq 35, 3) := by decide +kernel
theorem dX9_reachAround_20 : decode cX9_reachAround 20 = .ok (.aload_n 1, 1) := by decide +kernel
theorem dX9_reachAround_21 : decode cX9_reachAround 21 = .ok (.iload_n 2, 1) := by decide +kernel
theorem dX9_reachAround_22 : decode cX9_reachAround 22 = .ok (.iload_n 3, 1) := by decide +kernel
theorem dX9_reachAround_23 : decode cX9_reachAround 23 = .ok (.invokevirtual 43, 3) := by decide +kernel
theorem dX9_reachAround_26 : decode cX9_reachAround 26 = .ok (.ifCond .ne 26, 3) := by decide +kernel
theorem dX9_reachAround_29 : decode cX9_reachAround 29 = .ok (.aload_n 1, 1) := by decide +kernel
theorem dX9_reachAround_30 : decode cX9_reachAround 30 = .ok (.iload 4, 2) := by decide +kernel
theorem dX9_reachAround_32 : decode cX9_reachAround 32 = .ok (.invokevirtual 47, 3) := by decide +kernel
theorem dX9_reachAround_35 : decode cX9_reachAround 35 = .ok (.ifCond .ne 17, 3) := by decide +kernel
theorem dX9_reachAround_38 : decode cX9_reachAround 38 = .ok (.aload_n 0, 1) := by decide +kernel
theorem dX9_reachAround_39 : decode cX9_reachAround 39 = .ok (.iload 4, 2) := by decide +kernel
theorem dX9_reachAround_41 : decode cX9_reachAround 41 = .ok (.aload_n 0, 1) := by decide +kernel
theorem dX9_reachAround_42 : decode cX9_reachAround 42 = .ok (.getfield 9, 3) := by decide +kernel
theorem dX9_reachAround_45 : decode cX9_reachAround 45 = .ok (.iload_n 2, 1) := by decide +kernel
theorem dX9_reachAround_46 : decode cX9_reachAround 46 = .ok (.iaload, 1) := by decide +kernel
theorem dX9_reachAround_47 : decode cX9_reachAround 47 = .ok (.iconst 1, 1) := by decide +kernel
theorem dX9_reachAround_48 : decode cX9_reachAround 48 = .ok (.iadd, 1) := by decide +kernel
theorem dX9_reachAround_49 : decode cX9_reachAround 49 = .ok (.invokevirtual 28, 3) := by decide +kernel
theorem dX9_reachAround_52 : decode cX9_reachAround 52 = .ok (.iinc 3 1, 3) := by decide +kernel
theorem dX9_reachAround_55 : decode cX9_reachAround 55 = .ok (.goto (-53), 3) := by decide +kernel
theorem dX9_reachAround_58 : decode cX9_reachAround 58 = .ok (.return_, 1) := by decide +kernel
theorem dX9_reach_0 : decode cX9_reach 0 = .ok (.aload_n 0, 1) := by decide +kernel
theorem dX9_reach_1 : decode cX9_reach 1 = .ok (.getfield 9, 3) := by decide +kernel
theorem dX9_reach_4 : decode cX9_reach 4 = .ok (.iload_n 1, 1) := by decide +kernel
theorem dX9_reach_5 : decode cX9_reach 5 = .ok (.iaload, 1) := by decide +kernel
theorem dX9_reach_6 : decode cX9_reach 6 = .ok (.iconst (-1), 1) := by decide +kernel
theorem dX9_reach_7 : decode cX9_reach 7 = .ok (.if_icmp .ne 39, 3) := by decide +kernel
theorem dX9_reach_10 : decode cX9_reach 10 = .ok (.aload_n 0, 1) := by decide +kernel
theorem dX9_reach_11 : decode cX9_reach 11 = .ok (.getfield 24, 3) := by decide +kernel
theorem dX9_reach_14 : decode cX9_reach 14 = .ok (.bipush 64, 2) := by decide +kernel
theorem dX9_reach_16 : decode cX9_reach 16 = .ok (.if_icmp .ge 30, 3) := by decide +kernel
theorem dX9_reach_19 : decode cX9_reach 19 = .ok (.aload_n 0, 1) := by decide +kernel
theorem dX9_reach_20 : decode cX9_reach 20 = .ok (.getfield 9, 3) := by decide +kernel
theorem dX9_reach_23 : decode cX9_reach 23 = .ok (.iload_n 1, 1) := by decide +kernel
theorem dX9_reach_24 : decode cX9_reach 24 = .ok (.iload_n 2, 1) := by decide +kernel
theorem dX9_reach_25 : decode cX9_reach 25 = .ok (.iastore, 1) := by decide +kernel
theorem dX9_reach_26 : decode cX9_reach 26 = .ok (.aload_n 0, 1) := by decide +kernel
theorem dX9_reach_27 : decode cX9_reach 27 = .ok (.getfield 15, 3) := by decide +kernel
theorem dX9_reach_30 : decode cX9_reach 30 = .ok (.aload_n 0, 1) := by decide +kernel
theorem dX9_reach_31 : decode cX9_reach 31 = .ok (.getfield 24, 3) := by decide +kernel
theorem dX9_reach_34 : decode cX9_reach 34 = .ok (.iload_n 1, 1) := by decide +kernel
theorem dX9_reach_35 : decode cX9_reach 35 = .ok (.iastore, 1) := by decide +kernel
theorem dX9_reach_36 : decode cX9_reach 36 = .ok (.aload_n 0, 1) := by decide +kernel
theorem dX9_reach_37 : decode cX9_reach 37 = .ok (.dup, 1) := by decide +kernel
theorem dX9_reach_38 : decode cX9_reach 38 = .ok (.getfield 24, 3) := by decide +kernel
theorem dX9_reach_41 : decode cX9_reach 41 = .ok (.iconst 1, 1) := by decide +kernel
theorem dX9_reach_42 : decode cX9_reach 42 = .ok (.iadd, 1) := by decide +kernel
theorem dX9_reach_43 : decode cX9_reach 43 = .ok (.putfield 24, 3) := by decide +kernel
theorem dX9_reach_46 : decode cX9_reach 46 = .ok (.return_, 1) := by decide +kernel
theorem dX10_init_0 : decode cX10_init 0 = .ok (.aload_n 0, 1) := by decide +kernel
theorem dX10_init_1 : decode cX10_init 1 = .ok (.invokespecial 1, 3) := by decide +kernel
theorem dX10_init_4 : decode cX10_init 4 = .ok (.aload_n 0, 1) := by decide +kernel
theorem dX10_init_5 : decode cX10_init 5 = .ok (.new 7, 3) := by decide +kernel
theorem dX10_init_8 : decode cX10_init 8 = .ok (.dup, 1) := by decide +kernel
theorem dX10_init_9 : decode cX10_init 9 = .ok (.invokespecial 9, 3) := by decide +kernel
theorem dX10_init_12 : decode cX10_init 12 = .ok (.putfield 10, 3) := by decide +kernel
theorem dX10_init_15 : decode cX10_init 15 = .ok (.aload_n 0, 1) := by decide +kernel
theorem dX10_init_16 : decode cX10_init 16 = .ok (.new 7, 3) := by decide +kernel
theorem dX10_init_19 : decode cX10_init 19 = .ok (.dup, 1) := by decide +kernel
theorem dX10_init_20 : decode cX10_init 20 = .ok (.invokespecial 9, 3) := by decide +kernel
theorem dX10_init_23 : decode cX10_init 23 = .ok (.putfield 16, 3) := by decide +kernel
theorem dX10_init_26 : decode cX10_init 26 = .ok (.aload_n 0, 1) := by decide +kernel
theorem dX10_init_27 : decode cX10_init 27 = .ok (.new 19, 3) := by decide +kernel
theorem dX10_init_30 : decode cX10_init 30 = .ok (.dup, 1) := by decide +kernel
theorem dX10_init_31 : decode cX10_init 31 = .ok (.invokespecial 21, 3) := by decide +kernel
theorem dX10_init_34 : decode cX10_init 34 = .ok (.putfield 22, 3) := by decide +kernel
theorem dX10_init_37 : decode cX10_init 37 = .ok (.aload_n 0, 1) := by decide +kernel
theorem dX10_init_38 : decode cX10_init 38 = .ok (.new 26, 3) := by decide +kernel
theorem dX10_init_41 : decode cX10_init 41 = .ok (.dup, 1) := by decide +kernel
theorem dX10_init_42 : decode cX10_init 42 = .ok (.invokespecial 28, 3) := by decide +kernel
theorem dX10_init_45 : decode cX10_init 45 = .ok (.putfield 29, 3) := by decide +kernel
theorem dX10_init_48 : decode cX10_init 48 = .ok (.aload_n 0, 1) := by decide +kernel
theorem dX10_init_49 : decode cX10_init 49 = .ok (.new 33, 3) := by decide +kernel
theorem dX10_init_52 : decode cX10_init 52 = .ok (.dup, 1) := by decide +kernel
theorem dX10_init_53 : decode cX10_init 53 = .ok (.invokespecial 35, 3) := by decide +kernel
theorem dX10_init_56 : decode cX10_init 56 = .ok (.putfield 36, 3) := by decide +kernel
theorem dX10_init_59 : decode cX10_init 59 = .ok (.aload_n 0, 1) := by decide +kernel
theorem dX10_init_60 : decode cX10_init 60 = .ok (.new 40, 3) := by decide +kernel
theorem dX10_init_63 : decode cX10_init 63 = .ok (.dup, 1) := by decide +kernel
theorem dX10_init_64 : decode cX10_init 64 = .ok (.invokespecial 42, 3) := by decide +kernel
theorem dX10_init_67 : decode cX10_init 67 = .ok (.putfield 43, 3) := by decide +kernel
theorem dX10_init_70 : decode cX10_init 70 = .ok (.aload_n 0, 1) := by decide +kernel
theorem dX10_init_71 : decode cX10_init 71 = .ok (.new 47, 3) := by decide +kernel
theorem dX10_init_74 : decode cX10_init 74 = .ok (.dup, 1) := by decide +kernel
theorem dX10_init_75 : decode cX10_init 75 = .ok (.aload_n 0, 1) := by decide +kernel
theorem dX10_init_76 : decode cX10_init 76 = .ok (.getfield 43, 3) := by decide +kernel
theorem dX10_init_79 : decode cX10_init 79 = .ok (.aload_n 0, 1) := by decide +kernel
theorem dX10_init_80 : decode cX10_init 80 = .ok (.getfield 29, 3) := by decide +kernel
theorem dX10_init_83 : decode cX10_init 83 = .ok (.invokespecial 49, 3) := by decide +kernel
theorem dX10_init_86 : decode cX10_init 86 = .ok (.putfield 52, 3) := by decide +kernel
theorem dX10_init_89 : decode cX10_init 89 = .ok (.return_, 1) := by decide +kernel
theorem dX10_kind_0 : decode cX10_kind 0 = .ok (.aload_n 0, 1) := by decide +kernel
theorem dX10_kind_1 : decode cX10_kind 1 = .ok (.aload_n 0, 1) := by decide +kernel
theorem dX10_kind_2 : decode cX10_kind 2 = .ok (.invokevirtual 56, 3) := by decide +kernel
theorem dX10_kind_5 : decode cX10_kind 5 = .ok (.iload_n 1, 1) := by decide +kernel
theorem dX10_kind_6 : decode cX10_kind 6 = .ok (.iload_n 2, 1) := by decide +kernel
theorem dX10_kind_7 : decode cX10_kind 7 = .ok (.invokevirtual 60, 3) := by decide +kernel
theorem dX10_kind_10 : decode cX10_kind 10 = .ok (.invokevirtual 64, 3) := by decide +kernel
theorem dX10_kind_13 : decode cX10_kind 13 = .ok (.ireturn, 1) := by decide +kernel
theorem dX10_wall_0 : decode cX10_wall 0 = .ok (.aload_n 0, 1) := by decide +kernel
theorem dX10_wall_1 : decode cX10_wall 1 = .ok (.aload_n 0, 1) := by decide +kernel
theorem dX10_wall_2 : decode cX10_wall 2 = .ok (.invokevirtual 56, 3) := by decide +kernel
theorem dX10_wall_5 : decode cX10_wall 5 = .ok (.iload_n 1, 1) := by decide +kernel
theorem dX10_wall_6 : decode cX10_wall 6 = .ok (.iload_n 2, 1) := by decide +kernel
theorem dX10_wall_7 : decode cX10_wall 7 = .ok (.invokevirtual 68, 3) := by decide +kernel
theorem dX10_wall_10 : decode cX10_wall 10 = .ok (.invokevirtual 64, 3) := by decide +kernel
theorem dX10_wall_13 : decode cX10_wall 13 = .ok (.ireturn, 1) := by decide +kernel
theorem dX10_flag_0 : decode cX10_flag 0 = .ok (.aload_n 0, 1) := by decide +kernel
theorem dX10_flag_1 : decode cX10_flag 1 = .ok (.aload_n 0, 1) := by decide +kernel
theorem dX10_flag_2 : decode cX10_flag 2 = .ok (.invokevirtual 56, 3) := by decide +kernel
theorem dX10_flag_5 : decode cX10_flag 5 = .ok (.iload_n 1, 1) := by decide +kernel
theorem dX10_flag_6 : decode cX10_flag 6 = .ok (.iload_n 2, 1) := by decide +kernel
theorem dX10_flag_7 : decode cX10_flag 7 = .ok (.invokevirtual 71, 3) := by decide +kernel
theorem dX10_flag_10 : decode cX10_flag 10 = .ok (.invokevirtual 64, 3) := by decide +kernel
theorem dX10_flag_13 : decode cX10_flag 13 = .ok (.ireturn, 1) := by decide +kernel
theorem dX10_cart_0 : decode cX10_cart 0 = .ok (.aload_n 0, 1) := by decide +kernel
theorem dX10_cart_1 : decode cX10_cart 1 = .ok (.aload_n 0, 1) := by decide +kernel
theorem dX10_cart_2 : decode cX10_cart 2 = .ok (.invokevirtual 56, 3) := by decide +kernel
theorem dX10_cart_5 : decode cX10_cart 5 = .ok (.iload_n 1, 1) := by decide +kernel
theorem dX10_cart_6 : decode cX10_cart 6 = .ok (.iload_n 2, 1) := by decide +kernel
theorem dX10_cart_7 : decode cX10_cart 7 = .ok (.invokevirtual 74, 3) := by decide +kernel
theorem dX10_cart_10 : decode cX10_cart 10 = .ok (.invokevirtual 64, 3) := by decide +kernel
theorem dX10_cart_13 : decode cX10_cart 13 = .ok (.ireturn, 1) := by decide +kernel
theorem dX10_card_0 : decode cX10_card 0 = .ok (.aload_n 0, 1) := by decide +kernel
theorem dX10_card_1 : decode cX10_card 1 = .ok (.aload_n 0, 1) := by decide +kernel
theorem dX10_card_2 : decode cX10_card 2 = .ok (.invokevirtual 56, 3) := by decide +kernel
theorem dX10_card_5 : decode cX10_card 5 = .ok (.iload_n 1, 1) := by decide +kernel
theorem dX10_card_6 : decode cX10_card 6 = .ok (.iload_n 2, 1) := by decide +kernel
theorem dX10_card_7 : decode cX10_card 7 = .ok (.iload_n 3, 1) := by decide +kernel
theorem dX10_card_8 : decode cX10_card 8 = .ok (.iload 4, 2) := by decide +kernel
theorem dX10_card_10 : decode cX10_card 10 = .ok (.invokevirtual 77, 3) := by decide +kernel
theorem dX10_card_13 : decode cX10_card 13 = .ok (.invokevirtual 64, 3) := by decide +kernel
theorem dX10_card_16 : decode cX10_card 16 = .ok (.ireturn, 1) := by decide +kernel
theorem dX10_damage_0 : decode cX10_damage 0 = .ok (.aload_n 0, 1) := by decide +kernel
theorem dX10_damage_1 : decode cX10_damage 1 = .ok (.aload_n 0, 1) := by decide +kernel
theorem dX10_damage_2 : decode cX10_damage 2 = .ok (.invokevirtual 56, 3) := by decide +kernel
theorem dX10_damage_5 : decode cX10_damage 5 = .ok (.iload_n 1, 1) := by decide +kernel
theorem dX10_damage_6 : decode cX10_damage 6 = .ok (.iload_n 2, 1) := by decide +kernel
theorem dX10_damage_7 : decode cX10_damage 7 = .ok (.invokevirtual 81, 3) := by decide +kernel
theorem dX10_damage_10 : decode cX10_damage 10 = .ok (.invokevirtual 64, 3) := by decide +kernel
theorem dX10_damage_13 : decode cX10_damage 13 = .ok (.ireturn, 1) := by decide +kernel
theorem dX10_phase_0 : decode cX10_phase 0 = .ok (.aload_n 0, 1) := by decide +kernel
theorem dX10_phase_1 : decode cX10_phase 1 = .ok (.aload_n 0, 1) := by decide +kernel
theorem dX10_phase_2 : decode cX10_phase 2 = .ok (.getfield 29, 3) := by decide +kernel
theorem dX10_phase_5 : decode cX10_phase 5 = .ok (.aload_n 0, 1) := by decide +kernel
theorem dX10_phase_6 : decode cX10_phase 6 = .ok (.invokevirtual 56, 3) := by decide +kernel
theorem dX10_phase_9 : decode cX10_phase 9 = .ok (.invokevirtual 84, 3) := by decide +kernel
theorem dX10_phase_12 : decode cX10_phase 12 = .ok (.invokevirtual 64, 3) := by decide +kernel
theorem dX10_phase_15 : decode cX10_phase 15 = .ok (.ireturn, 1) := by decide +kernel
theorem dX10_round_0 : decode cX10_round 0 = .ok (.aload_n 0, 1) := by decide +kernel
theorem dX10_round_1 : decode cX10_round 1 = .ok (.aload_n 0, 1) := by decide +kernel
theorem dX10_round_2 : decode cX10_round 2 = .ok (.getfield 29, 3) := by decide +kernel
theorem dX10_round_5 : decode cX10_round 5 = .ok (.aload_n 0, 1) := by decide +kernel
theorem dX10_round_6 : decode cX10_round 6 = .ok (.invokevirtual 56, 3) := by decide +kernel
theorem dX10_round_9 : decode cX10_round 9 = .ok (.invokevirtual 88, 3) := by decide +kernel
theorem dX10_round_12 : decode cX10_round 12 = .ok (.invokevirtual 64, 3) := by decide +kernel
theorem dX10_round_15 : decode cX10_round 15 = .ok (.ireturn, 1) := by decide +kernel
theorem dX10_cellOf_0 : decode cX10_cellOf 0 = .ok (.iload_n 1, 1) := by decide +kernel
theorem dX10_cellOf_1 : decode cX10_cellOf 1 = .ok (.invokestatic 91, 3) := by decide +kernel
theorem dX10_cellOf_4 : decode cX10_cellOf 4 = .ok (.ifCond .eq 12, 3) := by decide +kernel
theorem dX10_cellOf_7 : decode cX10_cellOf 7 = .ok (.iload_n 2, 1) := by decide +kernel
theorem dX10_cellOf_8 : decode cX10_cellOf 8 = .ok (.iconst 0, 1) := by decide +kernel
theorem dX10_cellOf_9 : decode cX10_cellOf 9 = .ok (.iconst 3, 1) := by decide +kernel
theorem dX10_cellOf_10 : decode cX10_cellOf 10 = .ok (.invokestatic 95, 3) := by decide +kernel
theorem dX10_cellOf_13 : decode cX10_cellOf 13 = .ok (.ifCond .ne 6, 3) := by decide +kernel
theorem dX10_cellOf_16 : decode cX10_cellOf 16 = .ok (.ldc 99, 2) := by decide +kernel
theorem dX10_cellOf_18 : decode cX10_cellOf 18 = .ok (.ireturn, 1) := by decide +kernel
theorem dX10_cellOf_19 : decode cX10_cellOf 19 = .ok (.aload_n 0, 1) := by decide +kernel
theorem dX10_cellOf_20 : decode cX10_cellOf 20 = .ok (.getfield 10, 3) := by decide +kernel
theorem dX10_cellOf_23 : decode cX10_cellOf 23 = .ok (.iload_n 1, 1) := by decide +kernel
theorem dX10_cellOf_24 : decode cX10_cellOf 24 = .ok (.iload_n 2, 1) := by decide +kernel
theorem dX10_cellOf_25 : decode cX10_cellOf 25 = .ok (.invokevirtual 100, 3) := by decide +kernel
theorem dX10_cellOf_28 : decode cX10_cellOf 28 = .ok (.ireturn, 1) := by decide +kernel
theorem dX10_cartOf_0 : decode cX10_cartOf 0 = .ok (.aload_n 0, 1) := by decide +kernel
theorem dX10_cartOf_1 : decode cX10_cartOf 1 = .ok (.getfield 10, 3) := by decide +kernel
theorem dX10_cartOf_4 : decode cX10_cartOf 4 = .ok (.iload_n 1, 1) := by decide +kernel
theorem dX10_cartOf_5 : decode cX10_cartOf 5 = .ok (.invokevirtual 103, 3) := by decide +kernel
theorem dX10_cartOf_8 : decode cX10_cartOf 8 = .ok (.ifCond .eq 13, 3) := by decide +kernel
theorem dX10_cartOf_11 : decode cX10_cartOf 11 = .ok (.iload_n 2, 1) := by decide +kernel
theorem dX10_cartOf_12 : decode cX10_cartOf 12 = .ok (.iconst 0, 1) := by decide +kernel
theorem dX10_cartOf_13 : decode cX10_cartOf 13 = .ok (.bipush 8, 2) := by decide +kernel
theorem dX10_cartOf_15 : decode cX10_cartOf 15 = .ok (.invokestatic 95, 3) := by decide +kernel
theorem dX10_cartOf_18 : decode cX10_cartOf 18 = .ok (.ifCond .ne 6, 3) := by decide +kernel
theorem dX10_cartOf_21 : decode cX10_cartOf 21 = .ok (.ldc 99, 2) := by decide +kernel
theorem dX10_cartOf_23 : decode cX10_cartOf 23 = .ok (.ireturn, 1) := by decide +kernel
theorem dX10_cartOf_24 : decode cX10_cartOf 24 = .ok (.aload_n 0, 1) := by decide +kernel
theorem dX10_cartOf_25 : decode cX10_cartOf 25 = .ok (.getfield 10, 3) := by decide +kernel
theorem dX10_cartOf_28 : decode cX10_cartOf 28 = .ok (.getfield 106, 3) := by decide +kernel
theorem dX10_cartOf_31 : decode cX10_cartOf 31 = .ok (.iload_n 1, 1) := by decide +kernel
theorem dX10_cartOf_32 : decode cX10_cartOf 32 = .ok (.aaload, 1) := by decide +kernel
theorem dX10_cartOf_33 : decode cX10_cartOf 33 = .ok (.iload_n 2, 1) := by decide +kernel
theorem dX10_cartOf_34 : decode cX10_cartOf 34 = .ok (.invokevirtual 110, 3) := by decide +kernel
theorem dX10_cartOf_37 : decode cX10_cartOf 37 = .ok (.ireturn, 1) := by decide +kernel
theorem dX10_cardOf_0 : decode cX10_cardOf 0 = .ok (.aload_n 0, 1) := by decide +kernel
theorem dX10_cardOf_1 : decode cX10_cardOf 1 = .ok (.getfield 10, 3) := by decide +kernel
theorem dX10_cardOf_4 : decode cX10_cardOf 4 = .ok (.iload_n 1, 1) := by decide +kernel
theorem dX10_cardOf_5 : decode cX10_cardOf 5 = .ok (.invokevirtual 103, 3) := by decide +kernel
theorem dX10_cardOf_8 : decode cX10_cardOf 8 = .ok (.ifCond .eq 19, 3) := by decide +kernel
theorem dX10_cardOf_11 : decode cX10_cardOf 11 = .ok (.iload_n 2, 1) := by decide +kernel
theorem dX10_cardOf_12 : decode cX10_cardOf 12 = .ok (.invokestatic 115, 3) := by decide +kernel
theorem dX10_cardOf_15 : decode cX10_cardOf 15 = .ok (.ifCond .eq 12, 3) := by decide +kernel
theorem dX10_cardOf_18 : decode cX10_cardOf 18 = .ok (.iload_n 3, 1) := by decide +kernel
theorem dX10_cardOf_19 : decode cX10_cardOf 19 = .ok (.iconst 0, 1) := by decide +kernel
theorem dX10_cardOf_20 : decode cX10_cardOf 20 = .ok (.iconst 1, 1) := by decide +kernel
theorem dX10_cardOf_21 : decode cX10_cardOf 21 = .ok (.invokestatic 95, 3) := by decide +kernel
theorem dX10_cardOf_24 : decode cX10_cardOf 24 = .ok (.ifCond .ne 6, 3) := by decide +kernel
theorem dX10_cardOf_27 : decode cX10_cardOf 27 = .ok (.ldc 99, 2) := by decide +kernel
theorem dX10_cardOf_29 : decode cX10_cardOf 29 = .ok (.ireturn, 1) := by decide +kernel
theorem dX10_cardOf_30 : decode cX10_cardOf 30 = .ok (.aload_n 0, 1) := by decide +kernel
theorem dX10_cardOf_31 : decode cX10_cardOf 31 = .ok (.getfield 10, 3) := by decide +kernel
theorem dX10_cardOf_34 : decode cX10_cardOf 34 = .ok (.getfield 106, 3) := by decide +kernel
theorem dX10_cardOf_37 : decode cX10_cardOf 37 = .ok (.iload_n 1, 1) := by decide +kernel
theorem dX10_cardOf_38 : decode cX10_cardOf 38 = .ok (.aaload, 1) := by decide +kernel
theorem dX10_cardOf_39 : decode cX10_cardOf 39 = .ok (.astore 4, 2) := by decide +kernel
theorem dX10_cardOf_41 : decode cX10_cardOf 41 = .ok (.aload 4, 2) := by decide +kernel
theorem dX10_cardOf_43 : decode cX10_cardOf 43 = .ok (.iload_n 2, 1) := by decide +kernel
theorem dX10_cardOf_44 : decode cX10_cardOf 44 = .ok (.invokevirtual 118, 3) := by decide +kernel
theorem dX10_cardOf_47 : decode cX10_cardOf 47 = .ok (.ifCond .ne 6, 3) := by decide +kernel
theorem dX10_cardOf_50 : decode cX10_cardOf 50 = .ok (.ldc 121, 2) := by decide +kernel
theorem dX10_cardOf_52 : decode cX10_cardOf 52 = .ok (.ireturn, 1) := by decide +kernel
theorem dX10_cardOf_53 : decode cX10_cardOf 53 = .ok (.iload_n 3, 1) := by decide +kernel
theorem dX10_cardOf_54 : decode cX10_cardOf 54 = .ok (.ifCond .ne 13, 3) := by decide +kernel
theorem dX10_cardOf_57 : decode cX10_cardOf 57 = .ok (.aload 4, 2) := by decide +kernel
theorem dX10_cardOf_59 : decode cX10_cardOf 59 = .ok (.getfield 122, 3) := by decide +kernel
theorem dX10_cardOf_62 : decode cX10_cardOf 62 = .ok (.iload_n 2, 1) := by decide +kernel
theorem dX10_cardOf_63 : decode cX10_cardOf 63 = .ok (.iaload, 1) := by decide +kernel
theorem dX10_cardOf_64 : decode cX10_cardOf 64 = .ok (.goto 10, 3) := by decide +kernel
theorem dX10_cardOf_67 : decode cX10_cardOf 67 = .ok (.aload 4, 2) := by decide +kernel
theorem dX10_cardOf_69 : decode cX10_cardOf 69 = .ok (.getfield 126, 3) := by decide +kernel
theorem dX10_cardOf_72 : decode cX10_cardOf 72 = .ok (.iload_n 2, 1) := by decide +kernel
theorem dX10_cardOf_73 : decode cX10_cardOf 73 = .ok (.iaload, 1) := by decide +kernel
theorem dX10_cardOf_74 : decode cX10_cardOf 74 = .ok (.ireturn, 1) := by decide +kernel
theorem dX10_turn_0 : decode cX10_turn 0 = .ok (.iload_n 1, 1) := by decide +kernel
theorem dX10_turn_1 : decode cX10_turn 1 = .ok (.ifCond .ge 6, 3) := by decide +kernel
theorem dX10_turn_4 : decode cX10_turn 4 = .ok (.ldc 99, 2) := by decide +kernel
theorem dX10_turn_6 : decode cX10_turn 6 = .ok (.ireturn, 1) := by decide +kernel
theorem dX10_turn_7 : decode cX10_turn 7 = .ok (.aload_n 0, 1) := by decide +kernel
theorem dX10_turn_8 : decode cX10_turn 8 = .ok (.getfield 29, 3) := by decide +kernel
theorem dX10_turn_11 : decode cX10_turn 11 = .ok (.aload_n 0, 1) := by decide +kernel
theorem dX10_turn_12 : decode cX10_turn 12 = .ok (.getfield 10, 3) := by decide +kernel
theorem dX10_turn_15 : decode cX10_turn 15 = .ok (.iload_n 1, 1) := by decide +kernel
theorem dX10_turn_16 : decode cX10_turn 16 = .ok (.invokevirtual 129, 3) := by decide +kernel
theorem dX10_turn_19 : decode cX10_turn 19 = .ok (.ireturn, 1) := by decide +kernel
theorem dX10_would_0 : decode cX10_would 0 = .ok (.aload_n 0, 1) := by decide +kernel
theorem dX10_would_1 : decode cX10_would 1 = .ok (.getfield 10, 3) := by decide +kernel
theorem dX10_would_4 : decode cX10_would 4 = .ok (.iload_n 1, 1) := by decide +kernel
theorem dX10_would_5 : decode cX10_would 5 = .ok (.invokevirtual 103, 3) := by decide +kernel
theorem dX10_would_8 : decode cX10_would 8 = .ok (.ifCond .eq 22, 3) := by decide +kernel
theorem dX10_would_11 : decode cX10_would 11 = .ok (.iload_n 2, 1) := by decide +kernel
theorem dX10_would_12 : decode cX10_would 12 = .ok (.iconst 0, 1) := by decide +kernel
theorem dX10_would_13 : decode cX10_would 13 = .ok (.bipush 20, 2) := by decide +kernel
theorem dX10_would_15 : decode cX10_would 15 = .ok (.invokestatic 95, 3) := by decide +kernel
theorem dX10_would_18 : decode cX10_would 18 = .ok (.ifCond .eq 12, 3) := by decide +kernel
theorem dX10_would_21 : decode cX10_would 21 = .ok (.iload_n 3, 1) := by decide +kernel
theorem dX10_would_22 : decode cX10_would 22 = .ok (.iconst 0, 1) := by decide +kernel
theorem dX10_would_23 : decode cX10_would 23 = .ok (.iconst 3, 1) := by decide +kernel
theorem dX10_would_24 : decode cX10_would 24 = .ok (.invokestatic 95, 3) := by decide +kernel
theorem dX10_would_27 : decode cX10_would 27 = .ok (.ifCond .ne 6, 3) := by decide +kernel
theorem dX10_would_30 : decode cX10_would 30 = .ok (.ldc 99, 2) := by decide +kernel
theorem dX10_would_32 : decode cX10_would 32 = .ok (.ireturn, 1) := by decide +kernel
theorem dX10_would_33 : decode cX10_would 33 = .ok (.aload_n 0, 1) := by decide +kernel
theorem dX10_would_34 : decode cX10_would 34 = .ok (.invokevirtual 56, 3) := by decide +kernel
theorem dX10_would_37 : decode cX10_would 37 = .ok (.astore 4, 2) := by decide +kernel
theorem dX10_would_39 : decode cX10_would 39 = .ok (.iconst 0, 1) := by decide +kernel
theorem dX10_would_40 : decode cX10_would 40 = .ok (.istore 5, 2) := by decide +kernel
theorem dX10_would_42 : decode cX10_would 42 = .ok (.iload 5, 2) := by decide +kernel
theorem dX10_would_44 : decode cX10_would 44 = .ok (.iload_n 2, 1) := by decide +kernel
theorem dX10_would_45 : decode cX10_would 45 = .ok (.if_icmp .ge 19, 3) := by decide +kernel
theorem dX10_would_48 : decode cX10_would 48 = .ok (.aload_n 0, 1) := by decide +kernel
theorem dX10_would_49 : decode cX10_would 49 = .ok (.getfield 29, 3) := by decide +kernel
theorem dX10_would_52 : decode cX10_would 52 = .ok (.aload 4, 2) := by decide +kernel
theorem dX10_would_54 : decode cX10_would 54 = .ok (.invokevirtual 84, 3) := by decide +kernel
theorem dX10_would_57 : decode cX10_would 57 = .ok (.pop, 1) := by decide +kernel
theorem dX10_would_58 : decode cX10_would 58 = .ok (.iinc 5 1, 3) := by decide +kernel
theorem dX10_would_61 : decode cX10_would 61 = .ok (.goto (-19), 3) := by decide +kernel
theorem dX10_would_64 : decode cX10_would 64 = .ok (.aload 4, 2) := by decide +kernel
theorem dX10_would_66 : decode cX10_would 66 = .ok (.getfield 106, 3) := by decide +kernel
theorem dX10_would_69 : decode cX10_would 69 = .ok (.iload_n 1, 1) := by decide +kernel
theorem dX10_would_70 : decode cX10_would 70 = .ok (.aaload, 1) := by decide +kernel
theorem dX10_would_71 : decode cX10_would 71 = .ok (.iload_n 3, 1) := by decide +kernel
theorem dX10_would_72 : decode cX10_would 72 = .ok (.invokevirtual 110, 3) := by decide +kernel
theorem dX10_would_75 : decode cX10_would 75 = .ok (.ireturn, 1) := by decide +kernel
theorem dX10_best_0 : decode cX10_best 0 = .ok (.aload_n 0, 1) := by decide +kernel
theorem dX10_best_1 : decode cX10_best 1 = .ok (.getfield 10, 3) := by decide +kernel
theorem dX10_best_4 : decode cX10_best 4 = .ok (.iload_n 1, 1) := by decide +kernel
theorem dX10_best_5 : decode cX10_best 5 = .ok (.invokevirtual 103, 3) := by decide +kernel
theorem dX10_best_8 : decode cX10_best 8 = .ok (.ifCond .eq 23, 3) := by decide +kernel
theorem dX10_best_11 : decode cX10_best 11 = .ok (.iload_n 2, 1) := by decide +kernel
theorem dX10_best_12 : decode cX10_best 12 = .ok (.iconst 1, 1) := by decide +kernel
theorem dX10_best_13 : decode cX10_best 13 = .ok (.sipush 999, 3) := by decide +kernel
theorem dX10_best_16 : decode cX10_best 16 = .ok (.invokestatic 95, 3) := by decide +kernel
theorem dX10_best_19 : decode cX10_best 19 = .ok (.ifCond .eq 12, 3) := by decide +kernel
theorem dX10_best_22 : decode cX10_best 22 = .ok (.iload_n 3, 1) := by decide +kernel
theorem dX10_best_23 : decode cX10_best 23 = .ok (.iconst 0, 1) := by decide +kernel
theorem dX10_best_24 : decode cX10_best 24 = .ok (.iconst 1, 1) := by decide +kernel
theorem dX10_best_25 : decode cX10_best 25 = .ok (.invokestatic 95, 3) := by decide +kernel
theorem dX10_best_28 : decode cX10_best 28 = .ok (.ifCond .ne 6, 3) := by decide +kernel
theorem dX10_best_31 : decode cX10_best 31 = .ok (.ldc 99, 2) := by decide +kernel
theorem dX10_best_33 : decode cX10_best 33 = .ok (.ireturn, 1) := by decide +kernel
theorem dX10_best_34 : decode cX10_best 34 = .ok (.aload_n 0, 1) := by decide +kernel
theorem dX10_best_35 : decode cX10_best 35 = .ok (.getfield 10, 3) := by decide +kernel
theorem dX10_best_38 : decode cX10_best 38 = .ok (.getfield 106, 3) := by decide +kernel
theorem dX10_best_41 : decode cX10_best 41 = .ok (.iload_n 1, 1) := by decide +kernel
theorem dX10_best_42 : decode cX10_best 42 = .ok (.aaload, 1) := by decide +kernel
theorem dX10_best_43 : decode cX10_best 43 = .ok (.astore 4, 2) := by decide +kernel
theorem dX10_best_45 : decode cX10_best 45 = .ok (.aload 4, 2) := by decide +kernel
theorem dX10_best_47 : decode cX10_best 47 = .ok (.invokevirtual 133, 3) := by decide +kernel
theorem dX10_best_50 : decode cX10_best 50 = .ok (.ifCond .ne 36, 3) := by decide +kernel
theorem dX10_best_53 : decode cX10_best 53 = .ok (.aload 4, 2) := by decide +kernel
theorem dX10_best_55 : decode cX10_best 55 = .ok (.aload_n 0, 1) := by decide +kernel
theorem dX10_best_56 : decode cX10_best 56 = .ok (.getfield 10, 3) := by decide +kernel
theorem dX10_best_59 : decode cX10_best 59 = .ok (.getfield 137, 3) := by decide +kernel
theorem dX10_best_62 : decode cX10_best 62 = .ok (.invokevirtual 141, 3) := by decide +kernel
theorem dX10_best_65 : decode cX10_best 65 = .ok (.ifCond .ne 21, 3) := by decide +kernel
theorem dX10_best_68 : decode cX10_best 68 = .ok (.aload 4, 2) := by decide +kernel
theorem dX10_best_70 : decode cX10_best 70 = .ok (.getfield 144, 3) := by decide +kernel
theorem dX10_best_73 : decode cX10_best 73 = .ok (.aload_n 0, 1) := by decide +kernel
theorem dX10_best_74 : decode cX10_best 74 = .ok (.getfield 10, 3) := by decide +kernel
theorem dX10_best_77 : decode cX10_best 77 = .ok (.getfield 147, 3) := by decide +kernel
theorem dX10_best_80 : decode cX10_best 80 = .ok (.getfield 151, 3) := by decide +kernel
theorem dX10_best_83 : decode cX10_best 83 = .ok (.if_icmp .lt 6, 3) := by decide +kernel
theorem dX10_best_86 : decode cX10_best 86 = .ok (.ldc 156, 2) := by decide +kernel
theorem dX10_best_88 : decode cX10_best 88 = .ok (.ireturn, 1) := by decide +kernel
theorem dX10_best_89 : decode cX10_best 89 = .ok (.aload_n 0, 1) := by decide +kernel
theorem dX10_best_90 : decode cX10_best 90 = .ok (.getfield 10, 3) := by decide +kernel
theorem dX10_best_93 : decode cX10_best 93 = .ok (.getfield 147, 3) := by decide +kernel
theorem dX10_best_96 : decode cX10_best 96 = .ok (.getfield 157, 3) := by decide +kernel
theorem dX10_best_99 : decode cX10_best 99 = .ok (.aload 4, 2) := by decide +kernel
theorem dX10_best_101 : decode cX10_best 101 = .ok (.getfield 144, 3) := by decide +kernel
theorem dX10_best_104 : decode cX10_best 104 = .ok (.iaload, 1) := by decide +kernel
theorem dX10_best_105 : decode cX10_best 105 = .ok (.istore 5, 2) := by decide +kernel
theorem dX10_best_107 : decode cX10_best 107 = .ok (.iconst (-1), 1) := by decide +kernel
theorem dX10_best_108 : decode cX10_best 108 = .ok (.istore 6, 2) := by decide +kernel
theorem dX10_best_110 : decode cX10_best 110 = .ok (.iconst (-1), 1) := by decide +kernel
theorem dX10_best_111 : decode cX10_best 111 = .ok (.istore 7, 2) := by decide +kernel
theorem dX10_best_113 : decode cX10_best 113 = .ok (.iconst 0, 1) := by decide +kernel
theorem dX10_best_114 : decode cX10_best 114 = .ok (.istore 8, 2) := by decide +kernel
theorem dX10_best_116 : decode cX10_best 116 = .ok (.iload 8, 2) := by decide +kernel
theorem dX10_best_118 : decode cX10_best 118 = .ok (.bipush 6, 2) := by decide +kernel
theorem dX10_best_120 : decode cX10_best 120 = .ok (.if_icmp .gt 48, 3) := by decide +kernel
theorem dX10_best_123 : decode cX10_best 123 = .ok (.aload_n 0, 1) := by decide +kernel
theorem dX10_best_124 : decode cX10_best 124 = .ok (.iload_n 1, 1) := by decide +kernel
theorem dX10_best_125 : decode cX10_best 125 = .ok (.iload 8, 2) := by decide +kernel
theorem dX10_best_127 : decode cX10_best 127 = .ok (.iload_n 2, 1) := by decide +kernel
theorem dX10_best_128 : decode cX10_best 128 = .ok (.iload 5, 2) := by decide +kernel
theorem dX10_best_130 : decode cX10_best 130 = .ok (.invokevirtual 160, 3) := by decide +kernel
theorem dX10_best_133 : decode cX10_best 133 = .ok (.istore 9, 2) := by decide +kernel
theorem dX10_best_135 : decode cX10_best 135 = .ok (.iload 9, 2) := by decide +kernel
theorem dX10_best_137 : decode cX10_best 137 = .ok (.iconst (-1), 1) := by decide +kernel
theorem dX10_best_138 : decode cX10_best 138 = .ok (.if_icmp .eq 24, 3) := by decide +kernel
theorem dX10_best_141 : decode cX10_best 141 = .ok (.iload 7, 2) := by decide +kernel
theorem dX10_best_143 : decode cX10_best 143 = .ok (.iconst (-1), 1) := by decide +kernel
theorem dX10_best_144 : decode cX10_best 144 = .ok (.if_icmp .eq 10, 3) := by decide +kernel
theorem dX10_best_147 : decode cX10_best 147 = .ok (.iload 9, 2) := by decide +kernel
theorem dX10_best_149 : decode cX10_best 149 = .ok (.iload 7, 2) := by decide +kernel
theorem dX10_best_151 : decode cX10_best 151 = .ok (.if_icmp .ge 11, 3) := by decide +kernel
theorem dX10_best_154 : decode cX10_best 154 = .ok (.iload 8, 2) := by decide +kernel
theorem dX10_best_156 : decode cX10_best 156 = .ok (.istore 6, 2) := by decide +kernel
theorem dX10_best_158 : decode cX10_best 158 = .ok (.iload 9, 2) := by decide +kernel
theorem dX10_best_160 : decode cX10_best 160 = .ok (.istore 7, 2) := by decide +kernel
theorem dX10_best_162 : decode cX10_best 162 = .ok (.iinc 8 1, 3) := by decide +kernel
theorem dX10_best_165 : decode cX10_best 165 = .ok (.goto (-49), 3) := by decide +kernel
theorem dX10_best_168 : decode cX10_best 168 = .ok (.iload 6, 2) := by decide +kernel
theorem dX10_best_170 : decode cX10_best 170 = .ok (.iconst (-1), 1) := by decide +kernel
theorem dX10_best_171 : decode cX10_best 171 = .ok (.if_icmp .ne 6, 3) := by decide +kernel
theorem dX10_best_174 : decode cX10_best 174 = .ok (.ldc 121, 2) := by decide +kernel
theorem dX10_best_176 : decode cX10_best 176 = .ok (.ireturn, 1) := by decide +kernel
theorem dX10_best_177 : decode cX10_best 177 = .ok (.iload_n 3, 1) := by decide +kernel
theorem dX10_best_178 : decode cX10_best 178 = .ok (.ifCond .ne 8, 3) := by decide +kernel
theorem dX10_best_181 : decode cX10_best 181 = .ok (.iload 6, 2) := by decide +kernel
theorem dX10_best_183 : decode cX10_best 183 = .ok (.goto 5, 3) := by decide +kernel
theorem dX10_best_186 : decode cX10_best 186 = .ok (.iload 7, 2) := by decide +kernel
theorem dX10_best_188 : decode cX10_best 188 = .ok (.ireturn, 1) := by decide +kernel
theorem dX10_steps_0 : decode cX10_steps 0 = .ok (.iload_n 1, 1) := by decide +kernel
theorem dX10_steps_1 : decode cX10_steps 1 = .ok (.invokestatic 91, 3) := by decide +kernel
theorem dX10_steps_4 : decode cX10_steps 4 = .ok (.ifCond .eq 10, 3) := by decide +kernel
theorem dX10_steps_7 : decode cX10_steps 7 = .ok (.iload_n 2, 1) := by decide +kernel
theorem dX10_steps_8 : decode cX10_steps 8 = .ok (.invokestatic 91, 3) := by decide +kernel
theorem dX10_steps_11 : decode cX10_steps 11 = .ok (.ifCond .ne 6, 3) := by decide +kernel
theorem dX10_steps_14 : decode cX10_steps 14 = .ok (.ldc 99, 2) := by decide +kernel
theorem dX10_steps_16 : decode cX10_steps 16 = .ok (.ireturn, 1) := by decide +kernel
theorem dX10_steps_17 : decode cX10_steps 17 = .ok (.aload_n 0, 1) := by decide +kernel
theorem dX10_steps_18 : decode cX10_steps 18 = .ok (.getfield 36, 3) := by decide +kernel
theorem dX10_steps_21 : decode cX10_steps 21 = .ok (.aload_n 0, 1) := by decide +kernel
theorem dX10_steps_22 : decode cX10_steps 22 = .ok (.getfield 10, 3) := by decide +kernel
theorem dX10_steps_25 : decode cX10_steps 25 = .ok (.getfield 147, 3) := by decide +kernel
theorem dX10_steps_28 : decode cX10_steps 28 = .ok (.iload_n 1, 1) := by decide +kernel
theorem dX10_steps_29 : decode cX10_steps 29 = .ok (.iload_n 2, 1) := by decide +kernel
theorem dX10_steps_30 : decode cX10_steps 30 = .ok (.invokevirtual 163, 3) := by decide +kernel
theorem dX10_steps_33 : decode cX10_steps 33 = .ok (.ireturn, 1) := by decide +kernel
theorem dX10_count_0 : decode cX10_count 0 = .ok (.iload_n 1, 1) := by decide +kernel
theorem dX10_count_1 : decode cX10_count 1 = .ok (.tableswitch 154 0 9 #[55, 63, 71, 79, 90, 98, 122, 130, 138, 146], 55) := by decide +kernel
theorem dX10_count_56 : decode cX10_count 56 = .ok (.aload_n 0, 1) := by decide +kernel
theorem dX10_count_57 : decode cX10_count 57 = .ok (.getfield 10, 3) := by decide +kernel
theorem dX10_count_60 : decode cX10_count 60 = .ok (.getfield 167, 3) := by decide +kernel
theorem dX10_count_63 : decode cX10_count 63 = .ok (.ireturn, 1) := by decide +kernel
theorem dX10_count_64 : decode cX10_count 64 = .ok (.aload_n 0, 1) := by decide +kernel
theorem dX10_count_65 : decode cX10_count 65 = .ok (.getfield 10, 3) := by decide +kernel
theorem dX10_count_68 : decode cX10_count 68 = .ok (.getfield 137, 3) := by decide +kernel
theorem dX10_count_71 : decode cX10_count 71 = .ok (.ireturn, 1) := by decide +kernel
theorem dX10_count_72 : decode cX10_count 72 = .ok (.aload_n 0, 1) := by decide +kernel
theorem dX10_count_73 : decode cX10_count 73 = .ok (.getfield 10, 3) := by decide +kernel
theorem dX10_count_76 : decode cX10_count 76 = .ok (.getfield 170, 3) := by decide +kernel
theorem dX10_count_79 : decode cX10_count 79 = .ok (.ireturn, 1) := by decide +kernel
theorem dX10_count_80 : decode cX10_count 80 = .ok (.aload_n 0, 1) := by decide +kernel
theorem dX10_count_81 : decode cX10_count 81 = .ok (.getfield 10, 3) := by decide +kernel
theorem dX10_count_84 : decode cX10_count 84 = .ok (.getfield 147, 3) := by decide +kernel
theorem dX10_count_87 : decode cX10_count 87 = .ok (.getfield 151, 3) := by decide +kernel
theorem dX10_count_90 : decode cX10_count 90 = .ok (.ireturn, 1) := by decide +kernel
theorem dX10_count_91 : decode cX10_count 91 = .ok (.aload_n 0, 1) := by decide +kernel
theorem dX10_count_92 : decode cX10_count 92 = .ok (.getfield 10, 3) := by decide +kernel
theorem dX10_count_95 : decode cX10_count 95 = .ok (.invokevirtual 173, 3) := by decide +kernel
theorem dX10_count_98 : decode cX10_count 98 = .ok (.ireturn, 1) := by decide +kernel
theorem dX10_count_99 : decode cX10_count 99 = .ok (.aload_n 0, 1) := by decide +kernel
theorem dX10_count_100 : decode cX10_count 100 = .ok (.getfield 10, 3) := by decide +kernel
theorem dX10_count_103 : decode cX10_count 103 = .ok (.getfield 177, 3) := by decide +kernel
theorem dX10_count_106 : decode cX10_count 106 = .ok (.iconst (-1), 1) := by decide +kernel
theorem dX10_count_107 : decode cX10_count 107 = .ok (.if_icmp .ne 8, 3) := by decide +kernel
theorem dX10_count_110 : decode cX10_count 110 = .ok (.ldc 121, 2) := by decide +kernel
theorem dX10_count_112 : decode cX10_count 112 = .ok (.goto 10, 3) := by decide +kernel
theorem dX10_count_115 : decode cX10_count 115 = .ok (.aload_n 0, 1) := by decide +kernel
theorem dX10_count_116 : decode cX10_count 116 = .ok (.getfield 10, 3) := by decide +kernel
theorem dX10_count_119 : decode cX10_count 119 = .ok (.getfield 177, 3) := by decide +kernel
theorem dX10_count_122 : decode cX10_count 122 = .ok (.ireturn, 1) := by decide +kernel
theorem dX10_count_123 : decode cX10_count 123 = .ok (.aload_n 0, 1) := by decide +kernel
theorem dX10_count_124 : decode cX10_count 124 = .ok (.getfield 10, 3) := by decide +kernel
theorem dX10_count_127 : decode cX10_count 127 = .ok (.getfield 180, 3) := by decide +kernel
theorem dX10_count_130 : decode cX10_count 130 = .ok (.ireturn, 1) := by decide +kernel
theorem dX10_count_131 : decode cX10_count 131 = .ok (.aload_n 0, 1) := by decide +kernel
theorem dX10_count_132 : decode cX10_count 132 = .ok (.getfield 22, 3) := by decide +kernel
theorem dX10_count_135 : decode cX10_count 135 = .ok (.getfield 183, 3) := by decide +kernel
theorem dX10_count_138 : decode cX10_count 138 = .ok (.ireturn, 1) := by decide +kernel
theorem dX10_count_139 : decode cX10_count 139 = .ok (.aload_n 0, 1) := by decide +kernel
theorem dX10_count_140 : decode cX10_count 140 = .ok (.getfield 43, 3) := by decide +kernel
theorem dX10_count_143 : decode cX10_count 143 = .ok (.getfield 186, 3) := by decide +kernel
theorem dX10_count_146 : decode cX10_count 146 = .ok (.ireturn, 1) := by decide +kernel
theorem dX10_count_147 : decode cX10_count 147 = .ok (.aload_n 0, 1) := by decide +kernel
theorem dX10_count_148 : decode cX10_count 148 = .ok (.getfield 10, 3) := by decide +kernel
theorem dX10_count_151 : decode cX10_count 151 = .ok (.getfield 189, 3) := by decide +kernel
theorem dX10_count_154 : decode cX10_count 154 = .ok (.ireturn, 1) := by decide +kernel
theorem dX10_count_155 : decode cX10_count 155 = .ok (.ldc 99, 2) := by decide +kernel
theorem dX10_count_157 : decode cX10_count 157 = .ok (.ireturn, 1) := by decide +kernel
theorem dX10_undo_0 : decode cX10_undo 0 = .ok (.aload_n 0, 1) := by decide +kernel
theorem dX10_undo_1 : decode cX10_undo 1 = .ok (.getfield 22, 3) := by decide +kernel
theorem dX10_undo_4 : decode cX10_undo 4 = .ok (.getfield 183, 3) := by decide +kernel
theorem dX10_undo_7 : decode cX10_undo 7 = .ok (.ifCond .ne 6, 3) := by decide +kernel
theorem dX10_undo_10 : decode cX10_undo 10 = .ok (.ldc 156, 2) := by decide +kernel
theorem dX10_undo_12 : decode cX10_undo 12 = .ok (.ireturn, 1) := by decide +kernel
theorem dX10_undo_13 : decode cX10_undo 13 = .ok (.aload_n 0, 1) := by decide +kernel
theorem dX10_undo_14 : decode cX10_undo 14 = .ok (.getfield 22, 3) := by decide +kernel
theorem dX10_undo_17 : decode cX10_undo 17 = .ok (.aload_n 0, 1) := by decide +kernel
theorem dX10_undo_18 : decode cX10_undo 18 = .ok (.getfield 10, 3) := by decide +kernel
theorem dX10_undo_21 : decode cX10_undo 21 = .ok (.invokevirtual 192, 3) := by decide +kernel
theorem dX10_undo_24 : decode cX10_undo 24 = .ok (.aload_n 0, 1) := by decide +kernel
theorem dX10_undo_25 : decode cX10_undo 25 = .ok (.getfield 22, 3) := by decide +kernel
theorem dX10_undo_28 : decode cX10_undo 28 = .ok (.getfield 183, 3) := by decide +kernel
theorem dX10_undo_31 : decode cX10_undo 31 = .ok (.ireturn, 1) := by decide +kernel
theorem dX10_type_0 : decode cX10_type 0 = .ok (.iload_n 1, 1) := by decide +kernel
theorem dX10_type_1 : decode cX10_type 1 = .ok (.bipush 32, 2) := by decide +kernel
theorem dX10_type_3 : decode cX10_type 3 = .ok (.bipush 126, 2) := by decide +kernel
theorem dX10_type_5 : decode cX10_type 5 = .ok (.invokestatic 95, 3) := by decide +kernel
theorem dX10_type_8 : decode cX10_type 8 = .ok (.ifCond .ne 6, 3) := by decide +kernel
theorem dX10_type_11 : decode cX10_type 11 = .ok (.ldc 99, 2) := by decide +kernel
theorem dX10_type_13 : decode cX10_type 13 = .ok (.ireturn, 1) := by decide +kernel
theorem dX10_type_14 : decode cX10_type 14 = .ok (.aload_n 0, 1) := by decide +kernel
theorem dX10_type_15 : decode cX10_type 15 = .ok (.getfield 43, 3) := by decide +kernel
theorem dX10_type_18 : decode cX10_type 18 = .ok (.iload_n 1, 1) := by decide +kernel
theorem dX10_type_19 : decode cX10_type 19 = .ok (.i2c, 1) := by decide +kernel
theorem dX10_type_20 : decode cX10_type 20 = .ok (.invokevirtual 196, 3) := by decide +kernel
theorem dX10_type_23 : decode cX10_type 23 = .ok (.ireturn, 1) := by decide +kernel
theorem dX10_clearText_0 : decode cX10_clearText 0 = .ok (.aload_n 0, 1) := by decide +kernel
theorem dX10_clearText_1 : decode cX10_clearText 1 = .ok (.getfield 43, 3) := by decide +kernel
theorem dX10_clearText_4 : decode cX10_clearText 4 = .ok (.getfield 186, 3) := by decide +kernel
theorem dX10_clearText_7 : decode cX10_clearText 7 = .ok (.istore_n 1, 1) := by decide +kernel
theorem dX10_clearText_8 : decode cX10_clearText 8 = .ok (.aload_n 0, 1) := by decide +kernel
theorem dX10_clearText_9 : decode cX10_clearText 9 = .ok (.getfield 43, 3) := by decide +kernel
theorem dX10_clearText_12 : decode cX10_clearText 12 = .ok (.iconst 0, 1) := by decide +kernel
theorem dX10_clearText_13 : decode cX10_clearText 13 = .ok (.putfield 186, 3) := by decide +kernel
theorem dX10_clearText_16 : decode cX10_clearText 16 = .ok (.iload_n 1, 1) := by decide +kernel
theorem dX10_clearText_17 : decode cX10_clearText 17 = .ok (.ireturn, 1) := by decide +kernel
theorem dX10_fault_0 : decode cX10_fault 0 = .ok (.iload_n 1, 1) := by decide +kernel
theorem dX10_fault_1 : decode cX10_fault 1 = .ok (.iconst 0, 1) := by decide +kernel
theorem dX10_fault_2 : decode cX10_fault 2 = .ok (.iconst 2, 1) := by decide +kernel
theorem dX10_fault_3 : decode cX10_fault 3 = .ok (.invokestatic 95, 3) := by decide +kernel
theorem dX10_fault_6 : decode cX10_fault 6 = .ok (.ifCond .ne 6, 3) := by decide +kernel
theorem dX10_fault_9 : decode cX10_fault 9 = .ok (.ldc 99, 2) := by decide +kernel
theorem dX10_fault_11 : decode cX10_fault 11 = .ok (.ireturn, 1) := by decide +kernel
theorem dX10_fault_12 : decode cX10_fault 12 = .ok (.aload_n 0, 1) := by decide +kernel
theorem dX10_fault_13 : decode cX10_fault 13 = .ok (.getfield 52, 3) := by decide +kernel
theorem dX10_fault_16 : decode cX10_fault 16 = .ok (.aload_n 0, 1) := by decide +kernel
theorem dX10_fault_17 : decode cX10_fault 17 = .ok (.invokevirtual 56, 3) := by decide +kernel
theorem dX10_fault_20 : decode cX10_fault 20 = .ok (.invokevirtual 200, 3) := by decide +kernel
theorem dX10_fault_23 : decode cX10_fault 23 = .ok (.aload_n 0, 1) := by decide +kernel
theorem dX10_fault_24 : decode cX10_fault 24 = .ok (.getfield 52, 3) := by decide +kernel
theorem dX10_fault_27 : decode cX10_fault 27 = .ok (.invokevirtual 203, 3) := by decide +kernel
theorem dX10_fault_30 : decode cX10_fault 30 = .ok (.ifCond .ne 6, 3) := by decide +kernel
theorem dX10_fault_33 : decode cX10_fault 33 = .ok (.ldc 121, 2) := by decide +kernel
theorem dX10_fault_35 : decode cX10_fault 35 = .ok (.ireturn, 1) := by decide +kernel
theorem dX10_fault_36 : decode cX10_fault 36 = .ok (.iload_n 1, 1) := by decide +kernel
theorem dX10_fault_37 : decode cX10_fault 37 = .ok (.lookupswitch 43 #[(0, 27), (1, 35)], 27) := by decide +kernel
theorem dX10_fault_64 : decode cX10_fault 64 = .ok (.aload_n 0, 1) := by decide +kernel
theorem dX10_fault_65 : decode cX10_fault 65 = .ok (.getfield 52, 3) := by decide +kernel
theorem dX10_fault_68 : decode cX10_fault 68 = .ok (.getfield 206, 3) := by decide +kernel
theorem dX10_fault_71 : decode cX10_fault 71 = .ok (.ireturn, 1) := by decide +kernel
theorem dX10_fault_72 : decode cX10_fault 72 = .ok (.aload_n 0, 1) := by decide +kernel
theorem dX10_fault_73 : decode cX10_fault 73 = .ok (.getfield 52, 3) := by decide +kernel
theorem dX10_fault_76 : decode cX10_fault 76 = .ok (.getfield 209, 3) := by decide +kernel
theorem dX10_fault_79 : decode cX10_fault 79 = .ok (.ireturn, 1) := by decide +kernel
theorem dX10_fault_80 : decode cX10_fault 80 = .ok (.aload_n 0, 1) := by decide +kernel
theorem dX10_fault_81 : decode cX10_fault 81 = .ok (.getfield 52, 3) := by decide +kernel
theorem dX10_fault_84 : decode cX10_fault 84 = .ok (.getfield 212, 3) := by decide +kernel
theorem dX10_fault_87 : decode cX10_fault 87 = .ok (.ireturn, 1) := by decide +kernel
theorem dX10_play_0 : decode cX10_play 0 = .ok (.aload_n 0, 1) := by decide +kernel
theorem dX10_play_1 : decode cX10_play 1 = .ok (.getfield 52, 3) := by decide +kernel
theorem dX10_play_4 : decode cX10_play 4 = .ok (.aload_n 0, 1) := by decide +kernel
theorem dX10_play_5 : decode cX10_play 5 = .ok (.invokevirtual 56, 3) := by decide +kernel
theorem dX10_play_8 : decode cX10_play 8 = .ok (.invokevirtual 200, 3) := by decide +kernel
theorem dX10_play_11 : decode cX10_play 11 = .ok (.aload_n 0, 1) := by decide +kernel
theorem dX10_play_12 : decode cX10_play 12 = .ok (.aload_n 0, 1) := by decide +kernel
theorem dX10_play_13 : decode cX10_play 13 = .ok (.getfield 52, 3) := by decide +kernel
theorem dX10_play_16 : decode cX10_play 16 = .ok (.invokevirtual 203, 3) := by decide +kernel
theorem dX10_play_19 : decode cX10_play 19 = .ok (.ifCond .eq 8, 3) := by decide +kernel
theorem dX10_play_22 : decode cX10_play 22 = .ok (.ldc 156, 2) := by decide +kernel
theorem dX10_play_24 : decode cX10_play 24 = .ok (.goto 10, 3) := by decide +kernel
theorem dX10_play_27 : decode cX10_play 27 = .ok (.aload_n 0, 1) := by decide +kernel
theorem dX10_play_28 : decode cX10_play 28 = .ok (.getfield 52, 3) := by decide +kernel
theorem dX10_play_31 : decode cX10_play 31 = .ok (.getfield 215, 3) := by decide +kernel
theorem dX10_play_34 : decode cX10_play 34 = .ok (.invokevirtual 64, 3) := by decide +kernel
theorem dX10_play_37 : decode cX10_play 37 = .ok (.ireturn, 1) := by decide +kernel
theorem dX10_freshTrial_0 : decode cX10_freshTrial 0 = .ok (.aload_n 0, 1) := by decide +kernel
theorem dX10_freshTrial_1 : decode cX10_freshTrial 1 = .ok (.getfield 16, 3) := by decide +kernel
theorem dX10_freshTrial_4 : decode cX10_freshTrial 4 = .ok (.aload_n 0, 1) := by decide +kernel
theorem dX10_freshTrial_5 : decode cX10_freshTrial 5 = .ok (.getfield 10, 3) := by decide +kernel
theorem dX10_freshTrial_8 : decode cX10_freshTrial 8 = .ok (.invokevirtual 218, 3) := by decide +kernel
theorem dX10_freshTrial_11 : decode cX10_freshTrial 11 = .ok (.aload_n 0, 1) := by decide +kernel
theorem dX10_freshTrial_12 : decode cX10_freshTrial 12 = .ok (.getfield 16, 3) := by decide +kernel
theorem dX10_freshTrial_15 : decode cX10_freshTrial 15 = .ok (.areturn, 1) := by decide +kernel
theorem dX10_keep_0 : decode cX10_keep 0 = .ok (.iload_n 1, 1) := by decide +kernel
theorem dX10_keep_1 : decode cX10_keep 1 = .ok (.invokestatic 221, 3) := by decide +kernel
theorem dX10_keep_4 : decode cX10_keep 4 = .ok (.ifCond .ne 25, 3) := by decide +kernel
theorem dX10_keep_7 : decode cX10_keep 7 = .ok (.aload_n 0, 1) := by decide +kernel
theorem dX10_keep_8 : decode cX10_keep 8 = .ok (.getfield 22, 3) := by decide +kernel
theorem dX10_keep_11 : decode cX10_keep 11 = .ok (.aload_n 0, 1) := by decide +kernel
theorem dX10_keep_12 : decode cX10_keep 12 = .ok (.getfield 10, 3) := by decide +kernel
end
section
theorem dX10_keep_15 : decode cX10_keep 15 = .ok (.invokevirtual 224, 3) := by decide +kernel
theorem dX10_keep_18 : decode cX10_keep 18 = .ok (.aload_n 0, 1) := by decide +kernel
theorem dX10_keep_19 : decode cX10_keep 19 = .ok (.getfield 10, 3) := by decide +kernel
theorem dX10_keep_22 : decode cX10_keep 22 = .ok (.aload_n 0, 1) := by decide +kernel
theorem dX10_keep_23 : decode cX10_keep 23 = .ok (.getfield 16, 3) := by decide +kernel
theorem dX10_keep_26 : decode cX10_keep 26 = .ok (.invokevirtual 218, 3) := by decide +kernel
theorem dX10_keep_29 : decode cX10_keep 29 = .ok (.iload_n 1, 1) := by decide +kernel
theorem dX10_keep_30 : decode cX10_keep 30 = .ok (.ireturn, 1) := by decide +kernel
theorem dX10_distanceBehind_0 : decode cX10_distanceBehind 0 = .ok (.aload_n 0, 1) := by decide +kernel
theorem dX10_distanceBehind_1 : decode cX10_distanceBehind 1 = .ok (.invokevirtual 56, 3) := by decide +kernel
theorem dX10_distanceBehind_4 : decode cX10_distanceBehind 4 = .ok (.astore 5, 2) := by decide +kernel
theorem dX10_distanceBehind_6 : decode cX10_distanceBehind 6 = .ok (.aload 5, 2) := by decide +kernel
theorem dX10_distanceBehind_8 : decode cX10_distanceBehind 8 = .ok (.getfield 106, 3) := by decide +kernel
theorem dX10_distanceBehind_11 : decode cX10_distanceBehind 11 = .ok (.iload_n 1, 1) := by decide +kernel
theorem dX10_distanceBehind_12 : decode cX10_distanceBehind 12 = .ok (.aaload, 1) := by decide +kernel
theorem dX10_distanceBehind_13 : decode cX10_distanceBehind 13 = .ok (.astore 6, 2) := by decide +kernel
theorem dX10_distanceBehind_15 : decode cX10_distanceBehind 15 = .ok (.aload 6, 2) := by decide +kernel
theorem dX10_distanceBehind_17 : decode cX10_distanceBehind 17 = .ok (.aload 5, 2) := by decide +kernel
theorem dX10_distanceBehind_19 : decode cX10_distanceBehind 19 = .ok (.getfield 137, 3) := by decide +kernel
theorem dX10_distanceBehind_22 : decode cX10_distanceBehind 22 = .ok (.iload_n 2, 1) := by decide +kernel
theorem dX10_distanceBehind_23 : decode cX10_distanceBehind 23 = .ok (.iload_n 3, 1) := by decide +kernel
theorem dX10_distanceBehind_24 : decode cX10_distanceBehind 24 = .ok (.invokevirtual 227, 3) := by decide +kernel
theorem dX10_distanceBehind_27 : decode cX10_distanceBehind 27 = .ok (.aload 6, 2) := by decide +kernel
theorem dX10_distanceBehind_29 : decode cX10_distanceBehind 29 = .ok (.getfield 231, 3) := by decide +kernel
theorem dX10_distanceBehind_32 : decode cX10_distanceBehind 32 = .ok (.istore 7, 2) := by decide +kernel
theorem dX10_distanceBehind_34 : decode cX10_distanceBehind 34 = .ok (.aload_n 0, 1) := by decide +kernel
theorem dX10_distanceBehind_35 : decode cX10_distanceBehind 35 = .ok (.getfield 29, 3) := by decide +kernel
theorem dX10_distanceBehind_38 : decode cX10_distanceBehind 38 = .ok (.aload 5, 2) := by decide +kernel
theorem dX10_distanceBehind_40 : decode cX10_distanceBehind 40 = .ok (.invokevirtual 84, 3) := by decide +kernel
theorem dX10_distanceBehind_43 : decode cX10_distanceBehind 43 = .ok (.pop, 1) := by decide +kernel
theorem dX10_distanceBehind_44 : decode cX10_distanceBehind 44 = .ok (.aload 6, 2) := by decide +kernel
theorem dX10_distanceBehind_46 : decode cX10_distanceBehind 46 = .ok (.getfield 231, 3) := by decide +kernel
theorem dX10_distanceBehind_49 : decode cX10_distanceBehind 49 = .ok (.iload 7, 2) := by decide +kernel
theorem dX10_distanceBehind_51 : decode cX10_distanceBehind 51 = .ok (.if_icmp .ne 11, 3) := by decide +kernel
theorem dX10_distanceBehind_54 : decode cX10_distanceBehind 54 = .ok (.aload 6, 2) := by decide +kernel
theorem dX10_distanceBehind_56 : decode cX10_distanceBehind 56 = .ok (.invokevirtual 133, 3) := by decide +kernel
theorem dX10_distanceBehind_59 : decode cX10_distanceBehind 59 = .ok (.ifCond .eq 5, 3) := by decide +kernel
theorem dX10_distanceBehind_62 : decode cX10_distanceBehind 62 = .ok (.iconst (-1), 1) := by decide +kernel
theorem dX10_distanceBehind_63 : decode cX10_distanceBehind 63 = .ok (.ireturn, 1) := by decide +kernel
theorem dX10_distanceBehind_64 : decode cX10_distanceBehind 64 = .ok (.aload 6, 2) := by decide +kernel
theorem dX10_distanceBehind_66 : decode cX10_distanceBehind 66 = .ok (.getfield 234, 3) := by decide +kernel
theorem dX10_distanceBehind_69 : decode cX10_distanceBehind 69 = .ok (.iload 4, 2) := by decide +kernel
theorem dX10_distanceBehind_71 : decode cX10_distanceBehind 71 = .ok (.invokestatic 237, 3) := by decide +kernel
theorem dX10_distanceBehind_74 : decode cX10_distanceBehind 74 = .ok (.ireturn, 1) := by decide +kernel
theorem dX10_isWithin_0 : decode cX10_isWithin 0 = .ok (.iload_n 0, 1) := by decide +kernel
theorem dX10_isWithin_1 : decode cX10_isWithin 1 = .ok (.iload_n 1, 1) := by decide +kernel
theorem dX10_isWithin_2 : decode cX10_isWithin 2 = .ok (.if_icmp .lt 12, 3) := by decide +kernel
theorem dX10_isWithin_5 : decode cX10_isWithin 5 = .ok (.iload_n 0, 1) := by decide +kernel
theorem dX10_isWithin_6 : decode cX10_isWithin 6 = .ok (.iload_n 2, 1) := by decide +kernel
theorem dX10_isWithin_7 : decode cX10_isWithin 7 = .ok (.if_icmp .gt 7, 3) := by decide +kernel
theorem dX10_isWithin_10 : decode cX10_isWithin 10 = .ok (.iconst 1, 1) := by decide +kernel
theorem dX10_isWithin_11 : decode cX10_isWithin 11 = .ok (.goto 4, 3) := by decide +kernel
theorem dX10_isWithin_14 : decode cX10_isWithin 14 = .ok (.iconst 0, 1) := by decide +kernel
theorem dX10_isWithin_15 : decode cX10_isWithin 15 = .ok (.ireturn, 1) := by decide +kernel
theorem dX10_isCell_0 : decode cX10_isCell 0 = .ok (.iload_n 0, 1) := by decide +kernel
theorem dX10_isCell_1 : decode cX10_isCell 1 = .ok (.ifCond .lt 13, 3) := by decide +kernel
theorem dX10_isCell_4 : decode cX10_isCell 4 = .ok (.iload_n 0, 1) := by decide +kernel
theorem dX10_isCell_5 : decode cX10_isCell 5 = .ok (.bipush 64, 2) := by decide +kernel
theorem dX10_isCell_7 : decode cX10_isCell 7 = .ok (.if_icmp .ge 7, 3) := by decide +kernel
theorem dX10_isCell_10 : decode cX10_isCell 10 = .ok (.iconst 1, 1) := by decide +kernel
theorem dX10_isCell_11 : decode cX10_isCell 11 = .ok (.goto 4, 3) := by decide +kernel
theorem dX10_isCell_14 : decode cX10_isCell 14 = .ok (.iconst 0, 1) := by decide +kernel
theorem dX10_isCell_15 : decode cX10_isCell 15 = .ok (.ireturn, 1) := by decide +kernel
theorem dX10_isDirection_0 : decode cX10_isDirection 0 = .ok (.iload_n 0, 1) := by decide +kernel
theorem dX10_isDirection_1 : decode cX10_isDirection 1 = .ok (.ifCond .lt 12, 3) := by decide +kernel
theorem dX10_isDirection_4 : decode cX10_isDirection 4 = .ok (.iload_n 0, 1) := by decide +kernel
theorem dX10_isDirection_5 : decode cX10_isDirection 5 = .ok (.iconst 4, 1) := by decide +kernel
theorem dX10_isDirection_6 : decode cX10_isDirection 6 = .ok (.if_icmp .ge 7, 3) := by decide +kernel
theorem dX10_isDirection_9 : decode cX10_isDirection 9 = .ok (.iconst 1, 1) := by decide +kernel
theorem dX10_isDirection_10 : decode cX10_isDirection 10 = .ok (.goto 4, 3) := by decide +kernel
theorem dX10_isDirection_13 : decode cX10_isDirection 13 = .ok (.iconst 0, 1) := by decide +kernel
theorem dX10_isDirection_14 : decode cX10_isDirection 14 = .ok (.ireturn, 1) := by decide +kernel
theorem dX10_isRegister_0 : decode cX10_isRegister 0 = .ok (.iload_n 0, 1) := by decide +kernel
theorem dX10_isRegister_1 : decode cX10_isRegister 1 = .ok (.ifCond .lt 12, 3) := by decide +kernel
theorem dX10_isRegister_4 : decode cX10_isRegister 4 = .ok (.iload_n 0, 1) := by decide +kernel
theorem dX10_isRegister_5 : decode cX10_isRegister 5 = .ok (.iconst 5, 1) := by decide +kernel
theorem dX10_isRegister_6 : decode cX10_isRegister 6 = .ok (.if_icmp .ge 7, 3) := by decide +kernel
theorem dX10_isRegister_9 : decode cX10_isRegister 9 = .ok (.iconst 1, 1) := by decide +kernel
theorem dX10_isRegister_10 : decode cX10_isRegister 10 = .ok (.goto 4, 3) := by decide +kernel
theorem dX10_isRegister_13 : decode cX10_isRegister 13 = .ok (.iconst 0, 1) := by decide +kernel
theorem dX10_isRegister_14 : decode cX10_isRegister 14 = .ok (.ireturn, 1) := by decide +kernel
theorem dX10_isError_0 : decode cX10_isError 0 = .ok (.iload_n 0, 1) := by decide +kernel
theorem dX10_isError_1 : decode cX10_isError 1 = .ok (.ifCond .ge 7, 3) := by decide +kernel
theorem dX10_isError_4 : decode cX10_isError 4 = .ok (.iconst 1, 1) := by decide +kernel
theorem dX10_isError_5 : decode cX10_isError 5 = .ok (.goto 4, 3) := by decide +kernel
theorem dX10_isError_8 : decode cX10_isError 8 = .ok (.iconst 0, 1) := by decide +kernel
theorem dX10_isError_9 : decode cX10_isError 9 = .ok (.ireturn, 1) := by decide +kernel
theorem dX10_turned_0 : decode cX10_turned 0 = .ok (.iload_n 0, 1) := by decide +kernel
theorem dX10_turned_1 : decode cX10_turned 1 = .ok (.iload_n 1, 1) := by decide +kernel
theorem dX10_turned_2 : decode cX10_turned 2 = .ok (.iadd, 1) := by decide +kernel
theorem dX10_turned_3 : decode cX10_turned 3 = .ok (.iconst 3, 1) := by decide +kernel
theorem dX10_turned_4 : decode cX10_turned 4 = .ok (.iand, 1) := by decide +kernel
theorem dX10_turned_5 : decode cX10_turned 5 = .ok (.ireturn, 1) := by decide +kernel
theorem dJ6_bitCount_0f7a4_0 : decode cJ6_bitCount_0f7a4 0 = .ok (.iload_n 0, 1) := by decide +kernel
theorem dJ6_bitCount_0f7a4_1 : decode cJ6_bitCount_0f7a4 1 = .ok (.iload_n 0, 1) := by decide +kernel
theorem dJ6_bitCount_0f7a4_2 : decode cJ6_bitCount_0f7a4 2 = .ok (.iconst 1, 1) := by decide +kernel
theorem dJ6_bitCount_0f7a4_3 : decode cJ6_bitCount_0f7a4 3 = .ok (.iushr, 1) := by decide +kernel
theorem dJ6_bitCount_0f7a4_4 : decode cJ6_bitCount_0f7a4 4 = .ok (.ldc_w 265, 3) := by decide +kernel
theorem dJ6_bitCount_0f7a4_7 : decode cJ6_bitCount_0f7a4 7 = .ok (.iand, 1) := by decide +kernel
theorem dJ6_bitCount_0f7a4_8 : decode cJ6_bitCount_0f7a4 8 = .ok (.isub, 1) := by decide +kernel
theorem dJ6_bitCount_0f7a4_9 : decode cJ6_bitCount_0f7a4 9 = .ok (.istore_n 0, 1) := by decide +kernel
theorem dJ6_bitCount_0f7a4_10 : decode cJ6_bitCount_0f7a4 10 = .ok (.iload_n 0, 1) := by decide +kernel
theorem dJ6_bitCount_0f7a4_11 : decode cJ6_bitCount_0f7a4 11 = .ok (.ldc_w 266, 3) := by decide +kernel
theorem dJ6_bitCount_0f7a4_14 : decode cJ6_bitCount_0f7a4 14 = .ok (.iand, 1) := by decide +kernel
theorem dJ6_bitCount_0f7a4_15 : decode cJ6_bitCount_0f7a4 15 = .ok (.iload_n 0, 1) := by decide +kernel
theorem dJ6_bitCount_0f7a4_16 : decode cJ6_bitCount_0f7a4 16 = .ok (.iconst 2, 1) := by decide +kernel
theorem dJ6_bitCount_0f7a4_17 : decode cJ6_bitCount_0f7a4 17 = .ok (.iushr, 1) := by decide +kernel
theorem dJ6_bitCount_0f7a4_18 : decode cJ6_bitCount_0f7a4 18 = .ok (.ldc_w 266, 3) := by decide +kernel
theorem dJ6_bitCount_0f7a4_21 : decode cJ6_bitCount_0f7a4 21 = .ok (.iand, 1) := by decide +kernel
theorem dJ6_bitCount_0f7a4_22 : decode cJ6_bitCount_0f7a4 22 = .ok (.iadd, 1) := by decide +kernel
theorem dJ6_bitCount_0f7a4_23 : decode cJ6_bitCount_0f7a4 23 = .ok (.istore_n 0, 1) := by decide +kernel
theorem dJ6_bitCount_0f7a4_24 : decode cJ6_bitCount_0f7a4 24 = .ok (.iload_n 0, 1) := by decide +kernel
theorem dJ6_bitCount_0f7a4_25 : decode cJ6_bitCount_0f7a4 25 = .ok (.iload_n 0, 1) := by decide +kernel
theorem dJ6_bitCount_0f7a4_26 : decode cJ6_bitCount_0f7a4 26 = .ok (.iconst 4, 1) := by decide +kernel
theorem dJ6_bitCount_0f7a4_27 : decode cJ6_bitCount_0f7a4 27 = .ok (.iushr, 1) := by decide +kernel
theorem dJ6_bitCount_0f7a4_28 : decode cJ6_bitCount_0f7a4 28 = .ok (.iadd, 1) := by decide +kernel
theorem dJ6_bitCount_0f7a4_29 : decode cJ6_bitCount_0f7a4 29 = .ok (.ldc_w 267, 3) := by decide +kernel
theorem dJ6_bitCount_0f7a4_32 : decode cJ6_bitCount_0f7a4 32 = .ok (.iand, 1) := by decide +kernel
theorem dJ6_bitCount_0f7a4_33 : decode cJ6_bitCount_0f7a4 33 = .ok (.istore_n 0, 1) := by decide +kernel
theorem dJ6_bitCount_0f7a4_34 : decode cJ6_bitCount_0f7a4 34 = .ok (.iload_n 0, 1) := by decide +kernel
theorem dJ6_bitCount_0f7a4_35 : decode cJ6_bitCount_0f7a4 35 = .ok (.iload_n 0, 1) := by decide +kernel
theorem dJ6_bitCount_0f7a4_36 : decode cJ6_bitCount_0f7a4 36 = .ok (.bipush 8, 2) := by decide +kernel
theorem dJ6_bitCount_0f7a4_38 : decode cJ6_bitCount_0f7a4 38 = .ok (.iushr, 1) := by decide +kernel
theorem dJ6_bitCount_0f7a4_39 : decode cJ6_bitCount_0f7a4 39 = .ok (.iadd, 1) := by decide +kernel
theorem dJ6_bitCount_0f7a4_40 : decode cJ6_bitCount_0f7a4 40 = .ok (.istore_n 0, 1) := by decide +kernel
theorem dJ6_bitCount_0f7a4_41 : decode cJ6_bitCount_0f7a4 41 = .ok (.iload_n 0, 1) := by decide +kernel
theorem dJ6_bitCount_0f7a4_42 : decode cJ6_bitCount_0f7a4 42 = .ok (.iload_n 0, 1) := by decide +kernel
theorem dJ6_bitCount_0f7a4_43 : decode cJ6_bitCount_0f7a4 43 = .ok (.bipush 16, 2) := by decide +kernel
theorem dJ6_bitCount_0f7a4_45 : decode cJ6_bitCount_0f7a4 45 = .ok (.iushr, 1) := by decide +kernel
theorem dJ6_bitCount_0f7a4_46 : decode cJ6_bitCount_0f7a4 46 = .ok (.iadd, 1) := by decide +kernel
theorem dJ6_bitCount_0f7a4_47 : decode cJ6_bitCount_0f7a4 47 = .ok (.istore_n 0, 1) := by decide +kernel
theorem dJ6_bitCount_0f7a4_48 : decode cJ6_bitCount_0f7a4 48 = .ok (.iload_n 0, 1) := by decide +kernel
theorem dJ6_bitCount_0f7a4_49 : decode cJ6_bitCount_0f7a4 49 = .ok (.bipush 63, 2) := by decide +kernel
theorem dJ6_bitCount_0f7a4_51 : decode cJ6_bitCount_0f7a4 51 = .ok (.iand, 1) := by decide +kernel
theorem dJ6_bitCount_0f7a4_52 : decode cJ6_bitCount_0f7a4 52 = .ok (.ireturn, 1) := by decide +kernel
theorem dJ9_abs_0f7a4_0 : decode cJ9_abs_0f7a4 0 = .ok (.iload_n 0, 1) := by decide +kernel
theorem dJ9_abs_0f7a4_1 : decode cJ9_abs_0f7a4 1 = .ok (.ifCond .ge 8, 3) := by decide +kernel
theorem dJ9_abs_0f7a4_4 : decode cJ9_abs_0f7a4 4 = .ok (.iload_n 0, 1) := by decide +kernel
theorem dJ9_abs_0f7a4_5 : decode cJ9_abs_0f7a4 5 = .ok (.ineg, 1) := by decide +kernel
theorem dJ9_abs_0f7a4_6 : decode cJ9_abs_0f7a4 6 = .ok (.goto 4, 3) := by decide +kernel
theorem dJ9_abs_0f7a4_9 : decode cJ9_abs_0f7a4 9 = .ok (.iload_n 0, 1) := by decide +kernel
theorem dJ9_abs_0f7a4_10 : decode cJ9_abs_0f7a4 10 = .ok (.ireturn, 1) := by decide +kernel
theorem dJ9_max_7cf53_0 : decode cJ9_max_7cf53 0 = .ok (.iload_n 0, 1) := by decide +kernel
theorem dJ9_max_7cf53_1 : decode cJ9_max_7cf53 1 = .ok (.iload_n 1, 1) := by decide +kernel
theorem dJ9_max_7cf53_2 : decode cJ9_max_7cf53 2 = .ok (.if_icmp .lt 7, 3) := by decide +kernel
theorem dJ9_max_7cf53_5 : decode cJ9_max_7cf53 5 = .ok (.iload_n 0, 1) := by decide +kernel
theorem dJ9_max_7cf53_6 : decode cJ9_max_7cf53 6 = .ok (.goto 4, 3) := by decide +kernel
theorem dJ9_max_7cf53_9 : decode cJ9_max_7cf53 9 = .ok (.iload_n 1, 1) := by decide +kernel
theorem dJ9_max_7cf53_10 : decode cJ9_max_7cf53 10 = .ok (.ireturn, 1) := by decide +kernel
theorem dJ9_min_7cf53_0 : decode cJ9_min_7cf53 0 = .ok (.iload_n 0, 1) := by decide +kernel
theorem dJ9_min_7cf53_1 : decode cJ9_min_7cf53 1 = .ok (.iload_n 1, 1) := by decide +kernel
theorem dJ9_min_7cf53_2 : decode cJ9_min_7cf53 2 = .ok (.if_icmp .gt 7, 3) := by decide +kernel
theorem dJ9_min_7cf53_5 : decode cJ9_min_7cf53 5 = .ok (.iload_n 0, 1) := by decide +kernel
theorem dJ9_min_7cf53_6 : decode cJ9_min_7cf53 6 = .ok (.goto 4, 3) := by decide +kernel
theorem dJ9_min_7cf53_9 : decode cJ9_min_7cf53 9 = .ok (.iload_n 1, 1) := by decide +kernel
theorem dJ9_min_7cf53_10 : decode cJ9_min_7cf53 10 = .ok (.ireturn, 1) := by decide +kernel
theorem dJ7_rangeCheck_23922_0 : decode cJ7_rangeCheck_23922 0 = .ok (.iload_n 1, 1) := by decide +kernel
theorem dJ7_rangeCheck_23922_1 : decode cJ7_rangeCheck_23922 1 = .ok (.iload_n 2, 1) := by decide +kernel
theorem dJ7_rangeCheck_23922_2 : decode cJ7_rangeCheck_23922 2 = .ok (.if_icmp .le 44, 3) := by decide +kernel
theorem dJ7_rangeCheck_23922_5 : decode cJ7_rangeCheck_23922 5 = .ok (.new 43, 3) := by decide +kernel
theorem dJ7_rangeCheck_23922_8 : decode cJ7_rangeCheck_23922 8 = .ok (.dup, 1) := by decide +kernel
theorem dJ7_rangeCheck_23922_9 : decode cJ7_rangeCheck_23922 9 = .ok (.new 45, 3) := by decide +kernel
theorem dJ7_rangeCheck_23922_12 : decode cJ7_rangeCheck_23922 12 = .ok (.dup, 1) := by decide +kernel
theorem dJ7_rangeCheck_23922_13 : decode cJ7_rangeCheck_23922 13 = .ok (.invokespecial 47, 3) := by decide +kernel
theorem dJ7_rangeCheck_23922_16 : decode cJ7_rangeCheck_23922 16 = .ok (.ldc 48, 2) := by decide +kernel
theorem dJ7_rangeCheck_23922_18 : decode cJ7_rangeCheck_23922 18 = .ok (.invokevirtual 50, 3) := by decide +kernel
theorem dJ7_rangeCheck_23922_21 : decode cJ7_rangeCheck_23922 21 = .ok (.iload_n 1, 1) := by decide +kernel
theorem dJ7_rangeCheck_23922_22 : decode cJ7_rangeCheck_23922 22 = .ok (.invokevirtual 54, 3) := by decide +kernel
theorem dJ7_rangeCheck_23922_25 : decode cJ7_rangeCheck_23922 25 = .ok (.ldc 57, 2) := by decide +kernel
theorem dJ7_rangeCheck_23922_27 : decode cJ7_rangeCheck_23922 27 = .ok (.invokevirtual 50, 3) := by decide +kernel
theorem dJ7_rangeCheck_23922_30 : decode cJ7_rangeCheck_23922 30 = .ok (.iload_n 2, 1) := by decide +kernel
theorem dJ7_rangeCheck_23922_31 : decode cJ7_rangeCheck_23922 31 = .ok (.invokevirtual 54, 3) := by decide +kernel
theorem dJ7_rangeCheck_23922_34 : decode cJ7_rangeCheck_23922 34 = .ok (.ldc 59, 2) := by decide +kernel
theorem dJ7_rangeCheck_23922_36 : decode cJ7_rangeCheck_23922 36 = .ok (.invokevirtual 50, 3) := by decide +kernel
theorem dJ7_rangeCheck_23922_39 : decode cJ7_rangeCheck_23922 39 = .ok (.invokevirtual 61, 3) := by decide +kernel
theorem dJ7_rangeCheck_23922_42 : decode cJ7_rangeCheck_23922 42 = .ok (.invokespecial 65, 3) := by decide +kernel
theorem dJ7_rangeCheck_23922_45 : decode cJ7_rangeCheck_23922 45 = .ok (.athrow, 1) := by decide +kernel
theorem dJ7_rangeCheck_23922_46 : decode cJ7_rangeCheck_23922 46 = .ok (.iload_n 1, 1) := by decide +kernel
theorem dJ7_rangeCheck_23922_47 : decode cJ7_rangeCheck_23922 47 = .ok (.ifCond .ge 12, 3) := by decide +kernel
theorem dJ7_rangeCheck_23922_50 : decode cJ7_rangeCheck_23922 50 = .ok (.new 68, 3) := by decide +kernel
theorem dJ7_rangeCheck_23922_53 : decode cJ7_rangeCheck_23922 53 = .ok (.dup, 1) := by decide +kernel
theorem dJ7_rangeCheck_23922_54 : decode cJ7_rangeCheck_23922 54 = .ok (.iload_n 1, 1) := by decide +kernel
theorem dJ7_rangeCheck_23922_55 : decode cJ7_rangeCheck_23922 55 = .ok (.invokespecial 70, 3) := by decide +kernel
theorem dJ7_rangeCheck_23922_58 : decode cJ7_rangeCheck_23922 58 = .ok (.athrow, 1) := by decide +kernel
theorem dJ7_rangeCheck_23922_59 : decode cJ7_rangeCheck_23922 59 = .ok (.iload_n 2, 1) := by decide +kernel
theorem dJ7_rangeCheck_23922_60 : decode cJ7_rangeCheck_23922 60 = .ok (.iload_n 0, 1) := by decide +kernel
theorem dJ7_rangeCheck_23922_61 : decode cJ7_rangeCheck_23922 61 = .ok (.if_icmp .le 12, 3) := by decide +kernel
theorem dJ7_rangeCheck_23922_64 : decode cJ7_rangeCheck_23922 64 = .ok (.new 68, 3) := by decide +kernel
theorem dJ7_rangeCheck_23922_67 : decode cJ7_rangeCheck_23922 67 = .ok (.dup, 1) := by decide +kernel
theorem dJ7_rangeCheck_23922_68 : decode cJ7_rangeCheck_23922 68 = .ok (.iload_n 2, 1) := by decide +kernel
theorem dJ7_rangeCheck_23922_69 : decode cJ7_rangeCheck_23922 69 = .ok (.invokespecial 70, 3) := by decide +kernel
theorem dJ7_rangeCheck_23922_72 : decode cJ7_rangeCheck_23922 72 = .ok (.athrow, 1) := by decide +kernel
theorem dJ7_rangeCheck_23922_73 : decode cJ7_rangeCheck_23922 73 = .ok (.return_, 1) := by decide +kernel
theorem dJ7_fill_53178_0 : decode cJ7_fill_53178 0 = .ok (.iconst 0, 1) := by decide +kernel
theorem dJ7_fill_53178_1 : decode cJ7_fill_53178 1 = .ok (.istore_n 2, 1) := by decide +kernel
theorem dJ7_fill_53178_2 : decode cJ7_fill_53178 2 = .ok (.aload_n 0, 1) := by decide +kernel
theorem dJ7_fill_53178_3 : decode cJ7_fill_53178 3 = .ok (.arraylength, 1) := by decide +kernel
theorem dJ7_fill_53178_4 : decode cJ7_fill_53178 4 = .ok (.istore_n 3, 1) := by decide +kernel
theorem dJ7_fill_53178_5 : decode cJ7_fill_53178 5 = .ok (.iload_n 2, 1) := by decide +kernel
theorem dJ7_fill_53178_6 : decode cJ7_fill_53178 6 = .ok (.iload_n 3, 1) := by decide +kernel
theorem dJ7_fill_53178_7 : decode cJ7_fill_53178 7 = .ok (.if_icmp .ge 13, 3) := by decide +kernel
theorem dJ7_fill_53178_10 : decode cJ7_fill_53178 10 = .ok (.aload_n 0, 1) := by decide +kernel
theorem dJ7_fill_53178_11 : decode cJ7_fill_53178 11 = .ok (.iload_n 2, 1) := by decide +kernel
theorem dJ7_fill_53178_12 : decode cJ7_fill_53178 12 = .ok (.iload_n 1, 1) := by decide +kernel
theorem dJ7_fill_53178_13 : decode cJ7_fill_53178 13 = .ok (.iastore, 1) := by decide +kernel
theorem dJ7_fill_53178_14 : decode cJ7_fill_53178 14 = .ok (.iinc 2 1, 3) := by decide +kernel
theorem dJ7_fill_53178_17 : decode cJ7_fill_53178 17 = .ok (.goto (-12), 3) := by decide +kernel
theorem dJ7_fill_53178_20 : decode cJ7_fill_53178 20 = .ok (.return_, 1) := by decide +kernel
theorem dJ7_fill_fda19_0 : decode cJ7_fill_fda19 0 = .ok (.aload_n 0, 1) := by decide +kernel
theorem dJ7_fill_fda19_1 : decode cJ7_fill_fda19 1 = .ok (.arraylength, 1) := by decide +kernel
theorem dJ7_fill_fda19_2 : decode cJ7_fill_fda19 2 = .ok (.iload_n 1, 1) := by decide +kernel
theorem dJ7_fill_fda19_3 : decode cJ7_fill_fda19 3 = .ok (.iload_n 2, 1) := by decide +kernel
theorem dJ7_fill_fda19_4 : decode cJ7_fill_fda19 4 = .ok (.invokestatic 13, 3) := by decide +kernel
theorem dJ7_fill_fda19_7 : decode cJ7_fill_fda19 7 = .ok (.iload_n 1, 1) := by decide +kernel
theorem dJ7_fill_fda19_8 : decode cJ7_fill_fda19 8 = .ok (.istore 4, 2) := by decide +kernel
theorem dJ7_fill_fda19_10 : decode cJ7_fill_fda19 10 = .ok (.iload 4, 2) := by decide +kernel
theorem dJ7_fill_fda19_12 : decode cJ7_fill_fda19 12 = .ok (.iload_n 2, 1) := by decide +kernel
theorem dJ7_fill_fda19_13 : decode cJ7_fill_fda19 13 = .ok (.if_icmp .ge 14, 3) := by decide +kernel
theorem dJ7_fill_fda19_16 : decode cJ7_fill_fda19 16 = .ok (.aload_n 0, 1) := by decide +kernel
theorem dJ7_fill_fda19_17 : decode cJ7_fill_fda19 17 = .ok (.iload 4, 2) := by decide +kernel
theorem dJ7_fill_fda19_19 : decode cJ7_fill_fda19 19 = .ok (.iload_n 3, 1) := by decide +kernel
theorem dJ7_fill_fda19_20 : decode cJ7_fill_fda19 20 = .ok (.iastore, 1) := by decide +kernel
theorem dJ7_fill_fda19_21 : decode cJ7_fill_fda19 21 = .ok (.iinc 4 1, 3) := by decide +kernel
theorem dJ7_fill_fda19_24 : decode cJ7_fill_fda19 24 = .ok (.goto (-14), 3) := by decide +kernel
theorem dJ7_fill_fda19_27 : decode cJ7_fill_fda19 27 = .ok (.return_, 1) := by decide +kernel
theorem dL_law_0 : decode cL_law 0 = .ok (.new 7, 3) := by decide +kernel
theorem dL_law_3 : decode cL_law 3 = .ok (.dup, 1) := by decide +kernel
theorem dL_law_4 : decode cL_law 4 = .ok (.invokespecial 9, 3) := by decide +kernel
theorem dL_law_7 : decode cL_law 7 = .ok (.astore_n 1, 1) := by decide +kernel
theorem dL_law_8 : decode cL_law 8 = .ok (.new 10, 3) := by decide +kernel
theorem dL_law_11 : decode cL_law 11 = .ok (.dup, 1) := by decide +kernel
theorem dL_law_12 : decode cL_law 12 = .ok (.invokespecial 12, 3) := by decide +kernel
theorem dL_law_15 : decode cL_law 15 = .ok (.astore_n 2, 1) := by decide +kernel
theorem dL_law_16 : decode cL_law 16 = .ok (.iconst 0, 1) := by decide +kernel
theorem dL_law_17 : decode cL_law 17 = .ok (.istore_n 3, 1) := by decide +kernel
theorem dL_law_18 : decode cL_law 18 = .ok (.iload_n 3, 1) := by decide +kernel
theorem dL_law_19 : decode cL_law 19 = .ok (.aload_n 0, 1) := by decide +kernel
theorem dL_law_20 : decode cL_law 20 = .ok (.arraylength, 1) := by decide +kernel
theorem dL_law_21 : decode cL_law 21 = .ok (.iconst 5, 1) := by decide +kernel
theorem dL_law_22 : decode cL_law 22 = .ok (.isub, 1) := by decide +kernel
theorem dL_law_23 : decode cL_law 23 = .ok (.if_icmp .gt 718, 3) := by decide +kernel
theorem dL_law_26 : decode cL_law 26 = .ok (.aload_n 0, 1) := by decide +kernel
theorem dL_law_27 : decode cL_law 27 = .ok (.iload_n 3, 1) := by decide +kernel
theorem dL_law_28 : decode cL_law 28 = .ok (.iaload, 1) := by decide +kernel
theorem dL_law_29 : decode cL_law 29 = .ok (.bipush 31, 2) := by decide +kernel
theorem dL_law_31 : decode cL_law 31 = .ok (.iand, 1) := by decide +kernel
theorem dL_law_32 : decode cL_law 32 = .ok (.tableswitch 703 0 20 #[100, 133, 166, 199, 232, 285, 318, 331, 344, 377, 410, 453, 476, 519, 562, 595, 618, 631, 654, 667, 690], 100) := by decide +kernel
theorem dL_law_132 : decode cL_law 132 = .ok (.aload_n 1, 1) := by decide +kernel
theorem dL_law_133 : decode cL_law 133 = .ok (.aload_n 0, 1) := by decide +kernel
theorem dL_law_134 : decode cL_law 134 = .ok (.iload_n 3, 1) := by decide +kernel
theorem dL_law_135 : decode cL_law 135 = .ok (.iconst 1, 1) := by decide +kernel
theorem dL_law_136 : decode cL_law 136 = .ok (.iadd, 1) := by decide +kernel
theorem dL_law_137 : decode cL_law 137 = .ok (.iaload, 1) := by decide +kernel
theorem dL_law_138 : decode cL_law 138 = .ok (.aload_n 0, 1) := by decide +kernel
theorem dL_law_139 : decode cL_law 139 = .ok (.iload_n 3, 1) := by decide +kernel
theorem dL_law_140 : decode cL_law 140 = .ok (.iconst 2, 1) := by decide +kernel
theorem dL_law_141 : decode cL_law 141 = .ok (.iadd, 1) := by decide +kernel
theorem dL_law_142 : decode cL_law 142 = .ok (.iaload, 1) := by decide +kernel
theorem dL_law_143 : decode cL_law 143 = .ok (.invokevirtual 13, 3) := by decide +kernel
theorem dL_law_146 : decode cL_law 146 = .ok (.aload_n 2, 1) := by decide +kernel
theorem dL_law_147 : decode cL_law 147 = .ok (.aload_n 0, 1) := by decide +kernel
theorem dL_law_148 : decode cL_law 148 = .ok (.iload_n 3, 1) := by decide +kernel
theorem dL_law_149 : decode cL_law 149 = .ok (.iconst 1, 1) := by decide +kernel
theorem dL_law_150 : decode cL_law 150 = .ok (.iadd, 1) := by decide +kernel
theorem dL_law_151 : decode cL_law 151 = .ok (.iaload, 1) := by decide +kernel
theorem dL_law_152 : decode cL_law 152 = .ok (.aload_n 0, 1) := by decide +kernel
theorem dL_law_153 : decode cL_law 153 = .ok (.iload_n 3, 1) := by decide +kernel
theorem dL_law_154 : decode cL_law 154 = .ok (.iconst 2, 1) := by decide +kernel
theorem dL_law_155 : decode cL_law 155 = .ok (.iadd, 1) := by decide +kernel
theorem dL_law_156 : decode cL_law 156 = .ok (.iaload, 1) := by decide +kernel
theorem dL_law_157 : decode cL_law 157 = .ok (.invokevirtual 17, 3) := by decide +kernel
theorem dL_law_160 : decode cL_law 160 = .ok (.if_icmp .eq 575, 3) := by decide +kernel
theorem dL_law_163 : decode cL_law 163 = .ok (.iconst 0, 1) := by decide +kernel
theorem dL_law_164 : decode cL_law 164 = .ok (.ireturn, 1) := by decide +kernel
theorem dL_law_165 : decode cL_law 165 = .ok (.aload_n 1, 1) := by decide +kernel
theorem dL_law_166 : decode cL_law 166 = .ok (.aload_n 0, 1) := by decide +kernel
theorem dL_law_167 : decode cL_law 167 = .ok (.iload_n 3, 1) := by decide +kernel
theorem dL_law_168 : decode cL_law 168 = .ok (.iconst 1, 1) := by decide +kernel
theorem dL_law_169 : decode cL_law 169 = .ok (.iadd, 1) := by decide +kernel
theorem dL_law_170 : decode cL_law 170 = .ok (.iaload, 1) := by decide +kernel
theorem dL_law_171 : decode cL_law 171 = .ok (.aload_n 0, 1) := by decide +kernel
theorem dL_law_172 : decode cL_law 172 = .ok (.iload_n 3, 1) := by decide +kernel
theorem dL_law_173 : decode cL_law 173 = .ok (.iconst 2, 1) := by decide +kernel
theorem dL_law_174 : decode cL_law 174 = .ok (.iadd, 1) := by decide +kernel
theorem dL_law_175 : decode cL_law 175 = .ok (.iaload, 1) := by decide +kernel
theorem dL_law_176 : decode cL_law 176 = .ok (.invokevirtual 18, 3) := by decide +kernel
theorem dL_law_179 : decode cL_law 179 = .ok (.aload_n 2, 1) := by decide +kernel
theorem dL_law_180 : decode cL_law 180 = .ok (.aload_n 0, 1) := by decide +kernel
theorem dL_law_181 : decode cL_law 181 = .ok (.iload_n 3, 1) := by decide +kernel
theorem dL_law_182 : decode cL_law 182 = .ok (.iconst 1, 1) := by decide +kernel
theorem dL_law_183 : decode cL_law 183 = .ok (.iadd, 1) := by decide +kernel
theorem dL_law_184 : decode cL_law 184 = .ok (.iaload, 1) := by decide +kernel
theorem dL_law_185 : decode cL_law 185 = .ok (.aload_n 0, 1) := by decide +kernel
theorem dL_law_186 : decode cL_law 186 = .ok (.iload_n 3, 1) := by decide +kernel
theorem dL_law_187 : decode cL_law 187 = .ok (.iconst 2, 1) := by decide +kernel
theorem dL_law_188 : decode cL_law 188 = .ok (.iadd, 1) := by decide +kernel
theorem dL_law_189 : decode cL_law 189 = .ok (.iaload, 1) := by decide +kernel
theorem dL_law_190 : decode cL_law 190 = .ok (.invokevirtual 21, 3) := by decide +kernel
theorem dL_law_193 : decode cL_law 193 = .ok (.if_icmp .eq 542, 3) := by decide +kernel
theorem dL_law_196 : decode cL_law 196 = .ok (.iconst 0, 1) := by decide +kernel
theorem dL_law_197 : decode cL_law 197 = .ok (.ireturn, 1) := by decide +kernel
theorem dL_law_198 : decode cL_law 198 = .ok (.aload_n 1, 1) := by decide +kernel
theorem dL_law_199 : decode cL_law 199 = .ok (.aload_n 0, 1) := by decide +kernel
theorem dL_law_200 : decode cL_law 200 = .ok (.iload_n 3, 1) := by decide +kernel
theorem dL_law_201 : decode cL_law 201 = .ok (.iconst 1, 1) := by decide +kernel
theorem dL_law_202 : decode cL_law 202 = .ok (.iadd, 1) := by decide +kernel
theorem dL_law_203 : decode cL_law 203 = .ok (.iaload, 1) := by decide +kernel
theorem dL_law_204 : decode cL_law 204 = .ok (.aload_n 0, 1) := by decide +kernel
theorem dL_law_205 : decode cL_law 205 = .ok (.iload_n 3, 1) := by decide +kernel
theorem dL_law_206 : decode cL_law 206 = .ok (.iconst 2, 1) := by decide +kernel
theorem dL_law_207 : decode cL_law 207 = .ok (.iadd, 1) := by decide +kernel
theorem dL_law_208 : decode cL_law 208 = .ok (.iaload, 1) := by decide +kernel
theorem dL_law_209 : decode cL_law 209 = .ok (.invokevirtual 22, 3) := by decide +kernel
theorem dL_law_212 : decode cL_law 212 = .ok (.aload_n 2, 1) := by decide +kernel
theorem dL_law_213 : decode cL_law 213 = .ok (.aload_n 0, 1) := by decide +kernel
theorem dL_law_214 : decode cL_law 214 = .ok (.iload_n 3, 1) := by decide +kernel
theorem dL_law_215 : decode cL_law 215 = .ok (.iconst 1, 1) := by decide +kernel
theorem dL_law_216 : decode cL_law 216 = .ok (.iadd, 1) := by decide +kernel
theorem dL_law_217 : decode cL_law 217 = .ok (.iaload, 1) := by decide +kernel
theorem dL_law_218 : decode cL_law 218 = .ok (.aload_n 0, 1) := by decide +kernel
theorem dL_law_219 : decode cL_law 219 = .ok (.iload_n 3, 1) := by decide +kernel
theorem dL_law_220 : decode cL_law 220 = .ok (.iconst 2, 1) := by decide +kernel
theorem dL_law_221 : decode cL_law 221 = .ok (.iadd, 1) := by decide +kernel
theorem dL_law_222 : decode cL_law 222 = .ok (.iaload, 1) := by decide +kernel
theorem dL_law_223 : decode cL_law 223 = .ok (.invokevirtual 25, 3) := by decide +kernel
theorem dL_law_226 : decode cL_law 226 = .ok (.if_icmp .eq 509, 3) := by decide +kernel
theorem dL_law_229 : decode cL_law 229 = .ok (.iconst 0, 1) := by decide +kernel
theorem dL_law_230 : decode cL_law 230 = .ok (.ireturn, 1) := by decide +kernel
theorem dL_law_231 : decode cL_law 231 = .ok (.aload_n 1, 1) := by decide +kernel
theorem dL_law_232 : decode cL_law 232 = .ok (.aload_n 0, 1) := by decide +kernel
theorem dL_law_233 : decode cL_law 233 = .ok (.iload_n 3, 1) := by decide +kernel
theorem dL_law_234 : decode cL_law 234 = .ok (.iconst 1, 1) := by decide +kernel
theorem dL_law_235 : decode cL_law 235 = .ok (.iadd, 1) := by decide +kernel
theorem dL_law_236 : decode cL_law 236 = .ok (.iaload, 1) := by decide +kernel
theorem dL_law_237 : decode cL_law 237 = .ok (.aload_n 0, 1) := by decide +kernel
theorem dL_law_238 : decode cL_law 238 = .ok (.iload_n 3, 1) := by decide +kernel
theorem dL_law_239 : decode cL_law 239 = .ok (.iconst 2, 1) := by decide +kernel
theorem dL_law_240 : decode cL_law 240 = .ok (.iadd, 1) := by decide +kernel
theorem dL_law_241 : decode cL_law 241 = .ok (.iaload, 1) := by decide +kernel
theorem dL_law_242 : decode cL_law 242 = .ok (.invokevirtual 26, 3) := by decide +kernel
theorem dL_law_245 : decode cL_law 245 = .ok (.aload_n 2, 1) := by decide +kernel
theorem dL_law_246 : decode cL_law 246 = .ok (.aload_n 0, 1) := by decide +kernel
theorem dL_law_247 : decode cL_law 247 = .ok (.iload_n 3, 1) := by decide +kernel
theorem dL_law_248 : decode cL_law 248 = .ok (.iconst 1, 1) := by decide +kernel
theorem dL_law_249 : decode cL_law 249 = .ok (.iadd, 1) := by decide +kernel
theorem dL_law_250 : decode cL_law 250 = .ok (.iaload, 1) := by decide +kernel
theorem dL_law_251 : decode cL_law 251 = .ok (.aload_n 0, 1) := by decide +kernel
theorem dL_law_252 : decode cL_law 252 = .ok (.iload_n 3, 1) := by decide +kernel
theorem dL_law_253 : decode cL_law 253 = .ok (.iconst 2, 1) := by decide +kernel
theorem dL_law_254 : decode cL_law 254 = .ok (.iadd, 1) := by decide +kernel
theorem dL_law_255 : decode cL_law 255 = .ok (.iaload, 1) := by decide +kernel
theorem dL_law_256 : decode cL_law 256 = .ok (.invokevirtual 29, 3) := by decide +kernel
theorem dL_law_259 : decode cL_law 259 = .ok (.if_icmp .eq 476, 3) := by decide +kernel
theorem dL_law_262 : decode cL_law 262 = .ok (.iconst 0, 1) := by decide +kernel
theorem dL_law_263 : decode cL_law 263 = .ok (.ireturn, 1) := by decide +kernel
theorem dL_law_264 : decode cL_law 264 = .ok (.aload_n 1, 1) := by decide +kernel
theorem dL_law_265 : decode cL_law 265 = .ok (.aload_n 0, 1) := by decide +kernel
theorem dL_law_266 : decode cL_law 266 = .ok (.iload_n 3, 1) := by decide +kernel
theorem dL_law_267 : decode cL_law 267 = .ok (.iconst 1, 1) := by decide +kernel
theorem dL_law_268 : decode cL_law 268 = .ok (.iadd, 1) := by decide +kernel
theorem dL_law_269 : decode cL_law 269 = .ok (.iaload, 1) := by decide +kernel
theorem dL_law_270 : decode cL_law 270 = .ok (.aload_n 0, 1) := by decide +kernel
theorem dL_law_271 : decode cL_law 271 = .ok (.iload_n 3, 1) := by decide +kernel
theorem dL_law_272 : decode cL_law 272 = .ok (.iconst 2, 1) := by decide +kernel
theorem dL_law_273 : decode cL_law 273 = .ok (.iadd, 1) := by decide +kernel
theorem dL_law_274 : decode cL_law 274 = .ok (.iaload, 1) := by decide +kernel
theorem dL_law_275 : decode cL_law 275 = .ok (.aload_n 0, 1) := by decide +kernel
theorem dL_law_276 : decode cL_law 276 = .ok (.iload_n 3, 1) := by decide +kernel
theorem dL_law_277 : decode cL_law 277 = .ok (.iconst 3, 1) := by decide +kernel
theorem dL_law_278 : decode cL_law 278 = .ok (.iadd, 1) := by decide +kernel
theorem dL_law_279 : decode cL_law 279 = .ok (.iaload, 1) := by decide +kernel
theorem dL_law_280 : decode cL_law 280 = .ok (.aload_n 0, 1) := by decide +kernel
theorem dL_law_281 : decode cL_law 281 = .ok (.iload_n 3, 1) := by decide +kernel
theorem dL_law_282 : decode cL_law 282 = .ok (.iconst 4, 1) := by decide +kernel
theorem dL_law_283 : decode cL_law 283 = .ok (.iadd, 1) := by decide +kernel
theorem dL_law_284 : decode cL_law 284 = .ok (.iaload, 1) := by decide +kernel
theorem dL_law_285 : decode cL_law 285 = .ok (.invokevirtual 30, 3) := by decide +kernel
theorem dL_law_288 : decode cL_law 288 = .ok (.aload_n 2, 1) := by decide +kernel
theorem dL_law_289 : decode cL_law 289 = .ok (.aload_n 0, 1) := by decide +kernel
theorem dL_law_290 : decode cL_law 290 = .ok (.iload_n 3, 1) := by decide +kernel
theorem dL_law_291 : decode cL_law 291 = .ok (.iconst 1, 1) := by decide +kernel
theorem dL_law_292 : decode cL_law 292 = .ok (.iadd, 1) := by decide +kernel
theorem dL_law_293 : decode cL_law 293 = .ok (.iaload, 1) := by decide +kernel
theorem dL_law_294 : decode cL_law 294 = .ok (.aload_n 0, 1) := by decide +kernel
theorem dL_law_295 : decode cL_law 295 = .ok (.iload_n 3, 1) := by decide +kernel
theorem dL_law_296 : decode cL_law 296 = .ok (.iconst 2, 1) := by decide +kernel
theorem dL_law_297 : decode cL_law 297 = .ok (.iadd, 1) := by decide +kernel
theorem dL_law_298 : decode cL_law 298 = .ok (.iaload, 1) := by decide +kernel
theorem dL_law_299 : decode cL_law 299 = .ok (.aload_n 0, 1) := by decide +kernel
theorem dL_law_300 : decode cL_law 300 = .ok (.iload_n 3, 1) := by decide +kernel
theorem dL_law_301 : decode cL_law 301 = .ok (.iconst 3, 1) := by decide +kernel
theorem dL_law_302 : decode cL_law 302 = .ok (.iadd, 1) := by decide +kernel
theorem dL_law_303 : decode cL_law 303 = .ok (.iaload, 1) := by decide +kernel
theorem dL_law_304 : decode cL_law 304 = .ok (.aload_n 0, 1) := by decide +kernel
theorem dL_law_305 : decode cL_law 305 = .ok (.iload_n 3, 1) := by decide +kernel
theorem dL_law_306 : decode cL_law 306 = .ok (.iconst 4, 1) := by decide +kernel
theorem dL_law_307 : decode cL_law 307 = .ok (.iadd, 1) := by decide +kernel
theorem dL_law_308 : decode cL_law 308 = .ok (.iaload, 1) := by decide +kernel
theorem dL_law_309 : decode cL_law 309 = .ok (.invokevirtual 34, 3) := by decide +kernel
theorem dL_law_312 : decode cL_law 312 = .ok (.if_icmp .eq 423, 3) := by decide +kernel
theorem dL_law_315 : decode cL_law 315 = .ok (.iconst 0, 1) := by decide +kernel
theorem dL_law_316 : decode cL_law 316 = .ok (.ireturn, 1) := by decide +kernel
theorem dL_law_317 : decode cL_law 317 = .ok (.aload_n 1, 1) := by decide +kernel
theorem dL_law_318 : decode cL_law 318 = .ok (.aload_n 0, 1) := by decide +kernel
theorem dL_law_319 : decode cL_law 319 = .ok (.iload_n 3, 1) := by decide +kernel
theorem dL_law_320 : decode cL_law 320 = .ok (.iconst 1, 1) := by decide +kernel
theorem dL_law_321 : decode cL_law 321 = .ok (.iadd, 1) := by decide +kernel
theorem dL_law_322 : decode cL_law 322 = .ok (.iaload, 1) := by decide +kernel
theorem dL_law_323 : decode cL_law 323 = .ok (.aload_n 0, 1) := by decide +kernel
theorem dL_law_324 : decode cL_law 324 = .ok (.iload_n 3, 1) := by decide +kernel
theorem dL_law_325 : decode cL_law 325 = .ok (.iconst 2, 1) := by decide +kernel
theorem dL_law_326 : decode cL_law 326 = .ok (.iadd, 1) := by decide +kernel
theorem dL_law_327 : decode cL_law 327 = .ok (.iaload, 1) := by decide +kernel
theorem dL_law_328 : decode cL_law 328 = .ok (.invokevirtual 35, 3) := by decide +kernel
theorem dL_law_331 : decode cL_law 331 = .ok (.aload_n 2, 1) := by decide +kernel
theorem dL_law_332 : decode cL_law 332 = .ok (.aload_n 0, 1) := by decide +kernel
theorem dL_law_333 : decode cL_law 333 = .ok (.iload_n 3, 1) := by decide +kernel
theorem dL_law_334 : decode cL_law 334 = .ok (.iconst 1, 1) := by decide +kernel
theorem dL_law_335 : decode cL_law 335 = .ok (.iadd, 1) := by decide +kernel
theorem dL_law_336 : decode cL_law 336 = .ok (.iaload, 1) := by decide +kernel
theorem dL_law_337 : decode cL_law 337 = .ok (.aload_n 0, 1) := by decide +kernel
theorem dL_law_338 : decode cL_law 338 = .ok (.iload_n 3, 1) := by decide +kernel
theorem dL_law_339 : decode cL_law 339 = .ok (.iconst 2, 1) := by decide +kernel
theorem dL_law_340 : decode cL_law 340 = .ok (.iadd, 1) := by decide +kernel
theorem dL_law_341 : decode cL_law 341 = .ok (.iaload, 1) := by decide +kernel
theorem dL_law_342 : decode cL_law 342 = .ok (.invokevirtual 38, 3) := by decide +kernel
theorem dL_law_345 : decode cL_law 345 = .ok (.if_icmp .eq 390, 3) := by decide +kernel
theorem dL_law_348 : decode cL_law 348 = .ok (.iconst 0, 1) := by decide +kernel
theorem dL_law_349 : decode cL_law 349 = .ok (.ireturn, 1) := by decide +kernel
theorem dL_law_350 : decode cL_law 350 = .ok (.aload_n 1, 1) := by decide +kernel
theorem dL_law_351 : decode cL_law 351 = .ok (.invokevirtual 39, 3) := by decide +kernel
theorem dL_law_354 : decode cL_law 354 = .ok (.aload_n 2, 1) := by decide +kernel
theorem dL_law_355 : decode cL_law 355 = .ok (.invokevirtual 43, 3) := by decide +kernel
theorem dL_law_358 : decode cL_law 358 = .ok (.if_icmp .eq 377, 3) := by decide +kernel
theorem dL_law_361 : decode cL_law 361 = .ok (.iconst 0, 1) := by decide +kernel
theorem dL_law_362 : decode cL_law 362 = .ok (.ireturn, 1) := by decide +kernel
theorem dL_law_363 : decode cL_law 363 = .ok (.aload_n 1, 1) := by decide +kernel
theorem dL_law_364 : decode cL_law 364 = .ok (.invokevirtual 44, 3) := by decide +kernel
theorem dL_law_367 : decode cL_law 367 = .ok (.aload_n 2, 1) := by decide +kernel
theorem dL_law_368 : decode cL_law 368 = .ok (.invokevirtual 47, 3) := by decide +kernel
theorem dL_law_371 : decode cL_law 371 = .ok (.if_icmp .eq 364, 3) := by decide +kernel
theorem dL_law_374 : decode cL_law 374 = .ok (.iconst 0, 1) := by decide +kernel
theorem dL_law_375 : decode cL_law 375 = .ok (.ireturn, 1) := by decide +kernel
theorem dL_law_376 : decode cL_law 376 = .ok (.aload_n 1, 1) := by decide +kernel
theorem dL_law_377 : decode cL_law 377 = .ok (.aload_n 0, 1) := by decide +kernel
theorem dL_law_378 : decode cL_law 378 = .ok (.iload_n 3, 1) := by decide +kernel
theorem dL_law_379 : decode cL_law 379 = .ok (.iconst 1, 1) := by decide +kernel
theorem dL_law_380 : decode cL_law 380 = .ok (.iadd, 1) := by decide +kernel
theorem dL_law_381 : decode cL_law 381 = .ok (.iaload, 1) := by decide +kernel
theorem dL_law_382 : decode cL_law 382 = .ok (.aload_n 0, 1) := by decide +kernel
theorem dL_law_383 : decode cL_law 383 = .ok (.iload_n 3, 1) := by decide +kernel
theorem dL_law_384 : decode cL_law 384 = .ok (.iconst 2, 1) := by decide +kernel
theorem dL_law_385 : decode cL_law 385 = .ok (.iadd, 1) := by decide +kernel
theorem dL_law_386 : decode cL_law 386 = .ok (.iaload, 1) := by decide +kernel
theorem dL_law_387 : decode cL_law 387 = .ok (.invokevirtual 48, 3) := by decide +kernel
theorem dL_law_390 : decode cL_law 390 = .ok (.aload_n 2, 1) := by decide +kernel
theorem dL_law_391 : decode cL_law 391 = .ok (.aload_n 0, 1) := by decide +kernel
theorem dL_law_392 : decode cL_law 392 = .ok (.iload_n 3, 1) := by decide +kernel
theorem dL_law_393 : decode cL_law 393 = .ok (.iconst 1, 1) := by decide +kernel
theorem dL_law_394 : decode cL_law 394 = .ok (.iadd, 1) := by decide +kernel
theorem dL_law_395 : decode cL_law 395 = .ok (.iaload, 1) := by decide +kernel
theorem dL_law_396 : decode cL_law 396 = .ok (.aload_n 0, 1) := by decide +kernel
theorem dL_law_397 : decode cL_law 397 = .ok (.iload_n 3, 1) := by decide +kernel
theorem dL_law_398 : decode cL_law 398 = .ok (.iconst 2, 1) := by decide +kernel
theorem dL_law_399 : decode cL_law 399 = .ok (.iadd, 1) := by decide +kernel
theorem dL_law_400 : decode cL_law 400 = .ok (.iaload, 1) := by decide +kernel
theorem dL_law_401 : decode cL_law 401 = .ok (.invokevirtual 51, 3) := by decide +kernel
theorem dL_law_404 : decode cL_law 404 = .ok (.if_icmp .eq 331, 3) := by decide +kernel
theorem dL_law_407 : decode cL_law 407 = .ok (.iconst 0, 1) := by decide +kernel
theorem dL_law_408 : decode cL_law 408 = .ok (.ireturn, 1) := by decide +kernel
theorem dL_law_409 : decode cL_law 409 = .ok (.aload_n 1, 1) := by decide +kernel
theorem dL_law_410 : decode cL_law 410 = .ok (.aload_n 0, 1) := by decide +kernel
theorem dL_law_411 : decode cL_law 411 = .ok (.iload_n 3, 1) := by decide +kernel
theorem dL_law_412 : decode cL_law 412 = .ok (.iconst 1, 1) := by decide +kernel
theorem dL_law_413 : decode cL_law 413 = .ok (.iadd, 1) := by decide +kernel
theorem dL_law_414 : decode cL_law 414 = .ok (.iaload, 1) := by decide +kernel
theorem dL_law_415 : decode cL_law 415 = .ok (.aload_n 0, 1) := by decide +kernel
theorem dL_law_416 : decode cL_law 416 = .ok (.iload_n 3, 1) := by decide +kernel
theorem dL_law_417 : decode cL_law 417 = .ok (.iconst 2, 1) := by decide +kernel
theorem dL_law_418 : decode cL_law 418 = .ok (.iadd, 1) := by decide +kernel
theorem dL_law_419 : decode cL_law 419 = .ok (.iaload, 1) := by decide +kernel
theorem dL_law_420 : decode cL_law 420 = .ok (.invokevirtual 52, 3) := by decide +kernel
theorem dL_law_423 : decode cL_law 423 = .ok (.aload_n 2, 1) := by decide +kernel
theorem dL_law_424 : decode cL_law 424 = .ok (.aload_n 0, 1) := by decide +kernel
theorem dL_law_425 : decode cL_law 425 = .ok (.iload_n 3, 1) := by decide +kernel
theorem dL_law_426 : decode cL_law 426 = .ok (.iconst 1, 1) := by decide +kernel
theorem dL_law_427 : decode cL_law 427 = .ok (.iadd, 1) := by decide +kernel
theorem dL_law_428 : decode cL_law 428 = .ok (.iaload, 1) := by decide +kernel
theorem dL_law_429 : decode cL_law 429 = .ok (.aload_n 0, 1) := by decide +kernel
theorem dL_law_430 : decode cL_law 430 = .ok (.iload_n 3, 1) := by decide +kernel
theorem dL_law_431 : decode cL_law 431 = .ok (.iconst 2, 1) := by decide +kernel
theorem dL_law_432 : decode cL_law 432 = .ok (.iadd, 1) := by decide +kernel
theorem dL_law_433 : decode cL_law 433 = .ok (.iaload, 1) := by decide +kernel
theorem dL_law_434 : decode cL_law 434 = .ok (.invokevirtual 55, 3) := by decide +kernel
theorem dL_law_437 : decode cL_law 437 = .ok (.if_icmp .eq 298, 3) := by decide +kernel
theorem dL_law_440 : decode cL_law 440 = .ok (.iconst 0, 1) := by decide +kernel
theorem dL_law_441 : decode cL_law 441 = .ok (.ireturn, 1) := by decide +kernel
theorem dL_law_442 : decode cL_law 442 = .ok (.aload_n 1, 1) := by decide +kernel
theorem dL_law_443 : decode cL_law 443 = .ok (.aload_n 0, 1) := by decide +kernel
theorem dL_law_444 : decode cL_law 444 = .ok (.iload_n 3, 1) := by decide +kernel
theorem dL_law_445 : decode cL_law 445 = .ok (.iconst 1, 1) := by decide +kernel
theorem dL_law_446 : decode cL_law 446 = .ok (.iadd, 1) := by decide +kernel
theorem dL_law_447 : decode cL_law 447 = .ok (.iaload, 1) := by decide +kernel
theorem dL_law_448 : decode cL_law 448 = .ok (.aload_n 0, 1) := by decide +kernel
theorem dL_law_449 : decode cL_law 449 = .ok (.iload_n 3, 1) := by decide +kernel
theorem dL_law_450 : decode cL_law 450 = .ok (.iconst 2, 1) := by decide +kernel
theorem dL_law_451 : decode cL_law 451 = .ok (.iadd, 1) := by decide +kernel
theorem dL_law_452 : decode cL_law 452 = .ok (.iaload, 1) := by decide +kernel
theorem dL_law_453 : decode cL_law 453 = .ok (.aload_n 0, 1) := by decide +kernel
theorem dL_law_454 : decode cL_law 454 = .ok (.iload_n 3, 1) := by decide +kernel
theorem dL_law_455 : decode cL_law 455 = .ok (.iconst 3, 1) := by decide +kernel
theorem dL_law_456 : decode cL_law 456 = .ok (.iadd, 1) := by decide +kernel
theorem dL_law_457 : decode cL_law 457 = .ok (.iaload, 1) := by decide +kernel
theorem dL_law_458 : decode cL_law 458 = .ok (.invokevirtual 56, 3) := by decide +kernel
theorem dL_law_461 : decode cL_law 461 = .ok (.aload_n 2, 1) := by decide +kernel
theorem dL_law_462 : decode cL_law 462 = .ok (.aload_n 0, 1) := by decide +kernel
theorem dL_law_463 : decode cL_law 463 = .ok (.iload_n 3, 1) := by decide +kernel
theorem dL_law_464 : decode cL_law 464 = .ok (.iconst 1, 1) := by decide +kernel
theorem dL_law_465 : decode cL_law 465 = .ok (.iadd, 1) := by decide +kernel
theorem dL_law_466 : decode cL_law 466 = .ok (.iaload, 1) := by decide +kernel
theorem dL_law_467 : decode cL_law 467 = .ok (.aload_n 0, 1) := by decide +kernel
theorem dL_law_468 : decode cL_law 468 = .ok (.iload_n 3, 1) := by decide +kernel
theorem dL_law_469 : decode cL_law 469 = .ok (.iconst 2, 1) := by decide +kernel
theorem dL_law_470 : decode cL_law 470 = .ok (.iadd, 1) := by decide +kernel
theorem dL_law_471 : decode cL_law 471 = .ok (.iaload, 1) := by decide +kernel
theorem dL_law_472 : decode cL_law 472 = .ok (.aload_n 0, 1) := by decide +kernel
theorem dL_law_473 : decode cL_law 473 = .ok (.iload_n 3, 1) := by decide +kernel
theorem dL_law_474 : decode cL_law 474 = .ok (.iconst 3, 1) := by decide +kernel
theorem dL_law_475 : decode cL_law 475 = .ok (.iadd, 1) := by decide +kernel
theorem dL_law_476 : decode cL_law 476 = .ok (.iaload, 1) := by decide +kernel
theorem dL_law_477 : decode cL_law 477 = .ok (.invokevirtual 60, 3) := by decide +kernel
theorem dL_law_480 : decode cL_law 480 = .ok (.if_icmp .eq 255, 3) := by decide +kernel
theorem dL_law_483 : decode cL_law 483 = .ok (.iconst 0, 1) := by decide +kernel
theorem dL_law_484 : decode cL_law 484 = .ok (.ireturn, 1) := by decide +kernel
theorem dL_law_485 : decode cL_law 485 = .ok (.aload_n 1, 1) := by decide +kernel
theorem dL_law_486 : decode cL_law 486 = .ok (.aload_n 0, 1) := by decide +kernel
theorem dL_law_487 : decode cL_law 487 = .ok (.iload_n 3, 1) := by decide +kernel
theorem dL_law_488 : decode cL_law 488 = .ok (.iconst 1, 1) := by decide +kernel
theorem dL_law_489 : decode cL_law 489 = .ok (.iadd, 1) := by decide +kernel
theorem dL_law_490 : decode cL_law 490 = .ok (.iaload, 1) := by decide +kernel
theorem dL_law_491 : decode cL_law 491 = .ok (.invokevirtual 61, 3) := by decide +kernel
theorem dL_law_494 : decode cL_law 494 = .ok (.aload_n 2, 1) := by decide +kernel
theorem dL_law_495 : decode cL_law 495 = .ok (.aload_n 0, 1) := by decide +kernel
theorem dL_law_496 : decode cL_law 496 = .ok (.iload_n 3, 1) := by decide +kernel
theorem dL_law_497 : decode cL_law 497 = .ok (.iconst 1, 1) := by decide +kernel
theorem dL_law_498 : decode cL_law 498 = .ok (.iadd, 1) := by decide +kernel
theorem dL_law_499 : decode cL_law 499 = .ok (.iaload, 1) := by decide +kernel
theorem dL_law_500 : decode cL_law 500 = .ok (.invokevirtual 65, 3) := by decide +kernel
theorem dL_law_503 : decode cL_law 503 = .ok (.if_icmp .eq 232, 3) := by decide +kernel
theorem dL_law_506 : decode cL_law 506 = .ok (.iconst 0, 1) := by decide +kernel
theorem dL_law_507 : decode cL_law 507 = .ok (.ireturn, 1) := by decide +kernel
theorem dL_law_508 : decode cL_law 508 = .ok (.aload_n 1, 1) := by decide +kernel
theorem dL_law_509 : decode cL_law 509 = .ok (.aload_n 0, 1) := by decide +kernel
theorem dL_law_510 : decode cL_law 510 = .ok (.iload_n 3, 1) := by decide +kernel
theorem dL_law_511 : decode cL_law 511 = .ok (.iconst 1, 1) := by decide +kernel
theorem dL_law_512 : decode cL_law 512 = .ok (.iadd, 1) := by decide +kernel
theorem dL_law_513 : decode cL_law 513 = .ok (.iaload, 1) := by decide +kernel
theorem dL_law_514 : decode cL_law 514 = .ok (.aload_n 0, 1) := by decide +kernel
theorem dL_law_515 : decode cL_law 515 = .ok (.iload_n 3, 1) := by decide +kernel
theorem dL_law_516 : decode cL_law 516 = .ok (.iconst 2, 1) := by decide +kernel
theorem dL_law_517 : decode cL_law 517 = .ok (.iadd, 1) := by decide +kernel
theorem dL_law_518 : decode cL_law 518 = .ok (.iaload, 1) := by decide +kernel
theorem dL_law_519 : decode cL_law 519 = .ok (.aload_n 0, 1) := by decide +kernel
theorem dL_law_520 : decode cL_law 520 = .ok (.iload_n 3, 1) := by decide +kernel
theorem dL_law_521 : decode cL_law 521 = .ok (.iconst 3, 1) := by decide +kernel
theorem dL_law_522 : decode cL_law 522 = .ok (.iadd, 1) := by decide +kernel
theorem dL_law_523 : decode cL_law 523 = .ok (.iaload, 1) := by decide +kernel
theorem dL_law_524 : decode cL_law 524 = .ok (.invokevirtual 66, 3) := by decide +kernel
theorem dL_law_527 : decode cL_law 527 = .ok (.aload_n 2, 1) := by decide +kernel
theorem dL_law_528 : decode cL_law 528 = .ok (.aload_n 0, 1) := by decide +kernel
theorem dL_law_529 : decode cL_law 529 = .ok (.iload_n 3, 1) := by decide +kernel
theorem dL_law_530 : decode cL_law 530 = .ok (.iconst 1, 1) := by decide +kernel
theorem dL_law_531 : decode cL_law 531 = .ok (.iadd, 1) := by decide +kernel
theorem dL_law_532 : decode cL_law 532 = .ok (.iaload, 1) := by decide +kernel
theorem dL_law_533 : decode cL_law 533 = .ok (.aload_n 0, 1) := by decide +kernel
theorem dL_law_534 : decode cL_law 534 = .ok (.iload_n 3, 1) := by decide +kernel
theorem dL_law_535 : decode cL_law 535 = .ok (.iconst 2, 1) := by decide +kernel
theorem dL_law_536 : decode cL_law 536 = .ok (.iadd, 1) := by decide +kernel
theorem dL_law_537 : decode cL_law 537 = .ok (.iaload, 1) := by decide +kernel
theorem dL_law_538 : decode cL_law 538 = .ok (.aload_n 0, 1) := by decide +kernel
theorem dL_law_539 : decode cL_law 539 = .ok (.iload_n 3, 1) := by decide +kernel
theorem dL_law_540 : decode cL_law 540 = .ok (.iconst 3, 1) := by decide +kernel
theorem dL_law_541 : decode cL_law 541 = .ok (.iadd, 1) := by decide +kernel
theorem dL_law_542 : decode cL_law 542 = .ok (.iaload, 1) := by decide +kernel
theorem dL_law_543 : decode cL_law 543 = .ok (.invokevirtual 69, 3) := by decide +kernel
theorem dL_law_546 : decode cL_law 546 = .ok (.if_icmp .eq 189, 3) := by decide +kernel
theorem dL_law_549 : decode cL_law 549 = .ok (.iconst 0, 1) := by decide +kernel
theorem dL_law_550 : decode cL_law 550 = .ok (.ireturn, 1) := by decide +kernel
theorem dL_law_551 : decode cL_law 551 = .ok (.aload_n 1, 1) := by decide +kernel
theorem dL_law_552 : decode cL_law 552 = .ok (.aload_n 0, 1) := by decide +kernel
theorem dL_law_553 : decode cL_law 553 = .ok (.iload_n 3, 1) := by decide +kernel
theorem dL_law_554 : decode cL_law 554 = .ok (.iconst 1, 1) := by decide +kernel
theorem dL_law_555 : decode cL_law 555 = .ok (.iadd, 1) := by decide +kernel
theorem dL_law_556 : decode cL_law 556 = .ok (.iaload, 1) := by decide +kernel
theorem dL_law_557 : decode cL_law 557 = .ok (.aload_n 0, 1) := by decide +kernel
theorem dL_law_558 : decode cL_law 558 = .ok (.iload_n 3, 1) := by decide +kernel
theorem dL_law_559 : decode cL_law 559 = .ok (.iconst 2, 1) := by decide +kernel
theorem dL_law_560 : decode cL_law 560 = .ok (.iadd, 1) := by decide +kernel
theorem dL_law_561 : decode cL_law 561 = .ok (.iaload, 1) := by decide +kernel
theorem dL_law_562 : decode cL_law 562 = .ok (.aload_n 0, 1) := by decide +kernel
theorem dL_law_563 : decode cL_law 563 = .ok (.iload_n 3, 1) := by decide +kernel
theorem dL_law_564 : decode cL_law 564 = .ok (.iconst 3, 1) := by decide +kernel
theorem dL_law_565 : decode cL_law 565 = .ok (.iadd, 1) := by decide +kernel
theorem dL_law_566 : decode cL_law 566 = .ok (.iaload, 1) := by decide +kernel
theorem dL_law_567 : decode cL_law 567 = .ok (.invokevirtual 70, 3) := by decide +kernel
theorem dL_law_570 : decode cL_law 570 = .ok (.aload_n 2, 1) := by decide +kernel
theorem dL_law_571 : decode cL_law 571 = .ok (.aload_n 0, 1) := by decide +kernel
theorem dL_law_572 : decode cL_law 572 = .ok (.iload_n 3, 1) := by decide +kernel
theorem dL_law_573 : decode cL_law 573 = .ok (.iconst 1, 1) := by decide +kernel
theorem dL_law_574 : decode cL_law 574 = .ok (.iadd, 1) := by decide +kernel
theorem dL_law_575 : decode cL_law 575 = .ok (.iaload, 1) := by decide +kernel
theorem dL_law_576 : decode cL_law 576 = .ok (.aload_n 0, 1) := by decide +kernel
theorem dL_law_577 : decode cL_law 577 = .ok (.iload_n 3, 1) := by decide +kernel
theorem dL_law_578 : decode cL_law 578 = .ok (.iconst 2, 1) := by decide +kernel
theorem dL_law_579 : decode cL_law 579 = .ok (.iadd, 1) := by decide +kernel
theorem dL_law_580 : decode cL_law 580 = .ok (.iaload, 1) := by decide +kernel
theorem dL_law_581 : decode cL_law 581 = .ok (.aload_n 0, 1) := by decide +kernel
theorem dL_law_582 : decode cL_law 582 = .ok (.iload_n 3, 1) := by decide +kernel
theorem dL_law_583 : decode cL_law 583 = .ok (.iconst 3, 1) := by decide +kernel
theorem dL_law_584 : decode cL_law 584 = .ok (.iadd, 1) := by decide +kernel
theorem dL_law_585 : decode cL_law 585 = .ok (.iaload, 1) := by decide +kernel
theorem dL_law_586 : decode cL_law 586 = .ok (.invokevirtual 73, 3) := by decide +kernel
theorem dL_law_589 : decode cL_law 589 = .ok (.if_icmp .eq 146, 3) := by decide +kernel
theorem dL_law_592 : decode cL_law 592 = .ok (.iconst 0, 1) := by decide +kernel
theorem dL_law_593 : decode cL_law 593 = .ok (.ireturn, 1) := by decide +kernel
theorem dL_law_594 : decode cL_law 594 = .ok (.aload_n 1, 1) := by decide +kernel
theorem dL_law_595 : decode cL_law 595 = .ok (.aload_n 0, 1) := by decide +kernel
theorem dL_law_596 : decode cL_law 596 = .ok (.iload_n 3, 1) := by decide +kernel
theorem dL_law_597 : decode cL_law 597 = .ok (.iconst 1, 1) := by decide +kernel
theorem dL_law_598 : decode cL_law 598 = .ok (.iadd, 1) := by decide +kernel
theorem dL_law_599 : decode cL_law 599 = .ok (.iaload, 1) := by decide +kernel
theorem dL_law_600 : decode cL_law 600 = .ok (.aload_n 0, 1) := by decide +kernel
theorem dL_law_601 : decode cL_law 601 = .ok (.iload_n 3, 1) := by decide +kernel
theorem dL_law_602 : decode cL_law 602 = .ok (.iconst 2, 1) := by decide +kernel
theorem dL_law_603 : decode cL_law 603 = .ok (.iadd, 1) := by decide +kernel
theorem dL_law_604 : decode cL_law 604 = .ok (.iaload, 1) := by decide +kernel
theorem dL_law_605 : decode cL_law 605 = .ok (.invokevirtual 74, 3) := by decide +kernel
theorem dL_law_608 : decode cL_law 608 = .ok (.aload_n 2, 1) := by decide +kernel
theorem dL_law_609 : decode cL_law 609 = .ok (.aload_n 0, 1) := by decide +kernel
theorem dL_law_610 : decode cL_law 610 = .ok (.iload_n 3, 1) := by decide +kernel
theorem dL_law_611 : decode cL_law 611 = .ok (.iconst 1, 1) := by decide +kernel
theorem dL_law_612 : decode cL_law 612 = .ok (.iadd, 1) := by decide +kernel
theorem dL_law_613 : decode cL_law 613 = .ok (.iaload, 1) := by decide +kernel
theorem dL_law_614 : decode cL_law 614 = .ok (.aload_n 0, 1) := by decide +kernel
theorem dL_law_615 : decode cL_law 615 = .ok (.iload_n 3, 1) := by decide +kernel
theorem dL_law_616 : decode cL_law 616 = .ok (.iconst 2, 1) := by decide +kernel
theorem dL_law_617 : decode cL_law 617 = .ok (.iadd, 1) := by decide +kernel
theorem dL_law_618 : decode cL_law 618 = .ok (.iaload, 1) := by decide +kernel
theorem dL_law_619 : decode cL_law 619 = .ok (.invokevirtual 77, 3) := by decide +kernel
theorem dL_law_622 : decode cL_law 622 = .ok (.if_icmp .eq 113, 3) := by decide +kernel
theorem dL_law_625 : decode cL_law 625 = .ok (.iconst 0, 1) := by decide +kernel
theorem dL_law_626 : decode cL_law 626 = .ok (.ireturn, 1) := by decide +kernel
theorem dL_law_627 : decode cL_law 627 = .ok (.aload_n 1, 1) := by decide +kernel
theorem dL_law_628 : decode cL_law 628 = .ok (.aload_n 0, 1) := by decide +kernel
theorem dL_law_629 : decode cL_law 629 = .ok (.iload_n 3, 1) := by decide +kernel
theorem dL_law_630 : decode cL_law 630 = .ok (.iconst 1, 1) := by decide +kernel
theorem dL_law_631 : decode cL_law 631 = .ok (.iadd, 1) := by decide +kernel
theorem dL_law_632 : decode cL_law 632 = .ok (.iaload, 1) := by decide +kernel
theorem dL_law_633 : decode cL_law 633 = .ok (.invokevirtual 78, 3) := by decide +kernel
theorem dL_law_636 : decode cL_law 636 = .ok (.aload_n 2, 1) := by decide +kernel
theorem dL_law_637 : decode cL_law 637 = .ok (.aload_n 0, 1) := by decide +kernel
theorem dL_law_638 : decode cL_law 638 = .ok (.iload_n 3, 1) := by decide +kernel
theorem dL_law_639 : decode cL_law 639 = .ok (.iconst 1, 1) := by decide +kernel
theorem dL_law_640 : decode cL_law 640 = .ok (.iadd, 1) := by decide +kernel
theorem dL_law_641 : decode cL_law 641 = .ok (.iaload, 1) := by decide +kernel
theorem dL_law_642 : decode cL_law 642 = .ok (.invokevirtual 81, 3) := by decide +kernel
theorem dL_law_645 : decode cL_law 645 = .ok (.if_icmp .eq 90, 3) := by decide +kernel
theorem dL_law_648 : decode cL_law 648 = .ok (.iconst 0, 1) := by decide +kernel
theorem dL_law_649 : decode cL_law 649 = .ok (.ireturn, 1) := by decide +kernel
theorem dL_law_650 : decode cL_law 650 = .ok (.aload_n 1, 1) := by decide +kernel
theorem dL_law_651 : decode cL_law 651 = .ok (.invokevirtual 82, 3) := by decide +kernel
theorem dL_law_654 : decode cL_law 654 = .ok (.aload_n 2, 1) := by decide +kernel
theorem dL_law_655 : decode cL_law 655 = .ok (.invokevirtual 85, 3) := by decide +kernel
theorem dL_law_658 : decode cL_law 658 = .ok (.if_icmp .eq 77, 3) := by decide +kernel
theorem dL_law_661 : decode cL_law 661 = .ok (.iconst 0, 1) := by decide +kernel
theorem dL_law_662 : decode cL_law 662 = .ok (.ireturn, 1) := by decide +kernel
theorem dL_law_663 : decode cL_law 663 = .ok (.aload_n 1, 1) := by decide +kernel
theorem dL_law_664 : decode cL_law 664 = .ok (.aload_n 0, 1) := by decide +kernel
theorem dL_law_665 : decode cL_law 665 = .ok (.iload_n 3, 1) := by decide +kernel
theorem dL_law_666 : decode cL_law 666 = .ok (.iconst 1, 1) := by decide +kernel
theorem dL_law_667 : decode cL_law 667 = .ok (.iadd, 1) := by decide +kernel
theorem dL_law_668 : decode cL_law 668 = .ok (.iaload, 1) := by decide +kernel
theorem dL_law_669 : decode cL_law 669 = .ok (.invokevirtual 86, 3) := by decide +kernel
theorem dL_law_672 : decode cL_law 672 = .ok (.aload_n 2, 1) := by decide +kernel
theorem dL_law_673 : decode cL_law 673 = .ok (.aload_n 0, 1) := by decide +kernel
theorem dL_law_674 : decode cL_law 674 = .ok (.iload_n 3, 1) := by decide +kernel
theorem dL_law_675 : decode cL_law 675 = .ok (.iconst 1, 1) := by decide +kernel
theorem dL_law_676 : decode cL_law 676 = .ok (.iadd, 1) := by decide +kernel
theorem dL_law_677 : decode cL_law 677 = .ok (.iaload, 1) := by decide +kernel
theorem dL_law_678 : decode cL_law 678 = .ok (.invokevirtual 89, 3) := by decide +kernel
theorem dL_law_681 : decode cL_law 681 = .ok (.if_icmp .eq 54, 3) := by decide +kernel
theorem dL_law_684 : decode cL_law 684 = .ok (.iconst 0, 1) := by decide +kernel
theorem dL_law_685 : decode cL_law 685 = .ok (.ireturn, 1) := by decide +kernel
theorem dL_law_686 : decode cL_law 686 = .ok (.aload_n 1, 1) := by decide +kernel
theorem dL_law_687 : decode cL_law 687 = .ok (.invokevirtual 90, 3) := by decide +kernel
theorem dL_law_690 : decode cL_law 690 = .ok (.aload_n 2, 1) := by decide +kernel
theorem dL_law_691 : decode cL_law 691 = .ok (.invokevirtual 93, 3) := by decide +kernel
theorem dL_law_694 : decode cL_law 694 = .ok (.if_icmp .eq 41, 3) := by decide +kernel
theorem dL_law_697 : decode cL_law 697 = .ok (.iconst 0, 1) := by decide +kernel
theorem dL_law_698 : decode cL_law 698 = .ok (.ireturn, 1) := by decide +kernel
theorem dL_law_699 : decode cL_law 699 = .ok (.aload_n 1, 1) := by decide +kernel
theorem dL_law_700 : decode cL_law 700 = .ok (.aload_n 0, 1) := by decide +kernel
theorem dL_law_701 : decode cL_law 701 = .ok (.iload_n 3, 1) := by decide +kernel
theorem dL_law_702 : decode cL_law 702 = .ok (.iconst 1, 1) := by decide +kernel
theorem dL_law_703 : decode cL_law 703 = .ok (.iadd, 1) := by decide +kernel
theorem dL_law_704 : decode cL_law 704 = .ok (.iaload, 1) := by decide +kernel
theorem dL_law_705 : decode cL_law 705 = .ok (.invokevirtual 94, 3) := by decide +kernel
theorem dL_law_708 : decode cL_law 708 = .ok (.aload_n 2, 1) := by decide +kernel
theorem dL_law_709 : decode cL_law 709 = .ok (.aload_n 0, 1) := by decide +kernel
theorem dL_law_710 : decode cL_law 710 = .ok (.iload_n 3, 1) := by decide +kernel
theorem dL_law_711 : decode cL_law 711 = .ok (.iconst 1, 1) := by decide +kernel
theorem dL_law_712 : decode cL_law 712 = .ok (.iadd, 1) := by decide +kernel
theorem dL_law_713 : decode cL_law 713 = .ok (.iaload, 1) := by decide +kernel
theorem dL_law_714 : decode cL_law 714 = .ok (.invokevirtual 97, 3) := by decide +kernel
theorem dL_law_717 : decode cL_law 717 = .ok (.if_icmp .eq 18, 3) := by decide +kernel
theorem dL_law_720 : decode cL_law 720 = .ok (.iconst 0, 1) := by decide +kernel
theorem dL_law_721 : decode cL_law 721 = .ok (.ireturn, 1) := by decide +kernel
theorem dL_law_722 : decode cL_law 722 = .ok (.aload_n 1, 1) := by decide +kernel
theorem dL_law_723 : decode cL_law 723 = .ok (.invokevirtual 98, 3) := by decide +kernel
theorem dL_law_726 : decode cL_law 726 = .ok (.aload_n 2, 1) := by decide +kernel
theorem dL_law_727 : decode cL_law 727 = .ok (.invokevirtual 101, 3) := by decide +kernel
theorem dL_law_730 : decode cL_law 730 = .ok (.if_icmp .eq 5, 3) := by decide +kernel
theorem dL_law_733 : decode cL_law 733 = .ok (.iconst 0, 1) := by decide +kernel
theorem dL_law_734 : decode cL_law 734 = .ok (.ireturn, 1) := by decide +kernel
theorem dL_law_735 : decode cL_law 735 = .ok (.iinc 3 5, 3) := by decide +kernel
theorem dL_law_738 : decode cL_law 738 = .ok (.goto (-720), 3) := by decide +kernel
theorem dL_law_741 : decode cL_law 741 = .ok (.iconst 1, 1) := by decide +kernel
theorem dL_law_742 : decode cL_law 742 = .ok (.ireturn, 1) := by decide +kernel
end
section
theorem dX11_init_0 : decode cX11_init 0 = .ok (.aload_n 0, 1) := by decide +kernel
theorem dX11_init_1 : decode cX11_init 1 = .ok (.invokespecial 1, 3) := by decide +kernel
theorem dX11_init_4 : decode cX11_init 4 = .ok (.aload_n 0, 1) := by decide +kernel
theorem dX11_init_5 : decode cX11_init 5 = .ok (.sipush 207, 3) := by decide +kernel
theorem dX11_init_8 : decode cX11_init 8 = .ok (.newarray .int, 2) := by decide +kernel
theorem dX11_init_10 : decode cX11_init 10 = .ok (.putfield 7, 3) := by decide +kernel
theorem dX11_init_13 : decode cX11_init 13 = .ok (.aload_n 0, 1) := by decide +kernel
theorem dX11_init_14 : decode cX11_init 14 = .ok (.sipush 207, 3) := by decide +kernel
theorem dX11_init_17 : decode cX11_init 17 = .ok (.newarray .int, 2) := by decide +kernel
theorem dX11_init_19 : decode cX11_init 19 = .ok (.putfield 13, 3) := by decide +kernel
theorem dX11_init_22 : decode cX11_init 22 = .ok (.aload_n 0, 1) := by decide +kernel
theorem dX11_init_23 : decode cX11_init 23 = .ok (.sipush 207, 3) := by decide +kernel
theorem dX11_init_26 : decode cX11_init 26 = .ok (.newarray .int, 2) := by decide +kernel
theorem dX11_init_28 : decode cX11_init 28 = .ok (.putfield 16, 3) := by decide +kernel
theorem dX11_init_31 : decode cX11_init 31 = .ok (.aload_n 0, 1) := by decide +kernel
theorem dX11_init_32 : decode cX11_init 32 = .ok (.sipush 828, 3) := by decide +kernel
theorem dX11_init_35 : decode cX11_init 35 = .ok (.newarray .int, 2) := by decide +kernel
theorem dX11_init_37 : decode cX11_init 37 = .ok (.putfield 19, 3) := by decide +kernel
theorem dX11_init_40 : decode cX11_init 40 = .ok (.aload_n 0, 1) := by decide +kernel
theorem dX11_init_41 : decode cX11_init 41 = .ok (.bipush 60, 2) := by decide +kernel
theorem dX11_init_43 : decode cX11_init 43 = .ok (.newarray .int, 2) := by decide +kernel
theorem dX11_init_45 : decode cX11_init 45 = .ok (.putfield 22, 3) := by decide +kernel
theorem dX11_init_48 : decode cX11_init 48 = .ok (.aload_n 0, 1) := by decide +kernel
theorem dX11_init_49 : decode cX11_init 49 = .ok (.iconst 4, 1) := by decide +kernel
theorem dX11_init_50 : decode cX11_init 50 = .ok (.newarray .int, 2) := by decide +kernel
theorem dX11_init_52 : decode cX11_init 52 = .ok (.putfield 25, 3) := by decide +kernel
theorem dX11_init_55 : decode cX11_init 55 = .ok (.aload_n 0, 1) := by decide +kernel
theorem dX11_init_56 : decode cX11_init 56 = .ok (.iconst 4, 1) := by decide +kernel
theorem dX11_init_57 : decode cX11_init 57 = .ok (.newarray .int, 2) := by decide +kernel
theorem dX11_init_59 : decode cX11_init 59 = .ok (.putfield 28, 3) := by decide +kernel
theorem dX11_init_62 : decode cX11_init 62 = .ok (.aload_n 0, 1) := by decide +kernel
theorem dX11_init_63 : decode cX11_init 63 = .ok (.iconst 4, 1) := by decide +kernel
theorem dX11_init_64 : decode cX11_init 64 = .ok (.newarray .boolean, 2) := by decide +kernel
theorem dX11_init_66 : decode cX11_init 66 = .ok (.putfield 31, 3) := by decide +kernel
theorem dX11_init_69 : decode cX11_init 69 = .ok (.aload_n 0, 1) := by decide +kernel
theorem dX11_init_70 : decode cX11_init 70 = .ok (.iconst 4, 1) := by decide +kernel
theorem dX11_init_71 : decode cX11_init 71 = .ok (.newarray .int, 2) := by decide +kernel
theorem dX11_init_73 : decode cX11_init 73 = .ok (.putfield 35, 3) := by decide +kernel
theorem dX11_init_76 : decode cX11_init 76 = .ok (.aload_n 0, 1) := by decide +kernel
theorem dX11_init_77 : decode cX11_init 77 = .ok (.bipush 64, 2) := by decide +kernel
theorem dX11_init_79 : decode cX11_init 79 = .ok (.newarray .int, 2) := by decide +kernel
theorem dX11_init_81 : decode cX11_init 81 = .ok (.putfield 38, 3) := by decide +kernel
theorem dX11_init_84 : decode cX11_init 84 = .ok (.aload_n 0, 1) := by decide +kernel
theorem dX11_init_85 : decode cX11_init 85 = .ok (.iconst 4, 1) := by decide +kernel
theorem dX11_init_86 : decode cX11_init 86 = .ok (.newarray .int, 2) := by decide +kernel
theorem dX11_init_88 : decode cX11_init 88 = .ok (.putfield 41, 3) := by decide +kernel
theorem dX11_init_91 : decode cX11_init 91 = .ok (.aload_n 0, 1) := by decide +kernel
theorem dX11_init_92 : decode cX11_init 92 = .ok (.getfield 7, 3) := by decide +kernel
theorem dX11_init_95 : decode cX11_init 95 = .ok (.iconst 4, 1) := by decide +kernel
theorem dX11_init_96 : decode cX11_init 96 = .ok (.iconst (-1), 1) := by decide +kernel
theorem dX11_init_97 : decode cX11_init 97 = .ok (.iastore, 1) := by decide +kernel
theorem dX11_init_98 : decode cX11_init 98 = .ok (.iconst 0, 1) := by decide +kernel
theorem dX11_init_99 : decode cX11_init 99 = .ok (.istore_n 1, 1) := by decide +kernel
theorem dX11_init_100 : decode cX11_init 100 = .ok (.iload_n 1, 1) := by decide +kernel
theorem dX11_init_101 : decode cX11_init 101 = .ok (.iconst 4, 1) := by decide +kernel
theorem dX11_init_102 : decode cX11_init 102 = .ok (.if_icmp .ge 19, 3) := by decide +kernel
theorem dX11_init_105 : decode cX11_init 105 = .ok (.aload_n 0, 1) := by decide +kernel
theorem dX11_init_106 : decode cX11_init 106 = .ok (.getfield 7, 3) := by decide +kernel
theorem dX11_init_109 : decode cX11_init 109 = .ok (.bipush 7, 2) := by decide +kernel
theorem dX11_init_111 : decode cX11_init 111 = .ok (.iload_n 1, 1) := by decide +kernel
theorem dX11_init_112 : decode cX11_init 112 = .ok (.iadd, 1) := by decide +kernel
theorem dX11_init_113 : decode cX11_init 113 = .ok (.iconst (-1), 1) := by decide +kernel
theorem dX11_init_114 : decode cX11_init 114 = .ok (.iastore, 1) := by decide +kernel
theorem dX11_init_115 : decode cX11_init 115 = .ok (.iinc 1 1, 3) := by decide +kernel
theorem dX11_init_118 : decode cX11_init 118 = .ok (.goto (-18), 3) := by decide +kernel
theorem dX11_init_121 : decode cX11_init 121 = .ok (.return_, 1) := by decide +kernel
theorem dX11_in_0 : decode cX11_in 0 = .ok (.iload_n 0, 1) := by decide +kernel
theorem dX11_in_1 : decode cX11_in 1 = .ok (.iload_n 1, 1) := by decide +kernel
theorem dX11_in_2 : decode cX11_in 2 = .ok (.if_icmp .lt 12, 3) := by decide +kernel
theorem dX11_in_5 : decode cX11_in 5 = .ok (.iload_n 0, 1) := by decide +kernel
theorem dX11_in_6 : decode cX11_in 6 = .ok (.iload_n 2, 1) := by decide +kernel
theorem dX11_in_7 : decode cX11_in 7 = .ok (.if_icmp .gt 7, 3) := by decide +kernel
theorem dX11_in_10 : decode cX11_in 10 = .ok (.iconst 1, 1) := by decide +kernel
theorem dX11_in_11 : decode cX11_in 11 = .ok (.goto 4, 3) := by decide +kernel
theorem dX11_in_14 : decode cX11_in 14 = .ok (.iconst 0, 1) := by decide +kernel
theorem dX11_in_15 : decode cX11_in 15 = .ok (.ireturn, 1) := by decide +kernel
theorem dX11_isCell_0 : decode cX11_isCell 0 = .ok (.iload_n 0, 1) := by decide +kernel
theorem dX11_isCell_1 : decode cX11_isCell 1 = .ok (.iconst 0, 1) := by decide +kernel
theorem dX11_isCell_2 : decode cX11_isCell 2 = .ok (.bipush 63, 2) := by decide +kernel
theorem dX11_isCell_4 : decode cX11_isCell 4 = .ok (.invokestatic 44, 3) := by decide +kernel
theorem dX11_isCell_7 : decode cX11_isCell 7 = .ok (.ireturn, 1) := by decide +kernel
theorem dX11_begins_0 : decode cX11_begins 0 = .ok (.iconst 0, 1) := by decide +kernel
theorem dX11_begins_1 : decode cX11_begins 1 = .ok (.istore_n 1, 1) := by decide +kernel
theorem dX11_begins_2 : decode cX11_begins 2 = .ok (.iload_n 1, 1) := by decide +kernel
theorem dX11_begins_3 : decode cX11_begins 3 = .ok (.sipush 207, 3) := by decide +kernel
theorem dX11_begins_6 : decode cX11_begins 6 = .ok (.if_icmp .ge 21, 3) := by decide +kernel
theorem dX11_begins_9 : decode cX11_begins 9 = .ok (.aload_n 0, 1) := by decide +kernel
theorem dX11_begins_10 : decode cX11_begins 10 = .ok (.getfield 13, 3) := by decide +kernel
theorem dX11_begins_13 : decode cX11_begins 13 = .ok (.iload_n 1, 1) := by decide +kernel
theorem dX11_begins_14 : decode cX11_begins 14 = .ok (.aload_n 0, 1) := by decide +kernel
theorem dX11_begins_15 : decode cX11_begins 15 = .ok (.getfield 7, 3) := by decide +kernel
theorem dX11_begins_18 : decode cX11_begins 18 = .ok (.iload_n 1, 1) := by decide +kernel
theorem dX11_begins_19 : decode cX11_begins 19 = .ok (.iaload, 1) := by decide +kernel
theorem dX11_begins_20 : decode cX11_begins 20 = .ok (.iastore, 1) := by decide +kernel
theorem dX11_begins_21 : decode cX11_begins 21 = .ok (.iinc 1 1, 3) := by decide +kernel
theorem dX11_begins_24 : decode cX11_begins 24 = .ok (.goto (-22), 3) := by decide +kernel
theorem dX11_begins_27 : decode cX11_begins 27 = .ok (.return_, 1) := by decide +kernel
theorem dX11_returns_0 : decode cX11_returns 0 = .ok (.iconst 0, 1) := by decide +kernel
theorem dX11_returns_1 : decode cX11_returns 1 = .ok (.istore_n 1, 1) := by decide +kernel
theorem dX11_returns_2 : decode cX11_returns 2 = .ok (.iload_n 1, 1) := by decide +kernel
theorem dX11_returns_3 : decode cX11_returns 3 = .ok (.sipush 207, 3) := by decide +kernel
theorem dX11_returns_6 : decode cX11_returns 6 = .ok (.if_icmp .ge 21, 3) := by decide +kernel
theorem dX11_returns_9 : decode cX11_returns 9 = .ok (.aload_n 0, 1) := by decide +kernel
theorem dX11_returns_10 : decode cX11_returns 10 = .ok (.getfield 7, 3) := by decide +kernel
theorem dX11_returns_13 : decode cX11_returns 13 = .ok (.iload_n 1, 1) := by decide +kernel
theorem dX11_returns_14 : decode cX11_returns 14 = .ok (.aload_n 0, 1) := by decide +kernel
theorem dX11_returns_15 : decode cX11_returns 15 = .ok (.getfield 13, 3) := by decide +kernel
theorem dX11_returns_18 : decode cX11_returns 18 = .ok (.iload_n 1, 1) := by decide +kernel
theorem dX11_returns_19 : decode cX11_returns 19 = .ok (.iaload, 1) := by decide +kernel
theorem dX11_returns_20 : decode cX11_returns 20 = .ok (.iastore, 1) := by decide +kernel
theorem dX11_returns_21 : decode cX11_returns 21 = .ok (.iinc 1 1, 3) := by decide +kernel
theorem dX11_returns_24 : decode cX11_returns 24 = .ok (.goto (-22), 3) := by decide +kernel
theorem dX11_returns_27 : decode cX11_returns 27 = .ok (.return_, 1) := by decide +kernel
theorem dX11_putsAside_0 : decode cX11_putsAside 0 = .ok (.iconst 0, 1) := by decide +kernel
theorem dX11_putsAside_1 : decode cX11_putsAside 1 = .ok (.istore_n 1, 1) := by decide +kernel
theorem dX11_putsAside_2 : decode cX11_putsAside 2 = .ok (.iload_n 1, 1) := by decide +kernel
theorem dX11_putsAside_3 : decode cX11_putsAside 3 = .ok (.sipush 207, 3) := by decide +kernel
theorem dX11_putsAside_6 : decode cX11_putsAside 6 = .ok (.if_icmp .ge 21, 3) := by decide +kernel
theorem dX11_putsAside_9 : decode cX11_putsAside 9 = .ok (.aload_n 0, 1) := by decide +kernel
theorem dX11_putsAside_10 : decode cX11_putsAside 10 = .ok (.getfield 16, 3) := by decide +kernel
theorem dX11_putsAside_13 : decode cX11_putsAside 13 = .ok (.iload_n 1, 1) := by decide +kernel
theorem dX11_putsAside_14 : decode cX11_putsAside 14 = .ok (.aload_n 0, 1) := by decide +kernel
theorem dX11_putsAside_15 : decode cX11_putsAside 15 = .ok (.getfield 7, 3) := by decide +kernel
theorem dX11_putsAside_18 : decode cX11_putsAside 18 = .ok (.iload_n 1, 1) := by decide +kernel
theorem dX11_putsAside_19 : decode cX11_putsAside 19 = .ok (.iaload, 1) := by decide +kernel
theorem dX11_putsAside_20 : decode cX11_putsAside 20 = .ok (.iastore, 1) := by decide +kernel
theorem dX11_putsAside_21 : decode cX11_putsAside 21 = .ok (.iinc 1 1, 3) := by decide +kernel
theorem dX11_putsAside_24 : decode cX11_putsAside 24 = .ok (.goto (-22), 3) := by decide +kernel
theorem dX11_putsAside_27 : decode cX11_putsAside 27 = .ok (.return_, 1) := by decide +kernel
theorem dX11_takesBack_0 : decode cX11_takesBack 0 = .ok (.iconst 0, 1) := by decide +kernel
theorem dX11_takesBack_1 : decode cX11_takesBack 1 = .ok (.istore_n 1, 1) := by decide +kernel
theorem dX11_takesBack_2 : decode cX11_takesBack 2 = .ok (.iload_n 1, 1) := by decide +kernel
theorem dX11_takesBack_3 : decode cX11_takesBack 3 = .ok (.sipush 207, 3) := by decide +kernel
theorem dX11_takesBack_6 : decode cX11_takesBack 6 = .ok (.if_icmp .ge 21, 3) := by decide +kernel
theorem dX11_takesBack_9 : decode cX11_takesBack 9 = .ok (.aload_n 0, 1) := by decide +kernel
theorem dX11_takesBack_10 : decode cX11_takesBack 10 = .ok (.getfield 7, 3) := by decide +kernel
theorem dX11_takesBack_13 : decode cX11_takesBack 13 = .ok (.iload_n 1, 1) := by decide +kernel
theorem dX11_takesBack_14 : decode cX11_takesBack 14 = .ok (.aload_n 0, 1) := by decide +kernel
theorem dX11_takesBack_15 : decode cX11_takesBack 15 = .ok (.getfield 16, 3) := by decide +kernel
theorem dX11_takesBack_18 : decode cX11_takesBack 18 = .ok (.iload_n 1, 1) := by decide +kernel
theorem dX11_takesBack_19 : decode cX11_takesBack 19 = .ok (.iaload, 1) := by decide +kernel
theorem dX11_takesBack_20 : decode cX11_takesBack 20 = .ok (.iastore, 1) := by decide +kernel
theorem dX11_takesBack_21 : decode cX11_takesBack 21 = .ok (.iinc 1 1, 3) := by decide +kernel
theorem dX11_takesBack_24 : decode cX11_takesBack 24 = .ok (.goto (-22), 3) := by decide +kernel
theorem dX11_takesBack_27 : decode cX11_takesBack 27 = .ok (.return_, 1) := by decide +kernel
theorem dX11_acted_0 : decode cX11_acted 0 = .ok (.iload_n 1, 1) := by decide +kernel
theorem dX11_acted_1 : decode cX11_acted 1 = .ok (.ldc 48, 2) := by decide +kernel
theorem dX11_acted_3 : decode cX11_acted 3 = .ok (.if_icmp .gt 9, 3) := by decide +kernel
theorem dX11_acted_6 : decode cX11_acted 6 = .ok (.aload_n 0, 1) := by decide +kernel
theorem dX11_acted_7 : decode cX11_acted 7 = .ok (.invokevirtual 49, 3) := by decide +kernel
theorem dX11_acted_10 : decode cX11_acted 10 = .ok (.iload_n 1, 1) := by decide +kernel
theorem dX11_acted_11 : decode cX11_acted 11 = .ok (.ireturn, 1) := by decide +kernel
theorem dX11_acted_12 : decode cX11_acted 12 = .ok (.aload_n 0, 1) := by decide +kernel
theorem dX11_acted_13 : decode cX11_acted 13 = .ok (.getfield 52, 3) := by decide +kernel
theorem dX11_acted_16 : decode cX11_acted 16 = .ok (.iconst 4, 1) := by decide +kernel
theorem dX11_acted_17 : decode cX11_acted 17 = .ok (.if_icmp .ne 44, 3) := by decide +kernel
theorem dX11_acted_20 : decode cX11_acted 20 = .ok (.iconst 0, 1) := by decide +kernel
theorem dX11_acted_21 : decode cX11_acted 21 = .ok (.istore_n 2, 1) := by decide +kernel
theorem dX11_acted_22 : decode cX11_acted 22 = .ok (.iload_n 2, 1) := by decide +kernel
theorem dX11_acted_23 : decode cX11_acted 23 = .ok (.sipush 621, 3) := by decide +kernel
theorem dX11_acted_26 : decode cX11_acted 26 = .ok (.if_icmp .ge 25, 3) := by decide +kernel
theorem dX11_acted_29 : decode cX11_acted 29 = .ok (.aload_n 0, 1) := by decide +kernel
theorem dX11_acted_30 : decode cX11_acted 30 = .ok (.getfield 19, 3) := by decide +kernel
theorem dX11_acted_33 : decode cX11_acted 33 = .ok (.iload_n 2, 1) := by decide +kernel
theorem dX11_acted_34 : decode cX11_acted 34 = .ok (.aload_n 0, 1) := by decide +kernel
theorem dX11_acted_35 : decode cX11_acted 35 = .ok (.getfield 19, 3) := by decide +kernel
theorem dX11_acted_38 : decode cX11_acted 38 = .ok (.iload_n 2, 1) := by decide +kernel
theorem dX11_acted_39 : decode cX11_acted 39 = .ok (.sipush 207, 3) := by decide +kernel
theorem dX11_acted_42 : decode cX11_acted 42 = .ok (.iadd, 1) := by decide +kernel
theorem dX11_acted_43 : decode cX11_acted 43 = .ok (.iaload, 1) := by decide +kernel
theorem dX11_acted_44 : decode cX11_acted 44 = .ok (.iastore, 1) := by decide +kernel
theorem dX11_acted_45 : decode cX11_acted 45 = .ok (.iinc 2 1, 3) := by decide +kernel
theorem dX11_acted_48 : decode cX11_acted 48 = .ok (.goto (-26), 3) := by decide +kernel
theorem dX11_acted_51 : decode cX11_acted 51 = .ok (.aload_n 0, 1) := by decide +kernel
theorem dX11_acted_52 : decode cX11_acted 52 = .ok (.dup, 1) := by decide +kernel
theorem dX11_acted_53 : decode cX11_acted 53 = .ok (.getfield 52, 3) := by decide +kernel
theorem dX11_acted_56 : decode cX11_acted 56 = .ok (.iconst 1, 1) := by decide +kernel
theorem dX11_acted_57 : decode cX11_acted 57 = .ok (.isub, 1) := by decide +kernel
theorem dX11_acted_58 : decode cX11_acted 58 = .ok (.putfield 52, 3) := by decide +kernel
theorem dX11_acted_61 : decode cX11_acted 61 = .ok (.iconst 0, 1) := by decide +kernel
theorem dX11_acted_62 : decode cX11_acted 62 = .ok (.istore_n 2, 1) := by decide +kernel
theorem dX11_acted_63 : decode cX11_acted 63 = .ok (.iload_n 2, 1) := by decide +kernel
theorem dX11_acted_64 : decode cX11_acted 64 = .ok (.sipush 207, 3) := by decide +kernel
theorem dX11_acted_67 : decode cX11_acted 67 = .ok (.if_icmp .ge 30, 3) := by decide +kernel
theorem dX11_acted_70 : decode cX11_acted 70 = .ok (.aload_n 0, 1) := by decide +kernel
theorem dX11_acted_71 : decode cX11_acted 71 = .ok (.getfield 19, 3) := by decide +kernel
theorem dX11_acted_74 : decode cX11_acted 74 = .ok (.sipush 207, 3) := by decide +kernel
theorem dX11_acted_77 : decode cX11_acted 77 = .ok (.aload_n 0, 1) := by decide +kernel
theorem dX11_acted_78 : decode cX11_acted 78 = .ok (.getfield 52, 3) := by decide +kernel
theorem dX11_acted_81 : decode cX11_acted 81 = .ok (.imul, 1) := by decide +kernel
theorem dX11_acted_82 : decode cX11_acted 82 = .ok (.iload_n 2, 1) := by decide +kernel
theorem dX11_acted_83 : decode cX11_acted 83 = .ok (.iadd, 1) := by decide +kernel
theorem dX11_acted_84 : decode cX11_acted 84 = .ok (.aload_n 0, 1) := by decide +kernel
theorem dX11_acted_85 : decode cX11_acted 85 = .ok (.getfield 13, 3) := by decide +kernel
theorem dX11_acted_88 : decode cX11_acted 88 = .ok (.iload_n 2, 1) := by decide +kernel
theorem dX11_acted_89 : decode cX11_acted 89 = .ok (.iaload, 1) := by decide +kernel
theorem dX11_acted_90 : decode cX11_acted 90 = .ok (.iastore, 1) := by decide +kernel
theorem dX11_acted_91 : decode cX11_acted 91 = .ok (.iinc 2 1, 3) := by decide +kernel
theorem dX11_acted_94 : decode cX11_acted 94 = .ok (.goto (-31), 3) := by decide +kernel
theorem dX11_acted_97 : decode cX11_acted 97 = .ok (.aload_n 0, 1) := by decide +kernel
theorem dX11_acted_98 : decode cX11_acted 98 = .ok (.dup, 1) := by decide +kernel
theorem dX11_acted_99 : decode cX11_acted 99 = .ok (.getfield 52, 3) := by decide +kernel
theorem dX11_acted_102 : decode cX11_acted 102 = .ok (.iconst 1, 1) := by decide +kernel
theorem dX11_acted_103 : decode cX11_acted 103 = .ok (.iadd, 1) := by decide +kernel
theorem dX11_acted_104 : decode cX11_acted 104 = .ok (.putfield 52, 3) := by decide +kernel
theorem dX11_acted_107 : decode cX11_acted 107 = .ok (.iload_n 1, 1) := by decide +kernel
theorem dX11_acted_108 : decode cX11_acted 108 = .ok (.ireturn, 1) := by decide +kernel
theorem dX11_of_0 : decode cX11_of 0 = .ok (.aload_n 0, 1) := by decide +kernel
theorem dX11_of_1 : decode cX11_of 1 = .ok (.getfield 7, 3) := by decide +kernel
theorem dX11_of_4 : decode cX11_of 4 = .ok (.sipush 139, 3) := by decide +kernel
theorem dX11_of_7 : decode cX11_of 7 = .ok (.bipush 17, 2) := by decide +kernel
theorem dX11_of_9 : decode cX11_of 9 = .ok (.iload_n 1, 1) := by decide +kernel
theorem dX11_of_10 : decode cX11_of 10 = .ok (.imul, 1) := by decide +kernel
theorem dX11_of_11 : decode cX11_of 11 = .ok (.iadd, 1) := by decide +kernel
theorem dX11_of_12 : decode cX11_of 12 = .ok (.iload_n 2, 1) := by decide +kernel
theorem dX11_of_13 : decode cX11_of 13 = .ok (.iadd, 1) := by decide +kernel
theorem dX11_of_14 : decode cX11_of 14 = .ok (.iaload, 1) := by decide +kernel
theorem dX11_of_15 : decode cX11_of 15 = .ok (.ireturn, 1) := by decide +kernel
theorem dX11_lays_0 : decode cX11_lays 0 = .ok (.aload_n 0, 1) := by decide +kernel
theorem dX11_lays_1 : decode cX11_lays 1 = .ok (.getfield 7, 3) := by decide +kernel
theorem dX11_lays_4 : decode cX11_lays 4 = .ok (.sipush 139, 3) := by decide +kernel
theorem dX11_lays_7 : decode cX11_lays 7 = .ok (.bipush 17, 2) := by decide +kernel
theorem dX11_lays_9 : decode cX11_lays 9 = .ok (.iload_n 1, 1) := by decide +kernel
theorem dX11_lays_10 : decode cX11_lays 10 = .ok (.imul, 1) := by decide +kernel
theorem dX11_lays_11 : decode cX11_lays 11 = .ok (.iadd, 1) := by decide +kernel
theorem dX11_lays_12 : decode cX11_lays 12 = .ok (.iload_n 2, 1) := by decide +kernel
theorem dX11_lays_13 : decode cX11_lays 13 = .ok (.iadd, 1) := by decide +kernel
theorem dX11_lays_14 : decode cX11_lays 14 = .ok (.iload_n 3, 1) := by decide +kernel
theorem dX11_lays_15 : decode cX11_lays 15 = .ok (.iastore, 1) := by decide +kernel
theorem dX11_lays_16 : decode cX11_lays 16 = .ok (.return_, 1) := by decide +kernel
theorem dX11_more_0 : decode cX11_more 0 = .ok (.aload_n 0, 1) := by decide +kernel
theorem dX11_more_1 : decode cX11_more 1 = .ok (.getfield 7, 3) := by decide +kernel
theorem dX11_more_4 : decode cX11_more 4 = .ok (.sipush 139, 3) := by decide +kernel
theorem dX11_more_7 : decode cX11_more 7 = .ok (.bipush 17, 2) := by decide +kernel
theorem dX11_more_9 : decode cX11_more 9 = .ok (.iload_n 1, 1) := by decide +kernel
theorem dX11_more_10 : decode cX11_more 10 = .ok (.imul, 1) := by decide +kernel
theorem dX11_more_11 : decode cX11_more 11 = .ok (.iadd, 1) := by decide +kernel
theorem dX11_more_12 : decode cX11_more 12 = .ok (.iload_n 2, 1) := by decide +kernel
theorem dX11_more_13 : decode cX11_more 13 = .ok (.iadd, 1) := by decide +kernel
theorem dX11_more_14 : decode cX11_more 14 = .ok (.dup2, 1) := by decide +kernel
theorem dX11_more_15 : decode cX11_more 15 = .ok (.iaload, 1) := by decide +kernel
theorem dX11_more_16 : decode cX11_more 16 = .ok (.iconst 1, 1) := by decide +kernel
theorem dX11_more_17 : decode cX11_more 17 = .ok (.iadd, 1) := by decide +kernel
theorem dX11_more_18 : decode cX11_more 18 = .ok (.iastore, 1) := by decide +kernel
theorem dX11_more_19 : decode cX11_more 19 = .ok (.return_, 1) := by decide +kernel
theorem dX11_isCart_0 : decode cX11_isCart 0 = .ok (.iload_n 1, 1) := by decide +kernel
theorem dX11_isCart_1 : decode cX11_isCart 1 = .ok (.iconst 0, 1) := by decide +kernel
theorem dX11_isCart_2 : decode cX11_isCart 2 = .ok (.aload_n 0, 1) := by decide +kernel
theorem dX11_isCart_3 : decode cX11_isCart 3 = .ok (.getfield 7, 3) := by decide +kernel
theorem dX11_isCart_6 : decode cX11_isCart 6 = .ok (.iconst 0, 1) := by decide +kernel
theorem dX11_isCart_7 : decode cX11_isCart 7 = .ok (.iaload, 1) := by decide +kernel
theorem dX11_isCart_8 : decode cX11_isCart 8 = .ok (.iconst 1, 1) := by decide +kernel
theorem dX11_isCart_9 : decode cX11_isCart 9 = .ok (.isub, 1) := by decide +kernel
theorem dX11_isCart_10 : decode cX11_isCart 10 = .ok (.invokestatic 44, 3) := by decide +kernel
theorem dX11_isCart_13 : decode cX11_isCart 13 = .ok (.ireturn, 1) := by decide +kernel
theorem dX11_isOut_0 : decode cX11_isOut 0 = .ok (.aload_n 0, 1) := by decide +kernel
theorem dX11_isOut_1 : decode cX11_isOut 1 = .ok (.iload_n 1, 1) := by decide +kernel
theorem dX11_isOut_2 : decode cX11_isOut 2 = .ok (.iconst 1, 1) := by decide +kernel
theorem dX11_isOut_3 : decode cX11_isOut 3 = .ok (.invokevirtual 56, 3) := by decide +kernel
theorem dX11_isOut_6 : decode cX11_isOut 6 = .ok (.ifCond .ge 7, 3) := by decide +kernel
theorem dX11_isOut_9 : decode cX11_isOut 9 = .ok (.iconst 1, 1) := by decide +kernel
theorem dX11_isOut_10 : decode cX11_isOut 10 = .ok (.goto 4, 3) := by decide +kernel
theorem dX11_isOut_13 : decode cX11_isOut 13 = .ok (.iconst 0, 1) := by decide +kernel
theorem dX11_isOut_14 : decode cX11_isOut 14 = .ok (.ireturn, 1) := by decide +kernel
theorem dX11_rank_0 : decode cX11_rank 0 = .ok (.aload_n 0, 1) := by decide +kernel
theorem dX11_rank_1 : decode cX11_rank 1 = .ok (.iload_n 1, 1) := by decide +kernel
theorem dX11_rank_2 : decode cX11_rank 2 = .ok (.bipush 7, 2) := by decide +kernel
theorem dX11_rank_4 : decode cX11_rank 4 = .ok (.iconst 2, 1) := by decide +kernel
theorem dX11_rank_5 : decode cX11_rank 5 = .ok (.iload_n 2, 1) := by decide +kernel
theorem dX11_rank_6 : decode cX11_rank 6 = .ok (.imul, 1) := by decide +kernel
theorem dX11_rank_7 : decode cX11_rank 7 = .ok (.iadd, 1) := by decide +kernel
theorem dX11_rank_8 : decode cX11_rank 8 = .ok (.iconst 1, 1) := by decide +kernel
theorem dX11_rank_9 : decode cX11_rank 9 = .ok (.iadd, 1) := by decide +kernel
theorem dX11_rank_10 : decode cX11_rank 10 = .ok (.invokevirtual 56, 3) := by decide +kernel
theorem dX11_rank_13 : decode cX11_rank 13 = .ok (.ireturn, 1) := by decide +kernel
theorem dX11_cartOn_0 : decode cX11_cartOn 0 = .ok (.iconst (-1), 1) := by decide +kernel
theorem dX11_cartOn_1 : decode cX11_cartOn 1 = .ok (.istore_n 2, 1) := by decide +kernel
theorem dX11_cartOn_2 : decode cX11_cartOn 2 = .ok (.iconst 0, 1) := by decide +kernel
theorem dX11_cartOn_3 : decode cX11_cartOn 3 = .ok (.istore_n 3, 1) := by decide +kernel
theorem dX11_cartOn_4 : decode cX11_cartOn 4 = .ok (.iload_n 3, 1) := by decide +kernel
theorem dX11_cartOn_5 : decode cX11_cartOn 5 = .ok (.aload_n 0, 1) := by decide +kernel
theorem dX11_cartOn_6 : decode cX11_cartOn 6 = .ok (.getfield 7, 3) := by decide +kernel
theorem dX11_cartOn_9 : decode cX11_cartOn 9 = .ok (.iconst 0, 1) := by decide +kernel
theorem dX11_cartOn_10 : decode cX11_cartOn 10 = .ok (.iaload, 1) := by decide +kernel
theorem dX11_cartOn_11 : decode cX11_cartOn 11 = .ok (.if_icmp .ge 25, 3) := by decide +kernel
theorem dX11_cartOn_14 : decode cX11_cartOn 14 = .ok (.aload_n 0, 1) := by decide +kernel
theorem dX11_cartOn_15 : decode cX11_cartOn 15 = .ok (.iload_n 3, 1) := by decide +kernel
theorem dX11_cartOn_16 : decode cX11_cartOn 16 = .ok (.iconst 1, 1) := by decide +kernel
theorem dX11_cartOn_17 : decode cX11_cartOn 17 = .ok (.invokevirtual 56, 3) := by decide +kernel
theorem dX11_cartOn_20 : decode cX11_cartOn 20 = .ok (.iload_n 1, 1) := by decide +kernel
theorem dX11_cartOn_21 : decode cX11_cartOn 21 = .ok (.if_icmp .ne 7, 3) := by decide +kernel
theorem dX11_cartOn_24 : decode cX11_cartOn 24 = .ok (.iload_n 3, 1) := by decide +kernel
theorem dX11_cartOn_25 : decode cX11_cartOn 25 = .ok (.goto 4, 3) := by decide +kernel
theorem dX11_cartOn_28 : decode cX11_cartOn 28 = .ok (.iload_n 2, 1) := by decide +kernel
theorem dX11_cartOn_29 : decode cX11_cartOn 29 = .ok (.istore_n 2, 1) := by decide +kernel
theorem dX11_cartOn_30 : decode cX11_cartOn 30 = .ok (.iinc 3 1, 3) := by decide +kernel
theorem dX11_cartOn_33 : decode cX11_cartOn 33 = .ok (.goto (-29), 3) := by decide +kernel
theorem dX11_cartOn_36 : decode cX11_cartOn 36 = .ok (.iload_n 2, 1) := by decide +kernel
theorem dX11_cartOn_37 : decode cX11_cartOn 37 = .ok (.ireturn, 1) := by decide +kernel
theorem dX11_isWall_0 : decode cX11_isWall 0 = .ok (.aload_n 0, 1) := by decide +kernel
theorem dX11_isWall_1 : decode cX11_isWall 1 = .ok (.getfield 7, 3) := by decide +kernel
theorem dX11_isWall_4 : decode cX11_isWall 4 = .ok (.bipush 75, 2) := by decide +kernel
theorem dX11_isWall_6 : decode cX11_isWall 6 = .ok (.iload_n 1, 1) := by decide +kernel
theorem dX11_isWall_7 : decode cX11_isWall 7 = .ok (.iadd, 1) := by decide +kernel
theorem dX11_isWall_8 : decode cX11_isWall 8 = .ok (.iaload, 1) := by decide +kernel
theorem dX11_isWall_9 : decode cX11_isWall 9 = .ok (.iload_n 2, 1) := by decide +kernel
theorem dX11_isWall_10 : decode cX11_isWall 10 = .ok (.ishr, 1) := by decide +kernel
theorem dX11_isWall_11 : decode cX11_isWall 11 = .ok (.iconst 1, 1) := by decide +kernel
theorem dX11_isWall_12 : decode cX11_isWall 12 = .ok (.iand, 1) := by decide +kernel
theorem dX11_isWall_13 : decode cX11_isWall 13 = .ok (.iconst 1, 1) := by decide +kernel
theorem dX11_isWall_14 : decode cX11_isWall 14 = .ok (.if_icmp .ne 7, 3) := by decide +kernel
theorem dX11_isWall_17 : decode cX11_isWall 17 = .ok (.iconst 1, 1) := by decide +kernel
theorem dX11_isWall_18 : decode cX11_isWall 18 = .ok (.goto 4, 3) := by decide +kernel
theorem dX11_isWall_21 : decode cX11_isWall 21 = .ok (.iconst 0, 1) := by decide +kernel
theorem dX11_isWall_22 : decode cX11_isWall 22 = .ok (.ireturn, 1) := by decide +kernel
theorem dX11_next_0 : decode cX11_next 0 = .ok (.iload_n 0, 1) := by decide +kernel
theorem dX11_next_1 : decode cX11_next 1 = .ok (.bipush 8, 2) := by decide +kernel
theorem dX11_next_3 : decode cX11_next 3 = .ok (.irem, 1) := by decide +kernel
theorem dX11_next_4 : decode cX11_next 4 = .ok (.iload_n 1, 1) := by decide +kernel
theorem dX11_next_5 : decode cX11_next 5 = .ok (.iconst 1, 1) := by decide +kernel
theorem dX11_next_6 : decode cX11_next 6 = .ok (.if_icmp .ne 7, 3) := by decide +kernel
theorem dX11_next_9 : decode cX11_next 9 = .ok (.iconst 1, 1) := by decide +kernel
theorem dX11_next_10 : decode cX11_next 10 = .ok (.goto 13, 3) := by decide +kernel
theorem dX11_next_13 : decode cX11_next 13 = .ok (.iload_n 1, 1) := by decide +kernel
theorem dX11_next_14 : decode cX11_next 14 = .ok (.iconst 3, 1) := by decide +kernel
theorem dX11_next_15 : decode cX11_next 15 = .ok (.if_icmp .ne 7, 3) := by decide +kernel
theorem dX11_next_18 : decode cX11_next 18 = .ok (.iconst (-1), 1) := by decide +kernel
theorem dX11_next_19 : decode cX11_next 19 = .ok (.goto 4, 3) := by decide +kernel
theorem dX11_next_22 : decode cX11_next 22 = .ok (.iconst 0, 1) := by decide +kernel
theorem dX11_next_23 : decode cX11_next 23 = .ok (.iadd, 1) := by decide +kernel
theorem dX11_next_24 : decode cX11_next 24 = .ok (.istore_n 2, 1) := by decide +kernel
theorem dX11_next_25 : decode cX11_next 25 = .ok (.iload_n 0, 1) := by decide +kernel
theorem dX11_next_26 : decode cX11_next 26 = .ok (.bipush 8, 2) := by decide +kernel
theorem dX11_next_28 : decode cX11_next 28 = .ok (.idiv, 1) := by decide +kernel
theorem dX11_next_29 : decode cX11_next 29 = .ok (.iload_n 1, 1) := by decide +kernel
theorem dX11_next_30 : decode cX11_next 30 = .ok (.iconst 2, 1) := by decide +kernel
theorem dX11_next_31 : decode cX11_next 31 = .ok (.if_icmp .ne 7, 3) := by decide +kernel
theorem dX11_next_34 : decode cX11_next 34 = .ok (.iconst 1, 1) := by decide +kernel
theorem dX11_next_35 : decode cX11_next 35 = .ok (.goto 12, 3) := by decide +kernel
theorem dX11_next_38 : decode cX11_next 38 = .ok (.iload_n 1, 1) := by decide +kernel
theorem dX11_next_39 : decode cX11_next 39 = .ok (.ifCond .ne 7, 3) := by decide +kernel
theorem dX11_next_42 : decode cX11_next 42 = .ok (.iconst (-1), 1) := by decide +kernel
theorem dX11_next_43 : decode cX11_next 43 = .ok (.goto 4, 3) := by decide +kernel
theorem dX11_next_46 : decode cX11_next 46 = .ok (.iconst 0, 1) := by decide +kernel
theorem dX11_next_47 : decode cX11_next 47 = .ok (.iadd, 1) := by decide +kernel
theorem dX11_next_48 : decode cX11_next 48 = .ok (.istore_n 3, 1) := by decide +kernel
theorem dX11_next_49 : decode cX11_next 49 = .ok (.iload_n 2, 1) := by decide +kernel
theorem dX11_next_50 : decode cX11_next 50 = .ok (.iconst 0, 1) := by decide +kernel
theorem dX11_next_51 : decode cX11_next 51 = .ok (.bipush 7, 2) := by decide +kernel
theorem dX11_next_53 : decode cX11_next 53 = .ok (.invokestatic 44, 3) := by decide +kernel
theorem dX11_next_56 : decode cX11_next 56 = .ok (.ifCond .eq 22, 3) := by decide +kernel
theorem dX11_next_59 : decode cX11_next 59 = .ok (.iload_n 3, 1) := by decide +kernel
theorem dX11_next_60 : decode cX11_next 60 = .ok (.iconst 0, 1) := by decide +kernel
theorem dX11_next_61 : decode cX11_next 61 = .ok (.bipush 7, 2) := by decide +kernel
theorem dX11_next_63 : decode cX11_next 63 = .ok (.invokestatic 44, 3) := by decide +kernel
theorem dX11_next_66 : decode cX11_next 66 = .ok (.ifCond .eq 12, 3) := by decide +kernel
theorem dX11_next_69 : decode cX11_next 69 = .ok (.bipush 8, 2) := by decide +kernel
theorem dX11_next_71 : decode cX11_next 71 = .ok (.iload_n 3, 1) := by decide +kernel
theorem dX11_next_72 : decode cX11_next 72 = .ok (.imul, 1) := by decide +kernel
theorem dX11_next_73 : decode cX11_next 73 = .ok (.iload_n 2, 1) := by decide +kernel
theorem dX11_next_74 : decode cX11_next 74 = .ok (.iadd, 1) := by decide +kernel
theorem dX11_next_75 : decode cX11_next 75 = .ok (.goto 4, 3) := by decide +kernel
theorem dX11_next_78 : decode cX11_next 78 = .ok (.iconst (-1), 1) := by decide +kernel
theorem dX11_next_79 : decode cX11_next 79 = .ok (.ireturn, 1) := by decide +kernel
theorem dX11_isLocked_0 : decode cX11_isLocked 0 = .ok (.iload_n 2, 1) := by decide +kernel
theorem dX11_isLocked_1 : decode cX11_isLocked 1 = .ok (.iconst 5, 1) := by decide +kernel
theorem dX11_isLocked_2 : decode cX11_isLocked 2 = .ok (.aload_n 0, 1) := by decide +kernel
theorem dX11_isLocked_3 : decode cX11_isLocked 3 = .ok (.iload_n 1, 1) := by decide +kernel
theorem dX11_isLocked_4 : decode cX11_isLocked 4 = .ok (.iconst 3, 1) := by decide +kernel
theorem dX11_isLocked_5 : decode cX11_isLocked 5 = .ok (.invokevirtual 56, 3) := by decide +kernel
theorem dX11_isLocked_8 : decode cX11_isLocked 8 = .ok (.iconst 4, 1) := by decide +kernel
theorem dX11_isLocked_9 : decode cX11_isLocked 9 = .ok (.isub, 1) := by decide +kernel
theorem dX11_isLocked_10 : decode cX11_isLocked 10 = .ok (.isub, 1) := by decide +kernel
theorem dX11_isLocked_11 : decode cX11_isLocked 11 = .ok (.if_icmp .lt 7, 3) := by decide +kernel
theorem dX11_isLocked_14 : decode cX11_isLocked 14 = .ok (.iconst 1, 1) := by decide +kernel
theorem dX11_isLocked_15 : decode cX11_isLocked 15 = .ok (.goto 4, 3) := by decide +kernel
theorem dX11_isLocked_18 : decode cX11_isLocked 18 = .ok (.iconst 0, 1) := by decide +kernel
theorem dX11_isLocked_19 : decode cX11_isLocked 19 = .ok (.ireturn, 1) := by decide +kernel
theorem dX11_outs_0 : decode cX11_outs 0 = .ok (.iconst 0, 1) := by decide +kernel
theorem dX11_outs_1 : decode cX11_outs 1 = .ok (.istore_n 1, 1) := by decide +kernel
theorem dX11_outs_2 : decode cX11_outs 2 = .ok (.iconst 0, 1) := by decide +kernel
theorem dX11_outs_3 : decode cX11_outs 3 = .ok (.istore_n 2, 1) := by decide +kernel
theorem dX11_outs_4 : decode cX11_outs 4 = .ok (.iload_n 2, 1) := by decide +kernel
theorem dX11_outs_5 : decode cX11_outs 5 = .ok (.aload_n 0, 1) := by decide +kernel
theorem dX11_outs_6 : decode cX11_outs 6 = .ok (.getfield 7, 3) := by decide +kernel
theorem dX11_outs_9 : decode cX11_outs 9 = .ok (.iconst 0, 1) := by decide +kernel
theorem dX11_outs_10 : decode cX11_outs 10 = .ok (.iaload, 1) := by decide +kernel
theorem dX11_outs_11 : decode cX11_outs 11 = .ok (.if_icmp .ge 18, 3) := by decide +kernel
theorem dX11_outs_14 : decode cX11_outs 14 = .ok (.iload_n 1, 1) := by decide +kernel
theorem dX11_outs_15 : decode cX11_outs 15 = .ok (.aload_n 0, 1) := by decide +kernel
theorem dX11_outs_16 : decode cX11_outs 16 = .ok (.iload_n 2, 1) := by decide +kernel
theorem dX11_outs_17 : decode cX11_outs 17 = .ok (.iconst 5, 1) := by decide +kernel
theorem dX11_outs_18 : decode cX11_outs 18 = .ok (.invokevirtual 56, 3) := by decide +kernel
theorem dX11_outs_21 : decode cX11_outs 21 = .ok (.iadd, 1) := by decide +kernel
theorem dX11_outs_22 : decode cX11_outs 22 = .ok (.istore_n 1, 1) := by decide +kernel
theorem dX11_outs_23 : decode cX11_outs 23 = .ok (.iinc 2 1, 3) := by decide +kernel
theorem dX11_outs_26 : decode cX11_outs 26 = .ok (.goto (-22), 3) := by decide +kernel
theorem dX11_outs_29 : decode cX11_outs 29 = .ok (.iload_n 1, 1) := by decide +kernel
theorem dX11_outs_30 : decode cX11_outs 30 = .ok (.ireturn, 1) := by decide +kernel
theorem dX11_goesOut_0 : decode cX11_goesOut 0 = .ok (.aload_n 0, 1) := by decide +kernel
theorem dX11_goesOut_1 : decode cX11_goesOut 1 = .ok (.iload_n 1, 1) := by decide +kernel
theorem dX11_goesOut_2 : decode cX11_goesOut 2 = .ok (.iconst 1, 1) := by decide +kernel
theorem dX11_goesOut_3 : decode cX11_goesOut 3 = .ok (.iconst (-1), 1) := by decide +kernel
theorem dX11_goesOut_4 : decode cX11_goesOut 4 = .ok (.invokevirtual 60, 3) := by decide +kernel
theorem dX11_goesOut_7 : decode cX11_goesOut 7 = .ok (.aload_n 0, 1) := by decide +kernel
theorem dX11_goesOut_8 : decode cX11_goesOut 8 = .ok (.iload_n 1, 1) := by decide +kernel
theorem dX11_goesOut_9 : decode cX11_goesOut 9 = .ok (.iconst 5, 1) := by decide +kernel
theorem dX11_goesOut_10 : decode cX11_goesOut 10 = .ok (.invokevirtual 64, 3) := by decide +kernel
theorem dX11_goesOut_13 : decode cX11_goesOut 13 = .ok (.return_, 1) := by decide +kernel
theorem dX11_comesTo_0 : decode cX11_comesTo 0 = .ok (.iload_n 2, 1) := by decide +kernel
theorem dX11_comesTo_1 : decode cX11_comesTo 1 = .ok (.ifCond .lt 17, 3) := by decide +kernel
theorem dX11_comesTo_4 : decode cX11_comesTo 4 = .ok (.aload_n 0, 1) := by decide +kernel
theorem dX11_comesTo_5 : decode cX11_comesTo 5 = .ok (.getfield 7, 3) := by decide +kernel
theorem dX11_comesTo_8 : decode cX11_comesTo 8 = .ok (.bipush 11, 2) := by decide +kernel
theorem dX11_comesTo_10 : decode cX11_comesTo 10 = .ok (.iload_n 2, 1) := by decide +kernel
theorem dX11_comesTo_11 : decode cX11_comesTo 11 = .ok (.iadd, 1) := by decide +kernel
theorem dX11_comesTo_12 : decode cX11_comesTo 12 = .ok (.iaload, 1) := by decide +kernel
theorem dX11_comesTo_13 : decode cX11_comesTo 13 = .ok (.bipush 7, 2) := by decide +kernel
theorem dX11_comesTo_15 : decode cX11_comesTo 15 = .ok (.if_icmp .ne 11, 3) := by decide +kernel
theorem dX11_comesTo_18 : decode cX11_comesTo 18 = .ok (.aload_n 0, 1) := by decide +kernel
theorem dX11_comesTo_19 : decode cX11_comesTo 19 = .ok (.iload_n 1, 1) := by decide +kernel
theorem dX11_comesTo_20 : decode cX11_comesTo 20 = .ok (.invokevirtual 68, 3) := by decide +kernel
theorem dX11_comesTo_23 : decode cX11_comesTo 23 = .ok (.goto 10, 3) := by decide +kernel
theorem dX11_comesTo_26 : decode cX11_comesTo 26 = .ok (.aload_n 0, 1) := by decide +kernel
theorem dX11_comesTo_27 : decode cX11_comesTo 27 = .ok (.iload_n 1, 1) := by decide +kernel
theorem dX11_comesTo_28 : decode cX11_comesTo 28 = .ok (.iconst 1, 1) := by decide +kernel
theorem dX11_comesTo_29 : decode cX11_comesTo 29 = .ok (.iload_n 2, 1) := by decide +kernel
theorem dX11_comesTo_30 : decode cX11_comesTo 30 = .ok (.invokevirtual 60, 3) := by decide +kernel
theorem dX11_comesTo_33 : decode cX11_comesTo 33 = .ok (.return_, 1) := by decide +kernel
theorem dX11_steps1_0 : decode cX11_steps1 0 = .ok (.iconst 0, 1) := by decide +kernel
theorem dX11_steps1_1 : decode cX11_steps1 1 = .ok (.istore_n 3, 1) := by decide +kernel
theorem dX11_steps1_2 : decode cX11_steps1 2 = .ok (.iload_n 1, 1) := by decide +kernel
theorem dX11_steps1_3 : decode cX11_steps1 3 = .ok (.istore 4, 2) := by decide +kernel
theorem dX11_steps1_5 : decode cX11_steps1 5 = .ok (.iconst (-1), 1) := by decide +kernel
theorem dX11_steps1_6 : decode cX11_steps1 6 = .ok (.istore 5, 2) := by decide +kernel
theorem dX11_steps1_8 : decode cX11_steps1 8 = .ok (.iload 4, 2) := by decide +kernel
theorem dX11_steps1_10 : decode cX11_steps1 10 = .ok (.ifCond .lt 64, 3) := by decide +kernel
theorem dX11_steps1_13 : decode cX11_steps1 13 = .ok (.aload_n 0, 1) := by decide +kernel
theorem dX11_steps1_14 : decode cX11_steps1 14 = .ok (.getfield 25, 3) := by decide +kernel
theorem dX11_steps1_17 : decode cX11_steps1 17 = .ok (.iload_n 3, 1) := by decide +kernel
theorem dX11_steps1_18 : decode cX11_steps1 18 = .ok (.iload 4, 2) := by decide +kernel
theorem dX11_steps1_20 : decode cX11_steps1 20 = .ok (.iastore, 1) := by decide +kernel
theorem dX11_steps1_21 : decode cX11_steps1 21 = .ok (.iinc 3 1, 3) := by decide +kernel
theorem dX11_steps1_24 : decode cX11_steps1 24 = .ok (.aload_n 0, 1) := by decide +kernel
theorem dX11_steps1_25 : decode cX11_steps1 25 = .ok (.aload_n 0, 1) := by decide +kernel
theorem dX11_steps1_26 : decode cX11_steps1 26 = .ok (.iload 4, 2) := by decide +kernel
theorem dX11_steps1_28 : decode cX11_steps1 28 = .ok (.iconst 1, 1) := by decide +kernel
theorem dX11_steps1_29 : decode cX11_steps1 29 = .ok (.invokevirtual 56, 3) := by decide +kernel
theorem dX11_steps1_32 : decode cX11_steps1 32 = .ok (.iload_n 2, 1) := by decide +kernel
theorem dX11_steps1_33 : decode cX11_steps1 33 = .ok (.invokevirtual 72, 3) := by decide +kernel
theorem dX11_steps1_36 : decode cX11_steps1 36 = .ok (.ifCond .eq 5, 3) := by decide +kernel
theorem dX11_steps1_39 : decode cX11_steps1 39 = .ok (.iconst 0, 1) := by decide +kernel
theorem dX11_steps1_40 : decode cX11_steps1 40 = .ok (.ireturn, 1) := by decide +kernel
theorem dX11_steps1_41 : decode cX11_steps1 41 = .ok (.aload_n 0, 1) := by decide +kernel
theorem dX11_steps1_42 : decode cX11_steps1 42 = .ok (.iload 4, 2) := by decide +kernel
theorem dX11_steps1_44 : decode cX11_steps1 44 = .ok (.iconst 1, 1) := by decide +kernel
theorem dX11_steps1_45 : decode cX11_steps1 45 = .ok (.invokevirtual 56, 3) := by decide +kernel
theorem dX11_steps1_48 : decode cX11_steps1 48 = .ok (.iload_n 2, 1) := by decide +kernel
theorem dX11_steps1_49 : decode cX11_steps1 49 = .ok (.invokestatic 76, 3) := by decide +kernel
theorem dX11_steps1_52 : decode cX11_steps1 52 = .ok (.istore 5, 2) := by decide +kernel
theorem dX11_steps1_54 : decode cX11_steps1 54 = .ok (.iload 5, 2) := by decide +kernel
theorem dX11_steps1_56 : decode cX11_steps1 56 = .ok (.ifCond .ge 7, 3) := by decide +kernel
theorem dX11_steps1_59 : decode cX11_steps1 59 = .ok (.iconst (-1), 1) := by decide +kernel
theorem dX11_steps1_60 : decode cX11_steps1 60 = .ok (.goto 9, 3) := by decide +kernel
theorem dX11_steps1_63 : decode cX11_steps1 63 = .ok (.aload_n 0, 1) := by decide +kernel
theorem dX11_steps1_64 : decode cX11_steps1 64 = .ok (.iload 5, 2) := by decide +kernel
theorem dX11_steps1_66 : decode cX11_steps1 66 = .ok (.invokevirtual 79, 3) := by decide +kernel
theorem dX11_steps1_69 : decode cX11_steps1 69 = .ok (.istore 4, 2) := by decide +kernel
theorem dX11_steps1_71 : decode cX11_steps1 71 = .ok (.goto (-63), 3) := by decide +kernel
theorem dX11_steps1_74 : decode cX11_steps1 74 = .ok (.iload_n 3, 1) := by decide +kernel
theorem dX11_steps1_75 : decode cX11_steps1 75 = .ok (.iconst 1, 1) := by decide +kernel
theorem dX11_steps1_76 : decode cX11_steps1 76 = .ok (.isub, 1) := by decide +kernel
theorem dX11_steps1_77 : decode cX11_steps1 77 = .ok (.istore 6, 2) := by decide +kernel
theorem dX11_steps1_79 : decode cX11_steps1 79 = .ok (.iload 6, 2) := by decide +kernel
theorem dX11_steps1_81 : decode cX11_steps1 81 = .ok (.ifCond .lt 60, 3) := by decide +kernel
theorem dX11_steps1_84 : decode cX11_steps1 84 = .ok (.aload_n 0, 1) := by decide +kernel
theorem dX11_steps1_85 : decode cX11_steps1 85 = .ok (.aload_n 0, 1) := by decide +kernel
theorem dX11_steps1_86 : decode cX11_steps1 86 = .ok (.getfield 25, 3) := by decide +kernel
theorem dX11_steps1_89 : decode cX11_steps1 89 = .ok (.iload 6, 2) := by decide +kernel
theorem dX11_steps1_91 : decode cX11_steps1 91 = .ok (.iaload, 1) := by decide +kernel
theorem dX11_steps1_92 : decode cX11_steps1 92 = .ok (.iconst 1, 1) := by decide +kernel
theorem dX11_steps1_93 : decode cX11_steps1 93 = .ok (.invokevirtual 56, 3) := by decide +kernel
theorem dX11_steps1_96 : decode cX11_steps1 96 = .ok (.iload_n 2, 1) := by decide +kernel
theorem dX11_steps1_97 : decode cX11_steps1 97 = .ok (.invokestatic 76, 3) := by decide +kernel
theorem dX11_steps1_100 : decode cX11_steps1 100 = .ok (.istore 7, 2) := by decide +kernel
theorem dX11_steps1_102 : decode cX11_steps1 102 = .ok (.aload_n 0, 1) := by decide +kernel
theorem dX11_steps1_103 : decode cX11_steps1 103 = .ok (.aload_n 0, 1) := by decide +kernel
theorem dX11_steps1_104 : decode cX11_steps1 104 = .ok (.getfield 25, 3) := by decide +kernel
theorem dX11_steps1_107 : decode cX11_steps1 107 = .ok (.iload 6, 2) := by decide +kernel
theorem dX11_steps1_109 : decode cX11_steps1 109 = .ok (.iaload, 1) := by decide +kernel
theorem dX11_steps1_110 : decode cX11_steps1 110 = .ok (.iload 7, 2) := by decide +kernel
theorem dX11_steps1_112 : decode cX11_steps1 112 = .ok (.invokevirtual 83, 3) := by decide +kernel
theorem dX11_steps1_115 : decode cX11_steps1 115 = .ok (.aload_n 0, 1) := by decide +kernel
theorem dX11_steps1_116 : decode cX11_steps1 116 = .ok (.getfield 7, 3) := by decide +kernel
theorem dX11_steps1_119 : decode cX11_steps1 119 = .ok (.bipush 6, 2) := by decide +kernel
theorem dX11_steps1_121 : decode cX11_steps1 121 = .ok (.dup2, 1) := by decide +kernel
theorem dX11_steps1_122 : decode cX11_steps1 122 = .ok (.iaload, 1) := by decide +kernel
theorem dX11_steps1_123 : decode cX11_steps1 123 = .ok (.iload 6, 2) := by decide +kernel
theorem dX11_steps1_125 : decode cX11_steps1 125 = .ok (.ifCond .le 7, 3) := by decide +kernel
theorem dX11_steps1_128 : decode cX11_steps1 128 = .ok (.iconst 1, 1) := by decide +kernel
theorem dX11_steps1_129 : decode cX11_steps1 129 = .ok (.goto 4, 3) := by decide +kernel
theorem dX11_steps1_132 : decode cX11_steps1 132 = .ok (.iconst 0, 1) := by decide +kernel
theorem dX11_steps1_133 : decode cX11_steps1 133 = .ok (.iadd, 1) := by decide +kernel
theorem dX11_steps1_134 : decode cX11_steps1 134 = .ok (.iastore, 1) := by decide +kernel
theorem dX11_steps1_135 : decode cX11_steps1 135 = .ok (.iinc 6 (-1), 3) := by decide +kernel
theorem dX11_steps1_138 : decode cX11_steps1 138 = .ok (.goto (-59), 3) := by decide +kernel
theorem dX11_steps1_141 : decode cX11_steps1 141 = .ok (.iconst 1, 1) := by decide +kernel
theorem dX11_steps1_142 : decode cX11_steps1 142 = .ok (.ireturn, 1) := by decide +kernel
theorem dX11_drives_0 : decode cX11_drives 0 = .ok (.iconst 0, 1) := by decide +kernel
theorem dX11_drives_1 : decode cX11_drives 1 = .ok (.istore 4, 2) := by decide +kernel
theorem dX11_drives_3 : decode cX11_drives 3 = .ok (.iload 4, 2) := by decide +kernel
theorem dX11_drives_5 : decode cX11_drives 5 = .ok (.iload_n 2, 1) := by decide +kernel
theorem dX11_drives_6 : decode cX11_drives 6 = .ok (.if_icmp .ge 64, 3) := by decide +kernel
theorem dX11_drives_9 : decode cX11_drives 9 = .ok (.aload_n 0, 1) := by decide +kernel
theorem dX11_drives_10 : decode cX11_drives 10 = .ok (.iload_n 1, 1) := by decide +kernel
theorem dX11_drives_11 : decode cX11_drives 11 = .ok (.invokevirtual 86, 3) := by decide +kernel
theorem dX11_drives_14 : decode cX11_drives 14 = .ok (.ifCond .ne 56, 3) := by decide +kernel
theorem dX11_drives_17 : decode cX11_drives 17 = .ok (.aload_n 0, 1) := by decide +kernel
theorem dX11_drives_18 : decode cX11_drives 18 = .ok (.iload_n 1, 1) := by decide +kernel
theorem dX11_drives_19 : decode cX11_drives 19 = .ok (.iload_n 3, 1) := by decide +kernel
theorem dX11_drives_20 : decode cX11_drives 20 = .ok (.invokevirtual 90, 3) := by decide +kernel
theorem dX11_drives_23 : decode cX11_drives 23 = .ok (.ifCond .ne 41, 3) := by decide +kernel
theorem dX11_drives_26 : decode cX11_drives 26 = .ok (.aload_n 0, 1) := by decide +kernel
theorem dX11_drives_27 : decode cX11_drives 27 = .ok (.iload_n 1, 1) := by decide +kernel
theorem dX11_drives_28 : decode cX11_drives 28 = .ok (.bipush 6, 2) := by decide +kernel
theorem dX11_drives_30 : decode cX11_drives 30 = .ok (.invokevirtual 64, 3) := by decide +kernel
theorem dX11_drives_33 : decode cX11_drives 33 = .ok (.aload_n 0, 1) := by decide +kernel
theorem dX11_drives_34 : decode cX11_drives 34 = .ok (.iload_n 1, 1) := by decide +kernel
theorem dX11_drives_35 : decode cX11_drives 35 = .ok (.iconst 3, 1) := by decide +kernel
theorem dX11_drives_36 : decode cX11_drives 36 = .ok (.aload_n 0, 1) := by decide +kernel
theorem dX11_drives_37 : decode cX11_drives 37 = .ok (.iload_n 1, 1) := by decide +kernel
theorem dX11_drives_38 : decode cX11_drives 38 = .ok (.iconst 3, 1) := by decide +kernel
theorem dX11_drives_39 : decode cX11_drives 39 = .ok (.invokevirtual 56, 3) := by decide +kernel
theorem dX11_drives_42 : decode cX11_drives 42 = .ok (.bipush 9, 2) := by decide +kernel
theorem dX11_drives_44 : decode cX11_drives 44 = .ok (.if_icmp .ge 14, 3) := by decide +kernel
theorem dX11_drives_47 : decode cX11_drives 47 = .ok (.aload_n 0, 1) := by decide +kernel
theorem dX11_drives_48 : decode cX11_drives 48 = .ok (.iload_n 1, 1) := by decide +kernel
theorem dX11_drives_49 : decode cX11_drives 49 = .ok (.iconst 3, 1) := by decide +kernel
theorem dX11_drives_50 : decode cX11_drives 50 = .ok (.invokevirtual 56, 3) := by decide +kernel
theorem dX11_drives_53 : decode cX11_drives 53 = .ok (.iconst 1, 1) := by decide +kernel
theorem dX11_drives_54 : decode cX11_drives 54 = .ok (.iadd, 1) := by decide +kernel
theorem dX11_drives_55 : decode cX11_drives 55 = .ok (.goto 5, 3) := by decide +kernel
theorem dX11_drives_58 : decode cX11_drives 58 = .ok (.bipush 9, 2) := by decide +kernel
theorem dX11_drives_60 : decode cX11_drives 60 = .ok (.invokevirtual 60, 3) := by decide +kernel
theorem dX11_drives_63 : decode cX11_drives 63 = .ok (.return_, 1) := by decide +kernel
theorem dX11_drives_64 : decode cX11_drives 64 = .ok (.iinc 4 1, 3) := by decide +kernel
theorem dX11_drives_67 : decode cX11_drives 67 = .ok (.goto (-64), 3) := by decide +kernel
theorem dX11_drives_70 : decode cX11_drives 70 = .ok (.return_, 1) := by decide +kernel
theorem dX11_turns_0 : decode cX11_turns 0 = .ok (.aload_n 0, 1) := by decide +kernel
theorem dX11_turns_1 : decode cX11_turns 1 = .ok (.iload_n 1, 1) := by decide +kernel
theorem dX11_turns_2 : decode cX11_turns 2 = .ok (.iconst 2, 1) := by decide +kernel
theorem dX11_turns_3 : decode cX11_turns 3 = .ok (.aload_n 0, 1) := by decide +kernel
theorem dX11_turns_4 : decode cX11_turns 4 = .ok (.iload_n 1, 1) := by decide +kernel
theorem dX11_turns_5 : decode cX11_turns 5 = .ok (.iconst 2, 1) := by decide +kernel
theorem dX11_turns_6 : decode cX11_turns 6 = .ok (.invokevirtual 56, 3) := by decide +kernel
theorem dX11_turns_9 : decode cX11_turns 9 = .ok (.iload_n 2, 1) := by decide +kernel
theorem dX11_turns_10 : decode cX11_turns 10 = .ok (.iadd, 1) := by decide +kernel
theorem dX11_turns_11 : decode cX11_turns 11 = .ok (.iconst 4, 1) := by decide +kernel
theorem dX11_turns_12 : decode cX11_turns 12 = .ok (.irem, 1) := by decide +kernel
theorem dX11_turns_13 : decode cX11_turns 13 = .ok (.invokevirtual 60, 3) := by decide +kernel
theorem dX11_turns_16 : decode cX11_turns 16 = .ok (.return_, 1) := by decide +kernel
theorem dX11_does_0 : decode cX11_does 0 = .ok (.aload_n 0, 1) := by decide +kernel
theorem dX11_does_1 : decode cX11_does 1 = .ok (.iload_n 1, 1) := by decide +kernel
theorem dX11_does_2 : decode cX11_does 2 = .ok (.iconst 2, 1) := by decide +kernel
theorem dX11_does_3 : decode cX11_does 3 = .ok (.invokevirtual 56, 3) := by decide +kernel
theorem dX11_does_6 : decode cX11_does 6 = .ok (.istore_n 3, 1) := by decide +kernel
theorem dX11_does_7 : decode cX11_does 7 = .ok (.iload_n 2, 1) := by decide +kernel
theorem dX11_does_8 : decode cX11_does 8 = .ok (.iconst 3, 1) := by decide +kernel
theorem dX11_does_9 : decode cX11_does 9 = .ok (.if_icmp .ge 15, 3) := by decide +kernel
theorem dX11_does_12 : decode cX11_does 12 = .ok (.aload_n 0, 1) := by decide +kernel
theorem dX11_does_13 : decode cX11_does 13 = .ok (.iload_n 1, 1) := by decide +kernel
theorem dX11_does_14 : decode cX11_does 14 = .ok (.iload_n 2, 1) := by decide +kernel
theorem dX11_does_15 : decode cX11_does 15 = .ok (.iconst 1, 1) := by decide +kernel
theorem dX11_does_16 : decode cX11_does 16 = .ok (.iadd, 1) := by decide +kernel
theorem dX11_does_17 : decode cX11_does 17 = .ok (.iload_n 3, 1) := by decide +kernel
theorem dX11_does_18 : decode cX11_does 18 = .ok (.invokevirtual 93, 3) := by decide +kernel
theorem dX11_does_21 : decode cX11_does 21 = .ok (.goto 46, 3) := by decide +kernel
theorem dX11_does_24 : decode cX11_does 24 = .ok (.iload_n 2, 1) := by decide +kernel
theorem dX11_does_25 : decode cX11_does 25 = .ok (.iconst 3, 1) := by decide +kernel
theorem dX11_does_26 : decode cX11_does 26 = .ok (.if_icmp .ne 17, 3) := by decide +kernel
theorem dX11_does_29 : decode cX11_does 29 = .ok (.aload_n 0, 1) := by decide +kernel
theorem dX11_does_30 : decode cX11_does 30 = .ok (.iload_n 1, 1) := by decide +kernel
theorem dX11_does_31 : decode cX11_does 31 = .ok (.iconst 1, 1) := by decide +kernel
theorem dX11_does_32 : decode cX11_does 32 = .ok (.iload_n 3, 1) := by decide +kernel
theorem dX11_does_33 : decode cX11_does 33 = .ok (.iconst 2, 1) := by decide +kernel
theorem dX11_does_34 : decode cX11_does 34 = .ok (.iadd, 1) := by decide +kernel
theorem dX11_does_35 : decode cX11_does 35 = .ok (.iconst 4, 1) := by decide +kernel
theorem dX11_does_36 : decode cX11_does 36 = .ok (.irem, 1) := by decide +kernel
theorem dX11_does_37 : decode cX11_does 37 = .ok (.invokevirtual 93, 3) := by decide +kernel
theorem dX11_does_40 : decode cX11_does 40 = .ok (.goto 27, 3) := by decide +kernel
theorem dX11_does_43 : decode cX11_does 43 = .ok (.aload_n 0, 1) := by decide +kernel
theorem dX11_does_44 : decode cX11_does 44 = .ok (.iload_n 1, 1) := by decide +kernel
theorem dX11_does_45 : decode cX11_does 45 = .ok (.iload_n 2, 1) := by decide +kernel
theorem dX11_does_46 : decode cX11_does 46 = .ok (.iconst 4, 1) := by decide +kernel
theorem dX11_does_47 : decode cX11_does 47 = .ok (.if_icmp .ne 7, 3) := by decide +kernel
theorem dX11_does_50 : decode cX11_does 50 = .ok (.iconst 3, 1) := by decide +kernel
theorem dX11_does_51 : decode cX11_does 51 = .ok (.goto 13, 3) := by decide +kernel
theorem dX11_does_54 : decode cX11_does 54 = .ok (.iload_n 2, 1) := by decide +kernel
theorem dX11_does_55 : decode cX11_does 55 = .ok (.iconst 5, 1) := by decide +kernel
theorem dX11_does_56 : decode cX11_does 56 = .ok (.if_icmp .ne 7, 3) := by decide +kernel
theorem dX11_does_59 : decode cX11_does 59 = .ok (.iconst 1, 1) := by decide +kernel
theorem dX11_does_60 : decode cX11_does 60 = .ok (.goto 4, 3) := by decide +kernel
theorem dX11_does_63 : decode cX11_does 63 = .ok (.iconst 2, 1) := by decide +kernel
theorem dX11_does_64 : decode cX11_does 64 = .ok (.invokevirtual 96, 3) := by decide +kernel
theorem dX11_does_67 : decode cX11_does 67 = .ok (.return_, 1) := by decide +kernel
theorem dX11_orders_0 : decode cX11_orders 0 = .ok (.aload_n 0, 1) := by decide +kernel
theorem dX11_orders_1 : decode cX11_orders 1 = .ok (.iconst 0, 1) := by decide +kernel
theorem dX11_orders_2 : decode cX11_orders 2 = .ok (.putfield 99, 3) := by decide +kernel
theorem dX11_orders_5 : decode cX11_orders 5 = .ok (.aload_n 0, 1) := by decide +kernel
theorem dX11_orders_6 : decode cX11_orders 6 = .ok (.getfield 7, 3) := by decide +kernel
theorem dX11_orders_9 : decode cX11_orders 9 = .ok (.iconst 1, 1) := by decide +kernel
theorem dX11_orders_10 : decode cX11_orders 10 = .ok (.iaload, 1) := by decide +kernel
theorem dX11_orders_11 : decode cX11_orders 11 = .ok (.istore_n 1, 1) := by decide +kernel
theorem dX11_orders_12 : decode cX11_orders 12 = .ok (.iconst 0, 1) := by decide +kernel
theorem dX11_orders_13 : decode cX11_orders 13 = .ok (.istore_n 2, 1) := by decide +kernel
theorem dX11_orders_14 : decode cX11_orders 14 = .ok (.iload_n 2, 1) := by decide +kernel
theorem dX11_orders_15 : decode cX11_orders 15 = .ok (.aload_n 0, 1) := by decide +kernel
theorem dX11_orders_16 : decode cX11_orders 16 = .ok (.getfield 7, 3) := by decide +kernel
theorem dX11_orders_19 : decode cX11_orders 19 = .ok (.iconst 0, 1) := by decide +kernel
theorem dX11_orders_20 : decode cX11_orders 20 = .ok (.iaload, 1) := by decide +kernel
theorem dX11_orders_21 : decode cX11_orders 21 = .ok (.if_icmp .ge 94, 3) := by decide +kernel
theorem dX11_orders_24 : decode cX11_orders 24 = .ok (.aload_n 0, 1) := by decide +kernel
theorem dX11_orders_25 : decode cX11_orders 25 = .ok (.iload_n 2, 1) := by decide +kernel
theorem dX11_orders_26 : decode cX11_orders 26 = .ok (.invokevirtual 86, 3) := by decide +kernel
theorem dX11_orders_29 : decode cX11_orders 29 = .ok (.ifCond .ne 80, 3) := by decide +kernel
theorem dX11_orders_32 : decode cX11_orders 32 = .ok (.aload_n 0, 1) := by decide +kernel
theorem dX11_orders_33 : decode cX11_orders 33 = .ok (.iload_n 2, 1) := by decide +kernel
theorem dX11_orders_34 : decode cX11_orders 34 = .ok (.iload_n 1, 1) := by decide +kernel
theorem dX11_orders_35 : decode cX11_orders 35 = .ok (.invokevirtual 102, 3) := by decide +kernel
theorem dX11_orders_38 : decode cX11_orders 38 = .ok (.ifCond .le 71, 3) := by decide +kernel
theorem dX11_orders_41 : decode cX11_orders 41 = .ok (.aload_n 0, 1) := by decide +kernel
theorem dX11_orders_42 : decode cX11_orders 42 = .ok (.getfield 99, 3) := by decide +kernel
theorem dX11_orders_45 : decode cX11_orders 45 = .ok (.istore_n 3, 1) := by decide +kernel
theorem dX11_orders_46 : decode cX11_orders 46 = .ok (.iload_n 3, 1) := by decide +kernel
theorem dX11_orders_47 : decode cX11_orders 47 = .ok (.ifCond .le 45, 3) := by decide +kernel
theorem dX11_orders_50 : decode cX11_orders 50 = .ok (.aload_n 0, 1) := by decide +kernel
theorem dX11_orders_51 : decode cX11_orders 51 = .ok (.aload_n 0, 1) := by decide +kernel
theorem dX11_orders_52 : decode cX11_orders 52 = .ok (.getfield 28, 3) := by decide +kernel
theorem dX11_orders_55 : decode cX11_orders 55 = .ok (.iload_n 3, 1) := by decide +kernel
theorem dX11_orders_56 : decode cX11_orders 56 = .ok (.iconst 1, 1) := by decide +kernel
theorem dX11_orders_57 : decode cX11_orders 57 = .ok (.isub, 1) := by decide +kernel
theorem dX11_orders_58 : decode cX11_orders 58 = .ok (.iaload, 1) := by decide +kernel
theorem dX11_orders_59 : decode cX11_orders 59 = .ok (.iload_n 1, 1) := by decide +kernel
theorem dX11_orders_60 : decode cX11_orders 60 = .ok (.invokevirtual 102, 3) := by decide +kernel
theorem dX11_orders_63 : decode cX11_orders 63 = .ok (.aload_n 0, 1) := by decide +kernel
theorem dX11_orders_64 : decode cX11_orders 64 = .ok (.iload_n 2, 1) := by decide +kernel
theorem dX11_orders_65 : decode cX11_orders 65 = .ok (.iload_n 1, 1) := by decide +kernel
theorem dX11_orders_66 : decode cX11_orders 66 = .ok (.invokevirtual 102, 3) := by decide +kernel
theorem dX11_orders_69 : decode cX11_orders 69 = .ok (.if_icmp .ge 23, 3) := by decide +kernel
theorem dX11_orders_72 : decode cX11_orders 72 = .ok (.aload_n 0, 1) := by decide +kernel
theorem dX11_orders_73 : decode cX11_orders 73 = .ok (.getfield 28, 3) := by decide +kernel
theorem dX11_orders_76 : decode cX11_orders 76 = .ok (.iload_n 3, 1) := by decide +kernel
theorem dX11_orders_77 : decode cX11_orders 77 = .ok (.aload_n 0, 1) := by decide +kernel
theorem dX11_orders_78 : decode cX11_orders 78 = .ok (.getfield 28, 3) := by decide +kernel
theorem dX11_orders_81 : decode cX11_orders 81 = .ok (.iload_n 3, 1) := by decide +kernel
theorem dX11_orders_82 : decode cX11_orders 82 = .ok (.iconst 1, 1) := by decide +kernel
theorem dX11_orders_83 : decode cX11_orders 83 = .ok (.isub, 1) := by decide +kernel
theorem dX11_orders_84 : decode cX11_orders 84 = .ok (.iaload, 1) := by decide +kernel
theorem dX11_orders_85 : decode cX11_orders 85 = .ok (.iastore, 1) := by decide +kernel
theorem dX11_orders_86 : decode cX11_orders 86 = .ok (.iinc 3 (-1), 3) := by decide +kernel
theorem dX11_orders_89 : decode cX11_orders 89 = .ok (.goto (-43), 3) := by decide +kernel
theorem dX11_orders_92 : decode cX11_orders 92 = .ok (.aload_n 0, 1) := by decide +kernel
theorem dX11_orders_93 : decode cX11_orders 93 = .ok (.getfield 28, 3) := by decide +kernel
theorem dX11_orders_96 : decode cX11_orders 96 = .ok (.iload_n 3, 1) := by decide +kernel
theorem dX11_orders_97 : decode cX11_orders 97 = .ok (.iload_n 2, 1) := by decide +kernel
theorem dX11_orders_98 : decode cX11_orders 98 = .ok (.iastore, 1) := by decide +kernel
theorem dX11_orders_99 : decode cX11_orders 99 = .ok (.aload_n 0, 1) := by decide +kernel
theorem dX11_orders_100 : decode cX11_orders 100 = .ok (.dup, 1) := by decide +kernel
theorem dX11_orders_101 : decode cX11_orders 101 = .ok (.getfield 99, 3) := by decide +kernel
theorem dX11_orders_104 : decode cX11_orders 104 = .ok (.iconst 1, 1) := by decide +kernel
theorem dX11_orders_105 : decode cX11_orders 105 = .ok (.iadd, 1) := by decide +kernel
theorem dX11_orders_106 : decode cX11_orders 106 = .ok (.putfield 99, 3) := by decide +kernel
theorem dX11_orders_109 : decode cX11_orders 109 = .ok (.iinc 2 1, 3) := by decide +kernel
theorem dX11_orders_112 : decode cX11_orders 112 = .ok (.goto (-98), 3) := by decide +kernel
theorem dX11_orders_115 : decode cX11_orders 115 = .ok (.return_, 1) := by decide +kernel
theorem dX11_isOnBelt_0 : decode cX11_isOnBelt 0 = .ok (.aload_n 0, 1) := by decide +kernel
theorem dX11_isOnBelt_1 : decode cX11_isOnBelt 1 = .ok (.iload_n 1, 1) := by decide +kernel
theorem dX11_isOnBelt_2 : decode cX11_isOnBelt 2 = .ok (.invokevirtual 86, 3) := by decide +kernel
theorem dX11_isOnBelt_5 : decode cX11_isOnBelt 5 = .ok (.ifCond .ne 29, 3) := by decide +kernel
theorem dX11_isOnBelt_8 : decode cX11_isOnBelt 8 = .ok (.aload_n 0, 1) := by decide +kernel
theorem dX11_isOnBelt_9 : decode cX11_isOnBelt 9 = .ok (.getfield 7, 3) := by decide +kernel
theorem dX11_isOnBelt_12 : decode cX11_isOnBelt 12 = .ok (.bipush 11, 2) := by decide +kernel
theorem dX11_isOnBelt_14 : decode cX11_isOnBelt 14 = .ok (.aload_n 0, 1) := by decide +kernel
theorem dX11_isOnBelt_15 : decode cX11_isOnBelt 15 = .ok (.iload_n 1, 1) := by decide +kernel
theorem dX11_isOnBelt_16 : decode cX11_isOnBelt 16 = .ok (.iconst 1, 1) := by decide +kernel
theorem dX11_isOnBelt_17 : decode cX11_isOnBelt 17 = .ok (.invokevirtual 56, 3) := by decide +kernel
theorem dX11_isOnBelt_20 : decode cX11_isOnBelt 20 = .ok (.iadd, 1) := by decide +kernel
theorem dX11_isOnBelt_21 : decode cX11_isOnBelt 21 = .ok (.iaload, 1) := by decide +kernel
theorem dX11_isOnBelt_22 : decode cX11_isOnBelt 22 = .ok (.iconst 1, 1) := by decide +kernel
theorem dX11_isOnBelt_23 : decode cX11_isOnBelt 23 = .ok (.iconst 4, 1) := by decide +kernel
theorem dX11_isOnBelt_24 : decode cX11_isOnBelt 24 = .ok (.invokestatic 44, 3) := by decide +kernel
theorem dX11_isOnBelt_27 : decode cX11_isOnBelt 27 = .ok (.ifCond .eq 7, 3) := by decide +kernel
theorem dX11_isOnBelt_30 : decode cX11_isOnBelt 30 = .ok (.iconst 1, 1) := by decide +kernel
theorem dX11_isOnBelt_31 : decode cX11_isOnBelt 31 = .ok (.goto 4, 3) := by decide +kernel
theorem dX11_isOnBelt_34 : decode cX11_isOnBelt 34 = .ok (.iconst 0, 1) := by decide +kernel
theorem dX11_isOnBelt_35 : decode cX11_isOnBelt 35 = .ok (.ireturn, 1) := by decide +kernel
theorem dX11_wants_0 : decode cX11_wants 0 = .ok (.aload_n 0, 1) := by decide +kernel
theorem dX11_wants_1 : decode cX11_wants 1 = .ok (.iload_n 1, 1) := by decide +kernel
theorem dX11_wants_2 : decode cX11_wants 2 = .ok (.invokevirtual 105, 3) := by decide +kernel
theorem dX11_wants_5 : decode cX11_wants 5 = .ok (.ifCond .eq 31, 3) := by decide +kernel
theorem dX11_wants_8 : decode cX11_wants 8 = .ok (.aload_n 0, 1) := by decide +kernel
theorem dX11_wants_9 : decode cX11_wants 9 = .ok (.iload_n 1, 1) := by decide +kernel
theorem dX11_wants_10 : decode cX11_wants 10 = .ok (.iconst 1, 1) := by decide +kernel
theorem dX11_wants_11 : decode cX11_wants 11 = .ok (.invokevirtual 56, 3) := by decide +kernel
theorem dX11_wants_14 : decode cX11_wants 14 = .ok (.aload_n 0, 1) := by decide +kernel
theorem dX11_wants_15 : decode cX11_wants 15 = .ok (.getfield 7, 3) := by decide +kernel
theorem dX11_wants_18 : decode cX11_wants 18 = .ok (.bipush 11, 2) := by decide +kernel
theorem dX11_wants_20 : decode cX11_wants 20 = .ok (.aload_n 0, 1) := by decide +kernel
theorem dX11_wants_21 : decode cX11_wants 21 = .ok (.iload_n 1, 1) := by decide +kernel
theorem dX11_wants_22 : decode cX11_wants 22 = .ok (.iconst 1, 1) := by decide +kernel
theorem dX11_wants_23 : decode cX11_wants 23 = .ok (.invokevirtual 56, 3) := by decide +kernel
theorem dX11_wants_26 : decode cX11_wants 26 = .ok (.iadd, 1) := by decide +kernel
theorem dX11_wants_27 : decode cX11_wants 27 = .ok (.iaload, 1) := by decide +kernel
theorem dX11_wants_28 : decode cX11_wants 28 = .ok (.iconst 1, 1) := by decide +kernel
theorem dX11_wants_29 : decode cX11_wants 29 = .ok (.isub, 1) := by decide +kernel
theorem dX11_wants_30 : decode cX11_wants 30 = .ok (.invokestatic 76, 3) := by decide +kernel
theorem dX11_wants_33 : decode cX11_wants 33 = .ok (.goto 4, 3) := by decide +kernel
theorem dX11_wants_36 : decode cX11_wants 36 = .ok (.iconst (-1), 1) := by decide +kernel
theorem dX11_wants_37 : decode cX11_wants 37 = .ok (.ireturn, 1) := by decide +kernel
theorem dX11_isInTheWay_0 : decode cX11_isInTheWay 0 = .ok (.aload_n 0, 1) := by decide +kernel
theorem dX11_isInTheWay_1 : decode cX11_isInTheWay 1 = .ok (.iload_n 1, 1) := by decide +kernel
theorem dX11_isInTheWay_2 : decode cX11_isInTheWay 2 = .ok (.invokevirtual 108, 3) := by decide +kernel
theorem dX11_isInTheWay_5 : decode cX11_isInTheWay 5 = .ok (.istore 4, 2) := by decide +kernel
theorem dX11_isInTheWay_7 : decode cX11_isInTheWay 7 = .ok (.iload_n 2, 1) := by decide +kernel
theorem dX11_isInTheWay_8 : decode cX11_isInTheWay 8 = .ok (.iload_n 1, 1) := by decide +kernel
theorem dX11_isInTheWay_9 : decode cX11_isInTheWay 9 = .ok (.if_icmp .eq 16, 3) := by decide +kernel
theorem dX11_isInTheWay_12 : decode cX11_isInTheWay 12 = .ok (.iload 4, 2) := by decide +kernel
theorem dX11_isInTheWay_14 : decode cX11_isInTheWay 14 = .ok (.ifCond .lt 11, 3) := by decide +kernel
theorem dX11_isInTheWay_17 : decode cX11_isInTheWay 17 = .ok (.aload_n 0, 1) := by decide +kernel
theorem dX11_isInTheWay_18 : decode cX11_isInTheWay 18 = .ok (.iload_n 2, 1) := by decide +kernel
theorem dX11_isInTheWay_19 : decode cX11_isInTheWay 19 = .ok (.invokevirtual 86, 3) := by decide +kernel
theorem dX11_isInTheWay_22 : decode cX11_isInTheWay 22 = .ok (.ifCond .eq 5, 3) := by decide +kernel
theorem dX11_isInTheWay_25 : decode cX11_isInTheWay 25 = .ok (.iconst 0, 1) := by decide +kernel
theorem dX11_isInTheWay_26 : decode cX11_isInTheWay 26 = .ok (.ireturn, 1) := by decide +kernel
theorem dX11_isInTheWay_27 : decode cX11_isInTheWay 27 = .ok (.aload_n 0, 1) := by decide +kernel
theorem dX11_isInTheWay_28 : decode cX11_isInTheWay 28 = .ok (.iload_n 2, 1) := by decide +kernel
theorem dX11_isInTheWay_29 : decode cX11_isInTheWay 29 = .ok (.iconst 1, 1) := by decide +kernel
theorem dX11_isInTheWay_30 : decode cX11_isInTheWay 30 = .ok (.invokevirtual 56, 3) := by decide +kernel
theorem dX11_isInTheWay_33 : decode cX11_isInTheWay 33 = .ok (.iload 4, 2) := by decide +kernel
theorem dX11_isInTheWay_35 : decode cX11_isInTheWay 35 = .ok (.if_icmp .ne 25, 3) := by decide +kernel
theorem dX11_isInTheWay_38 : decode cX11_isInTheWay 38 = .ok (.iload_n 3, 1) := by decide +kernel
theorem dX11_isInTheWay_39 : decode cX11_isInTheWay 39 = .ok (.ifCond .eq 17, 3) := by decide +kernel
theorem dX11_isInTheWay_42 : decode cX11_isInTheWay 42 = .ok (.aload_n 0, 1) := by decide +kernel
theorem dX11_isInTheWay_43 : decode cX11_isInTheWay 43 = .ok (.iload_n 2, 1) := by decide +kernel
theorem dX11_isInTheWay_44 : decode cX11_isInTheWay 44 = .ok (.invokevirtual 108, 3) := by decide +kernel
theorem dX11_isInTheWay_47 : decode cX11_isInTheWay 47 = .ok (.aload_n 0, 1) := by decide +kernel
theorem dX11_isInTheWay_48 : decode cX11_isInTheWay 48 = .ok (.iload_n 1, 1) := by decide +kernel
theorem dX11_isInTheWay_49 : decode cX11_isInTheWay 49 = .ok (.iconst 1, 1) := by decide +kernel
theorem dX11_isInTheWay_50 : decode cX11_isInTheWay 50 = .ok (.invokevirtual 56, 3) := by decide +kernel
theorem dX11_isInTheWay_53 : decode cX11_isInTheWay 53 = .ok (.if_icmp .ne 7, 3) := by decide +kernel
theorem dX11_isInTheWay_56 : decode cX11_isInTheWay 56 = .ok (.iconst 1, 1) := by decide +kernel
theorem dX11_isInTheWay_57 : decode cX11_isInTheWay 57 = .ok (.goto 4, 3) := by decide +kernel
theorem dX11_isInTheWay_60 : decode cX11_isInTheWay 60 = .ok (.iconst 0, 1) := by decide +kernel
theorem dX11_isInTheWay_61 : decode cX11_isInTheWay 61 = .ok (.istore 5, 2) := by decide +kernel
theorem dX11_isInTheWay_63 : decode cX11_isInTheWay 63 = .ok (.iload 5, 2) := by decide +kernel
theorem dX11_isInTheWay_65 : decode cX11_isInTheWay 65 = .ok (.ifCond .ne 13, 3) := by decide +kernel
theorem dX11_isInTheWay_68 : decode cX11_isInTheWay 68 = .ok (.aload_n 0, 1) := by decide +kernel
theorem dX11_isInTheWay_69 : decode cX11_isInTheWay 69 = .ok (.iload_n 2, 1) := by decide +kernel
theorem dX11_isInTheWay_70 : decode cX11_isInTheWay 70 = .ok (.invokevirtual 108, 3) := by decide +kernel
theorem dX11_isInTheWay_73 : decode cX11_isInTheWay 73 = .ok (.iload 4, 2) := by decide +kernel
theorem dX11_isInTheWay_75 : decode cX11_isInTheWay 75 = .ok (.if_icmp .ne 7, 3) := by decide +kernel
theorem dX11_isInTheWay_78 : decode cX11_isInTheWay 78 = .ok (.iconst 1, 1) := by decide +kernel
theorem dX11_isInTheWay_79 : decode cX11_isInTheWay 79 = .ok (.goto 4, 3) := by decide +kernel
theorem dX11_isInTheWay_82 : decode cX11_isInTheWay 82 = .ok (.iconst 0, 1) := by decide +kernel
theorem dX11_isInTheWay_83 : decode cX11_isInTheWay 83 = .ok (.ireturn, 1) := by decide +kernel
theorem dX11_stays_0 : decode cX11_stays 0 = .ok (.iconst 0, 1) := by decide +kernel
theorem dX11_stays_1 : decode cX11_stays 1 = .ok (.istore_n 2, 1) := by decide +kernel
theorem dX11_stays_2 : decode cX11_stays 2 = .ok (.iconst 0, 1) := by decide +kernel
theorem dX11_stays_3 : decode cX11_stays 3 = .ok (.istore_n 3, 1) := by decide +kernel
theorem dX11_stays_4 : decode cX11_stays 4 = .ok (.iload_n 3, 1) := by decide +kernel
theorem dX11_stays_5 : decode cX11_stays 5 = .ok (.aload_n 0, 1) := by decide +kernel
theorem dX11_stays_6 : decode cX11_stays 6 = .ok (.getfield 7, 3) := by decide +kernel
theorem dX11_stays_9 : decode cX11_stays 9 = .ok (.iconst 0, 1) := by decide +kernel
theorem dX11_stays_10 : decode cX11_stays 10 = .ok (.iaload, 1) := by decide +kernel
theorem dX11_stays_11 : decode cX11_stays 11 = .ok (.if_icmp .ge 34, 3) := by decide +kernel
theorem dX11_stays_14 : decode cX11_stays 14 = .ok (.iload_n 2, 1) := by decide +kernel
theorem dX11_stays_15 : decode cX11_stays 15 = .ok (.ifCond .ne 18, 3) := by decide +kernel
theorem dX11_stays_18 : decode cX11_stays 18 = .ok (.aload_n 0, 1) := by decide +kernel
theorem dX11_stays_19 : decode cX11_stays 19 = .ok (.iload_n 1, 1) := by decide +kernel
theorem dX11_stays_20 : decode cX11_stays 20 = .ok (.iload_n 3, 1) := by decide +kernel
theorem dX11_stays_21 : decode cX11_stays 21 = .ok (.aload_n 0, 1) := by decide +kernel
theorem dX11_stays_22 : decode cX11_stays 22 = .ok (.getfield 31, 3) := by decide +kernel
theorem dX11_stays_25 : decode cX11_stays 25 = .ok (.iload_n 3, 1) := by decide +kernel
theorem dX11_stays_26 : decode cX11_stays 26 = .ok (.baload, 1) := by decide +kernel
theorem dX11_stays_27 : decode cX11_stays 27 = .ok (.invokevirtual 111, 3) := by decide +kernel
theorem dX11_stays_30 : decode cX11_stays 30 = .ok (.ifCond .eq 7, 3) := by decide +kernel
theorem dX11_stays_33 : decode cX11_stays 33 = .ok (.iconst 1, 1) := by decide +kernel
theorem dX11_stays_34 : decode cX11_stays 34 = .ok (.goto 4, 3) := by decide +kernel
theorem dX11_stays_37 : decode cX11_stays 37 = .ok (.iconst 0, 1) := by decide +kernel
theorem dX11_stays_38 : decode cX11_stays 38 = .ok (.istore_n 2, 1) := by decide +kernel
theorem dX11_stays_39 : decode cX11_stays 39 = .ok (.iinc 3 1, 3) := by decide +kernel
theorem dX11_stays_42 : decode cX11_stays 42 = .ok (.goto (-38), 3) := by decide +kernel
theorem dX11_stays_45 : decode cX11_stays 45 = .ok (.iload_n 2, 1) := by decide +kernel
theorem dX11_stays_46 : decode cX11_stays 46 = .ok (.ireturn, 1) := by decide +kernel
theorem dX11_belts_0 : decode cX11_belts 0 = .ok (.iconst 0, 1) := by decide +kernel
theorem dX11_belts_1 : decode cX11_belts 1 = .ok (.istore_n 1, 1) := by decide +kernel
theorem dX11_belts_2 : decode cX11_belts 2 = .ok (.iload_n 1, 1) := by decide +kernel
theorem dX11_belts_3 : decode cX11_belts 3 = .ok (.aload_n 0, 1) := by decide +kernel
theorem dX11_belts_4 : decode cX11_belts 4 = .ok (.getfield 7, 3) := by decide +kernel
theorem dX11_belts_7 : decode cX11_belts 7 = .ok (.iconst 0, 1) := by decide +kernel
theorem dX11_belts_8 : decode cX11_belts 8 = .ok (.iaload, 1) := by decide +kernel
theorem dX11_belts_9 : decode cX11_belts 9 = .ok (.if_icmp .ge 68, 3) := by decide +kernel
theorem dX11_belts_12 : decode cX11_belts 12 = .ok (.aload_n 0, 1) := by decide +kernel
theorem dX11_belts_13 : decode cX11_belts 13 = .ok (.getfield 31, 3) := by decide +kernel
theorem dX11_belts_16 : decode cX11_belts 16 = .ok (.iload_n 1, 1) := by decide +kernel
theorem dX11_belts_17 : decode cX11_belts 17 = .ok (.aload_n 0, 1) := by decide +kernel
theorem dX11_belts_18 : decode cX11_belts 18 = .ok (.iload_n 1, 1) := by decide +kernel
theorem dX11_belts_19 : decode cX11_belts 19 = .ok (.invokevirtual 105, 3) := by decide +kernel
theorem dX11_belts_22 : decode cX11_belts 22 = .ok (.ifCond .eq 36, 3) := by decide +kernel
theorem dX11_belts_25 : decode cX11_belts 25 = .ok (.aload_n 0, 1) := by decide +kernel
theorem dX11_belts_26 : decode cX11_belts 26 = .ok (.aload_n 0, 1) := by decide +kernel
theorem dX11_belts_27 : decode cX11_belts 27 = .ok (.iload_n 1, 1) := by decide +kernel
theorem dX11_belts_28 : decode cX11_belts 28 = .ok (.iconst 1, 1) := by decide +kernel
theorem dX11_belts_29 : decode cX11_belts 29 = .ok (.invokevirtual 56, 3) := by decide +kernel
theorem dX11_belts_32 : decode cX11_belts 32 = .ok (.aload_n 0, 1) := by decide +kernel
theorem dX11_belts_33 : decode cX11_belts 33 = .ok (.getfield 7, 3) := by decide +kernel
theorem dX11_belts_36 : decode cX11_belts 36 = .ok (.bipush 11, 2) := by decide +kernel
theorem dX11_belts_38 : decode cX11_belts 38 = .ok (.aload_n 0, 1) := by decide +kernel
theorem dX11_belts_39 : decode cX11_belts 39 = .ok (.iload_n 1, 1) := by decide +kernel
theorem dX11_belts_40 : decode cX11_belts 40 = .ok (.iconst 1, 1) := by decide +kernel
theorem dX11_belts_41 : decode cX11_belts 41 = .ok (.invokevirtual 56, 3) := by decide +kernel
theorem dX11_belts_44 : decode cX11_belts 44 = .ok (.iadd, 1) := by decide +kernel
theorem dX11_belts_45 : decode cX11_belts 45 = .ok (.iaload, 1) := by decide +kernel
theorem dX11_belts_46 : decode cX11_belts 46 = .ok (.iconst 1, 1) := by decide +kernel
theorem dX11_belts_47 : decode cX11_belts 47 = .ok (.isub, 1) := by decide +kernel
theorem dX11_belts_48 : decode cX11_belts 48 = .ok (.invokevirtual 72, 3) := by decide +kernel
theorem dX11_belts_51 : decode cX11_belts 51 = .ok (.ifCond .ne 7, 3) := by decide +kernel
theorem dX11_belts_54 : decode cX11_belts 54 = .ok (.iconst 1, 1) := by decide +kernel
theorem dX11_belts_55 : decode cX11_belts 55 = .ok (.goto 4, 3) := by decide +kernel
theorem dX11_belts_58 : decode cX11_belts 58 = .ok (.iconst 0, 1) := by decide +kernel
theorem dX11_belts_59 : decode cX11_belts 59 = .ok (.bastore, 1) := by decide +kernel
theorem dX11_belts_60 : decode cX11_belts 60 = .ok (.aload_n 0, 1) := by decide +kernel
theorem dX11_belts_61 : decode cX11_belts 61 = .ok (.getfield 35, 3) := by decide +kernel
theorem dX11_belts_64 : decode cX11_belts 64 = .ok (.iload_n 1, 1) := by decide +kernel
theorem dX11_belts_65 : decode cX11_belts 65 = .ok (.aload_n 0, 1) := by decide +kernel
theorem dX11_belts_66 : decode cX11_belts 66 = .ok (.iload_n 1, 1) := by decide +kernel
theorem dX11_belts_67 : decode cX11_belts 67 = .ok (.invokevirtual 108, 3) := by decide +kernel
theorem dX11_belts_70 : decode cX11_belts 70 = .ok (.iastore, 1) := by decide +kernel
theorem dX11_belts_71 : decode cX11_belts 71 = .ok (.iinc 1 1, 3) := by decide +kernel
theorem dX11_belts_74 : decode cX11_belts 74 = .ok (.goto (-72), 3) := by decide +kernel
theorem dX11_belts_77 : decode cX11_belts 77 = .ok (.iconst 1, 1) := by decide +kernel
theorem dX11_belts_78 : decode cX11_belts 78 = .ok (.istore_n 1, 1) := by decide +kernel
theorem dX11_belts_79 : decode cX11_belts 79 = .ok (.iload_n 1, 1) := by decide +kernel
theorem dX11_belts_80 : decode cX11_belts 80 = .ok (.ifCond .eq 52, 3) := by decide +kernel
theorem dX11_belts_83 : decode cX11_belts 83 = .ok (.iconst 0, 1) := by decide +kernel
theorem dX11_belts_84 : decode cX11_belts 84 = .ok (.istore_n 1, 1) := by decide +kernel
theorem dX11_belts_85 : decode cX11_belts 85 = .ok (.iconst 0, 1) := by decide +kernel
theorem dX11_belts_86 : decode cX11_belts 86 = .ok (.istore_n 2, 1) := by decide +kernel
theorem dX11_belts_87 : decode cX11_belts 87 = .ok (.iload_n 2, 1) := by decide +kernel
theorem dX11_belts_88 : decode cX11_belts 88 = .ok (.aload_n 0, 1) := by decide +kernel
theorem dX11_belts_89 : decode cX11_belts 89 = .ok (.getfield 7, 3) := by decide +kernel
theorem dX11_belts_92 : decode cX11_belts 92 = .ok (.iconst 0, 1) := by decide +kernel
theorem dX11_belts_93 : decode cX11_belts 93 = .ok (.iaload, 1) := by decide +kernel
theorem dX11_belts_94 : decode cX11_belts 94 = .ok (.if_icmp .ge 35, 3) := by decide +kernel
theorem dX11_belts_97 : decode cX11_belts 97 = .ok (.aload_n 0, 1) := by decide +kernel
theorem dX11_belts_98 : decode cX11_belts 98 = .ok (.getfield 31, 3) := by decide +kernel
theorem dX11_belts_101 : decode cX11_belts 101 = .ok (.iload_n 2, 1) := by decide +kernel
theorem dX11_belts_102 : decode cX11_belts 102 = .ok (.baload, 1) := by decide +kernel
theorem dX11_belts_103 : decode cX11_belts 103 = .ok (.ifCond .eq 20, 3) := by decide +kernel
theorem dX11_belts_106 : decode cX11_belts 106 = .ok (.aload_n 0, 1) := by decide +kernel
theorem dX11_belts_107 : decode cX11_belts 107 = .ok (.iload_n 2, 1) := by decide +kernel
theorem dX11_belts_108 : decode cX11_belts 108 = .ok (.invokevirtual 115, 3) := by decide +kernel
theorem dX11_belts_111 : decode cX11_belts 111 = .ok (.ifCond .eq 12, 3) := by decide +kernel
theorem dX11_belts_114 : decode cX11_belts 114 = .ok (.aload_n 0, 1) := by decide +kernel
theorem dX11_belts_115 : decode cX11_belts 115 = .ok (.getfield 31, 3) := by decide +kernel
theorem dX11_belts_118 : decode cX11_belts 118 = .ok (.iload_n 2, 1) := by decide +kernel
theorem dX11_belts_119 : decode cX11_belts 119 = .ok (.iconst 0, 1) := by decide +kernel
theorem dX11_belts_120 : decode cX11_belts 120 = .ok (.bastore, 1) := by decide +kernel
theorem dX11_belts_121 : decode cX11_belts 121 = .ok (.iconst 1, 1) := by decide +kernel
theorem dX11_belts_122 : decode cX11_belts 122 = .ok (.istore_n 1, 1) := by decide +kernel
theorem dX11_belts_123 : decode cX11_belts 123 = .ok (.iinc 2 1, 3) := by decide +kernel
theorem dX11_belts_126 : decode cX11_belts 126 = .ok (.goto (-39), 3) := by decide +kernel
theorem dX11_belts_129 : decode cX11_belts 129 = .ok (.goto (-50), 3) := by decide +kernel
theorem dX11_belts_132 : decode cX11_belts 132 = .ok (.iconst 0, 1) := by decide +kernel
theorem dX11_belts_133 : decode cX11_belts 133 = .ok (.istore_n 2, 1) := by decide +kernel
theorem dX11_belts_134 : decode cX11_belts 134 = .ok (.iload_n 2, 1) := by decide +kernel
theorem dX11_belts_135 : decode cX11_belts 135 = .ok (.aload_n 0, 1) := by decide +kernel
theorem dX11_belts_136 : decode cX11_belts 136 = .ok (.getfield 7, 3) := by decide +kernel
theorem dX11_belts_139 : decode cX11_belts 139 = .ok (.iconst 0, 1) := by decide +kernel
theorem dX11_belts_140 : decode cX11_belts 140 = .ok (.iaload, 1) := by decide +kernel
theorem dX11_belts_141 : decode cX11_belts 141 = .ok (.if_icmp .ge 29, 3) := by decide +kernel
theorem dX11_belts_144 : decode cX11_belts 144 = .ok (.aload_n 0, 1) := by decide +kernel
theorem dX11_belts_145 : decode cX11_belts 145 = .ok (.getfield 31, 3) := by decide +kernel
theorem dX11_belts_148 : decode cX11_belts 148 = .ok (.iload_n 2, 1) := by decide +kernel
theorem dX11_belts_149 : decode cX11_belts 149 = .ok (.baload, 1) := by decide +kernel
theorem dX11_belts_150 : decode cX11_belts 150 = .ok (.ifCond .eq 14, 3) := by decide +kernel
theorem dX11_belts_153 : decode cX11_belts 153 = .ok (.aload_n 0, 1) := by decide +kernel
theorem dX11_belts_154 : decode cX11_belts 154 = .ok (.iload_n 2, 1) := by decide +kernel
theorem dX11_belts_155 : decode cX11_belts 155 = .ok (.aload_n 0, 1) := by decide +kernel
theorem dX11_belts_156 : decode cX11_belts 156 = .ok (.getfield 35, 3) := by decide +kernel
theorem dX11_belts_159 : decode cX11_belts 159 = .ok (.iload_n 2, 1) := by decide +kernel
theorem dX11_belts_160 : decode cX11_belts 160 = .ok (.iaload, 1) := by decide +kernel
theorem dX11_belts_161 : decode cX11_belts 161 = .ok (.invokevirtual 83, 3) := by decide +kernel
theorem dX11_belts_164 : decode cX11_belts 164 = .ok (.iinc 2 1, 3) := by decide +kernel
theorem dX11_belts_167 : decode cX11_belts 167 = .ok (.goto (-33), 3) := by decide +kernel
theorem dX11_belts_170 : decode cX11_belts 170 = .ok (.return_, 1) := by decide +kernel
theorem dX11_gears_0 : decode cX11_gears 0 = .ok (.iconst 0, 1) := by decide +kernel
theorem dX11_gears_1 : decode cX11_gears 1 = .ok (.istore_n 1, 1) := by decide +kernel
theorem dX11_gears_2 : decode cX11_gears 2 = .ok (.iload_n 1, 1) := by decide +kernel
theorem dX11_gears_3 : decode cX11_gears 3 = .ok (.aload_n 0, 1) := by decide +kernel
end
section
theorem dX11_gears_4 : decode cX11_gears 4 = .ok (.getfield 7, 3) := by decide +kernel
theorem dX11_gears_7 : decode cX11_gears 7 = .ok (.iconst 0, 1) := by decide +kernel
theorem dX11_gears_8 : decode cX11_gears 8 = .ok (.iaload, 1) := by decide +kernel
theorem dX11_gears_9 : decode cX11_gears 9 = .ok (.if_icmp .ge 61, 3) := by decide +kernel
theorem dX11_gears_12 : decode cX11_gears 12 = .ok (.aload_n 0, 1) := by decide +kernel
theorem dX11_gears_13 : decode cX11_gears 13 = .ok (.iload_n 1, 1) := by decide +kernel
theorem dX11_gears_14 : decode cX11_gears 14 = .ok (.invokevirtual 86, 3) := by decide +kernel
theorem dX11_gears_17 : decode cX11_gears 17 = .ok (.ifCond .eq 7, 3) := by decide +kernel
theorem dX11_gears_20 : decode cX11_gears 20 = .ok (.iconst 0, 1) := by decide +kernel
theorem dX11_gears_21 : decode cX11_gears 21 = .ok (.goto 17, 3) := by decide +kernel
theorem dX11_gears_24 : decode cX11_gears 24 = .ok (.aload_n 0, 1) := by decide +kernel
theorem dX11_gears_25 : decode cX11_gears 25 = .ok (.getfield 7, 3) := by decide +kernel
theorem dX11_gears_28 : decode cX11_gears 28 = .ok (.bipush 11, 2) := by decide +kernel
theorem dX11_gears_30 : decode cX11_gears 30 = .ok (.aload_n 0, 1) := by decide +kernel
theorem dX11_gears_31 : decode cX11_gears 31 = .ok (.iload_n 1, 1) := by decide +kernel
theorem dX11_gears_32 : decode cX11_gears 32 = .ok (.iconst 1, 1) := by decide +kernel
theorem dX11_gears_33 : decode cX11_gears 33 = .ok (.invokevirtual 56, 3) := by decide +kernel
theorem dX11_gears_36 : decode cX11_gears 36 = .ok (.iadd, 1) := by decide +kernel
theorem dX11_gears_37 : decode cX11_gears 37 = .ok (.iaload, 1) := by decide +kernel
theorem dX11_gears_38 : decode cX11_gears 38 = .ok (.istore_n 2, 1) := by decide +kernel
theorem dX11_gears_39 : decode cX11_gears 39 = .ok (.aload_n 0, 1) := by decide +kernel
theorem dX11_gears_40 : decode cX11_gears 40 = .ok (.iload_n 1, 1) := by decide +kernel
theorem dX11_gears_41 : decode cX11_gears 41 = .ok (.iload_n 2, 1) := by decide +kernel
theorem dX11_gears_42 : decode cX11_gears 42 = .ok (.iconst 5, 1) := by decide +kernel
theorem dX11_gears_43 : decode cX11_gears 43 = .ok (.if_icmp .ne 7, 3) := by decide +kernel
theorem dX11_gears_46 : decode cX11_gears 46 = .ok (.iconst 3, 1) := by decide +kernel
theorem dX11_gears_47 : decode cX11_gears 47 = .ok (.goto 14, 3) := by decide +kernel
theorem dX11_gears_50 : decode cX11_gears 50 = .ok (.iload_n 2, 1) := by decide +kernel
theorem dX11_gears_51 : decode cX11_gears 51 = .ok (.bipush 6, 2) := by decide +kernel
theorem dX11_gears_53 : decode cX11_gears 53 = .ok (.if_icmp .ne 7, 3) := by decide +kernel
theorem dX11_gears_56 : decode cX11_gears 56 = .ok (.iconst 1, 1) := by decide +kernel
theorem dX11_gears_57 : decode cX11_gears 57 = .ok (.goto 4, 3) := by decide +kernel
theorem dX11_gears_60 : decode cX11_gears 60 = .ok (.iconst 0, 1) := by decide +kernel
theorem dX11_gears_61 : decode cX11_gears 61 = .ok (.invokevirtual 96, 3) := by decide +kernel
theorem dX11_gears_64 : decode cX11_gears 64 = .ok (.iinc 1 1, 3) := by decide +kernel
theorem dX11_gears_67 : decode cX11_gears 67 = .ok (.goto (-65), 3) := by decide +kernel
theorem dX11_gears_70 : decode cX11_gears 70 = .ok (.return_, 1) := by decide +kernel
theorem dX11_nextFlag_0 : decode cX11_nextFlag 0 = .ok (.aload_n 0, 1) := by decide +kernel
theorem dX11_nextFlag_1 : decode cX11_nextFlag 1 = .ok (.iload_n 1, 1) := by decide +kernel
theorem dX11_nextFlag_2 : decode cX11_nextFlag 2 = .ok (.iconst 4, 1) := by decide +kernel
theorem dX11_nextFlag_3 : decode cX11_nextFlag 3 = .ok (.invokevirtual 56, 3) := by decide +kernel
theorem dX11_nextFlag_6 : decode cX11_nextFlag 6 = .ok (.aload_n 0, 1) := by decide +kernel
theorem dX11_nextFlag_7 : decode cX11_nextFlag 7 = .ok (.getfield 7, 3) := by decide +kernel
theorem dX11_nextFlag_10 : decode cX11_nextFlag 10 = .ok (.iconst 3, 1) := by decide +kernel
theorem dX11_nextFlag_11 : decode cX11_nextFlag 11 = .ok (.iaload, 1) := by decide +kernel
theorem dX11_nextFlag_12 : decode cX11_nextFlag 12 = .ok (.if_icmp .ge 20, 3) := by decide +kernel
theorem dX11_nextFlag_15 : decode cX11_nextFlag 15 = .ok (.aload_n 0, 1) := by decide +kernel
theorem dX11_nextFlag_16 : decode cX11_nextFlag 16 = .ok (.getfield 7, 3) := by decide +kernel
theorem dX11_nextFlag_19 : decode cX11_nextFlag 19 = .ok (.bipush 7, 2) := by decide +kernel
theorem dX11_nextFlag_21 : decode cX11_nextFlag 21 = .ok (.aload_n 0, 1) := by decide +kernel
theorem dX11_nextFlag_22 : decode cX11_nextFlag 22 = .ok (.iload_n 1, 1) := by decide +kernel
theorem dX11_nextFlag_23 : decode cX11_nextFlag 23 = .ok (.iconst 4, 1) := by decide +kernel
theorem dX11_nextFlag_24 : decode cX11_nextFlag 24 = .ok (.invokevirtual 56, 3) := by decide +kernel
theorem dX11_nextFlag_27 : decode cX11_nextFlag 27 = .ok (.iadd, 1) := by decide +kernel
theorem dX11_nextFlag_28 : decode cX11_nextFlag 28 = .ok (.iaload, 1) := by decide +kernel
theorem dX11_nextFlag_29 : decode cX11_nextFlag 29 = .ok (.goto 4, 3) := by decide +kernel
theorem dX11_nextFlag_32 : decode cX11_nextFlag 32 = .ok (.iconst (-1), 1) := by decide +kernel
theorem dX11_nextFlag_33 : decode cX11_nextFlag 33 = .ok (.ireturn, 1) := by decide +kernel
theorem dX11_touches_0 : decode cX11_touches 0 = .ok (.iconst 0, 1) := by decide +kernel
theorem dX11_touches_1 : decode cX11_touches 1 = .ok (.istore_n 1, 1) := by decide +kernel
theorem dX11_touches_2 : decode cX11_touches 2 = .ok (.iload_n 1, 1) := by decide +kernel
theorem dX11_touches_3 : decode cX11_touches 3 = .ok (.aload_n 0, 1) := by decide +kernel
theorem dX11_touches_4 : decode cX11_touches 4 = .ok (.getfield 7, 3) := by decide +kernel
theorem dX11_touches_7 : decode cX11_touches 7 = .ok (.iconst 0, 1) := by decide +kernel
theorem dX11_touches_8 : decode cX11_touches 8 = .ok (.iaload, 1) := by decide +kernel
theorem dX11_touches_9 : decode cX11_touches 9 = .ok (.if_icmp .ge 77, 3) := by decide +kernel
theorem dX11_touches_12 : decode cX11_touches 12 = .ok (.aload_n 0, 1) := by decide +kernel
theorem dX11_touches_13 : decode cX11_touches 13 = .ok (.iload_n 1, 1) := by decide +kernel
theorem dX11_touches_14 : decode cX11_touches 14 = .ok (.invokevirtual 86, 3) := by decide +kernel
theorem dX11_touches_17 : decode cX11_touches 17 = .ok (.ifCond .ne 63, 3) := by decide +kernel
theorem dX11_touches_20 : decode cX11_touches 20 = .ok (.aload_n 0, 1) := by decide +kernel
theorem dX11_touches_21 : decode cX11_touches 21 = .ok (.iload_n 1, 1) := by decide +kernel
theorem dX11_touches_22 : decode cX11_touches 22 = .ok (.invokevirtual 118, 3) := by decide +kernel
theorem dX11_touches_25 : decode cX11_touches 25 = .ok (.aload_n 0, 1) := by decide +kernel
theorem dX11_touches_26 : decode cX11_touches 26 = .ok (.iload_n 1, 1) := by decide +kernel
theorem dX11_touches_27 : decode cX11_touches 27 = .ok (.iconst 1, 1) := by decide +kernel
theorem dX11_touches_28 : decode cX11_touches 28 = .ok (.invokevirtual 56, 3) := by decide +kernel
theorem dX11_touches_31 : decode cX11_touches 31 = .ok (.if_icmp .ne 49, 3) := by decide +kernel
theorem dX11_touches_34 : decode cX11_touches 34 = .ok (.aload_n 0, 1) := by decide +kernel
theorem dX11_touches_35 : decode cX11_touches 35 = .ok (.iload_n 1, 1) := by decide +kernel
theorem dX11_touches_36 : decode cX11_touches 36 = .ok (.iconst 4, 1) := by decide +kernel
theorem dX11_touches_37 : decode cX11_touches 37 = .ok (.invokevirtual 64, 3) := by decide +kernel
theorem dX11_touches_40 : decode cX11_touches 40 = .ok (.aload_n 0, 1) := by decide +kernel
theorem dX11_touches_41 : decode cX11_touches 41 = .ok (.getfield 7, 3) := by decide +kernel
theorem dX11_touches_44 : decode cX11_touches 44 = .ok (.iconst 4, 1) := by decide +kernel
theorem dX11_touches_45 : decode cX11_touches 45 = .ok (.aload_n 0, 1) := by decide +kernel
theorem dX11_touches_46 : decode cX11_touches 46 = .ok (.getfield 7, 3) := by decide +kernel
theorem dX11_touches_49 : decode cX11_touches 49 = .ok (.iconst 4, 1) := by decide +kernel
theorem dX11_touches_50 : decode cX11_touches 50 = .ok (.iaload, 1) := by decide +kernel
theorem dX11_touches_51 : decode cX11_touches 51 = .ok (.ifCond .ge 22, 3) := by decide +kernel
theorem dX11_touches_54 : decode cX11_touches 54 = .ok (.aload_n 0, 1) := by decide +kernel
theorem dX11_touches_55 : decode cX11_touches 55 = .ok (.iload_n 1, 1) := by decide +kernel
theorem dX11_touches_56 : decode cX11_touches 56 = .ok (.iconst 4, 1) := by decide +kernel
theorem dX11_touches_57 : decode cX11_touches 57 = .ok (.invokevirtual 56, 3) := by decide +kernel
theorem dX11_touches_60 : decode cX11_touches 60 = .ok (.aload_n 0, 1) := by decide +kernel
theorem dX11_touches_61 : decode cX11_touches 61 = .ok (.getfield 7, 3) := by decide +kernel
theorem dX11_touches_64 : decode cX11_touches 64 = .ok (.iconst 3, 1) := by decide +kernel
theorem dX11_touches_65 : decode cX11_touches 65 = .ok (.iaload, 1) := by decide +kernel
theorem dX11_touches_66 : decode cX11_touches 66 = .ok (.if_icmp .ne 7, 3) := by decide +kernel
theorem dX11_touches_69 : decode cX11_touches 69 = .ok (.iload_n 1, 1) := by decide +kernel
theorem dX11_touches_70 : decode cX11_touches 70 = .ok (.goto 9, 3) := by decide +kernel
theorem dX11_touches_73 : decode cX11_touches 73 = .ok (.aload_n 0, 1) := by decide +kernel
theorem dX11_touches_74 : decode cX11_touches 74 = .ok (.getfield 7, 3) := by decide +kernel
theorem dX11_touches_77 : decode cX11_touches 77 = .ok (.iconst 4, 1) := by decide +kernel
theorem dX11_touches_78 : decode cX11_touches 78 = .ok (.iaload, 1) := by decide +kernel
theorem dX11_touches_79 : decode cX11_touches 79 = .ok (.iastore, 1) := by decide +kernel
theorem dX11_touches_80 : decode cX11_touches 80 = .ok (.iinc 1 1, 3) := by decide +kernel
theorem dX11_touches_83 : decode cX11_touches 83 = .ok (.goto (-81), 3) := by decide +kernel
theorem dX11_touches_86 : decode cX11_touches 86 = .ok (.return_, 1) := by decide +kernel
theorem dX11_empties_0 : decode cX11_empties 0 = .ok (.iconst 0, 1) := by decide +kernel
theorem dX11_empties_1 : decode cX11_empties 1 = .ok (.istore_n 3, 1) := by decide +kernel
theorem dX11_empties_2 : decode cX11_empties 2 = .ok (.iload_n 3, 1) := by decide +kernel
theorem dX11_empties_3 : decode cX11_empties 3 = .ok (.iconst 5, 1) := by decide +kernel
theorem dX11_empties_4 : decode cX11_empties 4 = .ok (.if_icmp .ge 48, 3) := by decide +kernel
theorem dX11_empties_7 : decode cX11_empties 7 = .ok (.iload_n 2, 1) := by decide +kernel
theorem dX11_empties_8 : decode cX11_empties 8 = .ok (.ifCond .ne 12, 3) := by decide +kernel
theorem dX11_empties_11 : decode cX11_empties 11 = .ok (.aload_n 0, 1) := by decide +kernel
theorem dX11_empties_12 : decode cX11_empties 12 = .ok (.iload_n 1, 1) := by decide +kernel
theorem dX11_empties_13 : decode cX11_empties 13 = .ok (.iload_n 3, 1) := by decide +kernel
theorem dX11_empties_14 : decode cX11_empties 14 = .ok (.invokevirtual 121, 3) := by decide +kernel
theorem dX11_empties_17 : decode cX11_empties 17 = .ok (.ifCond .ne 29, 3) := by decide +kernel
theorem dX11_empties_20 : decode cX11_empties 20 = .ok (.aload_n 0, 1) := by decide +kernel
theorem dX11_empties_21 : decode cX11_empties 21 = .ok (.iload_n 1, 1) := by decide +kernel
theorem dX11_empties_22 : decode cX11_empties 22 = .ok (.bipush 7, 2) := by decide +kernel
theorem dX11_empties_24 : decode cX11_empties 24 = .ok (.iconst 2, 1) := by decide +kernel
theorem dX11_empties_25 : decode cX11_empties 25 = .ok (.iload_n 3, 1) := by decide +kernel
theorem dX11_empties_26 : decode cX11_empties 26 = .ok (.imul, 1) := by decide +kernel
theorem dX11_empties_27 : decode cX11_empties 27 = .ok (.iadd, 1) := by decide +kernel
theorem dX11_empties_28 : decode cX11_empties 28 = .ok (.iconst 0, 1) := by decide +kernel
theorem dX11_empties_29 : decode cX11_empties 29 = .ok (.invokevirtual 60, 3) := by decide +kernel
theorem dX11_empties_32 : decode cX11_empties 32 = .ok (.aload_n 0, 1) := by decide +kernel
theorem dX11_empties_33 : decode cX11_empties 33 = .ok (.iload_n 1, 1) := by decide +kernel
theorem dX11_empties_34 : decode cX11_empties 34 = .ok (.bipush 7, 2) := by decide +kernel
theorem dX11_empties_36 : decode cX11_empties 36 = .ok (.iconst 2, 1) := by decide +kernel
theorem dX11_empties_37 : decode cX11_empties 37 = .ok (.iload_n 3, 1) := by decide +kernel
theorem dX11_empties_38 : decode cX11_empties 38 = .ok (.imul, 1) := by decide +kernel
theorem dX11_empties_39 : decode cX11_empties 39 = .ok (.iadd, 1) := by decide +kernel
theorem dX11_empties_40 : decode cX11_empties 40 = .ok (.iconst 1, 1) := by decide +kernel
theorem dX11_empties_41 : decode cX11_empties 41 = .ok (.iadd, 1) := by decide +kernel
theorem dX11_empties_42 : decode cX11_empties 42 = .ok (.iconst 0, 1) := by decide +kernel
theorem dX11_empties_43 : decode cX11_empties 43 = .ok (.invokevirtual 60, 3) := by decide +kernel
theorem dX11_empties_46 : decode cX11_empties 46 = .ok (.iinc 3 1, 3) := by decide +kernel
theorem dX11_empties_49 : decode cX11_empties 49 = .ok (.goto (-47), 3) := by decide +kernel
theorem dX11_empties_52 : decode cX11_empties 52 = .ok (.return_, 1) := by decide +kernel
theorem dX11_isGood_0 : decode cX11_isGood 0 = .ok (.aload_n 0, 1) := by decide +kernel
theorem dX11_isGood_1 : decode cX11_isGood 1 = .ok (.getfield 7, 3) := by decide +kernel
theorem dX11_isGood_4 : decode cX11_isGood 4 = .ok (.bipush 11, 2) := by decide +kernel
theorem dX11_isGood_6 : decode cX11_isGood 6 = .ok (.iload_n 1, 1) := by decide +kernel
theorem dX11_isGood_7 : decode cX11_isGood 7 = .ok (.iadd, 1) := by decide +kernel
theorem dX11_isGood_8 : decode cX11_isGood 8 = .ok (.iaload, 1) := by decide +kernel
theorem dX11_isGood_9 : decode cX11_isGood 9 = .ok (.bipush 7, 2) := by decide +kernel
theorem dX11_isGood_11 : decode cX11_isGood 11 = .ok (.if_icmp .eq 15, 3) := by decide +kernel
theorem dX11_isGood_14 : decode cX11_isGood 14 = .ok (.aload_n 0, 1) := by decide +kernel
theorem dX11_isGood_15 : decode cX11_isGood 15 = .ok (.iload_n 1, 1) := by decide +kernel
theorem dX11_isGood_16 : decode cX11_isGood 16 = .ok (.invokevirtual 79, 3) := by decide +kernel
theorem dX11_isGood_19 : decode cX11_isGood 19 = .ok (.ifCond .ge 7, 3) := by decide +kernel
theorem dX11_isGood_22 : decode cX11_isGood 22 = .ok (.iconst 1, 1) := by decide +kernel
theorem dX11_isGood_23 : decode cX11_isGood 23 = .ok (.goto 4, 3) := by decide +kernel
theorem dX11_isGood_26 : decode cX11_isGood 26 = .ok (.iconst 0, 1) := by decide +kernel
theorem dX11_isGood_27 : decode cX11_isGood 27 = .ok (.ireturn, 1) := by decide +kernel
theorem dX11_comesBack_0 : decode cX11_comesBack 0 = .ok (.aload_n 0, 1) := by decide +kernel
theorem dX11_comesBack_1 : decode cX11_comesBack 1 = .ok (.iload_n 1, 1) := by decide +kernel
theorem dX11_comesBack_2 : decode cX11_comesBack 2 = .ok (.iconst 0, 1) := by decide +kernel
theorem dX11_comesBack_3 : decode cX11_comesBack 3 = .ok (.invokevirtual 56, 3) := by decide +kernel
theorem dX11_comesBack_6 : decode cX11_comesBack 6 = .ok (.istore_n 2, 1) := by decide +kernel
theorem dX11_comesBack_7 : decode cX11_comesBack 7 = .ok (.aload_n 0, 1) := by decide +kernel
theorem dX11_comesBack_8 : decode cX11_comesBack 8 = .ok (.iload_n 2, 1) := by decide +kernel
theorem dX11_comesBack_9 : decode cX11_comesBack 9 = .ok (.invokevirtual 124, 3) := by decide +kernel
theorem dX11_comesBack_12 : decode cX11_comesBack 12 = .ok (.ifCond .ne 25, 3) := by decide +kernel
theorem dX11_comesBack_15 : decode cX11_comesBack 15 = .ok (.iconst 0, 1) := by decide +kernel
theorem dX11_comesBack_16 : decode cX11_comesBack 16 = .ok (.istore_n 2, 1) := by decide +kernel
theorem dX11_comesBack_17 : decode cX11_comesBack 17 = .ok (.iload_n 2, 1) := by decide +kernel
theorem dX11_comesBack_18 : decode cX11_comesBack 18 = .ok (.bipush 64, 2) := by decide +kernel
theorem dX11_comesBack_20 : decode cX11_comesBack 20 = .ok (.if_icmp .ge 17, 3) := by decide +kernel
theorem dX11_comesBack_23 : decode cX11_comesBack 23 = .ok (.aload_n 0, 1) := by decide +kernel
theorem dX11_comesBack_24 : decode cX11_comesBack 24 = .ok (.iload_n 2, 1) := by decide +kernel
theorem dX11_comesBack_25 : decode cX11_comesBack 25 = .ok (.invokevirtual 124, 3) := by decide +kernel
theorem dX11_comesBack_28 : decode cX11_comesBack 28 = .ok (.ifCond .ne 9, 3) := by decide +kernel
theorem dX11_comesBack_31 : decode cX11_comesBack 31 = .ok (.iinc 2 1, 3) := by decide +kernel
theorem dX11_comesBack_34 : decode cX11_comesBack 34 = .ok (.goto (-17), 3) := by decide +kernel
theorem dX11_comesBack_37 : decode cX11_comesBack 37 = .ok (.aload_n 0, 1) := by decide +kernel
theorem dX11_comesBack_38 : decode cX11_comesBack 38 = .ok (.iload_n 1, 1) := by decide +kernel
theorem dX11_comesBack_39 : decode cX11_comesBack 39 = .ok (.iconst 1, 1) := by decide +kernel
theorem dX11_comesBack_40 : decode cX11_comesBack 40 = .ok (.iload_n 2, 1) := by decide +kernel
theorem dX11_comesBack_41 : decode cX11_comesBack 41 = .ok (.bipush 64, 2) := by decide +kernel
theorem dX11_comesBack_43 : decode cX11_comesBack 43 = .ok (.if_icmp .ne 7, 3) := by decide +kernel
theorem dX11_comesBack_46 : decode cX11_comesBack 46 = .ok (.iconst (-1), 1) := by decide +kernel
theorem dX11_comesBack_47 : decode cX11_comesBack 47 = .ok (.goto 4, 3) := by decide +kernel
theorem dX11_comesBack_50 : decode cX11_comesBack 50 = .ok (.iload_n 2, 1) := by decide +kernel
theorem dX11_comesBack_51 : decode cX11_comesBack 51 = .ok (.invokevirtual 60, 3) := by decide +kernel
theorem dX11_comesBack_54 : decode cX11_comesBack 54 = .ok (.aload_n 0, 1) := by decide +kernel
theorem dX11_comesBack_55 : decode cX11_comesBack 55 = .ok (.iload_n 1, 1) := by decide +kernel
theorem dX11_comesBack_56 : decode cX11_comesBack 56 = .ok (.iconst 2, 1) := by decide +kernel
theorem dX11_comesBack_57 : decode cX11_comesBack 57 = .ok (.iconst 0, 1) := by decide +kernel
theorem dX11_comesBack_58 : decode cX11_comesBack 58 = .ok (.invokevirtual 60, 3) := by decide +kernel
theorem dX11_comesBack_61 : decode cX11_comesBack 61 = .ok (.aload_n 0, 1) := by decide +kernel
theorem dX11_comesBack_62 : decode cX11_comesBack 62 = .ok (.iload_n 1, 1) := by decide +kernel
theorem dX11_comesBack_63 : decode cX11_comesBack 63 = .ok (.iconst 3, 1) := by decide +kernel
theorem dX11_comesBack_64 : decode cX11_comesBack 64 = .ok (.iconst 2, 1) := by decide +kernel
theorem dX11_comesBack_65 : decode cX11_comesBack 65 = .ok (.invokevirtual 60, 3) := by decide +kernel
theorem dX11_comesBack_68 : decode cX11_comesBack 68 = .ok (.aload_n 0, 1) := by decide +kernel
theorem dX11_comesBack_69 : decode cX11_comesBack 69 = .ok (.iload_n 1, 1) := by decide +kernel
theorem dX11_comesBack_70 : decode cX11_comesBack 70 = .ok (.iconst 1, 1) := by decide +kernel
theorem dX11_comesBack_71 : decode cX11_comesBack 71 = .ok (.invokevirtual 127, 3) := by decide +kernel
theorem dX11_comesBack_74 : decode cX11_comesBack 74 = .ok (.return_, 1) := by decide +kernel
theorem dX11_ends_0 : decode cX11_ends 0 = .ok (.iconst 0, 1) := by decide +kernel
theorem dX11_ends_1 : decode cX11_ends 1 = .ok (.istore_n 1, 1) := by decide +kernel
theorem dX11_ends_2 : decode cX11_ends 2 = .ok (.iload_n 1, 1) := by decide +kernel
theorem dX11_ends_3 : decode cX11_ends 3 = .ok (.aload_n 0, 1) := by decide +kernel
theorem dX11_ends_4 : decode cX11_ends 4 = .ok (.getfield 7, 3) := by decide +kernel
theorem dX11_ends_7 : decode cX11_ends 7 = .ok (.iconst 0, 1) := by decide +kernel
theorem dX11_ends_8 : decode cX11_ends 8 = .ok (.iaload, 1) := by decide +kernel
theorem dX11_ends_9 : decode cX11_ends 9 = .ok (.if_icmp .ge 79, 3) := by decide +kernel
theorem dX11_ends_12 : decode cX11_ends 12 = .ok (.aload_n 0, 1) := by decide +kernel
theorem dX11_ends_13 : decode cX11_ends 13 = .ok (.iload_n 1, 1) := by decide +kernel
theorem dX11_ends_14 : decode cX11_ends 14 = .ok (.invokevirtual 86, 3) := by decide +kernel
theorem dX11_ends_17 : decode cX11_ends 17 = .ok (.ifCond .ne 35, 3) := by decide +kernel
theorem dX11_ends_20 : decode cX11_ends 20 = .ok (.aload_n 0, 1) := by decide +kernel
theorem dX11_ends_21 : decode cX11_ends 21 = .ok (.getfield 7, 3) := by decide +kernel
theorem dX11_ends_24 : decode cX11_ends 24 = .ok (.bipush 11, 2) := by decide +kernel
theorem dX11_ends_26 : decode cX11_ends 26 = .ok (.aload_n 0, 1) := by decide +kernel
theorem dX11_ends_27 : decode cX11_ends 27 = .ok (.iload_n 1, 1) := by decide +kernel
theorem dX11_ends_28 : decode cX11_ends 28 = .ok (.iconst 1, 1) := by decide +kernel
theorem dX11_ends_29 : decode cX11_ends 29 = .ok (.invokevirtual 56, 3) := by decide +kernel
theorem dX11_ends_32 : decode cX11_ends 32 = .ok (.iadd, 1) := by decide +kernel
theorem dX11_ends_33 : decode cX11_ends 33 = .ok (.iaload, 1) := by decide +kernel
theorem dX11_ends_34 : decode cX11_ends 34 = .ok (.bipush 8, 2) := by decide +kernel
theorem dX11_ends_36 : decode cX11_ends 36 = .ok (.if_icmp .ne 16, 3) := by decide +kernel
theorem dX11_ends_39 : decode cX11_ends 39 = .ok (.aload_n 0, 1) := by decide +kernel
theorem dX11_ends_40 : decode cX11_ends 40 = .ok (.iload_n 1, 1) := by decide +kernel
theorem dX11_ends_41 : decode cX11_ends 41 = .ok (.iconst 3, 1) := by decide +kernel
theorem dX11_ends_42 : decode cX11_ends 42 = .ok (.invokevirtual 56, 3) := by decide +kernel
theorem dX11_ends_45 : decode cX11_ends 45 = .ok (.ifCond .le 7, 3) := by decide +kernel
theorem dX11_ends_48 : decode cX11_ends 48 = .ok (.iconst 1, 1) := by decide +kernel
theorem dX11_ends_49 : decode cX11_ends 49 = .ok (.goto 4, 3) := by decide +kernel
theorem dX11_ends_52 : decode cX11_ends 52 = .ok (.iconst 0, 1) := by decide +kernel
theorem dX11_ends_53 : decode cX11_ends 53 = .ok (.istore_n 2, 1) := by decide +kernel
theorem dX11_ends_54 : decode cX11_ends 54 = .ok (.aload_n 0, 1) := by decide +kernel
theorem dX11_ends_55 : decode cX11_ends 55 = .ok (.iload_n 1, 1) := by decide +kernel
theorem dX11_ends_56 : decode cX11_ends 56 = .ok (.iconst 3, 1) := by decide +kernel
theorem dX11_ends_57 : decode cX11_ends 57 = .ok (.aload_n 0, 1) := by decide +kernel
theorem dX11_ends_58 : decode cX11_ends 58 = .ok (.iload_n 1, 1) := by decide +kernel
theorem dX11_ends_59 : decode cX11_ends 59 = .ok (.iconst 3, 1) := by decide +kernel
theorem dX11_ends_60 : decode cX11_ends 60 = .ok (.invokevirtual 56, 3) := by decide +kernel
theorem dX11_ends_63 : decode cX11_ends 63 = .ok (.iload_n 2, 1) := by decide +kernel
theorem dX11_ends_64 : decode cX11_ends 64 = .ok (.ifCond .eq 7, 3) := by decide +kernel
theorem dX11_ends_67 : decode cX11_ends 67 = .ok (.iconst 1, 1) := by decide +kernel
theorem dX11_ends_68 : decode cX11_ends 68 = .ok (.goto 4, 3) := by decide +kernel
theorem dX11_ends_71 : decode cX11_ends 71 = .ok (.iconst 0, 1) := by decide +kernel
theorem dX11_ends_72 : decode cX11_ends 72 = .ok (.isub, 1) := by decide +kernel
theorem dX11_ends_73 : decode cX11_ends 73 = .ok (.invokevirtual 60, 3) := by decide +kernel
theorem dX11_ends_76 : decode cX11_ends 76 = .ok (.aload_n 0, 1) := by decide +kernel
theorem dX11_ends_77 : decode cX11_ends 77 = .ok (.iload_n 1, 1) := by decide +kernel
theorem dX11_ends_78 : decode cX11_ends 78 = .ok (.iconst 0, 1) := by decide +kernel
theorem dX11_ends_79 : decode cX11_ends 79 = .ok (.invokevirtual 127, 3) := by decide +kernel
theorem dX11_ends_82 : decode cX11_ends 82 = .ok (.iinc 1 1, 3) := by decide +kernel
theorem dX11_ends_85 : decode cX11_ends 85 = .ok (.goto (-83), 3) := by decide +kernel
theorem dX11_ends_88 : decode cX11_ends 88 = .ok (.iconst 0, 1) := by decide +kernel
theorem dX11_ends_89 : decode cX11_ends 89 = .ok (.istore_n 1, 1) := by decide +kernel
theorem dX11_ends_90 : decode cX11_ends 90 = .ok (.iload_n 1, 1) := by decide +kernel
theorem dX11_ends_91 : decode cX11_ends 91 = .ok (.aload_n 0, 1) := by decide +kernel
theorem dX11_ends_92 : decode cX11_ends 92 = .ok (.getfield 7, 3) := by decide +kernel
theorem dX11_ends_95 : decode cX11_ends 95 = .ok (.iconst 0, 1) := by decide +kernel
theorem dX11_ends_96 : decode cX11_ends 96 = .ok (.iaload, 1) := by decide +kernel
theorem dX11_ends_97 : decode cX11_ends 97 = .ok (.if_icmp .ge 22, 3) := by decide +kernel
theorem dX11_ends_100 : decode cX11_ends 100 = .ok (.aload_n 0, 1) := by decide +kernel
theorem dX11_ends_101 : decode cX11_ends 101 = .ok (.iload_n 1, 1) := by decide +kernel
theorem dX11_ends_102 : decode cX11_ends 102 = .ok (.invokevirtual 86, 3) := by decide +kernel
theorem dX11_ends_105 : decode cX11_ends 105 = .ok (.ifCond .eq 8, 3) := by decide +kernel
theorem dX11_ends_108 : decode cX11_ends 108 = .ok (.aload_n 0, 1) := by decide +kernel
theorem dX11_ends_109 : decode cX11_ends 109 = .ok (.iload_n 1, 1) := by decide +kernel
theorem dX11_ends_110 : decode cX11_ends 110 = .ok (.invokevirtual 131, 3) := by decide +kernel
theorem dX11_ends_113 : decode cX11_ends 113 = .ok (.iinc 1 1, 3) := by decide +kernel
theorem dX11_ends_116 : decode cX11_ends 116 = .ok (.goto (-26), 3) := by decide +kernel
theorem dX11_ends_119 : decode cX11_ends 119 = .ok (.aload_n 0, 1) := by decide +kernel
theorem dX11_ends_120 : decode cX11_ends 120 = .ok (.getfield 7, 3) := by decide +kernel
theorem dX11_ends_123 : decode cX11_ends 123 = .ok (.iconst 1, 1) := by decide +kernel
theorem dX11_ends_124 : decode cX11_ends 124 = .ok (.iconst 0, 1) := by decide +kernel
theorem dX11_ends_125 : decode cX11_ends 125 = .ok (.iastore, 1) := by decide +kernel
theorem dX11_ends_126 : decode cX11_ends 126 = .ok (.aload_n 0, 1) := by decide +kernel
theorem dX11_ends_127 : decode cX11_ends 127 = .ok (.getfield 7, 3) := by decide +kernel
theorem dX11_ends_130 : decode cX11_ends 130 = .ok (.iconst 2, 1) := by decide +kernel
theorem dX11_ends_131 : decode cX11_ends 131 = .ok (.dup2, 1) := by decide +kernel
theorem dX11_ends_132 : decode cX11_ends 132 = .ok (.iaload, 1) := by decide +kernel
theorem dX11_ends_133 : decode cX11_ends 133 = .ok (.iconst 1, 1) := by decide +kernel
theorem dX11_ends_134 : decode cX11_ends 134 = .ok (.iadd, 1) := by decide +kernel
theorem dX11_ends_135 : decode cX11_ends 135 = .ok (.iastore, 1) := by decide +kernel
theorem dX11_ends_136 : decode cX11_ends 136 = .ok (.return_, 1) := by decide +kernel
theorem dX11_passes_0 : decode cX11_passes 0 = .ok (.aload_n 0, 1) := by decide +kernel
theorem dX11_passes_1 : decode cX11_passes 1 = .ok (.invokevirtual 134, 3) := by decide +kernel
theorem dX11_passes_4 : decode cX11_passes 4 = .ok (.istore_n 1, 1) := by decide +kernel
theorem dX11_passes_5 : decode cX11_passes 5 = .ok (.aload_n 0, 1) := by decide +kernel
theorem dX11_passes_6 : decode cX11_passes 6 = .ok (.getfield 7, 3) := by decide +kernel
theorem dX11_passes_9 : decode cX11_passes 9 = .ok (.iconst 1, 1) := by decide +kernel
theorem dX11_passes_10 : decode cX11_passes 10 = .ok (.iaload, 1) := by decide +kernel
theorem dX11_passes_11 : decode cX11_passes 11 = .ok (.istore_n 2, 1) := by decide +kernel
theorem dX11_passes_12 : decode cX11_passes 12 = .ok (.aload_n 0, 1) := by decide +kernel
theorem dX11_passes_13 : decode cX11_passes 13 = .ok (.invokevirtual 138, 3) := by decide +kernel
theorem dX11_passes_16 : decode cX11_passes 16 = .ok (.iconst 0, 1) := by decide +kernel
theorem dX11_passes_17 : decode cX11_passes 17 = .ok (.istore_n 3, 1) := by decide +kernel
theorem dX11_passes_18 : decode cX11_passes 18 = .ok (.iload_n 3, 1) := by decide +kernel
theorem dX11_passes_19 : decode cX11_passes 19 = .ok (.aload_n 0, 1) := by decide +kernel
theorem dX11_passes_20 : decode cX11_passes 20 = .ok (.getfield 99, 3) := by decide +kernel
theorem dX11_passes_23 : decode cX11_passes 23 = .ok (.if_icmp .ge 48, 3) := by decide +kernel
theorem dX11_passes_26 : decode cX11_passes 26 = .ok (.aload_n 0, 1) := by decide +kernel
theorem dX11_passes_27 : decode cX11_passes 27 = .ok (.aload_n 0, 1) := by decide +kernel
theorem dX11_passes_28 : decode cX11_passes 28 = .ok (.getfield 28, 3) := by decide +kernel
theorem dX11_passes_31 : decode cX11_passes 31 = .ok (.iload_n 3, 1) := by decide +kernel
theorem dX11_passes_32 : decode cX11_passes 32 = .ok (.iaload, 1) := by decide +kernel
theorem dX11_passes_33 : decode cX11_passes 33 = .ok (.invokevirtual 86, 3) := by decide +kernel
theorem dX11_passes_36 : decode cX11_passes 36 = .ok (.ifCond .ne 29, 3) := by decide +kernel
theorem dX11_passes_39 : decode cX11_passes 39 = .ok (.aload_n 0, 1) := by decide +kernel
theorem dX11_passes_40 : decode cX11_passes 40 = .ok (.aload_n 0, 1) := by decide +kernel
theorem dX11_passes_41 : decode cX11_passes 41 = .ok (.getfield 28, 3) := by decide +kernel
theorem dX11_passes_44 : decode cX11_passes 44 = .ok (.iload_n 3, 1) := by decide +kernel
theorem dX11_passes_45 : decode cX11_passes 45 = .ok (.iaload, 1) := by decide +kernel
theorem dX11_passes_46 : decode cX11_passes 46 = .ok (.aload_n 0, 1) := by decide +kernel
theorem dX11_passes_47 : decode cX11_passes 47 = .ok (.aload_n 0, 1) := by decide +kernel
theorem dX11_passes_48 : decode cX11_passes 48 = .ok (.getfield 28, 3) := by decide +kernel
theorem dX11_passes_51 : decode cX11_passes 51 = .ok (.iload_n 3, 1) := by decide +kernel
theorem dX11_passes_52 : decode cX11_passes 52 = .ok (.iaload, 1) := by decide +kernel
theorem dX11_passes_53 : decode cX11_passes 53 = .ok (.bipush 7, 2) := by decide +kernel
theorem dX11_passes_55 : decode cX11_passes 55 = .ok (.iconst 2, 1) := by decide +kernel
theorem dX11_passes_56 : decode cX11_passes 56 = .ok (.iload_n 2, 1) := by decide +kernel
theorem dX11_passes_57 : decode cX11_passes 57 = .ok (.imul, 1) := by decide +kernel
theorem dX11_passes_58 : decode cX11_passes 58 = .ok (.iadd, 1) := by decide +kernel
theorem dX11_passes_59 : decode cX11_passes 59 = .ok (.invokevirtual 56, 3) := by decide +kernel
theorem dX11_passes_62 : decode cX11_passes 62 = .ok (.invokevirtual 141, 3) := by decide +kernel
theorem dX11_passes_65 : decode cX11_passes 65 = .ok (.iinc 3 1, 3) := by decide +kernel
theorem dX11_passes_68 : decode cX11_passes 68 = .ok (.goto (-50), 3) := by decide +kernel
theorem dX11_passes_71 : decode cX11_passes 71 = .ok (.aload_n 0, 1) := by decide +kernel
theorem dX11_passes_72 : decode cX11_passes 72 = .ok (.invokevirtual 144, 3) := by decide +kernel
theorem dX11_passes_75 : decode cX11_passes 75 = .ok (.aload_n 0, 1) := by decide +kernel
theorem dX11_passes_76 : decode cX11_passes 76 = .ok (.invokevirtual 147, 3) := by decide +kernel
theorem dX11_passes_79 : decode cX11_passes 79 = .ok (.aload_n 0, 1) := by decide +kernel
theorem dX11_passes_80 : decode cX11_passes 80 = .ok (.invokevirtual 150, 3) := by decide +kernel
theorem dX11_passes_83 : decode cX11_passes 83 = .ok (.aload_n 0, 1) := by decide +kernel
theorem dX11_passes_84 : decode cX11_passes 84 = .ok (.getfield 7, 3) := by decide +kernel
theorem dX11_passes_87 : decode cX11_passes 87 = .ok (.iconst 5, 1) := by decide +kernel
theorem dX11_passes_88 : decode cX11_passes 88 = .ok (.dup2, 1) := by decide +kernel
theorem dX11_passes_89 : decode cX11_passes 89 = .ok (.iaload, 1) := by decide +kernel
theorem dX11_passes_90 : decode cX11_passes 90 = .ok (.iconst 1, 1) := by decide +kernel
theorem dX11_passes_91 : decode cX11_passes 91 = .ok (.iadd, 1) := by decide +kernel
theorem dX11_passes_92 : decode cX11_passes 92 = .ok (.iastore, 1) := by decide +kernel
theorem dX11_passes_93 : decode cX11_passes 93 = .ok (.aload_n 0, 1) := by decide +kernel
theorem dX11_passes_94 : decode cX11_passes 94 = .ok (.getfield 7, 3) := by decide +kernel
theorem dX11_passes_97 : decode cX11_passes 97 = .ok (.iconst 1, 1) := by decide +kernel
theorem dX11_passes_98 : decode cX11_passes 98 = .ok (.dup2, 1) := by decide +kernel
theorem dX11_passes_99 : decode cX11_passes 99 = .ok (.iaload, 1) := by decide +kernel
theorem dX11_passes_100 : decode cX11_passes 100 = .ok (.iconst 1, 1) := by decide +kernel
theorem dX11_passes_101 : decode cX11_passes 101 = .ok (.iadd, 1) := by decide +kernel
theorem dX11_passes_102 : decode cX11_passes 102 = .ok (.iastore, 1) := by decide +kernel
theorem dX11_passes_103 : decode cX11_passes 103 = .ok (.aload_n 0, 1) := by decide +kernel
theorem dX11_passes_104 : decode cX11_passes 104 = .ok (.getfield 7, 3) := by decide +kernel
theorem dX11_passes_107 : decode cX11_passes 107 = .ok (.iconst 1, 1) := by decide +kernel
theorem dX11_passes_108 : decode cX11_passes 108 = .ok (.iaload, 1) := by decide +kernel
theorem dX11_passes_109 : decode cX11_passes 109 = .ok (.iconst 5, 1) := by decide +kernel
theorem dX11_passes_110 : decode cX11_passes 110 = .ok (.if_icmp .ne 7, 3) := by decide +kernel
theorem dX11_passes_113 : decode cX11_passes 113 = .ok (.aload_n 0, 1) := by decide +kernel
theorem dX11_passes_114 : decode cX11_passes 114 = .ok (.invokevirtual 153, 3) := by decide +kernel
theorem dX11_passes_117 : decode cX11_passes 117 = .ok (.aload_n 0, 1) := by decide +kernel
theorem dX11_passes_118 : decode cX11_passes 118 = .ok (.invokevirtual 134, 3) := by decide +kernel
theorem dX11_passes_121 : decode cX11_passes 121 = .ok (.iload_n 1, 1) := by decide +kernel
theorem dX11_passes_122 : decode cX11_passes 122 = .ok (.isub, 1) := by decide +kernel
theorem dX11_passes_123 : decode cX11_passes 123 = .ok (.ireturn, 1) := by decide +kernel
theorem dX11_kinds_0 : decode cX11_kinds 0 = .ok (.iload_n 1, 1) := by decide +kernel
theorem dX11_kinds_1 : decode cX11_kinds 1 = .ok (.invokestatic 156, 3) := by decide +kernel
theorem dX11_kinds_4 : decode cX11_kinds 4 = .ok (.ifCond .eq 13, 3) := by decide +kernel
theorem dX11_kinds_7 : decode cX11_kinds 7 = .ok (.iload_n 2, 1) := by decide +kernel
theorem dX11_kinds_8 : decode cX11_kinds 8 = .ok (.iconst 0, 1) := by decide +kernel
theorem dX11_kinds_9 : decode cX11_kinds 9 = .ok (.bipush 8, 2) := by decide +kernel
theorem dX11_kinds_11 : decode cX11_kinds 11 = .ok (.invokestatic 44, 3) := by decide +kernel
theorem dX11_kinds_14 : decode cX11_kinds 14 = .ok (.ifCond .ne 6, 3) := by decide +kernel
theorem dX11_kinds_17 : decode cX11_kinds 17 = .ok (.ldc 48, 2) := by decide +kernel
theorem dX11_kinds_19 : decode cX11_kinds 19 = .ok (.ireturn, 1) := by decide +kernel
theorem dX11_kinds_20 : decode cX11_kinds 20 = .ok (.iload_n 2, 1) := by decide +kernel
theorem dX11_kinds_21 : decode cX11_kinds 21 = .ok (.bipush 7, 2) := by decide +kernel
theorem dX11_kinds_23 : decode cX11_kinds 23 = .ok (.if_icmp .ne 14, 3) := by decide +kernel
theorem dX11_kinds_26 : decode cX11_kinds 26 = .ok (.aload_n 0, 1) := by decide +kernel
theorem dX11_kinds_27 : decode cX11_kinds 27 = .ok (.iload_n 1, 1) := by decide +kernel
theorem dX11_kinds_28 : decode cX11_kinds 28 = .ok (.invokevirtual 79, 3) := by decide +kernel
theorem dX11_kinds_31 : decode cX11_kinds 31 = .ok (.ifCond .lt 6, 3) := by decide +kernel
theorem dX11_kinds_34 : decode cX11_kinds 34 = .ok (.ldc 159, 2) := by decide +kernel
theorem dX11_kinds_36 : decode cX11_kinds 36 = .ok (.ireturn, 1) := by decide +kernel
theorem dX11_kinds_37 : decode cX11_kinds 37 = .ok (.aload_n 0, 1) := by decide +kernel
theorem dX11_kinds_38 : decode cX11_kinds 38 = .ok (.getfield 7, 3) := by decide +kernel
theorem dX11_kinds_41 : decode cX11_kinds 41 = .ok (.bipush 11, 2) := by decide +kernel
theorem dX11_kinds_43 : decode cX11_kinds 43 = .ok (.iload_n 1, 1) := by decide +kernel
theorem dX11_kinds_44 : decode cX11_kinds 44 = .ok (.iadd, 1) := by decide +kernel
theorem dX11_kinds_45 : decode cX11_kinds 45 = .ok (.iaload, 1) := by decide +kernel
theorem dX11_kinds_46 : decode cX11_kinds 46 = .ok (.istore_n 3, 1) := by decide +kernel
theorem dX11_kinds_47 : decode cX11_kinds 47 = .ok (.aload_n 0, 1) := by decide +kernel
theorem dX11_kinds_48 : decode cX11_kinds 48 = .ok (.getfield 7, 3) := by decide +kernel
theorem dX11_kinds_51 : decode cX11_kinds 51 = .ok (.bipush 11, 2) := by decide +kernel
theorem dX11_kinds_53 : decode cX11_kinds 53 = .ok (.iload_n 1, 1) := by decide +kernel
theorem dX11_kinds_54 : decode cX11_kinds 54 = .ok (.iadd, 1) := by decide +kernel
theorem dX11_kinds_55 : decode cX11_kinds 55 = .ok (.iload_n 2, 1) := by decide +kernel
theorem dX11_kinds_56 : decode cX11_kinds 56 = .ok (.iastore, 1) := by decide +kernel
theorem dX11_kinds_57 : decode cX11_kinds 57 = .ok (.iload_n 3, 1) := by decide +kernel
theorem dX11_kinds_58 : decode cX11_kinds 58 = .ok (.ireturn, 1) := by decide +kernel
theorem dX11_walls_0 : decode cX11_walls 0 = .ok (.iload_n 1, 1) := by decide +kernel
theorem dX11_walls_1 : decode cX11_walls 1 = .ok (.invokestatic 156, 3) := by decide +kernel
theorem dX11_walls_4 : decode cX11_walls 4 = .ok (.ifCond .eq 12, 3) := by decide +kernel
theorem dX11_walls_7 : decode cX11_walls 7 = .ok (.iload_n 2, 1) := by decide +kernel
theorem dX11_walls_8 : decode cX11_walls 8 = .ok (.iconst 0, 1) := by decide +kernel
theorem dX11_walls_9 : decode cX11_walls 9 = .ok (.iconst 3, 1) := by decide +kernel
theorem dX11_walls_10 : decode cX11_walls 10 = .ok (.invokestatic 44, 3) := by decide +kernel
theorem dX11_walls_13 : decode cX11_walls 13 = .ok (.ifCond .ne 6, 3) := by decide +kernel
theorem dX11_walls_16 : decode cX11_walls 16 = .ok (.ldc 48, 2) := by decide +kernel
theorem dX11_walls_18 : decode cX11_walls 18 = .ok (.ireturn, 1) := by decide +kernel
theorem dX11_walls_19 : decode cX11_walls 19 = .ok (.aload_n 0, 1) := by decide +kernel
theorem dX11_walls_20 : decode cX11_walls 20 = .ok (.getfield 7, 3) := by decide +kernel
theorem dX11_walls_23 : decode cX11_walls 23 = .ok (.bipush 75, 2) := by decide +kernel
theorem dX11_walls_25 : decode cX11_walls 25 = .ok (.iload_n 1, 1) := by decide +kernel
theorem dX11_walls_26 : decode cX11_walls 26 = .ok (.iadd, 1) := by decide +kernel
theorem dX11_walls_27 : decode cX11_walls 27 = .ok (.dup2, 1) := by decide +kernel
theorem dX11_walls_28 : decode cX11_walls 28 = .ok (.iaload, 1) := by decide +kernel
theorem dX11_walls_29 : decode cX11_walls 29 = .ok (.iconst 1, 1) := by decide +kernel
theorem dX11_walls_30 : decode cX11_walls 30 = .ok (.iload_n 2, 1) := by decide +kernel
theorem dX11_walls_31 : decode cX11_walls 31 = .ok (.ishl, 1) := by decide +kernel
theorem dX11_walls_32 : decode cX11_walls 32 = .ok (.ixor, 1) := by decide +kernel
theorem dX11_walls_33 : decode cX11_walls 33 = .ok (.iastore, 1) := by decide +kernel
theorem dX11_walls_34 : decode cX11_walls 34 = .ok (.iload_n 1, 1) := by decide +kernel
theorem dX11_walls_35 : decode cX11_walls 35 = .ok (.iload_n 2, 1) := by decide +kernel
theorem dX11_walls_36 : decode cX11_walls 36 = .ok (.invokestatic 76, 3) := by decide +kernel
theorem dX11_walls_39 : decode cX11_walls 39 = .ok (.istore_n 3, 1) := by decide +kernel
theorem dX11_walls_40 : decode cX11_walls 40 = .ok (.iload_n 3, 1) := by decide +kernel
theorem dX11_walls_41 : decode cX11_walls 41 = .ok (.ifCond .lt 22, 3) := by decide +kernel
theorem dX11_walls_44 : decode cX11_walls 44 = .ok (.aload_n 0, 1) := by decide +kernel
theorem dX11_walls_45 : decode cX11_walls 45 = .ok (.getfield 7, 3) := by decide +kernel
theorem dX11_walls_48 : decode cX11_walls 48 = .ok (.bipush 75, 2) := by decide +kernel
theorem dX11_walls_50 : decode cX11_walls 50 = .ok (.iload_n 3, 1) := by decide +kernel
theorem dX11_walls_51 : decode cX11_walls 51 = .ok (.iadd, 1) := by decide +kernel
theorem dX11_walls_52 : decode cX11_walls 52 = .ok (.dup2, 1) := by decide +kernel
theorem dX11_walls_53 : decode cX11_walls 53 = .ok (.iaload, 1) := by decide +kernel
theorem dX11_walls_54 : decode cX11_walls 54 = .ok (.iconst 1, 1) := by decide +kernel
theorem dX11_walls_55 : decode cX11_walls 55 = .ok (.iload_n 2, 1) := by decide +kernel
theorem dX11_walls_56 : decode cX11_walls 56 = .ok (.iconst 2, 1) := by decide +kernel
theorem dX11_walls_57 : decode cX11_walls 57 = .ok (.iadd, 1) := by decide +kernel
theorem dX11_walls_58 : decode cX11_walls 58 = .ok (.iconst 4, 1) := by decide +kernel
theorem dX11_walls_59 : decode cX11_walls 59 = .ok (.irem, 1) := by decide +kernel
theorem dX11_walls_60 : decode cX11_walls 60 = .ok (.ishl, 1) := by decide +kernel
theorem dX11_walls_61 : decode cX11_walls 61 = .ok (.ixor, 1) := by decide +kernel
theorem dX11_walls_62 : decode cX11_walls 62 = .ok (.iastore, 1) := by decide +kernel
theorem dX11_walls_63 : decode cX11_walls 63 = .ok (.aload_n 0, 1) := by decide +kernel
theorem dX11_walls_64 : decode cX11_walls 64 = .ok (.getfield 7, 3) := by decide +kernel
theorem dX11_walls_67 : decode cX11_walls 67 = .ok (.bipush 75, 2) := by decide +kernel
theorem dX11_walls_69 : decode cX11_walls 69 = .ok (.iload_n 1, 1) := by decide +kernel
theorem dX11_walls_70 : decode cX11_walls 70 = .ok (.iadd, 1) := by decide +kernel
theorem dX11_walls_71 : decode cX11_walls 71 = .ok (.iaload, 1) := by decide +kernel
theorem dX11_walls_72 : decode cX11_walls 72 = .ok (.iload_n 2, 1) := by decide +kernel
theorem dX11_walls_73 : decode cX11_walls 73 = .ok (.ishr, 1) := by decide +kernel
theorem dX11_walls_74 : decode cX11_walls 74 = .ok (.iconst 1, 1) := by decide +kernel
theorem dX11_walls_75 : decode cX11_walls 75 = .ok (.iand, 1) := by decide +kernel
theorem dX11_walls_76 : decode cX11_walls 76 = .ok (.ireturn, 1) := by decide +kernel
theorem dX11_comes_0 : decode cX11_comes 0 = .ok (.iload_n 1, 1) := by decide +kernel
theorem dX11_comes_1 : decode cX11_comes 1 = .ok (.invokestatic 156, 3) := by decide +kernel
theorem dX11_comes_4 : decode cX11_comes 4 = .ok (.ifCond .eq 12, 3) := by decide +kernel
theorem dX11_comes_7 : decode cX11_comes 7 = .ok (.iload_n 2, 1) := by decide +kernel
theorem dX11_comes_8 : decode cX11_comes 8 = .ok (.iconst 0, 1) := by decide +kernel
theorem dX11_comes_9 : decode cX11_comes 9 = .ok (.iconst 3, 1) := by decide +kernel
theorem dX11_comes_10 : decode cX11_comes 10 = .ok (.invokestatic 44, 3) := by decide +kernel
theorem dX11_comes_13 : decode cX11_comes 13 = .ok (.ifCond .ne 6, 3) := by decide +kernel
theorem dX11_comes_16 : decode cX11_comes 16 = .ok (.ldc 48, 2) := by decide +kernel
theorem dX11_comes_18 : decode cX11_comes 18 = .ok (.ireturn, 1) := by decide +kernel
theorem dX11_comes_19 : decode cX11_comes 19 = .ok (.aload_n 0, 1) := by decide +kernel
theorem dX11_comes_20 : decode cX11_comes 20 = .ok (.iload_n 1, 1) := by decide +kernel
theorem dX11_comes_21 : decode cX11_comes 21 = .ok (.invokevirtual 124, 3) := by decide +kernel
theorem dX11_comes_24 : decode cX11_comes 24 = .ok (.ifCond .ne 6, 3) := by decide +kernel
theorem dX11_comes_27 : decode cX11_comes 27 = .ok (.ldc 159, 2) := by decide +kernel
theorem dX11_comes_29 : decode cX11_comes 29 = .ok (.ireturn, 1) := by decide +kernel
theorem dX11_comes_30 : decode cX11_comes 30 = .ok (.aload_n 0, 1) := by decide +kernel
theorem dX11_comes_31 : decode cX11_comes 31 = .ok (.getfield 7, 3) := by decide +kernel
theorem dX11_comes_34 : decode cX11_comes 34 = .ok (.iconst 0, 1) := by decide +kernel
theorem dX11_comes_35 : decode cX11_comes 35 = .ok (.iaload, 1) := by decide +kernel
theorem dX11_comes_36 : decode cX11_comes 36 = .ok (.iconst 4, 1) := by decide +kernel
theorem dX11_comes_37 : decode cX11_comes 37 = .ok (.if_icmp .ne 6, 3) := by decide +kernel
theorem dX11_comes_40 : decode cX11_comes 40 = .ok (.ldc 160, 2) := by decide +kernel
theorem dX11_comes_42 : decode cX11_comes 42 = .ok (.ireturn, 1) := by decide +kernel
theorem dX11_comes_43 : decode cX11_comes 43 = .ok (.aload_n 0, 1) := by decide +kernel
theorem dX11_comes_44 : decode cX11_comes 44 = .ok (.getfield 7, 3) := by decide +kernel
theorem dX11_comes_47 : decode cX11_comes 47 = .ok (.iconst 0, 1) := by decide +kernel
theorem dX11_comes_48 : decode cX11_comes 48 = .ok (.iaload, 1) := by decide +kernel
theorem dX11_comes_49 : decode cX11_comes 49 = .ok (.istore_n 3, 1) := by decide +kernel
theorem dX11_comes_50 : decode cX11_comes 50 = .ok (.aload_n 0, 1) := by decide +kernel
theorem dX11_comes_51 : decode cX11_comes 51 = .ok (.getfield 7, 3) := by decide +kernel
theorem dX11_comes_54 : decode cX11_comes 54 = .ok (.iconst 0, 1) := by decide +kernel
theorem dX11_comes_55 : decode cX11_comes 55 = .ok (.dup2, 1) := by decide +kernel
theorem dX11_comes_56 : decode cX11_comes 56 = .ok (.iaload, 1) := by decide +kernel
theorem dX11_comes_57 : decode cX11_comes 57 = .ok (.iconst 1, 1) := by decide +kernel
theorem dX11_comes_58 : decode cX11_comes 58 = .ok (.iadd, 1) := by decide +kernel
theorem dX11_comes_59 : decode cX11_comes 59 = .ok (.iastore, 1) := by decide +kernel
theorem dX11_comes_60 : decode cX11_comes 60 = .ok (.iconst 0, 1) := by decide +kernel
theorem dX11_comes_61 : decode cX11_comes 61 = .ok (.istore 4, 2) := by decide +kernel
theorem dX11_comes_63 : decode cX11_comes 63 = .ok (.iload 4, 2) := by decide +kernel
theorem dX11_comes_65 : decode cX11_comes 65 = .ok (.bipush 17, 2) := by decide +kernel
theorem dX11_comes_67 : decode cX11_comes 67 = .ok (.if_icmp .ge 17, 3) := by decide +kernel
theorem dX11_comes_70 : decode cX11_comes 70 = .ok (.aload_n 0, 1) := by decide +kernel
theorem dX11_comes_71 : decode cX11_comes 71 = .ok (.iload_n 3, 1) := by decide +kernel
theorem dX11_comes_72 : decode cX11_comes 72 = .ok (.iload 4, 2) := by decide +kernel
theorem dX11_comes_74 : decode cX11_comes 74 = .ok (.iconst 0, 1) := by decide +kernel
theorem dX11_comes_75 : decode cX11_comes 75 = .ok (.invokevirtual 60, 3) := by decide +kernel
theorem dX11_comes_78 : decode cX11_comes 78 = .ok (.iinc 4 1, 3) := by decide +kernel
theorem dX11_comes_81 : decode cX11_comes 81 = .ok (.goto (-18), 3) := by decide +kernel
theorem dX11_comes_84 : decode cX11_comes 84 = .ok (.aload_n 0, 1) := by decide +kernel
theorem dX11_comes_85 : decode cX11_comes 85 = .ok (.iload_n 3, 1) := by decide +kernel
theorem dX11_comes_86 : decode cX11_comes 86 = .ok (.iconst 0, 1) := by decide +kernel
theorem dX11_comes_87 : decode cX11_comes 87 = .ok (.iload_n 1, 1) := by decide +kernel
theorem dX11_comes_88 : decode cX11_comes 88 = .ok (.invokevirtual 60, 3) := by decide +kernel
theorem dX11_comes_91 : decode cX11_comes 91 = .ok (.aload_n 0, 1) := by decide +kernel
theorem dX11_comes_92 : decode cX11_comes 92 = .ok (.iload_n 3, 1) := by decide +kernel
theorem dX11_comes_93 : decode cX11_comes 93 = .ok (.iconst 1, 1) := by decide +kernel
theorem dX11_comes_94 : decode cX11_comes 94 = .ok (.iload_n 1, 1) := by decide +kernel
theorem dX11_comes_95 : decode cX11_comes 95 = .ok (.invokevirtual 60, 3) := by decide +kernel
theorem dX11_comes_98 : decode cX11_comes 98 = .ok (.aload_n 0, 1) := by decide +kernel
theorem dX11_comes_99 : decode cX11_comes 99 = .ok (.iload_n 3, 1) := by decide +kernel
theorem dX11_comes_100 : decode cX11_comes 100 = .ok (.iconst 2, 1) := by decide +kernel
theorem dX11_comes_101 : decode cX11_comes 101 = .ok (.iload_n 2, 1) := by decide +kernel
theorem dX11_comes_102 : decode cX11_comes 102 = .ok (.invokevirtual 60, 3) := by decide +kernel
theorem dX11_comes_105 : decode cX11_comes 105 = .ok (.iload_n 3, 1) := by decide +kernel
theorem dX11_comes_106 : decode cX11_comes 106 = .ok (.ireturn, 1) := by decide +kernel
theorem dX11_withCards_0 : decode cX11_withCards 0 = .ok (.iconst 0, 1) := by decide +kernel
theorem dX11_withCards_1 : decode cX11_withCards 1 = .ok (.istore_n 2, 1) := by decide +kernel
theorem dX11_withCards_2 : decode cX11_withCards 2 = .ok (.iconst 0, 1) := by decide +kernel
theorem dX11_withCards_3 : decode cX11_withCards 3 = .ok (.istore_n 3, 1) := by decide +kernel
theorem dX11_withCards_4 : decode cX11_withCards 4 = .ok (.iload_n 3, 1) := by decide +kernel
theorem dX11_withCards_5 : decode cX11_withCards 5 = .ok (.iconst 5, 1) := by decide +kernel
theorem dX11_withCards_6 : decode cX11_withCards 6 = .ok (.if_icmp .ge 28, 3) := by decide +kernel
theorem dX11_withCards_9 : decode cX11_withCards 9 = .ok (.iload_n 2, 1) := by decide +kernel
theorem dX11_withCards_10 : decode cX11_withCards 10 = .ok (.aload_n 0, 1) := by decide +kernel
theorem dX11_withCards_11 : decode cX11_withCards 11 = .ok (.iload_n 1, 1) := by decide +kernel
theorem dX11_withCards_12 : decode cX11_withCards 12 = .ok (.iload_n 3, 1) := by decide +kernel
theorem dX11_withCards_13 : decode cX11_withCards 13 = .ok (.invokevirtual 102, 3) := by decide +kernel
theorem dX11_withCards_16 : decode cX11_withCards 16 = .ok (.ifCond .le 9, 3) := by decide +kernel
theorem dX11_withCards_19 : decode cX11_withCards 19 = .ok (.iconst 1, 1) := by decide +kernel
theorem dX11_withCards_20 : decode cX11_withCards 20 = .ok (.iload_n 3, 1) := by decide +kernel
theorem dX11_withCards_21 : decode cX11_withCards 21 = .ok (.ishl, 1) := by decide +kernel
theorem dX11_withCards_22 : decode cX11_withCards 22 = .ok (.goto 4, 3) := by decide +kernel
theorem dX11_withCards_25 : decode cX11_withCards 25 = .ok (.iconst 0, 1) := by decide +kernel
theorem dX11_withCards_26 : decode cX11_withCards 26 = .ok (.ior, 1) := by decide +kernel
theorem dX11_withCards_27 : decode cX11_withCards 27 = .ok (.istore_n 2, 1) := by decide +kernel
theorem dX11_withCards_28 : decode cX11_withCards 28 = .ok (.iinc 3 1, 3) := by decide +kernel
theorem dX11_withCards_31 : decode cX11_withCards 31 = .ok (.goto (-27), 3) := by decide +kernel
theorem dX11_withCards_34 : decode cX11_withCards 34 = .ok (.iload_n 2, 1) := by decide +kernel
theorem dX11_withCards_35 : decode cX11_withCards 35 = .ok (.ireturn, 1) := by decide +kernel
theorem dX11_locked_0 : decode cX11_locked 0 = .ok (.iconst 0, 1) := by decide +kernel
theorem dX11_locked_1 : decode cX11_locked 1 = .ok (.istore_n 2, 1) := by decide +kernel
theorem dX11_locked_2 : decode cX11_locked 2 = .ok (.iconst 0, 1) := by decide +kernel
theorem dX11_locked_3 : decode cX11_locked 3 = .ok (.istore_n 3, 1) := by decide +kernel
theorem dX11_locked_4 : decode cX11_locked 4 = .ok (.iload_n 3, 1) := by decide +kernel
theorem dX11_locked_5 : decode cX11_locked 5 = .ok (.iconst 5, 1) := by decide +kernel
theorem dX11_locked_6 : decode cX11_locked 6 = .ok (.if_icmp .ge 28, 3) := by decide +kernel
theorem dX11_locked_9 : decode cX11_locked 9 = .ok (.iload_n 2, 1) := by decide +kernel
theorem dX11_locked_10 : decode cX11_locked 10 = .ok (.aload_n 0, 1) := by decide +kernel
theorem dX11_locked_11 : decode cX11_locked 11 = .ok (.iload_n 1, 1) := by decide +kernel
theorem dX11_locked_12 : decode cX11_locked 12 = .ok (.iload_n 3, 1) := by decide +kernel
theorem dX11_locked_13 : decode cX11_locked 13 = .ok (.invokevirtual 121, 3) := by decide +kernel
theorem dX11_locked_16 : decode cX11_locked 16 = .ok (.ifCond .eq 9, 3) := by decide +kernel
theorem dX11_locked_19 : decode cX11_locked 19 = .ok (.iconst 1, 1) := by decide +kernel
theorem dX11_locked_20 : decode cX11_locked 20 = .ok (.iload_n 3, 1) := by decide +kernel
theorem dX11_locked_21 : decode cX11_locked 21 = .ok (.ishl, 1) := by decide +kernel
theorem dX11_locked_22 : decode cX11_locked 22 = .ok (.goto 4, 3) := by decide +kernel
theorem dX11_locked_25 : decode cX11_locked 25 = .ok (.iconst 0, 1) := by decide +kernel
theorem dX11_locked_26 : decode cX11_locked 26 = .ok (.ior, 1) := by decide +kernel
theorem dX11_locked_27 : decode cX11_locked 27 = .ok (.istore_n 2, 1) := by decide +kernel
theorem dX11_locked_28 : decode cX11_locked 28 = .ok (.iinc 3 1, 3) := by decide +kernel
theorem dX11_locked_31 : decode cX11_locked 31 = .ok (.goto (-27), 3) := by decide +kernel
theorem dX11_locked_34 : decode cX11_locked 34 = .ok (.iload_n 2, 1) := by decide +kernel
theorem dX11_locked_35 : decode cX11_locked 35 = .ok (.ireturn, 1) := by decide +kernel
theorem dX11_ones_0 : decode cX11_ones 0 = .ok (.iconst 0, 1) := by decide +kernel
theorem dX11_ones_1 : decode cX11_ones 1 = .ok (.istore_n 1, 1) := by decide +kernel
theorem dX11_ones_2 : decode cX11_ones 2 = .ok (.iconst 0, 1) := by decide +kernel
theorem dX11_ones_3 : decode cX11_ones 3 = .ok (.istore_n 2, 1) := by decide +kernel
theorem dX11_ones_4 : decode cX11_ones 4 = .ok (.iload_n 2, 1) := by decide +kernel
theorem dX11_ones_5 : decode cX11_ones 5 = .ok (.iconst 5, 1) := by decide +kernel
theorem dX11_ones_6 : decode cX11_ones 6 = .ok (.if_icmp .ge 17, 3) := by decide +kernel
theorem dX11_ones_9 : decode cX11_ones 9 = .ok (.iload_n 1, 1) := by decide +kernel
theorem dX11_ones_10 : decode cX11_ones 10 = .ok (.iload_n 0, 1) := by decide +kernel
theorem dX11_ones_11 : decode cX11_ones 11 = .ok (.iload_n 2, 1) := by decide +kernel
theorem dX11_ones_12 : decode cX11_ones 12 = .ok (.ishr, 1) := by decide +kernel
theorem dX11_ones_13 : decode cX11_ones 13 = .ok (.iconst 1, 1) := by decide +kernel
theorem dX11_ones_14 : decode cX11_ones 14 = .ok (.iand, 1) := by decide +kernel
theorem dX11_ones_15 : decode cX11_ones 15 = .ok (.iadd, 1) := by decide +kernel
theorem dX11_ones_16 : decode cX11_ones 16 = .ok (.istore_n 1, 1) := by decide +kernel
theorem dX11_ones_17 : decode cX11_ones 17 = .ok (.iinc 2 1, 3) := by decide +kernel
theorem dX11_ones_20 : decode cX11_ones 20 = .ok (.goto (-16), 3) := by decide +kernel
theorem dX11_ones_23 : decode cX11_ones 23 = .ok (.iload_n 1, 1) := by decide +kernel
theorem dX11_ones_24 : decode cX11_ones 24 = .ok (.ireturn, 1) := by decide +kernel
theorem dX11_cards_0 : decode cX11_cards 0 = .ok (.aload_n 0, 1) := by decide +kernel
theorem dX11_cards_1 : decode cX11_cards 1 = .ok (.iload_n 1, 1) := by decide +kernel
theorem dX11_cards_2 : decode cX11_cards 2 = .ok (.invokevirtual 161, 3) := by decide +kernel
theorem dX11_cards_5 : decode cX11_cards 5 = .ok (.ifCond .eq 34, 3) := by decide +kernel
theorem dX11_cards_8 : decode cX11_cards 8 = .ok (.iload_n 2, 1) := by decide +kernel
theorem dX11_cards_9 : decode cX11_cards 9 = .ok (.iconst 0, 1) := by decide +kernel
theorem dX11_cards_10 : decode cX11_cards 10 = .ok (.iconst 4, 1) := by decide +kernel
theorem dX11_cards_11 : decode cX11_cards 11 = .ok (.invokestatic 44, 3) := by decide +kernel
theorem dX11_cards_14 : decode cX11_cards 14 = .ok (.ifCond .eq 25, 3) := by decide +kernel
theorem dX11_cards_17 : decode cX11_cards 17 = .ok (.iload_n 3, 1) := by decide +kernel
theorem dX11_cards_18 : decode cX11_cards 18 = .ok (.iconst 0, 1) := by decide +kernel
theorem dX11_cards_19 : decode cX11_cards 19 = .ok (.bipush 6, 2) := by decide +kernel
theorem dX11_cards_21 : decode cX11_cards 21 = .ok (.invokestatic 44, 3) := by decide +kernel
theorem dX11_cards_24 : decode cX11_cards 24 = .ok (.ifCond .eq 15, 3) := by decide +kernel
theorem dX11_cards_27 : decode cX11_cards 27 = .ok (.iload 4, 2) := by decide +kernel
theorem dX11_cards_29 : decode cX11_cards 29 = .ok (.iconst 1, 1) := by decide +kernel
theorem dX11_cards_30 : decode cX11_cards 30 = .ok (.sipush 999, 3) := by decide +kernel
theorem dX11_cards_33 : decode cX11_cards 33 = .ok (.invokestatic 44, 3) := by decide +kernel
theorem dX11_cards_36 : decode cX11_cards 36 = .ok (.ifCond .ne 6, 3) := by decide +kernel
theorem dX11_cards_39 : decode cX11_cards 39 = .ok (.ldc 48, 2) := by decide +kernel
theorem dX11_cards_41 : decode cX11_cards 41 = .ok (.ireturn, 1) := by decide +kernel
theorem dX11_cards_42 : decode cX11_cards 42 = .ok (.aload_n 0, 1) := by decide +kernel
theorem dX11_cards_43 : decode cX11_cards 43 = .ok (.iload_n 1, 1) := by decide +kernel
theorem dX11_cards_44 : decode cX11_cards 44 = .ok (.invokevirtual 86, 3) := by decide +kernel
theorem dX11_cards_47 : decode cX11_cards 47 = .ok (.ifCond .ne 22, 3) := by decide +kernel
theorem dX11_cards_50 : decode cX11_cards 50 = .ok (.aload_n 0, 1) := by decide +kernel
theorem dX11_cards_51 : decode cX11_cards 51 = .ok (.iload_n 1, 1) := by decide +kernel
theorem dX11_cards_52 : decode cX11_cards 52 = .ok (.iload_n 2, 1) := by decide +kernel
theorem dX11_cards_53 : decode cX11_cards 53 = .ok (.invokevirtual 121, 3) := by decide +kernel
theorem dX11_cards_56 : decode cX11_cards 56 = .ok (.ifCond .ne 13, 3) := by decide +kernel
theorem dX11_cards_59 : decode cX11_cards 59 = .ok (.iload_n 2, 1) := by decide +kernel
theorem dX11_cards_60 : decode cX11_cards 60 = .ok (.aload_n 0, 1) := by decide +kernel
theorem dX11_cards_61 : decode cX11_cards 61 = .ok (.getfield 7, 3) := by decide +kernel
theorem dX11_cards_64 : decode cX11_cards 64 = .ok (.iconst 1, 1) := by decide +kernel
theorem dX11_cards_65 : decode cX11_cards 65 = .ok (.iaload, 1) := by decide +kernel
theorem dX11_cards_66 : decode cX11_cards 66 = .ok (.if_icmp .ge 6, 3) := by decide +kernel
theorem dX11_cards_69 : decode cX11_cards 69 = .ok (.ldc 159, 2) := by decide +kernel
theorem dX11_cards_71 : decode cX11_cards 71 = .ok (.ireturn, 1) := by decide +kernel
theorem dX11_cards_72 : decode cX11_cards 72 = .ok (.aload_n 0, 1) := by decide +kernel
theorem dX11_cards_73 : decode cX11_cards 73 = .ok (.iload_n 1, 1) := by decide +kernel
theorem dX11_cards_74 : decode cX11_cards 74 = .ok (.bipush 7, 2) := by decide +kernel
theorem dX11_cards_76 : decode cX11_cards 76 = .ok (.iconst 2, 1) := by decide +kernel
theorem dX11_cards_77 : decode cX11_cards 77 = .ok (.iload_n 2, 1) := by decide +kernel
theorem dX11_cards_78 : decode cX11_cards 78 = .ok (.imul, 1) := by decide +kernel
theorem dX11_cards_79 : decode cX11_cards 79 = .ok (.iadd, 1) := by decide +kernel
theorem dX11_cards_80 : decode cX11_cards 80 = .ok (.iload_n 3, 1) := by decide +kernel
theorem dX11_cards_81 : decode cX11_cards 81 = .ok (.invokevirtual 60, 3) := by decide +kernel
theorem dX11_cards_84 : decode cX11_cards 84 = .ok (.aload_n 0, 1) := by decide +kernel
theorem dX11_cards_85 : decode cX11_cards 85 = .ok (.iload_n 1, 1) := by decide +kernel
theorem dX11_cards_86 : decode cX11_cards 86 = .ok (.bipush 7, 2) := by decide +kernel
theorem dX11_cards_88 : decode cX11_cards 88 = .ok (.iconst 2, 1) := by decide +kernel
theorem dX11_cards_89 : decode cX11_cards 89 = .ok (.iload_n 2, 1) := by decide +kernel
theorem dX11_cards_90 : decode cX11_cards 90 = .ok (.imul, 1) := by decide +kernel
theorem dX11_cards_91 : decode cX11_cards 91 = .ok (.iadd, 1) := by decide +kernel
theorem dX11_cards_92 : decode cX11_cards 92 = .ok (.iconst 1, 1) := by decide +kernel
theorem dX11_cards_93 : decode cX11_cards 93 = .ok (.iadd, 1) := by decide +kernel
theorem dX11_cards_94 : decode cX11_cards 94 = .ok (.iload 4, 2) := by decide +kernel
theorem dX11_cards_96 : decode cX11_cards 96 = .ok (.invokevirtual 60, 3) := by decide +kernel
theorem dX11_cards_99 : decode cX11_cards 99 = .ok (.aload_n 0, 1) := by decide +kernel
theorem dX11_cards_100 : decode cX11_cards 100 = .ok (.iload_n 1, 1) := by decide +kernel
theorem dX11_cards_101 : decode cX11_cards 101 = .ok (.invokevirtual 164, 3) := by decide +kernel
theorem dX11_cards_104 : decode cX11_cards 104 = .ok (.invokestatic 167, 3) := by decide +kernel
theorem dX11_cards_107 : decode cX11_cards 107 = .ok (.ireturn, 1) := by decide +kernel
theorem dX11_phases_0 : decode cX11_phases 0 = .ok (.aload_n 0, 1) := by decide +kernel
theorem dX11_phases_1 : decode cX11_phases 1 = .ok (.getfield 7, 3) := by decide +kernel
theorem dX11_phases_4 : decode cX11_phases 4 = .ok (.iconst 0, 1) := by decide +kernel
theorem dX11_phases_5 : decode cX11_phases 5 = .ok (.iaload, 1) := by decide +kernel
theorem dX11_phases_6 : decode cX11_phases 6 = .ok (.ifCond .ne 8, 3) := by decide +kernel
theorem dX11_phases_9 : decode cX11_phases 9 = .ok (.ldc 159, 2) := by decide +kernel
theorem dX11_phases_11 : decode cX11_phases 11 = .ok (.goto 7, 3) := by decide +kernel
theorem dX11_phases_14 : decode cX11_phases 14 = .ok (.aload_n 0, 1) := by decide +kernel
theorem dX11_phases_15 : decode cX11_phases 15 = .ok (.invokevirtual 170, 3) := by decide +kernel
theorem dX11_phases_18 : decode cX11_phases 18 = .ok (.ireturn, 1) := by decide +kernel
theorem dX11_kind_0 : decode cX11_kind 0 = .ok (.aload_n 0, 1) := by decide +kernel
theorem dX11_kind_1 : decode cX11_kind 1 = .ok (.invokevirtual 173, 3) := by decide +kernel
theorem dX11_kind_4 : decode cX11_kind 4 = .ok (.aload_n 0, 1) := by decide +kernel
theorem dX11_kind_5 : decode cX11_kind 5 = .ok (.aload_n 0, 1) := by decide +kernel
theorem dX11_kind_6 : decode cX11_kind 6 = .ok (.iload_n 1, 1) := by decide +kernel
theorem dX11_kind_7 : decode cX11_kind 7 = .ok (.iload_n 2, 1) := by decide +kernel
theorem dX11_kind_8 : decode cX11_kind 8 = .ok (.invokevirtual 176, 3) := by decide +kernel
theorem dX11_kind_11 : decode cX11_kind 11 = .ok (.invokevirtual 179, 3) := by decide +kernel
theorem dX11_kind_14 : decode cX11_kind 14 = .ok (.ireturn, 1) := by decide +kernel
theorem dX11_wall_0 : decode cX11_wall 0 = .ok (.aload_n 0, 1) := by decide +kernel
theorem dX11_wall_1 : decode cX11_wall 1 = .ok (.invokevirtual 173, 3) := by decide +kernel
theorem dX11_wall_4 : decode cX11_wall 4 = .ok (.aload_n 0, 1) := by decide +kernel
theorem dX11_wall_5 : decode cX11_wall 5 = .ok (.aload_n 0, 1) := by decide +kernel
theorem dX11_wall_6 : decode cX11_wall 6 = .ok (.iload_n 1, 1) := by decide +kernel
theorem dX11_wall_7 : decode cX11_wall 7 = .ok (.iload_n 2, 1) := by decide +kernel
theorem dX11_wall_8 : decode cX11_wall 8 = .ok (.invokevirtual 182, 3) := by decide +kernel
theorem dX11_wall_11 : decode cX11_wall 11 = .ok (.invokevirtual 179, 3) := by decide +kernel
theorem dX11_wall_14 : decode cX11_wall 14 = .ok (.ireturn, 1) := by decide +kernel
theorem dX11_flag_0 : decode cX11_flag 0 = .ok (.aload_n 0, 1) := by decide +kernel
theorem dX11_flag_1 : decode cX11_flag 1 = .ok (.invokevirtual 173, 3) := by decide +kernel
theorem dX11_flag_4 : decode cX11_flag 4 = .ok (.iload_n 1, 1) := by decide +kernel
theorem dX11_flag_5 : decode cX11_flag 5 = .ok (.iconst 0, 1) := by decide +kernel
theorem dX11_flag_6 : decode cX11_flag 6 = .ok (.iconst 3, 1) := by decide +kernel
theorem dX11_flag_7 : decode cX11_flag 7 = .ok (.invokestatic 44, 3) := by decide +kernel
theorem dX11_flag_10 : decode cX11_flag 10 = .ok (.ifCond .eq 10, 3) := by decide +kernel
theorem dX11_flag_13 : decode cX11_flag 13 = .ok (.iload_n 2, 1) := by decide +kernel
theorem dX11_flag_14 : decode cX11_flag 14 = .ok (.invokestatic 156, 3) := by decide +kernel
theorem dX11_flag_17 : decode cX11_flag 17 = .ok (.ifCond .ne 6, 3) := by decide +kernel
theorem dX11_flag_20 : decode cX11_flag 20 = .ok (.ldc 48, 2) := by decide +kernel
theorem dX11_flag_22 : decode cX11_flag 22 = .ok (.ireturn, 1) := by decide +kernel
theorem dX11_flag_23 : decode cX11_flag 23 = .ok (.iload_n 1, 1) := by decide +kernel
theorem dX11_flag_24 : decode cX11_flag 24 = .ok (.aload_n 0, 1) := by decide +kernel
theorem dX11_flag_25 : decode cX11_flag 25 = .ok (.getfield 7, 3) := by decide +kernel
theorem dX11_flag_28 : decode cX11_flag 28 = .ok (.iconst 3, 1) := by decide +kernel
theorem dX11_flag_29 : decode cX11_flag 29 = .ok (.iaload, 1) := by decide +kernel
theorem dX11_flag_30 : decode cX11_flag 30 = .ok (.if_icmp .le 6, 3) := by decide +kernel
theorem dX11_flag_33 : decode cX11_flag 33 = .ok (.ldc 159, 2) := by decide +kernel
theorem dX11_flag_35 : decode cX11_flag 35 = .ok (.ireturn, 1) := by decide +kernel
theorem dX11_flag_36 : decode cX11_flag 36 = .ok (.aload_n 0, 1) := by decide +kernel
theorem dX11_flag_37 : decode cX11_flag 37 = .ok (.getfield 7, 3) := by decide +kernel
theorem dX11_flag_40 : decode cX11_flag 40 = .ok (.iconst 3, 1) := by decide +kernel
theorem dX11_flag_41 : decode cX11_flag 41 = .ok (.iload_n 1, 1) := by decide +kernel
theorem dX11_flag_42 : decode cX11_flag 42 = .ok (.aload_n 0, 1) := by decide +kernel
theorem dX11_flag_43 : decode cX11_flag 43 = .ok (.getfield 7, 3) := by decide +kernel
theorem dX11_flag_46 : decode cX11_flag 46 = .ok (.iconst 3, 1) := by decide +kernel
theorem dX11_flag_47 : decode cX11_flag 47 = .ok (.iaload, 1) := by decide +kernel
theorem dX11_flag_48 : decode cX11_flag 48 = .ok (.if_icmp .ne 14, 3) := by decide +kernel
theorem dX11_flag_51 : decode cX11_flag 51 = .ok (.aload_n 0, 1) := by decide +kernel
theorem dX11_flag_52 : decode cX11_flag 52 = .ok (.getfield 7, 3) := by decide +kernel
theorem dX11_flag_55 : decode cX11_flag 55 = .ok (.iconst 3, 1) := by decide +kernel
theorem dX11_flag_56 : decode cX11_flag 56 = .ok (.iaload, 1) := by decide +kernel
theorem dX11_flag_57 : decode cX11_flag 57 = .ok (.iconst 1, 1) := by decide +kernel
theorem dX11_flag_58 : decode cX11_flag 58 = .ok (.iadd, 1) := by decide +kernel
theorem dX11_flag_59 : decode cX11_flag 59 = .ok (.goto 9, 3) := by decide +kernel
theorem dX11_flag_62 : decode cX11_flag 62 = .ok (.aload_n 0, 1) := by decide +kernel
theorem dX11_flag_63 : decode cX11_flag 63 = .ok (.getfield 7, 3) := by decide +kernel
theorem dX11_flag_66 : decode cX11_flag 66 = .ok (.iconst 3, 1) := by decide +kernel
theorem dX11_flag_67 : decode cX11_flag 67 = .ok (.iaload, 1) := by decide +kernel
theorem dX11_flag_68 : decode cX11_flag 68 = .ok (.iastore, 1) := by decide +kernel
theorem dX11_flag_69 : decode cX11_flag 69 = .ok (.aload_n 0, 1) := by decide +kernel
theorem dX11_flag_70 : decode cX11_flag 70 = .ok (.getfield 7, 3) := by decide +kernel
theorem dX11_flag_73 : decode cX11_flag 73 = .ok (.bipush 7, 2) := by decide +kernel
theorem dX11_flag_75 : decode cX11_flag 75 = .ok (.iload_n 1, 1) := by decide +kernel
theorem dX11_flag_76 : decode cX11_flag 76 = .ok (.iadd, 1) := by decide +kernel
theorem dX11_flag_77 : decode cX11_flag 77 = .ok (.iload_n 2, 1) := by decide +kernel
theorem dX11_flag_78 : decode cX11_flag 78 = .ok (.iastore, 1) := by decide +kernel
theorem dX11_flag_79 : decode cX11_flag 79 = .ok (.aload_n 0, 1) := by decide +kernel
theorem dX11_flag_80 : decode cX11_flag 80 = .ok (.aload_n 0, 1) := by decide +kernel
theorem dX11_flag_81 : decode cX11_flag 81 = .ok (.getfield 7, 3) := by decide +kernel
theorem dX11_flag_84 : decode cX11_flag 84 = .ok (.iconst 3, 1) := by decide +kernel
theorem dX11_flag_85 : decode cX11_flag 85 = .ok (.iaload, 1) := by decide +kernel
theorem dX11_flag_86 : decode cX11_flag 86 = .ok (.invokevirtual 179, 3) := by decide +kernel
theorem dX11_flag_89 : decode cX11_flag 89 = .ok (.ireturn, 1) := by decide +kernel
theorem dX11_cart_0 : decode cX11_cart 0 = .ok (.aload_n 0, 1) := by decide +kernel
theorem dX11_cart_1 : decode cX11_cart 1 = .ok (.invokevirtual 173, 3) := by decide +kernel
theorem dX11_cart_4 : decode cX11_cart 4 = .ok (.aload_n 0, 1) := by decide +kernel
theorem dX11_cart_5 : decode cX11_cart 5 = .ok (.aload_n 0, 1) := by decide +kernel
theorem dX11_cart_6 : decode cX11_cart 6 = .ok (.iload_n 1, 1) := by decide +kernel
theorem dX11_cart_7 : decode cX11_cart 7 = .ok (.iload_n 2, 1) := by decide +kernel
theorem dX11_cart_8 : decode cX11_cart 8 = .ok (.invokevirtual 185, 3) := by decide +kernel
theorem dX11_cart_11 : decode cX11_cart 11 = .ok (.invokevirtual 179, 3) := by decide +kernel
theorem dX11_cart_14 : decode cX11_cart 14 = .ok (.ireturn, 1) := by decide +kernel
theorem dX11_card_0 : decode cX11_card 0 = .ok (.aload_n 0, 1) := by decide +kernel
theorem dX11_card_1 : decode cX11_card 1 = .ok (.invokevirtual 173, 3) := by decide +kernel
theorem dX11_card_4 : decode cX11_card 4 = .ok (.aload_n 0, 1) := by decide +kernel
theorem dX11_card_5 : decode cX11_card 5 = .ok (.aload_n 0, 1) := by decide +kernel
theorem dX11_card_6 : decode cX11_card 6 = .ok (.iload_n 1, 1) := by decide +kernel
theorem dX11_card_7 : decode cX11_card 7 = .ok (.iload_n 2, 1) := by decide +kernel
theorem dX11_card_8 : decode cX11_card 8 = .ok (.iload_n 3, 1) := by decide +kernel
theorem dX11_card_9 : decode cX11_card 9 = .ok (.iload 4, 2) := by decide +kernel
theorem dX11_card_11 : decode cX11_card 11 = .ok (.invokevirtual 188, 3) := by decide +kernel
theorem dX11_card_14 : decode cX11_card 14 = .ok (.invokevirtual 179, 3) := by decide +kernel
theorem dX11_card_17 : decode cX11_card 17 = .ok (.ireturn, 1) := by decide +kernel
theorem dX11_damage_0 : decode cX11_damage 0 = .ok (.aload_n 0, 1) := by decide +kernel
theorem dX11_damage_1 : decode cX11_damage 1 = .ok (.invokevirtual 173, 3) := by decide +kernel
theorem dX11_damage_4 : decode cX11_damage 4 = .ok (.aload_n 0, 1) := by decide +kernel
theorem dX11_damage_5 : decode cX11_damage 5 = .ok (.iload_n 1, 1) := by decide +kernel
theorem dX11_damage_6 : decode cX11_damage 6 = .ok (.invokevirtual 161, 3) := by decide +kernel
theorem dX11_damage_9 : decode cX11_damage 9 = .ok (.ifCond .eq 14, 3) := by decide +kernel
theorem dX11_damage_12 : decode cX11_damage 12 = .ok (.iload_n 2, 1) := by decide +kernel
theorem dX11_damage_13 : decode cX11_damage 13 = .ok (.bipush (-9), 2) := by decide +kernel
theorem dX11_damage_15 : decode cX11_damage 15 = .ok (.bipush 9, 2) := by decide +kernel
theorem dX11_damage_17 : decode cX11_damage 17 = .ok (.invokestatic 44, 3) := by decide +kernel
theorem dX11_damage_20 : decode cX11_damage 20 = .ok (.ifCond .ne 6, 3) := by decide +kernel
theorem dX11_damage_23 : decode cX11_damage 23 = .ok (.ldc 48, 2) := by decide +kernel
theorem dX11_damage_25 : decode cX11_damage 25 = .ok (.ireturn, 1) := by decide +kernel
theorem dX11_damage_26 : decode cX11_damage 26 = .ok (.aload_n 0, 1) := by decide +kernel
theorem dX11_damage_27 : decode cX11_damage 27 = .ok (.iload_n 1, 1) := by decide +kernel
theorem dX11_damage_28 : decode cX11_damage 28 = .ok (.invokevirtual 86, 3) := by decide +kernel
theorem dX11_damage_31 : decode cX11_damage 31 = .ok (.ifCond .eq 6, 3) := by decide +kernel
theorem dX11_damage_34 : decode cX11_damage 34 = .ok (.ldc 159, 2) := by decide +kernel
theorem dX11_damage_36 : decode cX11_damage 36 = .ok (.ireturn, 1) := by decide +kernel
theorem dX11_damage_37 : decode cX11_damage 37 = .ok (.aload_n 0, 1) := by decide +kernel
theorem dX11_damage_38 : decode cX11_damage 38 = .ok (.iload_n 1, 1) := by decide +kernel
theorem dX11_damage_39 : decode cX11_damage 39 = .ok (.iconst 3, 1) := by decide +kernel
theorem dX11_damage_40 : decode cX11_damage 40 = .ok (.invokevirtual 56, 3) := by decide +kernel
theorem dX11_damage_43 : decode cX11_damage 43 = .ok (.iload_n 2, 1) := by decide +kernel
theorem dX11_damage_44 : decode cX11_damage 44 = .ok (.iadd, 1) := by decide +kernel
theorem dX11_damage_45 : decode cX11_damage 45 = .ok (.istore_n 3, 1) := by decide +kernel
theorem dX11_damage_46 : decode cX11_damage 46 = .ok (.iload_n 3, 1) := by decide +kernel
theorem dX11_damage_47 : decode cX11_damage 47 = .ok (.ifCond .ge 7, 3) := by decide +kernel
theorem dX11_damage_50 : decode cX11_damage 50 = .ok (.iconst 0, 1) := by decide +kernel
theorem dX11_damage_51 : decode cX11_damage 51 = .ok (.goto 15, 3) := by decide +kernel
theorem dX11_damage_54 : decode cX11_damage 54 = .ok (.iload_n 3, 1) := by decide +kernel
theorem dX11_damage_55 : decode cX11_damage 55 = .ok (.bipush 9, 2) := by decide +kernel
theorem dX11_damage_57 : decode cX11_damage 57 = .ok (.if_icmp .le 8, 3) := by decide +kernel
theorem dX11_damage_60 : decode cX11_damage 60 = .ok (.bipush 9, 2) := by decide +kernel
theorem dX11_damage_62 : decode cX11_damage 62 = .ok (.goto 4, 3) := by decide +kernel
theorem dX11_damage_65 : decode cX11_damage 65 = .ok (.iload_n 3, 1) := by decide +kernel
theorem dX11_damage_66 : decode cX11_damage 66 = .ok (.istore_n 3, 1) := by decide +kernel
theorem dX11_damage_67 : decode cX11_damage 67 = .ok (.aload_n 0, 1) := by decide +kernel
theorem dX11_damage_68 : decode cX11_damage 68 = .ok (.iload_n 1, 1) := by decide +kernel
theorem dX11_damage_69 : decode cX11_damage 69 = .ok (.iconst 3, 1) := by decide +kernel
theorem dX11_damage_70 : decode cX11_damage 70 = .ok (.iload_n 3, 1) := by decide +kernel
theorem dX11_damage_71 : decode cX11_damage 71 = .ok (.invokevirtual 60, 3) := by decide +kernel
theorem dX11_damage_74 : decode cX11_damage 74 = .ok (.aload_n 0, 1) := by decide +kernel
theorem dX11_damage_75 : decode cX11_damage 75 = .ok (.iload_n 3, 1) := by decide +kernel
theorem dX11_damage_76 : decode cX11_damage 76 = .ok (.invokevirtual 179, 3) := by decide +kernel
theorem dX11_damage_79 : decode cX11_damage 79 = .ok (.ireturn, 1) := by decide +kernel
theorem dX11_phase_0 : decode cX11_phase 0 = .ok (.aload_n 0, 1) := by decide +kernel
theorem dX11_phase_1 : decode cX11_phase 1 = .ok (.invokevirtual 173, 3) := by decide +kernel
theorem dX11_phase_4 : decode cX11_phase 4 = .ok (.aload_n 0, 1) := by decide +kernel
theorem dX11_phase_5 : decode cX11_phase 5 = .ok (.aload_n 0, 1) := by decide +kernel
theorem dX11_phase_6 : decode cX11_phase 6 = .ok (.invokevirtual 192, 3) := by decide +kernel
theorem dX11_phase_9 : decode cX11_phase 9 = .ok (.invokevirtual 179, 3) := by decide +kernel
theorem dX11_phase_12 : decode cX11_phase 12 = .ok (.ireturn, 1) := by decide +kernel
theorem dX11_round_0 : decode cX11_round 0 = .ok (.aload_n 0, 1) := by decide +kernel
theorem dX11_round_1 : decode cX11_round 1 = .ok (.invokevirtual 173, 3) := by decide +kernel
theorem dX11_round_4 : decode cX11_round 4 = .ok (.aload_n 0, 1) := by decide +kernel
theorem dX11_round_5 : decode cX11_round 5 = .ok (.getfield 7, 3) := by decide +kernel
theorem dX11_round_8 : decode cX11_round 8 = .ok (.iconst 0, 1) := by decide +kernel
theorem dX11_round_9 : decode cX11_round 9 = .ok (.iaload, 1) := by decide +kernel
theorem dX11_round_10 : decode cX11_round 10 = .ok (.ifCond .ne 6, 3) := by decide +kernel
theorem dX11_round_13 : decode cX11_round 13 = .ok (.ldc 159, 2) := by decide +kernel
theorem dX11_round_15 : decode cX11_round 15 = .ok (.ireturn, 1) := by decide +kernel
theorem dX11_round_16 : decode cX11_round 16 = .ok (.aload_n 0, 1) := by decide +kernel
theorem dX11_round_17 : decode cX11_round 17 = .ok (.invokevirtual 170, 3) := by decide +kernel
theorem dX11_round_20 : decode cX11_round 20 = .ok (.istore_n 1, 1) := by decide +kernel
theorem dX11_round_21 : decode cX11_round 21 = .ok (.aload_n 0, 1) := by decide +kernel
theorem dX11_round_22 : decode cX11_round 22 = .ok (.getfield 7, 3) := by decide +kernel
theorem dX11_round_25 : decode cX11_round 25 = .ok (.iconst 1, 1) := by decide +kernel
theorem dX11_round_26 : decode cX11_round 26 = .ok (.iaload, 1) := by decide +kernel
theorem dX11_round_27 : decode cX11_round 27 = .ok (.ifCond .le 13, 3) := by decide +kernel
theorem dX11_round_30 : decode cX11_round 30 = .ok (.iload_n 1, 1) := by decide +kernel
theorem dX11_round_31 : decode cX11_round 31 = .ok (.aload_n 0, 1) := by decide +kernel
theorem dX11_round_32 : decode cX11_round 32 = .ok (.invokevirtual 170, 3) := by decide +kernel
theorem dX11_round_35 : decode cX11_round 35 = .ok (.iadd, 1) := by decide +kernel
theorem dX11_round_36 : decode cX11_round 36 = .ok (.istore_n 1, 1) := by decide +kernel
theorem dX11_round_37 : decode cX11_round 37 = .ok (.goto (-16), 3) := by decide +kernel
theorem dX11_round_40 : decode cX11_round 40 = .ok (.aload_n 0, 1) := by decide +kernel
theorem dX11_round_41 : decode cX11_round 41 = .ok (.iload_n 1, 1) := by decide +kernel
theorem dX11_round_42 : decode cX11_round 42 = .ok (.invokevirtual 179, 3) := by decide +kernel
theorem dX11_round_45 : decode cX11_round 45 = .ok (.ireturn, 1) := by decide +kernel
theorem dX11_orNone_0 : decode cX11_orNone 0 = .ok (.iload_n 0, 1) := by decide +kernel
theorem dX11_orNone_1 : decode cX11_orNone 1 = .ok (.ifCond .ge 8, 3) := by decide +kernel
theorem dX11_orNone_4 : decode cX11_orNone 4 = .ok (.ldc 195, 2) := by decide +kernel
theorem dX11_orNone_6 : decode cX11_orNone 6 = .ok (.goto 4, 3) := by decide +kernel
theorem dX11_orNone_9 : decode cX11_orNone 9 = .ok (.iload_n 0, 1) := by decide +kernel
theorem dX11_orNone_10 : decode cX11_orNone 10 = .ok (.ireturn, 1) := by decide +kernel
theorem dX11_flagOn_0 : decode cX11_flagOn 0 = .ok (.iconst (-1), 1) := by decide +kernel
theorem dX11_flagOn_1 : decode cX11_flagOn 1 = .ok (.istore_n 2, 1) := by decide +kernel
theorem dX11_flagOn_2 : decode cX11_flagOn 2 = .ok (.aload_n 0, 1) := by decide +kernel
theorem dX11_flagOn_3 : decode cX11_flagOn 3 = .ok (.getfield 7, 3) := by decide +kernel
theorem dX11_flagOn_6 : decode cX11_flagOn 6 = .ok (.iconst 3, 1) := by decide +kernel
theorem dX11_flagOn_7 : decode cX11_flagOn 7 = .ok (.iaload, 1) := by decide +kernel
theorem dX11_flagOn_8 : decode cX11_flagOn 8 = .ok (.iconst 1, 1) := by decide +kernel
theorem dX11_flagOn_9 : decode cX11_flagOn 9 = .ok (.isub, 1) := by decide +kernel
theorem dX11_flagOn_10 : decode cX11_flagOn 10 = .ok (.istore_n 3, 1) := by decide +kernel
theorem dX11_flagOn_11 : decode cX11_flagOn 11 = .ok (.iload_n 3, 1) := by decide +kernel
theorem dX11_flagOn_12 : decode cX11_flagOn 12 = .ok (.ifCond .lt 28, 3) := by decide +kernel
theorem dX11_flagOn_15 : decode cX11_flagOn 15 = .ok (.aload_n 0, 1) := by decide +kernel
theorem dX11_flagOn_16 : decode cX11_flagOn 16 = .ok (.getfield 7, 3) := by decide +kernel
theorem dX11_flagOn_19 : decode cX11_flagOn 19 = .ok (.bipush 7, 2) := by decide +kernel
theorem dX11_flagOn_21 : decode cX11_flagOn 21 = .ok (.iload_n 3, 1) := by decide +kernel
theorem dX11_flagOn_22 : decode cX11_flagOn 22 = .ok (.iadd, 1) := by decide +kernel
theorem dX11_flagOn_23 : decode cX11_flagOn 23 = .ok (.iaload, 1) := by decide +kernel
theorem dX11_flagOn_24 : decode cX11_flagOn 24 = .ok (.iload_n 1, 1) := by decide +kernel
theorem dX11_flagOn_25 : decode cX11_flagOn 25 = .ok (.if_icmp .ne 7, 3) := by decide +kernel
theorem dX11_flagOn_28 : decode cX11_flagOn 28 = .ok (.iload_n 3, 1) := by decide +kernel
theorem dX11_flagOn_29 : decode cX11_flagOn 29 = .ok (.goto 4, 3) := by decide +kernel
theorem dX11_flagOn_32 : decode cX11_flagOn 32 = .ok (.iload_n 2, 1) := by decide +kernel
theorem dX11_flagOn_33 : decode cX11_flagOn 33 = .ok (.istore_n 2, 1) := by decide +kernel
theorem dX11_flagOn_34 : decode cX11_flagOn 34 = .ok (.iinc 3 (-1), 3) := by decide +kernel
theorem dX11_flagOn_37 : decode cX11_flagOn 37 = .ok (.goto (-26), 3) := by decide +kernel
theorem dX11_flagOn_40 : decode cX11_flagOn 40 = .ok (.iload_n 2, 1) := by decide +kernel
theorem dX11_flagOn_41 : decode cX11_flagOn 41 = .ok (.ireturn, 1) := by decide +kernel
theorem dX11_cellOf_0 : decode cX11_cellOf 0 = .ok (.iload_n 1, 1) := by decide +kernel
theorem dX11_cellOf_1 : decode cX11_cellOf 1 = .ok (.invokestatic 156, 3) := by decide +kernel
theorem dX11_cellOf_4 : decode cX11_cellOf 4 = .ok (.ifCond .eq 12, 3) := by decide +kernel
theorem dX11_cellOf_7 : decode cX11_cellOf 7 = .ok (.iload_n 2, 1) := by decide +kernel
theorem dX11_cellOf_8 : decode cX11_cellOf 8 = .ok (.iconst 0, 1) := by decide +kernel
theorem dX11_cellOf_9 : decode cX11_cellOf 9 = .ok (.iconst 3, 1) := by decide +kernel
theorem dX11_cellOf_10 : decode cX11_cellOf 10 = .ok (.invokestatic 44, 3) := by decide +kernel
theorem dX11_cellOf_13 : decode cX11_cellOf 13 = .ok (.ifCond .ne 6, 3) := by decide +kernel
theorem dX11_cellOf_16 : decode cX11_cellOf 16 = .ok (.ldc 48, 2) := by decide +kernel
theorem dX11_cellOf_18 : decode cX11_cellOf 18 = .ok (.ireturn, 1) := by decide +kernel
theorem dX11_cellOf_19 : decode cX11_cellOf 19 = .ok (.iload_n 2, 1) := by decide +kernel
theorem dX11_cellOf_20 : decode cX11_cellOf 20 = .ok (.tableswitch 57 0 2 #[28, 38, 48], 28) := by decide +kernel
theorem dX11_cellOf_48 : decode cX11_cellOf 48 = .ok (.aload_n 0, 1) := by decide +kernel
theorem dX11_cellOf_49 : decode cX11_cellOf 49 = .ok (.getfield 7, 3) := by decide +kernel
theorem dX11_cellOf_52 : decode cX11_cellOf 52 = .ok (.bipush 11, 2) := by decide +kernel
theorem dX11_cellOf_54 : decode cX11_cellOf 54 = .ok (.iload_n 1, 1) := by decide +kernel
theorem dX11_cellOf_55 : decode cX11_cellOf 55 = .ok (.iadd, 1) := by decide +kernel
theorem dX11_cellOf_56 : decode cX11_cellOf 56 = .ok (.iaload, 1) := by decide +kernel
theorem dX11_cellOf_57 : decode cX11_cellOf 57 = .ok (.ireturn, 1) := by decide +kernel
theorem dX11_cellOf_58 : decode cX11_cellOf 58 = .ok (.aload_n 0, 1) := by decide +kernel
theorem dX11_cellOf_59 : decode cX11_cellOf 59 = .ok (.getfield 7, 3) := by decide +kernel
theorem dX11_cellOf_62 : decode cX11_cellOf 62 = .ok (.bipush 75, 2) := by decide +kernel
theorem dX11_cellOf_64 : decode cX11_cellOf 64 = .ok (.iload_n 1, 1) := by decide +kernel
theorem dX11_cellOf_65 : decode cX11_cellOf 65 = .ok (.iadd, 1) := by decide +kernel
theorem dX11_cellOf_66 : decode cX11_cellOf 66 = .ok (.iaload, 1) := by decide +kernel
theorem dX11_cellOf_67 : decode cX11_cellOf 67 = .ok (.ireturn, 1) := by decide +kernel
theorem dX11_cellOf_68 : decode cX11_cellOf 68 = .ok (.aload_n 0, 1) := by decide +kernel
theorem dX11_cellOf_69 : decode cX11_cellOf 69 = .ok (.iload_n 1, 1) := by decide +kernel
theorem dX11_cellOf_70 : decode cX11_cellOf 70 = .ok (.invokevirtual 79, 3) := by decide +kernel
theorem dX11_cellOf_73 : decode cX11_cellOf 73 = .ok (.invokestatic 196, 3) := by decide +kernel
theorem dX11_cellOf_76 : decode cX11_cellOf 76 = .ok (.ireturn, 1) := by decide +kernel
theorem dX11_cellOf_77 : decode cX11_cellOf 77 = .ok (.aload_n 0, 1) := by decide +kernel
theorem dX11_cellOf_78 : decode cX11_cellOf 78 = .ok (.iload_n 1, 1) := by decide +kernel
end
section
theorem dX11_cellOf_79 : decode cX11_cellOf 79 = .ok (.invokevirtual 199, 3) := by decide +kernel
theorem dX11_cellOf_82 : decode cX11_cellOf 82 = .ok (.invokestatic 196, 3) := by decide +kernel
theorem dX11_cellOf_85 : decode cX11_cellOf 85 = .ok (.ireturn, 1) := by decide +kernel
theorem dX11_cartOf_0 : decode cX11_cartOf 0 = .ok (.aload_n 0, 1) := by decide +kernel
theorem dX11_cartOf_1 : decode cX11_cartOf 1 = .ok (.iload_n 1, 1) := by decide +kernel
theorem dX11_cartOf_2 : decode cX11_cartOf 2 = .ok (.invokevirtual 161, 3) := by decide +kernel
theorem dX11_cartOf_5 : decode cX11_cartOf 5 = .ok (.ifCond .eq 13, 3) := by decide +kernel
theorem dX11_cartOf_8 : decode cX11_cartOf 8 = .ok (.iload_n 2, 1) := by decide +kernel
theorem dX11_cartOf_9 : decode cX11_cartOf 9 = .ok (.iconst 0, 1) := by decide +kernel
theorem dX11_cartOf_10 : decode cX11_cartOf 10 = .ok (.bipush 8, 2) := by decide +kernel
theorem dX11_cartOf_12 : decode cX11_cartOf 12 = .ok (.invokestatic 44, 3) := by decide +kernel
theorem dX11_cartOf_15 : decode cX11_cartOf 15 = .ok (.ifCond .ne 6, 3) := by decide +kernel
theorem dX11_cartOf_18 : decode cX11_cartOf 18 = .ok (.ldc 48, 2) := by decide +kernel
theorem dX11_cartOf_20 : decode cX11_cartOf 20 = .ok (.ireturn, 1) := by decide +kernel
theorem dX11_cartOf_21 : decode cX11_cartOf 21 = .ok (.iload_n 2, 1) := by decide +kernel
theorem dX11_cartOf_22 : decode cX11_cartOf 22 = .ok (.tableswitch 103 0 8 #[50, 50, 103, 103, 72, 79, 85, 91, 91], 50) := by decide +kernel
theorem dX11_cartOf_72 : decode cX11_cartOf 72 = .ok (.aload_n 0, 1) := by decide +kernel
theorem dX11_cartOf_73 : decode cX11_cartOf 73 = .ok (.iload_n 1, 1) := by decide +kernel
theorem dX11_cartOf_74 : decode cX11_cartOf 74 = .ok (.invokevirtual 86, 3) := by decide +kernel
theorem dX11_cartOf_77 : decode cX11_cartOf 77 = .ok (.ifCond .eq 8, 3) := by decide +kernel
theorem dX11_cartOf_80 : decode cX11_cartOf 80 = .ok (.ldc 195, 2) := by decide +kernel
theorem dX11_cartOf_82 : decode cX11_cartOf 82 = .ok (.goto 11, 3) := by decide +kernel
theorem dX11_cartOf_85 : decode cX11_cartOf 85 = .ok (.aload_n 0, 1) := by decide +kernel
theorem dX11_cartOf_86 : decode cX11_cartOf 86 = .ok (.iload_n 1, 1) := by decide +kernel
theorem dX11_cartOf_87 : decode cX11_cartOf 87 = .ok (.iconst 1, 1) := by decide +kernel
theorem dX11_cartOf_88 : decode cX11_cartOf 88 = .ok (.iload_n 2, 1) := by decide +kernel
theorem dX11_cartOf_89 : decode cX11_cartOf 89 = .ok (.iadd, 1) := by decide +kernel
theorem dX11_cartOf_90 : decode cX11_cartOf 90 = .ok (.invokevirtual 56, 3) := by decide +kernel
theorem dX11_cartOf_93 : decode cX11_cartOf 93 = .ok (.ireturn, 1) := by decide +kernel
theorem dX11_cartOf_94 : decode cX11_cartOf 94 = .ok (.aload_n 0, 1) := by decide +kernel
theorem dX11_cartOf_95 : decode cX11_cartOf 95 = .ok (.iload_n 1, 1) := by decide +kernel
theorem dX11_cartOf_96 : decode cX11_cartOf 96 = .ok (.iconst 0, 1) := by decide +kernel
theorem dX11_cartOf_97 : decode cX11_cartOf 97 = .ok (.invokevirtual 56, 3) := by decide +kernel
theorem dX11_cartOf_100 : decode cX11_cartOf 100 = .ok (.ireturn, 1) := by decide +kernel
theorem dX11_cartOf_101 : decode cX11_cartOf 101 = .ok (.aload_n 0, 1) := by decide +kernel
theorem dX11_cartOf_102 : decode cX11_cartOf 102 = .ok (.iload_n 1, 1) := by decide +kernel
theorem dX11_cartOf_103 : decode cX11_cartOf 103 = .ok (.invokevirtual 202, 3) := by decide +kernel
theorem dX11_cartOf_106 : decode cX11_cartOf 106 = .ok (.ireturn, 1) := by decide +kernel
theorem dX11_cartOf_107 : decode cX11_cartOf 107 = .ok (.aload_n 0, 1) := by decide +kernel
theorem dX11_cartOf_108 : decode cX11_cartOf 108 = .ok (.iload_n 1, 1) := by decide +kernel
theorem dX11_cartOf_109 : decode cX11_cartOf 109 = .ok (.invokevirtual 164, 3) := by decide +kernel
theorem dX11_cartOf_112 : decode cX11_cartOf 112 = .ok (.ireturn, 1) := by decide +kernel
theorem dX11_cartOf_113 : decode cX11_cartOf 113 = .ok (.aload_n 0, 1) := by decide +kernel
theorem dX11_cartOf_114 : decode cX11_cartOf 114 = .ok (.iload_n 1, 1) := by decide +kernel
theorem dX11_cartOf_115 : decode cX11_cartOf 115 = .ok (.iconst 5, 1) := by decide +kernel
theorem dX11_cartOf_116 : decode cX11_cartOf 116 = .ok (.iload_n 2, 1) := by decide +kernel
theorem dX11_cartOf_117 : decode cX11_cartOf 117 = .ok (.iadd, 1) := by decide +kernel
theorem dX11_cartOf_118 : decode cX11_cartOf 118 = .ok (.bipush 7, 2) := by decide +kernel
theorem dX11_cartOf_120 : decode cX11_cartOf 120 = .ok (.isub, 1) := by decide +kernel
theorem dX11_cartOf_121 : decode cX11_cartOf 121 = .ok (.invokevirtual 56, 3) := by decide +kernel
theorem dX11_cartOf_124 : decode cX11_cartOf 124 = .ok (.ireturn, 1) := by decide +kernel
theorem dX11_cartOf_125 : decode cX11_cartOf 125 = .ok (.aload_n 0, 1) := by decide +kernel
theorem dX11_cartOf_126 : decode cX11_cartOf 126 = .ok (.iload_n 1, 1) := by decide +kernel
theorem dX11_cartOf_127 : decode cX11_cartOf 127 = .ok (.iconst 3, 1) := by decide +kernel
theorem dX11_cartOf_128 : decode cX11_cartOf 128 = .ok (.iload_n 2, 1) := by decide +kernel
theorem dX11_cartOf_129 : decode cX11_cartOf 129 = .ok (.iadd, 1) := by decide +kernel
theorem dX11_cartOf_130 : decode cX11_cartOf 130 = .ok (.iconst 2, 1) := by decide +kernel
theorem dX11_cartOf_131 : decode cX11_cartOf 131 = .ok (.isub, 1) := by decide +kernel
theorem dX11_cartOf_132 : decode cX11_cartOf 132 = .ok (.invokevirtual 56, 3) := by decide +kernel
theorem dX11_cartOf_135 : decode cX11_cartOf 135 = .ok (.ireturn, 1) := by decide +kernel
theorem dX11_cardOf_0 : decode cX11_cardOf 0 = .ok (.aload_n 0, 1) := by decide +kernel
theorem dX11_cardOf_1 : decode cX11_cardOf 1 = .ok (.iload_n 1, 1) := by decide +kernel
theorem dX11_cardOf_2 : decode cX11_cardOf 2 = .ok (.invokevirtual 161, 3) := by decide +kernel
theorem dX11_cardOf_5 : decode cX11_cardOf 5 = .ok (.ifCond .eq 21, 3) := by decide +kernel
theorem dX11_cardOf_8 : decode cX11_cardOf 8 = .ok (.iload_n 2, 1) := by decide +kernel
theorem dX11_cardOf_9 : decode cX11_cardOf 9 = .ok (.iconst 0, 1) := by decide +kernel
theorem dX11_cardOf_10 : decode cX11_cardOf 10 = .ok (.iconst 4, 1) := by decide +kernel
theorem dX11_cardOf_11 : decode cX11_cardOf 11 = .ok (.invokestatic 44, 3) := by decide +kernel
theorem dX11_cardOf_14 : decode cX11_cardOf 14 = .ok (.ifCond .eq 12, 3) := by decide +kernel
theorem dX11_cardOf_17 : decode cX11_cardOf 17 = .ok (.iload_n 3, 1) := by decide +kernel
theorem dX11_cardOf_18 : decode cX11_cardOf 18 = .ok (.iconst 0, 1) := by decide +kernel
theorem dX11_cardOf_19 : decode cX11_cardOf 19 = .ok (.iconst 1, 1) := by decide +kernel
theorem dX11_cardOf_20 : decode cX11_cardOf 20 = .ok (.invokestatic 44, 3) := by decide +kernel
theorem dX11_cardOf_23 : decode cX11_cardOf 23 = .ok (.ifCond .ne 6, 3) := by decide +kernel
theorem dX11_cardOf_26 : decode cX11_cardOf 26 = .ok (.ldc 48, 2) := by decide +kernel
theorem dX11_cardOf_28 : decode cX11_cardOf 28 = .ok (.ireturn, 1) := by decide +kernel
theorem dX11_cardOf_29 : decode cX11_cardOf 29 = .ok (.aload_n 0, 1) := by decide +kernel
theorem dX11_cardOf_30 : decode cX11_cardOf 30 = .ok (.iload_n 1, 1) := by decide +kernel
theorem dX11_cardOf_31 : decode cX11_cardOf 31 = .ok (.iload_n 2, 1) := by decide +kernel
theorem dX11_cardOf_32 : decode cX11_cardOf 32 = .ok (.invokevirtual 102, 3) := by decide +kernel
theorem dX11_cardOf_35 : decode cX11_cardOf 35 = .ok (.ifCond .ne 8, 3) := by decide +kernel
theorem dX11_cardOf_38 : decode cX11_cardOf 38 = .ok (.ldc 195, 2) := by decide +kernel
theorem dX11_cardOf_40 : decode cX11_cardOf 40 = .ok (.goto 16, 3) := by decide +kernel
theorem dX11_cardOf_43 : decode cX11_cardOf 43 = .ok (.aload_n 0, 1) := by decide +kernel
theorem dX11_cardOf_44 : decode cX11_cardOf 44 = .ok (.iload_n 1, 1) := by decide +kernel
theorem dX11_cardOf_45 : decode cX11_cardOf 45 = .ok (.bipush 7, 2) := by decide +kernel
theorem dX11_cardOf_47 : decode cX11_cardOf 47 = .ok (.iconst 2, 1) := by decide +kernel
theorem dX11_cardOf_48 : decode cX11_cardOf 48 = .ok (.iload_n 2, 1) := by decide +kernel
theorem dX11_cardOf_49 : decode cX11_cardOf 49 = .ok (.imul, 1) := by decide +kernel
theorem dX11_cardOf_50 : decode cX11_cardOf 50 = .ok (.iadd, 1) := by decide +kernel
theorem dX11_cardOf_51 : decode cX11_cardOf 51 = .ok (.iload_n 3, 1) := by decide +kernel
theorem dX11_cardOf_52 : decode cX11_cardOf 52 = .ok (.iadd, 1) := by decide +kernel
theorem dX11_cardOf_53 : decode cX11_cardOf 53 = .ok (.invokevirtual 56, 3) := by decide +kernel
theorem dX11_cardOf_56 : decode cX11_cardOf 56 = .ok (.ireturn, 1) := by decide +kernel
theorem dX11_turn_0 : decode cX11_turn 0 = .ok (.iload_n 1, 1) := by decide +kernel
theorem dX11_turn_1 : decode cX11_turn 1 = .ok (.ifCond .ge 6, 3) := by decide +kernel
theorem dX11_turn_4 : decode cX11_turn 4 = .ok (.ldc 48, 2) := by decide +kernel
theorem dX11_turn_6 : decode cX11_turn 6 = .ok (.ireturn, 1) := by decide +kernel
theorem dX11_turn_7 : decode cX11_turn 7 = .ok (.aload_n 0, 1) := by decide +kernel
theorem dX11_turn_8 : decode cX11_turn 8 = .ok (.invokevirtual 138, 3) := by decide +kernel
theorem dX11_turn_11 : decode cX11_turn 11 = .ok (.iload_n 1, 1) := by decide +kernel
theorem dX11_turn_12 : decode cX11_turn 12 = .ok (.aload_n 0, 1) := by decide +kernel
theorem dX11_turn_13 : decode cX11_turn 13 = .ok (.getfield 99, 3) := by decide +kernel
theorem dX11_turn_16 : decode cX11_turn 16 = .ok (.if_icmp .ge 12, 3) := by decide +kernel
theorem dX11_turn_19 : decode cX11_turn 19 = .ok (.aload_n 0, 1) := by decide +kernel
theorem dX11_turn_20 : decode cX11_turn 20 = .ok (.getfield 28, 3) := by decide +kernel
theorem dX11_turn_23 : decode cX11_turn 23 = .ok (.iload_n 1, 1) := by decide +kernel
theorem dX11_turn_24 : decode cX11_turn 24 = .ok (.iaload, 1) := by decide +kernel
theorem dX11_turn_25 : decode cX11_turn 25 = .ok (.goto 5, 3) := by decide +kernel
theorem dX11_turn_28 : decode cX11_turn 28 = .ok (.ldc 195, 2) := by decide +kernel
theorem dX11_turn_30 : decode cX11_turn 30 = .ok (.ireturn, 1) := by decide +kernel
theorem dX11_would_0 : decode cX11_would 0 = .ok (.aload_n 0, 1) := by decide +kernel
theorem dX11_would_1 : decode cX11_would 1 = .ok (.iload_n 1, 1) := by decide +kernel
theorem dX11_would_2 : decode cX11_would 2 = .ok (.invokevirtual 161, 3) := by decide +kernel
theorem dX11_would_5 : decode cX11_would 5 = .ok (.ifCond .eq 22, 3) := by decide +kernel
theorem dX11_would_8 : decode cX11_would 8 = .ok (.iload_n 2, 1) := by decide +kernel
theorem dX11_would_9 : decode cX11_would 9 = .ok (.iconst 0, 1) := by decide +kernel
theorem dX11_would_10 : decode cX11_would 10 = .ok (.bipush 20, 2) := by decide +kernel
theorem dX11_would_12 : decode cX11_would 12 = .ok (.invokestatic 44, 3) := by decide +kernel
theorem dX11_would_15 : decode cX11_would 15 = .ok (.ifCond .eq 12, 3) := by decide +kernel
theorem dX11_would_18 : decode cX11_would 18 = .ok (.iload_n 3, 1) := by decide +kernel
theorem dX11_would_19 : decode cX11_would 19 = .ok (.iconst 0, 1) := by decide +kernel
theorem dX11_would_20 : decode cX11_would 20 = .ok (.iconst 3, 1) := by decide +kernel
theorem dX11_would_21 : decode cX11_would 21 = .ok (.invokestatic 44, 3) := by decide +kernel
theorem dX11_would_24 : decode cX11_would 24 = .ok (.ifCond .ne 6, 3) := by decide +kernel
theorem dX11_would_27 : decode cX11_would 27 = .ok (.ldc 48, 2) := by decide +kernel
theorem dX11_would_29 : decode cX11_would 29 = .ok (.ireturn, 1) := by decide +kernel
theorem dX11_would_30 : decode cX11_would 30 = .ok (.aload_n 0, 1) := by decide +kernel
theorem dX11_would_31 : decode cX11_would 31 = .ok (.invokevirtual 205, 3) := by decide +kernel
theorem dX11_would_34 : decode cX11_would 34 = .ok (.iconst 0, 1) := by decide +kernel
theorem dX11_would_35 : decode cX11_would 35 = .ok (.istore 4, 2) := by decide +kernel
theorem dX11_would_37 : decode cX11_would 37 = .ok (.iload 4, 2) := by decide +kernel
theorem dX11_would_39 : decode cX11_would 39 = .ok (.iload_n 2, 1) := by decide +kernel
theorem dX11_would_40 : decode cX11_would 40 = .ok (.if_icmp .ge 15, 3) := by decide +kernel
theorem dX11_would_43 : decode cX11_would 43 = .ok (.aload_n 0, 1) := by decide +kernel
theorem dX11_would_44 : decode cX11_would 44 = .ok (.invokevirtual 170, 3) := by decide +kernel
theorem dX11_would_47 : decode cX11_would 47 = .ok (.istore 5, 2) := by decide +kernel
theorem dX11_would_49 : decode cX11_would 49 = .ok (.iinc 4 1, 3) := by decide +kernel
theorem dX11_would_52 : decode cX11_would 52 = .ok (.goto (-15), 3) := by decide +kernel
theorem dX11_would_55 : decode cX11_would 55 = .ok (.aload_n 0, 1) := by decide +kernel
theorem dX11_would_56 : decode cX11_would 56 = .ok (.iload_n 1, 1) := by decide +kernel
theorem dX11_would_57 : decode cX11_would 57 = .ok (.iload_n 3, 1) := by decide +kernel
theorem dX11_would_58 : decode cX11_would 58 = .ok (.invokevirtual 208, 3) := by decide +kernel
theorem dX11_would_61 : decode cX11_would 61 = .ok (.istore 4, 2) := by decide +kernel
theorem dX11_would_63 : decode cX11_would 63 = .ok (.aload_n 0, 1) := by decide +kernel
theorem dX11_would_64 : decode cX11_would 64 = .ok (.invokevirtual 211, 3) := by decide +kernel
theorem dX11_would_67 : decode cX11_would 67 = .ok (.iload 4, 2) := by decide +kernel
theorem dX11_would_69 : decode cX11_would 69 = .ok (.ireturn, 1) := by decide +kernel
theorem dX11_difference_0 : decode cX11_difference 0 = .ok (.iload_n 0, 1) := by decide +kernel
theorem dX11_difference_1 : decode cX11_difference 1 = .ok (.iload_n 1, 1) := by decide +kernel
theorem dX11_difference_2 : decode cX11_difference 2 = .ok (.if_icmp .ge 9, 3) := by decide +kernel
theorem dX11_difference_5 : decode cX11_difference 5 = .ok (.iload_n 1, 1) := by decide +kernel
theorem dX11_difference_6 : decode cX11_difference 6 = .ok (.iload_n 0, 1) := by decide +kernel
theorem dX11_difference_7 : decode cX11_difference 7 = .ok (.isub, 1) := by decide +kernel
theorem dX11_difference_8 : decode cX11_difference 8 = .ok (.goto 6, 3) := by decide +kernel
theorem dX11_difference_11 : decode cX11_difference 11 = .ok (.iload_n 0, 1) := by decide +kernel
theorem dX11_difference_12 : decode cX11_difference 12 = .ok (.iload_n 1, 1) := by decide +kernel
theorem dX11_difference_13 : decode cX11_difference 13 = .ok (.isub, 1) := by decide +kernel
theorem dX11_difference_14 : decode cX11_difference 14 = .ok (.ireturn, 1) := by decide +kernel
theorem dX11_far_0 : decode cX11_far 0 = .ok (.iload_n 0, 1) := by decide +kernel
theorem dX11_far_1 : decode cX11_far 1 = .ok (.bipush 8, 2) := by decide +kernel
theorem dX11_far_3 : decode cX11_far 3 = .ok (.irem, 1) := by decide +kernel
theorem dX11_far_4 : decode cX11_far 4 = .ok (.iload_n 1, 1) := by decide +kernel
theorem dX11_far_5 : decode cX11_far 5 = .ok (.bipush 8, 2) := by decide +kernel
theorem dX11_far_7 : decode cX11_far 7 = .ok (.irem, 1) := by decide +kernel
theorem dX11_far_8 : decode cX11_far 8 = .ok (.invokestatic 214, 3) := by decide +kernel
theorem dX11_far_11 : decode cX11_far 11 = .ok (.iload_n 0, 1) := by decide +kernel
theorem dX11_far_12 : decode cX11_far 12 = .ok (.bipush 8, 2) := by decide +kernel
theorem dX11_far_14 : decode cX11_far 14 = .ok (.idiv, 1) := by decide +kernel
theorem dX11_far_15 : decode cX11_far 15 = .ok (.iload_n 1, 1) := by decide +kernel
theorem dX11_far_16 : decode cX11_far 16 = .ok (.bipush 8, 2) := by decide +kernel
theorem dX11_far_18 : decode cX11_far 18 = .ok (.idiv, 1) := by decide +kernel
theorem dX11_far_19 : decode cX11_far 19 = .ok (.invokestatic 214, 3) := by decide +kernel
theorem dX11_far_22 : decode cX11_far 22 = .ok (.iadd, 1) := by decide +kernel
theorem dX11_far_23 : decode cX11_far 23 = .ok (.ireturn, 1) := by decide +kernel
theorem dX11_farBy_0 : decode cX11_farBy 0 = .ok (.aload_n 0, 1) := by decide +kernel
theorem dX11_farBy_1 : decode cX11_farBy 1 = .ok (.iload_n 1, 1) := by decide +kernel
theorem dX11_farBy_2 : decode cX11_farBy 2 = .ok (.iconst 5, 1) := by decide +kernel
theorem dX11_farBy_3 : decode cX11_farBy 3 = .ok (.invokevirtual 56, 3) := by decide +kernel
theorem dX11_farBy_6 : decode cX11_farBy 6 = .ok (.istore 5, 2) := by decide +kernel
theorem dX11_farBy_8 : decode cX11_farBy 8 = .ok (.aload_n 0, 1) := by decide +kernel
theorem dX11_farBy_9 : decode cX11_farBy 9 = .ok (.getfield 7, 3) := by decide +kernel
theorem dX11_farBy_12 : decode cX11_farBy 12 = .ok (.iconst 1, 1) := by decide +kernel
theorem dX11_farBy_13 : decode cX11_farBy 13 = .ok (.iaload, 1) := by decide +kernel
theorem dX11_farBy_14 : decode cX11_farBy 14 = .ok (.istore 6, 2) := by decide +kernel
theorem dX11_farBy_16 : decode cX11_farBy 16 = .ok (.aload_n 0, 1) := by decide +kernel
theorem dX11_farBy_17 : decode cX11_farBy 17 = .ok (.iload_n 1, 1) := by decide +kernel
theorem dX11_farBy_18 : decode cX11_farBy 18 = .ok (.bipush 7, 2) := by decide +kernel
theorem dX11_farBy_20 : decode cX11_farBy 20 = .ok (.iconst 2, 1) := by decide +kernel
theorem dX11_farBy_21 : decode cX11_farBy 21 = .ok (.iload 6, 2) := by decide +kernel
theorem dX11_farBy_23 : decode cX11_farBy 23 = .ok (.imul, 1) := by decide +kernel
theorem dX11_farBy_24 : decode cX11_farBy 24 = .ok (.iadd, 1) := by decide +kernel
theorem dX11_farBy_25 : decode cX11_farBy 25 = .ok (.iload_n 2, 1) := by decide +kernel
theorem dX11_farBy_26 : decode cX11_farBy 26 = .ok (.invokevirtual 60, 3) := by decide +kernel
theorem dX11_farBy_29 : decode cX11_farBy 29 = .ok (.aload_n 0, 1) := by decide +kernel
theorem dX11_farBy_30 : decode cX11_farBy 30 = .ok (.iload_n 1, 1) := by decide +kernel
theorem dX11_farBy_31 : decode cX11_farBy 31 = .ok (.bipush 7, 2) := by decide +kernel
theorem dX11_farBy_33 : decode cX11_farBy 33 = .ok (.iconst 2, 1) := by decide +kernel
theorem dX11_farBy_34 : decode cX11_farBy 34 = .ok (.iload 6, 2) := by decide +kernel
theorem dX11_farBy_36 : decode cX11_farBy 36 = .ok (.imul, 1) := by decide +kernel
theorem dX11_farBy_37 : decode cX11_farBy 37 = .ok (.iadd, 1) := by decide +kernel
theorem dX11_farBy_38 : decode cX11_farBy 38 = .ok (.iconst 1, 1) := by decide +kernel
theorem dX11_farBy_39 : decode cX11_farBy 39 = .ok (.iadd, 1) := by decide +kernel
theorem dX11_farBy_40 : decode cX11_farBy 40 = .ok (.iload_n 3, 1) := by decide +kernel
theorem dX11_farBy_41 : decode cX11_farBy 41 = .ok (.invokevirtual 60, 3) := by decide +kernel
theorem dX11_farBy_44 : decode cX11_farBy 44 = .ok (.aload_n 0, 1) := by decide +kernel
theorem dX11_farBy_45 : decode cX11_farBy 45 = .ok (.invokevirtual 170, 3) := by decide +kernel
theorem dX11_farBy_48 : decode cX11_farBy 48 = .ok (.istore 7, 2) := by decide +kernel
theorem dX11_farBy_50 : decode cX11_farBy 50 = .ok (.aload_n 0, 1) := by decide +kernel
theorem dX11_farBy_51 : decode cX11_farBy 51 = .ok (.iload_n 1, 1) := by decide +kernel
theorem dX11_farBy_52 : decode cX11_farBy 52 = .ok (.iconst 5, 1) := by decide +kernel
theorem dX11_farBy_53 : decode cX11_farBy 53 = .ok (.invokevirtual 56, 3) := by decide +kernel
theorem dX11_farBy_56 : decode cX11_farBy 56 = .ok (.iload 5, 2) := by decide +kernel
theorem dX11_farBy_58 : decode cX11_farBy 58 = .ok (.if_icmp .le 7, 3) := by decide +kernel
theorem dX11_farBy_61 : decode cX11_farBy 61 = .ok (.iconst (-1), 1) := by decide +kernel
theorem dX11_farBy_62 : decode cX11_farBy 62 = .ok (.goto 14, 3) := by decide +kernel
theorem dX11_farBy_65 : decode cX11_farBy 65 = .ok (.aload_n 0, 1) := by decide +kernel
theorem dX11_farBy_66 : decode cX11_farBy 66 = .ok (.iload_n 1, 1) := by decide +kernel
theorem dX11_farBy_67 : decode cX11_farBy 67 = .ok (.iconst 1, 1) := by decide +kernel
theorem dX11_farBy_68 : decode cX11_farBy 68 = .ok (.invokevirtual 56, 3) := by decide +kernel
theorem dX11_farBy_71 : decode cX11_farBy 71 = .ok (.iload 4, 2) := by decide +kernel
theorem dX11_farBy_73 : decode cX11_farBy 73 = .ok (.invokestatic 217, 3) := by decide +kernel
theorem dX11_farBy_76 : decode cX11_farBy 76 = .ok (.istore 8, 2) := by decide +kernel
theorem dX11_farBy_78 : decode cX11_farBy 78 = .ok (.aload_n 0, 1) := by decide +kernel
theorem dX11_farBy_79 : decode cX11_farBy 79 = .ok (.invokevirtual 211, 3) := by decide +kernel
theorem dX11_farBy_82 : decode cX11_farBy 82 = .ok (.iload 8, 2) := by decide +kernel
theorem dX11_farBy_84 : decode cX11_farBy 84 = .ok (.ireturn, 1) := by decide +kernel
theorem dX11_best_0 : decode cX11_best 0 = .ok (.aload_n 0, 1) := by decide +kernel
theorem dX11_best_1 : decode cX11_best 1 = .ok (.iload_n 1, 1) := by decide +kernel
theorem dX11_best_2 : decode cX11_best 2 = .ok (.invokevirtual 161, 3) := by decide +kernel
theorem dX11_best_5 : decode cX11_best 5 = .ok (.ifCond .eq 23, 3) := by decide +kernel
theorem dX11_best_8 : decode cX11_best 8 = .ok (.iload_n 2, 1) := by decide +kernel
theorem dX11_best_9 : decode cX11_best 9 = .ok (.iconst 1, 1) := by decide +kernel
theorem dX11_best_10 : decode cX11_best 10 = .ok (.sipush 999, 3) := by decide +kernel
theorem dX11_best_13 : decode cX11_best 13 = .ok (.invokestatic 44, 3) := by decide +kernel
theorem dX11_best_16 : decode cX11_best 16 = .ok (.ifCond .eq 12, 3) := by decide +kernel
theorem dX11_best_19 : decode cX11_best 19 = .ok (.iload_n 3, 1) := by decide +kernel
theorem dX11_best_20 : decode cX11_best 20 = .ok (.iconst 0, 1) := by decide +kernel
theorem dX11_best_21 : decode cX11_best 21 = .ok (.iconst 1, 1) := by decide +kernel
theorem dX11_best_22 : decode cX11_best 22 = .ok (.invokestatic 44, 3) := by decide +kernel
theorem dX11_best_25 : decode cX11_best 25 = .ok (.ifCond .ne 6, 3) := by decide +kernel
theorem dX11_best_28 : decode cX11_best 28 = .ok (.ldc 48, 2) := by decide +kernel
theorem dX11_best_30 : decode cX11_best 30 = .ok (.ireturn, 1) := by decide +kernel
theorem dX11_best_31 : decode cX11_best 31 = .ok (.aload_n 0, 1) := by decide +kernel
theorem dX11_best_32 : decode cX11_best 32 = .ok (.iload_n 1, 1) := by decide +kernel
theorem dX11_best_33 : decode cX11_best 33 = .ok (.invokevirtual 118, 3) := by decide +kernel
theorem dX11_best_36 : decode cX11_best 36 = .ok (.istore 4, 2) := by decide +kernel
theorem dX11_best_38 : decode cX11_best 38 = .ok (.aload_n 0, 1) := by decide +kernel
theorem dX11_best_39 : decode cX11_best 39 = .ok (.iload_n 1, 1) := by decide +kernel
theorem dX11_best_40 : decode cX11_best 40 = .ok (.invokevirtual 86, 3) := by decide +kernel
theorem dX11_best_43 : decode cX11_best 43 = .ok (.ifCond .ne 22, 3) := by decide +kernel
theorem dX11_best_46 : decode cX11_best 46 = .ok (.aload_n 0, 1) := by decide +kernel
theorem dX11_best_47 : decode cX11_best 47 = .ok (.iload_n 1, 1) := by decide +kernel
theorem dX11_best_48 : decode cX11_best 48 = .ok (.aload_n 0, 1) := by decide +kernel
theorem dX11_best_49 : decode cX11_best 49 = .ok (.getfield 7, 3) := by decide +kernel
theorem dX11_best_52 : decode cX11_best 52 = .ok (.iconst 1, 1) := by decide +kernel
theorem dX11_best_53 : decode cX11_best 53 = .ok (.iaload, 1) := by decide +kernel
theorem dX11_best_54 : decode cX11_best 54 = .ok (.invokevirtual 121, 3) := by decide +kernel
theorem dX11_best_57 : decode cX11_best 57 = .ok (.ifCond .ne 8, 3) := by decide +kernel
theorem dX11_best_60 : decode cX11_best 60 = .ok (.iload 4, 2) := by decide +kernel
theorem dX11_best_62 : decode cX11_best 62 = .ok (.ifCond .ge 6, 3) := by decide +kernel
theorem dX11_best_65 : decode cX11_best 65 = .ok (.ldc 159, 2) := by decide +kernel
theorem dX11_best_67 : decode cX11_best 67 = .ok (.ireturn, 1) := by decide +kernel
theorem dX11_best_68 : decode cX11_best 68 = .ok (.aload_n 0, 1) := by decide +kernel
theorem dX11_best_69 : decode cX11_best 69 = .ok (.invokevirtual 205, 3) := by decide +kernel
theorem dX11_best_72 : decode cX11_best 72 = .ok (.iconst (-1), 1) := by decide +kernel
theorem dX11_best_73 : decode cX11_best 73 = .ok (.istore 5, 2) := by decide +kernel
theorem dX11_best_75 : decode cX11_best 75 = .ok (.iconst 0, 1) := by decide +kernel
theorem dX11_best_76 : decode cX11_best 76 = .ok (.istore 6, 2) := by decide +kernel
theorem dX11_best_78 : decode cX11_best 78 = .ok (.iconst 0, 1) := by decide +kernel
theorem dX11_best_79 : decode cX11_best 79 = .ok (.istore 7, 2) := by decide +kernel
theorem dX11_best_81 : decode cX11_best 81 = .ok (.iload 7, 2) := by decide +kernel
theorem dX11_best_83 : decode cX11_best 83 = .ok (.bipush 7, 2) := by decide +kernel
theorem dX11_best_85 : decode cX11_best 85 = .ok (.if_icmp .ge 73, 3) := by decide +kernel
theorem dX11_best_88 : decode cX11_best 88 = .ok (.aload_n 0, 1) := by decide +kernel
theorem dX11_best_89 : decode cX11_best 89 = .ok (.iload_n 1, 1) := by decide +kernel
theorem dX11_best_90 : decode cX11_best 90 = .ok (.iload 7, 2) := by decide +kernel
theorem dX11_best_92 : decode cX11_best 92 = .ok (.iload_n 2, 1) := by decide +kernel
theorem dX11_best_93 : decode cX11_best 93 = .ok (.iload 4, 2) := by decide +kernel
theorem dX11_best_95 : decode cX11_best 95 = .ok (.invokevirtual 220, 3) := by decide +kernel
theorem dX11_best_98 : decode cX11_best 98 = .ok (.istore 8, 2) := by decide +kernel
theorem dX11_best_100 : decode cX11_best 100 = .ok (.iload 8, 2) := by decide +kernel
theorem dX11_best_102 : decode cX11_best 102 = .ok (.ifCond .lt 19, 3) := by decide +kernel
theorem dX11_best_105 : decode cX11_best 105 = .ok (.iload 5, 2) := by decide +kernel
theorem dX11_best_107 : decode cX11_best 107 = .ok (.ifCond .lt 10, 3) := by decide +kernel
theorem dX11_best_110 : decode cX11_best 110 = .ok (.iload 8, 2) := by decide +kernel
theorem dX11_best_112 : decode cX11_best 112 = .ok (.iload 6, 2) := by decide +kernel
theorem dX11_best_114 : decode cX11_best 114 = .ok (.if_icmp .ge 7, 3) := by decide +kernel
theorem dX11_best_117 : decode cX11_best 117 = .ok (.iconst 1, 1) := by decide +kernel
theorem dX11_best_118 : decode cX11_best 118 = .ok (.goto 4, 3) := by decide +kernel
theorem dX11_best_121 : decode cX11_best 121 = .ok (.iconst 0, 1) := by decide +kernel
theorem dX11_best_122 : decode cX11_best 122 = .ok (.istore 9, 2) := by decide +kernel
theorem dX11_best_124 : decode cX11_best 124 = .ok (.iload 9, 2) := by decide +kernel
theorem dX11_best_126 : decode cX11_best 126 = .ok (.ifCond .eq 8, 3) := by decide +kernel
theorem dX11_best_129 : decode cX11_best 129 = .ok (.iload 7, 2) := by decide +kernel
theorem dX11_best_131 : decode cX11_best 131 = .ok (.goto 5, 3) := by decide +kernel
theorem dX11_best_134 : decode cX11_best 134 = .ok (.iload 5, 2) := by decide +kernel
theorem dX11_best_136 : decode cX11_best 136 = .ok (.istore 5, 2) := by decide +kernel
theorem dX11_best_138 : decode cX11_best 138 = .ok (.iload 9, 2) := by decide +kernel
theorem dX11_best_140 : decode cX11_best 140 = .ok (.ifCond .eq 8, 3) := by decide +kernel
theorem dX11_best_143 : decode cX11_best 143 = .ok (.iload 8, 2) := by decide +kernel
theorem dX11_best_145 : decode cX11_best 145 = .ok (.goto 5, 3) := by decide +kernel
theorem dX11_best_148 : decode cX11_best 148 = .ok (.iload 6, 2) := by decide +kernel
theorem dX11_best_150 : decode cX11_best 150 = .ok (.istore 6, 2) := by decide +kernel
theorem dX11_best_152 : decode cX11_best 152 = .ok (.iinc 7 1, 3) := by decide +kernel
theorem dX11_best_155 : decode cX11_best 155 = .ok (.goto (-74), 3) := by decide +kernel
theorem dX11_best_158 : decode cX11_best 158 = .ok (.iload 5, 2) := by decide +kernel
theorem dX11_best_160 : decode cX11_best 160 = .ok (.ifCond .ge 8, 3) := by decide +kernel
theorem dX11_best_163 : decode cX11_best 163 = .ok (.ldc 195, 2) := by decide +kernel
theorem dX11_best_165 : decode cX11_best 165 = .ok (.goto 14, 3) := by decide +kernel
theorem dX11_best_168 : decode cX11_best 168 = .ok (.iload_n 3, 1) := by decide +kernel
theorem dX11_best_169 : decode cX11_best 169 = .ok (.ifCond .ne 8, 3) := by decide +kernel
theorem dX11_best_172 : decode cX11_best 172 = .ok (.iload 5, 2) := by decide +kernel
theorem dX11_best_174 : decode cX11_best 174 = .ok (.goto 5, 3) := by decide +kernel
theorem dX11_best_177 : decode cX11_best 177 = .ok (.iload 6, 2) := by decide +kernel
theorem dX11_best_179 : decode cX11_best 179 = .ok (.ireturn, 1) := by decide +kernel
theorem dX11_spreads_0 : decode cX11_spreads 0 = .ok (.iconst 0, 1) := by decide +kernel
theorem dX11_spreads_1 : decode cX11_spreads 1 = .ok (.istore_n 2, 1) := by decide +kernel
theorem dX11_spreads_2 : decode cX11_spreads 2 = .ok (.iconst 0, 1) := by decide +kernel
theorem dX11_spreads_3 : decode cX11_spreads 3 = .ok (.istore_n 3, 1) := by decide +kernel
theorem dX11_spreads_4 : decode cX11_spreads 4 = .ok (.iload_n 3, 1) := by decide +kernel
theorem dX11_spreads_5 : decode cX11_spreads 5 = .ok (.bipush 64, 2) := by decide +kernel
theorem dX11_spreads_7 : decode cX11_spreads 7 = .ok (.if_icmp .ge 98, 3) := by decide +kernel
theorem dX11_spreads_10 : decode cX11_spreads 10 = .ok (.iconst 0, 1) := by decide +kernel
theorem dX11_spreads_11 : decode cX11_spreads 11 = .ok (.istore 4, 2) := by decide +kernel
theorem dX11_spreads_13 : decode cX11_spreads 13 = .ok (.iload 4, 2) := by decide +kernel
theorem dX11_spreads_15 : decode cX11_spreads 15 = .ok (.iconst 4, 1) := by decide +kernel
theorem dX11_spreads_16 : decode cX11_spreads 16 = .ok (.if_icmp .ge 83, 3) := by decide +kernel
theorem dX11_spreads_19 : decode cX11_spreads 19 = .ok (.aload_n 0, 1) := by decide +kernel
theorem dX11_spreads_20 : decode cX11_spreads 20 = .ok (.getfield 38, 3) := by decide +kernel
theorem dX11_spreads_23 : decode cX11_spreads 23 = .ok (.iload_n 3, 1) := by decide +kernel
theorem dX11_spreads_24 : decode cX11_spreads 24 = .ok (.iaload, 1) := by decide +kernel
theorem dX11_spreads_25 : decode cX11_spreads 25 = .ok (.iload_n 1, 1) := by decide +kernel
theorem dX11_spreads_26 : decode cX11_spreads 26 = .ok (.if_icmp .ne 73, 3) := by decide +kernel
theorem dX11_spreads_29 : decode cX11_spreads 29 = .ok (.aload_n 0, 1) := by decide +kernel
theorem dX11_spreads_30 : decode cX11_spreads 30 = .ok (.iload_n 3, 1) := by decide +kernel
theorem dX11_spreads_31 : decode cX11_spreads 31 = .ok (.iload 4, 2) := by decide +kernel
theorem dX11_spreads_33 : decode cX11_spreads 33 = .ok (.invokevirtual 72, 3) := by decide +kernel
theorem dX11_spreads_36 : decode cX11_spreads 36 = .ok (.ifCond .eq 7, 3) := by decide +kernel
theorem dX11_spreads_39 : decode cX11_spreads 39 = .ok (.iconst (-1), 1) := by decide +kernel
theorem dX11_spreads_40 : decode cX11_spreads 40 = .ok (.goto 9, 3) := by decide +kernel
theorem dX11_spreads_43 : decode cX11_spreads 43 = .ok (.iload_n 3, 1) := by decide +kernel
theorem dX11_spreads_44 : decode cX11_spreads 44 = .ok (.iload 4, 2) := by decide +kernel
theorem dX11_spreads_46 : decode cX11_spreads 46 = .ok (.invokestatic 76, 3) := by decide +kernel
theorem dX11_spreads_49 : decode cX11_spreads 49 = .ok (.istore 5, 2) := by decide +kernel
theorem dX11_spreads_51 : decode cX11_spreads 51 = .ok (.iload 5, 2) := by decide +kernel
theorem dX11_spreads_53 : decode cX11_spreads 53 = .ok (.ifCond .lt 40, 3) := by decide +kernel
theorem dX11_spreads_56 : decode cX11_spreads 56 = .ok (.aload_n 0, 1) := by decide +kernel
theorem dX11_spreads_57 : decode cX11_spreads 57 = .ok (.getfield 7, 3) := by decide +kernel
theorem dX11_spreads_60 : decode cX11_spreads 60 = .ok (.bipush 11, 2) := by decide +kernel
theorem dX11_spreads_62 : decode cX11_spreads 62 = .ok (.iload 5, 2) := by decide +kernel
theorem dX11_spreads_64 : decode cX11_spreads 64 = .ok (.iadd, 1) := by decide +kernel
theorem dX11_spreads_65 : decode cX11_spreads 65 = .ok (.iaload, 1) := by decide +kernel
theorem dX11_spreads_66 : decode cX11_spreads 66 = .ok (.bipush 7, 2) := by decide +kernel
theorem dX11_spreads_68 : decode cX11_spreads 68 = .ok (.if_icmp .eq 25, 3) := by decide +kernel
theorem dX11_spreads_71 : decode cX11_spreads 71 = .ok (.aload_n 0, 1) := by decide +kernel
theorem dX11_spreads_72 : decode cX11_spreads 72 = .ok (.getfield 38, 3) := by decide +kernel
theorem dX11_spreads_75 : decode cX11_spreads 75 = .ok (.iload 5, 2) := by decide +kernel
theorem dX11_spreads_77 : decode cX11_spreads 77 = .ok (.iaload, 1) := by decide +kernel
theorem dX11_spreads_78 : decode cX11_spreads 78 = .ok (.ifCond .ge 15, 3) := by decide +kernel
theorem dX11_spreads_81 : decode cX11_spreads 81 = .ok (.aload_n 0, 1) := by decide +kernel
theorem dX11_spreads_82 : decode cX11_spreads 82 = .ok (.getfield 38, 3) := by decide +kernel
theorem dX11_spreads_85 : decode cX11_spreads 85 = .ok (.iload 5, 2) := by decide +kernel
theorem dX11_spreads_87 : decode cX11_spreads 87 = .ok (.iload_n 1, 1) := by decide +kernel
theorem dX11_spreads_88 : decode cX11_spreads 88 = .ok (.iconst 1, 1) := by decide +kernel
theorem dX11_spreads_89 : decode cX11_spreads 89 = .ok (.iadd, 1) := by decide +kernel
theorem dX11_spreads_90 : decode cX11_spreads 90 = .ok (.iastore, 1) := by decide +kernel
theorem dX11_spreads_91 : decode cX11_spreads 91 = .ok (.iconst 1, 1) := by decide +kernel
theorem dX11_spreads_92 : decode cX11_spreads 92 = .ok (.istore_n 2, 1) := by decide +kernel
theorem dX11_spreads_93 : decode cX11_spreads 93 = .ok (.iinc 4 1, 3) := by decide +kernel
theorem dX11_spreads_96 : decode cX11_spreads 96 = .ok (.goto (-83), 3) := by decide +kernel
theorem dX11_spreads_99 : decode cX11_spreads 99 = .ok (.iinc 3 1, 3) := by decide +kernel
theorem dX11_spreads_102 : decode cX11_spreads 102 = .ok (.goto (-98), 3) := by decide +kernel
theorem dX11_spreads_105 : decode cX11_spreads 105 = .ok (.iload_n 2, 1) := by decide +kernel
theorem dX11_spreads_106 : decode cX11_spreads 106 = .ok (.ireturn, 1) := by decide +kernel
theorem dX11_steps_0 : decode cX11_steps 0 = .ok (.iload_n 1, 1) := by decide +kernel
theorem dX11_steps_1 : decode cX11_steps 1 = .ok (.invokestatic 156, 3) := by decide +kernel
theorem dX11_steps_4 : decode cX11_steps 4 = .ok (.ifCond .eq 10, 3) := by decide +kernel
theorem dX11_steps_7 : decode cX11_steps 7 = .ok (.iload_n 2, 1) := by decide +kernel
theorem dX11_steps_8 : decode cX11_steps 8 = .ok (.invokestatic 156, 3) := by decide +kernel
theorem dX11_steps_11 : decode cX11_steps 11 = .ok (.ifCond .ne 6, 3) := by decide +kernel
theorem dX11_steps_14 : decode cX11_steps 14 = .ok (.ldc 48, 2) := by decide +kernel
theorem dX11_steps_16 : decode cX11_steps 16 = .ok (.ireturn, 1) := by decide +kernel
theorem dX11_steps_17 : decode cX11_steps 17 = .ok (.iconst 0, 1) := by decide +kernel
theorem dX11_steps_18 : decode cX11_steps 18 = .ok (.istore_n 3, 1) := by decide +kernel
theorem dX11_steps_19 : decode cX11_steps 19 = .ok (.iload_n 3, 1) := by decide +kernel
theorem dX11_steps_20 : decode cX11_steps 20 = .ok (.bipush 64, 2) := by decide +kernel
theorem dX11_steps_22 : decode cX11_steps 22 = .ok (.if_icmp .ge 25, 3) := by decide +kernel
theorem dX11_steps_25 : decode cX11_steps 25 = .ok (.aload_n 0, 1) := by decide +kernel
theorem dX11_steps_26 : decode cX11_steps 26 = .ok (.getfield 38, 3) := by decide +kernel
theorem dX11_steps_29 : decode cX11_steps 29 = .ok (.iload_n 3, 1) := by decide +kernel
theorem dX11_steps_30 : decode cX11_steps 30 = .ok (.iload_n 3, 1) := by decide +kernel
theorem dX11_steps_31 : decode cX11_steps 31 = .ok (.iload_n 1, 1) := by decide +kernel
theorem dX11_steps_32 : decode cX11_steps 32 = .ok (.if_icmp .ne 7, 3) := by decide +kernel
theorem dX11_steps_35 : decode cX11_steps 35 = .ok (.iconst 0, 1) := by decide +kernel
theorem dX11_steps_36 : decode cX11_steps 36 = .ok (.goto 4, 3) := by decide +kernel
theorem dX11_steps_39 : decode cX11_steps 39 = .ok (.iconst (-1), 1) := by decide +kernel
theorem dX11_steps_40 : decode cX11_steps 40 = .ok (.iastore, 1) := by decide +kernel
theorem dX11_steps_41 : decode cX11_steps 41 = .ok (.iinc 3 1, 3) := by decide +kernel
theorem dX11_steps_44 : decode cX11_steps 44 = .ok (.goto (-25), 3) := by decide +kernel
theorem dX11_steps_47 : decode cX11_steps 47 = .ok (.iconst 0, 1) := by decide +kernel
theorem dX11_steps_48 : decode cX11_steps 48 = .ok (.istore_n 3, 1) := by decide +kernel
theorem dX11_steps_49 : decode cX11_steps 49 = .ok (.aload_n 0, 1) := by decide +kernel
theorem dX11_steps_50 : decode cX11_steps 50 = .ok (.iload_n 3, 1) := by decide +kernel
theorem dX11_steps_51 : decode cX11_steps 51 = .ok (.invokevirtual 223, 3) := by decide +kernel
theorem dX11_steps_54 : decode cX11_steps 54 = .ok (.ifCond .eq 9, 3) := by decide +kernel
theorem dX11_steps_57 : decode cX11_steps 57 = .ok (.iinc 3 1, 3) := by decide +kernel
theorem dX11_steps_60 : decode cX11_steps 60 = .ok (.goto (-11), 3) := by decide +kernel
theorem dX11_steps_63 : decode cX11_steps 63 = .ok (.aload_n 0, 1) := by decide +kernel
theorem dX11_steps_64 : decode cX11_steps 64 = .ok (.getfield 38, 3) := by decide +kernel
theorem dX11_steps_67 : decode cX11_steps 67 = .ok (.iload_n 2, 1) := by decide +kernel
theorem dX11_steps_68 : decode cX11_steps 68 = .ok (.iaload, 1) := by decide +kernel
theorem dX11_steps_69 : decode cX11_steps 69 = .ok (.invokestatic 196, 3) := by decide +kernel
theorem dX11_steps_72 : decode cX11_steps 72 = .ok (.ireturn, 1) := by decide +kernel
theorem dX11_cartsOut_0 : decode cX11_cartsOut 0 = .ok (.iconst 0, 1) := by decide +kernel
theorem dX11_cartsOut_1 : decode cX11_cartsOut 1 = .ok (.istore_n 1, 1) := by decide +kernel
theorem dX11_cartsOut_2 : decode cX11_cartsOut 2 = .ok (.iconst 0, 1) := by decide +kernel
theorem dX11_cartsOut_3 : decode cX11_cartsOut 3 = .ok (.istore_n 2, 1) := by decide +kernel
theorem dX11_cartsOut_4 : decode cX11_cartsOut 4 = .ok (.iload_n 2, 1) := by decide +kernel
theorem dX11_cartsOut_5 : decode cX11_cartsOut 5 = .ok (.aload_n 0, 1) := by decide +kernel
theorem dX11_cartsOut_6 : decode cX11_cartsOut 6 = .ok (.getfield 7, 3) := by decide +kernel
theorem dX11_cartsOut_9 : decode cX11_cartsOut 9 = .ok (.iconst 0, 1) := by decide +kernel
theorem dX11_cartsOut_10 : decode cX11_cartsOut 10 = .ok (.iaload, 1) := by decide +kernel
theorem dX11_cartsOut_11 : decode cX11_cartsOut 11 = .ok (.if_icmp .ge 25, 3) := by decide +kernel
theorem dX11_cartsOut_14 : decode cX11_cartsOut 14 = .ok (.iload_n 1, 1) := by decide +kernel
theorem dX11_cartsOut_15 : decode cX11_cartsOut 15 = .ok (.aload_n 0, 1) := by decide +kernel
theorem dX11_cartsOut_16 : decode cX11_cartsOut 16 = .ok (.iload_n 2, 1) := by decide +kernel
theorem dX11_cartsOut_17 : decode cX11_cartsOut 17 = .ok (.invokevirtual 86, 3) := by decide +kernel
theorem dX11_cartsOut_20 : decode cX11_cartsOut 20 = .ok (.ifCond .eq 7, 3) := by decide +kernel
theorem dX11_cartsOut_23 : decode cX11_cartsOut 23 = .ok (.iconst 1, 1) := by decide +kernel
theorem dX11_cartsOut_24 : decode cX11_cartsOut 24 = .ok (.goto 4, 3) := by decide +kernel
theorem dX11_cartsOut_27 : decode cX11_cartsOut 27 = .ok (.iconst 0, 1) := by decide +kernel
theorem dX11_cartsOut_28 : decode cX11_cartsOut 28 = .ok (.iadd, 1) := by decide +kernel
theorem dX11_cartsOut_29 : decode cX11_cartsOut 29 = .ok (.istore_n 1, 1) := by decide +kernel
theorem dX11_cartsOut_30 : decode cX11_cartsOut 30 = .ok (.iinc 2 1, 3) := by decide +kernel
theorem dX11_cartsOut_33 : decode cX11_cartsOut 33 = .ok (.goto (-29), 3) := by decide +kernel
theorem dX11_cartsOut_36 : decode cX11_cartsOut 36 = .ok (.iload_n 1, 1) := by decide +kernel
theorem dX11_cartsOut_37 : decode cX11_cartsOut 37 = .ok (.ireturn, 1) := by decide +kernel
theorem dX11_count_0 : decode cX11_count 0 = .ok (.iload_n 1, 1) := by decide +kernel
theorem dX11_count_1 : decode cX11_count 1 = .ok (.tableswitch 79 4 9 #[39, 44, 54, 61, 66, 71], 39) := by decide +kernel
theorem dX11_count_40 : decode cX11_count 40 = .ok (.aload_n 0, 1) := by decide +kernel
theorem dX11_count_41 : decode cX11_count 41 = .ok (.invokevirtual 226, 3) := by decide +kernel
theorem dX11_count_44 : decode cX11_count 44 = .ok (.ireturn, 1) := by decide +kernel
theorem dX11_count_45 : decode cX11_count 45 = .ok (.aload_n 0, 1) := by decide +kernel
theorem dX11_count_46 : decode cX11_count 46 = .ok (.getfield 7, 3) := by decide +kernel
theorem dX11_count_49 : decode cX11_count 49 = .ok (.iconst 4, 1) := by decide +kernel
theorem dX11_count_50 : decode cX11_count 50 = .ok (.iaload, 1) := by decide +kernel
theorem dX11_count_51 : decode cX11_count 51 = .ok (.invokestatic 196, 3) := by decide +kernel
theorem dX11_count_54 : decode cX11_count 54 = .ok (.ireturn, 1) := by decide +kernel
theorem dX11_count_55 : decode cX11_count 55 = .ok (.aload_n 0, 1) := by decide +kernel
theorem dX11_count_56 : decode cX11_count 56 = .ok (.getfield 7, 3) := by decide +kernel
theorem dX11_count_59 : decode cX11_count 59 = .ok (.iconst 5, 1) := by decide +kernel
theorem dX11_count_60 : decode cX11_count 60 = .ok (.iaload, 1) := by decide +kernel
theorem dX11_count_61 : decode cX11_count 61 = .ok (.ireturn, 1) := by decide +kernel
theorem dX11_count_62 : decode cX11_count 62 = .ok (.aload_n 0, 1) := by decide +kernel
theorem dX11_count_63 : decode cX11_count 63 = .ok (.getfield 52, 3) := by decide +kernel
theorem dX11_count_66 : decode cX11_count 66 = .ok (.ireturn, 1) := by decide +kernel
theorem dX11_count_67 : decode cX11_count 67 = .ok (.aload_n 0, 1) := by decide +kernel
theorem dX11_count_68 : decode cX11_count 68 = .ok (.getfield 229, 3) := by decide +kernel
theorem dX11_count_71 : decode cX11_count 71 = .ok (.ireturn, 1) := by decide +kernel
theorem dX11_count_72 : decode cX11_count 72 = .ok (.aload_n 0, 1) := by decide +kernel
theorem dX11_count_73 : decode cX11_count 73 = .ok (.getfield 7, 3) := by decide +kernel
theorem dX11_count_76 : decode cX11_count 76 = .ok (.bipush 6, 2) := by decide +kernel
theorem dX11_count_78 : decode cX11_count 78 = .ok (.iaload, 1) := by decide +kernel
theorem dX11_count_79 : decode cX11_count 79 = .ok (.ireturn, 1) := by decide +kernel
theorem dX11_count_80 : decode cX11_count 80 = .ok (.iload_n 1, 1) := by decide +kernel
theorem dX11_count_81 : decode cX11_count 81 = .ok (.iconst 0, 1) := by decide +kernel
theorem dX11_count_82 : decode cX11_count 82 = .ok (.iconst 3, 1) := by decide +kernel
theorem dX11_count_83 : decode cX11_count 83 = .ok (.invokestatic 44, 3) := by decide +kernel
theorem dX11_count_86 : decode cX11_count 86 = .ok (.ifCond .eq 12, 3) := by decide +kernel
theorem dX11_count_89 : decode cX11_count 89 = .ok (.aload_n 0, 1) := by decide +kernel
theorem dX11_count_90 : decode cX11_count 90 = .ok (.getfield 7, 3) := by decide +kernel
theorem dX11_count_93 : decode cX11_count 93 = .ok (.iload_n 1, 1) := by decide +kernel
theorem dX11_count_94 : decode cX11_count 94 = .ok (.iaload, 1) := by decide +kernel
theorem dX11_count_95 : decode cX11_count 95 = .ok (.goto 5, 3) := by decide +kernel
theorem dX11_count_98 : decode cX11_count 98 = .ok (.ldc 48, 2) := by decide +kernel
theorem dX11_count_100 : decode cX11_count 100 = .ok (.ireturn, 1) := by decide +kernel
theorem dX11_undo_0 : decode cX11_undo 0 = .ok (.aload_n 0, 1) := by decide +kernel
theorem dX11_undo_1 : decode cX11_undo 1 = .ok (.getfield 52, 3) := by decide +kernel
theorem dX11_undo_4 : decode cX11_undo 4 = .ok (.ifCond .ne 6, 3) := by decide +kernel
theorem dX11_undo_7 : decode cX11_undo 7 = .ok (.ldc 159, 2) := by decide +kernel
theorem dX11_undo_9 : decode cX11_undo 9 = .ok (.ireturn, 1) := by decide +kernel
theorem dX11_undo_10 : decode cX11_undo 10 = .ok (.aload_n 0, 1) := by decide +kernel
theorem dX11_undo_11 : decode cX11_undo 11 = .ok (.dup, 1) := by decide +kernel
theorem dX11_undo_12 : decode cX11_undo 12 = .ok (.getfield 52, 3) := by decide +kernel
theorem dX11_undo_15 : decode cX11_undo 15 = .ok (.iconst 1, 1) := by decide +kernel
theorem dX11_undo_16 : decode cX11_undo 16 = .ok (.isub, 1) := by decide +kernel
theorem dX11_undo_17 : decode cX11_undo 17 = .ok (.putfield 52, 3) := by decide +kernel
theorem dX11_undo_20 : decode cX11_undo 20 = .ok (.iconst 0, 1) := by decide +kernel
theorem dX11_undo_21 : decode cX11_undo 21 = .ok (.istore_n 1, 1) := by decide +kernel
theorem dX11_undo_22 : decode cX11_undo 22 = .ok (.iload_n 1, 1) := by decide +kernel
theorem dX11_undo_23 : decode cX11_undo 23 = .ok (.sipush 207, 3) := by decide +kernel
theorem dX11_undo_26 : decode cX11_undo 26 = .ok (.if_icmp .ge 30, 3) := by decide +kernel
theorem dX11_undo_29 : decode cX11_undo 29 = .ok (.aload_n 0, 1) := by decide +kernel
theorem dX11_undo_30 : decode cX11_undo 30 = .ok (.getfield 7, 3) := by decide +kernel
theorem dX11_undo_33 : decode cX11_undo 33 = .ok (.iload_n 1, 1) := by decide +kernel
theorem dX11_undo_34 : decode cX11_undo 34 = .ok (.aload_n 0, 1) := by decide +kernel
theorem dX11_undo_35 : decode cX11_undo 35 = .ok (.getfield 19, 3) := by decide +kernel
theorem dX11_undo_38 : decode cX11_undo 38 = .ok (.sipush 207, 3) := by decide +kernel
theorem dX11_undo_41 : decode cX11_undo 41 = .ok (.aload_n 0, 1) := by decide +kernel
theorem dX11_undo_42 : decode cX11_undo 42 = .ok (.getfield 52, 3) := by decide +kernel
theorem dX11_undo_45 : decode cX11_undo 45 = .ok (.imul, 1) := by decide +kernel
theorem dX11_undo_46 : decode cX11_undo 46 = .ok (.iload_n 1, 1) := by decide +kernel
theorem dX11_undo_47 : decode cX11_undo 47 = .ok (.iadd, 1) := by decide +kernel
theorem dX11_undo_48 : decode cX11_undo 48 = .ok (.iaload, 1) := by decide +kernel
theorem dX11_undo_49 : decode cX11_undo 49 = .ok (.iastore, 1) := by decide +kernel
theorem dX11_undo_50 : decode cX11_undo 50 = .ok (.iinc 1 1, 3) := by decide +kernel
theorem dX11_undo_53 : decode cX11_undo 53 = .ok (.goto (-31), 3) := by decide +kernel
theorem dX11_undo_56 : decode cX11_undo 56 = .ok (.aload_n 0, 1) := by decide +kernel
theorem dX11_undo_57 : decode cX11_undo 57 = .ok (.getfield 52, 3) := by decide +kernel
theorem dX11_undo_60 : decode cX11_undo 60 = .ok (.ireturn, 1) := by decide +kernel
theorem dX11_type_0 : decode cX11_type 0 = .ok (.iload_n 1, 1) := by decide +kernel
theorem dX11_type_1 : decode cX11_type 1 = .ok (.bipush 32, 2) := by decide +kernel
theorem dX11_type_3 : decode cX11_type 3 = .ok (.bipush 126, 2) := by decide +kernel
theorem dX11_type_5 : decode cX11_type 5 = .ok (.invokestatic 44, 3) := by decide +kernel
theorem dX11_type_8 : decode cX11_type 8 = .ok (.ifCond .ne 6, 3) := by decide +kernel
theorem dX11_type_11 : decode cX11_type 11 = .ok (.ldc 48, 2) := by decide +kernel
theorem dX11_type_13 : decode cX11_type 13 = .ok (.ireturn, 1) := by decide +kernel
theorem dX11_type_14 : decode cX11_type 14 = .ok (.aload_n 0, 1) := by decide +kernel
theorem dX11_type_15 : decode cX11_type 15 = .ok (.getfield 229, 3) := by decide +kernel
theorem dX11_type_18 : decode cX11_type 18 = .ok (.bipush 60, 2) := by decide +kernel
theorem dX11_type_20 : decode cX11_type 20 = .ok (.if_icmp .ne 6, 3) := by decide +kernel
theorem dX11_type_23 : decode cX11_type 23 = .ok (.ldc 160, 2) := by decide +kernel
theorem dX11_type_25 : decode cX11_type 25 = .ok (.ireturn, 1) := by decide +kernel
theorem dX11_type_26 : decode cX11_type 26 = .ok (.aload_n 0, 1) := by decide +kernel
theorem dX11_type_27 : decode cX11_type 27 = .ok (.getfield 22, 3) := by decide +kernel
theorem dX11_type_30 : decode cX11_type 30 = .ok (.aload_n 0, 1) := by decide +kernel
theorem dX11_type_31 : decode cX11_type 31 = .ok (.getfield 229, 3) := by decide +kernel
theorem dX11_type_34 : decode cX11_type 34 = .ok (.iload_n 1, 1) := by decide +kernel
theorem dX11_type_35 : decode cX11_type 35 = .ok (.iastore, 1) := by decide +kernel
theorem dX11_type_36 : decode cX11_type 36 = .ok (.aload_n 0, 1) := by decide +kernel
theorem dX11_type_37 : decode cX11_type 37 = .ok (.dup, 1) := by decide +kernel
theorem dX11_type_38 : decode cX11_type 38 = .ok (.getfield 229, 3) := by decide +kernel
theorem dX11_type_41 : decode cX11_type 41 = .ok (.iconst 1, 1) := by decide +kernel
theorem dX11_type_42 : decode cX11_type 42 = .ok (.iadd, 1) := by decide +kernel
theorem dX11_type_43 : decode cX11_type 43 = .ok (.putfield 229, 3) := by decide +kernel
theorem dX11_type_46 : decode cX11_type 46 = .ok (.aload_n 0, 1) := by decide +kernel
theorem dX11_type_47 : decode cX11_type 47 = .ok (.getfield 229, 3) := by decide +kernel
theorem dX11_type_50 : decode cX11_type 50 = .ok (.ireturn, 1) := by decide +kernel
theorem dX11_clearText_0 : decode cX11_clearText 0 = .ok (.aload_n 0, 1) := by decide +kernel
theorem dX11_clearText_1 : decode cX11_clearText 1 = .ok (.getfield 229, 3) := by decide +kernel
theorem dX11_clearText_4 : decode cX11_clearText 4 = .ok (.istore_n 1, 1) := by decide +kernel
theorem dX11_clearText_5 : decode cX11_clearText 5 = .ok (.aload_n 0, 1) := by decide +kernel
theorem dX11_clearText_6 : decode cX11_clearText 6 = .ok (.iconst 0, 1) := by decide +kernel
theorem dX11_clearText_7 : decode cX11_clearText 7 = .ok (.putfield 229, 3) := by decide +kernel
theorem dX11_clearText_10 : decode cX11_clearText 10 = .ok (.iload_n 1, 1) := by decide +kernel
theorem dX11_clearText_11 : decode cX11_clearText 11 = .ok (.ireturn, 1) := by decide +kernel
theorem dX11_here_0 : decode cX11_here 0 = .ok (.aload_n 0, 1) := by decide +kernel
theorem dX11_here_1 : decode cX11_here 1 = .ok (.getfield 232, 3) := by decide +kernel
theorem dX11_here_4 : decode cX11_here 4 = .ok (.aload_n 0, 1) := by decide +kernel
theorem dX11_here_5 : decode cX11_here 5 = .ok (.getfield 229, 3) := by decide +kernel
theorem dX11_here_8 : decode cX11_here 8 = .ok (.if_icmp .ge 15, 3) := by decide +kernel
theorem dX11_here_11 : decode cX11_here 11 = .ok (.aload_n 0, 1) := by decide +kernel
theorem dX11_here_12 : decode cX11_here 12 = .ok (.getfield 22, 3) := by decide +kernel
theorem dX11_here_15 : decode cX11_here 15 = .ok (.aload_n 0, 1) := by decide +kernel
theorem dX11_here_16 : decode cX11_here 16 = .ok (.getfield 232, 3) := by decide +kernel
theorem dX11_here_19 : decode cX11_here 19 = .ok (.iaload, 1) := by decide +kernel
theorem dX11_here_20 : decode cX11_here 20 = .ok (.goto 4, 3) := by decide +kernel
theorem dX11_here_23 : decode cX11_here 23 = .ok (.iconst (-1), 1) := by decide +kernel
theorem dX11_here_24 : decode cX11_here 24 = .ok (.ireturn, 1) := by decide +kernel
theorem dX11_isDigit_0 : decode cX11_isDigit 0 = .ok (.aload_n 0, 1) := by decide +kernel
theorem dX11_isDigit_1 : decode cX11_isDigit 1 = .ok (.invokevirtual 235, 3) := by decide +kernel
theorem dX11_isDigit_4 : decode cX11_isDigit 4 = .ok (.bipush 48, 2) := by decide +kernel
theorem dX11_isDigit_6 : decode cX11_isDigit 6 = .ok (.bipush 57, 2) := by decide +kernel
theorem dX11_isDigit_8 : decode cX11_isDigit 8 = .ok (.invokestatic 44, 3) := by decide +kernel
theorem dX11_isDigit_11 : decode cX11_isDigit 11 = .ok (.ireturn, 1) := by decide +kernel
theorem dX11_takesSign_0 : decode cX11_takesSign 0 = .ok (.aload_n 0, 1) := by decide +kernel
theorem dX11_takesSign_1 : decode cX11_takesSign 1 = .ok (.aload_n 0, 1) := by decide +kernel
theorem dX11_takesSign_2 : decode cX11_takesSign 2 = .ok (.getfield 238, 3) := by decide +kernel
theorem dX11_takesSign_5 : decode cX11_takesSign 5 = .ok (.ifCond .eq 15, 3) := by decide +kernel
theorem dX11_takesSign_8 : decode cX11_takesSign 8 = .ok (.aload_n 0, 1) := by decide +kernel
theorem dX11_takesSign_9 : decode cX11_takesSign 9 = .ok (.invokevirtual 235, 3) := by decide +kernel
theorem dX11_takesSign_12 : decode cX11_takesSign 12 = .ok (.iload_n 1, 1) := by decide +kernel
theorem dX11_takesSign_13 : decode cX11_takesSign 13 = .ok (.if_icmp .ne 7, 3) := by decide +kernel
theorem dX11_takesSign_16 : decode cX11_takesSign 16 = .ok (.iconst 1, 1) := by decide +kernel
theorem dX11_takesSign_17 : decode cX11_takesSign 17 = .ok (.goto 4, 3) := by decide +kernel
theorem dX11_takesSign_20 : decode cX11_takesSign 20 = .ok (.iconst 0, 1) := by decide +kernel
theorem dX11_takesSign_21 : decode cX11_takesSign 21 = .ok (.putfield 238, 3) := by decide +kernel
theorem dX11_takesSign_24 : decode cX11_takesSign 24 = .ok (.aload_n 0, 1) := by decide +kernel
theorem dX11_takesSign_25 : decode cX11_takesSign 25 = .ok (.dup, 1) := by decide +kernel
theorem dX11_takesSign_26 : decode cX11_takesSign 26 = .ok (.getfield 232, 3) := by decide +kernel
theorem dX11_takesSign_29 : decode cX11_takesSign 29 = .ok (.aload_n 0, 1) := by decide +kernel
theorem dX11_takesSign_30 : decode cX11_takesSign 30 = .ok (.getfield 238, 3) := by decide +kernel
theorem dX11_takesSign_33 : decode cX11_takesSign 33 = .ok (.ifCond .eq 7, 3) := by decide +kernel
theorem dX11_takesSign_36 : decode cX11_takesSign 36 = .ok (.iconst 1, 1) := by decide +kernel
theorem dX11_takesSign_37 : decode cX11_takesSign 37 = .ok (.goto 4, 3) := by decide +kernel
theorem dX11_takesSign_40 : decode cX11_takesSign 40 = .ok (.iconst 0, 1) := by decide +kernel
theorem dX11_takesSign_41 : decode cX11_takesSign 41 = .ok (.iadd, 1) := by decide +kernel
theorem dX11_takesSign_42 : decode cX11_takesSign 42 = .ok (.putfield 232, 3) := by decide +kernel
theorem dX11_takesSign_45 : decode cX11_takesSign 45 = .ok (.return_, 1) := by decide +kernel
theorem dX11_number_0 : decode cX11_number 0 = .ok (.aload_n 0, 1) := by decide +kernel
theorem dX11_number_1 : decode cX11_number 1 = .ok (.aload_n 0, 1) := by decide +kernel
theorem dX11_number_2 : decode cX11_number 2 = .ok (.getfield 238, 3) := by decide +kernel
theorem dX11_number_5 : decode cX11_number 5 = .ok (.ifCond .eq 14, 3) := by decide +kernel
theorem dX11_number_8 : decode cX11_number 8 = .ok (.aload_n 0, 1) := by decide +kernel
theorem dX11_number_9 : decode cX11_number 9 = .ok (.invokevirtual 242, 3) := by decide +kernel
theorem dX11_number_12 : decode cX11_number 12 = .ok (.ifCond .eq 7, 3) := by decide +kernel
theorem dX11_number_15 : decode cX11_number 15 = .ok (.iconst 1, 1) := by decide +kernel
theorem dX11_number_16 : decode cX11_number 16 = .ok (.goto 4, 3) := by decide +kernel
theorem dX11_number_19 : decode cX11_number 19 = .ok (.iconst 0, 1) := by decide +kernel
theorem dX11_number_20 : decode cX11_number 20 = .ok (.putfield 238, 3) := by decide +kernel
theorem dX11_number_23 : decode cX11_number 23 = .ok (.iconst 0, 1) := by decide +kernel
theorem dX11_number_24 : decode cX11_number 24 = .ok (.istore_n 1, 1) := by decide +kernel
theorem dX11_number_25 : decode cX11_number 25 = .ok (.iconst 0, 1) := by decide +kernel
theorem dX11_number_26 : decode cX11_number 26 = .ok (.istore_n 2, 1) := by decide +kernel
theorem dX11_number_27 : decode cX11_number 27 = .ok (.iload_n 2, 1) := by decide +kernel
theorem dX11_number_28 : decode cX11_number 28 = .ok (.iconst 3, 1) := by decide +kernel
theorem dX11_number_29 : decode cX11_number 29 = .ok (.if_icmp .ge 46, 3) := by decide +kernel
theorem dX11_number_32 : decode cX11_number 32 = .ok (.aload_n 0, 1) := by decide +kernel
theorem dX11_number_33 : decode cX11_number 33 = .ok (.getfield 238, 3) := by decide +kernel
theorem dX11_number_36 : decode cX11_number 36 = .ok (.ifCond .eq 39, 3) := by decide +kernel
theorem dX11_number_39 : decode cX11_number 39 = .ok (.aload_n 0, 1) := by decide +kernel
theorem dX11_number_40 : decode cX11_number 40 = .ok (.invokevirtual 242, 3) := by decide +kernel
theorem dX11_number_43 : decode cX11_number 43 = .ok (.ifCond .eq 32, 3) := by decide +kernel
theorem dX11_number_46 : decode cX11_number 46 = .ok (.bipush 10, 2) := by decide +kernel
theorem dX11_number_48 : decode cX11_number 48 = .ok (.iload_n 1, 1) := by decide +kernel
theorem dX11_number_49 : decode cX11_number 49 = .ok (.imul, 1) := by decide +kernel
theorem dX11_number_50 : decode cX11_number 50 = .ok (.aload_n 0, 1) := by decide +kernel
theorem dX11_number_51 : decode cX11_number 51 = .ok (.invokevirtual 235, 3) := by decide +kernel
theorem dX11_number_54 : decode cX11_number 54 = .ok (.iadd, 1) := by decide +kernel
theorem dX11_number_55 : decode cX11_number 55 = .ok (.bipush 48, 2) := by decide +kernel
theorem dX11_number_57 : decode cX11_number 57 = .ok (.isub, 1) := by decide +kernel
theorem dX11_number_58 : decode cX11_number 58 = .ok (.istore_n 1, 1) := by decide +kernel
theorem dX11_number_59 : decode cX11_number 59 = .ok (.aload_n 0, 1) := by decide +kernel
theorem dX11_number_60 : decode cX11_number 60 = .ok (.dup, 1) := by decide +kernel
theorem dX11_number_61 : decode cX11_number 61 = .ok (.getfield 232, 3) := by decide +kernel
theorem dX11_number_64 : decode cX11_number 64 = .ok (.iconst 1, 1) := by decide +kernel
theorem dX11_number_65 : decode cX11_number 65 = .ok (.iadd, 1) := by decide +kernel
theorem dX11_number_66 : decode cX11_number 66 = .ok (.putfield 232, 3) := by decide +kernel
theorem dX11_number_69 : decode cX11_number 69 = .ok (.iinc 2 1, 3) := by decide +kernel
theorem dX11_number_72 : decode cX11_number 72 = .ok (.goto (-45), 3) := by decide +kernel
theorem dX11_number_75 : decode cX11_number 75 = .ok (.iload_n 1, 1) := by decide +kernel
theorem dX11_number_76 : decode cX11_number 76 = .ok (.ireturn, 1) := by decide +kernel
theorem dX11_wantsOf_0 : decode cX11_wantsOf 0 = .ok (.iload_n 0, 1) := by decide +kernel
theorem dX11_wantsOf_1 : decode cX11_wantsOf 1 = .ok (.lookupswitch 47 #[(99, 45), (107, 45), (112, 43), (119, 45)], 43) := by decide +kernel
theorem dX11_wantsOf_44 : decode cX11_wantsOf 44 = .ok (.iconst 4, 1) := by decide +kernel
theorem dX11_wantsOf_45 : decode cX11_wantsOf 45 = .ok (.ireturn, 1) := by decide +kernel
theorem dX11_wantsOf_46 : decode cX11_wantsOf 46 = .ok (.iconst 2, 1) := by decide +kernel
theorem dX11_wantsOf_47 : decode cX11_wantsOf 47 = .ok (.ireturn, 1) := by decide +kernel
theorem dX11_wantsOf_48 : decode cX11_wantsOf 48 = .ok (.iload_n 0, 1) := by decide +kernel
theorem dX11_wantsOf_49 : decode cX11_wantsOf 49 = .ok (.bipush 114, 2) := by decide +kernel
theorem dX11_wantsOf_51 : decode cX11_wantsOf 51 = .ok (.if_icmp .ne 7, 3) := by decide +kernel
theorem dX11_wantsOf_54 : decode cX11_wantsOf 54 = .ok (.iconst 0, 1) := by decide +kernel
theorem dX11_wantsOf_55 : decode cX11_wantsOf 55 = .ok (.goto 4, 3) := by decide +kernel
theorem dX11_wantsOf_58 : decode cX11_wantsOf 58 = .ok (.iconst (-1), 1) := by decide +kernel
theorem dX11_wantsOf_59 : decode cX11_wantsOf 59 = .ok (.ireturn, 1) := by decide +kernel
theorem dX11_called_0 : decode cX11_called 0 = .ok (.iload_n 1, 1) := by decide +kernel
theorem dX11_called_1 : decode cX11_called 1 = .ok (.lookupswitch 123 #[(99, 106), (107, 72), (112, 43), (119, 89)], 43) := by decide +kernel
theorem dX11_called_44 : decode cX11_called 44 = .ok (.aload_n 0, 1) := by decide +kernel
theorem dX11_called_45 : decode cX11_called 45 = .ok (.aload_n 0, 1) := by decide +kernel
theorem dX11_called_46 : decode cX11_called 46 = .ok (.getfield 41, 3) := by decide +kernel
theorem dX11_called_49 : decode cX11_called 49 = .ok (.iconst 0, 1) := by decide +kernel
theorem dX11_called_50 : decode cX11_called 50 = .ok (.iaload, 1) := by decide +kernel
theorem dX11_called_51 : decode cX11_called 51 = .ok (.aload_n 0, 1) := by decide +kernel
theorem dX11_called_52 : decode cX11_called 52 = .ok (.getfield 41, 3) := by decide +kernel
theorem dX11_called_55 : decode cX11_called 55 = .ok (.iconst 1, 1) := by decide +kernel
theorem dX11_called_56 : decode cX11_called 56 = .ok (.iaload, 1) := by decide +kernel
theorem dX11_called_57 : decode cX11_called 57 = .ok (.aload_n 0, 1) := by decide +kernel
theorem dX11_called_58 : decode cX11_called 58 = .ok (.getfield 41, 3) := by decide +kernel
theorem dX11_called_61 : decode cX11_called 61 = .ok (.iconst 2, 1) := by decide +kernel
theorem dX11_called_62 : decode cX11_called 62 = .ok (.iaload, 1) := by decide +kernel
theorem dX11_called_63 : decode cX11_called 63 = .ok (.aload_n 0, 1) := by decide +kernel
theorem dX11_called_64 : decode cX11_called 64 = .ok (.getfield 41, 3) := by decide +kernel
theorem dX11_called_67 : decode cX11_called 67 = .ok (.iconst 3, 1) := by decide +kernel
theorem dX11_called_68 : decode cX11_called 68 = .ok (.iaload, 1) := by decide +kernel
theorem dX11_called_69 : decode cX11_called 69 = .ok (.invokevirtual 188, 3) := by decide +kernel
theorem dX11_called_72 : decode cX11_called 72 = .ok (.ireturn, 1) := by decide +kernel
theorem dX11_called_73 : decode cX11_called 73 = .ok (.aload_n 0, 1) := by decide +kernel
theorem dX11_called_74 : decode cX11_called 74 = .ok (.aload_n 0, 1) := by decide +kernel
theorem dX11_called_75 : decode cX11_called 75 = .ok (.getfield 41, 3) := by decide +kernel
theorem dX11_called_78 : decode cX11_called 78 = .ok (.iconst 0, 1) := by decide +kernel
theorem dX11_called_79 : decode cX11_called 79 = .ok (.iaload, 1) := by decide +kernel
theorem dX11_called_80 : decode cX11_called 80 = .ok (.aload_n 0, 1) := by decide +kernel
theorem dX11_called_81 : decode cX11_called 81 = .ok (.getfield 41, 3) := by decide +kernel
theorem dX11_called_84 : decode cX11_called 84 = .ok (.iconst 1, 1) := by decide +kernel
theorem dX11_called_85 : decode cX11_called 85 = .ok (.iaload, 1) := by decide +kernel
theorem dX11_called_86 : decode cX11_called 86 = .ok (.invokevirtual 176, 3) := by decide +kernel
theorem dX11_called_89 : decode cX11_called 89 = .ok (.ireturn, 1) := by decide +kernel
theorem dX11_called_90 : decode cX11_called 90 = .ok (.aload_n 0, 1) := by decide +kernel
theorem dX11_called_91 : decode cX11_called 91 = .ok (.aload_n 0, 1) := by decide +kernel
theorem dX11_called_92 : decode cX11_called 92 = .ok (.getfield 41, 3) := by decide +kernel
theorem dX11_called_95 : decode cX11_called 95 = .ok (.iconst 0, 1) := by decide +kernel
theorem dX11_called_96 : decode cX11_called 96 = .ok (.iaload, 1) := by decide +kernel
theorem dX11_called_97 : decode cX11_called 97 = .ok (.aload_n 0, 1) := by decide +kernel
theorem dX11_called_98 : decode cX11_called 98 = .ok (.getfield 41, 3) := by decide +kernel
theorem dX11_called_101 : decode cX11_called 101 = .ok (.iconst 1, 1) := by decide +kernel
theorem dX11_called_102 : decode cX11_called 102 = .ok (.iaload, 1) := by decide +kernel
theorem dX11_called_103 : decode cX11_called 103 = .ok (.invokevirtual 182, 3) := by decide +kernel
theorem dX11_called_106 : decode cX11_called 106 = .ok (.ireturn, 1) := by decide +kernel
theorem dX11_called_107 : decode cX11_called 107 = .ok (.aload_n 0, 1) := by decide +kernel
theorem dX11_called_108 : decode cX11_called 108 = .ok (.aload_n 0, 1) := by decide +kernel
theorem dX11_called_109 : decode cX11_called 109 = .ok (.getfield 41, 3) := by decide +kernel
theorem dX11_called_112 : decode cX11_called 112 = .ok (.iconst 0, 1) := by decide +kernel
theorem dX11_called_113 : decode cX11_called 113 = .ok (.iaload, 1) := by decide +kernel
theorem dX11_called_114 : decode cX11_called 114 = .ok (.aload_n 0, 1) := by decide +kernel
theorem dX11_called_115 : decode cX11_called 115 = .ok (.getfield 41, 3) := by decide +kernel
theorem dX11_called_118 : decode cX11_called 118 = .ok (.iconst 1, 1) := by decide +kernel
theorem dX11_called_119 : decode cX11_called 119 = .ok (.iaload, 1) := by decide +kernel
theorem dX11_called_120 : decode cX11_called 120 = .ok (.invokevirtual 185, 3) := by decide +kernel
theorem dX11_called_123 : decode cX11_called 123 = .ok (.ireturn, 1) := by decide +kernel
theorem dX11_called_124 : decode cX11_called 124 = .ok (.aload_n 0, 1) := by decide +kernel
theorem dX11_called_125 : decode cX11_called 125 = .ok (.invokevirtual 192, 3) := by decide +kernel
theorem dX11_called_128 : decode cX11_called 128 = .ok (.ireturn, 1) := by decide +kernel
theorem dX11_doesAll_0 : decode cX11_doesAll 0 = .ok (.aload_n 0, 1) := by decide +kernel
theorem dX11_doesAll_1 : decode cX11_doesAll 1 = .ok (.iconst 0, 1) := by decide +kernel
theorem dX11_doesAll_2 : decode cX11_doesAll 2 = .ok (.putfield 232, 3) := by decide +kernel
theorem dX11_doesAll_5 : decode cX11_doesAll 5 = .ok (.aload_n 0, 1) := by decide +kernel
theorem dX11_doesAll_6 : decode cX11_doesAll 6 = .ok (.iconst 0, 1) := by decide +kernel
theorem dX11_doesAll_7 : decode cX11_doesAll 7 = .ok (.putfield 246, 3) := by decide +kernel
theorem dX11_doesAll_10 : decode cX11_doesAll 10 = .ok (.aload_n 0, 1) := by decide +kernel
theorem dX11_doesAll_11 : decode cX11_doesAll 11 = .ok (.getfield 232, 3) := by decide +kernel
theorem dX11_doesAll_14 : decode cX11_doesAll 14 = .ok (.aload_n 0, 1) := by decide +kernel
theorem dX11_doesAll_15 : decode cX11_doesAll 15 = .ok (.getfield 229, 3) := by decide +kernel
theorem dX11_doesAll_18 : decode cX11_doesAll 18 = .ok (.if_icmp .ge 146, 3) := by decide +kernel
theorem dX11_doesAll_21 : decode cX11_doesAll 21 = .ok (.aload_n 0, 1) := by decide +kernel
theorem dX11_doesAll_22 : decode cX11_doesAll 22 = .ok (.aload_n 0, 1) := by decide +kernel
theorem dX11_doesAll_23 : decode cX11_doesAll 23 = .ok (.getfield 232, 3) := by decide +kernel
theorem dX11_doesAll_26 : decode cX11_doesAll 26 = .ok (.putfield 249, 3) := by decide +kernel
theorem dX11_doesAll_29 : decode cX11_doesAll 29 = .ok (.aload_n 0, 1) := by decide +kernel
theorem dX11_doesAll_30 : decode cX11_doesAll 30 = .ok (.invokevirtual 235, 3) := by decide +kernel
theorem dX11_doesAll_33 : decode cX11_doesAll 33 = .ok (.istore_n 1, 1) := by decide +kernel
theorem dX11_doesAll_34 : decode cX11_doesAll 34 = .ok (.aload_n 0, 1) := by decide +kernel
theorem dX11_doesAll_35 : decode cX11_doesAll 35 = .ok (.iload_n 1, 1) := by decide +kernel
theorem dX11_doesAll_36 : decode cX11_doesAll 36 = .ok (.invokestatic 252, 3) := by decide +kernel
theorem dX11_doesAll_39 : decode cX11_doesAll 39 = .ok (.ifCond .lt 7, 3) := by decide +kernel
theorem dX11_doesAll_42 : decode cX11_doesAll 42 = .ok (.iconst 1, 1) := by decide +kernel
theorem dX11_doesAll_43 : decode cX11_doesAll 43 = .ok (.goto 4, 3) := by decide +kernel
theorem dX11_doesAll_46 : decode cX11_doesAll 46 = .ok (.iconst 0, 1) := by decide +kernel
theorem dX11_doesAll_47 : decode cX11_doesAll 47 = .ok (.putfield 238, 3) := by decide +kernel
theorem dX11_doesAll_50 : decode cX11_doesAll 50 = .ok (.aload_n 0, 1) := by decide +kernel
theorem dX11_doesAll_51 : decode cX11_doesAll 51 = .ok (.dup, 1) := by decide +kernel
theorem dX11_doesAll_52 : decode cX11_doesAll 52 = .ok (.getfield 232, 3) := by decide +kernel
theorem dX11_doesAll_55 : decode cX11_doesAll 55 = .ok (.aload_n 0, 1) := by decide +kernel
theorem dX11_doesAll_56 : decode cX11_doesAll 56 = .ok (.getfield 238, 3) := by decide +kernel
theorem dX11_doesAll_59 : decode cX11_doesAll 59 = .ok (.ifCond .eq 7, 3) := by decide +kernel
theorem dX11_doesAll_62 : decode cX11_doesAll 62 = .ok (.iconst 1, 1) := by decide +kernel
theorem dX11_doesAll_63 : decode cX11_doesAll 63 = .ok (.goto 4, 3) := by decide +kernel
theorem dX11_doesAll_66 : decode cX11_doesAll 66 = .ok (.iconst 0, 1) := by decide +kernel
theorem dX11_doesAll_67 : decode cX11_doesAll 67 = .ok (.iadd, 1) := by decide +kernel
theorem dX11_doesAll_68 : decode cX11_doesAll 68 = .ok (.putfield 232, 3) := by decide +kernel
theorem dX11_doesAll_71 : decode cX11_doesAll 71 = .ok (.iconst 0, 1) := by decide +kernel
theorem dX11_doesAll_72 : decode cX11_doesAll 72 = .ok (.istore_n 2, 1) := by decide +kernel
theorem dX11_doesAll_73 : decode cX11_doesAll 73 = .ok (.iload_n 2, 1) := by decide +kernel
theorem dX11_doesAll_74 : decode cX11_doesAll 74 = .ok (.iload_n 1, 1) := by decide +kernel
theorem dX11_doesAll_75 : decode cX11_doesAll 75 = .ok (.invokestatic 252, 3) := by decide +kernel
theorem dX11_doesAll_78 : decode cX11_doesAll 78 = .ok (.if_icmp .ge 29, 3) := by decide +kernel
theorem dX11_doesAll_81 : decode cX11_doesAll 81 = .ok (.iload_n 2, 1) := by decide +kernel
theorem dX11_doesAll_82 : decode cX11_doesAll 82 = .ok (.ifCond .le 9, 3) := by decide +kernel
theorem dX11_doesAll_85 : decode cX11_doesAll 85 = .ok (.aload_n 0, 1) := by decide +kernel
theorem dX11_doesAll_86 : decode cX11_doesAll 86 = .ok (.bipush 44, 2) := by decide +kernel
theorem dX11_doesAll_88 : decode cX11_doesAll 88 = .ok (.invokevirtual 255, 3) := by decide +kernel
theorem dX11_doesAll_91 : decode cX11_doesAll 91 = .ok (.aload_n 0, 1) := by decide +kernel
theorem dX11_doesAll_92 : decode cX11_doesAll 92 = .ok (.getfield 41, 3) := by decide +kernel
theorem dX11_doesAll_95 : decode cX11_doesAll 95 = .ok (.iload_n 2, 1) := by decide +kernel
theorem dX11_doesAll_96 : decode cX11_doesAll 96 = .ok (.aload_n 0, 1) := by decide +kernel
theorem dX11_doesAll_97 : decode cX11_doesAll 97 = .ok (.invokevirtual 258, 3) := by decide +kernel
theorem dX11_doesAll_100 : decode cX11_doesAll 100 = .ok (.iastore, 1) := by decide +kernel
theorem dX11_doesAll_101 : decode cX11_doesAll 101 = .ok (.iinc 2 1, 3) := by decide +kernel
theorem dX11_doesAll_104 : decode cX11_doesAll 104 = .ok (.goto (-31), 3) := by decide +kernel
theorem dX11_doesAll_107 : decode cX11_doesAll 107 = .ok (.aload_n 0, 1) := by decide +kernel
theorem dX11_doesAll_108 : decode cX11_doesAll 108 = .ok (.bipush 59, 2) := by decide +kernel
theorem dX11_doesAll_110 : decode cX11_doesAll 110 = .ok (.invokevirtual 255, 3) := by decide +kernel
theorem dX11_doesAll_113 : decode cX11_doesAll 113 = .ok (.aload_n 0, 1) := by decide +kernel
theorem dX11_doesAll_114 : decode cX11_doesAll 114 = .ok (.aload_n 0, 1) := by decide +kernel
theorem dX11_doesAll_115 : decode cX11_doesAll 115 = .ok (.getfield 238, 3) := by decide +kernel
theorem dX11_doesAll_118 : decode cX11_doesAll 118 = .ok (.ifCond .eq 11, 3) := by decide +kernel
theorem dX11_doesAll_121 : decode cX11_doesAll 121 = .ok (.aload_n 0, 1) := by decide +kernel
theorem dX11_doesAll_122 : decode cX11_doesAll 122 = .ok (.iload_n 1, 1) := by decide +kernel
theorem dX11_doesAll_123 : decode cX11_doesAll 123 = .ok (.invokevirtual 261, 3) := by decide +kernel
theorem dX11_doesAll_126 : decode cX11_doesAll 126 = .ok (.goto 4, 3) := by decide +kernel
theorem dX11_doesAll_129 : decode cX11_doesAll 129 = .ok (.iconst 0, 1) := by decide +kernel
theorem dX11_doesAll_130 : decode cX11_doesAll 130 = .ok (.putfield 264, 3) := by decide +kernel
theorem dX11_doesAll_133 : decode cX11_doesAll 133 = .ok (.aload_n 0, 1) := by decide +kernel
theorem dX11_doesAll_134 : decode cX11_doesAll 134 = .ok (.getfield 238, 3) := by decide +kernel
theorem dX11_doesAll_137 : decode cX11_doesAll 137 = .ok (.ifCond .eq 12, 3) := by decide +kernel
theorem dX11_doesAll_140 : decode cX11_doesAll 140 = .ok (.aload_n 0, 1) := by decide +kernel
theorem dX11_doesAll_141 : decode cX11_doesAll 141 = .ok (.getfield 264, 3) := by decide +kernel
theorem dX11_doesAll_144 : decode cX11_doesAll 144 = .ok (.ldc 48, 2) := by decide +kernel
theorem dX11_doesAll_146 : decode cX11_doesAll 146 = .ok (.if_icmp .gt 5, 3) := by decide +kernel
theorem dX11_doesAll_149 : decode cX11_doesAll 149 = .ok (.iconst 0, 1) := by decide +kernel
theorem dX11_doesAll_150 : decode cX11_doesAll 150 = .ok (.ireturn, 1) := by decide +kernel
theorem dX11_doesAll_151 : decode cX11_doesAll 151 = .ok (.aload_n 0, 1) := by decide +kernel
theorem dX11_doesAll_152 : decode cX11_doesAll 152 = .ok (.dup, 1) := by decide +kernel
theorem dX11_doesAll_153 : decode cX11_doesAll 153 = .ok (.getfield 246, 3) := by decide +kernel
theorem dX11_doesAll_156 : decode cX11_doesAll 156 = .ok (.iconst 1, 1) := by decide +kernel
theorem dX11_doesAll_157 : decode cX11_doesAll 157 = .ok (.iadd, 1) := by decide +kernel
theorem dX11_doesAll_158 : decode cX11_doesAll 158 = .ok (.putfield 246, 3) := by decide +kernel
theorem dX11_doesAll_161 : decode cX11_doesAll 161 = .ok (.goto (-151), 3) := by decide +kernel
theorem dX11_doesAll_164 : decode cX11_doesAll 164 = .ok (.iconst 1, 1) := by decide +kernel
theorem dX11_doesAll_165 : decode cX11_doesAll 165 = .ok (.ireturn, 1) := by decide +kernel
theorem dX11_fault_0 : decode cX11_fault 0 = .ok (.iload_n 1, 1) := by decide +kernel
theorem dX11_fault_1 : decode cX11_fault 1 = .ok (.iconst 0, 1) := by decide +kernel
theorem dX11_fault_2 : decode cX11_fault 2 = .ok (.iconst 2, 1) := by decide +kernel
theorem dX11_fault_3 : decode cX11_fault 3 = .ok (.invokestatic 44, 3) := by decide +kernel
theorem dX11_fault_6 : decode cX11_fault 6 = .ok (.ifCond .ne 6, 3) := by decide +kernel
theorem dX11_fault_9 : decode cX11_fault 9 = .ok (.ldc 48, 2) := by decide +kernel
theorem dX11_fault_11 : decode cX11_fault 11 = .ok (.ireturn, 1) := by decide +kernel
theorem dX11_fault_12 : decode cX11_fault 12 = .ok (.aload_n 0, 1) := by decide +kernel
theorem dX11_fault_13 : decode cX11_fault 13 = .ok (.invokevirtual 173, 3) := by decide +kernel
theorem dX11_fault_16 : decode cX11_fault 16 = .ok (.aload_n 0, 1) := by decide +kernel
theorem dX11_fault_17 : decode cX11_fault 17 = .ok (.invokevirtual 267, 3) := by decide +kernel
theorem dX11_fault_20 : decode cX11_fault 20 = .ok (.istore_n 2, 1) := by decide +kernel
theorem dX11_fault_21 : decode cX11_fault 21 = .ok (.aload_n 0, 1) := by decide +kernel
theorem dX11_fault_22 : decode cX11_fault 22 = .ok (.invokevirtual 49, 3) := by decide +kernel
theorem dX11_fault_25 : decode cX11_fault 25 = .ok (.iload_n 2, 1) := by decide +kernel
theorem dX11_fault_26 : decode cX11_fault 26 = .ok (.ifCond .eq 6, 3) := by decide +kernel
theorem dX11_fault_29 : decode cX11_fault 29 = .ok (.ldc 195, 2) := by decide +kernel
theorem dX11_fault_31 : decode cX11_fault 31 = .ok (.ireturn, 1) := by decide +kernel
theorem dX11_fault_32 : decode cX11_fault 32 = .ok (.iload_n 1, 1) := by decide +kernel
theorem dX11_fault_33 : decode cX11_fault 33 = .ok (.ifCond .ne 10, 3) := by decide +kernel
theorem dX11_fault_36 : decode cX11_fault 36 = .ok (.aload_n 0, 1) := by decide +kernel
theorem dX11_fault_37 : decode cX11_fault 37 = .ok (.getfield 249, 3) := by decide +kernel
theorem dX11_fault_40 : decode cX11_fault 40 = .ok (.goto 46, 3) := by decide +kernel
theorem dX11_fault_43 : decode cX11_fault 43 = .ok (.iload_n 1, 1) := by decide +kernel
theorem dX11_fault_44 : decode cX11_fault 44 = .ok (.iconst 1, 1) := by decide +kernel
theorem dX11_fault_45 : decode cX11_fault 45 = .ok (.if_icmp .ne 18, 3) := by decide +kernel
theorem dX11_fault_48 : decode cX11_fault 48 = .ok (.aload_n 0, 1) := by decide +kernel
theorem dX11_fault_49 : decode cX11_fault 49 = .ok (.getfield 238, 3) := by decide +kernel
theorem dX11_fault_52 : decode cX11_fault 52 = .ok (.ifCond .eq 7, 3) := by decide +kernel
theorem dX11_fault_55 : decode cX11_fault 55 = .ok (.iconst 2, 1) := by decide +kernel
theorem dX11_fault_56 : decode cX11_fault 56 = .ok (.goto 30, 3) := by decide +kernel
theorem dX11_fault_59 : decode cX11_fault 59 = .ok (.iconst 1, 1) := by decide +kernel
theorem dX11_fault_60 : decode cX11_fault 60 = .ok (.goto 26, 3) := by decide +kernel
theorem dX11_fault_63 : decode cX11_fault 63 = .ok (.aload_n 0, 1) := by decide +kernel
theorem dX11_fault_64 : decode cX11_fault 64 = .ok (.getfield 238, 3) := by decide +kernel
theorem dX11_fault_67 : decode cX11_fault 67 = .ok (.ifCond .eq 10, 3) := by decide +kernel
theorem dX11_fault_70 : decode cX11_fault 70 = .ok (.aload_n 0, 1) := by decide +kernel
theorem dX11_fault_71 : decode cX11_fault 71 = .ok (.getfield 264, 3) := by decide +kernel
theorem dX11_fault_74 : decode cX11_fault 74 = .ok (.goto 12, 3) := by decide +kernel
theorem dX11_fault_77 : decode cX11_fault 77 = .ok (.aload_n 0, 1) := by decide +kernel
theorem dX11_fault_78 : decode cX11_fault 78 = .ok (.getfield 232, 3) := by decide +kernel
theorem dX11_fault_81 : decode cX11_fault 81 = .ok (.aload_n 0, 1) := by decide +kernel
theorem dX11_fault_82 : decode cX11_fault 82 = .ok (.getfield 249, 3) := by decide +kernel
theorem dX11_fault_85 : decode cX11_fault 85 = .ok (.isub, 1) := by decide +kernel
theorem dX11_fault_86 : decode cX11_fault 86 = .ok (.ireturn, 1) := by decide +kernel
theorem dX11_play_0 : decode cX11_play 0 = .ok (.aload_n 0, 1) := by decide +kernel
theorem dX11_play_1 : decode cX11_play 1 = .ok (.invokevirtual 173, 3) := by decide +kernel
theorem dX11_play_4 : decode cX11_play 4 = .ok (.aload_n 0, 1) := by decide +kernel
theorem dX11_play_5 : decode cX11_play 5 = .ok (.aload_n 0, 1) := by decide +kernel
theorem dX11_play_6 : decode cX11_play 6 = .ok (.invokevirtual 267, 3) := by decide +kernel
theorem dX11_play_9 : decode cX11_play 9 = .ok (.ifCond .eq 10, 3) := by decide +kernel
theorem dX11_play_12 : decode cX11_play 12 = .ok (.aload_n 0, 1) := by decide +kernel
theorem dX11_play_13 : decode cX11_play 13 = .ok (.getfield 246, 3) := by decide +kernel
theorem dX11_play_16 : decode cX11_play 16 = .ok (.goto 5, 3) := by decide +kernel
theorem dX11_play_19 : decode cX11_play 19 = .ok (.ldc 159, 2) := by decide +kernel
theorem dX11_play_21 : decode cX11_play 21 = .ok (.invokevirtual 179, 3) := by decide +kernel
theorem dX11_play_24 : decode cX11_play 24 = .ok (.ireturn, 1) := by decide +kernel
end
