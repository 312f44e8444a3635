section
-- ===== PART A: goes FIRST, ahead of the names: the tables' words, and 'selects' of the private methods out of them =====
/-- a private method of a class that the tables say can be made, by its rows of tables_1 -/
def lw_okq (q : MethodName × Nat) : Prop := (q.1.cls ≠ "java/lang/invoke/MethodHandle" ∧ q.1.cls ≠ "java/lang/invoke/VarHandle") ∧ Cond.instantiable q.1.cls q.2 ∈ tables_1 ∧ Cond.privateMethod q.1 ∈ tables_1 ∧ Cond.instanceMethod q.1 ∈ tables_1
theorem lw_p0 : lw_okq (⟨"LockedCarts", "freshTrial", "()LLockedCarts$Race;"⟩, 7) := ⟨⟨by decide +kernel, by decide +kernel⟩, List.mem_of_getElem? (i := 17) (by decide +kernel), List.mem_of_getElem? (i := 442) (by decide +kernel), List.mem_of_getElem? (i := 443) (by decide +kernel)⟩
theorem lw_p1 : lw_okq (⟨"LockedCarts", "keep", "(I)I"⟩, 7) := ⟨⟨by decide +kernel, by decide +kernel⟩, List.mem_of_getElem? (i := 17) (by decide +kernel), List.mem_of_getElem? (i := 466) (by decide +kernel), List.mem_of_getElem? (i := 467) (by decide +kernel)⟩
theorem lw_p2 : lw_okq (⟨"LockedCarts$History", "dropOldest", "()V"⟩, 2) := ⟨⟨by decide +kernel, by decide +kernel⟩, List.mem_of_getElem? (i := 150) (by decide +kernel), List.mem_of_getElem? (i := 477) (by decide +kernel), List.mem_of_getElem? (i := 478) (by decide +kernel)⟩
theorem lw_p3 : lw_okq (⟨"LockedCarts$Board", "flipSide", "(II)V"⟩, 4) := ⟨⟨by decide +kernel, by decide +kernel⟩, List.mem_of_getElem? (i := 31) (by decide +kernel), List.mem_of_getElem? (i := 505) (by decide +kernel), List.mem_of_getElem? (i := 506) (by decide +kernel)⟩
theorem lw_p4 : lw_okq (⟨"LockedCarts$Cards", "insert", "(LLockedCarts$Race;II)V"⟩, 2) := ⟨⟨by decide +kernel, by decide +kernel⟩, List.mem_of_getElem? (i := 173) (by decide +kernel), List.mem_of_getElem? (i := 591) (by decide +kernel), List.mem_of_getElem? (i := 592) (by decide +kernel)⟩
theorem lw_p5 : lw_okq (⟨"LockedCarts$Cards", "step", "(LLockedCarts$Race;II)Z"⟩, 2) := ⟨⟨by decide +kernel, by decide +kernel⟩, List.mem_of_getElem? (i := 173) (by decide +kernel), List.mem_of_getElem? (i := 600) (by decide +kernel), List.mem_of_getElem? (i := 601) (by decide +kernel)⟩
theorem lw_p6 : lw_okq (⟨"LockedCarts$Belts", "askAll", "(LLockedCarts$Race;)V"⟩, 3) := ⟨⟨by decide +kernel, by decide +kernel⟩, List.mem_of_getElem? (i := 187) (by decide +kernel), List.mem_of_getElem? (i := 620) (by decide +kernel), List.mem_of_getElem? (i := 621) (by decide +kernel)⟩
theorem lw_p7 : lw_okq (⟨"LockedCarts$Belts", "isHindered", "(LLockedCarts$Race;I)Z"⟩, 3) := ⟨⟨by decide +kernel, by decide +kernel⟩, List.mem_of_getElem? (i := 187) (by decide +kernel), List.mem_of_getElem? (i := 627) (by decide +kernel), List.mem_of_getElem? (i := 628) (by decide +kernel)⟩
theorem lw_p8 : lw_okq (⟨"LockedCarts$Belts", "isBlocked", "(LLockedCarts$Race;I)Z"⟩, 3) := ⟨⟨by decide +kernel, by decide +kernel⟩, List.mem_of_getElem? (i := 187) (by decide +kernel), List.mem_of_getElem? (i := 631) (by decide +kernel), List.mem_of_getElem? (i := 632) (by decide +kernel)⟩
theorem lw_p9 : lw_okq (⟨"LockedCarts$Race", "cellToComeBack", "(I)I"⟩, 8) := ⟨⟨by decide +kernel, by decide +kernel⟩, List.mem_of_getElem? (i := 25) (by decide +kernel), List.mem_of_getElem? (i := 669) (by decide +kernel), List.mem_of_getElem? (i := 670) (by decide +kernel)⟩
theorem lw_p10 : lw_okq (⟨"LockedCarts", "distanceBehind", "(IIII)I"⟩, 7) := ⟨⟨by decide +kernel, by decide +kernel⟩, List.mem_of_getElem? (i := 17) (by decide +kernel), List.mem_of_getElem? (i := 684) (by decide +kernel), List.mem_of_getElem? (i := 685) (by decide +kernel)⟩
theorem lw_p11 : lw_okq (⟨"LockedCarts$Ways", "reach", "(II)V"⟩, 3) := ⟨⟨by decide +kernel, by decide +kernel⟩, List.mem_of_getElem? (i := 211) (by decide +kernel), List.mem_of_getElem? (i := 710) (by decide +kernel), List.mem_of_getElem? (i := 711) (by decide +kernel)⟩
theorem lw_p12 : lw_okq (⟨"LockedCarts$Ways", "reachAround", "(LLockedCarts$Board;I)V"⟩, 3) := ⟨⟨by decide +kernel, by decide +kernel⟩, List.mem_of_getElem? (i := 211) (by decide +kernel), List.mem_of_getElem? (i := 714) (by decide +kernel), List.mem_of_getElem? (i := 715) (by decide +kernel)⟩
theorem lw_p13 : lw_okq (⟨"LockedCarts$OrderText", "take", "(C)Z"⟩, 5) := ⟨⟨by decide +kernel, by decide +kernel⟩, List.mem_of_getElem? (i := 227) (by decide +kernel), List.mem_of_getElem? (i := 763) (by decide +kernel), List.mem_of_getElem? (i := 764) (by decide +kernel)⟩
theorem lw_p14 : lw_okq (⟨"LockedCarts$OrderText", "takeNumber", "(I)Z"⟩, 5) := ⟨⟨by decide +kernel, by decide +kernel⟩, List.mem_of_getElem? (i := 227) (by decide +kernel), List.mem_of_getElem? (i := 767) (by decide +kernel), List.mem_of_getElem? (i := 768) (by decide +kernel)⟩
theorem lw_p15 : lw_okq (⟨"LockedCarts$OrderRunner", "obey", "(LLockedCarts$Race;[I)I"⟩, 6) := ⟨⟨by decide +kernel, by decide +kernel⟩, List.mem_of_getElem? (i := 255) (by decide +kernel), List.mem_of_getElem? (i := 771) (by decide +kernel), List.mem_of_getElem? (i := 772) (by decide +kernel)⟩
def lw_privs_1 : List (MethodName × Nat) := [(⟨"LockedCarts", "freshTrial", "()LLockedCarts$Race;"⟩, 7), (⟨"LockedCarts", "keep", "(I)I"⟩, 7), (⟨"LockedCarts$History", "dropOldest", "()V"⟩, 2), (⟨"LockedCarts$Board", "flipSide", "(II)V"⟩, 4), (⟨"LockedCarts$Cards", "insert", "(LLockedCarts$Race;II)V"⟩, 2), (⟨"LockedCarts$Cards", "step", "(LLockedCarts$Race;II)Z"⟩, 2), (⟨"LockedCarts$Belts", "askAll", "(LLockedCarts$Race;)V"⟩, 3), (⟨"LockedCarts$Belts", "isHindered", "(LLockedCarts$Race;I)Z"⟩, 3), (⟨"LockedCarts$Belts", "isBlocked", "(LLockedCarts$Race;I)Z"⟩, 3), (⟨"LockedCarts$Race", "cellToComeBack", "(I)I"⟩, 8), (⟨"LockedCarts", "distanceBehind", "(IIII)I"⟩, 7), (⟨"LockedCarts$Ways", "reach", "(II)V"⟩, 3), (⟨"LockedCarts$Ways", "reachAround", "(LLockedCarts$Board;I)V"⟩, 3), (⟨"LockedCarts$OrderText", "take", "(C)Z"⟩, 5), (⟨"LockedCarts$OrderText", "takeNumber", "(I)Z"⟩, 5), (⟨"LockedCarts$OrderRunner", "obey", "(LLockedCarts$Race;[I)I"⟩, 6)]
theorem lw_r1 : ∀ q ∈ lw_privs_1, lw_okq q := List.forall_mem_cons.mpr ⟨lw_p0, List.forall_mem_cons.mpr ⟨lw_p1, List.forall_mem_cons.mpr ⟨lw_p2, List.forall_mem_cons.mpr ⟨lw_p3, List.forall_mem_cons.mpr ⟨lw_p4, List.forall_mem_cons.mpr ⟨lw_p5, List.forall_mem_cons.mpr ⟨lw_p6, List.forall_mem_cons.mpr ⟨lw_p7, List.forall_mem_cons.mpr ⟨lw_p8, List.forall_mem_cons.mpr ⟨lw_p9, List.forall_mem_cons.mpr ⟨lw_p10, List.forall_mem_cons.mpr ⟨lw_p11, List.forall_mem_cons.mpr ⟨lw_p12, List.forall_mem_cons.mpr ⟨lw_p13, List.forall_mem_cons.mpr ⟨lw_p14, List.forall_mem_cons.mpr ⟨lw_p15, fun _ h => absurd h List.not_mem_nil⟩⟩⟩⟩⟩⟩⟩⟩⟩⟩⟩⟩⟩⟩⟩⟩
def lw_privs : List (MethodName × Nat) := lw_privs_1
def lw_tbl : List Cond := k2_sels lw_privs ++ tables_1
theorem lw_privs_ok : ∀ q ∈ lw_privs, lw_okq q := lw_r1
end
section
def RX0 : String := "LockedCarts$Belts"
def TX0 : u_T := fun k => match k with
  | 0 => ("LockedCarts$Belts", "onBelt", "[Z", true)
  | 1 => ("LockedCarts$Belts", "wanted", "[I", true)
  | _ => ("LockedCarts$Belts", "carried", "[Z", true)
def tyX0 : Nat → FieldType := fun k => match k with
  | 0 => .array .boolean
  | 1 => .array .int
  | _ => .array .boolean
abbrev wsX00 : List Cond := u_ws RX0 TX0 3
theorem nmX0 : ∀ a, a < 3 → ∀ b, b < 3 → a ≠ b → (TX0 a).2.1 ≠ (TX0 b).2.1 := by decide +kernel
theorem tyX0_ok : ∀ k, k < 3 → parseFieldDescriptor (TX0 k).2.2.1 = some (tyX0 k) := by decide +kernel
abbrev cX0_init : ByteArray := prog_2_method_1_code
def yX0_init : MethodName := ⟨RX0, "<init>", "()V"⟩
abbrev cX0_carry : ByteArray := prog_2_method_2_code
def yX0_carry : MethodName := ⟨RX0, "carry", "(LLockedCarts$Race;)V"⟩
abbrev cX0_askAll : ByteArray := prog_2_method_3_code
def yX0_askAll : MethodName := ⟨RX0, "askAll", "(LLockedCarts$Race;)V"⟩
abbrev cX0_isHindered : ByteArray := prog_2_method_4_code
def yX0_isHindered : MethodName := ⟨RX0, "isHindered", "(LLockedCarts$Race;I)Z"⟩
abbrev cX0_isBlocked : ByteArray := prog_2_method_5_code
def yX0_isBlocked : MethodName := ⟨RX0, "isBlocked", "(LLockedCarts$Race;I)Z"⟩
def RX1 : String := "LockedCarts$Board"
def TX1 : u_T := fun k => match k with
  | 0 => ("LockedCarts$Board", "kinds", "[I", true)
  | 1 => ("LockedCarts$Board", "walls", "[I", true)
  | 2 => ("LockedCarts$Board", "flags", "[I", true)
  | _ => ("LockedCarts$Board", "flagCount", "I", false)
def tyX1 : Nat → FieldType := fun k => match k with
  | 0 => .array .int
  | 1 => .array .int
  | 2 => .array .int
  | _ => .int
abbrev wsX10 : List Cond := u_ws RX1 TX1 4
theorem nmX1 : ∀ a, a < 4 → ∀ b, b < 4 → a ≠ b → (TX1 a).2.1 ≠ (TX1 b).2.1 := by decide +kernel
theorem tyX1_ok : ∀ k, k < 4 → parseFieldDescriptor (TX1 k).2.2.1 = some (tyX1 k) := by decide +kernel
abbrev cX1_init : ByteArray := prog_3_method_1_code
def yX1_init : MethodName := ⟨RX1, "<init>", "()V"⟩
abbrev cX1_copyFrom : ByteArray := prog_3_method_2_code
def yX1_copyFrom : MethodName := ⟨RX1, "copyFrom", "(LLockedCarts$Board;)V"⟩
abbrev cX1_kindOn : ByteArray := prog_3_method_3_code
def yX1_kindOn : MethodName := ⟨RX1, "kindOn", "(I)I"⟩
abbrev cX1_isPit : ByteArray := prog_3_method_4_code
def yX1_isPit : MethodName := ⟨RX1, "isPit", "(I)Z"⟩
abbrev cX1_wallsOf : ByteArray := prog_3_method_5_code
def yX1_wallsOf : MethodName := ⟨RX1, "wallsOf", "(I)I"⟩
abbrev cX1_hasWall : ByteArray := prog_3_method_6_code
def yX1_hasWall : MethodName := ⟨RX1, "hasWall", "(II)Z"⟩
abbrev cX1_flipWall : ByteArray := prog_3_method_7_code
def yX1_flipWall : MethodName := ⟨RX1, "flipWall", "(II)V"⟩
abbrev cX1_flipSide : ByteArray := prog_3_method_8_code
def yX1_flipSide : MethodName := ⟨RX1, "flipSide", "(II)V"⟩
abbrev cX1_lowestFlagOn : ByteArray := prog_3_method_9_code
def yX1_lowestFlagOn : MethodName := ⟨RX1, "lowestFlagOn", "(I)I"⟩
abbrev cX1_neighbour : ByteArray := prog_3_method_10_code
def yX1_neighbour : MethodName := ⟨RX1, "neighbour", "(II)I"⟩
abbrev cX1_distance : ByteArray := prog_3_method_11_code
def yX1_distance : MethodName := ⟨RX1, "distance", "(II)I"⟩
def RX2 : String := "LockedCarts$Cards"
def TX2 : u_T := fun k => match k with
  | 0 => ("LockedCarts$Cards", "order", "[I", true)
  | _ => ("LockedCarts$Cards", "chain", "[I", true)
def tyX2 : Nat → FieldType := fun k => match k with
  | 0 => .array .int
  | _ => .array .int
abbrev wsX20 : List Cond := u_ws RX2 TX2 2
theorem nmX2 : ∀ a, a < 2 → ∀ b, b < 2 → a ≠ b → (TX2 a).2.1 ≠ (TX2 b).2.1 := by decide +kernel
theorem tyX2_ok : ∀ k, k < 2 → parseFieldDescriptor (TX2 k).2.2.1 = some (tyX2 k) := by decide +kernel
abbrev cX2_init : ByteArray := prog_4_method_1_code
def yX2_init : MethodName := ⟨RX2, "<init>", "()V"⟩
abbrev cX2_arrange : ByteArray := prog_4_method_2_code
def yX2_arrange : MethodName := ⟨RX2, "arrange", "(LLockedCarts$Race;)I"⟩
abbrev cX2_insert : ByteArray := prog_4_method_3_code
def yX2_insert : MethodName := ⟨RX2, "insert", "(LLockedCarts$Race;II)V"⟩
abbrev cX2_follow : ByteArray := prog_4_method_4_code
def yX2_follow : MethodName := ⟨RX2, "follow", "(LLockedCarts$Race;I)V"⟩
abbrev cX2_step : ByteArray := prog_4_method_5_code
def yX2_step : MethodName := ⟨RX2, "step", "(LLockedCarts$Race;II)Z"⟩
def RX3 : String := "LockedCarts$Cart"
def TX3 : u_T := fun k => match k with
  | 0 => ("LockedCarts$Cart", "moves", "[I", true)
  | 1 => ("LockedCarts$Cart", "ranks", "[I", true)
  | 2 => ("LockedCarts$Cart", "start", "I", false)
  | 3 => ("LockedCarts$Cart", "cell", "I", false)
  | 4 => ("LockedCarts$Cart", "direction", "I", false)
  | 5 => ("LockedCarts$Cart", "damage", "I", false)
  | 6 => ("LockedCarts$Cart", "touched", "I", false)
  | 7 => ("LockedCarts$Cart", "timesOut", "I", false)
  | _ => ("LockedCarts$Cart", "timesStopped", "I", false)
def tyX3 : Nat → FieldType := fun k => match k with
  | 0 => .array .int
  | 1 => .array .int
  | 2 => .int
  | 3 => .int
  | 4 => .int
  | 5 => .int
  | 6 => .int
  | 7 => .int
  | _ => .int
abbrev wsX30 : List Cond := u_ws RX3 TX3 9
theorem nmX3 : ∀ a, a < 9 → ∀ b, b < 9 → a ≠ b → (TX3 a).2.1 ≠ (TX3 b).2.1 := by decide +kernel
theorem tyX3_ok : ∀ k, k < 9 → parseFieldDescriptor (TX3 k).2.2.1 = some (tyX3 k) := by decide +kernel
abbrev cX3_init : ByteArray := prog_5_method_1_code
def yX3_init : MethodName := ⟨RX3, "<init>", "()V"⟩
abbrev cX3_copyFrom : ByteArray := prog_5_method_2_code
def yX3_copyFrom : MethodName := ⟨RX3, "copyFrom", "(LLockedCarts$Cart;)V"⟩
abbrev cX3_begin : ByteArray := prog_5_method_3_code
def yX3_begin : MethodName := ⟨RX3, "begin", "(II)V"⟩
abbrev cX3_isOut : ByteArray := prog_5_method_4_code
def yX3_isOut : MethodName := ⟨RX3, "isOut", "()Z"⟩
abbrev cX3_hasCard : ByteArray := prog_5_method_5_code
def yX3_hasCard : MethodName := ⟨RX3, "hasCard", "(I)Z"⟩
abbrev cX3_unlockedRegisters : ByteArray := prog_5_method_6_code
def yX3_unlockedRegisters : MethodName := ⟨RX3, "unlockedRegisters", "()I"⟩
abbrev cX3_isLocked : ByteArray := prog_5_method_7_code
def yX3_isLocked : MethodName := ⟨RX3, "isLocked", "(I)Z"⟩
abbrev cX3_lay : ByteArray := prog_5_method_8_code
def yX3_lay : MethodName := ⟨RX3, "lay", "(III)V"⟩
abbrev cX3_emptyRegisters : ByteArray := prog_5_method_9_code
def yX3_emptyRegisters : MethodName := ⟨RX3, "emptyRegisters", "(I)V"⟩
abbrev cX3_addDamage : ByteArray := prog_5_method_10_code
def yX3_addDamage : MethodName := ⟨RX3, "addDamage", "(I)V"⟩
abbrev cX3_bump : ByteArray := prog_5_method_11_code
def yX3_bump : MethodName := ⟨RX3, "bump", "()V"⟩
abbrev cX3_lockedSet : ByteArray := prog_5_method_12_code
def yX3_lockedSet : MethodName := ⟨RX3, "lockedSet", "()I"⟩
abbrev cX3_cardSet : ByteArray := prog_5_method_13_code
def yX3_cardSet : MethodName := ⟨RX3, "cardSet", "()I"⟩
abbrev cX3_value : ByteArray := prog_5_method_14_code
def yX3_value : MethodName := ⟨RX3, "value", "(I)I"⟩
def RX4 : String := "LockedCarts$History"
def TX4 : u_T := fun k => match k with
  | 0 => ("LockedCarts$History", "states", "[LLockedCarts$Race;", true)
  | _ => ("LockedCarts$History", "size", "I", false)
def tyX4 : Nat → FieldType := fun k => match k with
  | 0 => .array (.object "LockedCarts$Race")
  | _ => .int
abbrev wsX40 : List Cond := u_ws RX4 TX4 2
theorem nmX4 : ∀ a, a < 2 → ∀ b, b < 2 → a ≠ b → (TX4 a).2.1 ≠ (TX4 b).2.1 := by decide +kernel
theorem tyX4_ok : ∀ k, k < 2 → parseFieldDescriptor (TX4 k).2.2.1 = some (tyX4 k) := by decide +kernel
abbrev cX4_init : ByteArray := prog_6_method_1_code
def yX4_init : MethodName := ⟨RX4, "<init>", "()V"⟩
abbrev cX4_add : ByteArray := prog_6_method_2_code
def yX4_add : MethodName := ⟨RX4, "add", "(LLockedCarts$Race;)V"⟩
abbrev cX4_restore : ByteArray := prog_6_method_3_code
def yX4_restore : MethodName := ⟨RX4, "restore", "(LLockedCarts$Race;)V"⟩
abbrev cX4_dropOldest : ByteArray := prog_6_method_4_code
def yX4_dropOldest : MethodName := ⟨RX4, "dropOldest", "()V"⟩
def RX5 : String := "LockedCarts$OrderRunner"
def TX5 : u_T := fun k => match k with
  | 0 => ("LockedCarts$OrderRunner", "text", "LLockedCarts$OrderText;", true)
  | 1 => ("LockedCarts$OrderRunner", "runner", "LLockedCarts$PhaseRunner;", true)
  | 2 => ("LockedCarts$OrderRunner", "done", "I", false)
  | 3 => ("LockedCarts$OrderRunner", "position", "I", false)
  | 4 => ("LockedCarts$OrderRunner", "reason", "I", false)
  | _ => ("LockedCarts$OrderRunner", "cause", "I", false)
def tyX5 : Nat → FieldType := fun k => match k with
  | 0 => .object "LockedCarts$OrderText"
  | 1 => .object "LockedCarts$PhaseRunner"
  | 2 => .int
  | 3 => .int
  | 4 => .int
  | _ => .int
abbrev wsX50 : List Cond := u_ws RX5 TX5 6
theorem nmX5 : ∀ a, a < 6 → ∀ b, b < 6 → a ≠ b → (TX5 a).2.1 ≠ (TX5 b).2.1 := by decide +kernel
theorem tyX5_ok : ∀ k, k < 6 → parseFieldDescriptor (TX5 k).2.2.1 = some (tyX5 k) := by decide +kernel
abbrev cX5_init : ByteArray := prog_7_method_1_code
def yX5_init : MethodName := ⟨RX5, "<init>", "(LLockedCarts$OrderText;LLockedCarts$PhaseRunner;)V"⟩
abbrev cX5_isFaulty : ByteArray := prog_7_method_2_code
def yX5_isFaulty : MethodName := ⟨RX5, "isFaulty", "()Z"⟩
abbrev cX5_doAll : ByteArray := prog_7_method_3_code
def yX5_doAll : MethodName := ⟨RX5, "doAll", "(LLockedCarts$Race;)V"⟩
abbrev cX5_obey : ByteArray := prog_7_method_4_code
def yX5_obey : MethodName := ⟨RX5, "obey", "(LLockedCarts$Race;[I)I"⟩
def RX6 : String := "LockedCarts$OrderText"
def TX6 : u_T := fun k => match k with
  | 0 => ("LockedCarts$OrderText", "signs", "[C", true)
  | 1 => ("LockedCarts$OrderText", "length", "I", false)
  | 2 => ("LockedCarts$OrderText", "letter", "C", false)
  | 3 => ("LockedCarts$OrderText", "numbers", "[I", true)
  | _ => ("LockedCarts$OrderText", "end", "I", false)
def tyX6 : Nat → FieldType := fun k => match k with
  | 0 => .array .char
  | 1 => .int
  | 2 => .char
  | 3 => .array .int
  | _ => .int
abbrev wsX60 : List Cond := u_ws RX6 TX6 5
theorem nmX6 : ∀ a, a < 5 → ∀ b, b < 5 → a ≠ b → (TX6 a).2.1 ≠ (TX6 b).2.1 := by decide +kernel
theorem tyX6_ok : ∀ k, k < 5 → parseFieldDescriptor (TX6 k).2.2.1 = some (tyX6 k) := by decide +kernel
abbrev cX6_init : ByteArray := prog_8_method_1_code
def yX6_init : MethodName := ⟨RX6, "<init>", "()V"⟩
abbrev cX6_append : ByteArray := prog_8_method_2_code
def yX6_append : MethodName := ⟨RX6, "append", "(C)I"⟩
abbrev cX6_read : ByteArray := prog_8_method_3_code
def yX6_read : MethodName := ⟨RX6, "read", "(I)Z"⟩
abbrev cX6_numbersBehind : ByteArray := prog_8_method_4_code
def yX6_numbersBehind : MethodName := ⟨RX6, "numbersBehind", "(C)I"⟩
abbrev cX6_take : ByteArray := prog_8_method_5_code
def yX6_take : MethodName := ⟨RX6, "take", "(C)Z"⟩
abbrev cX6_takeNumber : ByteArray := prog_8_method_6_code
def yX6_takeNumber : MethodName := ⟨RX6, "takeNumber", "(I)Z"⟩
def RX7 : String := "LockedCarts$PhaseRunner"
def TX7 : u_T := fun k => match k with
  | 0 => ("LockedCarts$PhaseRunner", "cards", "LLockedCarts$Cards;", true)
  | _ => ("LockedCarts$PhaseRunner", "belts", "LLockedCarts$Belts;", true)
def tyX7 : Nat → FieldType := fun k => match k with
  | 0 => .object "LockedCarts$Cards"
  | _ => .object "LockedCarts$Belts"
abbrev wsX70 : List Cond := u_ws RX7 TX7 2
theorem nmX7 : ∀ a, a < 2 → ∀ b, b < 2 → a ≠ b → (TX7 a).2.1 ≠ (TX7 b).2.1 := by decide +kernel
theorem tyX7_ok : ∀ k, k < 2 → parseFieldDescriptor (TX7 k).2.2.1 = some (tyX7 k) := by decide +kernel
abbrev cX7_init : ByteArray := prog_9_method_1_code
def yX7_init : MethodName := ⟨RX7, "<init>", "()V"⟩
abbrev cX7_runNext : ByteArray := prog_9_method_2_code
def yX7_runNext : MethodName := ⟨RX7, "runNext", "(LLockedCarts$Race;)I"⟩
abbrev cX7_runToRoundEnd : ByteArray := prog_9_method_3_code
def yX7_runToRoundEnd : MethodName := ⟨RX7, "runToRoundEnd", "(LLockedCarts$Race;)I"⟩
def RX8 : String := "LockedCarts$Race"
def TX8 : u_T := fun k => match k with
  | 0 => ("LockedCarts$Race", "board", "LLockedCarts$Board;", true)
  | 1 => ("LockedCarts$Race", "carts", "[LLockedCarts$Cart;", true)
  | 2 => ("LockedCarts$Race", "cartCount", "I", false)
  | 3 => ("LockedCarts$Race", "nextPhase", "I", false)
  | 4 => ("LockedCarts$Race", "rounds", "I", false)
  | 5 => ("LockedCarts$Race", "phasesDone", "I", false)
  | 6 => ("LockedCarts$Race", "pushes", "I", false)
  | _ => ("LockedCarts$Race", "winner", "I", false)
def tyX8 : Nat → FieldType := fun k => match k with
  | 0 => .object "LockedCarts$Board"
  | 1 => .array (.object "LockedCarts$Cart")
  | 2 => .int
  | 3 => .int
  | 4 => .int
  | 5 => .int
  | 6 => .int
  | _ => .int
abbrev wsX80 : List Cond := u_ws RX8 TX8 8
theorem nmX8 : ∀ a, a < 8 → ∀ b, b < 8 → a ≠ b → (TX8 a).2.1 ≠ (TX8 b).2.1 := by decide +kernel
theorem tyX8_ok : ∀ k, k < 8 → parseFieldDescriptor (TX8 k).2.2.1 = some (tyX8 k) := by decide +kernel
abbrev cX8_init : ByteArray := prog_10_method_1_code
def yX8_init : MethodName := ⟨RX8, "<init>", "()V"⟩
abbrev cX8_copyFrom : ByteArray := prog_10_method_2_code
def yX8_copyFrom : MethodName := ⟨RX8, "copyFrom", "(LLockedCarts$Race;)V"⟩
abbrev cX8_hasCart : ByteArray := prog_10_method_3_code
def yX8_hasCart : MethodName := ⟨RX8, "hasCart", "(I)Z"⟩
abbrev cX8_cartOn : ByteArray := prog_10_method_4_code
def yX8_cartOn : MethodName := ⟨RX8, "cartOn", "(I)I"⟩
abbrev cX8_cartsOut : ByteArray := prog_10_method_5_code
def yX8_cartsOut : MethodName := ⟨RX8, "cartsOut", "()I"⟩
abbrev cX8_timesOut : ByteArray := prog_10_method_6_code
def yX8_timesOut : MethodName := ⟨RX8, "timesOut", "()I"⟩
abbrev cX8_cellValue : ByteArray := prog_10_method_7_code
def yX8_cellValue : MethodName := ⟨RX8, "cellValue", "(II)I"⟩
abbrev cX8_setKind : ByteArray := prog_10_method_8_code
def yX8_setKind : MethodName := ⟨RX8, "setKind", "(II)I"⟩
abbrev cX8_flipWall : ByteArray := prog_10_method_9_code
def yX8_flipWall : MethodName := ⟨RX8, "flipWall", "(II)I"⟩
abbrev cX8_layFlag : ByteArray := prog_10_method_10_code
def yX8_layFlag : MethodName := ⟨RX8, "layFlag", "(II)I"⟩
abbrev cX8_addCart : ByteArray := prog_10_method_11_code
def yX8_addCart : MethodName := ⟨RX8, "addCart", "(II)I"⟩
abbrev cX8_layCard : ByteArray := prog_10_method_12_code
def yX8_layCard : MethodName := ⟨RX8, "layCard", "(IIII)I"⟩
abbrev cX8_harm : ByteArray := prog_10_method_13_code
def yX8_harm : MethodName := ⟨RX8, "harm", "(II)I"⟩
abbrev cX8_enter : ByteArray := prog_10_method_14_code
def yX8_enter : MethodName := ⟨RX8, "enter", "(LLockedCarts$Cart;I)V"⟩
abbrev cX8_turnOnGears : ByteArray := prog_10_method_15_code
def yX8_turnOnGears : MethodName := ⟨RX8, "turnOnGears", "()V"⟩
abbrev cX8_touchFlags : ByteArray := prog_10_method_16_code
def yX8_touchFlags : MethodName := ⟨RX8, "touchFlags", "()V"⟩
abbrev cX8_countPhase : ByteArray := prog_10_method_17_code
def yX8_countPhase : MethodName := ⟨RX8, "countPhase", "()V"⟩
abbrev cX8_repairAndClear : ByteArray := prog_10_method_18_code
def yX8_repairAndClear : MethodName := ⟨RX8, "repairAndClear", "()V"⟩
abbrev cX8_bringBack : ByteArray := prog_10_method_19_code
def yX8_bringBack : MethodName := ⟨RX8, "bringBack", "()V"⟩
abbrev cX8_cellToComeBack : ByteArray := prog_10_method_20_code
def yX8_cellToComeBack : MethodName := ⟨RX8, "cellToComeBack", "(I)I"⟩
def RX9 : String := "LockedCarts$Ways"
def TX9 : u_T := fun k => match k with
  | 0 => ("LockedCarts$Ways", "distances", "[I", true)
  | 1 => ("LockedCarts$Ways", "queue", "[I", true)
  | _ => ("LockedCarts$Ways", "queued", "I", false)
def tyX9 : Nat → FieldType := fun k => match k with
  | 0 => .array .int
  | 1 => .array .int
  | _ => .int
abbrev wsX90 : List Cond := u_ws RX9 TX9 3
theorem nmX9 : ∀ a, a < 3 → ∀ b, b < 3 → a ≠ b → (TX9 a).2.1 ≠ (TX9 b).2.1 := by decide +kernel
theorem tyX9_ok : ∀ k, k < 3 → parseFieldDescriptor (TX9 k).2.2.1 = some (tyX9 k) := by decide +kernel
abbrev cX9_init : ByteArray := prog_11_method_1_code
def yX9_init : MethodName := ⟨RX9, "<init>", "()V"⟩
abbrev cX9_shortest : ByteArray := prog_11_method_2_code
def yX9_shortest : MethodName := ⟨RX9, "shortest", "(LLockedCarts$Board;II)I"⟩
abbrev cX9_reachAround : ByteArray := prog_11_method_3_code
def yX9_reachAround : MethodName := ⟨RX9, "reachAround", "(LLockedCarts$Board;I)V"⟩
abbrev cX9_reach : ByteArray := prog_11_method_4_code
def yX9_reach : MethodName := ⟨RX9, "reach", "(II)V"⟩
def RX10 : String := "LockedCarts"
def TX10 : u_T := fun k => match k with
  | 0 => ("LockedCarts", "race", "LLockedCarts$Race;", true)
  | 1 => ("LockedCarts", "trial", "LLockedCarts$Race;", true)
  | 2 => ("LockedCarts", "history", "LLockedCarts$History;", true)
  | 3 => ("LockedCarts", "runner", "LLockedCarts$PhaseRunner;", true)
  | 4 => ("LockedCarts", "ways", "LLockedCarts$Ways;", true)
  | 5 => ("LockedCarts", "text", "LLockedCarts$OrderText;", true)
  | _ => ("LockedCarts", "orders", "LLockedCarts$OrderRunner;", true)
def tyX10 : Nat → FieldType := fun k => match k with
  | 0 => .object "LockedCarts$Race"
  | 1 => .object "LockedCarts$Race"
  | 2 => .object "LockedCarts$History"
  | 3 => .object "LockedCarts$PhaseRunner"
  | 4 => .object "LockedCarts$Ways"
  | 5 => .object "LockedCarts$OrderText"
  | _ => .object "LockedCarts$OrderRunner"
abbrev wsX100 : List Cond := u_ws RX10 TX10 7
theorem nmX10 : ∀ a, a < 7 → ∀ b, b < 7 → a ≠ b → (TX10 a).2.1 ≠ (TX10 b).2.1 := by decide +kernel
theorem tyX10_ok : ∀ k, k < 7 → parseFieldDescriptor (TX10 k).2.2.1 = some (tyX10 k) := by decide +kernel
abbrev cX10_init : ByteArray := prog_1_method_1_code
def yX10_init : MethodName := ⟨RX10, "<init>", "()V"⟩
abbrev cX10_kind : ByteArray := prog_1_method_2_code
def yX10_kind : MethodName := ⟨RX10, "kind", "(II)I"⟩
abbrev cX10_wall : ByteArray := prog_1_method_3_code
def yX10_wall : MethodName := ⟨RX10, "wall", "(II)I"⟩
abbrev cX10_flag : ByteArray := prog_1_method_4_code
def yX10_flag : MethodName := ⟨RX10, "flag", "(II)I"⟩
abbrev cX10_cart : ByteArray := prog_1_method_5_code
def yX10_cart : MethodName := ⟨RX10, "cart", "(II)I"⟩
abbrev cX10_card : ByteArray := prog_1_method_6_code
def yX10_card : MethodName := ⟨RX10, "card", "(IIII)I"⟩
abbrev cX10_damage : ByteArray := prog_1_method_7_code
def yX10_damage : MethodName := ⟨RX10, "damage", "(II)I"⟩
abbrev cX10_phase : ByteArray := prog_1_method_8_code
def yX10_phase : MethodName := ⟨RX10, "phase", "()I"⟩
abbrev cX10_round : ByteArray := prog_1_method_9_code
def yX10_round : MethodName := ⟨RX10, "round", "()I"⟩
abbrev cX10_cellOf : ByteArray := prog_1_method_10_code
def yX10_cellOf : MethodName := ⟨RX10, "cellOf", "(II)I"⟩
abbrev cX10_cartOf : ByteArray := prog_1_method_11_code
def yX10_cartOf : MethodName := ⟨RX10, "cartOf", "(II)I"⟩
abbrev cX10_cardOf : ByteArray := prog_1_method_12_code
def yX10_cardOf : MethodName := ⟨RX10, "cardOf", "(III)I"⟩
abbrev cX10_would : ByteArray := prog_1_method_14_code
def yX10_would : MethodName := ⟨RX10, "would", "(III)I"⟩
abbrev cX10_best : ByteArray := prog_1_method_15_code
def yX10_best : MethodName := ⟨RX10, "best", "(III)I"⟩
abbrev cX10_steps : ByteArray := prog_1_method_16_code
def yX10_steps : MethodName := ⟨RX10, "steps", "(II)I"⟩
abbrev cX10_count : ByteArray := prog_1_method_17_code
def yX10_count : MethodName := ⟨RX10, "count", "(I)I"⟩
abbrev cX10_undo : ByteArray := prog_1_method_18_code
def yX10_undo : MethodName := ⟨RX10, "undo", "()I"⟩
abbrev cX10_type : ByteArray := prog_1_method_19_code
def yX10_type : MethodName := ⟨RX10, "type", "(I)I"⟩
abbrev cX10_clearText : ByteArray := prog_1_method_20_code
def yX10_clearText : MethodName := ⟨RX10, "clearText", "()I"⟩
abbrev cX10_fault : ByteArray := prog_1_method_21_code
def yX10_fault : MethodName := ⟨RX10, "fault", "(I)I"⟩
abbrev cX10_play : ByteArray := prog_1_method_22_code
def yX10_play : MethodName := ⟨RX10, "play", "()I"⟩
abbrev cX10_freshTrial : ByteArray := prog_1_method_23_code
def yX10_freshTrial : MethodName := ⟨RX10, "freshTrial", "()LLockedCarts$Race;"⟩
abbrev cX10_keep : ByteArray := prog_1_method_24_code
def yX10_keep : MethodName := ⟨RX10, "keep", "(I)I"⟩
abbrev cX10_distanceBehind : ByteArray := prog_1_method_25_code
def yX10_distanceBehind : MethodName := ⟨RX10, "distanceBehind", "(IIII)I"⟩
abbrev cX10_isWithin : ByteArray := prog_1_method_26_code
def yX10_isWithin : MethodName := ⟨RX10, "isWithin", "(III)Z"⟩
abbrev cX10_isCell : ByteArray := prog_1_method_27_code
def yX10_isCell : MethodName := ⟨RX10, "isCell", "(I)Z"⟩
abbrev cX10_isDirection : ByteArray := prog_1_method_28_code
def yX10_isDirection : MethodName := ⟨RX10, "isDirection", "(I)Z"⟩
abbrev cX10_isRegister : ByteArray := prog_1_method_29_code
def yX10_isRegister : MethodName := ⟨RX10, "isRegister", "(I)Z"⟩
abbrev cX10_isError : ByteArray := prog_1_method_30_code
def yX10_isError : MethodName := ⟨RX10, "isError", "(I)Z"⟩
abbrev cX10_turned : ByteArray := prog_1_method_31_code
def yX10_turned : MethodName := ⟨RX10, "turned", "(II)I"⟩
def RX11 : String := "LockedCartsModel"
def TX11 : u_T := fun k => match k with
  | _ => ("", "", "", false)
def tyX11 : Nat → FieldType := fun k => match k with
  | _ => .int
abbrev wsX110 : List Cond := u_ws RX11 TX11 0
theorem nmX11 : ∀ a, a < 0 → ∀ b, b < 0 → a ≠ b → (TX11 a).2.1 ≠ (TX11 b).2.1 := by decide +kernel
theorem tyX11_ok : ∀ k, k < 0 → parseFieldDescriptor (TX11 k).2.2.1 = some (tyX11 k) := by decide +kernel
def RJ6 : String := "java/lang/Integer"
def TJ6 : u_T := fun k => match k with
  | _ => ("", "", "", false)
def tyJ6 : Nat → FieldType := fun k => match k with
  | _ => .int
abbrev wsJ60 : List Cond := u_ws RJ6 TJ6 0
theorem nmJ6 : ∀ a, a < 0 → ∀ b, b < 0 → a ≠ b → (TJ6 a).2.1 ≠ (TJ6 b).2.1 := by decide +kernel
theorem tyJ6_ok : ∀ k, k < 0 → parseFieldDescriptor (TJ6 k).2.2.1 = some (tyJ6 k) := by decide +kernel
abbrev cJ6_bitCount_0f7a4 : ByteArray := prog_14_method_49_code
def yJ6_bitCount_0f7a4 : MethodName := ⟨RJ6, "bitCount", "(I)I"⟩
def RJ9 : String := "java/lang/Math"
def TJ9 : u_T := fun k => match k with
  | _ => ("", "", "", false)
def tyJ9 : Nat → FieldType := fun k => match k with
  | _ => .int
abbrev wsJ90 : List Cond := u_ws RJ9 TJ9 0
theorem nmJ9 : ∀ a, a < 0 → ∀ b, b < 0 → a ≠ b → (TJ9 a).2.1 ≠ (TJ9 b).2.1 := by decide +kernel
theorem tyJ9_ok : ∀ k, k < 0 → parseFieldDescriptor (TJ9 k).2.2.1 = some (tyJ9 k) := by decide +kernel
abbrev cJ9_abs_0f7a4 : ByteArray := prog_15_method_59_code
def yJ9_abs_0f7a4 : MethodName := ⟨RJ9, "abs", "(I)I"⟩
abbrev cJ9_max_7cf53 : ByteArray := prog_15_method_65_code
def yJ9_max_7cf53 : MethodName := ⟨RJ9, "max", "(II)I"⟩
abbrev cJ9_min_7cf53 : ByteArray := prog_15_method_69_code
def yJ9_min_7cf53 : MethodName := ⟨RJ9, "min", "(II)I"⟩
def RJ10 : String := "java/lang/System"
def TJ10 : u_T := fun k => match k with
  | _ => ("", "", "", false)
def tyJ10 : Nat → FieldType := fun k => match k with
  | _ => .int
abbrev wsJ100 : List Cond := u_ws RJ10 TJ10 0
theorem nmJ10 : ∀ a, a < 0 → ∀ b, b < 0 → a ≠ b → (TJ10 a).2.1 ≠ (TJ10 b).2.1 := by decide +kernel
theorem tyJ10_ok : ∀ k, k < 0 → parseFieldDescriptor (TJ10 k).2.2.1 = some (tyJ10 k) := by decide +kernel
def RJ7 : String := "java/util/Arrays"
def TJ7 : u_T := fun k => match k with
  | _ => ("", "", "", false)
def tyJ7 : Nat → FieldType := fun k => match k with
  | _ => .int
abbrev wsJ70 : List Cond := u_ws RJ7 TJ7 0
theorem nmJ7 : ∀ a, a < 0 → ∀ b, b < 0 → a ≠ b → (TJ7 a).2.1 ≠ (TJ7 b).2.1 := by decide +kernel
theorem tyJ7_ok : ∀ k, k < 0 → parseFieldDescriptor (TJ7 k).2.2.1 = some (tyJ7 k) := by decide +kernel
abbrev cJ7_rangeCheck_23922 : ByteArray := prog_17_method_30_code
def yJ7_rangeCheck_23922 : MethodName := ⟨RJ7, "rangeCheck", "(III)V"⟩
abbrev cJ7_fill_53178 : ByteArray := prog_17_method_103_code
def yJ7_fill_53178 : MethodName := ⟨RJ7, "fill", "([II)V"⟩
abbrev cJ7_fill_fda19 : ByteArray := prog_17_method_104_code
def yJ7_fill_fda19 : MethodName := ⟨RJ7, "fill", "([IIII)V"⟩
def RL : String := "LockedCartsLaw"
abbrev cL_lot : ByteArray := method_2_code
def yL_lot : MethodName := ⟨RL, "lot", "([II)I"⟩
abbrev cL_low : ByteArray := method_3_code
def yL_low : MethodName := ⟨RL, "low", "(II)I"⟩
abbrev cL_digest : ByteArray := method_4_code
def yL_digest : MethodName := ⟨RL, "digest", "(LLockedCarts;)J"⟩
abbrev cL_holds : ByteArray := method_5_code
def yL_holds : MethodName := ⟨RL, "holds", "(LLockedCarts;)Z"⟩
abbrev cL_digits : ByteArray := method_6_code
def yL_digits : MethodName := ⟨RL, "digits", "(LLockedCarts;I)Z"⟩
abbrev cL_types : ByteArray := method_7_code
def yL_types : MethodName := ⟨RL, "types", "(LLockedCarts;I)Z"⟩
abbrev cL_reads : ByteArray := method_8_code
def yL_reads : MethodName := ⟨RL, "reads", "(LLockedCarts;)Z"⟩
abbrev cL_acts : ByteArray := method_9_code
def yL_acts : MethodName := ⟨RL, "acts", "(LLockedCarts;II)Z"⟩
abbrev cL_law : ByteArray := code
def yL_law : MethodName := ⟨RL, "law", "([I)Z"⟩
abbrev vwCl : List vw_C := [(RX0, TX0, 3), (RX1, TX1, 4), (RX2, TX2, 2), (RX3, TX3, 9), (RX4, TX4, 2), (RX5, TX5, 6), (RX6, TX6, 5), (RX7, TX7, 2), (RX8, TX8, 8), (RX9, TX9, 3), (RX10, TX10, 7)]
/-- the words of the tables that stay -/
def tb : List Cond := lw_tbl.filter goodWord
theorem tb_t {w : Cond} (k : Nat) (h : tables_1[k]? = some w) (hg : goodWord w = true) : w ∈ tb := List.mem_filter.mpr ⟨List.mem_append_right _ (List.mem_of_getElem? h), hg⟩
theorem tb_s {w : Cond} (k : Nat) (h : (k2_sels lw_privs)[k]? = some w) (hg : goodWord w = true) : w ∈ tb := List.mem_filter.mpr ⟨List.mem_append_left _ (List.mem_of_getElem? h), hg⟩
theorem tb_lw : ∀ w ∈ tb, w ∈ lw_tbl := fun _ h => (List.mem_filter.mp h).1
theorem tb_good : ∀ w ∈ tb, (w.onTables && w.keeps) = true ∨ ∃ ty, w = .arrayClass ty := fun _ h => good_of_word (List.mem_filter.mp h).2
end
section
theorem wd_0 : Cond.initialized RL ∈ tb := tb_t 0 (by decide +kernel) (by decide +kernel)
theorem wd_1 : Cond.initialized RX10 ∈ tb := tb_t 1 (by decide +kernel) (by decide +kernel)
theorem wd_2 : Cond.initialized RX8 ∈ tb := tb_t 2 (by decide +kernel) (by decide +kernel)
theorem wd_3 : Cond.initialized RX1 ∈ tb := tb_t 3 (by decide +kernel) (by decide +kernel)
theorem wd_4 : Cond.initialized RX3 ∈ tb := tb_t 4 (by decide +kernel) (by decide +kernel)
theorem wd_5 : Cond.initialized RX4 ∈ tb := tb_t 5 (by decide +kernel) (by decide +kernel)
theorem wd_6 : Cond.initialized RX7 ∈ tb := tb_t 6 (by decide +kernel) (by decide +kernel)
theorem wd_7 : Cond.initialized RX2 ∈ tb := tb_t 7 (by decide +kernel) (by decide +kernel)
theorem wd_8 : Cond.initialized RX0 ∈ tb := tb_t 8 (by decide +kernel) (by decide +kernel)
theorem wd_9 : Cond.initialized RX9 ∈ tb := tb_t 9 (by decide +kernel) (by decide +kernel)
theorem wd_10 : Cond.initialized RX6 ∈ tb := tb_t 10 (by decide +kernel) (by decide +kernel)
theorem wd_11 : Cond.initialized RX5 ∈ tb := tb_t 11 (by decide +kernel) (by decide +kernel)
theorem wd_12 : Cond.initialized RJ9 ∈ tb := tb_t 12 (by decide +kernel) (by decide +kernel)
theorem wd_13 : Cond.initialized RJ10 ∈ tb := tb_t 13 (by decide +kernel) (by decide +kernel)
theorem wd_14 : Cond.initialized RJ6 ∈ tb := tb_t 14 (by decide +kernel) (by decide +kernel)
theorem wd_15 : Cond.initialized RJ7 ∈ tb := tb_t 15 (by decide +kernel) (by decide +kernel)
theorem wd_16 : Cond.classLink RL 14 RX10 ∈ tb := tb_t 16 (by decide +kernel) (by decide +kernel)
theorem wd_17 : Cond.instantiable RX10 7 ∈ tb := tb_t 17 (by decide +kernel) (by decide +kernel)
theorem wd_18 : Cond.methodLink RL 97 yX10_init ∈ tb := tb_t 18 (by decide +kernel) (by decide +kernel)
theorem wd_19 : Cond.instanceMethod yX10_init ∈ tb := tb_t 19 (by decide +kernel) (by decide +kernel)
theorem wd_20 : Cond.code yX10_init cX10_init 1 none ∈ tb := tb_t 20 (by decide +kernel) (by decide +kernel)
theorem wd_21 : Cond.methodLink RX10 1 objectInit ∈ tb := tb_t 21 (by decide +kernel) (by decide +kernel)
theorem wd_22 : Cond.instanceMethod objectInit ∈ tb := tb_t 22 (by decide +kernel) (by decide +kernel)
theorem wd_23 : Cond.code objectInit ⟨#[0xb1]⟩ 1 none ∈ tb := tb_t 23 (by decide +kernel) (by decide +kernel)
theorem wd_24 : Cond.classLink RX10 7 RX8 ∈ tb := tb_t 24 (by decide +kernel) (by decide +kernel)
theorem wd_25 : Cond.instantiable RX8 8 ∈ tb := tb_t 25 (by decide +kernel) (by decide +kernel)
theorem wd_27 : Cond.instanceMethod yX8_init ∈ tb := tb_t 27 (by decide +kernel) (by decide +kernel)
theorem wd_28 : Cond.code yX8_init cX8_init 1 none ∈ tb := tb_t 28 (by decide +kernel) (by decide +kernel)
theorem wd_29 : Cond.methodLink RX8 3 objectInit ∈ tb := tb_t 29 (by decide +kernel) (by decide +kernel)
theorem wd_30 : Cond.classLink RX8 9 RX1 ∈ tb := tb_t 30 (by decide +kernel) (by decide +kernel)
theorem wd_31 : Cond.instantiable RX1 4 ∈ tb := tb_t 31 (by decide +kernel) (by decide +kernel)
theorem wd_33 : Cond.instanceMethod yX1_init ∈ tb := tb_t 33 (by decide +kernel) (by decide +kernel)
theorem wd_34 : Cond.code yX1_init cX1_init 1 none ∈ tb := tb_t 34 (by decide +kernel) (by decide +kernel)
theorem wd_35 : Cond.methodLink RX1 3 objectInit ∈ tb := tb_t 35 (by decide +kernel) (by decide +kernel)
theorem wd_36 : Cond.fieldLink RX1 9 "LockedCarts$Board" "kinds" "[I" ∈ tb := tb_t 36 (by decide +kernel) (by decide +kernel)
theorem wd_37 : Cond.fieldLink RX8 85 "LockedCarts$Board" "kinds" "[I" ∈ tb := tb_t 37 (by decide +kernel) (by decide +kernel)
theorem wd_38 : Cond.fieldLink RX1 15 "LockedCarts$Board" "walls" "[I" ∈ tb := tb_t 38 (by decide +kernel) (by decide +kernel)
theorem wd_39 : Cond.fieldLink RX1 18 "LockedCarts$Board" "flags" "[I" ∈ tb := tb_t 39 (by decide +kernel) (by decide +kernel)
theorem wd_40 : Cond.fieldLink RX8 103 "LockedCarts$Board" "flags" "[I" ∈ tb := tb_t 40 (by decide +kernel) (by decide +kernel)
theorem wd_41 : Cond.fieldLink RX10 157 "LockedCarts$Board" "flags" "[I" ∈ tb := tb_t 41 (by decide +kernel) (by decide +kernel)
theorem wd_42 : Cond.fieldLink RX1 27 "LockedCarts$Board" "flagCount" "I" ∈ tb := tb_t 42 (by decide +kernel) (by decide +kernel)
theorem wd_43 : Cond.fieldLink RX8 100 "LockedCarts$Board" "flagCount" "I" ∈ tb := tb_t 43 (by decide +kernel) (by decide +kernel)
theorem wd_44 : Cond.fieldLink RX10 151 "LockedCarts$Board" "flagCount" "I" ∈ tb := tb_t 44 (by decide +kernel) (by decide +kernel)
theorem wd_54 : Cond.arrayClass FieldType.int ∈ tb := tb_t 54 (by decide +kernel) (by decide +kernel)
theorem wd_55 : Cond.classLink RX8 18 RX3 ∈ tb := tb_t 55 (by decide +kernel) (by decide +kernel)
theorem wd_57 : Cond.instantiable RX3 9 ∈ tb := tb_t 57 (by decide +kernel) (by decide +kernel)
theorem wd_59 : Cond.instanceMethod yX3_init ∈ tb := tb_t 59 (by decide +kernel) (by decide +kernel)
theorem wd_60 : Cond.code yX3_init cX3_init 1 none ∈ tb := tb_t 60 (by decide +kernel) (by decide +kernel)
theorem wd_61 : Cond.methodLink RX3 3 objectInit ∈ tb := tb_t 61 (by decide +kernel) (by decide +kernel)
theorem wd_62 : Cond.fieldLink RX3 9 "LockedCarts$Cart" "moves" "[I" ∈ tb := tb_t 62 (by decide +kernel) (by decide +kernel)
theorem wd_63 : Cond.fieldLink RX2 48 "LockedCarts$Cart" "moves" "[I" ∈ tb := tb_t 63 (by decide +kernel) (by decide +kernel)
theorem wd_64 : Cond.fieldLink RX10 122 "LockedCarts$Cart" "moves" "[I" ∈ tb := tb_t 64 (by decide +kernel) (by decide +kernel)
theorem wd_65 : Cond.fieldLink RX3 15 "LockedCarts$Cart" "ranks" "[I" ∈ tb := tb_t 65 (by decide +kernel) (by decide +kernel)
theorem wd_66 : Cond.fieldLink RX2 45 "LockedCarts$Cart" "ranks" "[I" ∈ tb := tb_t 66 (by decide +kernel) (by decide +kernel)
theorem wd_67 : Cond.fieldLink RX10 126 "LockedCarts$Cart" "ranks" "[I" ∈ tb := tb_t 67 (by decide +kernel) (by decide +kernel)
theorem wd_68 : Cond.fieldLink RX3 28 "LockedCarts$Cart" "start" "I" ∈ tb := tb_t 68 (by decide +kernel) (by decide +kernel)
theorem wd_69 : Cond.fieldLink RX8 163 "LockedCarts$Cart" "start" "I" ∈ tb := tb_t 69 (by decide +kernel) (by decide +kernel)
theorem wd_70 : Cond.fieldLink RX3 18 "LockedCarts$Cart" "cell" "I" ∈ tb := tb_t 70 (by decide +kernel) (by decide +kernel)
theorem wd_71 : Cond.fieldLink RX0 47 "LockedCarts$Cart" "cell" "I" ∈ tb := tb_t 71 (by decide +kernel) (by decide +kernel)
theorem wd_72 : Cond.fieldLink RX8 51 "LockedCarts$Cart" "cell" "I" ∈ tb := tb_t 72 (by decide +kernel) (by decide +kernel)
theorem wd_73 : Cond.fieldLink RX2 65 "LockedCarts$Cart" "cell" "I" ∈ tb := tb_t 73 (by decide +kernel) (by decide +kernel)
theorem wd_74 : Cond.fieldLink RX10 234 "LockedCarts$Cart" "cell" "I" ∈ tb := tb_t 74 (by decide +kernel) (by decide +kernel)
theorem wd_75 : Cond.fieldLink RX3 31 "LockedCarts$Cart" "direction" "I" ∈ tb := tb_t 75 (by decide +kernel) (by decide +kernel)
theorem wd_76 : Cond.fieldLink RX2 51 "LockedCarts$Cart" "direction" "I" ∈ tb := tb_t 76 (by decide +kernel) (by decide +kernel)
theorem wd_77 : Cond.fieldLink RX8 148 "LockedCarts$Cart" "direction" "I" ∈ tb := tb_t 77 (by decide +kernel) (by decide +kernel)
theorem wd_78 : Cond.fieldLink RX3 34 "LockedCarts$Cart" "damage" "I" ∈ tb := tb_t 78 (by decide +kernel) (by decide +kernel)
theorem wd_79 : Cond.fieldLink RX8 145 "LockedCarts$Cart" "damage" "I" ∈ tb := tb_t 79 (by decide +kernel) (by decide +kernel)
theorem wd_80 : Cond.fieldLink RX3 37 "LockedCarts$Cart" "touched" "I" ∈ tb := tb_t 80 (by decide +kernel) (by decide +kernel)
theorem wd_81 : Cond.fieldLink RX10 144 "LockedCarts$Cart" "touched" "I" ∈ tb := tb_t 81 (by decide +kernel) (by decide +kernel)
theorem wd_82 : Cond.fieldLink RX8 154 "LockedCarts$Cart" "touched" "I" ∈ tb := tb_t 82 (by decide +kernel) (by decide +kernel)
theorem wd_83 : Cond.fieldLink RX3 40 "LockedCarts$Cart" "timesOut" "I" ∈ tb := tb_t 83 (by decide +kernel) (by decide +kernel)
theorem wd_84 : Cond.fieldLink RX8 58 "LockedCarts$Cart" "timesOut" "I" ∈ tb := tb_t 84 (by decide +kernel) (by decide +kernel)
theorem wd_85 : Cond.fieldLink RX10 231 "LockedCarts$Cart" "timesOut" "I" ∈ tb := tb_t 85 (by decide +kernel) (by decide +kernel)
theorem wd_86 : Cond.fieldLink RX3 43 "LockedCarts$Cart" "timesStopped" "I" ∈ tb := tb_t 86 (by decide +kernel) (by decide +kernel)
theorem wd_106 : Cond.fieldLink RX8 12 "LockedCarts$Race" "board" "LLockedCarts$Board;" ∈ tb := tb_t 106 (by decide +kernel) (by decide +kernel)
theorem wd_107 : Cond.fieldLink RX0 52 "LockedCarts$Race" "board" "LLockedCarts$Board;" ∈ tb := tb_t 107 (by decide +kernel) (by decide +kernel)
theorem wd_108 : Cond.fieldLink RX2 68 "LockedCarts$Race" "board" "LLockedCarts$Board;" ∈ tb := tb_t 108 (by decide +kernel) (by decide +kernel)
theorem wd_109 : Cond.fieldLink RX10 147 "LockedCarts$Race" "board" "LLockedCarts$Board;" ∈ tb := tb_t 109 (by decide +kernel) (by decide +kernel)
theorem wd_110 : Cond.fieldLink RX8 21 "LockedCarts$Race" "carts" "[LLockedCarts$Cart;" ∈ tb := tb_t 110 (by decide +kernel) (by decide +kernel)
theorem wd_111 : Cond.fieldLink RX2 24 "LockedCarts$Race" "carts" "[LLockedCarts$Cart;" ∈ tb := tb_t 111 (by decide +kernel) (by decide +kernel)
theorem wd_112 : Cond.fieldLink RX0 39 "LockedCarts$Race" "carts" "[LLockedCarts$Cart;" ∈ tb := tb_t 112 (by decide +kernel) (by decide +kernel)
theorem wd_113 : Cond.fieldLink RX10 106 "LockedCarts$Race" "carts" "[LLockedCarts$Cart;" ∈ tb := tb_t 113 (by decide +kernel) (by decide +kernel)
theorem wd_114 : Cond.fieldLink RX7 25 "LockedCarts$Race" "cartCount" "I" ∈ tb := tb_t 114 (by decide +kernel) (by decide +kernel)
theorem wd_115 : Cond.fieldLink RX2 18 "LockedCarts$Race" "cartCount" "I" ∈ tb := tb_t 115 (by decide +kernel) (by decide +kernel)
theorem wd_116 : Cond.fieldLink RX0 26 "LockedCarts$Race" "cartCount" "I" ∈ tb := tb_t 116 (by decide +kernel) (by decide +kernel)
theorem wd_117 : Cond.fieldLink RX8 36 "LockedCarts$Race" "cartCount" "I" ∈ tb := tb_t 117 (by decide +kernel) (by decide +kernel)
theorem wd_118 : Cond.fieldLink RX10 167 "LockedCarts$Race" "cartCount" "I" ∈ tb := tb_t 118 (by decide +kernel) (by decide +kernel)
theorem wd_119 : Cond.fieldLink RX2 34 "LockedCarts$Race" "nextPhase" "I" ∈ tb := tb_t 119 (by decide +kernel) (by decide +kernel)
theorem wd_120 : Cond.fieldLink RX8 39 "LockedCarts$Race" "nextPhase" "I" ∈ tb := tb_t 120 (by decide +kernel) (by decide +kernel)
theorem wd_121 : Cond.fieldLink RX7 61 "LockedCarts$Race" "nextPhase" "I" ∈ tb := tb_t 121 (by decide +kernel) (by decide +kernel)
theorem wd_122 : Cond.fieldLink RX10 137 "LockedCarts$Race" "nextPhase" "I" ∈ tb := tb_t 122 (by decide +kernel) (by decide +kernel)
theorem wd_123 : Cond.fieldLink RX8 42 "LockedCarts$Race" "rounds" "I" ∈ tb := tb_t 123 (by decide +kernel) (by decide +kernel)
theorem wd_124 : Cond.fieldLink RX10 170 "LockedCarts$Race" "rounds" "I" ∈ tb := tb_t 124 (by decide +kernel) (by decide +kernel)
theorem wd_125 : Cond.fieldLink RX8 45 "LockedCarts$Race" "phasesDone" "I" ∈ tb := tb_t 125 (by decide +kernel) (by decide +kernel)
theorem wd_126 : Cond.fieldLink RX10 180 "LockedCarts$Race" "phasesDone" "I" ∈ tb := tb_t 126 (by decide +kernel) (by decide +kernel)
theorem wd_127 : Cond.fieldLink RX8 48 "LockedCarts$Race" "pushes" "I" ∈ tb := tb_t 127 (by decide +kernel) (by decide +kernel)
theorem wd_128 : Cond.fieldLink RX2 89 "LockedCarts$Race" "pushes" "I" ∈ tb := tb_t 128 (by decide +kernel) (by decide +kernel)
theorem wd_129 : Cond.fieldLink RX10 189 "LockedCarts$Race" "pushes" "I" ∈ tb := tb_t 129 (by decide +kernel) (by decide +kernel)
theorem wd_130 : Cond.fieldLink RX8 25 "LockedCarts$Race" "winner" "I" ∈ tb := tb_t 130 (by decide +kernel) (by decide +kernel)
theorem wd_131 : Cond.fieldLink RX10 177 "LockedCarts$Race" "winner" "I" ∈ tb := tb_t 131 (by decide +kernel) (by decide +kernel)
theorem wd_149 : Cond.classLink RX10 19 RX4 ∈ tb := tb_t 149 (by decide +kernel) (by decide +kernel)
theorem wd_150 : Cond.instantiable RX4 2 ∈ tb := tb_t 150 (by decide +kernel) (by decide +kernel)
theorem wd_152 : Cond.instanceMethod yX4_init ∈ tb := tb_t 152 (by decide +kernel) (by decide +kernel)
theorem wd_153 : Cond.code yX4_init cX4_init 1 none ∈ tb := tb_t 153 (by decide +kernel) (by decide +kernel)
theorem wd_154 : Cond.methodLink RX4 3 objectInit ∈ tb := tb_t 154 (by decide +kernel) (by decide +kernel)
theorem wd_155 : Cond.classLink RX4 9 RX8 ∈ tb := tb_t 155 (by decide +kernel) (by decide +kernel)
theorem wd_158 : Cond.fieldLink RX4 12 "LockedCarts$History" "states" "[LLockedCarts$Race;" ∈ tb := tb_t 158 (by decide +kernel) (by decide +kernel)
theorem wd_159 : Cond.fieldLink RX4 18 "LockedCarts$History" "size" "I" ∈ tb := tb_t 159 (by decide +kernel) (by decide +kernel)
theorem wd_160 : Cond.fieldLink RX10 183 "LockedCarts$History" "size" "I" ∈ tb := tb_t 160 (by decide +kernel) (by decide +kernel)
theorem wd_166 : Cond.classLink RX10 26 RX7 ∈ tb := tb_t 166 (by decide +kernel) (by decide +kernel)
theorem wd_167 : Cond.instantiable RX7 2 ∈ tb := tb_t 167 (by decide +kernel) (by decide +kernel)
theorem wd_169 : Cond.instanceMethod yX7_init ∈ tb := tb_t 169 (by decide +kernel) (by decide +kernel)
theorem wd_170 : Cond.code yX7_init cX7_init 1 none ∈ tb := tb_t 170 (by decide +kernel) (by decide +kernel)
theorem wd_171 : Cond.methodLink RX7 3 objectInit ∈ tb := tb_t 171 (by decide +kernel) (by decide +kernel)
theorem wd_172 : Cond.classLink RX7 9 RX2 ∈ tb := tb_t 172 (by decide +kernel) (by decide +kernel)
theorem wd_173 : Cond.instantiable RX2 2 ∈ tb := tb_t 173 (by decide +kernel) (by decide +kernel)
theorem wd_175 : Cond.instanceMethod yX2_init ∈ tb := tb_t 175 (by decide +kernel) (by decide +kernel)
theorem wd_176 : Cond.code yX2_init cX2_init 1 none ∈ tb := tb_t 176 (by decide +kernel) (by decide +kernel)
theorem wd_177 : Cond.methodLink RX2 3 objectInit ∈ tb := tb_t 177 (by decide +kernel) (by decide +kernel)
theorem wd_178 : Cond.fieldLink RX2 9 "LockedCarts$Cards" "order" "[I" ∈ tb := tb_t 178 (by decide +kernel) (by decide +kernel)
theorem wd_179 : Cond.fieldLink RX7 40 "LockedCarts$Cards" "order" "[I" ∈ tb := tb_t 179 (by decide +kernel) (by decide +kernel)
theorem wd_180 : Cond.fieldLink RX2 15 "LockedCarts$Cards" "chain" "[I" ∈ tb := tb_t 180 (by decide +kernel) (by decide +kernel)
theorem wd_186 : Cond.classLink RX7 18 RX0 ∈ tb := tb_t 186 (by decide +kernel) (by decide +kernel)
theorem wd_187 : Cond.instantiable RX0 3 ∈ tb := tb_t 187 (by decide +kernel) (by decide +kernel)
theorem wd_189 : Cond.instanceMethod yX0_init ∈ tb := tb_t 189 (by decide +kernel) (by decide +kernel)
theorem wd_190 : Cond.code yX0_init cX0_init 1 none ∈ tb := tb_t 190 (by decide +kernel) (by decide +kernel)
theorem wd_191 : Cond.methodLink RX0 3 objectInit ∈ tb := tb_t 191 (by decide +kernel) (by decide +kernel)
theorem wd_192 : Cond.fieldLink RX0 9 "LockedCarts$Belts" "onBelt" "[Z" ∈ tb := tb_t 192 (by decide +kernel) (by decide +kernel)
theorem wd_193 : Cond.fieldLink RX0 15 "LockedCarts$Belts" "wanted" "[I" ∈ tb := tb_t 193 (by decide +kernel) (by decide +kernel)
theorem wd_194 : Cond.fieldLink RX0 19 "LockedCarts$Belts" "carried" "[Z" ∈ tb := tb_t 194 (by decide +kernel) (by decide +kernel)
theorem wd_202 : Cond.arrayClass FieldType.boolean ∈ tb := tb_t 202 (by decide +kernel) (by decide +kernel)
theorem wd_203 : Cond.fieldLink RX7 12 "LockedCarts$PhaseRunner" "cards" "LLockedCarts$Cards;" ∈ tb := tb_t 203 (by decide +kernel) (by decide +kernel)
theorem wd_204 : Cond.fieldLink RX7 21 "LockedCarts$PhaseRunner" "belts" "LLockedCarts$Belts;" ∈ tb := tb_t 204 (by decide +kernel) (by decide +kernel)
theorem wd_210 : Cond.classLink RX10 33 RX9 ∈ tb := tb_t 210 (by decide +kernel) (by decide +kernel)
theorem wd_211 : Cond.instantiable RX9 3 ∈ tb := tb_t 211 (by decide +kernel) (by decide +kernel)
theorem wd_213 : Cond.instanceMethod yX9_init ∈ tb := tb_t 213 (by decide +kernel) (by decide +kernel)
theorem wd_214 : Cond.code yX9_init cX9_init 1 none ∈ tb := tb_t 214 (by decide +kernel) (by decide +kernel)
theorem wd_215 : Cond.methodLink RX9 3 objectInit ∈ tb := tb_t 215 (by decide +kernel) (by decide +kernel)
theorem wd_216 : Cond.fieldLink RX9 9 "LockedCarts$Ways" "distances" "[I" ∈ tb := tb_t 216 (by decide +kernel) (by decide +kernel)
theorem wd_217 : Cond.fieldLink RX9 15 "LockedCarts$Ways" "queue" "[I" ∈ tb := tb_t 217 (by decide +kernel) (by decide +kernel)
theorem wd_218 : Cond.fieldLink RX9 24 "LockedCarts$Ways" "queued" "I" ∈ tb := tb_t 218 (by decide +kernel) (by decide +kernel)
theorem wd_226 : Cond.classLink RX10 40 RX6 ∈ tb := tb_t 226 (by decide +kernel) (by decide +kernel)
theorem wd_227 : Cond.instantiable RX6 5 ∈ tb := tb_t 227 (by decide +kernel) (by decide +kernel)
theorem wd_229 : Cond.instanceMethod yX6_init ∈ tb := tb_t 229 (by decide +kernel) (by decide +kernel)
theorem wd_230 : Cond.code yX6_init cX6_init 1 none ∈ tb := tb_t 230 (by decide +kernel) (by decide +kernel)
theorem wd_231 : Cond.methodLink RX6 3 objectInit ∈ tb := tb_t 231 (by decide +kernel) (by decide +kernel)
theorem wd_232 : Cond.fieldLink RX6 9 "LockedCarts$OrderText" "signs" "[C" ∈ tb := tb_t 232 (by decide +kernel) (by decide +kernel)
theorem wd_233 : Cond.fieldLink RX6 19 "LockedCarts$OrderText" "length" "I" ∈ tb := tb_t 233 (by decide +kernel) (by decide +kernel)
theorem wd_234 : Cond.fieldLink RX5 32 "LockedCarts$OrderText" "length" "I" ∈ tb := tb_t 234 (by decide +kernel) (by decide +kernel)
theorem wd_235 : Cond.fieldLink RX10 186 "LockedCarts$OrderText" "length" "I" ∈ tb := tb_t 235 (by decide +kernel) (by decide +kernel)
theorem wd_236 : Cond.fieldLink RX6 27 "LockedCarts$OrderText" "letter" "C" ∈ tb := tb_t 236 (by decide +kernel) (by decide +kernel)
theorem wd_237 : Cond.fieldLink RX5 59 "LockedCarts$OrderText" "letter" "C" ∈ tb := tb_t 237 (by decide +kernel) (by decide +kernel)
theorem wd_238 : Cond.fieldLink RX6 15 "LockedCarts$OrderText" "numbers" "[I" ∈ tb := tb_t 238 (by decide +kernel) (by decide +kernel)
theorem wd_239 : Cond.fieldLink RX5 45 "LockedCarts$OrderText" "numbers" "[I" ∈ tb := tb_t 239 (by decide +kernel) (by decide +kernel)
theorem wd_240 : Cond.fieldLink RX6 24 "LockedCarts$OrderText" "end" "I" ∈ tb := tb_t 240 (by decide +kernel) (by decide +kernel)
theorem wd_241 : Cond.fieldLink RX5 53 "LockedCarts$OrderText" "end" "I" ∈ tb := tb_t 241 (by decide +kernel) (by decide +kernel)
theorem wd_253 : Cond.arrayClass FieldType.char ∈ tb := tb_t 253 (by decide +kernel) (by decide +kernel)
theorem wd_254 : Cond.classLink RX10 47 RX5 ∈ tb := tb_t 254 (by decide +kernel) (by decide +kernel)
theorem wd_255 : Cond.instantiable RX5 6 ∈ tb := tb_t 255 (by decide +kernel) (by decide +kernel)
theorem wd_256 : Cond.methodLink RX10 49 yX5_init ∈ tb := tb_t 256 (by decide +kernel) (by decide +kernel)
theorem wd_257 : Cond.instanceMethod yX5_init ∈ tb := tb_t 257 (by decide +kernel) (by decide +kernel)
theorem wd_258 : Cond.code yX5_init cX5_init 3 none ∈ tb := tb_t 258 (by decide +kernel) (by decide +kernel)
theorem wd_259 : Cond.methodLink RX5 3 objectInit ∈ tb := tb_t 259 (by decide +kernel) (by decide +kernel)
theorem wd_260 : Cond.fieldLink RX5 9 "LockedCarts$OrderRunner" "text" "LLockedCarts$OrderText;" ∈ tb := tb_t 260 (by decide +kernel) (by decide +kernel)
theorem wd_261 : Cond.fieldLink RX5 15 "LockedCarts$OrderRunner" "runner" "LLockedCarts$PhaseRunner;" ∈ tb := tb_t 261 (by decide +kernel) (by decide +kernel)
theorem wd_262 : Cond.fieldLink RX5 23 "LockedCarts$OrderRunner" "done" "I" ∈ tb := tb_t 262 (by decide +kernel) (by decide +kernel)
theorem wd_263 : Cond.fieldLink RX10 215 "LockedCarts$OrderRunner" "done" "I" ∈ tb := tb_t 263 (by decide +kernel) (by decide +kernel)
theorem wd_264 : Cond.fieldLink RX5 26 "LockedCarts$OrderRunner" "position" "I" ∈ tb := tb_t 264 (by decide +kernel) (by decide +kernel)
theorem wd_265 : Cond.fieldLink RX10 206 "LockedCarts$OrderRunner" "position" "I" ∈ tb := tb_t 265 (by decide +kernel) (by decide +kernel)
theorem wd_266 : Cond.fieldLink RX5 19 "LockedCarts$OrderRunner" "reason" "I" ∈ tb := tb_t 266 (by decide +kernel) (by decide +kernel)
theorem wd_267 : Cond.fieldLink RX10 209 "LockedCarts$OrderRunner" "reason" "I" ∈ tb := tb_t 267 (by decide +kernel) (by decide +kernel)
theorem wd_268 : Cond.fieldLink RX5 29 "LockedCarts$OrderRunner" "cause" "I" ∈ tb := tb_t 268 (by decide +kernel) (by decide +kernel)
theorem wd_269 : Cond.fieldLink RX10 212 "LockedCarts$OrderRunner" "cause" "I" ∈ tb := tb_t 269 (by decide +kernel) (by decide +kernel)
theorem wd_283 : Cond.fieldLink RX10 10 "LockedCarts" "race" "LLockedCarts$Race;" ∈ tb := tb_t 283 (by decide +kernel) (by decide +kernel)
theorem wd_284 : Cond.fieldLink RX10 16 "LockedCarts" "trial" "LLockedCarts$Race;" ∈ tb := tb_t 284 (by decide +kernel) (by decide +kernel)
theorem wd_285 : Cond.fieldLink RX10 22 "LockedCarts" "history" "LLockedCarts$History;" ∈ tb := tb_t 285 (by decide +kernel) (by decide +kernel)
theorem wd_286 : Cond.fieldLink RX10 29 "LockedCarts" "runner" "LLockedCarts$PhaseRunner;" ∈ tb := tb_t 286 (by decide +kernel) (by decide +kernel)
theorem wd_287 : Cond.fieldLink RX10 36 "LockedCarts" "ways" "LLockedCarts$Ways;" ∈ tb := tb_t 287 (by decide +kernel) (by decide +kernel)
theorem wd_288 : Cond.fieldLink RX10 43 "LockedCarts" "text" "LLockedCarts$OrderText;" ∈ tb := tb_t 288 (by decide +kernel) (by decide +kernel)
theorem wd_289 : Cond.fieldLink RX10 52 "LockedCarts" "orders" "LLockedCarts$OrderRunner;" ∈ tb := tb_t 289 (by decide +kernel) (by decide +kernel)
theorem wd_305 : Cond.methodLink RL 13 yX10_count ∈ tb := tb_t 305 (by decide +kernel) (by decide +kernel)
theorem wd_306 : Cond.instanceMethod yX10_count ∈ tb := tb_t 306 (by decide +kernel) (by decide +kernel)
theorem wd_307 : Cond.selects RX10 yX10_count yX10_count ∈ tb := tb_t 307 (by decide +kernel) (by decide +kernel)
theorem wd_308 : Cond.code yX10_count cX10_count 2 (some FieldType.int) ∈ tb := tb_t 308 (by decide +kernel) (by decide +kernel)
theorem wd_309 : Cond.methodLink RX10 173 yX8_cartsOut ∈ tb := tb_t 309 (by decide +kernel) (by decide +kernel)
theorem wd_310 : Cond.instanceMethod yX8_cartsOut ∈ tb := tb_t 310 (by decide +kernel) (by decide +kernel)
theorem wd_311 : Cond.selects RX8 yX8_cartsOut yX8_cartsOut ∈ tb := tb_t 311 (by decide +kernel) (by decide +kernel)
theorem wd_312 : Cond.code yX8_cartsOut cX8_cartsOut 3 (some FieldType.int) ∈ tb := tb_t 312 (by decide +kernel) (by decide +kernel)
theorem wd_313 : Cond.methodLink RX8 54 yX3_isOut ∈ tb := tb_t 313 (by decide +kernel) (by decide +kernel)
theorem wd_314 : Cond.instanceMethod yX3_isOut ∈ tb := tb_t 314 (by decide +kernel) (by decide +kernel)
theorem wd_315 : Cond.selects RX3 yX3_isOut yX3_isOut ∈ tb := tb_t 315 (by decide +kernel) (by decide +kernel)
theorem wd_316 : Cond.code yX3_isOut cX3_isOut 1 (some FieldType.boolean) ∈ tb := tb_t 316 (by decide +kernel) (by decide +kernel)
theorem wd_317 : Cond.constant RX10 121 (-1000004 : Int32) ∈ tb := tb_t 317 (by decide +kernel) (by decide +kernel)
theorem wd_318 : Cond.constant RX10 99 (-1000001 : Int32) ∈ tb := tb_t 318 (by decide +kernel) (by decide +kernel)
theorem wd_319 : Cond.methodLink RL 101 yX10_undo ∈ tb := tb_t 319 (by decide +kernel) (by decide +kernel)
theorem wd_320 : Cond.instanceMethod yX10_undo ∈ tb := tb_t 320 (by decide +kernel) (by decide +kernel)
theorem wd_321 : Cond.selects RX10 yX10_undo yX10_undo ∈ tb := tb_t 321 (by decide +kernel) (by decide +kernel)
theorem wd_322 : Cond.code yX10_undo cX10_undo 1 (some FieldType.int) ∈ tb := tb_t 322 (by decide +kernel) (by decide +kernel)
theorem wd_323 : Cond.constant RX10 156 (-1000002 : Int32) ∈ tb := tb_t 323 (by decide +kernel) (by decide +kernel)
theorem wd_324 : Cond.methodLink RX10 192 yX4_restore ∈ tb := tb_t 324 (by decide +kernel) (by decide +kernel)
theorem wd_325 : Cond.instanceMethod yX4_restore ∈ tb := tb_t 325 (by decide +kernel) (by decide +kernel)
theorem wd_326 : Cond.selects RX4 yX4_restore yX4_restore ∈ tb := tb_t 326 (by decide +kernel) (by decide +kernel)
theorem wd_327 : Cond.code yX4_restore cX4_restore 2 none ∈ tb := tb_t 327 (by decide +kernel) (by decide +kernel)
theorem wd_328 : Cond.methodLink RX4 25 yX8_copyFrom ∈ tb := tb_t 328 (by decide +kernel) (by decide +kernel)
theorem wd_329 : Cond.instanceMethod yX8_copyFrom ∈ tb := tb_t 329 (by decide +kernel) (by decide +kernel)
theorem wd_330 : Cond.selects RX8 yX8_copyFrom yX8_copyFrom ∈ tb := tb_t 330 (by decide +kernel) (by decide +kernel)
theorem wd_331 : Cond.code yX8_copyFrom cX8_copyFrom 3 none ∈ tb := tb_t 331 (by decide +kernel) (by decide +kernel)
theorem wd_332 : Cond.methodLink RX8 29 yX1_copyFrom ∈ tb := tb_t 332 (by decide +kernel) (by decide +kernel)
theorem wd_333 : Cond.instanceMethod yX1_copyFrom ∈ tb := tb_t 333 (by decide +kernel) (by decide +kernel)
theorem wd_334 : Cond.selects RX1 yX1_copyFrom yX1_copyFrom ∈ tb := tb_t 334 (by decide +kernel) (by decide +kernel)
theorem wd_335 : Cond.code yX1_copyFrom cX1_copyFrom 2 none ∈ tb := tb_t 335 (by decide +kernel) (by decide +kernel)
theorem wd_336 : Cond.methodLink RX1 21 ⟨"java/lang/System", "arraycopy", "(Ljava/lang/Object;ILjava/lang/Object;II)V"⟩ ∈ tb := tb_t 336 (by decide +kernel) (by decide +kernel)
theorem wd_337 : Cond.static arraycopyName ∈ tb := tb_t 337 (by decide +kernel) (by decide +kernel)
theorem wd_338 : Cond.native arraycopyName ∈ tb := tb_t 338 (by decide +kernel) (by decide +kernel)
theorem wd_339 : Cond.methodLink RX8 33 yX3_copyFrom ∈ tb := tb_t 339 (by decide +kernel) (by decide +kernel)
theorem wd_340 : Cond.instanceMethod yX3_copyFrom ∈ tb := tb_t 340 (by decide +kernel) (by decide +kernel)
theorem wd_341 : Cond.selects RX3 yX3_copyFrom yX3_copyFrom ∈ tb := tb_t 341 (by decide +kernel) (by decide +kernel)
theorem wd_342 : Cond.code yX3_copyFrom cX3_copyFrom 2 none ∈ tb := tb_t 342 (by decide +kernel) (by decide +kernel)
theorem wd_343 : Cond.methodLink RX3 22 ⟨"java/lang/System", "arraycopy", "(Ljava/lang/Object;ILjava/lang/Object;II)V"⟩ ∈ tb := tb_t 343 (by decide +kernel) (by decide +kernel)
theorem wd_344 : Cond.methodLink RL 104 yL_lot ∈ tb := tb_t 344 (by decide +kernel) (by decide +kernel)
theorem wd_345 : Cond.static yL_lot ∈ tb := tb_t 345 (by decide +kernel) (by decide +kernel)
set_option maxRecDepth 100000 in
theorem wd_346 : Cond.code yL_lot cL_lot 2 (some FieldType.int) ∈ tb := tb_t 346 (by rfl) (by rfl)
theorem wd_347 : Cond.constant RL 7 (-488643221 : Int32) ∈ tb := tb_t 347 (by decide +kernel) (by decide +kernel)
theorem wd_348 : Cond.methodLink RL 36 yL_low ∈ tb := tb_t 348 (by decide +kernel) (by decide +kernel)
theorem wd_349 : Cond.static yL_low ∈ tb := tb_t 349 (by decide +kernel) (by decide +kernel)
set_option maxRecDepth 100000 in
theorem wd_350 : Cond.code yL_low cL_low 2 (some FieldType.int) ∈ tb := tb_t 350 (by rfl) (by rfl)
theorem wd_351 : Cond.constant RL 8 (2147483647 : Int32) ∈ tb := tb_t 351 (by decide +kernel) (by decide +kernel)
theorem wd_352 : Cond.methodLink RL 108 yL_digest ∈ tb := tb_t 352 (by decide +kernel) (by decide +kernel)
theorem wd_353 : Cond.static yL_digest ∈ tb := tb_t 353 (by decide +kernel) (by decide +kernel)
set_option maxRecDepth 100000 in
theorem wd_354 : Cond.code yL_digest cL_digest 4 (some FieldType.long) ∈ tb := tb_t 354 (by rfl) (by rfl)
theorem wd_355 : Cond.constantLong RL 9 (101 : Int64) ∈ tb := tb_t 355 (by decide +kernel) (by decide +kernel)
theorem wd_356 : Cond.constantLong RL 11 (31 : Int64) ∈ tb := tb_t 356 (by decide +kernel) (by decide +kernel)
theorem wd_357 : Cond.methodLink RL 19 yX10_cellOf ∈ tb := tb_t 357 (by decide +kernel) (by decide +kernel)
theorem wd_358 : Cond.instanceMethod yX10_cellOf ∈ tb := tb_t 358 (by decide +kernel) (by decide +kernel)
theorem wd_359 : Cond.selects RX10 yX10_cellOf yX10_cellOf ∈ tb := tb_t 359 (by decide +kernel) (by decide +kernel)
theorem wd_360 : Cond.code yX10_cellOf cX10_cellOf 3 (some FieldType.int) ∈ tb := tb_t 360 (by decide +kernel) (by decide +kernel)
theorem wd_361 : Cond.methodLink RX10 91 yX10_isCell ∈ tb := tb_t 361 (by decide +kernel) (by decide +kernel)
theorem wd_362 : Cond.static yX10_isCell ∈ tb := tb_t 362 (by decide +kernel) (by decide +kernel)
theorem wd_363 : Cond.code yX10_isCell cX10_isCell 1 (some FieldType.boolean) ∈ tb := tb_t 363 (by decide +kernel) (by decide +kernel)
theorem wd_364 : Cond.methodLink RX10 95 yX10_isWithin ∈ tb := tb_t 364 (by decide +kernel) (by decide +kernel)
theorem wd_365 : Cond.static yX10_isWithin ∈ tb := tb_t 365 (by decide +kernel) (by decide +kernel)
theorem wd_366 : Cond.code yX10_isWithin cX10_isWithin 3 (some FieldType.boolean) ∈ tb := tb_t 366 (by decide +kernel) (by decide +kernel)
theorem wd_367 : Cond.methodLink RX10 100 yX8_cellValue ∈ tb := tb_t 367 (by decide +kernel) (by decide +kernel)
theorem wd_368 : Cond.instanceMethod yX8_cellValue ∈ tb := tb_t 368 (by decide +kernel) (by decide +kernel)
theorem wd_369 : Cond.selects RX8 yX8_cellValue yX8_cellValue ∈ tb := tb_t 369 (by decide +kernel) (by decide +kernel)
theorem wd_370 : Cond.code yX8_cellValue cX8_cellValue 3 (some FieldType.int) ∈ tb := tb_t 370 (by decide +kernel) (by decide +kernel)
theorem wd_371 : Cond.methodLink RX8 61 yX1_kindOn ∈ tb := tb_t 371 (by decide +kernel) (by decide +kernel)
theorem wd_372 : Cond.instanceMethod yX1_kindOn ∈ tb := tb_t 372 (by decide +kernel) (by decide +kernel)
theorem wd_373 : Cond.selects RX1 yX1_kindOn yX1_kindOn ∈ tb := tb_t 373 (by decide +kernel) (by decide +kernel)
theorem wd_374 : Cond.code yX1_kindOn cX1_kindOn 2 (some FieldType.int) ∈ tb := tb_t 374 (by decide +kernel) (by decide +kernel)
theorem wd_375 : Cond.methodLink RX8 65 yX1_wallsOf ∈ tb := tb_t 375 (by decide +kernel) (by decide +kernel)
theorem wd_376 : Cond.instanceMethod yX1_wallsOf ∈ tb := tb_t 376 (by decide +kernel) (by decide +kernel)
theorem wd_377 : Cond.selects RX1 yX1_wallsOf yX1_wallsOf ∈ tb := tb_t 377 (by decide +kernel) (by decide +kernel)
theorem wd_378 : Cond.code yX1_wallsOf cX1_wallsOf 2 (some FieldType.int) ∈ tb := tb_t 378 (by decide +kernel) (by decide +kernel)
theorem wd_379 : Cond.methodLink RX8 68 yX8_cartOn ∈ tb := tb_t 379 (by decide +kernel) (by decide +kernel)
theorem wd_380 : Cond.instanceMethod yX8_cartOn ∈ tb := tb_t 380 (by decide +kernel) (by decide +kernel)
theorem wd_381 : Cond.selects RX8 yX8_cartOn yX8_cartOn ∈ tb := tb_t 381 (by decide +kernel) (by decide +kernel)
theorem wd_382 : Cond.code yX8_cartOn cX8_cartOn 3 (some FieldType.int) ∈ tb := tb_t 382 (by decide +kernel) (by decide +kernel)
theorem wd_383 : Cond.constant RX8 71 (-1000004 : Int32) ∈ tb := tb_t 383 (by decide +kernel) (by decide +kernel)
theorem wd_384 : Cond.methodLink RX8 72 yX1_lowestFlagOn ∈ tb := tb_t 384 (by decide +kernel) (by decide +kernel)
theorem wd_385 : Cond.instanceMethod yX1_lowestFlagOn ∈ tb := tb_t 385 (by decide +kernel) (by decide +kernel)
theorem wd_386 : Cond.selects RX1 yX1_lowestFlagOn yX1_lowestFlagOn ∈ tb := tb_t 386 (by decide +kernel) (by decide +kernel)
theorem wd_387 : Cond.code yX1_lowestFlagOn cX1_lowestFlagOn 3 (some FieldType.int) ∈ tb := tb_t 387 (by decide +kernel) (by decide +kernel)
theorem wd_388 : Cond.constant RX1 42 (-1000004 : Int32) ∈ tb := tb_t 388 (by decide +kernel) (by decide +kernel)
theorem wd_389 : Cond.methodLink RL 23 yX10_cartOf ∈ tb := tb_t 389 (by decide +kernel) (by decide +kernel)
theorem wd_390 : Cond.instanceMethod yX10_cartOf ∈ tb := tb_t 390 (by decide +kernel) (by decide +kernel)
theorem wd_391 : Cond.selects RX10 yX10_cartOf yX10_cartOf ∈ tb := tb_t 391 (by decide +kernel) (by decide +kernel)
theorem wd_392 : Cond.code yX10_cartOf cX10_cartOf 3 (some FieldType.int) ∈ tb := tb_t 392 (by decide +kernel) (by decide +kernel)
theorem wd_393 : Cond.methodLink RX10 103 yX8_hasCart ∈ tb := tb_t 393 (by decide +kernel) (by decide +kernel)
theorem wd_394 : Cond.instanceMethod yX8_hasCart ∈ tb := tb_t 394 (by decide +kernel) (by decide +kernel)
theorem wd_395 : Cond.selects RX8 yX8_hasCart yX8_hasCart ∈ tb := tb_t 395 (by decide +kernel) (by decide +kernel)
theorem wd_396 : Cond.code yX8_hasCart cX8_hasCart 2 (some FieldType.boolean) ∈ tb := tb_t 396 (by decide +kernel) (by decide +kernel)
theorem wd_397 : Cond.methodLink RX10 110 yX3_value ∈ tb := tb_t 397 (by decide +kernel) (by decide +kernel)
theorem wd_398 : Cond.instanceMethod yX3_value ∈ tb := tb_t 398 (by decide +kernel) (by decide +kernel)
theorem wd_399 : Cond.selects RX3 yX3_value yX3_value ∈ tb := tb_t 399 (by decide +kernel) (by decide +kernel)
theorem wd_400 : Cond.code yX3_value cX3_value 2 (some FieldType.int) ∈ tb := tb_t 400 (by decide +kernel) (by decide +kernel)
theorem wd_401 : Cond.methodLink RX3 69 yX3_isOut ∈ tb := tb_t 401 (by decide +kernel) (by decide +kernel)
theorem wd_402 : Cond.constant RX3 73 (-1000004 : Int32) ∈ tb := tb_t 402 (by decide +kernel) (by decide +kernel)
theorem wd_403 : Cond.methodLink RX3 74 yX3_lockedSet ∈ tb := tb_t 403 (by decide +kernel) (by decide +kernel)
theorem wd_404 : Cond.instanceMethod yX3_lockedSet ∈ tb := tb_t 404 (by decide +kernel) (by decide +kernel)
theorem wd_405 : Cond.selects RX3 yX3_lockedSet yX3_lockedSet ∈ tb := tb_t 405 (by decide +kernel) (by decide +kernel)
theorem wd_406 : Cond.code yX3_lockedSet cX3_lockedSet 3 (some FieldType.int) ∈ tb := tb_t 406 (by decide +kernel) (by decide +kernel)
theorem wd_407 : Cond.methodLink RX3 52 yX3_unlockedRegisters ∈ tb := tb_t 407 (by decide +kernel) (by decide +kernel)
theorem wd_408 : Cond.instanceMethod yX3_unlockedRegisters ∈ tb := tb_t 408 (by decide +kernel) (by decide +kernel)
theorem wd_409 : Cond.selects RX3 yX3_unlockedRegisters yX3_unlockedRegisters ∈ tb := tb_t 409 (by decide +kernel) (by decide +kernel)
theorem wd_410 : Cond.code yX3_unlockedRegisters cX3_unlockedRegisters 1 (some FieldType.int) ∈ tb := tb_t 410 (by decide +kernel) (by decide +kernel)
theorem wd_411 : Cond.methodLink RX3 46 yJ9_max_7cf53 ∈ tb := tb_t 411 (by decide +kernel) (by decide +kernel)
theorem wd_412 : Cond.static yJ9_max_7cf53 ∈ tb := tb_t 412 (by decide +kernel) (by decide +kernel)
theorem wd_413 : Cond.code yJ9_max_7cf53 cJ9_max_7cf53 2 (some FieldType.int) ∈ tb := tb_t 413 (by decide +kernel) (by decide +kernel)
theorem wd_414 : Cond.methodLink RX3 77 yX3_cardSet ∈ tb := tb_t 414 (by decide +kernel) (by decide +kernel)
theorem wd_415 : Cond.instanceMethod yX3_cardSet ∈ tb := tb_t 415 (by decide +kernel) (by decide +kernel)
theorem wd_416 : Cond.selects RX3 yX3_cardSet yX3_cardSet ∈ tb := tb_t 416 (by decide +kernel) (by decide +kernel)
theorem wd_417 : Cond.code yX3_cardSet cX3_cardSet 3 (some FieldType.int) ∈ tb := tb_t 417 (by decide +kernel) (by decide +kernel)
theorem wd_418 : Cond.constant RX3 80 (-1000001 : Int32) ∈ tb := tb_t 418 (by decide +kernel) (by decide +kernel)
theorem wd_419 : Cond.methodLink RL 26 yX10_cardOf ∈ tb := tb_t 419 (by decide +kernel) (by decide +kernel)
theorem wd_420 : Cond.instanceMethod yX10_cardOf ∈ tb := tb_t 420 (by decide +kernel) (by decide +kernel)
theorem wd_421 : Cond.selects RX10 yX10_cardOf yX10_cardOf ∈ tb := tb_t 421 (by decide +kernel) (by decide +kernel)
theorem wd_422 : Cond.code yX10_cardOf cX10_cardOf 5 (some FieldType.int) ∈ tb := tb_t 422 (by decide +kernel) (by decide +kernel)
theorem wd_423 : Cond.methodLink RX10 115 yX10_isRegister ∈ tb := tb_t 423 (by decide +kernel) (by decide +kernel)
theorem wd_424 : Cond.static yX10_isRegister ∈ tb := tb_t 424 (by decide +kernel) (by decide +kernel)
theorem wd_425 : Cond.code yX10_isRegister cX10_isRegister 1 (some FieldType.boolean) ∈ tb := tb_t 425 (by decide +kernel) (by decide +kernel)
theorem wd_426 : Cond.methodLink RX10 118 yX3_hasCard ∈ tb := tb_t 426 (by decide +kernel) (by decide +kernel)
theorem wd_427 : Cond.instanceMethod yX3_hasCard ∈ tb := tb_t 427 (by decide +kernel) (by decide +kernel)
theorem wd_428 : Cond.selects RX3 yX3_hasCard yX3_hasCard ∈ tb := tb_t 428 (by decide +kernel) (by decide +kernel)
theorem wd_429 : Cond.code yX3_hasCard cX3_hasCard 2 (some FieldType.boolean) ∈ tb := tb_t 429 (by decide +kernel) (by decide +kernel)
theorem wd_430 : Cond.methodLink RL 98 yL_holds ∈ tb := tb_t 430 (by decide +kernel) (by decide +kernel)
theorem wd_431 : Cond.static yL_holds ∈ tb := tb_t 431 (by decide +kernel) (by decide +kernel)
set_option maxRecDepth 100000 in
theorem wd_432 : Cond.code yL_holds cL_holds 11 (some FieldType.boolean) ∈ tb := tb_t 432 (by rfl) (by rfl)
theorem wd_433 : Cond.constant RL 32 (-1000004 : Int32) ∈ tb := tb_t 433 (by decide +kernel) (by decide +kernel)
theorem wd_434 : Cond.methodLink RL 112 yL_acts ∈ tb := tb_t 434 (by decide +kernel) (by decide +kernel)
theorem wd_435 : Cond.static yL_acts ∈ tb := tb_t 435 (by decide +kernel) (by decide +kernel)
set_option maxRecDepth 100000 in
theorem wd_436 : Cond.code yL_acts cL_acts 15 (some FieldType.boolean) ∈ tb := tb_t 436 (by rfl) (by rfl)
theorem wd_437 : Cond.methodLink RL 55 yX10_cart ∈ tb := tb_t 437 (by decide +kernel) (by decide +kernel)
theorem wd_438 : Cond.instanceMethod yX10_cart ∈ tb := tb_t 438 (by decide +kernel) (by decide +kernel)
theorem wd_439 : Cond.selects RX10 yX10_cart yX10_cart ∈ tb := tb_t 439 (by decide +kernel) (by decide +kernel)
theorem wd_440 : Cond.code yX10_cart cX10_cart 3 (some FieldType.int) ∈ tb := tb_t 440 (by decide +kernel) (by decide +kernel)
theorem wd_441 : Cond.methodLink RX10 56 yX10_freshTrial ∈ tb := tb_t 441 (by decide +kernel) (by decide +kernel)
theorem wd_443 : Cond.instanceMethod yX10_freshTrial ∈ tb := tb_t 443 (by decide +kernel) (by decide +kernel)
theorem wd_444 : Cond.code yX10_freshTrial cX10_freshTrial 1 (some (FieldType.object "LockedCarts$Race")) ∈ tb := tb_t 444 (by decide +kernel) (by decide +kernel)
theorem wd_445 : Cond.methodLink RX10 218 yX8_copyFrom ∈ tb := tb_t 445 (by decide +kernel) (by decide +kernel)
theorem wd_446 : Cond.methodLink RX10 74 yX8_addCart ∈ tb := tb_t 446 (by decide +kernel) (by decide +kernel)
theorem wd_447 : Cond.instanceMethod yX8_addCart ∈ tb := tb_t 447 (by decide +kernel) (by decide +kernel)
theorem wd_448 : Cond.selects RX8 yX8_addCart yX8_addCart ∈ tb := tb_t 448 (by decide +kernel) (by decide +kernel)
theorem wd_449 : Cond.code yX8_addCart cX8_addCart 3 (some FieldType.int) ∈ tb := tb_t 449 (by decide +kernel) (by decide +kernel)
theorem wd_452 : Cond.static yX10_isDirection ∈ tb := tb_t 452 (by decide +kernel) (by decide +kernel)
theorem wd_453 : Cond.code yX10_isDirection cX10_isDirection 1 (some FieldType.boolean) ∈ tb := tb_t 453 (by decide +kernel) (by decide +kernel)
theorem wd_454 : Cond.constant RX8 83 (-1000001 : Int32) ∈ tb := tb_t 454 (by decide +kernel) (by decide +kernel)
theorem wd_455 : Cond.methodLink RX8 112 yX1_isPit ∈ tb := tb_t 455 (by decide +kernel) (by decide +kernel)
theorem wd_456 : Cond.instanceMethod yX1_isPit ∈ tb := tb_t 456 (by decide +kernel) (by decide +kernel)
theorem wd_457 : Cond.selects RX1 yX1_isPit yX1_isPit ∈ tb := tb_t 457 (by decide +kernel) (by decide +kernel)
theorem wd_458 : Cond.code yX1_isPit cX1_isPit 2 (some FieldType.boolean) ∈ tb := tb_t 458 (by decide +kernel) (by decide +kernel)
theorem wd_459 : Cond.constant RX8 84 (-1000002 : Int32) ∈ tb := tb_t 459 (by decide +kernel) (by decide +kernel)
theorem wd_460 : Cond.constant RX8 115 (-1000003 : Int32) ∈ tb := tb_t 460 (by decide +kernel) (by decide +kernel)
theorem wd_461 : Cond.methodLink RX8 116 yX3_begin ∈ tb := tb_t 461 (by decide +kernel) (by decide +kernel)
theorem wd_462 : Cond.instanceMethod yX3_begin ∈ tb := tb_t 462 (by decide +kernel) (by decide +kernel)
theorem wd_463 : Cond.selects RX3 yX3_begin yX3_begin ∈ tb := tb_t 463 (by decide +kernel) (by decide +kernel)
theorem wd_464 : Cond.code yX3_begin cX3_begin 3 none ∈ tb := tb_t 464 (by decide +kernel) (by decide +kernel)
theorem wd_465 : Cond.methodLink RX10 64 yX10_keep ∈ tb := tb_t 465 (by decide +kernel) (by decide +kernel)
theorem wd_467 : Cond.instanceMethod yX10_keep ∈ tb := tb_t 467 (by decide +kernel) (by decide +kernel)
theorem wd_468 : Cond.code yX10_keep cX10_keep 2 (some FieldType.int) ∈ tb := tb_t 468 (by decide +kernel) (by decide +kernel)
theorem wd_469 : Cond.methodLink RX10 221 yX10_isError ∈ tb := tb_t 469 (by decide +kernel) (by decide +kernel)
theorem wd_470 : Cond.static yX10_isError ∈ tb := tb_t 470 (by decide +kernel) (by decide +kernel)
theorem wd_471 : Cond.code yX10_isError cX10_isError 1 (some FieldType.boolean) ∈ tb := tb_t 471 (by decide +kernel) (by decide +kernel)
theorem wd_472 : Cond.methodLink RX10 224 yX4_add ∈ tb := tb_t 472 (by decide +kernel) (by decide +kernel)
theorem wd_473 : Cond.instanceMethod yX4_add ∈ tb := tb_t 473 (by decide +kernel) (by decide +kernel)
theorem wd_474 : Cond.selects RX4 yX4_add yX4_add ∈ tb := tb_t 474 (by decide +kernel) (by decide +kernel)
theorem wd_475 : Cond.code yX4_add cX4_add 2 none ∈ tb := tb_t 475 (by decide +kernel) (by decide +kernel)
theorem wd_476 : Cond.methodLink RX4 22 yX4_dropOldest ∈ tb := tb_t 476 (by decide +kernel) (by decide +kernel)
theorem wd_478 : Cond.instanceMethod yX4_dropOldest ∈ tb := tb_t 478 (by decide +kernel) (by decide +kernel)
theorem wd_479 : Cond.code yX4_dropOldest cX4_dropOldest 3 none ∈ tb := tb_t 479 (by decide +kernel) (by decide +kernel)
theorem wd_480 : Cond.constant RL 54 (-1000001 : Int32) ∈ tb := tb_t 480 (by decide +kernel) (by decide +kernel)
theorem wd_481 : Cond.constant RL 53 (-1000002 : Int32) ∈ tb := tb_t 481 (by decide +kernel) (by decide +kernel)
theorem wd_482 : Cond.constant RL 58 (-1000003 : Int32) ∈ tb := tb_t 482 (by decide +kernel) (by decide +kernel)
theorem wd_483 : Cond.methodLink RL 59 yX10_kind ∈ tb := tb_t 483 (by decide +kernel) (by decide +kernel)
theorem wd_484 : Cond.instanceMethod yX10_kind ∈ tb := tb_t 484 (by decide +kernel) (by decide +kernel)
theorem wd_485 : Cond.selects RX10 yX10_kind yX10_kind ∈ tb := tb_t 485 (by decide +kernel) (by decide +kernel)
theorem wd_486 : Cond.code yX10_kind cX10_kind 3 (some FieldType.int) ∈ tb := tb_t 486 (by decide +kernel) (by decide +kernel)
theorem wd_487 : Cond.methodLink RX10 60 yX8_setKind ∈ tb := tb_t 487 (by decide +kernel) (by decide +kernel)
theorem wd_488 : Cond.instanceMethod yX8_setKind ∈ tb := tb_t 488 (by decide +kernel) (by decide +kernel)
theorem wd_489 : Cond.selects RX8 yX8_setKind yX8_setKind ∈ tb := tb_t 489 (by decide +kernel) (by decide +kernel)
theorem wd_490 : Cond.code yX8_setKind cX8_setKind 4 (some FieldType.int) ∈ tb := tb_t 490 (by decide +kernel) (by decide +kernel)
theorem wd_492 : Cond.methodLink RL 62 yX10_wall ∈ tb := tb_t 492 (by decide +kernel) (by decide +kernel)
theorem wd_493 : Cond.instanceMethod yX10_wall ∈ tb := tb_t 493 (by decide +kernel) (by decide +kernel)
theorem wd_494 : Cond.selects RX10 yX10_wall yX10_wall ∈ tb := tb_t 494 (by decide +kernel) (by decide +kernel)
theorem wd_495 : Cond.code yX10_wall cX10_wall 3 (some FieldType.int) ∈ tb := tb_t 495 (by decide +kernel) (by decide +kernel)
theorem wd_496 : Cond.methodLink RX10 68 yX8_flipWall ∈ tb := tb_t 496 (by decide +kernel) (by decide +kernel)
theorem wd_497 : Cond.instanceMethod yX8_flipWall ∈ tb := tb_t 497 (by decide +kernel) (by decide +kernel)
theorem wd_498 : Cond.selects RX8 yX8_flipWall yX8_flipWall ∈ tb := tb_t 498 (by decide +kernel) (by decide +kernel)
theorem wd_499 : Cond.code yX8_flipWall cX8_flipWall 3 (some FieldType.int) ∈ tb := tb_t 499 (by decide +kernel) (by decide +kernel)
theorem wd_500 : Cond.methodLink RX8 92 yX1_flipWall ∈ tb := tb_t 500 (by decide +kernel) (by decide +kernel)
theorem wd_501 : Cond.instanceMethod yX1_flipWall ∈ tb := tb_t 501 (by decide +kernel) (by decide +kernel)
theorem wd_502 : Cond.selects RX1 yX1_flipWall yX1_flipWall ∈ tb := tb_t 502 (by decide +kernel) (by decide +kernel)
theorem wd_503 : Cond.code yX1_flipWall cX1_flipWall 3 none ∈ tb := tb_t 503 (by decide +kernel) (by decide +kernel)
theorem wd_504 : Cond.methodLink RX1 31 yX1_flipSide ∈ tb := tb_t 504 (by decide +kernel) (by decide +kernel)
theorem wd_506 : Cond.instanceMethod yX1_flipSide ∈ tb := tb_t 506 (by decide +kernel) (by decide +kernel)
theorem wd_507 : Cond.code yX1_flipSide cX1_flipSide 3 none ∈ tb := tb_t 507 (by decide +kernel) (by decide +kernel)
theorem wd_508 : Cond.methodLink RX1 35 yX1_neighbour ∈ tb := tb_t 508 (by decide +kernel) (by decide +kernel)
theorem wd_509 : Cond.static yX1_neighbour ∈ tb := tb_t 509 (by decide +kernel) (by decide +kernel)
theorem wd_510 : Cond.code yX1_neighbour cX1_neighbour 3 (some FieldType.int) ∈ tb := tb_t 510 (by decide +kernel) (by decide +kernel)
theorem wd_512 : Cond.static yX10_turned ∈ tb := tb_t 512 (by decide +kernel) (by decide +kernel)
theorem wd_513 : Cond.code yX10_turned cX10_turned 2 (some FieldType.int) ∈ tb := tb_t 513 (by decide +kernel) (by decide +kernel)
theorem wd_514 : Cond.methodLink RX8 96 yX1_hasWall ∈ tb := tb_t 514 (by decide +kernel) (by decide +kernel)
theorem wd_515 : Cond.instanceMethod yX1_hasWall ∈ tb := tb_t 515 (by decide +kernel) (by decide +kernel)
theorem wd_516 : Cond.selects RX1 yX1_hasWall yX1_hasWall ∈ tb := tb_t 516 (by decide +kernel) (by decide +kernel)
theorem wd_517 : Cond.code yX1_hasWall cX1_hasWall 3 (some FieldType.boolean) ∈ tb := tb_t 517 (by decide +kernel) (by decide +kernel)
theorem wd_518 : Cond.methodLink RL 65 yX10_flag ∈ tb := tb_t 518 (by decide +kernel) (by decide +kernel)
theorem wd_519 : Cond.instanceMethod yX10_flag ∈ tb := tb_t 519 (by decide +kernel) (by decide +kernel)
theorem wd_520 : Cond.selects RX10 yX10_flag yX10_flag ∈ tb := tb_t 520 (by decide +kernel) (by decide +kernel)
theorem wd_521 : Cond.code yX10_flag cX10_flag 3 (some FieldType.int) ∈ tb := tb_t 521 (by decide +kernel) (by decide +kernel)
theorem wd_522 : Cond.methodLink RX10 71 yX8_layFlag ∈ tb := tb_t 522 (by decide +kernel) (by decide +kernel)
theorem wd_523 : Cond.instanceMethod yX8_layFlag ∈ tb := tb_t 523 (by decide +kernel) (by decide +kernel)
theorem wd_524 : Cond.selects RX8 yX8_layFlag yX8_layFlag ∈ tb := tb_t 524 (by decide +kernel) (by decide +kernel)
theorem wd_525 : Cond.code yX8_layFlag cX8_layFlag 3 (some FieldType.int) ∈ tb := tb_t 525 (by decide +kernel) (by decide +kernel)
theorem wd_526 : Cond.methodLink RX8 106 yJ9_max_7cf53 ∈ tb := tb_t 526 (by decide +kernel) (by decide +kernel)
theorem wd_527 : Cond.methodLink RL 68 yX10_card ∈ tb := tb_t 527 (by decide +kernel) (by decide +kernel)
theorem wd_528 : Cond.instanceMethod yX10_card ∈ tb := tb_t 528 (by decide +kernel) (by decide +kernel)
theorem wd_529 : Cond.selects RX10 yX10_card yX10_card ∈ tb := tb_t 529 (by decide +kernel) (by decide +kernel)
theorem wd_530 : Cond.code yX10_card cX10_card 5 (some FieldType.int) ∈ tb := tb_t 530 (by decide +kernel) (by decide +kernel)
theorem wd_531 : Cond.methodLink RX10 77 yX8_layCard ∈ tb := tb_t 531 (by decide +kernel) (by decide +kernel)
theorem wd_532 : Cond.instanceMethod yX8_layCard ∈ tb := tb_t 532 (by decide +kernel) (by decide +kernel)
theorem wd_533 : Cond.selects RX8 yX8_layCard yX8_layCard ∈ tb := tb_t 533 (by decide +kernel) (by decide +kernel)
theorem wd_534 : Cond.code yX8_layCard cX8_layCard 6 (some FieldType.int) ∈ tb := tb_t 534 (by decide +kernel) (by decide +kernel)
theorem wd_535 : Cond.methodLink RX8 119 yX8_hasCart ∈ tb := tb_t 535 (by decide +kernel) (by decide +kernel)
theorem wd_537 : Cond.methodLink RX8 125 yX3_isLocked ∈ tb := tb_t 537 (by decide +kernel) (by decide +kernel)
theorem wd_538 : Cond.instanceMethod yX3_isLocked ∈ tb := tb_t 538 (by decide +kernel) (by decide +kernel)
theorem wd_539 : Cond.selects RX3 yX3_isLocked yX3_isLocked ∈ tb := tb_t 539 (by decide +kernel) (by decide +kernel)
theorem wd_540 : Cond.code yX3_isLocked cX3_isLocked 2 (some FieldType.boolean) ∈ tb := tb_t 540 (by decide +kernel) (by decide +kernel)
theorem wd_541 : Cond.methodLink RX8 128 yX3_lay ∈ tb := tb_t 541 (by decide +kernel) (by decide +kernel)
theorem wd_542 : Cond.instanceMethod yX3_lay ∈ tb := tb_t 542 (by decide +kernel) (by decide +kernel)
theorem wd_543 : Cond.selects RX3 yX3_lay yX3_lay ∈ tb := tb_t 543 (by decide +kernel) (by decide +kernel)
theorem wd_544 : Cond.code yX3_lay cX3_lay 4 none ∈ tb := tb_t 544 (by decide +kernel) (by decide +kernel)
theorem wd_545 : Cond.methodLink RX8 132 yX3_cardSet ∈ tb := tb_t 545 (by decide +kernel) (by decide +kernel)
theorem wd_546 : Cond.methodLink RX8 136 yJ6_bitCount_0f7a4 ∈ tb := tb_t 546 (by decide +kernel) (by decide +kernel)
theorem wd_547 : Cond.static yJ6_bitCount_0f7a4 ∈ tb := tb_t 547 (by decide +kernel) (by decide +kernel)
theorem wd_548 : Cond.code yJ6_bitCount_0f7a4 cJ6_bitCount_0f7a4 1 (some FieldType.int) ∈ tb := tb_t 548 (by decide +kernel) (by decide +kernel)
theorem wd_549 : Cond.constant RJ6 265 (1431655765 : Int32) ∈ tb := tb_t 549 (by decide +kernel) (by decide +kernel)
theorem wd_550 : Cond.constant RJ6 266 (858993459 : Int32) ∈ tb := tb_t 550 (by decide +kernel) (by decide +kernel)
theorem wd_551 : Cond.constant RJ6 267 (252645135 : Int32) ∈ tb := tb_t 551 (by decide +kernel) (by decide +kernel)
theorem wd_552 : Cond.methodLink RL 72 yX10_damage ∈ tb := tb_t 552 (by decide +kernel) (by decide +kernel)
theorem wd_553 : Cond.instanceMethod yX10_damage ∈ tb := tb_t 553 (by decide +kernel) (by decide +kernel)
theorem wd_554 : Cond.selects RX10 yX10_damage yX10_damage ∈ tb := tb_t 554 (by decide +kernel) (by decide +kernel)
theorem wd_555 : Cond.code yX10_damage cX10_damage 3 (some FieldType.int) ∈ tb := tb_t 555 (by decide +kernel) (by decide +kernel)
theorem wd_556 : Cond.methodLink RX10 81 yX8_harm ∈ tb := tb_t 556 (by decide +kernel) (by decide +kernel)
theorem wd_557 : Cond.instanceMethod yX8_harm ∈ tb := tb_t 557 (by decide +kernel) (by decide +kernel)
theorem wd_558 : Cond.selects RX8 yX8_harm yX8_harm ∈ tb := tb_t 558 (by decide +kernel) (by decide +kernel)
theorem wd_559 : Cond.code yX8_harm cX8_harm 4 (some FieldType.int) ∈ tb := tb_t 559 (by decide +kernel) (by decide +kernel)
theorem wd_560 : Cond.methodLink RX8 141 yX3_addDamage ∈ tb := tb_t 560 (by decide +kernel) (by decide +kernel)
theorem wd_561 : Cond.instanceMethod yX3_addDamage ∈ tb := tb_t 561 (by decide +kernel) (by decide +kernel)
theorem wd_562 : Cond.selects RX3 yX3_addDamage yX3_addDamage ∈ tb := tb_t 562 (by decide +kernel) (by decide +kernel)
theorem wd_563 : Cond.code yX3_addDamage cX3_addDamage 2 none ∈ tb := tb_t 563 (by decide +kernel) (by decide +kernel)
theorem wd_564 : Cond.methodLink RX3 62 yJ9_min_7cf53 ∈ tb := tb_t 564 (by decide +kernel) (by decide +kernel)
theorem wd_565 : Cond.static yJ9_min_7cf53 ∈ tb := tb_t 565 (by decide +kernel) (by decide +kernel)
theorem wd_566 : Cond.code yJ9_min_7cf53 cJ9_min_7cf53 2 (some FieldType.int) ∈ tb := tb_t 566 (by decide +kernel) (by decide +kernel)
theorem wd_567 : Cond.methodLink RL 75 yX10_round ∈ tb := tb_t 567 (by decide +kernel) (by decide +kernel)
theorem wd_568 : Cond.instanceMethod yX10_round ∈ tb := tb_t 568 (by decide +kernel) (by decide +kernel)
theorem wd_569 : Cond.selects RX10 yX10_round yX10_round ∈ tb := tb_t 569 (by decide +kernel) (by decide +kernel)
theorem wd_570 : Cond.code yX10_round cX10_round 1 (some FieldType.int) ∈ tb := tb_t 570 (by decide +kernel) (by decide +kernel)
theorem wd_571 : Cond.methodLink RX10 88 yX7_runToRoundEnd ∈ tb := tb_t 571 (by decide +kernel) (by decide +kernel)
theorem wd_572 : Cond.instanceMethod yX7_runToRoundEnd ∈ tb := tb_t 572 (by decide +kernel) (by decide +kernel)
theorem wd_573 : Cond.selects RX7 yX7_runToRoundEnd yX7_runToRoundEnd ∈ tb := tb_t 573 (by decide +kernel) (by decide +kernel)
theorem wd_574 : Cond.code yX7_runToRoundEnd cX7_runToRoundEnd 4 (some FieldType.int) ∈ tb := tb_t 574 (by decide +kernel) (by decide +kernel)
theorem wd_575 : Cond.constant RX7 31 (-1000002 : Int32) ∈ tb := tb_t 575 (by decide +kernel) (by decide +kernel)
theorem wd_576 : Cond.methodLink RX7 70 yX7_runNext ∈ tb := tb_t 576 (by decide +kernel) (by decide +kernel)
theorem wd_577 : Cond.instanceMethod yX7_runNext ∈ tb := tb_t 577 (by decide +kernel) (by decide +kernel)
theorem wd_578 : Cond.selects RX7 yX7_runNext yX7_runNext ∈ tb := tb_t 578 (by decide +kernel) (by decide +kernel)
theorem wd_579 : Cond.code yX7_runNext cX7_runNext 5 (some FieldType.int) ∈ tb := tb_t 579 (by decide +kernel) (by decide +kernel)
theorem wd_580 : Cond.methodLink RX7 32 yX8_timesOut ∈ tb := tb_t 580 (by decide +kernel) (by decide +kernel)
theorem wd_581 : Cond.instanceMethod yX8_timesOut ∈ tb := tb_t 581 (by decide +kernel) (by decide +kernel)
theorem wd_582 : Cond.selects RX8 yX8_timesOut yX8_timesOut ∈ tb := tb_t 582 (by decide +kernel) (by decide +kernel)
theorem wd_583 : Cond.code yX8_timesOut cX8_timesOut 3 (some FieldType.int) ∈ tb := tb_t 583 (by decide +kernel) (by decide +kernel)
theorem wd_584 : Cond.methodLink RX7 36 yX2_arrange ∈ tb := tb_t 584 (by decide +kernel) (by decide +kernel)
theorem wd_585 : Cond.instanceMethod yX2_arrange ∈ tb := tb_t 585 (by decide +kernel) (by decide +kernel)
theorem wd_586 : Cond.selects RX2 yX2_arrange yX2_arrange ∈ tb := tb_t 586 (by decide +kernel) (by decide +kernel)
theorem wd_587 : Cond.code yX2_arrange cX2_arrange 5 (some FieldType.int) ∈ tb := tb_t 587 (by decide +kernel) (by decide +kernel)
theorem wd_588 : Cond.methodLink RX2 28 yX3_isOut ∈ tb := tb_t 588 (by decide +kernel) (by decide +kernel)
theorem wd_589 : Cond.methodLink RX2 37 yX3_hasCard ∈ tb := tb_t 589 (by decide +kernel) (by decide +kernel)
theorem wd_590 : Cond.methodLink RX2 41 yX2_insert ∈ tb := tb_t 590 (by decide +kernel) (by decide +kernel)
theorem wd_592 : Cond.instanceMethod yX2_insert ∈ tb := tb_t 592 (by decide +kernel) (by decide +kernel)
theorem wd_593 : Cond.code yX2_insert cX2_insert 7 none ∈ tb := tb_t 593 (by decide +kernel) (by decide +kernel)
theorem wd_594 : Cond.methodLink RX7 44 yX2_follow ∈ tb := tb_t 594 (by decide +kernel) (by decide +kernel)
theorem wd_595 : Cond.instanceMethod yX2_follow ∈ tb := tb_t 595 (by decide +kernel) (by decide +kernel)
theorem wd_596 : Cond.selects RX2 yX2_follow yX2_follow ∈ tb := tb_t 596 (by decide +kernel) (by decide +kernel)
theorem wd_597 : Cond.code yX2_follow cX2_follow 9 none ∈ tb := tb_t 597 (by decide +kernel) (by decide +kernel)
theorem wd_599 : Cond.methodLink RX2 58 yX2_step ∈ tb := tb_t 599 (by decide +kernel) (by decide +kernel)
theorem wd_601 : Cond.instanceMethod yX2_step ∈ tb := tb_t 601 (by decide +kernel) (by decide +kernel)
theorem wd_602 : Cond.code yX2_step cX2_step 8 (some FieldType.boolean) ∈ tb := tb_t 602 (by decide +kernel) (by decide +kernel)
theorem wd_603 : Cond.methodLink RX2 72 yX1_hasWall ∈ tb := tb_t 603 (by decide +kernel) (by decide +kernel)
theorem wd_604 : Cond.methodLink RX2 78 yX1_neighbour ∈ tb := tb_t 604 (by decide +kernel) (by decide +kernel)
theorem wd_605 : Cond.methodLink RX2 81 yX8_cartOn ∈ tb := tb_t 605 (by decide +kernel) (by decide +kernel)
theorem wd_606 : Cond.methodLink RX2 85 yX8_enter ∈ tb := tb_t 606 (by decide +kernel) (by decide +kernel)
theorem wd_607 : Cond.instanceMethod yX8_enter ∈ tb := tb_t 607 (by decide +kernel) (by decide +kernel)
theorem wd_608 : Cond.selects RX8 yX8_enter yX8_enter ∈ tb := tb_t 608 (by decide +kernel) (by decide +kernel)
theorem wd_609 : Cond.code yX8_enter cX8_enter 3 none ∈ tb := tb_t 609 (by decide +kernel) (by decide +kernel)
theorem wd_610 : Cond.methodLink RX2 62 yX3_bump ∈ tb := tb_t 610 (by decide +kernel) (by decide +kernel)
theorem wd_611 : Cond.instanceMethod yX3_bump ∈ tb := tb_t 611 (by decide +kernel) (by decide +kernel)
theorem wd_612 : Cond.selects RX3 yX3_bump yX3_bump ∈ tb := tb_t 612 (by decide +kernel) (by decide +kernel)
theorem wd_613 : Cond.code yX3_bump cX3_bump 1 none ∈ tb := tb_t 613 (by decide +kernel) (by decide +kernel)
theorem wd_614 : Cond.methodLink RX3 65 yX3_addDamage ∈ tb := tb_t 614 (by decide +kernel) (by decide +kernel)
theorem wd_615 : Cond.methodLink RX7 48 yX0_carry ∈ tb := tb_t 615 (by decide +kernel) (by decide +kernel)
theorem wd_616 : Cond.instanceMethod yX0_carry ∈ tb := tb_t 616 (by decide +kernel) (by decide +kernel)
theorem wd_617 : Cond.selects RX0 yX0_carry yX0_carry ∈ tb := tb_t 617 (by decide +kernel) (by decide +kernel)
theorem wd_618 : Cond.code yX0_carry cX0_carry 4 none ∈ tb := tb_t 618 (by decide +kernel) (by decide +kernel)
theorem wd_619 : Cond.methodLink RX0 22 yX0_askAll ∈ tb := tb_t 619 (by decide +kernel) (by decide +kernel)
theorem wd_621 : Cond.instanceMethod yX0_askAll ∈ tb := tb_t 621 (by decide +kernel) (by decide +kernel)
theorem wd_622 : Cond.code yX0_askAll cX0_askAll 6 none ∈ tb := tb_t 622 (by decide +kernel) (by decide +kernel)
theorem wd_623 : Cond.methodLink RX0 56 yX1_kindOn ∈ tb := tb_t 623 (by decide +kernel) (by decide +kernel)
theorem wd_624 : Cond.methodLink RX0 62 yX1_neighbour ∈ tb := tb_t 624 (by decide +kernel) (by decide +kernel)
theorem wd_625 : Cond.methodLink RX0 66 yX1_hasWall ∈ tb := tb_t 625 (by decide +kernel) (by decide +kernel)
theorem wd_626 : Cond.methodLink RX0 32 yX0_isHindered ∈ tb := tb_t 626 (by decide +kernel) (by decide +kernel)
theorem wd_628 : Cond.instanceMethod yX0_isHindered ∈ tb := tb_t 628 (by decide +kernel) (by decide +kernel)
theorem wd_629 : Cond.code yX0_isHindered cX0_isHindered 6 (some FieldType.boolean) ∈ tb := tb_t 629 (by decide +kernel) (by decide +kernel)
theorem wd_630 : Cond.methodLink RX0 36 yX0_isBlocked ∈ tb := tb_t 630 (by decide +kernel) (by decide +kernel)
theorem wd_632 : Cond.instanceMethod yX0_isBlocked ∈ tb := tb_t 632 (by decide +kernel) (by decide +kernel)
theorem wd_633 : Cond.code yX0_isBlocked cX0_isBlocked 4 (some FieldType.boolean) ∈ tb := tb_t 633 (by decide +kernel) (by decide +kernel)
theorem wd_634 : Cond.methodLink RX0 70 yX8_cartOn ∈ tb := tb_t 634 (by decide +kernel) (by decide +kernel)
theorem wd_635 : Cond.methodLink RX0 43 yX8_enter ∈ tb := tb_t 635 (by decide +kernel) (by decide +kernel)
theorem wd_636 : Cond.methodLink RX7 52 yX8_turnOnGears ∈ tb := tb_t 636 (by decide +kernel) (by decide +kernel)
theorem wd_637 : Cond.instanceMethod yX8_turnOnGears ∈ tb := tb_t 637 (by decide +kernel) (by decide +kernel)
theorem wd_638 : Cond.selects RX8 yX8_turnOnGears yX8_turnOnGears ∈ tb := tb_t 638 (by decide +kernel) (by decide +kernel)
theorem wd_639 : Cond.code yX8_turnOnGears cX8_turnOnGears 4 none ∈ tb := tb_t 639 (by decide +kernel) (by decide +kernel)
theorem wd_641 : Cond.methodLink RX7 55 yX8_touchFlags ∈ tb := tb_t 641 (by decide +kernel) (by decide +kernel)
theorem wd_642 : Cond.instanceMethod yX8_touchFlags ∈ tb := tb_t 642 (by decide +kernel) (by decide +kernel)
theorem wd_643 : Cond.selects RX8 yX8_touchFlags yX8_touchFlags ∈ tb := tb_t 643 (by decide +kernel) (by decide +kernel)
theorem wd_644 : Cond.code yX8_touchFlags cX8_touchFlags 3 none ∈ tb := tb_t 644 (by decide +kernel) (by decide +kernel)
theorem wd_645 : Cond.methodLink RX7 58 yX8_countPhase ∈ tb := tb_t 645 (by decide +kernel) (by decide +kernel)
theorem wd_646 : Cond.instanceMethod yX8_countPhase ∈ tb := tb_t 646 (by decide +kernel) (by decide +kernel)
theorem wd_647 : Cond.selects RX8 yX8_countPhase yX8_countPhase ∈ tb := tb_t 647 (by decide +kernel) (by decide +kernel)
theorem wd_648 : Cond.code yX8_countPhase cX8_countPhase 1 none ∈ tb := tb_t 648 (by decide +kernel) (by decide +kernel)
theorem wd_649 : Cond.methodLink RX7 64 yX8_repairAndClear ∈ tb := tb_t 649 (by decide +kernel) (by decide +kernel)
theorem wd_650 : Cond.instanceMethod yX8_repairAndClear ∈ tb := tb_t 650 (by decide +kernel) (by decide +kernel)
theorem wd_651 : Cond.selects RX8 yX8_repairAndClear yX8_repairAndClear ∈ tb := tb_t 651 (by decide +kernel) (by decide +kernel)
theorem wd_652 : Cond.code yX8_repairAndClear cX8_repairAndClear 3 none ∈ tb := tb_t 652 (by decide +kernel) (by decide +kernel)
theorem wd_653 : Cond.methodLink RX8 157 yX3_unlockedRegisters ∈ tb := tb_t 653 (by decide +kernel) (by decide +kernel)
theorem wd_654 : Cond.methodLink RX8 160 yX3_emptyRegisters ∈ tb := tb_t 654 (by decide +kernel) (by decide +kernel)
theorem wd_655 : Cond.instanceMethod yX3_emptyRegisters ∈ tb := tb_t 655 (by decide +kernel) (by decide +kernel)
theorem wd_656 : Cond.selects RX3 yX3_emptyRegisters yX3_emptyRegisters ∈ tb := tb_t 656 (by decide +kernel) (by decide +kernel)
theorem wd_657 : Cond.code yX3_emptyRegisters cX3_emptyRegisters 2 none ∈ tb := tb_t 657 (by decide +kernel) (by decide +kernel)
theorem wd_658 : Cond.methodLink RX3 56 yJ7_fill_fda19 ∈ tb := tb_t 658 (by decide +kernel) (by decide +kernel)
theorem wd_659 : Cond.static yJ7_fill_fda19 ∈ tb := tb_t 659 (by decide +kernel) (by decide +kernel)
theorem wd_660 : Cond.code yJ7_fill_fda19 cJ7_fill_fda19 5 none ∈ tb := tb_t 660 (by decide +kernel) (by decide +kernel)
theorem wd_661 : Cond.methodLink RJ7 13 yJ7_rangeCheck_23922 ∈ tb := tb_t 661 (by decide +kernel) (by decide +kernel)
theorem wd_662 : Cond.static yJ7_rangeCheck_23922 ∈ tb := tb_t 662 (by decide +kernel) (by decide +kernel)
theorem wd_663 : Cond.code yJ7_rangeCheck_23922 cJ7_rangeCheck_23922 3 none ∈ tb := tb_t 663 (by decide +kernel) (by decide +kernel)
theorem wd_664 : Cond.methodLink RX7 67 yX8_bringBack ∈ tb := tb_t 664 (by decide +kernel) (by decide +kernel)
theorem wd_665 : Cond.instanceMethod yX8_bringBack ∈ tb := tb_t 665 (by decide +kernel) (by decide +kernel)
theorem wd_666 : Cond.selects RX8 yX8_bringBack yX8_bringBack ∈ tb := tb_t 666 (by decide +kernel) (by decide +kernel)
theorem wd_667 : Cond.code yX8_bringBack cX8_bringBack 3 none ∈ tb := tb_t 667 (by decide +kernel) (by decide +kernel)
theorem wd_668 : Cond.methodLink RX8 166 yX8_cellToComeBack ∈ tb := tb_t 668 (by decide +kernel) (by decide +kernel)
theorem wd_670 : Cond.instanceMethod yX8_cellToComeBack ∈ tb := tb_t 670 (by decide +kernel) (by decide +kernel)
theorem wd_671 : Cond.code yX8_cellToComeBack cX8_cellToComeBack 3 (some FieldType.int) ∈ tb := tb_t 671 (by decide +kernel) (by decide +kernel)
theorem wd_672 : Cond.methodLink RL 78 yX10_phase ∈ tb := tb_t 672 (by decide +kernel) (by decide +kernel)
theorem wd_673 : Cond.instanceMethod yX10_phase ∈ tb := tb_t 673 (by decide +kernel) (by decide +kernel)
theorem wd_674 : Cond.selects RX10 yX10_phase yX10_phase ∈ tb := tb_t 674 (by decide +kernel) (by decide +kernel)
theorem wd_675 : Cond.code yX10_phase cX10_phase 1 (some FieldType.int) ∈ tb := tb_t 675 (by decide +kernel) (by decide +kernel)
theorem wd_676 : Cond.methodLink RX10 84 yX7_runNext ∈ tb := tb_t 676 (by decide +kernel) (by decide +kernel)
theorem wd_677 : Cond.methodLink RL 81 yX10_best ∈ tb := tb_t 677 (by decide +kernel) (by decide +kernel)
theorem wd_678 : Cond.instanceMethod yX10_best ∈ tb := tb_t 678 (by decide +kernel) (by decide +kernel)
theorem wd_679 : Cond.selects RX10 yX10_best yX10_best ∈ tb := tb_t 679 (by decide +kernel) (by decide +kernel)
theorem wd_680 : Cond.code yX10_best cX10_best 10 (some FieldType.int) ∈ tb := tb_t 680 (by decide +kernel) (by decide +kernel)
theorem wd_681 : Cond.methodLink RX10 133 yX3_isOut ∈ tb := tb_t 681 (by decide +kernel) (by decide +kernel)
theorem wd_682 : Cond.methodLink RX10 141 yX3_isLocked ∈ tb := tb_t 682 (by decide +kernel) (by decide +kernel)
theorem wd_683 : Cond.methodLink RX10 160 yX10_distanceBehind ∈ tb := tb_t 683 (by decide +kernel) (by decide +kernel)
theorem wd_685 : Cond.instanceMethod yX10_distanceBehind ∈ tb := tb_t 685 (by decide +kernel) (by decide +kernel)
theorem wd_686 : Cond.code yX10_distanceBehind cX10_distanceBehind 8 (some FieldType.int) ∈ tb := tb_t 686 (by decide +kernel) (by decide +kernel)
theorem wd_687 : Cond.methodLink RX10 227 yX3_lay ∈ tb := tb_t 687 (by decide +kernel) (by decide +kernel)
theorem wd_688 : Cond.methodLink RX10 237 yX1_distance ∈ tb := tb_t 688 (by decide +kernel) (by decide +kernel)
theorem wd_689 : Cond.static yX1_distance ∈ tb := tb_t 689 (by decide +kernel) (by decide +kernel)
theorem wd_690 : Cond.code yX1_distance cX1_distance 2 (some FieldType.int) ∈ tb := tb_t 690 (by decide +kernel) (by decide +kernel)
theorem wd_691 : Cond.methodLink RX1 43 yJ9_abs_0f7a4 ∈ tb := tb_t 691 (by decide +kernel) (by decide +kernel)
theorem wd_692 : Cond.static yJ9_abs_0f7a4 ∈ tb := tb_t 692 (by decide +kernel) (by decide +kernel)
theorem wd_693 : Cond.code yJ9_abs_0f7a4 cJ9_abs_0f7a4 1 (some FieldType.int) ∈ tb := tb_t 693 (by decide +kernel) (by decide +kernel)
theorem wd_694 : Cond.methodLink RL 84 yX10_would ∈ tb := tb_t 694 (by decide +kernel) (by decide +kernel)
theorem wd_695 : Cond.instanceMethod yX10_would ∈ tb := tb_t 695 (by decide +kernel) (by decide +kernel)
theorem wd_696 : Cond.selects RX10 yX10_would yX10_would ∈ tb := tb_t 696 (by decide +kernel) (by decide +kernel)
theorem wd_697 : Cond.code yX10_would cX10_would 6 (some FieldType.int) ∈ tb := tb_t 697 (by decide +kernel) (by decide +kernel)
theorem wd_698 : Cond.methodLink RL 87 yX10_steps ∈ tb := tb_t 698 (by decide +kernel) (by decide +kernel)
theorem wd_699 : Cond.instanceMethod yX10_steps ∈ tb := tb_t 699 (by decide +kernel) (by decide +kernel)
theorem wd_700 : Cond.selects RX10 yX10_steps yX10_steps ∈ tb := tb_t 700 (by decide +kernel) (by decide +kernel)
theorem wd_701 : Cond.code yX10_steps cX10_steps 3 (some FieldType.int) ∈ tb := tb_t 701 (by decide +kernel) (by decide +kernel)
theorem wd_702 : Cond.methodLink RX10 163 yX9_shortest ∈ tb := tb_t 702 (by decide +kernel) (by decide +kernel)
theorem wd_703 : Cond.instanceMethod yX9_shortest ∈ tb := tb_t 703 (by decide +kernel) (by decide +kernel)
theorem wd_704 : Cond.selects RX9 yX9_shortest yX9_shortest ∈ tb := tb_t 704 (by decide +kernel) (by decide +kernel)
theorem wd_705 : Cond.code yX9_shortest cX9_shortest 5 (some FieldType.int) ∈ tb := tb_t 705 (by decide +kernel) (by decide +kernel)
theorem wd_706 : Cond.methodLink RX9 18 yJ7_fill_53178 ∈ tb := tb_t 706 (by decide +kernel) (by decide +kernel)
theorem wd_707 : Cond.static yJ7_fill_53178 ∈ tb := tb_t 707 (by decide +kernel) (by decide +kernel)
theorem wd_708 : Cond.code yJ7_fill_53178 cJ7_fill_53178 4 none ∈ tb := tb_t 708 (by decide +kernel) (by decide +kernel)
theorem wd_709 : Cond.methodLink RX9 28 yX9_reach ∈ tb := tb_t 709 (by decide +kernel) (by decide +kernel)
theorem wd_711 : Cond.instanceMethod yX9_reach ∈ tb := tb_t 711 (by decide +kernel) (by decide +kernel)
theorem wd_712 : Cond.code yX9_reach cX9_reach 3 none ∈ tb := tb_t 712 (by decide +kernel) (by decide +kernel)
theorem wd_713 : Cond.methodLink RX9 32 yX9_reachAround ∈ tb := tb_t 713 (by decide +kernel) (by decide +kernel)
theorem wd_715 : Cond.instanceMethod yX9_reachAround ∈ tb := tb_t 715 (by decide +kernel) (by decide +kernel)
theorem wd_716 : Cond.code yX9_reachAround cX9_reachAround 5 none ∈ tb := tb_t 716 (by decide +kernel) (by decide +kernel)
theorem wd_717 : Cond.methodLink RX9 37 yX1_neighbour ∈ tb := tb_t 717 (by decide +kernel) (by decide +kernel)
theorem wd_718 : Cond.methodLink RX9 43 yX1_hasWall ∈ tb := tb_t 718 (by decide +kernel) (by decide +kernel)
theorem wd_719 : Cond.methodLink RX9 47 yX1_isPit ∈ tb := tb_t 719 (by decide +kernel) (by decide +kernel)
theorem wd_720 : Cond.constant RX9 36 (-1000004 : Int32) ∈ tb := tb_t 720 (by decide +kernel) (by decide +kernel)
theorem wd_721 : Cond.methodLink RL 90 yL_types ∈ tb := tb_t 721 (by decide +kernel) (by decide +kernel)
theorem wd_722 : Cond.static yL_types ∈ tb := tb_t 722 (by decide +kernel) (by decide +kernel)
set_option maxRecDepth 100000 in
theorem wd_723 : Cond.code yL_types cL_types 10 (some FieldType.boolean) ∈ tb := tb_t 723 (by rfl) (by rfl)
theorem wd_724 : Cond.methodLink RL 39 yX10_clearText ∈ tb := tb_t 724 (by decide +kernel) (by decide +kernel)
theorem wd_725 : Cond.instanceMethod yX10_clearText ∈ tb := tb_t 725 (by decide +kernel) (by decide +kernel)
theorem wd_726 : Cond.selects RX10 yX10_clearText yX10_clearText ∈ tb := tb_t 726 (by decide +kernel) (by decide +kernel)
theorem wd_727 : Cond.code yX10_clearText cX10_clearText 2 (some FieldType.int) ∈ tb := tb_t 727 (by decide +kernel) (by decide +kernel)
theorem wd_728 : Cond.methodLink RL 33 yX10_type ∈ tb := tb_t 728 (by decide +kernel) (by decide +kernel)
theorem wd_729 : Cond.instanceMethod yX10_type ∈ tb := tb_t 729 (by decide +kernel) (by decide +kernel)
theorem wd_730 : Cond.selects RX10 yX10_type yX10_type ∈ tb := tb_t 730 (by decide +kernel) (by decide +kernel)
theorem wd_731 : Cond.code yX10_type cX10_type 2 (some FieldType.int) ∈ tb := tb_t 731 (by decide +kernel) (by decide +kernel)
theorem wd_732 : Cond.methodLink RX10 196 yX6_append ∈ tb := tb_t 732 (by decide +kernel) (by decide +kernel)
theorem wd_733 : Cond.instanceMethod yX6_append ∈ tb := tb_t 733 (by decide +kernel) (by decide +kernel)
theorem wd_734 : Cond.selects RX6 yX6_append yX6_append ∈ tb := tb_t 734 (by decide +kernel) (by decide +kernel)
theorem wd_735 : Cond.code yX6_append cX6_append 2 (some FieldType.int) ∈ tb := tb_t 735 (by decide +kernel) (by decide +kernel)
theorem wd_736 : Cond.constant RX6 23 (-1000003 : Int32) ∈ tb := tb_t 736 (by decide +kernel) (by decide +kernel)
theorem wd_737 : Cond.methodLink RL 43 yL_digits ∈ tb := tb_t 737 (by decide +kernel) (by decide +kernel)
theorem wd_738 : Cond.static yL_digits ∈ tb := tb_t 738 (by decide +kernel) (by decide +kernel)
set_option maxRecDepth 100000 in
theorem wd_739 : Cond.code yL_digits cL_digits 3 (some FieldType.boolean) ∈ tb := tb_t 739 (by rfl) (by rfl)
theorem wd_740 : Cond.methodLink RL 93 yL_reads ∈ tb := tb_t 740 (by decide +kernel) (by decide +kernel)
theorem wd_741 : Cond.static yL_reads ∈ tb := tb_t 741 (by decide +kernel) (by decide +kernel)
set_option maxRecDepth 100000 in
theorem wd_742 : Cond.code yL_reads cL_reads 8 (some FieldType.boolean) ∈ tb := tb_t 742 (by rfl) (by rfl)
theorem wd_743 : Cond.methodLink RL 47 yX10_fault ∈ tb := tb_t 743 (by decide +kernel) (by decide +kernel)
theorem wd_744 : Cond.instanceMethod yX10_fault ∈ tb := tb_t 744 (by decide +kernel) (by decide +kernel)
theorem wd_745 : Cond.selects RX10 yX10_fault yX10_fault ∈ tb := tb_t 745 (by decide +kernel) (by decide +kernel)
theorem wd_746 : Cond.code yX10_fault cX10_fault 2 (some FieldType.int) ∈ tb := tb_t 746 (by decide +kernel) (by decide +kernel)
theorem wd_747 : Cond.methodLink RX10 200 yX5_doAll ∈ tb := tb_t 747 (by decide +kernel) (by decide +kernel)
theorem wd_748 : Cond.instanceMethod yX5_doAll ∈ tb := tb_t 748 (by decide +kernel) (by decide +kernel)
theorem wd_749 : Cond.selects RX5 yX5_doAll yX5_doAll ∈ tb := tb_t 749 (by decide +kernel) (by decide +kernel)
theorem wd_750 : Cond.code yX5_doAll cX5_doAll 5 none ∈ tb := tb_t 750 (by decide +kernel) (by decide +kernel)
theorem wd_751 : Cond.methodLink RX5 37 yX5_isFaulty ∈ tb := tb_t 751 (by decide +kernel) (by decide +kernel)
theorem wd_752 : Cond.instanceMethod yX5_isFaulty ∈ tb := tb_t 752 (by decide +kernel) (by decide +kernel)
theorem wd_753 : Cond.selects RX5 yX5_isFaulty yX5_isFaulty ∈ tb := tb_t 753 (by decide +kernel) (by decide +kernel)
theorem wd_754 : Cond.code yX5_isFaulty cX5_isFaulty 1 (some FieldType.boolean) ∈ tb := tb_t 754 (by decide +kernel) (by decide +kernel)
theorem wd_755 : Cond.methodLink RX5 41 yX6_read ∈ tb := tb_t 755 (by decide +kernel) (by decide +kernel)
theorem wd_756 : Cond.instanceMethod yX6_read ∈ tb := tb_t 756 (by decide +kernel) (by decide +kernel)
theorem wd_757 : Cond.selects RX6 yX6_read yX6_read ∈ tb := tb_t 757 (by decide +kernel) (by decide +kernel)
theorem wd_758 : Cond.code yX6_read cX6_read 4 (some FieldType.boolean) ∈ tb := tb_t 758 (by decide +kernel) (by decide +kernel)
theorem wd_759 : Cond.methodLink RX6 31 yX6_numbersBehind ∈ tb := tb_t 759 (by decide +kernel) (by decide +kernel)
theorem wd_760 : Cond.static yX6_numbersBehind ∈ tb := tb_t 760 (by decide +kernel) (by decide +kernel)
theorem wd_761 : Cond.code yX6_numbersBehind cX6_numbersBehind 1 (some FieldType.int) ∈ tb := tb_t 761 (by decide +kernel) (by decide +kernel)
theorem wd_762 : Cond.methodLink RX6 35 yX6_take ∈ tb := tb_t 762 (by decide +kernel) (by decide +kernel)
theorem wd_764 : Cond.instanceMethod yX6_take ∈ tb := tb_t 764 (by decide +kernel) (by decide +kernel)
theorem wd_765 : Cond.code yX6_take cX6_take 2 (some FieldType.boolean) ∈ tb := tb_t 765 (by decide +kernel) (by decide +kernel)
theorem wd_766 : Cond.methodLink RX6 39 yX6_takeNumber ∈ tb := tb_t 766 (by decide +kernel) (by decide +kernel)
theorem wd_768 : Cond.instanceMethod yX6_takeNumber ∈ tb := tb_t 768 (by decide +kernel) (by decide +kernel)
theorem wd_769 : Cond.code yX6_takeNumber cX6_takeNumber 4 (some FieldType.boolean) ∈ tb := tb_t 769 (by decide +kernel) (by decide +kernel)
theorem wd_770 : Cond.methodLink RX5 49 yX5_obey ∈ tb := tb_t 770 (by decide +kernel) (by decide +kernel)
theorem wd_772 : Cond.instanceMethod yX5_obey ∈ tb := tb_t 772 (by decide +kernel) (by decide +kernel)
theorem wd_773 : Cond.code yX5_obey cX5_obey 3 (some FieldType.int) ∈ tb := tb_t 773 (by decide +kernel) (by decide +kernel)
theorem wd_774 : Cond.methodLink RX5 63 yX8_setKind ∈ tb := tb_t 774 (by decide +kernel) (by decide +kernel)
theorem wd_775 : Cond.methodLink RX5 69 yX8_flipWall ∈ tb := tb_t 775 (by decide +kernel) (by decide +kernel)
theorem wd_776 : Cond.methodLink RX5 72 yX8_addCart ∈ tb := tb_t 776 (by decide +kernel) (by decide +kernel)
theorem wd_777 : Cond.methodLink RX5 75 yX8_layCard ∈ tb := tb_t 777 (by decide +kernel) (by decide +kernel)
theorem wd_778 : Cond.methodLink RX5 79 yX7_runNext ∈ tb := tb_t 778 (by decide +kernel) (by decide +kernel)
theorem wd_780 : Cond.methodLink RX10 203 yX5_isFaulty ∈ tb := tb_t 780 (by decide +kernel) (by decide +kernel)
theorem wd_781 : Cond.methodLink RL 50 yX10_play ∈ tb := tb_t 781 (by decide +kernel) (by decide +kernel)
theorem wd_782 : Cond.instanceMethod yX10_play ∈ tb := tb_t 782 (by decide +kernel) (by decide +kernel)
theorem wd_783 : Cond.selects RX10 yX10_play yX10_play ∈ tb := tb_t 783 (by decide +kernel) (by decide +kernel)
theorem wd_784 : Cond.code yX10_play cX10_play 1 (some FieldType.int) ∈ tb := tb_t 784 (by decide +kernel) (by decide +kernel)
theorem wp_0 : Cond.selects RX10 yX10_freshTrial yX10_freshTrial ∈ tb := tb_s 0 (by decide +kernel) (by decide +kernel)
theorem wp_1 : Cond.selects RX10 yX10_keep yX10_keep ∈ tb := tb_s 1 (by decide +kernel) (by decide +kernel)
theorem wp_2 : Cond.selects RX4 yX4_dropOldest yX4_dropOldest ∈ tb := tb_s 2 (by decide +kernel) (by decide +kernel)
theorem wp_3 : Cond.selects RX1 yX1_flipSide yX1_flipSide ∈ tb := tb_s 3 (by decide +kernel) (by decide +kernel)
theorem wp_4 : Cond.selects RX2 yX2_insert yX2_insert ∈ tb := tb_s 4 (by decide +kernel) (by decide +kernel)
theorem wp_5 : Cond.selects RX2 yX2_step yX2_step ∈ tb := tb_s 5 (by decide +kernel) (by decide +kernel)
theorem wp_6 : Cond.selects RX0 yX0_askAll yX0_askAll ∈ tb := tb_s 6 (by decide +kernel) (by decide +kernel)
theorem wp_7 : Cond.selects RX0 yX0_isHindered yX0_isHindered ∈ tb := tb_s 7 (by decide +kernel) (by decide +kernel)
theorem wp_8 : Cond.selects RX0 yX0_isBlocked yX0_isBlocked ∈ tb := tb_s 8 (by decide +kernel) (by decide +kernel)
theorem wp_9 : Cond.selects RX8 yX8_cellToComeBack yX8_cellToComeBack ∈ tb := tb_s 9 (by decide +kernel) (by decide +kernel)
theorem wp_10 : Cond.selects RX10 yX10_distanceBehind yX10_distanceBehind ∈ tb := tb_s 10 (by decide +kernel) (by decide +kernel)
theorem wp_11 : Cond.selects RX9 yX9_reach yX9_reach ∈ tb := tb_s 11 (by decide +kernel) (by decide +kernel)
theorem wp_12 : Cond.selects RX9 yX9_reachAround yX9_reachAround ∈ tb := tb_s 12 (by decide +kernel) (by decide +kernel)
theorem wp_13 : Cond.selects RX6 yX6_take yX6_take ∈ tb := tb_s 13 (by decide +kernel) (by decide +kernel)
theorem wp_14 : Cond.selects RX6 yX6_takeNumber yX6_takeNumber ∈ tb := tb_s 14 (by decide +kernel) (by decide +kernel)
theorem wp_15 : Cond.selects RX5 yX5_obey yX5_obey ∈ tb := tb_s 15 (by decide +kernel) (by decide +kernel)
theorem inTX0 : ∀ w ∈ wsX00, w ∈ tb := by
  intro w h
  obtain ⟨k, hk, rfl⟩ := List.mem_map.mp h
  have hk := List.mem_range.mp hk
  rcases (show k = 0 ∨ k = 1 ∨ k = 2 by omega) with rfl | rfl | rfl
  · exact tb_t 195 (by decide +kernel) (by decide +kernel)
  · exact tb_t 197 (by decide +kernel) (by decide +kernel)
  · exact tb_t 199 (by decide +kernel) (by decide +kernel)
theorem inTX1 : ∀ w ∈ wsX10, w ∈ tb := by
  intro w h
  obtain ⟨k, hk, rfl⟩ := List.mem_map.mp h
  have hk := List.mem_range.mp hk
  rcases (show k = 0 ∨ k = 1 ∨ k = 2 ∨ k = 3 by omega) with rfl | rfl | rfl | rfl
  · exact tb_t 45 (by decide +kernel) (by decide +kernel)
  · exact tb_t 47 (by decide +kernel) (by decide +kernel)
  · exact tb_t 49 (by decide +kernel) (by decide +kernel)
  · exact tb_t 51 (by decide +kernel) (by decide +kernel)
theorem inTX2 : ∀ w ∈ wsX20, w ∈ tb := by
  intro w h
  obtain ⟨k, hk, rfl⟩ := List.mem_map.mp h
  have hk := List.mem_range.mp hk
  rcases (show k = 0 ∨ k = 1 by omega) with rfl | rfl
  · exact tb_t 181 (by decide +kernel) (by decide +kernel)
  · exact tb_t 183 (by decide +kernel) (by decide +kernel)
theorem inTX3 : ∀ w ∈ wsX30, w ∈ tb := by
  intro w h
  obtain ⟨k, hk, rfl⟩ := List.mem_map.mp h
  have hk := List.mem_range.mp hk
  rcases (show k = 0 ∨ k = 1 ∨ k = 2 ∨ k = 3 ∨ k = 4 ∨ k = 5 ∨ k = 6 ∨ k = 7 ∨ k = 8 by omega) with rfl | rfl | rfl | rfl | rfl | rfl | rfl | rfl | rfl
  · exact tb_t 87 (by decide +kernel) (by decide +kernel)
  · exact tb_t 89 (by decide +kernel) (by decide +kernel)
  · exact tb_t 91 (by decide +kernel) (by decide +kernel)
  · exact tb_t 93 (by decide +kernel) (by decide +kernel)
  · exact tb_t 95 (by decide +kernel) (by decide +kernel)
  · exact tb_t 97 (by decide +kernel) (by decide +kernel)
  · exact tb_t 99 (by decide +kernel) (by decide +kernel)
  · exact tb_t 101 (by decide +kernel) (by decide +kernel)
  · exact tb_t 103 (by decide +kernel) (by decide +kernel)
theorem inTX4 : ∀ w ∈ wsX40, w ∈ tb := by
  intro w h
  obtain ⟨k, hk, rfl⟩ := List.mem_map.mp h
  have hk := List.mem_range.mp hk
  rcases (show k = 0 ∨ k = 1 by omega) with rfl | rfl
  · exact tb_t 161 (by decide +kernel) (by decide +kernel)
  · exact tb_t 163 (by decide +kernel) (by decide +kernel)
theorem inTX5 : ∀ w ∈ wsX50, w ∈ tb := by
  intro w h
  obtain ⟨k, hk, rfl⟩ := List.mem_map.mp h
  have hk := List.mem_range.mp hk
  rcases (show k = 0 ∨ k = 1 ∨ k = 2 ∨ k = 3 ∨ k = 4 ∨ k = 5 by omega) with rfl | rfl | rfl | rfl | rfl | rfl
  · exact tb_t 270 (by decide +kernel) (by decide +kernel)
  · exact tb_t 272 (by decide +kernel) (by decide +kernel)
  · exact tb_t 274 (by decide +kernel) (by decide +kernel)
  · exact tb_t 276 (by decide +kernel) (by decide +kernel)
  · exact tb_t 278 (by decide +kernel) (by decide +kernel)
  · exact tb_t 280 (by decide +kernel) (by decide +kernel)
theorem inTX6 : ∀ w ∈ wsX60, w ∈ tb := by
  intro w h
  obtain ⟨k, hk, rfl⟩ := List.mem_map.mp h
  have hk := List.mem_range.mp hk
  rcases (show k = 0 ∨ k = 1 ∨ k = 2 ∨ k = 3 ∨ k = 4 by omega) with rfl | rfl | rfl | rfl | rfl
  · exact tb_t 242 (by decide +kernel) (by decide +kernel)
  · exact tb_t 244 (by decide +kernel) (by decide +kernel)
  · exact tb_t 246 (by decide +kernel) (by decide +kernel)
  · exact tb_t 248 (by decide +kernel) (by decide +kernel)
  · exact tb_t 250 (by decide +kernel) (by decide +kernel)
theorem inTX7 : ∀ w ∈ wsX70, w ∈ tb := by
  intro w h
  obtain ⟨k, hk, rfl⟩ := List.mem_map.mp h
  have hk := List.mem_range.mp hk
  rcases (show k = 0 ∨ k = 1 by omega) with rfl | rfl
  · exact tb_t 205 (by decide +kernel) (by decide +kernel)
  · exact tb_t 207 (by decide +kernel) (by decide +kernel)
theorem inTX8 : ∀ w ∈ wsX80, w ∈ tb := by
  intro w h
  obtain ⟨k, hk, rfl⟩ := List.mem_map.mp h
  have hk := List.mem_range.mp hk
  rcases (show k = 0 ∨ k = 1 ∨ k = 2 ∨ k = 3 ∨ k = 4 ∨ k = 5 ∨ k = 6 ∨ k = 7 by omega) with rfl | rfl | rfl | rfl | rfl | rfl | rfl | rfl
  · exact tb_t 132 (by decide +kernel) (by decide +kernel)
  · exact tb_t 134 (by decide +kernel) (by decide +kernel)
  · exact tb_t 136 (by decide +kernel) (by decide +kernel)
  · exact tb_t 138 (by decide +kernel) (by decide +kernel)
  · exact tb_t 140 (by decide +kernel) (by decide +kernel)
  · exact tb_t 142 (by decide +kernel) (by decide +kernel)
  · exact tb_t 144 (by decide +kernel) (by decide +kernel)
  · exact tb_t 146 (by decide +kernel) (by decide +kernel)
theorem inTX9 : ∀ w ∈ wsX90, w ∈ tb := by
  intro w h
  obtain ⟨k, hk, rfl⟩ := List.mem_map.mp h
  have hk := List.mem_range.mp hk
  rcases (show k = 0 ∨ k = 1 ∨ k = 2 by omega) with rfl | rfl | rfl
  · exact tb_t 219 (by decide +kernel) (by decide +kernel)
  · exact tb_t 221 (by decide +kernel) (by decide +kernel)
  · exact tb_t 223 (by decide +kernel) (by decide +kernel)
theorem inTX10 : ∀ w ∈ wsX100, w ∈ tb := by
  intro w h
  obtain ⟨k, hk, rfl⟩ := List.mem_map.mp h
  have hk := List.mem_range.mp hk
  rcases (show k = 0 ∨ k = 1 ∨ k = 2 ∨ k = 3 ∨ k = 4 ∨ k = 5 ∨ k = 6 by omega) with rfl | rfl | rfl | rfl | rfl | rfl | rfl
  · exact tb_t 290 (by decide +kernel) (by decide +kernel)
  · exact tb_t 292 (by decide +kernel) (by decide +kernel)
  · exact tb_t 294 (by decide +kernel) (by decide +kernel)
  · exact tb_t 296 (by decide +kernel) (by decide +kernel)
  · exact tb_t 298 (by decide +kernel) (by decide +kernel)
  · exact tb_t 300 (by decide +kernel) (by decide +kernel)
  · exact tb_t 302 (by decide +kernel) (by decide +kernel)
end
