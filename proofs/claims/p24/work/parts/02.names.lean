def RX0 : String := "LockedCarts$Belts"
def TX0 : u_T := fun k => match k with
  | 0 => ("LockedCarts$Belts", "onBelt", "[Z", true)
  | 1 => ("LockedCarts$Belts", "wanted", "[I", true)
  | _ => ("LockedCarts$Belts", "carried", "[Z", true)
def tyX0 : Nat → FieldType := fun k => match k with
  | 0 => .array .boolean
  | 1 => .array .int
  | _ => .array .boolean
abbrev wsX00 : List Cond := u_ws RX0 TX0 3
theorem nmX0 : ∀ a, a < 3 → ∀ b, b < 3 → a ≠ b → (TX0 a).2.1 ≠ (TX0 b).2.1 := by decide +kernel
theorem tyX0_ok : ∀ k, k < 3 → parseFieldDescriptor (TX0 k).2.2.1 = some (tyX0 k) := by decide +kernel
abbrev cX0_init : ByteArray := prog_2_method_1_code
def yX0_init : MethodName := ⟨RX0, "<init>", "()V"⟩
abbrev cX0_carry : ByteArray := prog_2_method_2_code
def yX0_carry : MethodName := ⟨RX0, "carry", "(LLockedCarts$Race;)V"⟩
abbrev cX0_askAll : ByteArray := prog_2_method_3_code
def yX0_askAll : MethodName := ⟨RX0, "askAll", "(LLockedCarts$Race;)V"⟩
abbrev cX0_isHindered : ByteArray := prog_2_method_4_code
def yX0_isHindered : MethodName := ⟨RX0, "isHindered", "(LLockedCarts$Race;I)Z"⟩
abbrev cX0_isBlocked : ByteArray := prog_2_method_5_code
def yX0_isBlocked : MethodName := ⟨RX0, "isBlocked", "(LLockedCarts$Race;I)Z"⟩
def RX1 : String := "LockedCarts$Board"
def TX1 : u_T := fun k => match k with
  | 0 => ("LockedCarts$Board", "kinds", "[I", true)
  | 1 => ("LockedCarts$Board", "walls", "[I", true)
  | 2 => ("LockedCarts$Board", "flags", "[I", true)
  | _ => ("LockedCarts$Board", "flagCount", "I", false)
def tyX1 : Nat → FieldType := fun k => match k with
  | 0 => .array .int
  | 1 => .array .int
  | 2 => .array .int
  | _ => .int
abbrev wsX10 : List Cond := u_ws RX1 TX1 4
theorem nmX1 : ∀ a, a < 4 → ∀ b, b < 4 → a ≠ b → (TX1 a).2.1 ≠ (TX1 b).2.1 := by decide +kernel
theorem tyX1_ok : ∀ k, k < 4 → parseFieldDescriptor (TX1 k).2.2.1 = some (tyX1 k) := by decide +kernel
abbrev cX1_init : ByteArray := prog_3_method_1_code
def yX1_init : MethodName := ⟨RX1, "<init>", "()V"⟩
abbrev cX1_copyFrom : ByteArray := prog_3_method_2_code
def yX1_copyFrom : MethodName := ⟨RX1, "copyFrom", "(LLockedCarts$Board;)V"⟩
abbrev cX1_kindOn : ByteArray := prog_3_method_3_code
def yX1_kindOn : MethodName := ⟨RX1, "kindOn", "(I)I"⟩
abbrev cX1_isPit : ByteArray := prog_3_method_4_code
def yX1_isPit : MethodName := ⟨RX1, "isPit", "(I)Z"⟩
abbrev cX1_wallsOf : ByteArray := prog_3_method_5_code
def yX1_wallsOf : MethodName := ⟨RX1, "wallsOf", "(I)I"⟩
abbrev cX1_hasWall : ByteArray := prog_3_method_6_code
def yX1_hasWall : MethodName := ⟨RX1, "hasWall", "(II)Z"⟩
abbrev cX1_flipWall : ByteArray := prog_3_method_7_code
def yX1_flipWall : MethodName := ⟨RX1, "flipWall", "(II)V"⟩
abbrev cX1_flipSide : ByteArray := prog_3_method_8_code
def yX1_flipSide : MethodName := ⟨RX1, "flipSide", "(II)V"⟩
abbrev cX1_lowestFlagOn : ByteArray := prog_3_method_9_code
def yX1_lowestFlagOn : MethodName := ⟨RX1, "lowestFlagOn", "(I)I"⟩
abbrev cX1_neighbour : ByteArray := prog_3_method_10_code
def yX1_neighbour : MethodName := ⟨RX1, "neighbour", "(II)I"⟩
abbrev cX1_distance : ByteArray := prog_3_method_11_code
def yX1_distance : MethodName := ⟨RX1, "distance", "(II)I"⟩
def RX2 : String := "LockedCarts$Cards"
def TX2 : u_T := fun k => match k with
  | 0 => ("LockedCarts$Cards", "order", "[I", true)
  | _ => ("LockedCarts$Cards", "chain", "[I", true)
def tyX2 : Nat → FieldType := fun k => match k with
  | 0 => .array .int
  | _ => .array .int
abbrev wsX20 : List Cond := u_ws RX2 TX2 2
theorem nmX2 : ∀ a, a < 2 → ∀ b, b < 2 → a ≠ b → (TX2 a).2.1 ≠ (TX2 b).2.1 := by decide +kernel
theorem tyX2_ok : ∀ k, k < 2 → parseFieldDescriptor (TX2 k).2.2.1 = some (tyX2 k) := by decide +kernel
abbrev cX2_init : ByteArray := prog_4_method_1_code
def yX2_init : MethodName := ⟨RX2, "<init>", "()V"⟩
abbrev cX2_arrange : ByteArray := prog_4_method_2_code
def yX2_arrange : MethodName := ⟨RX2, "arrange", "(LLockedCarts$Race;)I"⟩
abbrev cX2_insert : ByteArray := prog_4_method_3_code
def yX2_insert : MethodName := ⟨RX2, "insert", "(LLockedCarts$Race;II)V"⟩
abbrev cX2_follow : ByteArray := prog_4_method_4_code
def yX2_follow : MethodName := ⟨RX2, "follow", "(LLockedCarts$Race;I)V"⟩
abbrev cX2_step : ByteArray := prog_4_method_5_code
def yX2_step : MethodName := ⟨RX2, "step", "(LLockedCarts$Race;II)Z"⟩
def RX3 : String := "LockedCarts$Cart"
def TX3 : u_T := fun k => match k with
  | 0 => ("LockedCarts$Cart", "moves", "[I", true)
  | 1 => ("LockedCarts$Cart", "ranks", "[I", true)
  | 2 => ("LockedCarts$Cart", "start", "I", false)
  | 3 => ("LockedCarts$Cart", "cell", "I", false)
  | 4 => ("LockedCarts$Cart", "direction", "I", false)
  | 5 => ("LockedCarts$Cart", "damage", "I", false)
  | 6 => ("LockedCarts$Cart", "touched", "I", false)
  | 7 => ("LockedCarts$Cart", "timesOut", "I", false)
  | _ => ("LockedCarts$Cart", "timesStopped", "I", false)
def tyX3 : Nat → FieldType := fun k => match k with
  | 0 => .array .int
  | 1 => .array .int
  | 2 => .int
  | 3 => .int
  | 4 => .int
  | 5 => .int
  | 6 => .int
  | 7 => .int
  | _ => .int
abbrev wsX30 : List Cond := u_ws RX3 TX3 9
theorem nmX3 : ∀ a, a < 9 → ∀ b, b < 9 → a ≠ b → (TX3 a).2.1 ≠ (TX3 b).2.1 := by decide +kernel
theorem tyX3_ok : ∀ k, k < 9 → parseFieldDescriptor (TX3 k).2.2.1 = some (tyX3 k) := by decide +kernel
abbrev cX3_init : ByteArray := prog_5_method_1_code
def yX3_init : MethodName := ⟨RX3, "<init>", "()V"⟩
abbrev cX3_copyFrom : ByteArray := prog_5_method_2_code
def yX3_copyFrom : MethodName := ⟨RX3, "copyFrom", "(LLockedCarts$Cart;)V"⟩
abbrev cX3_begin : ByteArray := prog_5_method_3_code
def yX3_begin : MethodName := ⟨RX3, "begin", "(II)V"⟩
abbrev cX3_isOut : ByteArray := prog_5_method_4_code
def yX3_isOut : MethodName := ⟨RX3, "isOut", "()Z"⟩
abbrev cX3_hasCard : ByteArray := prog_5_method_5_code
def yX3_hasCard : MethodName := ⟨RX3, "hasCard", "(I)Z"⟩
abbrev cX3_unlockedRegisters : ByteArray := prog_5_method_6_code
def yX3_unlockedRegisters : MethodName := ⟨RX3, "unlockedRegisters", "()I"⟩
abbrev cX3_isLocked : ByteArray := prog_5_method_7_code
def yX3_isLocked : MethodName := ⟨RX3, "isLocked", "(I)Z"⟩
abbrev cX3_lay : ByteArray := prog_5_method_8_code
def yX3_lay : MethodName := ⟨RX3, "lay", "(III)V"⟩
abbrev cX3_emptyRegisters : ByteArray := prog_5_method_9_code
def yX3_emptyRegisters : MethodName := ⟨RX3, "emptyRegisters", "(I)V"⟩
abbrev cX3_addDamage : ByteArray := prog_5_method_10_code
def yX3_addDamage : MethodName := ⟨RX3, "addDamage", "(I)V"⟩
abbrev cX3_bump : ByteArray := prog_5_method_11_code
def yX3_bump : MethodName := ⟨RX3, "bump", "()V"⟩
abbrev cX3_lockedSet : ByteArray := prog_5_method_12_code
def yX3_lockedSet : MethodName := ⟨RX3, "lockedSet", "()I"⟩
abbrev cX3_cardSet : ByteArray := prog_5_method_13_code
def yX3_cardSet : MethodName := ⟨RX3, "cardSet", "()I"⟩
abbrev cX3_value : ByteArray := prog_5_method_14_code
def yX3_value : MethodName := ⟨RX3, "value", "(I)I"⟩
def RX4 : String := "LockedCarts$History"
def TX4 : u_T := fun k => match k with
  | 0 => ("LockedCarts$History", "states", "[LLockedCarts$Race;", true)
  | _ => ("LockedCarts$History", "size", "I", false)
def tyX4 : Nat → FieldType := fun k => match k with
  | 0 => .array (.object "LockedCarts$Race")
  | _ => .int
abbrev wsX40 : List Cond := u_ws RX4 TX4 2
theorem nmX4 : ∀ a, a < 2 → ∀ b, b < 2 → a ≠ b → (TX4 a).2.1 ≠ (TX4 b).2.1 := by decide +kernel
theorem tyX4_ok : ∀ k, k < 2 → parseFieldDescriptor (TX4 k).2.2.1 = some (tyX4 k) := by decide +kernel
abbrev cX4_init : ByteArray := prog_6_method_1_code
def yX4_init : MethodName := ⟨RX4, "<init>", "()V"⟩
abbrev cX4_add : ByteArray := prog_6_method_2_code
def yX4_add : MethodName := ⟨RX4, "add", "(LLockedCarts$Race;)V"⟩
abbrev cX4_restore : ByteArray := prog_6_method_3_code
def yX4_restore : MethodName := ⟨RX4, "restore", "(LLockedCarts$Race;)V"⟩
abbrev cX4_dropOldest : ByteArray := prog_6_method_4_code
def yX4_dropOldest : MethodName := ⟨RX4, "dropOldest", "()V"⟩
def RX5 : String := "LockedCarts$OrderRunner"
def TX5 : u_T := fun k => match k with
  | 0 => ("LockedCarts$OrderRunner", "text", "LLockedCarts$OrderText;", true)
  | 1 => ("LockedCarts$OrderRunner", "runner", "LLockedCarts$PhaseRunner;", true)
  | 2 => ("LockedCarts$OrderRunner", "done", "I", false)
  | 3 => ("LockedCarts$OrderRunner", "position", "I", false)
  | 4 => ("LockedCarts$OrderRunner", "reason", "I", false)
  | _ => ("LockedCarts$OrderRunner", "cause", "I", false)
def tyX5 : Nat → FieldType := fun k => match k with
  | 0 => .object "LockedCarts$OrderText"
  | 1 => .object "LockedCarts$PhaseRunner"
  | 2 => .int
  | 3 => .int
  | 4 => .int
  | _ => .int
abbrev wsX50 : List Cond := u_ws RX5 TX5 6
theorem nmX5 : ∀ a, a < 6 → ∀ b, b < 6 → a ≠ b → (TX5 a).2.1 ≠ (TX5 b).2.1 := by decide +kernel
theorem tyX5_ok : ∀ k, k < 6 → parseFieldDescriptor (TX5 k).2.2.1 = some (tyX5 k) := by decide +kernel
abbrev cX5_init : ByteArray := prog_7_method_1_code
def yX5_init : MethodName := ⟨RX5, "<init>", "(LLockedCarts$OrderText;LLockedCarts$PhaseRunner;)V"⟩
abbrev cX5_isFaulty : ByteArray := prog_7_method_2_code
def yX5_isFaulty : MethodName := ⟨RX5, "isFaulty", "()Z"⟩
abbrev cX5_doAll : ByteArray := prog_7_method_3_code
def yX5_doAll : MethodName := ⟨RX5, "doAll", "(LLockedCarts$Race;)V"⟩
abbrev cX5_obey : ByteArray := prog_7_method_4_code
def yX5_obey : MethodName := ⟨RX5, "obey", "(LLockedCarts$Race;[I)I"⟩
def RX6 : String := "LockedCarts$OrderText"
def TX6 : u_T := fun k => match k with
  | 0 => ("LockedCarts$OrderText", "signs", "[C", true)
  | 1 => ("LockedCarts$OrderText", "length", "I", false)
  | 2 => ("LockedCarts$OrderText", "letter", "C", false)
  | 3 => ("LockedCarts$OrderText", "numbers", "[I", true)
  | _ => ("LockedCarts$OrderText", "end", "I", false)
def tyX6 : Nat → FieldType := fun k => match k with
  | 0 => .array .char
  | 1 => .int
  | 2 => .char
  | 3 => .array .int
  | _ => .int
abbrev wsX60 : List Cond := u_ws RX6 TX6 5
theorem nmX6 : ∀ a, a < 5 → ∀ b, b < 5 → a ≠ b → (TX6 a).2.1 ≠ (TX6 b).2.1 := by decide +kernel
theorem tyX6_ok : ∀ k, k < 5 → parseFieldDescriptor (TX6 k).2.2.1 = some (tyX6 k) := by decide +kernel
abbrev cX6_init : ByteArray := prog_8_method_1_code
def yX6_init : MethodName := ⟨RX6, "<init>", "()V"⟩
abbrev cX6_append : ByteArray := prog_8_method_2_code
def yX6_append : MethodName := ⟨RX6, "append", "(C)I"⟩
abbrev cX6_read : ByteArray := prog_8_method_3_code
def yX6_read : MethodName := ⟨RX6, "read", "(I)Z"⟩
abbrev cX6_numbersBehind : ByteArray := prog_8_method_4_code
def yX6_numbersBehind : MethodName := ⟨RX6, "numbersBehind", "(C)I"⟩
abbrev cX6_take : ByteArray := prog_8_method_5_code
def yX6_take : MethodName := ⟨RX6, "take", "(C)Z"⟩
abbrev cX6_takeNumber : ByteArray := prog_8_method_6_code
def yX6_takeNumber : MethodName := ⟨RX6, "takeNumber", "(I)Z"⟩
def RX7 : String := "LockedCarts$PhaseRunner"
def TX7 : u_T := fun k => match k with
  | 0 => ("LockedCarts$PhaseRunner", "cards", "LLockedCarts$Cards;", true)
  | _ => ("LockedCarts$PhaseRunner", "belts", "LLockedCarts$Belts;", true)
def tyX7 : Nat → FieldType := fun k => match k with
  | 0 => .object "LockedCarts$Cards"
  | _ => .object "LockedCarts$Belts"
abbrev wsX70 : List Cond := u_ws RX7 TX7 2
theorem nmX7 : ∀ a, a < 2 → ∀ b, b < 2 → a ≠ b → (TX7 a).2.1 ≠ (TX7 b).2.1 := by decide +kernel
theorem tyX7_ok : ∀ k, k < 2 → parseFieldDescriptor (TX7 k).2.2.1 = some (tyX7 k) := by decide +kernel
abbrev cX7_init : ByteArray := prog_9_method_1_code
def yX7_init : MethodName := ⟨RX7, "<init>", "()V"⟩
abbrev cX7_runNext : ByteArray := prog_9_method_2_code
def yX7_runNext : MethodName := ⟨RX7, "runNext", "(LLockedCarts$Race;)I"⟩
abbrev cX7_runToRoundEnd : ByteArray := prog_9_method_3_code
def yX7_runToRoundEnd : MethodName := ⟨RX7, "runToRoundEnd", "(LLockedCarts$Race;)I"⟩
def RX8 : String := "LockedCarts$Race"
def TX8 : u_T := fun k => match k with
  | 0 => ("LockedCarts$Race", "board", "LLockedCarts$Board;", true)
  | 1 => ("LockedCarts$Race", "carts", "[LLockedCarts$Cart;", true)
  | 2 => ("LockedCarts$Race", "cartCount", "I", false)
  | 3 => ("LockedCarts$Race", "nextPhase", "I", false)
  | 4 => ("LockedCarts$Race", "rounds", "I", false)
  | 5 => ("LockedCarts$Race", "phasesDone", "I", false)
  | 6 => ("LockedCarts$Race", "pushes", "I", false)
  | _ => ("LockedCarts$Race", "winner", "I", false)
def tyX8 : Nat → FieldType := fun k => match k with
  | 0 => .object "LockedCarts$Board"
  | 1 => .array (.object "LockedCarts$Cart")
  | 2 => .int
  | 3 => .int
  | 4 => .int
  | 5 => .int
  | 6 => .int
  | _ => .int
abbrev wsX80 : List Cond := u_ws RX8 TX8 8
theorem nmX8 : ∀ a, a < 8 → ∀ b, b < 8 → a ≠ b → (TX8 a).2.1 ≠ (TX8 b).2.1 := by decide +kernel
theorem tyX8_ok : ∀ k, k < 8 → parseFieldDescriptor (TX8 k).2.2.1 = some (tyX8 k) := by decide +kernel
abbrev cX8_init : ByteArray := prog_10_method_1_code
def yX8_init : MethodName := ⟨RX8, "<init>", "()V"⟩
abbrev cX8_copyFrom : ByteArray := prog_10_method_2_code
def yX8_copyFrom : MethodName := ⟨RX8, "copyFrom", "(LLockedCarts$Race;)V"⟩
abbrev cX8_hasCart : ByteArray := prog_10_method_3_code
def yX8_hasCart : MethodName := ⟨RX8, "hasCart", "(I)Z"⟩
abbrev cX8_cartOn : ByteArray := prog_10_method_4_code
def yX8_cartOn : MethodName := ⟨RX8, "cartOn", "(I)I"⟩
abbrev cX8_cartsOut : ByteArray := prog_10_method_5_code
def yX8_cartsOut : MethodName := ⟨RX8, "cartsOut", "()I"⟩
abbrev cX8_timesOut : ByteArray := prog_10_method_6_code
def yX8_timesOut : MethodName := ⟨RX8, "timesOut", "()I"⟩
abbrev cX8_cellValue : ByteArray := prog_10_method_7_code
def yX8_cellValue : MethodName := ⟨RX8, "cellValue", "(II)I"⟩
abbrev cX8_setKind : ByteArray := prog_10_method_8_code
def yX8_setKind : MethodName := ⟨RX8, "setKind", "(II)I"⟩
abbrev cX8_flipWall : ByteArray := prog_10_method_9_code
def yX8_flipWall : MethodName := ⟨RX8, "flipWall", "(II)I"⟩
abbrev cX8_layFlag : ByteArray := prog_10_method_10_code
def yX8_layFlag : MethodName := ⟨RX8, "layFlag", "(II)I"⟩
abbrev cX8_addCart : ByteArray := prog_10_method_11_code
def yX8_addCart : MethodName := ⟨RX8, "addCart", "(II)I"⟩
abbrev cX8_layCard : ByteArray := prog_10_method_12_code
def yX8_layCard : MethodName := ⟨RX8, "layCard", "(IIII)I"⟩
abbrev cX8_harm : ByteArray := prog_10_method_13_code
def yX8_harm : MethodName := ⟨RX8, "harm", "(II)I"⟩
abbrev cX8_enter : ByteArray := prog_10_method_14_code
def yX8_enter : MethodName := ⟨RX8, "enter", "(LLockedCarts$Cart;I)V"⟩
abbrev cX8_turnOnGears : ByteArray := prog_10_method_15_code
def yX8_turnOnGears : MethodName := ⟨RX8, "turnOnGears", "()V"⟩
abbrev cX8_touchFlags : ByteArray := prog_10_method_16_code
def yX8_touchFlags : MethodName := ⟨RX8, "touchFlags", "()V"⟩
abbrev cX8_countPhase : ByteArray := prog_10_method_17_code
def yX8_countPhase : MethodName := ⟨RX8, "countPhase", "()V"⟩
abbrev cX8_repairAndClear : ByteArray := prog_10_method_18_code
def yX8_repairAndClear : MethodName := ⟨RX8, "repairAndClear", "()V"⟩
abbrev cX8_bringBack : ByteArray := prog_10_method_19_code
def yX8_bringBack : MethodName := ⟨RX8, "bringBack", "()V"⟩
abbrev cX8_cellToComeBack : ByteArray := prog_10_method_20_code
def yX8_cellToComeBack : MethodName := ⟨RX8, "cellToComeBack", "(I)I"⟩
def RX9 : String := "LockedCarts$Ways"
def TX9 : u_T := fun k => match k with
  | 0 => ("LockedCarts$Ways", "distances", "[I", true)
  | 1 => ("LockedCarts$Ways", "queue", "[I", true)
  | _ => ("LockedCarts$Ways", "queued", "I", false)
def tyX9 : Nat → FieldType := fun k => match k with
  | 0 => .array .int
  | 1 => .array .int
  | _ => .int
abbrev wsX90 : List Cond := u_ws RX9 TX9 3
theorem nmX9 : ∀ a, a < 3 → ∀ b, b < 3 → a ≠ b → (TX9 a).2.1 ≠ (TX9 b).2.1 := by decide +kernel
theorem tyX9_ok : ∀ k, k < 3 → parseFieldDescriptor (TX9 k).2.2.1 = some (tyX9 k) := by decide +kernel
abbrev cX9_init : ByteArray := prog_11_method_1_code
def yX9_init : MethodName := ⟨RX9, "<init>", "()V"⟩
abbrev cX9_shortest : ByteArray := prog_11_method_2_code
def yX9_shortest : MethodName := ⟨RX9, "shortest", "(LLockedCarts$Board;II)I"⟩
abbrev cX9_reachAround : ByteArray := prog_11_method_3_code
def yX9_reachAround : MethodName := ⟨RX9, "reachAround", "(LLockedCarts$Board;I)V"⟩
abbrev cX9_reach : ByteArray := prog_11_method_4_code
def yX9_reach : MethodName := ⟨RX9, "reach", "(II)V"⟩
def RX10 : String := "LockedCarts"
def TX10 : u_T := fun k => match k with
  | 0 => ("LockedCarts", "race", "LLockedCarts$Race;", true)
  | 1 => ("LockedCarts", "trial", "LLockedCarts$Race;", true)
  | 2 => ("LockedCarts", "history", "LLockedCarts$History;", true)
  | 3 => ("LockedCarts", "runner", "LLockedCarts$PhaseRunner;", true)
  | 4 => ("LockedCarts", "ways", "LLockedCarts$Ways;", true)
  | 5 => ("LockedCarts", "text", "LLockedCarts$OrderText;", true)
  | _ => ("LockedCarts", "orders", "LLockedCarts$OrderRunner;", true)
def tyX10 : Nat → FieldType := fun k => match k with
  | 0 => .object "LockedCarts$Race"
  | 1 => .object "LockedCarts$Race"
  | 2 => .object "LockedCarts$History"
  | 3 => .object "LockedCarts$PhaseRunner"
  | 4 => .object "LockedCarts$Ways"
  | 5 => .object "LockedCarts$OrderText"
  | _ => .object "LockedCarts$OrderRunner"
abbrev wsX100 : List Cond := u_ws RX10 TX10 7
theorem nmX10 : ∀ a, a < 7 → ∀ b, b < 7 → a ≠ b → (TX10 a).2.1 ≠ (TX10 b).2.1 := by decide +kernel
theorem tyX10_ok : ∀ k, k < 7 → parseFieldDescriptor (TX10 k).2.2.1 = some (tyX10 k) := by decide +kernel
abbrev cX10_init : ByteArray := prog_1_method_1_code
def yX10_init : MethodName := ⟨RX10, "<init>", "()V"⟩
abbrev cX10_kind : ByteArray := prog_1_method_2_code
def yX10_kind : MethodName := ⟨RX10, "kind", "(II)I"⟩
abbrev cX10_wall : ByteArray := prog_1_method_3_code
def yX10_wall : MethodName := ⟨RX10, "wall", "(II)I"⟩
abbrev cX10_flag : ByteArray := prog_1_method_4_code
def yX10_flag : MethodName := ⟨RX10, "flag", "(II)I"⟩
abbrev cX10_cart : ByteArray := prog_1_method_5_code
def yX10_cart : MethodName := ⟨RX10, "cart", "(II)I"⟩
abbrev cX10_card : ByteArray := prog_1_method_6_code
def yX10_card : MethodName := ⟨RX10, "card", "(IIII)I"⟩
abbrev cX10_damage : ByteArray := prog_1_method_7_code
def yX10_damage : MethodName := ⟨RX10, "damage", "(II)I"⟩
abbrev cX10_phase : ByteArray := prog_1_method_8_code
def yX10_phase : MethodName := ⟨RX10, "phase", "()I"⟩
abbrev cX10_round : ByteArray := prog_1_method_9_code
def yX10_round : MethodName := ⟨RX10, "round", "()I"⟩
abbrev cX10_cellOf : ByteArray := prog_1_method_10_code
def yX10_cellOf : MethodName := ⟨RX10, "cellOf", "(II)I"⟩
abbrev cX10_cartOf : ByteArray := prog_1_method_11_code
def yX10_cartOf : MethodName := ⟨RX10, "cartOf", "(II)I"⟩
abbrev cX10_cardOf : ByteArray := prog_1_method_12_code
def yX10_cardOf : MethodName := ⟨RX10, "cardOf", "(III)I"⟩
abbrev cX10_would : ByteArray := prog_1_method_14_code
def yX10_would : MethodName := ⟨RX10, "would", "(III)I"⟩
abbrev cX10_best : ByteArray := prog_1_method_15_code
def yX10_best : MethodName := ⟨RX10, "best", "(III)I"⟩
abbrev cX10_steps : ByteArray := prog_1_method_16_code
def yX10_steps : MethodName := ⟨RX10, "steps", "(II)I"⟩
abbrev cX10_count : ByteArray := prog_1_method_17_code
def yX10_count : MethodName := ⟨RX10, "count", "(I)I"⟩
abbrev cX10_undo : ByteArray := prog_1_method_18_code
def yX10_undo : MethodName := ⟨RX10, "undo", "()I"⟩
abbrev cX10_type : ByteArray := prog_1_method_19_code
def yX10_type : MethodName := ⟨RX10, "type", "(I)I"⟩
abbrev cX10_clearText : ByteArray := prog_1_method_20_code
def yX10_clearText : MethodName := ⟨RX10, "clearText", "()I"⟩
abbrev cX10_fault : ByteArray := prog_1_method_21_code
def yX10_fault : MethodName := ⟨RX10, "fault", "(I)I"⟩
abbrev cX10_play : ByteArray := prog_1_method_22_code
def yX10_play : MethodName := ⟨RX10, "play", "()I"⟩
abbrev cX10_freshTrial : ByteArray := prog_1_method_23_code
def yX10_freshTrial : MethodName := ⟨RX10, "freshTrial", "()LLockedCarts$Race;"⟩
abbrev cX10_keep : ByteArray := prog_1_method_24_code
def yX10_keep : MethodName := ⟨RX10, "keep", "(I)I"⟩
abbrev cX10_distanceBehind : ByteArray := prog_1_method_25_code
def yX10_distanceBehind : MethodName := ⟨RX10, "distanceBehind", "(IIII)I"⟩
abbrev cX10_isWithin : ByteArray := prog_1_method_26_code
def yX10_isWithin : MethodName := ⟨RX10, "isWithin", "(III)Z"⟩
abbrev cX10_isCell : ByteArray := prog_1_method_27_code
def yX10_isCell : MethodName := ⟨RX10, "isCell", "(I)Z"⟩
abbrev cX10_isDirection : ByteArray := prog_1_method_28_code
def yX10_isDirection : MethodName := ⟨RX10, "isDirection", "(I)Z"⟩
abbrev cX10_isRegister : ByteArray := prog_1_method_29_code
def yX10_isRegister : MethodName := ⟨RX10, "isRegister", "(I)Z"⟩
abbrev cX10_isError : ByteArray := prog_1_method_30_code
def yX10_isError : MethodName := ⟨RX10, "isError", "(I)Z"⟩
abbrev cX10_turned : ByteArray := prog_1_method_31_code
def yX10_turned : MethodName := ⟨RX10, "turned", "(II)I"⟩
def RX11 : String := "LockedCartsModel"
def TX11 : u_T := fun k => match k with
  | _ => ("", "", "", false)
def tyX11 : Nat → FieldType := fun k => match k with
  | _ => .int
abbrev wsX110 : List Cond := u_ws RX11 TX11 0
theorem nmX11 : ∀ a, a < 0 → ∀ b, b < 0 → a ≠ b → (TX11 a).2.1 ≠ (TX11 b).2.1 := by decide +kernel
theorem tyX11_ok : ∀ k, k < 0 → parseFieldDescriptor (TX11 k).2.2.1 = some (tyX11 k) := by decide +kernel
def RJ6 : String := "java/lang/Integer"
def TJ6 : u_T := fun k => match k with
  | _ => ("", "", "", false)
def tyJ6 : Nat → FieldType := fun k => match k with
  | _ => .int
abbrev wsJ60 : List Cond := u_ws RJ6 TJ6 0
theorem nmJ6 : ∀ a, a < 0 → ∀ b, b < 0 → a ≠ b → (TJ6 a).2.1 ≠ (TJ6 b).2.1 := by decide +kernel
theorem tyJ6_ok : ∀ k, k < 0 → parseFieldDescriptor (TJ6 k).2.2.1 = some (tyJ6 k) := by decide +kernel
abbrev cJ6_bitCount_0f7a4 : ByteArray := prog_14_method_49_code
def yJ6_bitCount_0f7a4 : MethodName := ⟨RJ6, "bitCount", "(I)I"⟩
def RJ9 : String := "java/lang/Math"
def TJ9 : u_T := fun k => match k with
  | _ => ("", "", "", false)
def tyJ9 : Nat → FieldType := fun k => match k with
  | _ => .int
abbrev wsJ90 : List Cond := u_ws RJ9 TJ9 0
theorem nmJ9 : ∀ a, a < 0 → ∀ b, b < 0 → a ≠ b → (TJ9 a).2.1 ≠ (TJ9 b).2.1 := by decide +kernel
theorem tyJ9_ok : ∀ k, k < 0 → parseFieldDescriptor (TJ9 k).2.2.1 = some (tyJ9 k) := by decide +kernel
abbrev cJ9_abs_0f7a4 : ByteArray := prog_15_method_59_code
def yJ9_abs_0f7a4 : MethodName := ⟨RJ9, "abs", "(I)I"⟩
abbrev cJ9_max_7cf53 : ByteArray := prog_15_method_65_code
def yJ9_max_7cf53 : MethodName := ⟨RJ9, "max", "(II)I"⟩
abbrev cJ9_min_7cf53 : ByteArray := prog_15_method_69_code
def yJ9_min_7cf53 : MethodName := ⟨RJ9, "min", "(II)I"⟩
def RJ10 : String := "java/lang/System"
def TJ10 : u_T := fun k => match k with
  | _ => ("", "", "", false)
def tyJ10 : Nat → FieldType := fun k => match k with
  | _ => .int
abbrev wsJ100 : List Cond := u_ws RJ10 TJ10 0
theorem nmJ10 : ∀ a, a < 0 → ∀ b, b < 0 → a ≠ b → (TJ10 a).2.1 ≠ (TJ10 b).2.1 := by decide +kernel
theorem tyJ10_ok : ∀ k, k < 0 → parseFieldDescriptor (TJ10 k).2.2.1 = some (tyJ10 k) := by decide +kernel
def RJ7 : String := "java/util/Arrays"
def TJ7 : u_T := fun k => match k with
  | _ => ("", "", "", false)
def tyJ7 : Nat → FieldType := fun k => match k with
  | _ => .int
abbrev wsJ70 : List Cond := u_ws RJ7 TJ7 0
theorem nmJ7 : ∀ a, a < 0 → ∀ b, b < 0 → a ≠ b → (TJ7 a).2.1 ≠ (TJ7 b).2.1 := by decide +kernel
theorem tyJ7_ok : ∀ k, k < 0 → parseFieldDescriptor (TJ7 k).2.2.1 = some (tyJ7 k) := by decide +kernel
abbrev cJ7_rangeCheck_23922 : ByteArray := prog_17_method_30_code
def yJ7_rangeCheck_23922 : MethodName := ⟨RJ7, "rangeCheck", "(III)V"⟩
abbrev cJ7_fill_53178 : ByteArray := prog_17_method_103_code
def yJ7_fill_53178 : MethodName := ⟨RJ7, "fill", "([II)V"⟩
abbrev cJ7_fill_fda19 : ByteArray := prog_17_method_104_code
def yJ7_fill_fda19 : MethodName := ⟨RJ7, "fill", "([IIII)V"⟩
def RL : String := "LockedCartsLaw"
abbrev cL_lot : ByteArray := method_2_code
def yL_lot : MethodName := ⟨RL, "lot", "([II)I"⟩
abbrev cL_low : ByteArray := method_3_code
def yL_low : MethodName := ⟨RL, "low", "(II)I"⟩
abbrev cL_digest : ByteArray := method_4_code
def yL_digest : MethodName := ⟨RL, "digest", "(LLockedCarts;)J"⟩
abbrev cL_holds : ByteArray := method_5_code
def yL_holds : MethodName := ⟨RL, "holds", "(LLockedCarts;)Z"⟩
abbrev cL_digits : ByteArray := method_6_code
def yL_digits : MethodName := ⟨RL, "digits", "(LLockedCarts;I)Z"⟩
abbrev cL_types : ByteArray := method_7_code
def yL_types : MethodName := ⟨RL, "types", "(LLockedCarts;I)Z"⟩
abbrev cL_reads : ByteArray := method_8_code
def yL_reads : MethodName := ⟨RL, "reads", "(LLockedCarts;)Z"⟩
abbrev cL_acts : ByteArray := method_9_code
def yL_acts : MethodName := ⟨RL, "acts", "(LLockedCarts;II)Z"⟩
abbrev cL_law : ByteArray := code
def yL_law : MethodName := ⟨RL, "law", "([I)Z"⟩
abbrev vwCl : List vw_C := [(RX0, TX0, 3), (RX1, TX1, 4), (RX2, TX2, 2), (RX3, TX3, 9), (RX4, TX4, 2), (RX5, TX5, 6), (RX6, TX6, 5), (RX7, TX7, 2), (RX8, TX8, 8), (RX9, TX9, 3), (RX10, TX10, 7)]
/-- the words of the tables that stay -/
def tb : List Cond := lw_tbl.filter goodWord
theorem tb_t {w : Cond} (k : Nat) (h : tables_1[k]? = some w) (hg : goodWord w = true) : w ∈ tb := List.mem_filter.mpr ⟨List.mem_append_right _ (List.mem_of_getElem? h), hg⟩
theorem tb_s {w : Cond} (k : Nat) (h : (k2_sels lw_privs)[k]? = some w) (hg : goodWord w = true) : w ∈ tb := List.mem_filter.mpr ⟨List.mem_append_left _ (List.mem_of_getElem? h), hg⟩
theorem tb_lw : ∀ w ∈ tb, w ∈ lw_tbl := fun _ h => (List.mem_filter.mp h).1
theorem tb_good : ∀ w ∈ tb, (w.onTables && w.keeps) = true ∨ ∃ ty, w = .arrayClass ty := fun _ h => good_of_word (List.mem_filter.mp h).2
