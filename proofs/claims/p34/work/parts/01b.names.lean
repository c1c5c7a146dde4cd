
/-! ===== BEGIN printed: names, fields, word lists, decode rows ===== -/
def RX0 : String := "CutMarks$Bits"
def TX0 : u_T := fun k => match k with
  | _ => ("", "", "", false)
def tyX0 : Nat → FieldType := fun k => match k with
  | _ => .int
abbrev wsX00 : List Cond := u_ws RX0 TX0 0
theorem nmX0 : ∀ a, a < 0 → ∀ b, b < 0 → a ≠ b → (TX0 a).2.1 ≠ (TX0 b).2.1 := by decide +kernel
theorem tyX0_ok : ∀ k, k < 0 → parseFieldDescriptor (TX0 k).2.2.1 = some (tyX0 k) := by decide +kernel
abbrev cX0_ofDouble : ByteArray := prog_2_method_2_code
def yX0_ofDouble : MethodName := ⟨RX0, "ofDouble", "(D)J"⟩
abbrev cX0_ofShare : ByteArray := prog_2_method_3_code
def yX0_ofShare : MethodName := ⟨RX0, "ofShare", "(F)I"⟩
def RX1 : String := "CutMarks$Cycles"
def TX1 : u_T := fun k => match k with
  | _ => ("CutMarks$Cycles", "counts", "[I", true)
def tyX1 : Nat → FieldType := fun k => match k with
  | _ => .array .int
abbrev wsX10 : List Cond := u_ws RX1 TX1 1
theorem nmX1 : ∀ a, a < 1 → ∀ b, b < 1 → a ≠ b → (TX1 a).2.1 ≠ (TX1 b).2.1 := by decide +kernel
theorem tyX1_ok : ∀ k, k < 1 → parseFieldDescriptor (TX1 k).2.2.1 = some (tyX1 k) := by decide +kernel
abbrev cX1_init : ByteArray := prog_3_method_1_code
def yX1_init : MethodName := ⟨RX1, "<init>", "()V"⟩
abbrev cX1_tell : ByteArray := prog_3_method_2_code
def yX1_tell : MethodName := ⟨RX1, "tell", "(JI)V"⟩
abbrev cX1_add : ByteArray := prog_3_method_3_code
def yX1_add : MethodName := ⟨RX1, "add", "(I)V"⟩
abbrev cX1_howMany : ByteArray := prog_3_method_4_code
def yX1_howMany : MethodName := ⟨RX1, "howMany", "()I"⟩
abbrev cX1_longest : ByteArray := prog_3_method_5_code
def yX1_longest : MethodName := ⟨RX1, "longest", "()I"⟩
abbrev cX1_order : ByteArray := prog_3_method_6_code
def yX1_order : MethodName := ⟨RX1, "order", "()I"⟩
abbrev cX1_leastMultiple : ByteArray := prog_3_method_7_code
def yX1_leastMultiple : MethodName := ⟨RX1, "leastMultiple", "(II)I"⟩
abbrev cX1_marksThatCommute : ByteArray := prog_3_method_8_code
def yX1_marksThatCommute : MethodName := ⟨RX1, "marksThatCommute", "()J"⟩
def RX2 : String := "CutMarks$MarkReader"
def TX2 : u_T := fun k => match k with
  | 0 => ("CutMarks$MarkReader", "size", "I", false)
  | 1 => ("CutMarks$MarkReader", "state", "I", false)
  | 2 => ("CutMarks$MarkReader", "moves", "J", false)
  | 3 => ("CutMarks$MarkReader", "used", "I", false)
  | 4 => ("CutMarks$MarkReader", "digits", "I", false)
  | 5 => ("CutMarks$MarkReader", "inCycle", "I", false)
  | 6 => ("CutMarks$MarkReader", "first", "I", false)
  | _ => ("CutMarks$MarkReader", "last", "I", false)
def tyX2 : Nat → FieldType := fun k => match k with
  | 0 => .int
  | 1 => .int
  | 2 => .long
  | 3 => .int
  | 4 => .int
  | 5 => .int
  | 6 => .int
  | _ => .int
abbrev wsX20 : List Cond := u_ws RX2 TX2 8
theorem nmX2 : ∀ a, a < 8 → ∀ b, b < 8 → a ≠ b → (TX2 a).2.1 ≠ (TX2 b).2.1 := by decide +kernel
theorem tyX2_ok : ∀ k, k < 8 → parseFieldDescriptor (TX2 k).2.2.1 = some (tyX2 k) := by decide +kernel
abbrev cX2_init : ByteArray := prog_4_method_1_code
def yX2_init : MethodName := ⟨RX2, "<init>", "()V"⟩
def RX3 : String := "CutMarks$Moves"
def TX3 : u_T := fun k => match k with
  | _ => ("", "", "", false)
def tyX3 : Nat → FieldType := fun k => match k with
  | _ => .int
abbrev wsX30 : List Cond := u_ws RX3 TX3 0
theorem nmX3 : ∀ a, a < 0 → ∀ b, b < 0 → a ≠ b → (TX3 a).2.1 ≠ (TX3 b).2.1 := by decide +kernel
theorem tyX3_ok : ∀ k, k < 0 → parseFieldDescriptor (TX3 k).2.2.1 = some (tyX3 k) := by decide +kernel
abbrev cX3_to : ByteArray := prog_5_method_2_code
def yX3_to : MethodName := ⟨RX3, "to", "(JI)I"⟩
abbrev cX3_from : ByteArray := prog_5_method_3_code
def yX3_from : MethodName := ⟨RX3, "from", "(JI)I"⟩
abbrev cX3_with : ByteArray := prog_5_method_4_code
def yX3_with : MethodName := ⟨RX3, "with", "(JII)J"⟩
abbrev cX3_then : ByteArray := prog_5_method_5_code
def yX3_then : MethodName := ⟨RX3, "then", "(JJ)J"⟩
abbrev cX3_inverse : ByteArray := prog_5_method_6_code
def yX3_inverse : MethodName := ⟨RX3, "inverse", "(J)J"⟩
abbrev cX3_times : ByteArray := prog_5_method_7_code
def yX3_times : MethodName := ⟨RX3, "times", "(JI)J"⟩
abbrev cX3_toAfter : ByteArray := prog_5_method_8_code
def yX3_toAfter : MethodName := ⟨RX3, "toAfter", "(JII)I"⟩
abbrev cX3_cycleLength : ByteArray := prog_5_method_9_code
def yX3_cycleLength : MethodName := ⟨RX3, "cycleLength", "(JI)I"⟩
abbrev cX3_fixedPlaces : ByteArray := prog_5_method_10_code
def yX3_fixedPlaces : MethodName := ⟨RX3, "fixedPlaces", "(JI)I"⟩
def RX4 : String := "CutMarks$Shelf"
def TX4 : u_T := fun k => match k with
  | 0 => ("CutMarks$Shelf", "copies", "[LCutMarks$Table;", true)
  | _ => ("CutMarks$Shelf", "full", "[Z", true)
def tyX4 : Nat → FieldType := fun k => match k with
  | 0 => .array (.object "CutMarks$Table")
  | _ => .array .boolean
abbrev wsX40 : List Cond := u_ws RX4 TX4 2
theorem nmX4 : ∀ a, a < 2 → ∀ b, b < 2 → a ≠ b → (TX4 a).2.1 ≠ (TX4 b).2.1 := by decide +kernel
theorem tyX4_ok : ∀ k, k < 2 → parseFieldDescriptor (TX4 k).2.2.1 = some (tyX4 k) := by decide +kernel
abbrev cX4_init : ByteArray := prog_6_method_1_code
def yX4_init : MethodName := ⟨RX4, "<init>", "(I)V"⟩
abbrev cX4_hasPlace : ByteArray := prog_6_method_2_code
def yX4_hasPlace : MethodName := ⟨RX4, "hasPlace", "(I)Z"⟩
abbrev cX4_isFull : ByteArray := prog_6_method_3_code
def yX4_isFull : MethodName := ⟨RX4, "isFull", "(I)Z"⟩
abbrev cX4_keep : ByteArray := prog_6_method_4_code
def yX4_keep : MethodName := ⟨RX4, "keep", "(ILCutMarks$Table;)V"⟩
abbrev cX4_bring : ByteArray := prog_6_method_5_code
def yX4_bring : MethodName := ⟨RX4, "bring", "(ILCutMarks$Table;)V"⟩
def RX5 : String := "CutMarks$Shuffles"
def TX5 : u_T := fun k => match k with
  | _ => ("", "", "", false)
def tyX5 : Nat → FieldType := fun k => match k with
  | _ => .int
abbrev wsX50 : List Cond := u_ws RX5 TX5 0
theorem nmX5 : ∀ a, a < 0 → ∀ b, b < 0 → a ≠ b → (TX5 a).2.1 ≠ (TX5 b).2.1 := by decide +kernel
theorem tyX5_ok : ∀ k, k < 0 → parseFieldDescriptor (TX5 k).2.2.1 = some (tyX5 k) := by decide +kernel
abbrev cX5_cutTo : ByteArray := prog_7_method_2_code
def yX5_cutTo : MethodName := ⟨RX5, "cutTo", "(III)I"⟩
abbrev cX5_riffleTo : ByteArray := prog_7_method_3_code
def yX5_riffleTo : MethodName := ⟨RX5, "riffleTo", "(ZII)I"⟩
abbrev cX5_stepTo : ByteArray := prog_7_method_4_code
def yX5_stepTo : MethodName := ⟨RX5, "stepTo", "(III)I"⟩
abbrev cX5_cutBy : ByteArray := prog_7_method_5_code
def yX5_cutBy : MethodName := ⟨RX5, "cutBy", "(II)J"⟩
abbrev cX5_stepBy : ByteArray := prog_7_method_6_code
def yX5_stepBy : MethodName := ⟨RX5, "stepBy", "(II)J"⟩
abbrev cX5_becomesBy : ByteArray := prog_7_method_7_code
def yX5_becomesBy : MethodName := ⟨RX5, "becomesBy", "(JII)J"⟩
def RX6 : String := "CutMarks$Table"
def TX6 : u_T := fun k => match k with
  | 0 => ("CutMarks$Table", "size", "I", false)
  | 1 => ("CutMarks$Table", "places", "J", false)
  | 2 => ("CutMarks$Table", "trick", "J", false)
  | 3 => ("CutMarks$Table", "markCount", "I", false)
  | _ => ("CutMarks$Table", "marks", "[J", true)
def tyX6 : Nat → FieldType := fun k => match k with
  | 0 => .int
  | 1 => .long
  | 2 => .long
  | 3 => .int
  | _ => .array .long
abbrev wsX60 : List Cond := u_ws RX6 TX6 5
theorem nmX6 : ∀ a, a < 5 → ∀ b, b < 5 → a ≠ b → (TX6 a).2.1 ≠ (TX6 b).2.1 := by decide +kernel
theorem tyX6_ok : ∀ k, k < 5 → parseFieldDescriptor (TX6 k).2.2.1 = some (tyX6 k) := by decide +kernel
abbrev cX6_init : ByteArray := prog_8_method_1_code
def yX6_init : MethodName := ⟨RX6, "<init>", "()V"⟩
abbrev cX6_layInOrder : ByteArray := prog_8_method_2_code
def yX6_layInOrder : MethodName := ⟨RX6, "layInOrder", "(I)V"⟩
abbrev cX6_copyFrom : ByteArray := prog_8_method_3_code
def yX6_copyFrom : MethodName := ⟨RX6, "copyFrom", "(LCutMarks$Table;)V"⟩
abbrev cX6_hasPlace : ByteArray := prog_8_method_4_code
def yX6_hasPlace : MethodName := ⟨RX6, "hasPlace", "(I)Z"⟩
abbrev cX6_hasMark : ByteArray := prog_8_method_5_code
def yX6_hasMark : MethodName := ⟨RX6, "hasMark", "(I)Z"⟩
abbrev cX6_movesOf : ByteArray := prog_8_method_6_code
def yX6_movesOf : MethodName := ⟨RX6, "movesOf", "(I)J"⟩
abbrev cX6_addMark : ByteArray := prog_8_method_7_code
def yX6_addMark : MethodName := ⟨RX6, "addMark", "(J)I"⟩
abbrev cX6_removeMark : ByteArray := prog_8_method_8_code
def yX6_removeMark : MethodName := ⟨RX6, "removeMark", "(I)V"⟩
abbrev cX6_lowestMark : ByteArray := prog_8_method_9_code
def yX6_lowestMark : MethodName := ⟨RX6, "lowestMark", "(J)I"⟩
def RX7 : String := "CutMarks"
def TX7 : u_T := fun k => match k with
  | 0 => ("CutMarks", "table", "LCutMarks$Table;", true)
  | 1 => ("CutMarks", "history", "LCutMarks$Shelf;", true)
  | 2 => ("CutMarks", "slots", "LCutMarks$Shelf;", true)
  | 3 => ("CutMarks", "cycles", "LCutMarks$Cycles;", true)
  | 4 => ("CutMarks", "reader", "LCutMarks$MarkReader;", true)
  | 5 => ("CutMarks", "pad", "[C", true)
  | 6 => ("CutMarks", "padLength", "I", false)
  | 7 => ("CutMarks", "undoable", "I", false)
  | _ => ("CutMarks", "nextKept", "I", false)
def tyX7 : Nat → FieldType := fun k => match k with
  | 0 => .object "CutMarks$Table"
  | 1 => .object "CutMarks$Shelf"
  | 2 => .object "CutMarks$Shelf"
  | 3 => .object "CutMarks$Cycles"
  | 4 => .object "CutMarks$MarkReader"
  | 5 => .array .char
  | 6 => .int
  | 7 => .int
  | _ => .int
abbrev wsX70 : List Cond := u_ws RX7 TX7 9
theorem nmX7 : ∀ a, a < 9 → ∀ b, b < 9 → a ≠ b → (TX7 a).2.1 ≠ (TX7 b).2.1 := by decide +kernel
theorem tyX7_ok : ∀ k, k < 9 → parseFieldDescriptor (TX7 k).2.2.1 = some (tyX7 k) := by decide +kernel
abbrev cX7_init : ByteArray := prog_1_method_1_code
def yX7_init : MethodName := ⟨RX7, "<init>", "()V"⟩
abbrev cX7_set : ByteArray := prog_1_method_2_code
def yX7_set : MethodName := ⟨RX7, "set", "(I)I"⟩
abbrev cX7_product : ByteArray := prog_1_method_4_code
def yX7_product : MethodName := ⟨RX7, "product", "(II)I"⟩
abbrev cX7_power : ByteArray := prog_1_method_5_code
def yX7_power : MethodName := ⟨RX7, "power", "(II)I"⟩
abbrev cX7_trick : ByteArray := prog_1_method_6_code
def yX7_trick : MethodName := ⟨RX7, "trick", "()I"⟩
abbrev cX7_drop : ByteArray := prog_1_method_7_code
def yX7_drop : MethodName := ⟨RX7, "drop", "(I)I"⟩
abbrev cX7_play : ByteArray := prog_1_method_8_code
def yX7_play : MethodName := ⟨RX7, "play", "(I)I"⟩
abbrev cX7_cut : ByteArray := prog_1_method_9_code
def yX7_cut : MethodName := ⟨RX7, "cut", "(I)I"⟩
abbrev cX7_riffle : ByteArray := prog_1_method_10_code
def yX7_riffle : MethodName := ⟨RX7, "riffle", "(I)I"⟩
abbrev cX7_turn : ByteArray := prog_1_method_11_code
def yX7_turn : MethodName := ⟨RX7, "turn", "()I"⟩
abbrev cX7_restart : ByteArray := prog_1_method_12_code
def yX7_restart : MethodName := ⟨RX7, "restart", "()I"⟩
abbrev cX7_at : ByteArray := prog_1_method_13_code
def yX7_at : MethodName := ⟨RX7, "at", "(I)I"⟩
abbrev cX7_where : ByteArray := prog_1_method_14_code
def yX7_where : MethodName := ⟨RX7, "where", "(I)I"⟩
abbrev cX7_of : ByteArray := prog_1_method_15_code
def yX7_of : MethodName := ⟨RX7, "of", "(II)I"⟩
abbrev cX7_image : ByteArray := prog_1_method_16_code
def yX7_image : MethodName := ⟨RX7, "image", "(III)I"⟩
abbrev cX7_commuting : ByteArray := prog_1_method_17_code
def yX7_commuting : MethodName := ⟨RX7, "commuting", "(I)J"⟩
abbrev cX7_commute : ByteArray := prog_1_method_18_code
def yX7_commute : MethodName := ⟨RX7, "commute", "(II)I"⟩
abbrev cX7_count : ByteArray := prog_1_method_19_code
def yX7_count : MethodName := ⟨RX7, "count", "(I)I"⟩
abbrev cX7_spread : ByteArray := prog_1_method_20_code
def yX7_spread : MethodName := ⟨RX7, "spread", "()J"⟩
abbrev cX7_share : ByteArray := prog_1_method_21_code
def yX7_share : MethodName := ⟨RX7, "share", "()I"⟩
abbrev cX7_byCut : ByteArray := prog_1_method_22_code
def yX7_byCut : MethodName := ⟨RX7, "byCut", "(III)I"⟩
abbrev cX7_undo : ByteArray := prog_1_method_30_code
def yX7_undo : MethodName := ⟨RX7, "undo", "()I"⟩
abbrev cX7_save : ByteArray := prog_1_method_31_code
def yX7_save : MethodName := ⟨RX7, "save", "(I)I"⟩
abbrev cX7_restore : ByteArray := prog_1_method_32_code
def yX7_restore : MethodName := ⟨RX7, "restore", "(I)I"⟩
abbrev cX7_keepForUndo : ByteArray := prog_1_method_33_code
def yX7_keepForUndo : MethodName := ⟨RX7, "keepForUndo", "()V"⟩
abbrev cX7_comes : ByteArray := prog_1_method_34_code
def yX7_comes : MethodName := ⟨RX7, "comes", "(J)I"⟩
abbrev cX7_moveDeck : ByteArray := prog_1_method_35_code
def yX7_moveDeck : MethodName := ⟨RX7, "moveDeck", "(J)I"⟩
abbrev cX7_placesMoved : ByteArray := prog_1_method_36_code
def yX7_placesMoved : MethodName := ⟨RX7, "placesMoved", "()I"⟩
abbrev cX7_isMarkOrTrick : ByteArray := prog_1_method_37_code
def yX7_isMarkOrTrick : MethodName := ⟨RX7, "isMarkOrTrick", "(I)Z"⟩
abbrev cX7_markOrTrick : ByteArray := prog_1_method_38_code
def yX7_markOrTrick : MethodName := ⟨RX7, "markOrTrick", "(I)J"⟩
abbrev cX7_isPower : ByteArray := prog_1_method_39_code
def yX7_isPower : MethodName := ⟨RX7, "isPower", "(I)Z"⟩
abbrev cX7_cutsThatStay : ByteArray := prog_1_method_40_code
def yX7_cutsThatStay : MethodName := ⟨RX7, "cutsThatStay", "(J)I"⟩
def RX8 : String := "CutMarksModel"
def TX8 : u_T := fun k => match k with
  | _ => ("", "", "", false)
def tyX8 : Nat → FieldType := fun k => match k with
  | _ => .int
abbrev wsX80 : List Cond := u_ws RX8 TX8 0
theorem nmX8 : ∀ a, a < 0 → ∀ b, b < 0 → a ≠ b → (TX8 a).2.1 ≠ (TX8 b).2.1 := by decide +kernel
theorem tyX8_ok : ∀ k, k < 0 → parseFieldDescriptor (TX8 k).2.2.1 = some (tyX8 k) := by decide +kernel
def RJ6 : String := "java/lang/Integer"
def TJ6 : u_T := fun k => match k with
  | _ => ("", "", "", false)
def tyJ6 : Nat → FieldType := fun k => match k with
  | _ => .int
abbrev wsJ60 : List Cond := u_ws RJ6 TJ6 0
theorem nmJ6 : ∀ a, a < 0 → ∀ b, b < 0 → a ≠ b → (TJ6 a).2.1 ≠ (TJ6 b).2.1 := by decide +kernel
theorem tyJ6_ok : ∀ k, k < 0 → parseFieldDescriptor (TJ6 k).2.2.1 = some (tyJ6 k) := by decide +kernel
abbrev cJ6_bitCount_0f7a4 : ByteArray := prog_11_method_49_code
def yJ6_bitCount_0f7a4 : MethodName := ⟨RJ6, "bitCount", "(I)I"⟩
def RJ9 : String := "java/lang/Math"
def TJ9 : u_T := fun k => match k with
  | _ => ("", "", "", false)
def tyJ9 : Nat → FieldType := fun k => match k with
  | _ => .int
abbrev wsJ90 : List Cond := u_ws RJ9 TJ9 0
theorem nmJ9 : ∀ a, a < 0 → ∀ b, b < 0 → a ≠ b → (TJ9 a).2.1 ≠ (TJ9 b).2.1 := by decide +kernel
theorem tyJ9_ok : ∀ k, k < 0 → parseFieldDescriptor (TJ9 k).2.2.1 = some (tyJ9 k) := by decide +kernel
abbrev cJ9_floorMod_7cf53 : ByteArray := prog_12_method_50_code
def yJ9_floorMod_7cf53 : MethodName := ⟨RJ9, "floorMod", "(II)I"⟩
def RL : String := "CutMarksLaw"
abbrev cL_cell : ByteArray := method_2_code
def yL_cell : MethodName := ⟨RL, "cell", "([II)I"⟩
abbrev cL_low : ByteArray := method_3_code
def yL_low : MethodName := ⟨RL, "low", "(II)I"⟩
abbrev cL_told : ByteArray := method_4_code
def yL_told : MethodName := ⟨RL, "told", "(LCutMarks;)J"⟩
abbrev cL_act : ByteArray := method_5_code
def yL_act : MethodName := ⟨RL, "act", "(LCutMarks;II)I"⟩
abbrev cL_holds : ByteArray := method_6_code
def yL_holds : MethodName := ⟨RL, "holds", "(LCutMarks;I)Z"⟩
abbrev cL_isTrick : ByteArray := method_7_code
def yL_isTrick : MethodName := ⟨RL, "isTrick", "(LCutMarks;I)Z"⟩
abbrev cL_law : ByteArray := code
def yL_law : MethodName := ⟨RL, "law", "([I)Z"⟩
def zA_0 : List Cond := [Cond.classLink RL 13 RX7, Cond.instantiable RX7 9, Cond.initialized RX7, Cond.methodLink RL 92 yX7_init, Cond.instanceMethod yX7_init, Cond.code yX7_init cX7_init 1 none, Cond.methodLink RX7 1 objectInit, Cond.instanceMethod objectInit, Cond.code objectInit ⟨#[0xb1]⟩ 1 none, Cond.classLink RX7 7 RX6, Cond.instantiable RX6 5, Cond.initialized RX6, Cond.fieldLink RX7 10 "CutMarks" "table" "LCutMarks$Table;", Cond.classLink RX7 16 RX4, Cond.instantiable RX4 2, Cond.initialized RX4, Cond.fieldLink RX7 21 "CutMarks" "history" "LCutMarks$Shelf;", Cond.fieldLink RX7 25 "CutMarks" "slots" "LCutMarks$Shelf;", Cond.classLink RX7 28 RX1, Cond.instantiable RX1 1, Cond.initialized RX1, Cond.fieldLink RX7 31 "CutMarks" "cycles" "LCutMarks$Cycles;", Cond.classLink RX7 35 RX2, Cond.instantiable RX2 8, Cond.initialized RX2]
def zA_1 : List Cond := [Cond.fieldLink RX7 38 "CutMarks" "reader" "LCutMarks$MarkReader;", Cond.arrayClass .char, Cond.fieldLink RX7 42 "CutMarks" "pad" "[C", Cond.fieldLink RX7 46 "CutMarks" "padLength" "I", Cond.fieldLink RX7 50 "CutMarks" "undoable" "I", Cond.fieldLink RX7 53 "CutMarks" "nextKept" "I", Cond.instanceMethod yX6_init, Cond.code yX6_init cX6_init 1 none, Cond.methodLink RX6 3 objectInit, Cond.fieldLink RX6 9 "CutMarks$Table" "size" "I", Cond.constantLong RX6 17 (-81985529216486896), Cond.fieldLink RX6 19 "CutMarks$Table" "places" "J", Cond.fieldLink RX6 23 "CutMarks$Table" "trick" "J", Cond.fieldLink RX6 26 "CutMarks$Table" "markCount" "I", Cond.arrayClass .long, Cond.fieldLink RX6 29 "CutMarks$Table" "marks" "[J", Cond.methodLink RX7 18 yX4_init, Cond.instanceMethod yX4_init, Cond.code yX4_init cX4_init 4 none, Cond.methodLink RX4 1 objectInit, Cond.classLink RX4 7 RX6, Cond.fieldLink RX4 9 "CutMarks$Shelf" "copies" "[LCutMarks$Table;", Cond.arrayClass .boolean, Cond.fieldLink RX4 15 "CutMarks$Shelf" "full" "[Z", Cond.instanceMethod yX1_init]
def zA_2 : List Cond := [Cond.code yX1_init cX1_init 1 none, Cond.methodLink RX1 3 objectInit, Cond.arrayClass .int, Cond.fieldLink RX1 9 "CutMarks$Cycles" "counts" "[I", Cond.instanceMethod yX2_init, Cond.code yX2_init cX2_init 1 none, Cond.methodLink RX2 3 objectInit, Cond.fieldLink RX2 9 "CutMarks$MarkReader" "size" "I", Cond.fieldLink RX2 15 "CutMarks$MarkReader" "state" "I", Cond.constantLong RX2 20 (-81985529216486896), Cond.fieldLink RX2 22 "CutMarks$MarkReader" "moves" "J", Cond.fieldLink RX2 26 "CutMarks$MarkReader" "used" "I", Cond.fieldLink RX2 29 "CutMarks$MarkReader" "digits" "I", Cond.fieldLink RX2 32 "CutMarks$MarkReader" "inCycle" "I", Cond.fieldLink RX2 35 "CutMarks$MarkReader" "first" "I", Cond.fieldLink RX2 38 "CutMarks$MarkReader" "last" "I", Cond.methodLink RL 93 yX7_undo, Cond.instanceMethod yX7_undo, Cond.selects RX7 yX7_undo yX7_undo, Cond.code yX7_undo cX7_undo 1 (some .int), Cond.methodLink RX7 219 yX4_bring, Cond.instanceMethod yX4_bring, Cond.selects RX4 yX4_bring yX4_bring, Cond.code yX4_bring cX4_bring 3 none, Cond.methodLink RX4 20 yX4_hasPlace]
def zA_3 : List Cond := [Cond.instanceMethod yX4_hasPlace, Cond.selects RX4 yX4_hasPlace yX4_hasPlace, Cond.code yX4_hasPlace cX4_hasPlace 2 (some .boolean), Cond.methodLink RX4 24 yX6_copyFrom, Cond.instanceMethod yX6_copyFrom, Cond.selects RX6 yX6_copyFrom yX6_copyFrom, Cond.code yX6_copyFrom cX6_copyFrom 3 none, Cond.methodLink RL 66 yX7_restore, Cond.instanceMethod yX7_restore, Cond.selects RX7 yX7_restore yX7_restore, Cond.code yX7_restore cX7_restore 2 (some .int), Cond.methodLink RX7 223 yX4_hasPlace, Cond.methodLink RX7 227 yX4_isFull, Cond.instanceMethod yX4_isFull, Cond.selects RX4 yX4_isFull yX4_isFull, Cond.code yX4_isFull cX4_isFull 2 (some .boolean), Cond.methodLink RX7 59 yX7_keepForUndo, Cond.instanceMethod yX7_keepForUndo, Cond.selects RX7 yX7_keepForUndo yX7_keepForUndo, Cond.code yX7_keepForUndo cX7_keepForUndo 1 none, Cond.methodLink RX7 224 yX4_keep, Cond.instanceMethod yX4_keep, Cond.selects RX4 yX4_keep yX4_keep, Cond.code yX4_keep cX4_keep 3 none, Cond.methodLink RL 86 yX7_save]
def zA_4 : List Cond := [Cond.instanceMethod yX7_save, Cond.selects RX7 yX7_save yX7_save, Cond.code yX7_save cX7_save 2 (some .int), Cond.methodLink RL 96 yL_cell, Cond.static yL_cell, Cond.initialized RL, Cond.code yL_cell cL_cell 2 (some .int), Cond.methodLink RL 100 yL_told, Cond.static yL_told, Cond.code yL_told cL_told 5 (some .long), Cond.constantLong RL 8 (3), Cond.constantLong RL 10 (31), Cond.methodLink RL 12 yX7_count, Cond.instanceMethod yX7_count, Cond.selects RX7 yX7_count yX7_count, Cond.code yX7_count cX7_count 2 (some .int), Cond.constantLong RX7 125 (-81985529216486896), Cond.methodLink RX7 153 yX3_fixedPlaces, Cond.static yX3_fixedPlaces, Cond.initialized RX3, Cond.code yX3_fixedPlaces cX3_fixedPlaces 5 (some .int), Cond.methodLink RX3 9 yX3_to, Cond.static yX3_to, Cond.code yX3_to cX3_to 3 (some .int), Cond.methodLink RX7 122 yX7_placesMoved]
def zA_5 : List Cond := [Cond.instanceMethod yX7_placesMoved, Cond.selects RX7 yX7_placesMoved yX7_placesMoved, Cond.code yX7_placesMoved cX7_placesMoved 1 (some .int), Cond.methodLink RX7 185 yJ6_bitCount_0f7a4, Cond.static yJ6_bitCount_0f7a4, Cond.initialized RJ6, Cond.code yJ6_bitCount_0f7a4 cJ6_bitCount_0f7a4 1 (some .int), Cond.constant RJ6 265 (1431655765), Cond.constant RJ6 266 (858993459), Cond.constant RJ6 267 (252645135), Cond.methodLink RL 18 yX7_at, Cond.instanceMethod yX7_at, Cond.selects RX7 yX7_at yX7_at, Cond.code yX7_at cX7_at 2 (some .int), Cond.methodLink RX7 110 yX6_hasPlace, Cond.instanceMethod yX6_hasPlace, Cond.selects RX6 yX6_hasPlace yX6_hasPlace, Cond.code yX6_hasPlace cX6_hasPlace 2 (some .boolean), Cond.methodLink RX7 130 yX3_from, Cond.static yX3_from, Cond.code yX3_from cX3_from 4 (some .int), Cond.methodLink RL 21 yX7_image, Cond.instanceMethod yX7_image, Cond.selects RX7 yX7_image yX7_image, Cond.code yX7_image cX7_image 4 (some .int)]
def zA_6 : List Cond := [Cond.methodLink RX7 137 yX7_isMarkOrTrick, Cond.instanceMethod yX7_isMarkOrTrick, Cond.selects RX7 yX7_isMarkOrTrick yX7_isMarkOrTrick, Cond.code yX7_isMarkOrTrick cX7_isMarkOrTrick 2 (some .boolean), Cond.methodLink RX7 77 yX6_hasMark, Cond.instanceMethod yX6_hasMark, Cond.selects RX6 yX6_hasMark yX6_hasMark, Cond.code yX6_hasMark cX6_hasMark 2 (some .boolean), Cond.methodLink RX7 91 yX7_isPower, Cond.static yX7_isPower, Cond.code yX7_isPower cX7_isPower 1 (some .boolean), Cond.methodLink RX7 140 yX7_markOrTrick, Cond.instanceMethod yX7_markOrTrick, Cond.selects RX7 yX7_markOrTrick yX7_markOrTrick, Cond.code yX7_markOrTrick cX7_markOrTrick 2 (some .long), Cond.methodLink RX7 81 yX6_movesOf, Cond.instanceMethod yX6_movesOf, Cond.selects RX6 yX6_movesOf yX6_movesOf, Cond.code yX6_movesOf cX6_movesOf 2 (some .long), Cond.methodLink RX7 169 yX3_toAfter, Cond.static yX3_toAfter, Cond.code yX3_toAfter cX3_toAfter 8 (some .int), Cond.methodLink RX3 27 yX3_cycleLength, Cond.static yX3_cycleLength, Cond.code yX3_cycleLength cX3_cycleLength 5 (some .int)]
def zA_7 : List Cond := [Cond.methodLink RX3 30 yJ9_floorMod_7cf53, Cond.static yJ9_floorMod_7cf53, Cond.initialized RJ9, Cond.code yJ9_floorMod_7cf53 cJ9_floorMod_7cf53 3 (some .int), Cond.methodLink RL 25 yX7_share, Cond.instanceMethod yX7_share, Cond.selects RX7 yX7_share yX7_share, Cond.code yX7_share cX7_share 2 (some .int), Cond.methodLink RX7 191 yX0_ofShare, Cond.static yX0_ofShare, Cond.initialized RX0, Cond.code yX0_ofShare cX0_ofShare 4 (some .int), Cond.constantFloat RX0 13 (1258291200), Cond.methodLink RL 29 yX7_spread, Cond.instanceMethod yX7_spread, Cond.selects RX7 yX7_spread yX7_spread, Cond.code yX7_spread cX7_spread 5 (some .long), Cond.methodLink RX7 179 yX0_ofDouble, Cond.static yX0_ofDouble, Cond.code yX0_ofDouble cX0_ofDouble 7 (some .long), Cond.constantDouble RX0 7 (4611686018427387904), Cond.constantDouble RX0 11 (4841369599423283200), Cond.methodLink RL 104 yL_act, Cond.static yL_act, Cond.code yL_act cL_act 5 (some .int)]
def zA_8 : List Cond := [Cond.methodLink RL 33 yL_low, Cond.static yL_low, Cond.code yL_low cL_low 2 (some .int), Cond.constant RL 7 (2147483647), Cond.methodLink RL 39 yX7_restart, Cond.instanceMethod yX7_restart, Cond.selects RX7 yX7_restart yX7_restart, Cond.code yX7_restart cX7_restart 2 (some .int), Cond.methodLink RL 42 yX7_set, Cond.instanceMethod yX7_set, Cond.selects RX7 yX7_set yX7_set, Cond.code yX7_set cX7_set 3 (some .int), Cond.methodLink RX7 62 yX6_layInOrder, Cond.instanceMethod yX6_layInOrder, Cond.selects RX6 yX6_layInOrder yX6_layInOrder, Cond.code yX6_layInOrder cX6_layInOrder 2 none, Cond.methodLink RL 45 yX7_product, Cond.instanceMethod yX7_product, Cond.selects RX7 yX7_product yX7_product, Cond.code yX7_product cX7_product 3 (some .int), Cond.methodLink RX7 85 yX3_then, Cond.static yX3_then, Cond.code yX3_then cX3_then 7 (some .long), Cond.methodLink RX3 19 yX3_with, Cond.static yX3_with]
def zA_9 : List Cond := [Cond.code yX3_with cX3_with 6 (some .long), Cond.constantLong RX3 15 (15), Cond.constantLong RX3 17 (-1), Cond.methodLink RX7 73 yX7_comes, Cond.instanceMethod yX7_comes, Cond.selects RX7 yX7_comes yX7_comes, Cond.code yX7_comes cX7_comes 3 (some .int), Cond.methodLink RX7 230 yX6_addMark, Cond.instanceMethod yX6_addMark, Cond.selects RX6 yX6_addMark yX6_addMark, Cond.code yX6_addMark cX6_addMark 4 (some .int), Cond.methodLink RL 48 yX7_power, Cond.instanceMethod yX7_power, Cond.selects RX7 yX7_power yX7_power, Cond.code yX7_power cX7_power 3 (some .int), Cond.methodLink RX7 94 yX3_times, Cond.static yX3_times, Cond.code yX3_times cX3_times 6 (some .long), Cond.methodLink RX3 23 yX3_toAfter, Cond.methodLink RL 51 yX7_trick, Cond.instanceMethod yX7_trick, Cond.selects RX7 yX7_trick yX7_trick, Cond.code yX7_trick cX7_trick 1 (some .int), Cond.methodLink RL 54 yX7_drop, Cond.instanceMethod yX7_drop]
def zA_10 : List Cond := [Cond.selects RX7 yX7_drop yX7_drop, Cond.code yX7_drop cX7_drop 2 (some .int), Cond.methodLink RX7 101 yX6_removeMark, Cond.instanceMethod yX6_removeMark, Cond.selects RX6 yX6_removeMark yX6_removeMark, Cond.code yX6_removeMark cX6_removeMark 3 none, Cond.methodLink RL 57 yX7_play, Cond.instanceMethod yX7_play, Cond.selects RX7 yX7_play yX7_play, Cond.code yX7_play cX7_play 2 (some .int), Cond.methodLink RX7 107 yX7_moveDeck, Cond.instanceMethod yX7_moveDeck, Cond.selects RX7 yX7_moveDeck yX7_moveDeck, Cond.code yX7_moveDeck cX7_moveDeck 3 (some .int), Cond.methodLink RL 60 yX7_cut, Cond.instanceMethod yX7_cut, Cond.selects RX7 yX7_cut yX7_cut, Cond.code yX7_cut cX7_cut 2 (some .int), Cond.methodLink RX7 113 yX5_cutBy, Cond.static yX5_cutBy, Cond.initialized RX5, Cond.code yX5_cutBy cX5_cutBy 5 (some .long), Cond.constantLong RX5 19 (-81985529216486896), Cond.methodLink RX5 7 yX5_cutTo, Cond.static yX5_cutTo]
def zA_11 : List Cond := [Cond.code yX5_cutTo cX5_cutTo 3 (some .int), Cond.methodLink RX5 21 yX3_with, Cond.methodLink RL 63 yX7_riffle, Cond.instanceMethod yX7_riffle, Cond.selects RX7 yX7_riffle yX7_riffle, Cond.code yX7_riffle cX7_riffle 2 (some .int), Cond.methodLink RX7 119 yX5_stepBy, Cond.static yX5_stepBy, Cond.code yX5_stepBy cX5_stepBy 5 (some .long), Cond.methodLink RX5 25 yX5_stepTo, Cond.static yX5_stepTo, Cond.code yX5_stepTo cX5_stepTo 3 (some .int), Cond.methodLink RX5 13 yX5_riffleTo, Cond.static yX5_riffleTo, Cond.code yX5_riffleTo cX5_riffleTo 5 (some .int), Cond.methodLink RL 69 yX7_turn, Cond.instanceMethod yX7_turn, Cond.selects RX7 yX7_turn yX7_turn, Cond.code yX7_turn cX7_turn 1 (some .int), Cond.methodLink RL 108 yL_holds, Cond.static yL_holds, Cond.code yL_holds cL_holds 13 (some .boolean), Cond.constant RL 85 (1065353216), Cond.methodLink RL 72 yX7_of, Cond.instanceMethod yX7_of]
def zA_12 : List Cond := [Cond.selects RX7 yX7_of yX7_of, Cond.code yX7_of cX7_of 5 (some .int), Cond.methodLink RX7 143 yX1_tell, Cond.instanceMethod yX1_tell, Cond.selects RX1 yX1_tell yX1_tell, Cond.code yX1_tell cX1_tell 9 none, Cond.methodLink RX1 15 yX3_cycleLength, Cond.methodLink RX1 21 yX3_to, Cond.methodLink RX1 24 yX1_add, Cond.instanceMethod yX1_add, Cond.selects RX1 yX1_add yX1_add, Cond.code yX1_add cX1_add 2 none, Cond.methodLink RX7 147 yX1_order, Cond.instanceMethod yX1_order, Cond.selects RX1 yX1_order yX1_order, Cond.code yX1_order cX1_order 3 (some .int), Cond.methodLink RX1 28 yX1_leastMultiple, Cond.static yX1_leastMultiple, Cond.code yX1_leastMultiple cX1_leastMultiple 3 (some .int), Cond.methodLink RX7 150 yX1_howMany, Cond.instanceMethod yX1_howMany, Cond.selects RX1 yX1_howMany yX1_howMany, Cond.code yX1_howMany cX1_howMany 3 (some .int), Cond.methodLink RX7 156 yX1_longest, Cond.instanceMethod yX1_longest]
def zA_13 : List Cond := [Cond.selects RX1 yX1_longest yX1_longest, Cond.code yX1_longest cX1_longest 3 (some .int), Cond.methodLink RX7 159 yX7_cutsThatStay, Cond.instanceMethod yX7_cutsThatStay, Cond.selects RX7 yX7_cutsThatStay yX7_cutsThatStay, Cond.code yX7_cutsThatStay cX7_cutsThatStay 5 (some .int), Cond.methodLink RX7 195 yX5_becomesBy, Cond.static yX5_becomesBy, Cond.code yX5_becomesBy cX5_becomesBy 7 (some .long), Cond.methodLink RX5 28 yX3_to, Cond.methodLink RX7 162 yX3_inverse, Cond.static yX3_inverse, Cond.code yX3_inverse cX3_inverse 5 (some .long), Cond.methodLink RX7 166 yX6_lowestMark, Cond.instanceMethod yX6_lowestMark, Cond.selects RX6 yX6_lowestMark yX6_lowestMark, Cond.code yX6_lowestMark cX6_lowestMark 4 (some .int), Cond.methodLink RL 75 yX7_byCut, Cond.instanceMethod yX7_byCut, Cond.selects RX7 yX7_byCut yX7_byCut, Cond.code yX7_byCut cX7_byCut 4 (some .int), Cond.methodLink RX7 134 yX3_to, Cond.methodLink RL 78 yX7_commute, Cond.instanceMethod yX7_commute, Cond.selects RX7 yX7_commute yX7_commute]
def zA_14 : List Cond := [Cond.code yX7_commute cX7_commute 7 (some .int), Cond.methodLink RL 81 yX7_commuting, Cond.instanceMethod yX7_commuting, Cond.selects RX7 yX7_commuting yX7_commuting, Cond.code yX7_commuting cX7_commuting 2 (some .long), Cond.constantLong RX7 173 (-1), Cond.methodLink RX7 175 yX1_marksThatCommute, Cond.instanceMethod yX1_marksThatCommute, Cond.selects RX1 yX1_marksThatCommute yX1_marksThatCommute, Cond.code yX1_marksThatCommute cX1_marksThatCommute 5 (some .long), Cond.methodLink RL 112 yL_isTrick, Cond.static yL_isTrick, Cond.code yL_isTrick cL_isTrick 6 (some .boolean), Cond.methodLink RL 89 yX7_where, Cond.instanceMethod yX7_where, Cond.selects RX7 yX7_where yX7_where, Cond.code yX7_where cX7_where 2 (some .int)]
def zC : List Cond := wsX10 ++ (wsX20 ++ (wsX40 ++ (wsX60 ++ (wsX70))))
def zAll : List Cond := zA_0 ++ (zA_1 ++ (zA_2 ++ (zA_3 ++ (zA_4 ++ (zA_5 ++ (zA_6 ++ (zA_7 ++ (zA_8 ++ (zA_9 ++ (zA_10 ++ (zA_11 ++ (zA_12 ++ (zA_13 ++ (zA_14 ++ (zC)))))))))))))))
theorem zc_0 : ∀ w ∈ zA_0, w ∈ zAll := fun _ h => List.mem_append_left _ h
theorem zc_1 : ∀ w ∈ zA_1, w ∈ zAll := fun _ h => List.mem_append_right _ (List.mem_append_left _ h)
theorem zc_2 : ∀ w ∈ zA_2, w ∈ zAll := fun _ h => List.mem_append_right _ (List.mem_append_right _ (List.mem_append_left _ h))
theorem zc_3 : ∀ w ∈ zA_3, w ∈ zAll := fun _ h => List.mem_append_right _ (List.mem_append_right _ (List.mem_append_right _ (List.mem_append_left _ h)))
theorem zc_4 : ∀ w ∈ zA_4, w ∈ zAll := fun _ h => List.mem_append_right _ (List.mem_append_right _ (List.mem_append_right _ (List.mem_append_right _ (List.mem_append_left _ h))))
theorem zc_5 : ∀ w ∈ zA_5, w ∈ zAll := fun _ h => List.mem_append_right _ (List.mem_append_right _ (List.mem_append_right _ (List.mem_append_right _ (List.mem_append_right _ (List.mem_append_left _ h)))))
theorem zc_6 : ∀ w ∈ zA_6, w ∈ zAll := fun _ h => List.mem_append_right _ (List.mem_append_right _ (List.mem_append_right _ (List.mem_append_right _ (List.mem_append_right _ (List.mem_append_right _ (List.mem_append_left _ h))))))
theorem zc_7 : ∀ w ∈ zA_7, w ∈ zAll := fun _ h => List.mem_append_right _ (List.mem_append_right _ (List.mem_append_right _ (List.mem_append_right _ (List.mem_append_right _ (List.mem_append_right _ (List.mem_append_right _ (List.mem_append_left _ h)))))))
theorem zc_8 : ∀ w ∈ zA_8, w ∈ zAll := fun _ h => List.mem_append_right _ (List.mem_append_right _ (List.mem_append_right _ (List.mem_append_right _ (List.mem_append_right _ (List.mem_append_right _ (List.mem_append_right _ (List.mem_append_right _ (List.mem_append_left _ h))))))))
theorem zc_9 : ∀ w ∈ zA_9, w ∈ zAll := fun _ h => List.mem_append_right _ (List.mem_append_right _ (List.mem_append_right _ (List.mem_append_right _ (List.mem_append_right _ (List.mem_append_right _ (List.mem_append_right _ (List.mem_append_right _ (List.mem_append_right _ (List.mem_append_left _ h)))))))))
theorem zc_10 : ∀ w ∈ zA_10, w ∈ zAll := fun _ h => List.mem_append_right _ (List.mem_append_right _ (List.mem_append_right _ (List.mem_append_right _ (List.mem_append_right _ (List.mem_append_right _ (List.mem_append_right _ (List.mem_append_right _ (List.mem_append_right _ (List.mem_append_right _ (List.mem_append_left _ h))))))))))
theorem zc_11 : ∀ w ∈ zA_11, w ∈ zAll := fun _ h => List.mem_append_right _ (List.mem_append_right _ (List.mem_append_right _ (List.mem_append_right _ (List.mem_append_right _ (List.mem_append_right _ (List.mem_append_right _ (List.mem_append_right _ (List.mem_append_right _ (List.mem_append_right _ (List.mem_append_right _ (List.mem_append_left _ h)))))))))))
theorem zc_12 : ∀ w ∈ zA_12, w ∈ zAll := fun _ h => List.mem_append_right _ (List.mem_append_right _ (List.mem_append_right _ (List.mem_append_right _ (List.mem_append_right _ (List.mem_append_right _ (List.mem_append_right _ (List.mem_append_right _ (List.mem_append_right _ (List.mem_append_right _ (List.mem_append_right _ (List.mem_append_right _ (List.mem_append_left _ h))))))))))))
theorem zc_13 : ∀ w ∈ zA_13, w ∈ zAll := fun _ h => List.mem_append_right _ (List.mem_append_right _ (List.mem_append_right _ (List.mem_append_right _ (List.mem_append_right _ (List.mem_append_right _ (List.mem_append_right _ (List.mem_append_right _ (List.mem_append_right _ (List.mem_append_right _ (List.mem_append_right _ (List.mem_append_right _ (List.mem_append_right _ (List.mem_append_left _ h)))))))))))))
theorem zc_14 : ∀ w ∈ zA_14, w ∈ zAll := fun _ h => List.mem_append_right _ (List.mem_append_right _ (List.mem_append_right _ (List.mem_append_right _ (List.mem_append_right _ (List.mem_append_right _ (List.mem_append_right _ (List.mem_append_right _ (List.mem_append_right _ (List.mem_append_right _ (List.mem_append_right _ (List.mem_append_right _ (List.mem_append_right _ (List.mem_append_right _ (List.mem_append_left _ h))))))))))))))
theorem zc_C : ∀ w ∈ zC, w ∈ zAll := fun _ h => List.mem_append_right _ (List.mem_append_right _ (List.mem_append_right _ (List.mem_append_right _ (List.mem_append_right _ (List.mem_append_right _ (List.mem_append_right _ (List.mem_append_right _ (List.mem_append_right _ (List.mem_append_right _ (List.mem_append_right _ (List.mem_append_right _ (List.mem_append_right _ (List.mem_append_right _ (List.mem_append_right _ (h)))))))))))))))
theorem zinX1 : ∀ w ∈ wsX10, w ∈ zAll := fun w h => zc_C w (List.mem_append_left _ h)
theorem zinX2 : ∀ w ∈ wsX20, w ∈ zAll := fun w h => zc_C w (List.mem_append_right _ (List.mem_append_left _ h))
theorem zinX4 : ∀ w ∈ wsX40, w ∈ zAll := fun w h => zc_C w (List.mem_append_right _ (List.mem_append_right _ (List.mem_append_left _ h)))
theorem zinX6 : ∀ w ∈ wsX60, w ∈ zAll := fun w h => zc_C w (List.mem_append_right _ (List.mem_append_right _ (List.mem_append_right _ (List.mem_append_left _ h))))
theorem zinX7 : ∀ w ∈ wsX70, w ∈ zAll := fun w h => zc_C w (List.mem_append_right _ (List.mem_append_right _ (List.mem_append_right _ (List.mem_append_right _ (h)))))
theorem zw_0 : Cond.classLink RL 13 RX7 ∈ zAll := zc_0 _ (List.mem_of_getElem? (i := 0) rfl)
theorem zw_1 : Cond.instantiable RX7 9 ∈ zAll := zc_0 _ (List.mem_of_getElem? (i := 1) rfl)
theorem zw_2 : Cond.initialized RX7 ∈ zAll := zc_0 _ (List.mem_of_getElem? (i := 2) rfl)
theorem zw_3 : Cond.methodLink RL 92 yX7_init ∈ zAll := zc_0 _ (List.mem_of_getElem? (i := 3) rfl)
theorem zw_4 : Cond.instanceMethod yX7_init ∈ zAll := zc_0 _ (List.mem_of_getElem? (i := 4) rfl)
theorem zw_5 : Cond.code yX7_init cX7_init 1 none ∈ zAll := zc_0 _ (List.mem_of_getElem? (i := 5) rfl)
theorem zw_6 : Cond.methodLink RX7 1 objectInit ∈ zAll := zc_0 _ (List.mem_of_getElem? (i := 6) rfl)
theorem zw_7 : Cond.instanceMethod objectInit ∈ zAll := zc_0 _ (List.mem_of_getElem? (i := 7) rfl)
theorem zw_8 : Cond.code objectInit ⟨#[0xb1]⟩ 1 none ∈ zAll := zc_0 _ (List.mem_of_getElem? (i := 8) rfl)
theorem zw_9 : Cond.classLink RX7 7 RX6 ∈ zAll := zc_0 _ (List.mem_of_getElem? (i := 9) rfl)
theorem zw_10 : Cond.instantiable RX6 5 ∈ zAll := zc_0 _ (List.mem_of_getElem? (i := 10) rfl)
theorem zw_11 : Cond.initialized RX6 ∈ zAll := zc_0 _ (List.mem_of_getElem? (i := 11) rfl)
theorem zw_12 : Cond.fieldLink RX7 10 "CutMarks" "table" "LCutMarks$Table;" ∈ zAll := zc_0 _ (List.mem_of_getElem? (i := 12) rfl)
theorem zw_13 : Cond.classLink RX7 16 RX4 ∈ zAll := zc_0 _ (List.mem_of_getElem? (i := 13) rfl)
theorem zw_14 : Cond.instantiable RX4 2 ∈ zAll := zc_0 _ (List.mem_of_getElem? (i := 14) rfl)
theorem zw_15 : Cond.initialized RX4 ∈ zAll := zc_0 _ (List.mem_of_getElem? (i := 15) rfl)
theorem zw_16 : Cond.fieldLink RX7 21 "CutMarks" "history" "LCutMarks$Shelf;" ∈ zAll := zc_0 _ (List.mem_of_getElem? (i := 16) rfl)
theorem zw_17 : Cond.fieldLink RX7 25 "CutMarks" "slots" "LCutMarks$Shelf;" ∈ zAll := zc_0 _ (List.mem_of_getElem? (i := 17) rfl)
theorem zw_18 : Cond.classLink RX7 28 RX1 ∈ zAll := zc_0 _ (List.mem_of_getElem? (i := 18) rfl)
theorem zw_19 : Cond.instantiable RX1 1 ∈ zAll := zc_0 _ (List.mem_of_getElem? (i := 19) rfl)
theorem zw_20 : Cond.initialized RX1 ∈ zAll := zc_0 _ (List.mem_of_getElem? (i := 20) rfl)
theorem zw_21 : Cond.fieldLink RX7 31 "CutMarks" "cycles" "LCutMarks$Cycles;" ∈ zAll := zc_0 _ (List.mem_of_getElem? (i := 21) rfl)
theorem zw_22 : Cond.classLink RX7 35 RX2 ∈ zAll := zc_0 _ (List.mem_of_getElem? (i := 22) rfl)
theorem zw_23 : Cond.instantiable RX2 8 ∈ zAll := zc_0 _ (List.mem_of_getElem? (i := 23) rfl)
theorem zw_24 : Cond.initialized RX2 ∈ zAll := zc_0 _ (List.mem_of_getElem? (i := 24) rfl)
theorem zw_25 : Cond.fieldLink RX7 38 "CutMarks" "reader" "LCutMarks$MarkReader;" ∈ zAll := zc_1 _ (List.mem_of_getElem? (i := 0) rfl)
theorem zw_26 : Cond.arrayClass .char ∈ zAll := zc_1 _ (List.mem_of_getElem? (i := 1) rfl)
theorem zw_27 : Cond.fieldLink RX7 42 "CutMarks" "pad" "[C" ∈ zAll := zc_1 _ (List.mem_of_getElem? (i := 2) rfl)
theorem zw_28 : Cond.fieldLink RX7 46 "CutMarks" "padLength" "I" ∈ zAll := zc_1 _ (List.mem_of_getElem? (i := 3) rfl)
theorem zw_29 : Cond.fieldLink RX7 50 "CutMarks" "undoable" "I" ∈ zAll := zc_1 _ (List.mem_of_getElem? (i := 4) rfl)
theorem zw_30 : Cond.fieldLink RX7 53 "CutMarks" "nextKept" "I" ∈ zAll := zc_1 _ (List.mem_of_getElem? (i := 5) rfl)
theorem zw_31 : Cond.instanceMethod yX6_init ∈ zAll := zc_1 _ (List.mem_of_getElem? (i := 6) rfl)
theorem zw_32 : Cond.code yX6_init cX6_init 1 none ∈ zAll := zc_1 _ (List.mem_of_getElem? (i := 7) rfl)
theorem zw_33 : Cond.methodLink RX6 3 objectInit ∈ zAll := zc_1 _ (List.mem_of_getElem? (i := 8) rfl)
theorem zw_34 : Cond.fieldLink RX6 9 "CutMarks$Table" "size" "I" ∈ zAll := zc_1 _ (List.mem_of_getElem? (i := 9) rfl)
theorem zw_35 : Cond.constantLong RX6 17 (-81985529216486896) ∈ zAll := zc_1 _ (List.mem_of_getElem? (i := 10) rfl)
theorem zw_36 : Cond.fieldLink RX6 19 "CutMarks$Table" "places" "J" ∈ zAll := zc_1 _ (List.mem_of_getElem? (i := 11) rfl)
theorem zw_37 : Cond.fieldLink RX6 23 "CutMarks$Table" "trick" "J" ∈ zAll := zc_1 _ (List.mem_of_getElem? (i := 12) rfl)
theorem zw_38 : Cond.fieldLink RX6 26 "CutMarks$Table" "markCount" "I" ∈ zAll := zc_1 _ (List.mem_of_getElem? (i := 13) rfl)
theorem zw_39 : Cond.arrayClass .long ∈ zAll := zc_1 _ (List.mem_of_getElem? (i := 14) rfl)
theorem zw_40 : Cond.fieldLink RX6 29 "CutMarks$Table" "marks" "[J" ∈ zAll := zc_1 _ (List.mem_of_getElem? (i := 15) rfl)
theorem zw_41 : Cond.methodLink RX7 18 yX4_init ∈ zAll := zc_1 _ (List.mem_of_getElem? (i := 16) rfl)
theorem zw_42 : Cond.instanceMethod yX4_init ∈ zAll := zc_1 _ (List.mem_of_getElem? (i := 17) rfl)
theorem zw_43 : Cond.code yX4_init cX4_init 4 none ∈ zAll := zc_1 _ (List.mem_of_getElem? (i := 18) rfl)
theorem zw_44 : Cond.methodLink RX4 1 objectInit ∈ zAll := zc_1 _ (List.mem_of_getElem? (i := 19) rfl)
theorem zw_45 : Cond.classLink RX4 7 RX6 ∈ zAll := zc_1 _ (List.mem_of_getElem? (i := 20) rfl)
theorem zw_46 : Cond.fieldLink RX4 9 "CutMarks$Shelf" "copies" "[LCutMarks$Table;" ∈ zAll := zc_1 _ (List.mem_of_getElem? (i := 21) rfl)
theorem zw_47 : Cond.arrayClass .boolean ∈ zAll := zc_1 _ (List.mem_of_getElem? (i := 22) rfl)
theorem zw_48 : Cond.fieldLink RX4 15 "CutMarks$Shelf" "full" "[Z" ∈ zAll := zc_1 _ (List.mem_of_getElem? (i := 23) rfl)
theorem zw_49 : Cond.instanceMethod yX1_init ∈ zAll := zc_1 _ (List.mem_of_getElem? (i := 24) rfl)
theorem zw_50 : Cond.code yX1_init cX1_init 1 none ∈ zAll := zc_2 _ (List.mem_of_getElem? (i := 0) rfl)
theorem zw_51 : Cond.methodLink RX1 3 objectInit ∈ zAll := zc_2 _ (List.mem_of_getElem? (i := 1) rfl)
theorem zw_52 : Cond.arrayClass .int ∈ zAll := zc_2 _ (List.mem_of_getElem? (i := 2) rfl)
theorem zw_53 : Cond.fieldLink RX1 9 "CutMarks$Cycles" "counts" "[I" ∈ zAll := zc_2 _ (List.mem_of_getElem? (i := 3) rfl)
theorem zw_54 : Cond.instanceMethod yX2_init ∈ zAll := zc_2 _ (List.mem_of_getElem? (i := 4) rfl)
theorem zw_55 : Cond.code yX2_init cX2_init 1 none ∈ zAll := zc_2 _ (List.mem_of_getElem? (i := 5) rfl)
theorem zw_56 : Cond.methodLink RX2 3 objectInit ∈ zAll := zc_2 _ (List.mem_of_getElem? (i := 6) rfl)
theorem zw_57 : Cond.fieldLink RX2 9 "CutMarks$MarkReader" "size" "I" ∈ zAll := zc_2 _ (List.mem_of_getElem? (i := 7) rfl)
theorem zw_58 : Cond.fieldLink RX2 15 "CutMarks$MarkReader" "state" "I" ∈ zAll := zc_2 _ (List.mem_of_getElem? (i := 8) rfl)
theorem zw_59 : Cond.constantLong RX2 20 (-81985529216486896) ∈ zAll := zc_2 _ (List.mem_of_getElem? (i := 9) rfl)
theorem zw_60 : Cond.fieldLink RX2 22 "CutMarks$MarkReader" "moves" "J" ∈ zAll := zc_2 _ (List.mem_of_getElem? (i := 10) rfl)
theorem zw_61 : Cond.fieldLink RX2 26 "CutMarks$MarkReader" "used" "I" ∈ zAll := zc_2 _ (List.mem_of_getElem? (i := 11) rfl)
theorem zw_62 : Cond.fieldLink RX2 29 "CutMarks$MarkReader" "digits" "I" ∈ zAll := zc_2 _ (List.mem_of_getElem? (i := 12) rfl)
theorem zw_63 : Cond.fieldLink RX2 32 "CutMarks$MarkReader" "inCycle" "I" ∈ zAll := zc_2 _ (List.mem_of_getElem? (i := 13) rfl)
theorem zw_64 : Cond.fieldLink RX2 35 "CutMarks$MarkReader" "first" "I" ∈ zAll := zc_2 _ (List.mem_of_getElem? (i := 14) rfl)
theorem zw_65 : Cond.fieldLink RX2 38 "CutMarks$MarkReader" "last" "I" ∈ zAll := zc_2 _ (List.mem_of_getElem? (i := 15) rfl)
theorem zw_66 : Cond.methodLink RL 93 yX7_undo ∈ zAll := zc_2 _ (List.mem_of_getElem? (i := 16) rfl)
theorem zw_67 : Cond.instanceMethod yX7_undo ∈ zAll := zc_2 _ (List.mem_of_getElem? (i := 17) rfl)
theorem zw_68 : Cond.selects RX7 yX7_undo yX7_undo ∈ zAll := zc_2 _ (List.mem_of_getElem? (i := 18) rfl)
theorem zw_69 : Cond.code yX7_undo cX7_undo 1 (some .int) ∈ zAll := zc_2 _ (List.mem_of_getElem? (i := 19) rfl)
theorem zw_70 : Cond.methodLink RX7 219 yX4_bring ∈ zAll := zc_2 _ (List.mem_of_getElem? (i := 20) rfl)
theorem zw_71 : Cond.instanceMethod yX4_bring ∈ zAll := zc_2 _ (List.mem_of_getElem? (i := 21) rfl)
theorem zw_72 : Cond.selects RX4 yX4_bring yX4_bring ∈ zAll := zc_2 _ (List.mem_of_getElem? (i := 22) rfl)
theorem zw_73 : Cond.code yX4_bring cX4_bring 3 none ∈ zAll := zc_2 _ (List.mem_of_getElem? (i := 23) rfl)
theorem zw_74 : Cond.methodLink RX4 20 yX4_hasPlace ∈ zAll := zc_2 _ (List.mem_of_getElem? (i := 24) rfl)
theorem zw_75 : Cond.instanceMethod yX4_hasPlace ∈ zAll := zc_3 _ (List.mem_of_getElem? (i := 0) rfl)
theorem zw_76 : Cond.selects RX4 yX4_hasPlace yX4_hasPlace ∈ zAll := zc_3 _ (List.mem_of_getElem? (i := 1) rfl)
theorem zw_77 : Cond.code yX4_hasPlace cX4_hasPlace 2 (some .boolean) ∈ zAll := zc_3 _ (List.mem_of_getElem? (i := 2) rfl)
theorem zw_78 : Cond.methodLink RX4 24 yX6_copyFrom ∈ zAll := zc_3 _ (List.mem_of_getElem? (i := 3) rfl)
theorem zw_79 : Cond.instanceMethod yX6_copyFrom ∈ zAll := zc_3 _ (List.mem_of_getElem? (i := 4) rfl)
theorem zw_80 : Cond.selects RX6 yX6_copyFrom yX6_copyFrom ∈ zAll := zc_3 _ (List.mem_of_getElem? (i := 5) rfl)
theorem zw_81 : Cond.code yX6_copyFrom cX6_copyFrom 3 none ∈ zAll := zc_3 _ (List.mem_of_getElem? (i := 6) rfl)
theorem zw_82 : Cond.methodLink RL 66 yX7_restore ∈ zAll := zc_3 _ (List.mem_of_getElem? (i := 7) rfl)
theorem zw_83 : Cond.instanceMethod yX7_restore ∈ zAll := zc_3 _ (List.mem_of_getElem? (i := 8) rfl)
theorem zw_84 : Cond.selects RX7 yX7_restore yX7_restore ∈ zAll := zc_3 _ (List.mem_of_getElem? (i := 9) rfl)
theorem zw_85 : Cond.code yX7_restore cX7_restore 2 (some .int) ∈ zAll := zc_3 _ (List.mem_of_getElem? (i := 10) rfl)
theorem zw_86 : Cond.methodLink RX7 223 yX4_hasPlace ∈ zAll := zc_3 _ (List.mem_of_getElem? (i := 11) rfl)
theorem zw_87 : Cond.methodLink RX7 227 yX4_isFull ∈ zAll := zc_3 _ (List.mem_of_getElem? (i := 12) rfl)
theorem zw_88 : Cond.instanceMethod yX4_isFull ∈ zAll := zc_3 _ (List.mem_of_getElem? (i := 13) rfl)
theorem zw_89 : Cond.selects RX4 yX4_isFull yX4_isFull ∈ zAll := zc_3 _ (List.mem_of_getElem? (i := 14) rfl)
theorem zw_90 : Cond.code yX4_isFull cX4_isFull 2 (some .boolean) ∈ zAll := zc_3 _ (List.mem_of_getElem? (i := 15) rfl)
theorem zw_91 : Cond.methodLink RX7 59 yX7_keepForUndo ∈ zAll := zc_3 _ (List.mem_of_getElem? (i := 16) rfl)
theorem zw_92 : Cond.instanceMethod yX7_keepForUndo ∈ zAll := zc_3 _ (List.mem_of_getElem? (i := 17) rfl)
theorem zw_93 : Cond.selects RX7 yX7_keepForUndo yX7_keepForUndo ∈ zAll := zc_3 _ (List.mem_of_getElem? (i := 18) rfl)
theorem zw_94 : Cond.code yX7_keepForUndo cX7_keepForUndo 1 none ∈ zAll := zc_3 _ (List.mem_of_getElem? (i := 19) rfl)
theorem zw_95 : Cond.methodLink RX7 224 yX4_keep ∈ zAll := zc_3 _ (List.mem_of_getElem? (i := 20) rfl)
theorem zw_96 : Cond.instanceMethod yX4_keep ∈ zAll := zc_3 _ (List.mem_of_getElem? (i := 21) rfl)
theorem zw_97 : Cond.selects RX4 yX4_keep yX4_keep ∈ zAll := zc_3 _ (List.mem_of_getElem? (i := 22) rfl)
theorem zw_98 : Cond.code yX4_keep cX4_keep 3 none ∈ zAll := zc_3 _ (List.mem_of_getElem? (i := 23) rfl)
theorem zw_99 : Cond.methodLink RL 86 yX7_save ∈ zAll := zc_3 _ (List.mem_of_getElem? (i := 24) rfl)
theorem zw_100 : Cond.instanceMethod yX7_save ∈ zAll := zc_4 _ (List.mem_of_getElem? (i := 0) rfl)
theorem zw_101 : Cond.selects RX7 yX7_save yX7_save ∈ zAll := zc_4 _ (List.mem_of_getElem? (i := 1) rfl)
theorem zw_102 : Cond.code yX7_save cX7_save 2 (some .int) ∈ zAll := zc_4 _ (List.mem_of_getElem? (i := 2) rfl)
theorem zw_103 : Cond.methodLink RL 96 yL_cell ∈ zAll := zc_4 _ (List.mem_of_getElem? (i := 3) rfl)
theorem zw_104 : Cond.static yL_cell ∈ zAll := zc_4 _ (List.mem_of_getElem? (i := 4) rfl)
theorem zw_105 : Cond.initialized RL ∈ zAll := zc_4 _ (List.mem_of_getElem? (i := 5) rfl)
theorem zw_106 : Cond.code yL_cell cL_cell 2 (some .int) ∈ zAll := zc_4 _ (List.mem_of_getElem? (i := 6) rfl)
theorem zw_107 : Cond.methodLink RL 100 yL_told ∈ zAll := zc_4 _ (List.mem_of_getElem? (i := 7) rfl)
theorem zw_108 : Cond.static yL_told ∈ zAll := zc_4 _ (List.mem_of_getElem? (i := 8) rfl)
theorem zw_109 : Cond.code yL_told cL_told 5 (some .long) ∈ zAll := zc_4 _ (List.mem_of_getElem? (i := 9) rfl)
theorem zw_110 : Cond.constantLong RL 8 (3) ∈ zAll := zc_4 _ (List.mem_of_getElem? (i := 10) rfl)
theorem zw_111 : Cond.constantLong RL 10 (31) ∈ zAll := zc_4 _ (List.mem_of_getElem? (i := 11) rfl)
theorem zw_112 : Cond.methodLink RL 12 yX7_count ∈ zAll := zc_4 _ (List.mem_of_getElem? (i := 12) rfl)
theorem zw_113 : Cond.instanceMethod yX7_count ∈ zAll := zc_4 _ (List.mem_of_getElem? (i := 13) rfl)
theorem zw_114 : Cond.selects RX7 yX7_count yX7_count ∈ zAll := zc_4 _ (List.mem_of_getElem? (i := 14) rfl)
theorem zw_115 : Cond.code yX7_count cX7_count 2 (some .int) ∈ zAll := zc_4 _ (List.mem_of_getElem? (i := 15) rfl)
theorem zw_116 : Cond.constantLong RX7 125 (-81985529216486896) ∈ zAll := zc_4 _ (List.mem_of_getElem? (i := 16) rfl)
theorem zw_117 : Cond.methodLink RX7 153 yX3_fixedPlaces ∈ zAll := zc_4 _ (List.mem_of_getElem? (i := 17) rfl)
theorem zw_118 : Cond.static yX3_fixedPlaces ∈ zAll := zc_4 _ (List.mem_of_getElem? (i := 18) rfl)
theorem zw_119 : Cond.initialized RX3 ∈ zAll := zc_4 _ (List.mem_of_getElem? (i := 19) rfl)
theorem zw_120 : Cond.code yX3_fixedPlaces cX3_fixedPlaces 5 (some .int) ∈ zAll := zc_4 _ (List.mem_of_getElem? (i := 20) rfl)
theorem zw_121 : Cond.methodLink RX3 9 yX3_to ∈ zAll := zc_4 _ (List.mem_of_getElem? (i := 21) rfl)
theorem zw_122 : Cond.static yX3_to ∈ zAll := zc_4 _ (List.mem_of_getElem? (i := 22) rfl)
theorem zw_123 : Cond.code yX3_to cX3_to 3 (some .int) ∈ zAll := zc_4 _ (List.mem_of_getElem? (i := 23) rfl)
theorem zw_124 : Cond.methodLink RX7 122 yX7_placesMoved ∈ zAll := zc_4 _ (List.mem_of_getElem? (i := 24) rfl)
theorem zw_125 : Cond.instanceMethod yX7_placesMoved ∈ zAll := zc_5 _ (List.mem_of_getElem? (i := 0) rfl)
theorem zw_126 : Cond.selects RX7 yX7_placesMoved yX7_placesMoved ∈ zAll := zc_5 _ (List.mem_of_getElem? (i := 1) rfl)
theorem zw_127 : Cond.code yX7_placesMoved cX7_placesMoved 1 (some .int) ∈ zAll := zc_5 _ (List.mem_of_getElem? (i := 2) rfl)
theorem zw_128 : Cond.methodLink RX7 185 yJ6_bitCount_0f7a4 ∈ zAll := zc_5 _ (List.mem_of_getElem? (i := 3) rfl)
theorem zw_129 : Cond.static yJ6_bitCount_0f7a4 ∈ zAll := zc_5 _ (List.mem_of_getElem? (i := 4) rfl)
theorem zw_130 : Cond.initialized RJ6 ∈ zAll := zc_5 _ (List.mem_of_getElem? (i := 5) rfl)
theorem zw_131 : Cond.code yJ6_bitCount_0f7a4 cJ6_bitCount_0f7a4 1 (some .int) ∈ zAll := zc_5 _ (List.mem_of_getElem? (i := 6) rfl)
theorem zw_132 : Cond.constant RJ6 265 (1431655765) ∈ zAll := zc_5 _ (List.mem_of_getElem? (i := 7) rfl)
theorem zw_133 : Cond.constant RJ6 266 (858993459) ∈ zAll := zc_5 _ (List.mem_of_getElem? (i := 8) rfl)
theorem zw_134 : Cond.constant RJ6 267 (252645135) ∈ zAll := zc_5 _ (List.mem_of_getElem? (i := 9) rfl)
theorem zw_135 : Cond.methodLink RL 18 yX7_at ∈ zAll := zc_5 _ (List.mem_of_getElem? (i := 10) rfl)
theorem zw_136 : Cond.instanceMethod yX7_at ∈ zAll := zc_5 _ (List.mem_of_getElem? (i := 11) rfl)
theorem zw_137 : Cond.selects RX7 yX7_at yX7_at ∈ zAll := zc_5 _ (List.mem_of_getElem? (i := 12) rfl)
theorem zw_138 : Cond.code yX7_at cX7_at 2 (some .int) ∈ zAll := zc_5 _ (List.mem_of_getElem? (i := 13) rfl)
theorem zw_139 : Cond.methodLink RX7 110 yX6_hasPlace ∈ zAll := zc_5 _ (List.mem_of_getElem? (i := 14) rfl)
theorem zw_140 : Cond.instanceMethod yX6_hasPlace ∈ zAll := zc_5 _ (List.mem_of_getElem? (i := 15) rfl)
theorem zw_141 : Cond.selects RX6 yX6_hasPlace yX6_hasPlace ∈ zAll := zc_5 _ (List.mem_of_getElem? (i := 16) rfl)
theorem zw_142 : Cond.code yX6_hasPlace cX6_hasPlace 2 (some .boolean) ∈ zAll := zc_5 _ (List.mem_of_getElem? (i := 17) rfl)
theorem zw_143 : Cond.methodLink RX7 130 yX3_from ∈ zAll := zc_5 _ (List.mem_of_getElem? (i := 18) rfl)
theorem zw_144 : Cond.static yX3_from ∈ zAll := zc_5 _ (List.mem_of_getElem? (i := 19) rfl)
theorem zw_145 : Cond.code yX3_from cX3_from 4 (some .int) ∈ zAll := zc_5 _ (List.mem_of_getElem? (i := 20) rfl)
theorem zw_146 : Cond.methodLink RL 21 yX7_image ∈ zAll := zc_5 _ (List.mem_of_getElem? (i := 21) rfl)
theorem zw_147 : Cond.instanceMethod yX7_image ∈ zAll := zc_5 _ (List.mem_of_getElem? (i := 22) rfl)
theorem zw_148 : Cond.selects RX7 yX7_image yX7_image ∈ zAll := zc_5 _ (List.mem_of_getElem? (i := 23) rfl)
theorem zw_149 : Cond.code yX7_image cX7_image 4 (some .int) ∈ zAll := zc_5 _ (List.mem_of_getElem? (i := 24) rfl)
theorem zw_150 : Cond.methodLink RX7 137 yX7_isMarkOrTrick ∈ zAll := zc_6 _ (List.mem_of_getElem? (i := 0) rfl)
theorem zw_151 : Cond.instanceMethod yX7_isMarkOrTrick ∈ zAll := zc_6 _ (List.mem_of_getElem? (i := 1) rfl)
theorem zw_152 : Cond.selects RX7 yX7_isMarkOrTrick yX7_isMarkOrTrick ∈ zAll := zc_6 _ (List.mem_of_getElem? (i := 2) rfl)
theorem zw_153 : Cond.code yX7_isMarkOrTrick cX7_isMarkOrTrick 2 (some .boolean) ∈ zAll := zc_6 _ (List.mem_of_getElem? (i := 3) rfl)
theorem zw_154 : Cond.methodLink RX7 77 yX6_hasMark ∈ zAll := zc_6 _ (List.mem_of_getElem? (i := 4) rfl)
theorem zw_155 : Cond.instanceMethod yX6_hasMark ∈ zAll := zc_6 _ (List.mem_of_getElem? (i := 5) rfl)
theorem zw_156 : Cond.selects RX6 yX6_hasMark yX6_hasMark ∈ zAll := zc_6 _ (List.mem_of_getElem? (i := 6) rfl)
theorem zw_157 : Cond.code yX6_hasMark cX6_hasMark 2 (some .boolean) ∈ zAll := zc_6 _ (List.mem_of_getElem? (i := 7) rfl)
theorem zw_158 : Cond.methodLink RX7 91 yX7_isPower ∈ zAll := zc_6 _ (List.mem_of_getElem? (i := 8) rfl)
theorem zw_159 : Cond.static yX7_isPower ∈ zAll := zc_6 _ (List.mem_of_getElem? (i := 9) rfl)
theorem zw_160 : Cond.code yX7_isPower cX7_isPower 1 (some .boolean) ∈ zAll := zc_6 _ (List.mem_of_getElem? (i := 10) rfl)
theorem zw_161 : Cond.methodLink RX7 140 yX7_markOrTrick ∈ zAll := zc_6 _ (List.mem_of_getElem? (i := 11) rfl)
theorem zw_162 : Cond.instanceMethod yX7_markOrTrick ∈ zAll := zc_6 _ (List.mem_of_getElem? (i := 12) rfl)
theorem zw_163 : Cond.selects RX7 yX7_markOrTrick yX7_markOrTrick ∈ zAll := zc_6 _ (List.mem_of_getElem? (i := 13) rfl)
theorem zw_164 : Cond.code yX7_markOrTrick cX7_markOrTrick 2 (some .long) ∈ zAll := zc_6 _ (List.mem_of_getElem? (i := 14) rfl)
theorem zw_165 : Cond.methodLink RX7 81 yX6_movesOf ∈ zAll := zc_6 _ (List.mem_of_getElem? (i := 15) rfl)
theorem zw_166 : Cond.instanceMethod yX6_movesOf ∈ zAll := zc_6 _ (List.mem_of_getElem? (i := 16) rfl)
theorem zw_167 : Cond.selects RX6 yX6_movesOf yX6_movesOf ∈ zAll := zc_6 _ (List.mem_of_getElem? (i := 17) rfl)
theorem zw_168 : Cond.code yX6_movesOf cX6_movesOf 2 (some .long) ∈ zAll := zc_6 _ (List.mem_of_getElem? (i := 18) rfl)
theorem zw_169 : Cond.methodLink RX7 169 yX3_toAfter ∈ zAll := zc_6 _ (List.mem_of_getElem? (i := 19) rfl)
theorem zw_170 : Cond.static yX3_toAfter ∈ zAll := zc_6 _ (List.mem_of_getElem? (i := 20) rfl)
theorem zw_171 : Cond.code yX3_toAfter cX3_toAfter 8 (some .int) ∈ zAll := zc_6 _ (List.mem_of_getElem? (i := 21) rfl)
theorem zw_172 : Cond.methodLink RX3 27 yX3_cycleLength ∈ zAll := zc_6 _ (List.mem_of_getElem? (i := 22) rfl)
theorem zw_173 : Cond.static yX3_cycleLength ∈ zAll := zc_6 _ (List.mem_of_getElem? (i := 23) rfl)
theorem zw_174 : Cond.code yX3_cycleLength cX3_cycleLength 5 (some .int) ∈ zAll := zc_6 _ (List.mem_of_getElem? (i := 24) rfl)
theorem zw_175 : Cond.methodLink RX3 30 yJ9_floorMod_7cf53 ∈ zAll := zc_7 _ (List.mem_of_getElem? (i := 0) rfl)
theorem zw_176 : Cond.static yJ9_floorMod_7cf53 ∈ zAll := zc_7 _ (List.mem_of_getElem? (i := 1) rfl)
theorem zw_177 : Cond.initialized RJ9 ∈ zAll := zc_7 _ (List.mem_of_getElem? (i := 2) rfl)
theorem zw_178 : Cond.code yJ9_floorMod_7cf53 cJ9_floorMod_7cf53 3 (some .int) ∈ zAll := zc_7 _ (List.mem_of_getElem? (i := 3) rfl)
theorem zw_179 : Cond.methodLink RL 25 yX7_share ∈ zAll := zc_7 _ (List.mem_of_getElem? (i := 4) rfl)
theorem zw_180 : Cond.instanceMethod yX7_share ∈ zAll := zc_7 _ (List.mem_of_getElem? (i := 5) rfl)
theorem zw_181 : Cond.selects RX7 yX7_share yX7_share ∈ zAll := zc_7 _ (List.mem_of_getElem? (i := 6) rfl)
theorem zw_182 : Cond.code yX7_share cX7_share 2 (some .int) ∈ zAll := zc_7 _ (List.mem_of_getElem? (i := 7) rfl)
theorem zw_183 : Cond.methodLink RX7 191 yX0_ofShare ∈ zAll := zc_7 _ (List.mem_of_getElem? (i := 8) rfl)
theorem zw_184 : Cond.static yX0_ofShare ∈ zAll := zc_7 _ (List.mem_of_getElem? (i := 9) rfl)
theorem zw_185 : Cond.initialized RX0 ∈ zAll := zc_7 _ (List.mem_of_getElem? (i := 10) rfl)
theorem zw_186 : Cond.code yX0_ofShare cX0_ofShare 4 (some .int) ∈ zAll := zc_7 _ (List.mem_of_getElem? (i := 11) rfl)
theorem zw_187 : Cond.constantFloat RX0 13 (1258291200) ∈ zAll := zc_7 _ (List.mem_of_getElem? (i := 12) rfl)
theorem zw_188 : Cond.methodLink RL 29 yX7_spread ∈ zAll := zc_7 _ (List.mem_of_getElem? (i := 13) rfl)
theorem zw_189 : Cond.instanceMethod yX7_spread ∈ zAll := zc_7 _ (List.mem_of_getElem? (i := 14) rfl)
theorem zw_190 : Cond.selects RX7 yX7_spread yX7_spread ∈ zAll := zc_7 _ (List.mem_of_getElem? (i := 15) rfl)
theorem zw_191 : Cond.code yX7_spread cX7_spread 5 (some .long) ∈ zAll := zc_7 _ (List.mem_of_getElem? (i := 16) rfl)
theorem zw_192 : Cond.methodLink RX7 179 yX0_ofDouble ∈ zAll := zc_7 _ (List.mem_of_getElem? (i := 17) rfl)
theorem zw_193 : Cond.static yX0_ofDouble ∈ zAll := zc_7 _ (List.mem_of_getElem? (i := 18) rfl)
theorem zw_194 : Cond.code yX0_ofDouble cX0_ofDouble 7 (some .long) ∈ zAll := zc_7 _ (List.mem_of_getElem? (i := 19) rfl)
theorem zw_195 : Cond.constantDouble RX0 7 (4611686018427387904) ∈ zAll := zc_7 _ (List.mem_of_getElem? (i := 20) rfl)
theorem zw_196 : Cond.constantDouble RX0 11 (4841369599423283200) ∈ zAll := zc_7 _ (List.mem_of_getElem? (i := 21) rfl)
theorem zw_197 : Cond.methodLink RL 104 yL_act ∈ zAll := zc_7 _ (List.mem_of_getElem? (i := 22) rfl)
theorem zw_198 : Cond.static yL_act ∈ zAll := zc_7 _ (List.mem_of_getElem? (i := 23) rfl)
theorem zw_199 : Cond.code yL_act cL_act 5 (some .int) ∈ zAll := zc_7 _ (List.mem_of_getElem? (i := 24) rfl)
theorem zw_200 : Cond.methodLink RL 33 yL_low ∈ zAll := zc_8 _ (List.mem_of_getElem? (i := 0) rfl)
theorem zw_201 : Cond.static yL_low ∈ zAll := zc_8 _ (List.mem_of_getElem? (i := 1) rfl)
theorem zw_202 : Cond.code yL_low cL_low 2 (some .int) ∈ zAll := zc_8 _ (List.mem_of_getElem? (i := 2) rfl)
theorem zw_203 : Cond.constant RL 7 (2147483647) ∈ zAll := zc_8 _ (List.mem_of_getElem? (i := 3) rfl)
theorem zw_204 : Cond.methodLink RL 39 yX7_restart ∈ zAll := zc_8 _ (List.mem_of_getElem? (i := 4) rfl)
theorem zw_205 : Cond.instanceMethod yX7_restart ∈ zAll := zc_8 _ (List.mem_of_getElem? (i := 5) rfl)
theorem zw_206 : Cond.selects RX7 yX7_restart yX7_restart ∈ zAll := zc_8 _ (List.mem_of_getElem? (i := 6) rfl)
theorem zw_207 : Cond.code yX7_restart cX7_restart 2 (some .int) ∈ zAll := zc_8 _ (List.mem_of_getElem? (i := 7) rfl)
theorem zw_208 : Cond.methodLink RL 42 yX7_set ∈ zAll := zc_8 _ (List.mem_of_getElem? (i := 8) rfl)
theorem zw_209 : Cond.instanceMethod yX7_set ∈ zAll := zc_8 _ (List.mem_of_getElem? (i := 9) rfl)
theorem zw_210 : Cond.selects RX7 yX7_set yX7_set ∈ zAll := zc_8 _ (List.mem_of_getElem? (i := 10) rfl)
theorem zw_211 : Cond.code yX7_set cX7_set 3 (some .int) ∈ zAll := zc_8 _ (List.mem_of_getElem? (i := 11) rfl)
theorem zw_212 : Cond.methodLink RX7 62 yX6_layInOrder ∈ zAll := zc_8 _ (List.mem_of_getElem? (i := 12) rfl)
theorem zw_213 : Cond.instanceMethod yX6_layInOrder ∈ zAll := zc_8 _ (List.mem_of_getElem? (i := 13) rfl)
theorem zw_214 : Cond.selects RX6 yX6_layInOrder yX6_layInOrder ∈ zAll := zc_8 _ (List.mem_of_getElem? (i := 14) rfl)
theorem zw_215 : Cond.code yX6_layInOrder cX6_layInOrder 2 none ∈ zAll := zc_8 _ (List.mem_of_getElem? (i := 15) rfl)
theorem zw_216 : Cond.methodLink RL 45 yX7_product ∈ zAll := zc_8 _ (List.mem_of_getElem? (i := 16) rfl)
theorem zw_217 : Cond.instanceMethod yX7_product ∈ zAll := zc_8 _ (List.mem_of_getElem? (i := 17) rfl)
theorem zw_218 : Cond.selects RX7 yX7_product yX7_product ∈ zAll := zc_8 _ (List.mem_of_getElem? (i := 18) rfl)
theorem zw_219 : Cond.code yX7_product cX7_product 3 (some .int) ∈ zAll := zc_8 _ (List.mem_of_getElem? (i := 19) rfl)
theorem zw_220 : Cond.methodLink RX7 85 yX3_then ∈ zAll := zc_8 _ (List.mem_of_getElem? (i := 20) rfl)
theorem zw_221 : Cond.static yX3_then ∈ zAll := zc_8 _ (List.mem_of_getElem? (i := 21) rfl)
theorem zw_222 : Cond.code yX3_then cX3_then 7 (some .long) ∈ zAll := zc_8 _ (List.mem_of_getElem? (i := 22) rfl)
theorem zw_223 : Cond.methodLink RX3 19 yX3_with ∈ zAll := zc_8 _ (List.mem_of_getElem? (i := 23) rfl)
theorem zw_224 : Cond.static yX3_with ∈ zAll := zc_8 _ (List.mem_of_getElem? (i := 24) rfl)
theorem zw_225 : Cond.code yX3_with cX3_with 6 (some .long) ∈ zAll := zc_9 _ (List.mem_of_getElem? (i := 0) rfl)
theorem zw_226 : Cond.constantLong RX3 15 (15) ∈ zAll := zc_9 _ (List.mem_of_getElem? (i := 1) rfl)
theorem zw_227 : Cond.constantLong RX3 17 (-1) ∈ zAll := zc_9 _ (List.mem_of_getElem? (i := 2) rfl)
theorem zw_228 : Cond.methodLink RX7 73 yX7_comes ∈ zAll := zc_9 _ (List.mem_of_getElem? (i := 3) rfl)
theorem zw_229 : Cond.instanceMethod yX7_comes ∈ zAll := zc_9 _ (List.mem_of_getElem? (i := 4) rfl)
theorem zw_230 : Cond.selects RX7 yX7_comes yX7_comes ∈ zAll := zc_9 _ (List.mem_of_getElem? (i := 5) rfl)
theorem zw_231 : Cond.code yX7_comes cX7_comes 3 (some .int) ∈ zAll := zc_9 _ (List.mem_of_getElem? (i := 6) rfl)
theorem zw_232 : Cond.methodLink RX7 230 yX6_addMark ∈ zAll := zc_9 _ (List.mem_of_getElem? (i := 7) rfl)
theorem zw_233 : Cond.instanceMethod yX6_addMark ∈ zAll := zc_9 _ (List.mem_of_getElem? (i := 8) rfl)
theorem zw_234 : Cond.selects RX6 yX6_addMark yX6_addMark ∈ zAll := zc_9 _ (List.mem_of_getElem? (i := 9) rfl)
theorem zw_235 : Cond.code yX6_addMark cX6_addMark 4 (some .int) ∈ zAll := zc_9 _ (List.mem_of_getElem? (i := 10) rfl)
theorem zw_236 : Cond.methodLink RL 48 yX7_power ∈ zAll := zc_9 _ (List.mem_of_getElem? (i := 11) rfl)
theorem zw_237 : Cond.instanceMethod yX7_power ∈ zAll := zc_9 _ (List.mem_of_getElem? (i := 12) rfl)
theorem zw_238 : Cond.selects RX7 yX7_power yX7_power ∈ zAll := zc_9 _ (List.mem_of_getElem? (i := 13) rfl)
theorem zw_239 : Cond.code yX7_power cX7_power 3 (some .int) ∈ zAll := zc_9 _ (List.mem_of_getElem? (i := 14) rfl)
theorem zw_240 : Cond.methodLink RX7 94 yX3_times ∈ zAll := zc_9 _ (List.mem_of_getElem? (i := 15) rfl)
theorem zw_241 : Cond.static yX3_times ∈ zAll := zc_9 _ (List.mem_of_getElem? (i := 16) rfl)
theorem zw_242 : Cond.code yX3_times cX3_times 6 (some .long) ∈ zAll := zc_9 _ (List.mem_of_getElem? (i := 17) rfl)
theorem zw_243 : Cond.methodLink RX3 23 yX3_toAfter ∈ zAll := zc_9 _ (List.mem_of_getElem? (i := 18) rfl)
theorem zw_244 : Cond.methodLink RL 51 yX7_trick ∈ zAll := zc_9 _ (List.mem_of_getElem? (i := 19) rfl)
theorem zw_245 : Cond.instanceMethod yX7_trick ∈ zAll := zc_9 _ (List.mem_of_getElem? (i := 20) rfl)
theorem zw_246 : Cond.selects RX7 yX7_trick yX7_trick ∈ zAll := zc_9 _ (List.mem_of_getElem? (i := 21) rfl)
theorem zw_247 : Cond.code yX7_trick cX7_trick 1 (some .int) ∈ zAll := zc_9 _ (List.mem_of_getElem? (i := 22) rfl)
theorem zw_248 : Cond.methodLink RL 54 yX7_drop ∈ zAll := zc_9 _ (List.mem_of_getElem? (i := 23) rfl)
theorem zw_249 : Cond.instanceMethod yX7_drop ∈ zAll := zc_9 _ (List.mem_of_getElem? (i := 24) rfl)
theorem zw_250 : Cond.selects RX7 yX7_drop yX7_drop ∈ zAll := zc_10 _ (List.mem_of_getElem? (i := 0) rfl)
theorem zw_251 : Cond.code yX7_drop cX7_drop 2 (some .int) ∈ zAll := zc_10 _ (List.mem_of_getElem? (i := 1) rfl)
theorem zw_252 : Cond.methodLink RX7 101 yX6_removeMark ∈ zAll := zc_10 _ (List.mem_of_getElem? (i := 2) rfl)
theorem zw_253 : Cond.instanceMethod yX6_removeMark ∈ zAll := zc_10 _ (List.mem_of_getElem? (i := 3) rfl)
theorem zw_254 : Cond.selects RX6 yX6_removeMark yX6_removeMark ∈ zAll := zc_10 _ (List.mem_of_getElem? (i := 4) rfl)
theorem zw_255 : Cond.code yX6_removeMark cX6_removeMark 3 none ∈ zAll := zc_10 _ (List.mem_of_getElem? (i := 5) rfl)
theorem zw_256 : Cond.methodLink RL 57 yX7_play ∈ zAll := zc_10 _ (List.mem_of_getElem? (i := 6) rfl)
theorem zw_257 : Cond.instanceMethod yX7_play ∈ zAll := zc_10 _ (List.mem_of_getElem? (i := 7) rfl)
theorem zw_258 : Cond.selects RX7 yX7_play yX7_play ∈ zAll := zc_10 _ (List.mem_of_getElem? (i := 8) rfl)
theorem zw_259 : Cond.code yX7_play cX7_play 2 (some .int) ∈ zAll := zc_10 _ (List.mem_of_getElem? (i := 9) rfl)
theorem zw_260 : Cond.methodLink RX7 107 yX7_moveDeck ∈ zAll := zc_10 _ (List.mem_of_getElem? (i := 10) rfl)
theorem zw_261 : Cond.instanceMethod yX7_moveDeck ∈ zAll := zc_10 _ (List.mem_of_getElem? (i := 11) rfl)
theorem zw_262 : Cond.selects RX7 yX7_moveDeck yX7_moveDeck ∈ zAll := zc_10 _ (List.mem_of_getElem? (i := 12) rfl)
theorem zw_263 : Cond.code yX7_moveDeck cX7_moveDeck 3 (some .int) ∈ zAll := zc_10 _ (List.mem_of_getElem? (i := 13) rfl)
theorem zw_264 : Cond.methodLink RL 60 yX7_cut ∈ zAll := zc_10 _ (List.mem_of_getElem? (i := 14) rfl)
theorem zw_265 : Cond.instanceMethod yX7_cut ∈ zAll := zc_10 _ (List.mem_of_getElem? (i := 15) rfl)
theorem zw_266 : Cond.selects RX7 yX7_cut yX7_cut ∈ zAll := zc_10 _ (List.mem_of_getElem? (i := 16) rfl)
theorem zw_267 : Cond.code yX7_cut cX7_cut 2 (some .int) ∈ zAll := zc_10 _ (List.mem_of_getElem? (i := 17) rfl)
theorem zw_268 : Cond.methodLink RX7 113 yX5_cutBy ∈ zAll := zc_10 _ (List.mem_of_getElem? (i := 18) rfl)
theorem zw_269 : Cond.static yX5_cutBy ∈ zAll := zc_10 _ (List.mem_of_getElem? (i := 19) rfl)
theorem zw_270 : Cond.initialized RX5 ∈ zAll := zc_10 _ (List.mem_of_getElem? (i := 20) rfl)
theorem zw_271 : Cond.code yX5_cutBy cX5_cutBy 5 (some .long) ∈ zAll := zc_10 _ (List.mem_of_getElem? (i := 21) rfl)
theorem zw_272 : Cond.constantLong RX5 19 (-81985529216486896) ∈ zAll := zc_10 _ (List.mem_of_getElem? (i := 22) rfl)
theorem zw_273 : Cond.methodLink RX5 7 yX5_cutTo ∈ zAll := zc_10 _ (List.mem_of_getElem? (i := 23) rfl)
theorem zw_274 : Cond.static yX5_cutTo ∈ zAll := zc_10 _ (List.mem_of_getElem? (i := 24) rfl)
theorem zw_275 : Cond.code yX5_cutTo cX5_cutTo 3 (some .int) ∈ zAll := zc_11 _ (List.mem_of_getElem? (i := 0) rfl)
theorem zw_276 : Cond.methodLink RX5 21 yX3_with ∈ zAll := zc_11 _ (List.mem_of_getElem? (i := 1) rfl)
theorem zw_277 : Cond.methodLink RL 63 yX7_riffle ∈ zAll := zc_11 _ (List.mem_of_getElem? (i := 2) rfl)
theorem zw_278 : Cond.instanceMethod yX7_riffle ∈ zAll := zc_11 _ (List.mem_of_getElem? (i := 3) rfl)
theorem zw_279 : Cond.selects RX7 yX7_riffle yX7_riffle ∈ zAll := zc_11 _ (List.mem_of_getElem? (i := 4) rfl)
theorem zw_280 : Cond.code yX7_riffle cX7_riffle 2 (some .int) ∈ zAll := zc_11 _ (List.mem_of_getElem? (i := 5) rfl)
theorem zw_281 : Cond.methodLink RX7 119 yX5_stepBy ∈ zAll := zc_11 _ (List.mem_of_getElem? (i := 6) rfl)
theorem zw_282 : Cond.static yX5_stepBy ∈ zAll := zc_11 _ (List.mem_of_getElem? (i := 7) rfl)
theorem zw_283 : Cond.code yX5_stepBy cX5_stepBy 5 (some .long) ∈ zAll := zc_11 _ (List.mem_of_getElem? (i := 8) rfl)
theorem zw_284 : Cond.methodLink RX5 25 yX5_stepTo ∈ zAll := zc_11 _ (List.mem_of_getElem? (i := 9) rfl)
theorem zw_285 : Cond.static yX5_stepTo ∈ zAll := zc_11 _ (List.mem_of_getElem? (i := 10) rfl)
theorem zw_286 : Cond.code yX5_stepTo cX5_stepTo 3 (some .int) ∈ zAll := zc_11 _ (List.mem_of_getElem? (i := 11) rfl)
theorem zw_287 : Cond.methodLink RX5 13 yX5_riffleTo ∈ zAll := zc_11 _ (List.mem_of_getElem? (i := 12) rfl)
theorem zw_288 : Cond.static yX5_riffleTo ∈ zAll := zc_11 _ (List.mem_of_getElem? (i := 13) rfl)
theorem zw_289 : Cond.code yX5_riffleTo cX5_riffleTo 5 (some .int) ∈ zAll := zc_11 _ (List.mem_of_getElem? (i := 14) rfl)
theorem zw_290 : Cond.methodLink RL 69 yX7_turn ∈ zAll := zc_11 _ (List.mem_of_getElem? (i := 15) rfl)
theorem zw_291 : Cond.instanceMethod yX7_turn ∈ zAll := zc_11 _ (List.mem_of_getElem? (i := 16) rfl)
theorem zw_292 : Cond.selects RX7 yX7_turn yX7_turn ∈ zAll := zc_11 _ (List.mem_of_getElem? (i := 17) rfl)
theorem zw_293 : Cond.code yX7_turn cX7_turn 1 (some .int) ∈ zAll := zc_11 _ (List.mem_of_getElem? (i := 18) rfl)
theorem zw_294 : Cond.methodLink RL 108 yL_holds ∈ zAll := zc_11 _ (List.mem_of_getElem? (i := 19) rfl)
theorem zw_295 : Cond.static yL_holds ∈ zAll := zc_11 _ (List.mem_of_getElem? (i := 20) rfl)
theorem zw_296 : Cond.code yL_holds cL_holds 13 (some .boolean) ∈ zAll := zc_11 _ (List.mem_of_getElem? (i := 21) rfl)
theorem zw_297 : Cond.constant RL 85 (1065353216) ∈ zAll := zc_11 _ (List.mem_of_getElem? (i := 22) rfl)
theorem zw_298 : Cond.methodLink RL 72 yX7_of ∈ zAll := zc_11 _ (List.mem_of_getElem? (i := 23) rfl)
theorem zw_299 : Cond.instanceMethod yX7_of ∈ zAll := zc_11 _ (List.mem_of_getElem? (i := 24) rfl)
theorem zw_300 : Cond.selects RX7 yX7_of yX7_of ∈ zAll := zc_12 _ (List.mem_of_getElem? (i := 0) rfl)
theorem zw_301 : Cond.code yX7_of cX7_of 5 (some .int) ∈ zAll := zc_12 _ (List.mem_of_getElem? (i := 1) rfl)
theorem zw_302 : Cond.methodLink RX7 143 yX1_tell ∈ zAll := zc_12 _ (List.mem_of_getElem? (i := 2) rfl)
theorem zw_303 : Cond.instanceMethod yX1_tell ∈ zAll := zc_12 _ (List.mem_of_getElem? (i := 3) rfl)
theorem zw_304 : Cond.selects RX1 yX1_tell yX1_tell ∈ zAll := zc_12 _ (List.mem_of_getElem? (i := 4) rfl)
theorem zw_305 : Cond.code yX1_tell cX1_tell 9 none ∈ zAll := zc_12 _ (List.mem_of_getElem? (i := 5) rfl)
theorem zw_306 : Cond.methodLink RX1 15 yX3_cycleLength ∈ zAll := zc_12 _ (List.mem_of_getElem? (i := 6) rfl)
theorem zw_307 : Cond.methodLink RX1 21 yX3_to ∈ zAll := zc_12 _ (List.mem_of_getElem? (i := 7) rfl)
theorem zw_308 : Cond.methodLink RX1 24 yX1_add ∈ zAll := zc_12 _ (List.mem_of_getElem? (i := 8) rfl)
theorem zw_309 : Cond.instanceMethod yX1_add ∈ zAll := zc_12 _ (List.mem_of_getElem? (i := 9) rfl)
theorem zw_310 : Cond.selects RX1 yX1_add yX1_add ∈ zAll := zc_12 _ (List.mem_of_getElem? (i := 10) rfl)
theorem zw_311 : Cond.code yX1_add cX1_add 2 none ∈ zAll := zc_12 _ (List.mem_of_getElem? (i := 11) rfl)
theorem zw_312 : Cond.methodLink RX7 147 yX1_order ∈ zAll := zc_12 _ (List.mem_of_getElem? (i := 12) rfl)
theorem zw_313 : Cond.instanceMethod yX1_order ∈ zAll := zc_12 _ (List.mem_of_getElem? (i := 13) rfl)
theorem zw_314 : Cond.selects RX1 yX1_order yX1_order ∈ zAll := zc_12 _ (List.mem_of_getElem? (i := 14) rfl)
theorem zw_315 : Cond.code yX1_order cX1_order 3 (some .int) ∈ zAll := zc_12 _ (List.mem_of_getElem? (i := 15) rfl)
theorem zw_316 : Cond.methodLink RX1 28 yX1_leastMultiple ∈ zAll := zc_12 _ (List.mem_of_getElem? (i := 16) rfl)
theorem zw_317 : Cond.static yX1_leastMultiple ∈ zAll := zc_12 _ (List.mem_of_getElem? (i := 17) rfl)
theorem zw_318 : Cond.code yX1_leastMultiple cX1_leastMultiple 3 (some .int) ∈ zAll := zc_12 _ (List.mem_of_getElem? (i := 18) rfl)
theorem zw_319 : Cond.methodLink RX7 150 yX1_howMany ∈ zAll := zc_12 _ (List.mem_of_getElem? (i := 19) rfl)
theorem zw_320 : Cond.instanceMethod yX1_howMany ∈ zAll := zc_12 _ (List.mem_of_getElem? (i := 20) rfl)
theorem zw_321 : Cond.selects RX1 yX1_howMany yX1_howMany ∈ zAll := zc_12 _ (List.mem_of_getElem? (i := 21) rfl)
theorem zw_322 : Cond.code yX1_howMany cX1_howMany 3 (some .int) ∈ zAll := zc_12 _ (List.mem_of_getElem? (i := 22) rfl)
theorem zw_323 : Cond.methodLink RX7 156 yX1_longest ∈ zAll := zc_12 _ (List.mem_of_getElem? (i := 23) rfl)
theorem zw_324 : Cond.instanceMethod yX1_longest ∈ zAll := zc_12 _ (List.mem_of_getElem? (i := 24) rfl)
theorem zw_325 : Cond.selects RX1 yX1_longest yX1_longest ∈ zAll := zc_13 _ (List.mem_of_getElem? (i := 0) rfl)
theorem zw_326 : Cond.code yX1_longest cX1_longest 3 (some .int) ∈ zAll := zc_13 _ (List.mem_of_getElem? (i := 1) rfl)
theorem zw_327 : Cond.methodLink RX7 159 yX7_cutsThatStay ∈ zAll := zc_13 _ (List.mem_of_getElem? (i := 2) rfl)
theorem zw_328 : Cond.instanceMethod yX7_cutsThatStay ∈ zAll := zc_13 _ (List.mem_of_getElem? (i := 3) rfl)
theorem zw_329 : Cond.selects RX7 yX7_cutsThatStay yX7_cutsThatStay ∈ zAll := zc_13 _ (List.mem_of_getElem? (i := 4) rfl)
theorem zw_330 : Cond.code yX7_cutsThatStay cX7_cutsThatStay 5 (some .int) ∈ zAll := zc_13 _ (List.mem_of_getElem? (i := 5) rfl)
theorem zw_331 : Cond.methodLink RX7 195 yX5_becomesBy ∈ zAll := zc_13 _ (List.mem_of_getElem? (i := 6) rfl)
theorem zw_332 : Cond.static yX5_becomesBy ∈ zAll := zc_13 _ (List.mem_of_getElem? (i := 7) rfl)
theorem zw_333 : Cond.code yX5_becomesBy cX5_becomesBy 7 (some .long) ∈ zAll := zc_13 _ (List.mem_of_getElem? (i := 8) rfl)
theorem zw_334 : Cond.methodLink RX5 28 yX3_to ∈ zAll := zc_13 _ (List.mem_of_getElem? (i := 9) rfl)
theorem zw_335 : Cond.methodLink RX7 162 yX3_inverse ∈ zAll := zc_13 _ (List.mem_of_getElem? (i := 10) rfl)
theorem zw_336 : Cond.static yX3_inverse ∈ zAll := zc_13 _ (List.mem_of_getElem? (i := 11) rfl)
theorem zw_337 : Cond.code yX3_inverse cX3_inverse 5 (some .long) ∈ zAll := zc_13 _ (List.mem_of_getElem? (i := 12) rfl)
theorem zw_338 : Cond.methodLink RX7 166 yX6_lowestMark ∈ zAll := zc_13 _ (List.mem_of_getElem? (i := 13) rfl)
theorem zw_339 : Cond.instanceMethod yX6_lowestMark ∈ zAll := zc_13 _ (List.mem_of_getElem? (i := 14) rfl)
theorem zw_340 : Cond.selects RX6 yX6_lowestMark yX6_lowestMark ∈ zAll := zc_13 _ (List.mem_of_getElem? (i := 15) rfl)
theorem zw_341 : Cond.code yX6_lowestMark cX6_lowestMark 4 (some .int) ∈ zAll := zc_13 _ (List.mem_of_getElem? (i := 16) rfl)
theorem zw_342 : Cond.methodLink RL 75 yX7_byCut ∈ zAll := zc_13 _ (List.mem_of_getElem? (i := 17) rfl)
theorem zw_343 : Cond.instanceMethod yX7_byCut ∈ zAll := zc_13 _ (List.mem_of_getElem? (i := 18) rfl)
theorem zw_344 : Cond.selects RX7 yX7_byCut yX7_byCut ∈ zAll := zc_13 _ (List.mem_of_getElem? (i := 19) rfl)
theorem zw_345 : Cond.code yX7_byCut cX7_byCut 4 (some .int) ∈ zAll := zc_13 _ (List.mem_of_getElem? (i := 20) rfl)
theorem zw_346 : Cond.methodLink RX7 134 yX3_to ∈ zAll := zc_13 _ (List.mem_of_getElem? (i := 21) rfl)
theorem zw_347 : Cond.methodLink RL 78 yX7_commute ∈ zAll := zc_13 _ (List.mem_of_getElem? (i := 22) rfl)
theorem zw_348 : Cond.instanceMethod yX7_commute ∈ zAll := zc_13 _ (List.mem_of_getElem? (i := 23) rfl)
theorem zw_349 : Cond.selects RX7 yX7_commute yX7_commute ∈ zAll := zc_13 _ (List.mem_of_getElem? (i := 24) rfl)
theorem zw_350 : Cond.code yX7_commute cX7_commute 7 (some .int) ∈ zAll := zc_14 _ (List.mem_of_getElem? (i := 0) rfl)
theorem zw_351 : Cond.methodLink RL 81 yX7_commuting ∈ zAll := zc_14 _ (List.mem_of_getElem? (i := 1) rfl)
theorem zw_352 : Cond.instanceMethod yX7_commuting ∈ zAll := zc_14 _ (List.mem_of_getElem? (i := 2) rfl)
theorem zw_353 : Cond.selects RX7 yX7_commuting yX7_commuting ∈ zAll := zc_14 _ (List.mem_of_getElem? (i := 3) rfl)
theorem zw_354 : Cond.code yX7_commuting cX7_commuting 2 (some .long) ∈ zAll := zc_14 _ (List.mem_of_getElem? (i := 4) rfl)
theorem zw_355 : Cond.constantLong RX7 173 (-1) ∈ zAll := zc_14 _ (List.mem_of_getElem? (i := 5) rfl)
theorem zw_356 : Cond.methodLink RX7 175 yX1_marksThatCommute ∈ zAll := zc_14 _ (List.mem_of_getElem? (i := 6) rfl)
theorem zw_357 : Cond.instanceMethod yX1_marksThatCommute ∈ zAll := zc_14 _ (List.mem_of_getElem? (i := 7) rfl)
theorem zw_358 : Cond.selects RX1 yX1_marksThatCommute yX1_marksThatCommute ∈ zAll := zc_14 _ (List.mem_of_getElem? (i := 8) rfl)
theorem zw_359 : Cond.code yX1_marksThatCommute cX1_marksThatCommute 5 (some .long) ∈ zAll := zc_14 _ (List.mem_of_getElem? (i := 9) rfl)
theorem zw_360 : Cond.methodLink RL 112 yL_isTrick ∈ zAll := zc_14 _ (List.mem_of_getElem? (i := 10) rfl)
theorem zw_361 : Cond.static yL_isTrick ∈ zAll := zc_14 _ (List.mem_of_getElem? (i := 11) rfl)
theorem zw_362 : Cond.code yL_isTrick cL_isTrick 6 (some .boolean) ∈ zAll := zc_14 _ (List.mem_of_getElem? (i := 12) rfl)
theorem zw_363 : Cond.methodLink RL 89 yX7_where ∈ zAll := zc_14 _ (List.mem_of_getElem? (i := 13) rfl)
theorem zw_364 : Cond.instanceMethod yX7_where ∈ zAll := zc_14 _ (List.mem_of_getElem? (i := 14) rfl)
theorem zw_365 : Cond.selects RX7 yX7_where yX7_where ∈ zAll := zc_14 _ (List.mem_of_getElem? (i := 15) rfl)
theorem zw_366 : Cond.code yX7_where cX7_where 2 (some .int) ∈ zAll := zc_14 _ (List.mem_of_getElem? (i := 16) rfl)
theorem zt_1 : ∀ w ∈ tables_1_1, w ∈ lw_tbl := fun w h => List.mem_append_right _ (show w ∈ tables_1 from List.mem_append_left _ h)
theorem zt_2 : ∀ w ∈ tables_1_2, w ∈ lw_tbl := fun w h => List.mem_append_right _ (show w ∈ tables_1 from List.mem_append_right _ (h))
theorem zs_1 : ∀ q ∈ lw_privs_1, Cond.selects q.1.cls q.1 q.1 ∈ lw_tbl := fun q h => List.mem_append_left _ (List.mem_map.mpr ⟨q, show q ∈ lw_privs from h, rfl⟩)
set_option maxRecDepth 20000 in
theorem zm_0 : ∀ w ∈ zA_0, w ∈ lw_tbl := List.forall_mem_cons.mpr ⟨zt_1 _ (List.mem_of_getElem? (i := 11) rfl), List.forall_mem_cons.mpr ⟨zt_1 _ (List.mem_of_getElem? (i := 12) rfl), List.forall_mem_cons.mpr ⟨zt_1 _ (List.mem_of_getElem? (i := 1) rfl), List.forall_mem_cons.mpr ⟨zt_1 _ (List.mem_of_getElem? (i := 13) rfl), List.forall_mem_cons.mpr ⟨zt_1 _ (List.mem_of_getElem? (i := 14) rfl), List.forall_mem_cons.mpr ⟨zt_1 _ (List.mem_of_getElem? (i := 15) rfl), List.forall_mem_cons.mpr ⟨zt_1 _ (List.mem_of_getElem? (i := 16) rfl), List.forall_mem_cons.mpr ⟨zt_1 _ (List.mem_of_getElem? (i := 17) rfl), List.forall_mem_cons.mpr ⟨zt_1 _ (List.mem_of_getElem? (i := 18) rfl), List.forall_mem_cons.mpr ⟨zt_1 _ (List.mem_of_getElem? (i := 19) rfl), List.forall_mem_cons.mpr ⟨zt_1 _ (List.mem_of_getElem? (i := 20) rfl), List.forall_mem_cons.mpr ⟨zt_1 _ (List.mem_of_getElem? (i := 2) rfl), List.forall_mem_cons.mpr ⟨zt_1 _ (List.mem_of_getElem? (i := 107) rfl), List.forall_mem_cons.mpr ⟨zt_1 _ (List.mem_of_getElem? (i := 47) rfl), List.forall_mem_cons.mpr ⟨zt_1 _ (List.mem_of_getElem? (i := 48) rfl), List.forall_mem_cons.mpr ⟨zt_1 _ (List.mem_of_getElem? (i := 3) rfl), List.forall_mem_cons.mpr ⟨zt_1 _ (List.mem_of_getElem? (i := 108) rfl), List.forall_mem_cons.mpr ⟨zt_1 _ (List.mem_of_getElem? (i := 109) rfl), List.forall_mem_cons.mpr ⟨zt_1 _ (List.mem_of_getElem? (i := 64) rfl), List.forall_mem_cons.mpr ⟨zt_1 _ (List.mem_of_getElem? (i := 65) rfl), List.forall_mem_cons.mpr ⟨zt_1 _ (List.mem_of_getElem? (i := 4) rfl), List.forall_mem_cons.mpr ⟨zt_1 _ (List.mem_of_getElem? (i := 110) rfl), List.forall_mem_cons.mpr ⟨zt_1 _ (List.mem_of_getElem? (i := 75) rfl), List.forall_mem_cons.mpr ⟨zt_1 _ (List.mem_of_getElem? (i := 76) rfl), List.forall_mem_cons.mpr ⟨zt_1 _ (List.mem_of_getElem? (i := 5) rfl), fun _ h => absurd h List.not_mem_nil⟩⟩⟩⟩⟩⟩⟩⟩⟩⟩⟩⟩⟩⟩⟩⟩⟩⟩⟩⟩⟩⟩⟩⟩⟩
set_option maxRecDepth 20000 in
theorem zm_1 : ∀ w ∈ zA_1, w ∈ lw_tbl := List.forall_mem_cons.mpr ⟨zt_1 _ (List.mem_of_getElem? (i := 111) rfl), List.forall_mem_cons.mpr ⟨zt_1 _ (List.mem_of_getElem? (i := 135) rfl), List.forall_mem_cons.mpr ⟨zt_1 _ (List.mem_of_getElem? (i := 112) rfl), List.forall_mem_cons.mpr ⟨zt_1 _ (List.mem_of_getElem? (i := 113) rfl), List.forall_mem_cons.mpr ⟨zt_1 _ (List.mem_of_getElem? (i := 114) rfl), List.forall_mem_cons.mpr ⟨zt_1 _ (List.mem_of_getElem? (i := 115) rfl), List.forall_mem_cons.mpr ⟨zt_1 _ (List.mem_of_getElem? (i := 22) rfl), List.forall_mem_cons.mpr ⟨zt_1 _ (List.mem_of_getElem? (i := 23) rfl), List.forall_mem_cons.mpr ⟨zt_1 _ (List.mem_of_getElem? (i := 24) rfl), List.forall_mem_cons.mpr ⟨zt_1 _ (List.mem_of_getElem? (i := 26) rfl), List.forall_mem_cons.mpr ⟨zt_1 _ (List.mem_of_getElem? (i := 25) rfl), List.forall_mem_cons.mpr ⟨zt_1 _ (List.mem_of_getElem? (i := 28) rfl), List.forall_mem_cons.mpr ⟨zt_1 _ (List.mem_of_getElem? (i := 30) rfl), List.forall_mem_cons.mpr ⟨zt_1 _ (List.mem_of_getElem? (i := 32) rfl), List.forall_mem_cons.mpr ⟨zt_1 _ (List.mem_of_getElem? (i := 46) rfl), List.forall_mem_cons.mpr ⟨zt_1 _ (List.mem_of_getElem? (i := 34) rfl), List.forall_mem_cons.mpr ⟨zt_1 _ (List.mem_of_getElem? (i := 49) rfl), List.forall_mem_cons.mpr ⟨zt_1 _ (List.mem_of_getElem? (i := 50) rfl), List.forall_mem_cons.mpr ⟨zt_1 _ (List.mem_of_getElem? (i := 51) rfl), List.forall_mem_cons.mpr ⟨zt_1 _ (List.mem_of_getElem? (i := 52) rfl), List.forall_mem_cons.mpr ⟨zt_1 _ (List.mem_of_getElem? (i := 53) rfl), List.forall_mem_cons.mpr ⟨zt_1 _ (List.mem_of_getElem? (i := 56) rfl), List.forall_mem_cons.mpr ⟨zt_1 _ (List.mem_of_getElem? (i := 63) rfl), List.forall_mem_cons.mpr ⟨zt_1 _ (List.mem_of_getElem? (i := 57) rfl), List.forall_mem_cons.mpr ⟨zt_1 _ (List.mem_of_getElem? (i := 67) rfl), fun _ h => absurd h List.not_mem_nil⟩⟩⟩⟩⟩⟩⟩⟩⟩⟩⟩⟩⟩⟩⟩⟩⟩⟩⟩⟩⟩⟩⟩⟩⟩
set_option maxRecDepth 20000 in
theorem zm_2 : ∀ w ∈ zA_2, w ∈ lw_tbl := List.forall_mem_cons.mpr ⟨zt_1 _ (List.mem_of_getElem? (i := 68) rfl), List.forall_mem_cons.mpr ⟨zt_1 _ (List.mem_of_getElem? (i := 69) rfl), List.forall_mem_cons.mpr ⟨zt_1 _ (List.mem_of_getElem? (i := 74) rfl), List.forall_mem_cons.mpr ⟨zt_1 _ (List.mem_of_getElem? (i := 70) rfl), List.forall_mem_cons.mpr ⟨zt_1 _ (List.mem_of_getElem? (i := 78) rfl), List.forall_mem_cons.mpr ⟨zt_1 _ (List.mem_of_getElem? (i := 79) rfl), List.forall_mem_cons.mpr ⟨zt_1 _ (List.mem_of_getElem? (i := 80) rfl), List.forall_mem_cons.mpr ⟨zt_1 _ (List.mem_of_getElem? (i := 82) rfl), List.forall_mem_cons.mpr ⟨zt_1 _ (List.mem_of_getElem? (i := 83) rfl), List.forall_mem_cons.mpr ⟨zt_1 _ (List.mem_of_getElem? (i := 81) rfl), List.forall_mem_cons.mpr ⟨zt_1 _ (List.mem_of_getElem? (i := 84) rfl), List.forall_mem_cons.mpr ⟨zt_1 _ (List.mem_of_getElem? (i := 85) rfl), List.forall_mem_cons.mpr ⟨zt_1 _ (List.mem_of_getElem? (i := 86) rfl), List.forall_mem_cons.mpr ⟨zt_1 _ (List.mem_of_getElem? (i := 87) rfl), List.forall_mem_cons.mpr ⟨zt_1 _ (List.mem_of_getElem? (i := 88) rfl), List.forall_mem_cons.mpr ⟨zt_1 _ (List.mem_of_getElem? (i := 89) rfl), List.forall_mem_cons.mpr ⟨zt_1 _ (List.mem_of_getElem? (i := 157) rfl), List.forall_mem_cons.mpr ⟨zt_1 _ (List.mem_of_getElem? (i := 158) rfl), List.forall_mem_cons.mpr ⟨zt_1 _ (List.mem_of_getElem? (i := 159) rfl), List.forall_mem_cons.mpr ⟨zt_1 _ (List.mem_of_getElem? (i := 160) rfl), List.forall_mem_cons.mpr ⟨zt_1 _ (List.mem_of_getElem? (i := 161) rfl), List.forall_mem_cons.mpr ⟨zt_1 _ (List.mem_of_getElem? (i := 162) rfl), List.forall_mem_cons.mpr ⟨zt_1 _ (List.mem_of_getElem? (i := 163) rfl), List.forall_mem_cons.mpr ⟨zt_1 _ (List.mem_of_getElem? (i := 164) rfl), List.forall_mem_cons.mpr ⟨zt_1 _ (List.mem_of_getElem? (i := 165) rfl), fun _ h => absurd h List.not_mem_nil⟩⟩⟩⟩⟩⟩⟩⟩⟩⟩⟩⟩⟩⟩⟩⟩⟩⟩⟩⟩⟩⟩⟩⟩⟩
set_option maxRecDepth 20000 in
theorem zm_3 : ∀ w ∈ zA_3, w ∈ lw_tbl := List.forall_mem_cons.mpr ⟨zt_1 _ (List.mem_of_getElem? (i := 166) rfl), List.forall_mem_cons.mpr ⟨zt_1 _ (List.mem_of_getElem? (i := 167) rfl), List.forall_mem_cons.mpr ⟨zt_1 _ (List.mem_of_getElem? (i := 168) rfl), List.forall_mem_cons.mpr ⟨zt_1 _ (List.mem_of_getElem? (i := 169) rfl), List.forall_mem_cons.mpr ⟨zt_1 _ (List.mem_of_getElem? (i := 170) rfl), List.forall_mem_cons.mpr ⟨zt_1 _ (List.mem_of_getElem? (i := 171) rfl), List.forall_mem_cons.mpr ⟨zt_1 _ (List.mem_of_getElem? (i := 172) rfl), List.forall_mem_cons.mpr ⟨zt_1 _ (List.mem_of_getElem? (i := 182) rfl), List.forall_mem_cons.mpr ⟨zt_1 _ (List.mem_of_getElem? (i := 183) rfl), List.forall_mem_cons.mpr ⟨zt_1 _ (List.mem_of_getElem? (i := 184) rfl), List.forall_mem_cons.mpr ⟨zt_1 _ (List.mem_of_getElem? (i := 185) rfl), List.forall_mem_cons.mpr ⟨zt_1 _ (List.mem_of_getElem? (i := 177) rfl), List.forall_mem_cons.mpr ⟨zt_1 _ (List.mem_of_getElem? (i := 186) rfl), List.forall_mem_cons.mpr ⟨zt_1 _ (List.mem_of_getElem? (i := 187) rfl), List.forall_mem_cons.mpr ⟨zt_1 _ (List.mem_of_getElem? (i := 188) rfl), List.forall_mem_cons.mpr ⟨zt_1 _ (List.mem_of_getElem? (i := 189) rfl), List.forall_mem_cons.mpr ⟨zt_1 _ (List.mem_of_getElem? (i := 190) rfl), List.forall_mem_cons.mpr ⟨zt_1 _ (List.mem_of_getElem? (i := 192) rfl), List.forall_mem_cons.mpr ⟨zs_1 _ (List.mem_of_getElem? (i := 1) rfl), List.forall_mem_cons.mpr ⟨zt_1 _ (List.mem_of_getElem? (i := 193) rfl), List.forall_mem_cons.mpr ⟨zt_1 _ (List.mem_of_getElem? (i := 178) rfl), List.forall_mem_cons.mpr ⟨zt_1 _ (List.mem_of_getElem? (i := 179) rfl), List.forall_mem_cons.mpr ⟨zt_1 _ (List.mem_of_getElem? (i := 180) rfl), List.forall_mem_cons.mpr ⟨zt_1 _ (List.mem_of_getElem? (i := 181) rfl), List.forall_mem_cons.mpr ⟨zt_1 _ (List.mem_of_getElem? (i := 173) rfl), fun _ h => absurd h List.not_mem_nil⟩⟩⟩⟩⟩⟩⟩⟩⟩⟩⟩⟩⟩⟩⟩⟩⟩⟩⟩⟩⟩⟩⟩⟩⟩
set_option maxRecDepth 20000 in
theorem zm_4 : ∀ w ∈ zA_4, w ∈ lw_tbl := List.forall_mem_cons.mpr ⟨zt_1 _ (List.mem_of_getElem? (i := 174) rfl), List.forall_mem_cons.mpr ⟨zt_1 _ (List.mem_of_getElem? (i := 175) rfl), List.forall_mem_cons.mpr ⟨zt_1 _ (List.mem_of_getElem? (i := 176) rfl), List.forall_mem_cons.mpr ⟨zt_1 _ (List.mem_of_getElem? (i := 194) rfl), List.forall_mem_cons.mpr ⟨zt_1 _ (List.mem_of_getElem? (i := 195) rfl), List.forall_mem_cons.mpr ⟨zt_1 _ (List.mem_of_getElem? (i := 0) rfl), List.forall_mem_cons.mpr ⟨zt_1 _ (List.mem_of_getElem? (i := 196) rfl), List.forall_mem_cons.mpr ⟨zt_1 _ (List.mem_of_getElem? (i := 197) rfl), List.forall_mem_cons.mpr ⟨zt_1 _ (List.mem_of_getElem? (i := 198) rfl), List.forall_mem_cons.mpr ⟨zt_1 _ (List.mem_of_getElem? (i := 199) rfl), List.forall_mem_cons.mpr ⟨zt_1 _ (List.mem_of_getElem? (i := 200) rfl), List.forall_mem_cons.mpr ⟨zt_1 _ (List.mem_of_getElem? (i := 201) rfl), List.forall_mem_cons.mpr ⟨zt_1 _ (List.mem_of_getElem? (i := 136) rfl), List.forall_mem_cons.mpr ⟨zt_1 _ (List.mem_of_getElem? (i := 137) rfl), List.forall_mem_cons.mpr ⟨zt_1 _ (List.mem_of_getElem? (i := 138) rfl), List.forall_mem_cons.mpr ⟨zt_1 _ (List.mem_of_getElem? (i := 139) rfl), List.forall_mem_cons.mpr ⟨zt_1 _ (List.mem_of_getElem? (i := 146) rfl), List.forall_mem_cons.mpr ⟨zt_1 _ (List.mem_of_getElem? (i := 140) rfl), List.forall_mem_cons.mpr ⟨zt_1 _ (List.mem_of_getElem? (i := 141) rfl), List.forall_mem_cons.mpr ⟨zt_1 _ (List.mem_of_getElem? (i := 6) rfl), List.forall_mem_cons.mpr ⟨zt_1 _ (List.mem_of_getElem? (i := 142) rfl), List.forall_mem_cons.mpr ⟨zt_1 _ (List.mem_of_getElem? (i := 143) rfl), List.forall_mem_cons.mpr ⟨zt_1 _ (List.mem_of_getElem? (i := 144) rfl), List.forall_mem_cons.mpr ⟨zt_1 _ (List.mem_of_getElem? (i := 145) rfl), List.forall_mem_cons.mpr ⟨zt_1 _ (List.mem_of_getElem? (i := 147) rfl), fun _ h => absurd h List.not_mem_nil⟩⟩⟩⟩⟩⟩⟩⟩⟩⟩⟩⟩⟩⟩⟩⟩⟩⟩⟩⟩⟩⟩⟩⟩⟩
set_option maxRecDepth 20000 in
theorem zm_5 : ∀ w ∈ zA_5, w ∈ lw_tbl := List.forall_mem_cons.mpr ⟨zt_1 _ (List.mem_of_getElem? (i := 149) rfl), List.forall_mem_cons.mpr ⟨zs_1 _ (List.mem_of_getElem? (i := 0) rfl), List.forall_mem_cons.mpr ⟨zt_1 _ (List.mem_of_getElem? (i := 150) rfl), List.forall_mem_cons.mpr ⟨zt_1 _ (List.mem_of_getElem? (i := 151) rfl), List.forall_mem_cons.mpr ⟨zt_1 _ (List.mem_of_getElem? (i := 152) rfl), List.forall_mem_cons.mpr ⟨zt_1 _ (List.mem_of_getElem? (i := 7) rfl), List.forall_mem_cons.mpr ⟨zt_1 _ (List.mem_of_getElem? (i := 153) rfl), List.forall_mem_cons.mpr ⟨zt_1 _ (List.mem_of_getElem? (i := 154) rfl), List.forall_mem_cons.mpr ⟨zt_1 _ (List.mem_of_getElem? (i := 155) rfl), List.forall_mem_cons.mpr ⟨zt_1 _ (List.mem_of_getElem? (i := 156) rfl), List.forall_mem_cons.mpr ⟨zt_1 _ (List.mem_of_getElem? (i := 202) rfl), List.forall_mem_cons.mpr ⟨zt_1 _ (List.mem_of_getElem? (i := 203) rfl), List.forall_mem_cons.mpr ⟨zt_1 _ (List.mem_of_getElem? (i := 204) rfl), List.forall_mem_cons.mpr ⟨zt_1 _ (List.mem_of_getElem? (i := 205) rfl), List.forall_mem_cons.mpr ⟨zt_1 _ (List.mem_of_getElem? (i := 206) rfl), List.forall_mem_cons.mpr ⟨zt_1 _ (List.mem_of_getElem? (i := 207) rfl), List.forall_mem_cons.mpr ⟨zt_1 _ (List.mem_of_getElem? (i := 208) rfl), List.forall_mem_cons.mpr ⟨zt_1 _ (List.mem_of_getElem? (i := 209) rfl), List.forall_mem_cons.mpr ⟨zt_1 _ (List.mem_of_getElem? (i := 210) rfl), List.forall_mem_cons.mpr ⟨zt_1 _ (List.mem_of_getElem? (i := 211) rfl), List.forall_mem_cons.mpr ⟨zt_1 _ (List.mem_of_getElem? (i := 212) rfl), List.forall_mem_cons.mpr ⟨zt_1 _ (List.mem_of_getElem? (i := 213) rfl), List.forall_mem_cons.mpr ⟨zt_1 _ (List.mem_of_getElem? (i := 214) rfl), List.forall_mem_cons.mpr ⟨zt_1 _ (List.mem_of_getElem? (i := 215) rfl), List.forall_mem_cons.mpr ⟨zt_1 _ (List.mem_of_getElem? (i := 216) rfl), fun _ h => absurd h List.not_mem_nil⟩⟩⟩⟩⟩⟩⟩⟩⟩⟩⟩⟩⟩⟩⟩⟩⟩⟩⟩⟩⟩⟩⟩⟩⟩
set_option maxRecDepth 20000 in
theorem zm_6 : ∀ w ∈ zA_6, w ∈ lw_tbl := List.forall_mem_cons.mpr ⟨zt_1 _ (List.mem_of_getElem? (i := 217) rfl), List.forall_mem_cons.mpr ⟨zt_1 _ (List.mem_of_getElem? (i := 219) rfl), List.forall_mem_cons.mpr ⟨zs_1 _ (List.mem_of_getElem? (i := 2) rfl), List.forall_mem_cons.mpr ⟨zt_1 _ (List.mem_of_getElem? (i := 220) rfl), List.forall_mem_cons.mpr ⟨zt_1 _ (List.mem_of_getElem? (i := 221) rfl), List.forall_mem_cons.mpr ⟨zt_1 _ (List.mem_of_getElem? (i := 222) rfl), List.forall_mem_cons.mpr ⟨zt_1 _ (List.mem_of_getElem? (i := 223) rfl), List.forall_mem_cons.mpr ⟨zt_1 _ (List.mem_of_getElem? (i := 224) rfl), List.forall_mem_cons.mpr ⟨zt_1 _ (List.mem_of_getElem? (i := 225) rfl), List.forall_mem_cons.mpr ⟨zt_1 _ (List.mem_of_getElem? (i := 226) rfl), List.forall_mem_cons.mpr ⟨zt_1 _ (List.mem_of_getElem? (i := 227) rfl), List.forall_mem_cons.mpr ⟨zt_1 _ (List.mem_of_getElem? (i := 228) rfl), List.forall_mem_cons.mpr ⟨zt_1 _ (List.mem_of_getElem? (i := 230) rfl), List.forall_mem_cons.mpr ⟨zs_1 _ (List.mem_of_getElem? (i := 3) rfl), List.forall_mem_cons.mpr ⟨zt_1 _ (List.mem_of_getElem? (i := 231) rfl), List.forall_mem_cons.mpr ⟨zt_1 _ (List.mem_of_getElem? (i := 232) rfl), List.forall_mem_cons.mpr ⟨zt_1 _ (List.mem_of_getElem? (i := 233) rfl), List.forall_mem_cons.mpr ⟨zt_1 _ (List.mem_of_getElem? (i := 234) rfl), List.forall_mem_cons.mpr ⟨zt_1 _ (List.mem_of_getElem? (i := 235) rfl), List.forall_mem_cons.mpr ⟨zt_1 _ (List.mem_of_getElem? (i := 236) rfl), List.forall_mem_cons.mpr ⟨zt_1 _ (List.mem_of_getElem? (i := 237) rfl), List.forall_mem_cons.mpr ⟨zt_1 _ (List.mem_of_getElem? (i := 238) rfl), List.forall_mem_cons.mpr ⟨zt_1 _ (List.mem_of_getElem? (i := 239) rfl), List.forall_mem_cons.mpr ⟨zt_2 _ (List.mem_of_getElem? (i := 0) rfl), List.forall_mem_cons.mpr ⟨zt_2 _ (List.mem_of_getElem? (i := 1) rfl), fun _ h => absurd h List.not_mem_nil⟩⟩⟩⟩⟩⟩⟩⟩⟩⟩⟩⟩⟩⟩⟩⟩⟩⟩⟩⟩⟩⟩⟩⟩⟩
set_option maxRecDepth 20000 in
theorem zm_7 : ∀ w ∈ zA_7, w ∈ lw_tbl := List.forall_mem_cons.mpr ⟨zt_2 _ (List.mem_of_getElem? (i := 2) rfl), List.forall_mem_cons.mpr ⟨zt_2 _ (List.mem_of_getElem? (i := 3) rfl), List.forall_mem_cons.mpr ⟨zt_1 _ (List.mem_of_getElem? (i := 8) rfl), List.forall_mem_cons.mpr ⟨zt_2 _ (List.mem_of_getElem? (i := 4) rfl), List.forall_mem_cons.mpr ⟨zt_2 _ (List.mem_of_getElem? (i := 5) rfl), List.forall_mem_cons.mpr ⟨zt_2 _ (List.mem_of_getElem? (i := 6) rfl), List.forall_mem_cons.mpr ⟨zt_2 _ (List.mem_of_getElem? (i := 7) rfl), List.forall_mem_cons.mpr ⟨zt_2 _ (List.mem_of_getElem? (i := 8) rfl), List.forall_mem_cons.mpr ⟨zt_2 _ (List.mem_of_getElem? (i := 9) rfl), List.forall_mem_cons.mpr ⟨zt_2 _ (List.mem_of_getElem? (i := 10) rfl), List.forall_mem_cons.mpr ⟨zt_1 _ (List.mem_of_getElem? (i := 9) rfl), List.forall_mem_cons.mpr ⟨zt_2 _ (List.mem_of_getElem? (i := 11) rfl), List.forall_mem_cons.mpr ⟨zt_2 _ (List.mem_of_getElem? (i := 12) rfl), List.forall_mem_cons.mpr ⟨zt_2 _ (List.mem_of_getElem? (i := 13) rfl), List.forall_mem_cons.mpr ⟨zt_2 _ (List.mem_of_getElem? (i := 14) rfl), List.forall_mem_cons.mpr ⟨zt_2 _ (List.mem_of_getElem? (i := 15) rfl), List.forall_mem_cons.mpr ⟨zt_2 _ (List.mem_of_getElem? (i := 16) rfl), List.forall_mem_cons.mpr ⟨zt_2 _ (List.mem_of_getElem? (i := 17) rfl), List.forall_mem_cons.mpr ⟨zt_2 _ (List.mem_of_getElem? (i := 18) rfl), List.forall_mem_cons.mpr ⟨zt_2 _ (List.mem_of_getElem? (i := 19) rfl), List.forall_mem_cons.mpr ⟨zt_2 _ (List.mem_of_getElem? (i := 20) rfl), List.forall_mem_cons.mpr ⟨zt_2 _ (List.mem_of_getElem? (i := 21) rfl), List.forall_mem_cons.mpr ⟨zt_2 _ (List.mem_of_getElem? (i := 22) rfl), List.forall_mem_cons.mpr ⟨zt_2 _ (List.mem_of_getElem? (i := 23) rfl), List.forall_mem_cons.mpr ⟨zt_2 _ (List.mem_of_getElem? (i := 24) rfl), fun _ h => absurd h List.not_mem_nil⟩⟩⟩⟩⟩⟩⟩⟩⟩⟩⟩⟩⟩⟩⟩⟩⟩⟩⟩⟩⟩⟩⟩⟩⟩
set_option maxRecDepth 20000 in
theorem zm_8 : ∀ w ∈ zA_8, w ∈ lw_tbl := List.forall_mem_cons.mpr ⟨zt_2 _ (List.mem_of_getElem? (i := 25) rfl), List.forall_mem_cons.mpr ⟨zt_2 _ (List.mem_of_getElem? (i := 26) rfl), List.forall_mem_cons.mpr ⟨zt_2 _ (List.mem_of_getElem? (i := 27) rfl), List.forall_mem_cons.mpr ⟨zt_2 _ (List.mem_of_getElem? (i := 28) rfl), List.forall_mem_cons.mpr ⟨zt_2 _ (List.mem_of_getElem? (i := 29) rfl), List.forall_mem_cons.mpr ⟨zt_2 _ (List.mem_of_getElem? (i := 30) rfl), List.forall_mem_cons.mpr ⟨zt_2 _ (List.mem_of_getElem? (i := 31) rfl), List.forall_mem_cons.mpr ⟨zt_2 _ (List.mem_of_getElem? (i := 32) rfl), List.forall_mem_cons.mpr ⟨zt_2 _ (List.mem_of_getElem? (i := 33) rfl), List.forall_mem_cons.mpr ⟨zt_2 _ (List.mem_of_getElem? (i := 34) rfl), List.forall_mem_cons.mpr ⟨zt_2 _ (List.mem_of_getElem? (i := 35) rfl), List.forall_mem_cons.mpr ⟨zt_2 _ (List.mem_of_getElem? (i := 36) rfl), List.forall_mem_cons.mpr ⟨zt_2 _ (List.mem_of_getElem? (i := 37) rfl), List.forall_mem_cons.mpr ⟨zt_2 _ (List.mem_of_getElem? (i := 38) rfl), List.forall_mem_cons.mpr ⟨zt_2 _ (List.mem_of_getElem? (i := 39) rfl), List.forall_mem_cons.mpr ⟨zt_2 _ (List.mem_of_getElem? (i := 40) rfl), List.forall_mem_cons.mpr ⟨zt_2 _ (List.mem_of_getElem? (i := 41) rfl), List.forall_mem_cons.mpr ⟨zt_2 _ (List.mem_of_getElem? (i := 42) rfl), List.forall_mem_cons.mpr ⟨zt_2 _ (List.mem_of_getElem? (i := 43) rfl), List.forall_mem_cons.mpr ⟨zt_2 _ (List.mem_of_getElem? (i := 44) rfl), List.forall_mem_cons.mpr ⟨zt_2 _ (List.mem_of_getElem? (i := 45) rfl), List.forall_mem_cons.mpr ⟨zt_2 _ (List.mem_of_getElem? (i := 46) rfl), List.forall_mem_cons.mpr ⟨zt_2 _ (List.mem_of_getElem? (i := 47) rfl), List.forall_mem_cons.mpr ⟨zt_2 _ (List.mem_of_getElem? (i := 48) rfl), List.forall_mem_cons.mpr ⟨zt_2 _ (List.mem_of_getElem? (i := 49) rfl), fun _ h => absurd h List.not_mem_nil⟩⟩⟩⟩⟩⟩⟩⟩⟩⟩⟩⟩⟩⟩⟩⟩⟩⟩⟩⟩⟩⟩⟩⟩⟩
set_option maxRecDepth 20000 in
theorem zm_9 : ∀ w ∈ zA_9, w ∈ lw_tbl := List.forall_mem_cons.mpr ⟨zt_2 _ (List.mem_of_getElem? (i := 50) rfl), List.forall_mem_cons.mpr ⟨zt_2 _ (List.mem_of_getElem? (i := 51) rfl), List.forall_mem_cons.mpr ⟨zt_2 _ (List.mem_of_getElem? (i := 52) rfl), List.forall_mem_cons.mpr ⟨zt_2 _ (List.mem_of_getElem? (i := 53) rfl), List.forall_mem_cons.mpr ⟨zt_2 _ (List.mem_of_getElem? (i := 55) rfl), List.forall_mem_cons.mpr ⟨zs_1 _ (List.mem_of_getElem? (i := 4) rfl), List.forall_mem_cons.mpr ⟨zt_2 _ (List.mem_of_getElem? (i := 56) rfl), List.forall_mem_cons.mpr ⟨zt_2 _ (List.mem_of_getElem? (i := 57) rfl), List.forall_mem_cons.mpr ⟨zt_2 _ (List.mem_of_getElem? (i := 58) rfl), List.forall_mem_cons.mpr ⟨zt_2 _ (List.mem_of_getElem? (i := 59) rfl), List.forall_mem_cons.mpr ⟨zt_2 _ (List.mem_of_getElem? (i := 60) rfl), List.forall_mem_cons.mpr ⟨zt_2 _ (List.mem_of_getElem? (i := 61) rfl), List.forall_mem_cons.mpr ⟨zt_2 _ (List.mem_of_getElem? (i := 62) rfl), List.forall_mem_cons.mpr ⟨zt_2 _ (List.mem_of_getElem? (i := 63) rfl), List.forall_mem_cons.mpr ⟨zt_2 _ (List.mem_of_getElem? (i := 64) rfl), List.forall_mem_cons.mpr ⟨zt_2 _ (List.mem_of_getElem? (i := 65) rfl), List.forall_mem_cons.mpr ⟨zt_2 _ (List.mem_of_getElem? (i := 66) rfl), List.forall_mem_cons.mpr ⟨zt_2 _ (List.mem_of_getElem? (i := 67) rfl), List.forall_mem_cons.mpr ⟨zt_2 _ (List.mem_of_getElem? (i := 68) rfl), List.forall_mem_cons.mpr ⟨zt_2 _ (List.mem_of_getElem? (i := 69) rfl), List.forall_mem_cons.mpr ⟨zt_2 _ (List.mem_of_getElem? (i := 70) rfl), List.forall_mem_cons.mpr ⟨zt_2 _ (List.mem_of_getElem? (i := 71) rfl), List.forall_mem_cons.mpr ⟨zt_2 _ (List.mem_of_getElem? (i := 72) rfl), List.forall_mem_cons.mpr ⟨zt_2 _ (List.mem_of_getElem? (i := 73) rfl), List.forall_mem_cons.mpr ⟨zt_2 _ (List.mem_of_getElem? (i := 74) rfl), fun _ h => absurd h List.not_mem_nil⟩⟩⟩⟩⟩⟩⟩⟩⟩⟩⟩⟩⟩⟩⟩⟩⟩⟩⟩⟩⟩⟩⟩⟩⟩
set_option maxRecDepth 20000 in
theorem zm_10 : ∀ w ∈ zA_10, w ∈ lw_tbl := List.forall_mem_cons.mpr ⟨zt_2 _ (List.mem_of_getElem? (i := 75) rfl), List.forall_mem_cons.mpr ⟨zt_2 _ (List.mem_of_getElem? (i := 76) rfl), List.forall_mem_cons.mpr ⟨zt_2 _ (List.mem_of_getElem? (i := 77) rfl), List.forall_mem_cons.mpr ⟨zt_2 _ (List.mem_of_getElem? (i := 78) rfl), List.forall_mem_cons.mpr ⟨zt_2 _ (List.mem_of_getElem? (i := 79) rfl), List.forall_mem_cons.mpr ⟨zt_2 _ (List.mem_of_getElem? (i := 80) rfl), List.forall_mem_cons.mpr ⟨zt_2 _ (List.mem_of_getElem? (i := 81) rfl), List.forall_mem_cons.mpr ⟨zt_2 _ (List.mem_of_getElem? (i := 82) rfl), List.forall_mem_cons.mpr ⟨zt_2 _ (List.mem_of_getElem? (i := 83) rfl), List.forall_mem_cons.mpr ⟨zt_2 _ (List.mem_of_getElem? (i := 84) rfl), List.forall_mem_cons.mpr ⟨zt_2 _ (List.mem_of_getElem? (i := 85) rfl), List.forall_mem_cons.mpr ⟨zt_2 _ (List.mem_of_getElem? (i := 87) rfl), List.forall_mem_cons.mpr ⟨zs_1 _ (List.mem_of_getElem? (i := 5) rfl), List.forall_mem_cons.mpr ⟨zt_2 _ (List.mem_of_getElem? (i := 88) rfl), List.forall_mem_cons.mpr ⟨zt_2 _ (List.mem_of_getElem? (i := 89) rfl), List.forall_mem_cons.mpr ⟨zt_2 _ (List.mem_of_getElem? (i := 90) rfl), List.forall_mem_cons.mpr ⟨zt_2 _ (List.mem_of_getElem? (i := 91) rfl), List.forall_mem_cons.mpr ⟨zt_2 _ (List.mem_of_getElem? (i := 92) rfl), List.forall_mem_cons.mpr ⟨zt_2 _ (List.mem_of_getElem? (i := 93) rfl), List.forall_mem_cons.mpr ⟨zt_2 _ (List.mem_of_getElem? (i := 94) rfl), List.forall_mem_cons.mpr ⟨zt_1 _ (List.mem_of_getElem? (i := 10) rfl), List.forall_mem_cons.mpr ⟨zt_2 _ (List.mem_of_getElem? (i := 95) rfl), List.forall_mem_cons.mpr ⟨zt_2 _ (List.mem_of_getElem? (i := 96) rfl), List.forall_mem_cons.mpr ⟨zt_2 _ (List.mem_of_getElem? (i := 97) rfl), List.forall_mem_cons.mpr ⟨zt_2 _ (List.mem_of_getElem? (i := 98) rfl), fun _ h => absurd h List.not_mem_nil⟩⟩⟩⟩⟩⟩⟩⟩⟩⟩⟩⟩⟩⟩⟩⟩⟩⟩⟩⟩⟩⟩⟩⟩⟩
set_option maxRecDepth 20000 in
theorem zm_11 : ∀ w ∈ zA_11, w ∈ lw_tbl := List.forall_mem_cons.mpr ⟨zt_2 _ (List.mem_of_getElem? (i := 99) rfl), List.forall_mem_cons.mpr ⟨zt_2 _ (List.mem_of_getElem? (i := 100) rfl), List.forall_mem_cons.mpr ⟨zt_2 _ (List.mem_of_getElem? (i := 101) rfl), List.forall_mem_cons.mpr ⟨zt_2 _ (List.mem_of_getElem? (i := 102) rfl), List.forall_mem_cons.mpr ⟨zt_2 _ (List.mem_of_getElem? (i := 103) rfl), List.forall_mem_cons.mpr ⟨zt_2 _ (List.mem_of_getElem? (i := 104) rfl), List.forall_mem_cons.mpr ⟨zt_2 _ (List.mem_of_getElem? (i := 105) rfl), List.forall_mem_cons.mpr ⟨zt_2 _ (List.mem_of_getElem? (i := 106) rfl), List.forall_mem_cons.mpr ⟨zt_2 _ (List.mem_of_getElem? (i := 107) rfl), List.forall_mem_cons.mpr ⟨zt_2 _ (List.mem_of_getElem? (i := 108) rfl), List.forall_mem_cons.mpr ⟨zt_2 _ (List.mem_of_getElem? (i := 109) rfl), List.forall_mem_cons.mpr ⟨zt_2 _ (List.mem_of_getElem? (i := 110) rfl), List.forall_mem_cons.mpr ⟨zt_2 _ (List.mem_of_getElem? (i := 111) rfl), List.forall_mem_cons.mpr ⟨zt_2 _ (List.mem_of_getElem? (i := 112) rfl), List.forall_mem_cons.mpr ⟨zt_2 _ (List.mem_of_getElem? (i := 113) rfl), List.forall_mem_cons.mpr ⟨zt_2 _ (List.mem_of_getElem? (i := 114) rfl), List.forall_mem_cons.mpr ⟨zt_2 _ (List.mem_of_getElem? (i := 115) rfl), List.forall_mem_cons.mpr ⟨zt_2 _ (List.mem_of_getElem? (i := 116) rfl), List.forall_mem_cons.mpr ⟨zt_2 _ (List.mem_of_getElem? (i := 117) rfl), List.forall_mem_cons.mpr ⟨zt_2 _ (List.mem_of_getElem? (i := 118) rfl), List.forall_mem_cons.mpr ⟨zt_2 _ (List.mem_of_getElem? (i := 119) rfl), List.forall_mem_cons.mpr ⟨zt_2 _ (List.mem_of_getElem? (i := 120) rfl), List.forall_mem_cons.mpr ⟨zt_2 _ (List.mem_of_getElem? (i := 183) rfl), List.forall_mem_cons.mpr ⟨zt_2 _ (List.mem_of_getElem? (i := 121) rfl), List.forall_mem_cons.mpr ⟨zt_2 _ (List.mem_of_getElem? (i := 122) rfl), fun _ h => absurd h List.not_mem_nil⟩⟩⟩⟩⟩⟩⟩⟩⟩⟩⟩⟩⟩⟩⟩⟩⟩⟩⟩⟩⟩⟩⟩⟩⟩
set_option maxRecDepth 20000 in
theorem zm_12 : ∀ w ∈ zA_12, w ∈ lw_tbl := List.forall_mem_cons.mpr ⟨zt_2 _ (List.mem_of_getElem? (i := 123) rfl), List.forall_mem_cons.mpr ⟨zt_2 _ (List.mem_of_getElem? (i := 124) rfl), List.forall_mem_cons.mpr ⟨zt_2 _ (List.mem_of_getElem? (i := 125) rfl), List.forall_mem_cons.mpr ⟨zt_2 _ (List.mem_of_getElem? (i := 126) rfl), List.forall_mem_cons.mpr ⟨zt_2 _ (List.mem_of_getElem? (i := 127) rfl), List.forall_mem_cons.mpr ⟨zt_2 _ (List.mem_of_getElem? (i := 128) rfl), List.forall_mem_cons.mpr ⟨zt_2 _ (List.mem_of_getElem? (i := 129) rfl), List.forall_mem_cons.mpr ⟨zt_2 _ (List.mem_of_getElem? (i := 130) rfl), List.forall_mem_cons.mpr ⟨zt_2 _ (List.mem_of_getElem? (i := 131) rfl), List.forall_mem_cons.mpr ⟨zt_2 _ (List.mem_of_getElem? (i := 133) rfl), List.forall_mem_cons.mpr ⟨zs_1 _ (List.mem_of_getElem? (i := 6) rfl), List.forall_mem_cons.mpr ⟨zt_2 _ (List.mem_of_getElem? (i := 134) rfl), List.forall_mem_cons.mpr ⟨zt_2 _ (List.mem_of_getElem? (i := 135) rfl), List.forall_mem_cons.mpr ⟨zt_2 _ (List.mem_of_getElem? (i := 136) rfl), List.forall_mem_cons.mpr ⟨zt_2 _ (List.mem_of_getElem? (i := 137) rfl), List.forall_mem_cons.mpr ⟨zt_2 _ (List.mem_of_getElem? (i := 138) rfl), List.forall_mem_cons.mpr ⟨zt_2 _ (List.mem_of_getElem? (i := 139) rfl), List.forall_mem_cons.mpr ⟨zt_2 _ (List.mem_of_getElem? (i := 140) rfl), List.forall_mem_cons.mpr ⟨zt_2 _ (List.mem_of_getElem? (i := 141) rfl), List.forall_mem_cons.mpr ⟨zt_2 _ (List.mem_of_getElem? (i := 142) rfl), List.forall_mem_cons.mpr ⟨zt_2 _ (List.mem_of_getElem? (i := 143) rfl), List.forall_mem_cons.mpr ⟨zt_2 _ (List.mem_of_getElem? (i := 144) rfl), List.forall_mem_cons.mpr ⟨zt_2 _ (List.mem_of_getElem? (i := 145) rfl), List.forall_mem_cons.mpr ⟨zt_2 _ (List.mem_of_getElem? (i := 146) rfl), List.forall_mem_cons.mpr ⟨zt_2 _ (List.mem_of_getElem? (i := 147) rfl), fun _ h => absurd h List.not_mem_nil⟩⟩⟩⟩⟩⟩⟩⟩⟩⟩⟩⟩⟩⟩⟩⟩⟩⟩⟩⟩⟩⟩⟩⟩⟩
set_option maxRecDepth 20000 in
theorem zm_13 : ∀ w ∈ zA_13, w ∈ lw_tbl := List.forall_mem_cons.mpr ⟨zt_2 _ (List.mem_of_getElem? (i := 148) rfl), List.forall_mem_cons.mpr ⟨zt_2 _ (List.mem_of_getElem? (i := 149) rfl), List.forall_mem_cons.mpr ⟨zt_2 _ (List.mem_of_getElem? (i := 150) rfl), List.forall_mem_cons.mpr ⟨zt_2 _ (List.mem_of_getElem? (i := 152) rfl), List.forall_mem_cons.mpr ⟨zs_1 _ (List.mem_of_getElem? (i := 7) rfl), List.forall_mem_cons.mpr ⟨zt_2 _ (List.mem_of_getElem? (i := 153) rfl), List.forall_mem_cons.mpr ⟨zt_2 _ (List.mem_of_getElem? (i := 154) rfl), List.forall_mem_cons.mpr ⟨zt_2 _ (List.mem_of_getElem? (i := 155) rfl), List.forall_mem_cons.mpr ⟨zt_2 _ (List.mem_of_getElem? (i := 156) rfl), List.forall_mem_cons.mpr ⟨zt_2 _ (List.mem_of_getElem? (i := 157) rfl), List.forall_mem_cons.mpr ⟨zt_2 _ (List.mem_of_getElem? (i := 158) rfl), List.forall_mem_cons.mpr ⟨zt_2 _ (List.mem_of_getElem? (i := 159) rfl), List.forall_mem_cons.mpr ⟨zt_2 _ (List.mem_of_getElem? (i := 160) rfl), List.forall_mem_cons.mpr ⟨zt_2 _ (List.mem_of_getElem? (i := 161) rfl), List.forall_mem_cons.mpr ⟨zt_2 _ (List.mem_of_getElem? (i := 162) rfl), List.forall_mem_cons.mpr ⟨zt_2 _ (List.mem_of_getElem? (i := 163) rfl), List.forall_mem_cons.mpr ⟨zt_2 _ (List.mem_of_getElem? (i := 164) rfl), List.forall_mem_cons.mpr ⟨zt_2 _ (List.mem_of_getElem? (i := 165) rfl), List.forall_mem_cons.mpr ⟨zt_2 _ (List.mem_of_getElem? (i := 166) rfl), List.forall_mem_cons.mpr ⟨zt_2 _ (List.mem_of_getElem? (i := 167) rfl), List.forall_mem_cons.mpr ⟨zt_2 _ (List.mem_of_getElem? (i := 168) rfl), List.forall_mem_cons.mpr ⟨zt_2 _ (List.mem_of_getElem? (i := 169) rfl), List.forall_mem_cons.mpr ⟨zt_2 _ (List.mem_of_getElem? (i := 170) rfl), List.forall_mem_cons.mpr ⟨zt_2 _ (List.mem_of_getElem? (i := 171) rfl), List.forall_mem_cons.mpr ⟨zt_2 _ (List.mem_of_getElem? (i := 172) rfl), fun _ h => absurd h List.not_mem_nil⟩⟩⟩⟩⟩⟩⟩⟩⟩⟩⟩⟩⟩⟩⟩⟩⟩⟩⟩⟩⟩⟩⟩⟩⟩
set_option maxRecDepth 20000 in
theorem zm_14 : ∀ w ∈ zA_14, w ∈ lw_tbl := List.forall_mem_cons.mpr ⟨zt_2 _ (List.mem_of_getElem? (i := 173) rfl), List.forall_mem_cons.mpr ⟨zt_2 _ (List.mem_of_getElem? (i := 174) rfl), List.forall_mem_cons.mpr ⟨zt_2 _ (List.mem_of_getElem? (i := 175) rfl), List.forall_mem_cons.mpr ⟨zt_2 _ (List.mem_of_getElem? (i := 176) rfl), List.forall_mem_cons.mpr ⟨zt_2 _ (List.mem_of_getElem? (i := 177) rfl), List.forall_mem_cons.mpr ⟨zt_2 _ (List.mem_of_getElem? (i := 178) rfl), List.forall_mem_cons.mpr ⟨zt_2 _ (List.mem_of_getElem? (i := 179) rfl), List.forall_mem_cons.mpr ⟨zt_2 _ (List.mem_of_getElem? (i := 180) rfl), List.forall_mem_cons.mpr ⟨zt_2 _ (List.mem_of_getElem? (i := 181) rfl), List.forall_mem_cons.mpr ⟨zt_2 _ (List.mem_of_getElem? (i := 182) rfl), List.forall_mem_cons.mpr ⟨zt_2 _ (List.mem_of_getElem? (i := 184) rfl), List.forall_mem_cons.mpr ⟨zt_2 _ (List.mem_of_getElem? (i := 185) rfl), List.forall_mem_cons.mpr ⟨zt_2 _ (List.mem_of_getElem? (i := 186) rfl), List.forall_mem_cons.mpr ⟨zt_2 _ (List.mem_of_getElem? (i := 187) rfl), List.forall_mem_cons.mpr ⟨zt_2 _ (List.mem_of_getElem? (i := 188) rfl), List.forall_mem_cons.mpr ⟨zt_2 _ (List.mem_of_getElem? (i := 189) rfl), List.forall_mem_cons.mpr ⟨zt_2 _ (List.mem_of_getElem? (i := 190) rfl), fun _ h => absurd h List.not_mem_nil⟩⟩⟩⟩⟩⟩⟩⟩⟩⟩⟩⟩⟩⟩⟩⟩⟩
abbrev vwCl : List vw_C := [(RX1, TX1, 1), (RX2, TX2, 8), (RX4, TX4, 2), (RX6, TX6, 5), (RX7, TX7, 9)]
theorem zmc_X1 : ∀ w ∈ wsX10, w ∈ lw_tbl := by decide +kernel
theorem zmc_X2 : ∀ w ∈ wsX20, w ∈ lw_tbl := by decide +kernel
theorem zmc_X4 : ∀ w ∈ wsX40, w ∈ lw_tbl := by decide +kernel
theorem zmc_X6 : ∀ w ∈ wsX60, w ∈ lw_tbl := by decide +kernel
theorem zmc_X7 : ∀ w ∈ wsX70, w ∈ lw_tbl := by decide +kernel
theorem zmC : ∀ w ∈ zC, w ∈ lw_tbl := fun w h => (List.mem_append.mp h).elim (zmc_X1 w) (fun h => (List.mem_append.mp h).elim (zmc_X2 w) (fun h => (List.mem_append.mp h).elim (zmc_X4 w) (fun h => (List.mem_append.mp h).elim (zmc_X6 w) (fun h => zmc_X7 w h))))
theorem zAll_in : ∀ w ∈ zAll, w ∈ lw_tbl := fun w h => (List.mem_append.mp h).elim (zm_0 w) (fun h => (List.mem_append.mp h).elim (zm_1 w) (fun h => (List.mem_append.mp h).elim (zm_2 w) (fun h => (List.mem_append.mp h).elim (zm_3 w) (fun h => (List.mem_append.mp h).elim (zm_4 w) (fun h => (List.mem_append.mp h).elim (zm_5 w) (fun h => (List.mem_append.mp h).elim (zm_6 w) (fun h => (List.mem_append.mp h).elim (zm_7 w) (fun h => (List.mem_append.mp h).elim (zm_8 w) (fun h => (List.mem_append.mp h).elim (zm_9 w) (fun h => (List.mem_append.mp h).elim (zm_10 w) (fun h => (List.mem_append.mp h).elim (zm_11 w) (fun h => (List.mem_append.mp h).elim (zm_12 w) (fun h => (List.mem_append.mp h).elim (zm_13 w) (fun h => (List.mem_append.mp h).elim (zm_14 w) (fun h => zmC w h)))))))))))))))
theorem zAll_good : ∀ w ∈ zAll, goodWord w = true := List.all_eq_true.mp (by decide +kernel)
theorem zG_V {c1 c2 : Cond} {own C : String} {idx : Nat} {y : MethodName} (h1 : Cond.methodLink own idx y ∈ zAll) (h2 : Cond.instanceMethod y ∈ zAll) (h3 : Cond.selects C y y ∈ zAll) (h4 : Cond.initialized C ∈ zAll) (h5 : c2 ∈ zAll) : GoodIn (c1 :: zAll) (wsV own idx C y (c2 :: zAll)) := by
  intro w hw
  have h : w ∈ zAll := by
    simp only [wsV, List.cons_append, List.nil_append, List.mem_cons] at hw
    rcases hw with rfl | rfl | rfl | rfl | rfl | hw
    · exact h1
    · exact h2
    · exact h3
    · exact h4
    · exact h5
    · exact hw
  exact ⟨List.mem_cons_of_mem _ h, good_of_word (zAll_good w h)⟩
theorem zG_S {c1 c2 : Cond} {own : String} {idx : Nat} {y : MethodName} (h1 : Cond.methodLink own idx y ∈ zAll) (h2 : Cond.static y ∈ zAll) (h4 : Cond.initialized y.cls ∈ zAll) (h5 : c2 ∈ zAll) : GoodIn (c1 :: zAll) (va_wsS own idx y (c2 :: zAll)) := by
  intro w hw
  have h : w ∈ zAll := by
    simp only [va_wsS, List.cons_append, List.nil_append, List.mem_cons] at hw
    rcases hw with rfl | rfl | rfl | rfl | hw
    · exact h1
    · exact h2
    · exact h4
    · exact h5
    · exact hw
  exact ⟨List.mem_cons_of_mem _ h, good_of_word (zAll_good w h)⟩
theorem zG_I {c1 c2 : Cond} (h5 : c2 ∈ zAll) : GoodIn (c1 :: zAll) (c2 :: zAll) := by
  intro w hw
  have h : w ∈ zAll := by
    simp only [List.mem_cons] at hw
    rcases hw with rfl | hw
    · exact h5
    · exact hw
  exact ⟨List.mem_cons_of_mem _ h, good_of_word (zAll_good w h)⟩
