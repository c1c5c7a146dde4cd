
/-! ===== BEGIN printed: names, fields, word lists, decode rows ===== -/
def RX0 : String := "CutMarks$Bits"
def TX0 : u_T := fun k => match k with
  | _ => ("", "", "", false)
def tyX0 : Nat → FieldType := fun k => match k with
  | _ => .int
abbrev wsX00 : List Cond := u_ws RX0 TX0 0
theorem nmX0 : ∀ a, a < 0 → ∀ b, b < 0 → a ≠ b → (TX0 a).2.1 ≠ (TX0 b).2.1 := by decide +kernel
theorem tyX0_ok : ∀ k, k < 0 → parseFieldDescriptor (TX0 k).2.2.1 = some (tyX0 k) := by decide +kernel
abbrev cX0_ofDouble : ByteArray := prog_2_method_2_code
def yX0_ofDouble : MethodName := ⟨RX0, "ofDouble", "(D)J"⟩
abbrev cX0_ofShare : ByteArray := prog_2_method_3_code
def yX0_ofShare : MethodName := ⟨RX0, "ofShare", "(F)I"⟩
def RX1 : String := "CutMarks$Cycles"
def TX1 : u_T := fun k => match k with
  | _ => ("CutMarks$Cycles", "counts", "[I", true)
def tyX1 : Nat → FieldType := fun k => match k with
  | _ => .array .int
abbrev wsX10 : List Cond := u_ws RX1 TX1 1
theorem nmX1 : ∀ a, a < 1 → ∀ b, b < 1 → a ≠ b → (TX1 a).2.1 ≠ (TX1 b).2.1 := by decide +kernel
theorem tyX1_ok : ∀ k, k < 1 → parseFieldDescriptor (TX1 k).2.2.1 = some (tyX1 k) := by decide +kernel
abbrev cX1_init : ByteArray := prog_3_method_1_code
def yX1_init : MethodName := ⟨RX1, "<init>", "()V"⟩
abbrev cX1_tell : ByteArray := prog_3_method_2_code
def yX1_tell : MethodName := ⟨RX1, "tell", "(JI)V"⟩
abbrev cX1_add : ByteArray := prog_3_method_3_code
def yX1_add : MethodName := ⟨RX1, "add", "(I)V"⟩
abbrev cX1_howMany : ByteArray := prog_3_method_4_code
def yX1_howMany : MethodName := ⟨RX1, "howMany", "()I"⟩
abbrev cX1_longest : ByteArray := prog_3_method_5_code
def yX1_longest : MethodName := ⟨RX1, "longest", "()I"⟩
abbrev cX1_order : ByteArray := prog_3_method_6_code
def yX1_order : MethodName := ⟨RX1, "order", "()I"⟩
abbrev cX1_leastMultiple : ByteArray := prog_3_method_7_code
def yX1_leastMultiple : MethodName := ⟨RX1, "leastMultiple", "(II)I"⟩
abbrev cX1_marksThatCommute : ByteArray := prog_3_method_8_code
def yX1_marksThatCommute : MethodName := ⟨RX1, "marksThatCommute", "()J"⟩
def RX2 : String := "CutMarks$MarkReader"
def TX2 : u_T := fun k => match k with
  | 0 => ("CutMarks$MarkReader", "size", "I", false)
  | 1 => ("CutMarks$MarkReader", "state", "I", false)
  | 2 => ("CutMarks$MarkReader", "moves", "J", false)
  | 3 => ("CutMarks$MarkReader", "used", "I", false)
  | 4 => ("CutMarks$MarkReader", "digits", "I", false)
  | 5 => ("CutMarks$MarkReader", "inCycle", "I", false)
  | 6 => ("CutMarks$MarkReader", "first", "I", false)
  | _ => ("CutMarks$MarkReader", "last", "I", false)
def tyX2 : Nat → FieldType := fun k => match k with
  | 0 => .int
  | 1 => .int
  | 2 => .long
  | 3 => .int
  | 4 => .int
  | 5 => .int
  | 6 => .int
  | _ => .int
abbrev wsX20 : List Cond := u_ws RX2 TX2 8
theorem nmX2 : ∀ a, a < 8 → ∀ b, b < 8 → a ≠ b → (TX2 a).2.1 ≠ (TX2 b).2.1 := by decide +kernel
theorem tyX2_ok : ∀ k, k < 8 → parseFieldDescriptor (TX2 k).2.2.1 = some (tyX2 k) := by decide +kernel
abbrev cX2_init : ByteArray := prog_4_method_1_code
def yX2_init : MethodName := ⟨RX2, "<init>", "()V"⟩
abbrev cX2_begin : ByteArray := prog_4_method_2_code
def yX2_begin : MethodName := ⟨RX2, "begin", "(I)V"⟩
abbrev cX2_takes : ByteArray := prog_4_method_3_code
def yX2_takes : MethodName := ⟨RX2, "takes", "(C)Z"⟩
abbrev cX2_mayEnd : ByteArray := prog_4_method_4_code
def yX2_mayEnd : MethodName := ⟨RX2, "mayEnd", "()Z"⟩
abbrev cX2_takesStay : ByteArray := prog_4_method_5_code
def yX2_takesStay : MethodName := ⟨RX2, "takesStay", "()Z"⟩
abbrev cX2_takesOpening : ByteArray := prog_4_method_6_code
def yX2_takesOpening : MethodName := ⟨RX2, "takesOpening", "(C)Z"⟩
abbrev cX2_takesDigit : ByteArray := prog_4_method_7_code
def yX2_takesDigit : MethodName := ⟨RX2, "takesDigit", "(CI)Z"⟩
abbrev cX2_beginsFreePlace : ByteArray := prog_4_method_8_code
def yX2_beginsFreePlace : MethodName := ⟨RX2, "beginsFreePlace", "(I)Z"⟩
abbrev cX2_isFree : ByteArray := prog_4_method_9_code
def yX2_isFree : MethodName := ⟨RX2, "isFree", "(I)Z"⟩
abbrev cX2_endsPlace : ByteArray := prog_4_method_10_code
def yX2_endsPlace : MethodName := ⟨RX2, "endsPlace", "()Z"⟩
abbrev cX2_closesCycle : ByteArray := prog_4_method_11_code
def yX2_closesCycle : MethodName := ⟨RX2, "closesCycle", "()Z"⟩
def RX3 : String := "CutMarks$Moves"
def TX3 : u_T := fun k => match k with
  | _ => ("", "", "", false)
def tyX3 : Nat → FieldType := fun k => match k with
  | _ => .int
abbrev wsX30 : List Cond := u_ws RX3 TX3 0
theorem nmX3 : ∀ a, a < 0 → ∀ b, b < 0 → a ≠ b → (TX3 a).2.1 ≠ (TX3 b).2.1 := by decide +kernel
theorem tyX3_ok : ∀ k, k < 0 → parseFieldDescriptor (TX3 k).2.2.1 = some (tyX3 k) := by decide +kernel
abbrev cX3_to : ByteArray := prog_5_method_2_code
def yX3_to : MethodName := ⟨RX3, "to", "(JI)I"⟩
abbrev cX3_from : ByteArray := prog_5_method_3_code
def yX3_from : MethodName := ⟨RX3, "from", "(JI)I"⟩
abbrev cX3_with : ByteArray := prog_5_method_4_code
def yX3_with : MethodName := ⟨RX3, "with", "(JII)J"⟩
abbrev cX3_then : ByteArray := prog_5_method_5_code
def yX3_then : MethodName := ⟨RX3, "then", "(JJ)J"⟩
abbrev cX3_inverse : ByteArray := prog_5_method_6_code
def yX3_inverse : MethodName := ⟨RX3, "inverse", "(J)J"⟩
abbrev cX3_times : ByteArray := prog_5_method_7_code
def yX3_times : MethodName := ⟨RX3, "times", "(JI)J"⟩
abbrev cX3_toAfter : ByteArray := prog_5_method_8_code
def yX3_toAfter : MethodName := ⟨RX3, "toAfter", "(JII)I"⟩
abbrev cX3_cycleLength : ByteArray := prog_5_method_9_code
def yX3_cycleLength : MethodName := ⟨RX3, "cycleLength", "(JI)I"⟩
abbrev cX3_fixedPlaces : ByteArray := prog_5_method_10_code
def yX3_fixedPlaces : MethodName := ⟨RX3, "fixedPlaces", "(JI)I"⟩
def RX4 : String := "CutMarks$Shelf"
def TX4 : u_T := fun k => match k with
  | 0 => ("CutMarks$Shelf", "copies", "[LCutMarks$Table;", true)
  | _ => ("CutMarks$Shelf", "full", "[Z", true)
def tyX4 : Nat → FieldType := fun k => match k with
  | 0 => .array (.object "CutMarks$Table")
  | _ => .array .boolean
abbrev wsX40 : List Cond := u_ws RX4 TX4 2
theorem nmX4 : ∀ a, a < 2 → ∀ b, b < 2 → a ≠ b → (TX4 a).2.1 ≠ (TX4 b).2.1 := by decide +kernel
theorem tyX4_ok : ∀ k, k < 2 → parseFieldDescriptor (TX4 k).2.2.1 = some (tyX4 k) := by decide +kernel
abbrev cX4_init : ByteArray := prog_6_method_1_code
def yX4_init : MethodName := ⟨RX4, "<init>", "(I)V"⟩
abbrev cX4_hasPlace : ByteArray := prog_6_method_2_code
def yX4_hasPlace : MethodName := ⟨RX4, "hasPlace", "(I)Z"⟩
abbrev cX4_isFull : ByteArray := prog_6_method_3_code
def yX4_isFull : MethodName := ⟨RX4, "isFull", "(I)Z"⟩
abbrev cX4_keep : ByteArray := prog_6_method_4_code
def yX4_keep : MethodName := ⟨RX4, "keep", "(ILCutMarks$Table;)V"⟩
abbrev cX4_bring : ByteArray := prog_6_method_5_code
def yX4_bring : MethodName := ⟨RX4, "bring", "(ILCutMarks$Table;)V"⟩
def RX5 : String := "CutMarks$Shuffles"
def TX5 : u_T := fun k => match k with
  | _ => ("", "", "", false)
def tyX5 : Nat → FieldType := fun k => match k with
  | _ => .int
abbrev wsX50 : List Cond := u_ws RX5 TX5 0
theorem nmX5 : ∀ a, a < 0 → ∀ b, b < 0 → a ≠ b → (TX5 a).2.1 ≠ (TX5 b).2.1 := by decide +kernel
theorem tyX5_ok : ∀ k, k < 0 → parseFieldDescriptor (TX5 k).2.2.1 = some (tyX5 k) := by decide +kernel
abbrev cX5_cutTo : ByteArray := prog_7_method_2_code
def yX5_cutTo : MethodName := ⟨RX5, "cutTo", "(III)I"⟩
abbrev cX5_riffleTo : ByteArray := prog_7_method_3_code
def yX5_riffleTo : MethodName := ⟨RX5, "riffleTo", "(ZII)I"⟩
abbrev cX5_stepTo : ByteArray := prog_7_method_4_code
def yX5_stepTo : MethodName := ⟨RX5, "stepTo", "(III)I"⟩
abbrev cX5_cutBy : ByteArray := prog_7_method_5_code
def yX5_cutBy : MethodName := ⟨RX5, "cutBy", "(II)J"⟩
abbrev cX5_stepBy : ByteArray := prog_7_method_6_code
def yX5_stepBy : MethodName := ⟨RX5, "stepBy", "(II)J"⟩
abbrev cX5_becomesBy : ByteArray := prog_7_method_7_code
def yX5_becomesBy : MethodName := ⟨RX5, "becomesBy", "(JII)J"⟩
def RX6 : String := "CutMarks$Table"
def TX6 : u_T := fun k => match k with
  | 0 => ("CutMarks$Table", "size", "I", false)
  | 1 => ("CutMarks$Table", "places", "J", false)
  | 2 => ("CutMarks$Table", "trick", "J", false)
  | 3 => ("CutMarks$Table", "markCount", "I", false)
  | _ => ("CutMarks$Table", "marks", "[J", true)
def tyX6 : Nat → FieldType := fun k => match k with
  | 0 => .int
  | 1 => .long
  | 2 => .long
  | 3 => .int
  | _ => .array .long
abbrev wsX60 : List Cond := u_ws RX6 TX6 5
theorem nmX6 : ∀ a, a < 5 → ∀ b, b < 5 → a ≠ b → (TX6 a).2.1 ≠ (TX6 b).2.1 := by decide +kernel
theorem tyX6_ok : ∀ k, k < 5 → parseFieldDescriptor (TX6 k).2.2.1 = some (tyX6 k) := by decide +kernel
abbrev cX6_init : ByteArray := prog_8_method_1_code
def yX6_init : MethodName := ⟨RX6, "<init>", "()V"⟩
abbrev cX6_layInOrder : ByteArray := prog_8_method_2_code
def yX6_layInOrder : MethodName := ⟨RX6, "layInOrder", "(I)V"⟩
abbrev cX6_copyFrom : ByteArray := prog_8_method_3_code
def yX6_copyFrom : MethodName := ⟨RX6, "copyFrom", "(LCutMarks$Table;)V"⟩
abbrev cX6_hasPlace : ByteArray := prog_8_method_4_code
def yX6_hasPlace : MethodName := ⟨RX6, "hasPlace", "(I)Z"⟩
abbrev cX6_hasMark : ByteArray := prog_8_method_5_code
def yX6_hasMark : MethodName := ⟨RX6, "hasMark", "(I)Z"⟩
abbrev cX6_movesOf : ByteArray := prog_8_method_6_code
def yX6_movesOf : MethodName := ⟨RX6, "movesOf", "(I)J"⟩
abbrev cX6_addMark : ByteArray := prog_8_method_7_code
def yX6_addMark : MethodName := ⟨RX6, "addMark", "(J)I"⟩
abbrev cX6_removeMark : ByteArray := prog_8_method_8_code
def yX6_removeMark : MethodName := ⟨RX6, "removeMark", "(I)V"⟩
abbrev cX6_lowestMark : ByteArray := prog_8_method_9_code
def yX6_lowestMark : MethodName := ⟨RX6, "lowestMark", "(J)I"⟩
def RX7 : String := "CutMarks"
def TX7 : u_T := fun k => match k with
  | 0 => ("CutMarks", "table", "LCutMarks$Table;", true)
  | 1 => ("CutMarks", "history", "LCutMarks$Shelf;", true)
  | 2 => ("CutMarks", "slots", "LCutMarks$Shelf;", true)
  | 3 => ("CutMarks", "cycles", "LCutMarks$Cycles;", true)
  | 4 => ("CutMarks", "reader", "LCutMarks$MarkReader;", true)
  | 5 => ("CutMarks", "pad", "[C", true)
  | 6 => ("CutMarks", "padLength", "I", false)
  | 7 => ("CutMarks", "undoable", "I", false)
  | _ => ("CutMarks", "nextKept", "I", false)
def tyX7 : Nat → FieldType := fun k => match k with
  | 0 => .object "CutMarks$Table"
  | 1 => .object "CutMarks$Shelf"
  | 2 => .object "CutMarks$Shelf"
  | 3 => .object "CutMarks$Cycles"
  | 4 => .object "CutMarks$MarkReader"
  | 5 => .array .char
  | 6 => .int
  | 7 => .int
  | _ => .int
abbrev wsX70 : List Cond := u_ws RX7 TX7 9
theorem nmX7 : ∀ a, a < 9 → ∀ b, b < 9 → a ≠ b → (TX7 a).2.1 ≠ (TX7 b).2.1 := by decide +kernel
theorem tyX7_ok : ∀ k, k < 9 → parseFieldDescriptor (TX7 k).2.2.1 = some (tyX7 k) := by decide +kernel
abbrev cX7_init : ByteArray := prog_1_method_1_code
def yX7_init : MethodName := ⟨RX7, "<init>", "()V"⟩
abbrev cX7_set : ByteArray := prog_1_method_2_code
def yX7_set : MethodName := ⟨RX7, "set", "(I)I"⟩
abbrev cX7_mark : ByteArray := prog_1_method_3_code
def yX7_mark : MethodName := ⟨RX7, "mark", "()I"⟩
abbrev cX7_product : ByteArray := prog_1_method_4_code
def yX7_product : MethodName := ⟨RX7, "product", "(II)I"⟩
abbrev cX7_power : ByteArray := prog_1_method_5_code
def yX7_power : MethodName := ⟨RX7, "power", "(II)I"⟩
abbrev cX7_trick : ByteArray := prog_1_method_6_code
def yX7_trick : MethodName := ⟨RX7, "trick", "()I"⟩
abbrev cX7_drop : ByteArray := prog_1_method_7_code
def yX7_drop : MethodName := ⟨RX7, "drop", "(I)I"⟩
abbrev cX7_play : ByteArray := prog_1_method_8_code
def yX7_play : MethodName := ⟨RX7, "play", "(I)I"⟩
abbrev cX7_cut : ByteArray := prog_1_method_9_code
def yX7_cut : MethodName := ⟨RX7, "cut", "(I)I"⟩
abbrev cX7_riffle : ByteArray := prog_1_method_10_code
def yX7_riffle : MethodName := ⟨RX7, "riffle", "(I)I"⟩
abbrev cX7_turn : ByteArray := prog_1_method_11_code
def yX7_turn : MethodName := ⟨RX7, "turn", "()I"⟩
abbrev cX7_restart : ByteArray := prog_1_method_12_code
def yX7_restart : MethodName := ⟨RX7, "restart", "()I"⟩
abbrev cX7_at : ByteArray := prog_1_method_13_code
def yX7_at : MethodName := ⟨RX7, "at", "(I)I"⟩
abbrev cX7_where : ByteArray := prog_1_method_14_code
def yX7_where : MethodName := ⟨RX7, "where", "(I)I"⟩
abbrev cX7_of : ByteArray := prog_1_method_15_code
def yX7_of : MethodName := ⟨RX7, "of", "(II)I"⟩
abbrev cX7_image : ByteArray := prog_1_method_16_code
def yX7_image : MethodName := ⟨RX7, "image", "(III)I"⟩
abbrev cX7_commuting : ByteArray := prog_1_method_17_code
def yX7_commuting : MethodName := ⟨RX7, "commuting", "(I)J"⟩
abbrev cX7_commute : ByteArray := prog_1_method_18_code
def yX7_commute : MethodName := ⟨RX7, "commute", "(II)I"⟩
abbrev cX7_count : ByteArray := prog_1_method_19_code
def yX7_count : MethodName := ⟨RX7, "count", "(I)I"⟩
abbrev cX7_spread : ByteArray := prog_1_method_20_code
def yX7_spread : MethodName := ⟨RX7, "spread", "()J"⟩
abbrev cX7_share : ByteArray := prog_1_method_21_code
def yX7_share : MethodName := ⟨RX7, "share", "()I"⟩
abbrev cX7_byCut : ByteArray := prog_1_method_22_code
def yX7_byCut : MethodName := ⟨RX7, "byCut", "(III)I"⟩
abbrev cX7_becomes : ByteArray := prog_1_method_23_code
def yX7_becomes : MethodName := ⟨RX7, "becomes", "(II)I"⟩
abbrev cX7_ordersIn : ByteArray := prog_1_method_24_code
def yX7_ordersIn : MethodName := ⟨RX7, "ordersIn", "(I)I"⟩
abbrev cX7_fewestSteps : ByteArray := prog_1_method_25_code
def yX7_fewestSteps : MethodName := ⟨RX7, "fewestSteps", "()I"⟩
abbrev cX7_firstStep : ByteArray := prog_1_method_26_code
def yX7_firstStep : MethodName := ⟨RX7, "firstStep", "()I"⟩
abbrev cX7_put : ByteArray := prog_1_method_27_code
def yX7_put : MethodName := ⟨RX7, "put", "(J)I"⟩
abbrev cX7_wipe : ByteArray := prog_1_method_28_code
def yX7_wipe : MethodName := ⟨RX7, "wipe", "()I"⟩
abbrev cX7_fault : ByteArray := prog_1_method_29_code
def yX7_fault : MethodName := ⟨RX7, "fault", "()I"⟩
abbrev cX7_undo : ByteArray := prog_1_method_30_code
def yX7_undo : MethodName := ⟨RX7, "undo", "()I"⟩
abbrev cX7_save : ByteArray := prog_1_method_31_code
def yX7_save : MethodName := ⟨RX7, "save", "(I)I"⟩
abbrev cX7_restore : ByteArray := prog_1_method_32_code
def yX7_restore : MethodName := ⟨RX7, "restore", "(I)I"⟩
abbrev cX7_keepForUndo : ByteArray := prog_1_method_33_code
def yX7_keepForUndo : MethodName := ⟨RX7, "keepForUndo", "()V"⟩
abbrev cX7_comes : ByteArray := prog_1_method_34_code
def yX7_comes : MethodName := ⟨RX7, "comes", "(J)I"⟩
abbrev cX7_moveDeck : ByteArray := prog_1_method_35_code
def yX7_moveDeck : MethodName := ⟨RX7, "moveDeck", "(J)I"⟩
abbrev cX7_placesMoved : ByteArray := prog_1_method_36_code
def yX7_placesMoved : MethodName := ⟨RX7, "placesMoved", "()I"⟩
abbrev cX7_isMarkOrTrick : ByteArray := prog_1_method_37_code
def yX7_isMarkOrTrick : MethodName := ⟨RX7, "isMarkOrTrick", "(I)Z"⟩
abbrev cX7_markOrTrick : ByteArray := prog_1_method_38_code
def yX7_markOrTrick : MethodName := ⟨RX7, "markOrTrick", "(I)J"⟩
abbrev cX7_isPower : ByteArray := prog_1_method_39_code
def yX7_isPower : MethodName := ⟨RX7, "isPower", "(I)Z"⟩
abbrev cX7_cutsThatStay : ByteArray := prog_1_method_40_code
def yX7_cutsThatStay : MethodName := ⟨RX7, "cutsThatStay", "(J)I"⟩
abbrev cX7_lowestWay : ByteArray := prog_1_method_41_code
def yX7_lowestWay : MethodName := ⟨RX7, "lowestWay", "(I)I"⟩
abbrev cX7_ordersDeck : ByteArray := prog_1_method_42_code
def yX7_ordersDeck : MethodName := ⟨RX7, "ordersDeck", "(II)Z"⟩
abbrev cX7_stepOfWay : ByteArray := prog_1_method_43_code
def yX7_stepOfWay : MethodName := ⟨RX7, "stepOfWay", "(III)I"⟩
abbrev cX7_charactersIn : ByteArray := prog_1_method_44_code
def yX7_charactersIn : MethodName := ⟨RX7, "charactersIn", "(J)I"⟩
abbrev cX7_codeAt : ByteArray := prog_1_method_45_code
def yX7_codeAt : MethodName := ⟨RX7, "codeAt", "(JI)I"⟩
abbrev cX7_append : ByteArray := prog_1_method_46_code
def yX7_append : MethodName := ⟨RX7, "append", "(C)V"⟩
abbrev cX7_readPad : ByteArray := prog_1_method_47_code
def yX7_readPad : MethodName := ⟨RX7, "readPad", "()I"⟩
def RX8 : String := "CutMarksModel"
def TX8 : u_T := fun k => match k with
  | 0 => ("CutMarksModel", "thrown", "I", false)
  | 1 => ("CutMarksModel", "s", "[I", true)
  | 2 => ("CutMarksModel", "undos", "[I", true)
  | 3 => ("CutMarksModel", "undoMany", "I", false)
  | 4 => ("CutMarksModel", "slots", "[I", true)
  | 5 => ("CutMarksModel", "hasSlot", "[Z", true)
  | 6 => ("CutMarksModel", "pad", "[I", true)
  | 7 => ("CutMarksModel", "length", "I", false)
  | 8 => ("CutMarksModel", "at", "I", false)
  | 9 => ("CutMarksModel", "isWell", "Z", false)
  | 10 => ("CutMarksModel", "told", "[I", true)
  | 11 => ("CutMarksModel", "isIn", "[Z", true)
  | 12 => ("CutMarksModel", "one", "[I", true)
  | 13 => ("CutMarksModel", "two", "[I", true)
  | 14 => ("CutMarksModel", "three", "[I", true)
  | 15 => ("CutMarksModel", "cards", "[I", true)
  | 16 => ("CutMarksModel", "next", "[I", true)
  | 17 => ("CutMarksModel", "seen", "[Z", true)
  | _ => ("CutMarksModel", "lengths", "[I", true)
def tyX8 : Nat → FieldType := fun k => match k with
  | 0 => .int
  | 1 => .array .int
  | 2 => .array .int
  | 3 => .int
  | 4 => .array .int
  | 5 => .array .boolean
  | 6 => .array .int
  | 7 => .int
  | 8 => .int
  | 9 => .boolean
  | 10 => .array .int
  | 11 => .array .boolean
  | 12 => .array .int
  | 13 => .array .int
  | 14 => .array .int
  | 15 => .array .int
  | 16 => .array .int
  | 17 => .array .boolean
  | _ => .array .int
abbrev wsX80 : List Cond := u_ws RX8 TX8 19
theorem nmX8 : ∀ a, a < 19 → ∀ b, b < 19 → a ≠ b → (TX8 a).2.1 ≠ (TX8 b).2.1 := by decide +kernel
theorem tyX8_ok : ∀ k, k < 19 → parseFieldDescriptor (TX8 k).2.2.1 = some (tyX8 k) := by decide +kernel
abbrev cX8_init : ByteArray := prog_10_method_1_code
def yX8_init : MethodName := ⟨RX8, "<init>", "()V"⟩
abbrev cX8_in : ByteArray := prog_10_method_3_code
def yX8_in : MethodName := ⟨RX8, "in", "(III)Z"⟩
abbrev cX8_begins : ByteArray := prog_10_method_4_code
def yX8_begins : MethodName := ⟨RX8, "begins", "(I)V"⟩
abbrev cX8_records : ByteArray := prog_10_method_5_code
def yX8_records : MethodName := ⟨RX8, "records", "()V"⟩
abbrev cX8_isMark : ByteArray := prog_10_method_6_code
def yX8_isMark : MethodName := ⟨RX8, "isMark", "(I)Z"⟩
abbrev cX8_isMarkOrTrick : ByteArray := prog_10_method_7_code
def yX8_isMarkOrTrick : MethodName := ⟨RX8, "isMarkOrTrick", "(I)Z"⟩
abbrev cX8_isPlace : ByteArray := prog_10_method_8_code
def yX8_isPlace : MethodName := ⟨RX8, "isPlace", "(I)Z"⟩
abbrev cX8_goesTo : ByteArray := prog_10_method_9_code
def yX8_goesTo : MethodName := ⟨RX8, "goesTo", "(II)I"⟩
abbrev cX8_fetches : ByteArray := prog_10_method_10_code
def yX8_fetches : MethodName := ⟨RX8, "fetches", "([II)V"⟩
abbrev cX8_laysCut : ByteArray := prog_10_method_11_code
def yX8_laysCut : MethodName := ⟨RX8, "laysCut", "([II)V"⟩
abbrev cX8_laysRiffle : ByteArray := prog_10_method_12_code
def yX8_laysRiffle : MethodName := ⟨RX8, "laysRiffle", "([IZ)V"⟩
abbrev cX8_laysTurn : ByteArray := prog_10_method_13_code
def yX8_laysTurn : MethodName := ⟨RX8, "laysTurn", "([I)V"⟩
abbrev cX8_laysInverse : ByteArray := prog_10_method_14_code
def yX8_laysInverse : MethodName := ⟨RX8, "laysInverse", "([I[I)V"⟩
abbrev cX8_laysProduct : ByteArray := prog_10_method_15_code
def yX8_laysProduct : MethodName := ⟨RX8, "laysProduct", "([I[I[I)V"⟩
abbrev cX8_areAlike : ByteArray := prog_10_method_16_code
def yX8_areAlike : MethodName := ⟨RX8, "areAlike", "([I[I)Z"⟩
abbrev cX8_doCommute : ByteArray := prog_10_method_17_code
def yX8_doCommute : MethodName := ⟨RX8, "doCommute", "([I[I)Z"⟩
abbrev cX8_powered : ByteArray := prog_10_method_18_code
def yX8_powered : MethodName := ⟨RX8, "powered", "([III)I"⟩
abbrev cX8_cycles : ByteArray := prog_10_method_19_code
def yX8_cycles : MethodName := ⟨RX8, "cycles", "([I)I"⟩
abbrev cX8_common : ByteArray := prog_10_method_20_code
def yX8_common : MethodName := ⟨RX8, "common", "(II)I"⟩
abbrev cX8_order : ByteArray := prog_10_method_21_code
def yX8_order : MethodName := ⟨RX8, "order", "([I)I"⟩
abbrev cX8_longest : ByteArray := prog_10_method_22_code
def yX8_longest : MethodName := ⟨RX8, "longest", "([I)I"⟩
abbrev cX8_adds : ByteArray := prog_10_method_23_code
def yX8_adds : MethodName := ⟨RX8, "adds", "([I)I"⟩
abbrev cX8_does : ByteArray := prog_10_method_24_code
def yX8_does : MethodName := ⟨RX8, "does", "([I)I"⟩
abbrev cX8_set : ByteArray := prog_10_method_25_code
def yX8_set : MethodName := ⟨RX8, "set", "(I)I"⟩
abbrev cX8_mark : ByteArray := prog_10_method_26_code
def yX8_mark : MethodName := ⟨RX8, "mark", "()I"⟩
abbrev cX8_product : ByteArray := prog_10_method_27_code
def yX8_product : MethodName := ⟨RX8, "product", "(II)I"⟩
abbrev cX8_power : ByteArray := prog_10_method_28_code
def yX8_power : MethodName := ⟨RX8, "power", "(II)I"⟩
abbrev cX8_trick : ByteArray := prog_10_method_29_code
def yX8_trick : MethodName := ⟨RX8, "trick", "()I"⟩
abbrev cX8_drop : ByteArray := prog_10_method_30_code
def yX8_drop : MethodName := ⟨RX8, "drop", "(I)I"⟩
abbrev cX8_play : ByteArray := prog_10_method_31_code
def yX8_play : MethodName := ⟨RX8, "play", "(I)I"⟩
abbrev cX8_cut : ByteArray := prog_10_method_32_code
def yX8_cut : MethodName := ⟨RX8, "cut", "(I)I"⟩
abbrev cX8_riffle : ByteArray := prog_10_method_33_code
def yX8_riffle : MethodName := ⟨RX8, "riffle", "(I)I"⟩
abbrev cX8_turn : ByteArray := prog_10_method_34_code
def yX8_turn : MethodName := ⟨RX8, "turn", "()I"⟩
abbrev cX8_moved : ByteArray := prog_10_method_35_code
def yX8_moved : MethodName := ⟨RX8, "moved", "()I"⟩
abbrev cX8_restart : ByteArray := prog_10_method_36_code
def yX8_restart : MethodName := ⟨RX8, "restart", "()I"⟩
abbrev cX8_at : ByteArray := prog_10_method_37_code
def yX8_at : MethodName := ⟨RX8, "at", "(I)I"⟩
abbrev cX8_where : ByteArray := prog_10_method_38_code
def yX8_where : MethodName := ⟨RX8, "where", "(I)I"⟩
abbrev cX8_fixed : ByteArray := prog_10_method_39_code
def yX8_fixed : MethodName := ⟨RX8, "fixed", "([I)I"⟩
abbrev cX8_cutsWith : ByteArray := prog_10_method_40_code
def yX8_cutsWith : MethodName := ⟨RX8, "cutsWith", "([I)I"⟩
abbrev cX8_markAs : ByteArray := prog_10_method_41_code
def yX8_markAs : MethodName := ⟨RX8, "markAs", "([I)I"⟩
abbrev cX8_of : ByteArray := prog_10_method_42_code
def yX8_of : MethodName := ⟨RX8, "of", "(II)I"⟩
abbrev cX8_image : ByteArray := prog_10_method_43_code
def yX8_image : MethodName := ⟨RX8, "image", "(III)I"⟩
abbrev cX8_commuting : ByteArray := prog_10_method_44_code
def yX8_commuting : MethodName := ⟨RX8, "commuting", "(I)J"⟩
abbrev cX8_commute : ByteArray := prog_10_method_45_code
def yX8_commute : MethodName := ⟨RX8, "commute", "(II)I"⟩
abbrev cX8_inPlace : ByteArray := prog_10_method_46_code
def yX8_inPlace : MethodName := ⟨RX8, "inPlace", "()I"⟩
abbrev cX8_isInOrder : ByteArray := prog_10_method_47_code
def yX8_isInOrder : MethodName := ⟨RX8, "isInOrder", "()Z"⟩
abbrev cX8_count : ByteArray := prog_10_method_48_code
def yX8_count : MethodName := ⟨RX8, "count", "(I)I"⟩
abbrev cX8_spread : ByteArray := prog_10_method_49_code
def yX8_spread : MethodName := ⟨RX8, "spread", "()J"⟩
abbrev cX8_share : ByteArray := prog_10_method_50_code
def yX8_share : MethodName := ⟨RX8, "share", "()I"⟩
abbrev cX8_laysByCut : ByteArray := prog_10_method_51_code
def yX8_laysByCut : MethodName := ⟨RX8, "laysByCut", "(II)V"⟩
abbrev cX8_byCut : ByteArray := prog_10_method_52_code
def yX8_byCut : MethodName := ⟨RX8, "byCut", "(III)I"⟩
abbrev cX8_becomes : ByteArray := prog_10_method_53_code
def yX8_becomes : MethodName := ⟨RX8, "becomes", "(II)I"⟩
abbrev cX8_ordersIn : ByteArray := prog_10_method_54_code
def yX8_ordersIn : MethodName := ⟨RX8, "ordersIn", "(I)I"⟩
abbrev cX8_laysStep : ByteArray := prog_10_method_55_code
def yX8_laysStep : MethodName := ⟨RX8, "laysStep", "(I)V"⟩
abbrev cX8_areOrdering : ByteArray := prog_10_method_56_code
def yX8_areOrdering : MethodName := ⟨RX8, "areOrdering", "(II)Z"⟩
abbrev cX8_leastSteps : ByteArray := prog_10_method_57_code
def yX8_leastSteps : MethodName := ⟨RX8, "leastSteps", "()I"⟩
abbrev cX8_fewestSteps : ByteArray := prog_10_method_58_code
def yX8_fewestSteps : MethodName := ⟨RX8, "fewestSteps", "()I"⟩
abbrev cX8_firstStep : ByteArray := prog_10_method_59_code
def yX8_firstStep : MethodName := ⟨RX8, "firstStep", "()I"⟩
abbrev cX8_put : ByteArray := prog_10_method_60_code
def yX8_put : MethodName := ⟨RX8, "put", "(J)I"⟩
abbrev cX8_wipe : ByteArray := prog_10_method_61_code
def yX8_wipe : MethodName := ⟨RX8, "wipe", "()I"⟩
abbrev cX8_letter : ByteArray := prog_10_method_62_code
def yX8_letter : MethodName := ⟨RX8, "letter", "()I"⟩
abbrev cX8_isLeft : ByteArray := prog_10_method_63_code
def yX8_isLeft : MethodName := ⟨RX8, "isLeft", "(I)Z"⟩
abbrev cX8_canBegin : ByteArray := prog_10_method_64_code
def yX8_canBegin : MethodName := ⟨RX8, "canBegin", "(I)Z"⟩
abbrev cX8_place : ByteArray := prog_10_method_65_code
def yX8_place : MethodName := ⟨RX8, "place", "()I"⟩
abbrev cX8_readsCycle : ByteArray := prog_10_method_66_code
def yX8_readsCycle : MethodName := ⟨RX8, "readsCycle", "()V"⟩
abbrev cX8_faultAt : ByteArray := prog_10_method_67_code
def yX8_faultAt : MethodName := ⟨RX8, "faultAt", "()I"⟩
abbrev cX8_fault : ByteArray := prog_10_method_68_code
def yX8_fault : MethodName := ⟨RX8, "fault", "()I"⟩
abbrev cX8_undo : ByteArray := prog_10_method_69_code
def yX8_undo : MethodName := ⟨RX8, "undo", "()I"⟩
abbrev cX8_save : ByteArray := prog_10_method_70_code
def yX8_save : MethodName := ⟨RX8, "save", "(I)I"⟩
abbrev cX8_restore : ByteArray := prog_10_method_71_code
def yX8_restore : MethodName := ⟨RX8, "restore", "(I)I"⟩
def RJxe99ae : String := "java/lang/Double"
def TJxe99ae : u_T := fun k => match k with
  | _ => ("", "", "", false)
def tyJxe99ae : Nat → FieldType := fun k => match k with
  | _ => .int
abbrev wsJxe99ae0 : List Cond := u_ws RJxe99ae TJxe99ae 0
theorem nmJxe99ae : ∀ a, a < 0 → ∀ b, b < 0 → a ≠ b → (TJxe99ae a).2.1 ≠ (TJxe99ae b).2.1 := by decide +kernel
theorem tyJxe99ae_ok : ∀ k, k < 0 → parseFieldDescriptor (TJxe99ae k).2.2.1 = some (tyJxe99ae k) := by decide +kernel
abbrev cJxe99ae_isNaN_b9ae7 : ByteArray := prog_11_method_6_code
def yJxe99ae_isNaN_b9ae7 : MethodName := ⟨RJxe99ae, "isNaN", "(D)Z"⟩
abbrev cJxe99ae_doubleToLongBits_ccdee : ByteArray := prog_11_method_23_code
def yJxe99ae_doubleToLongBits_ccdee : MethodName := ⟨RJxe99ae, "doubleToLongBits", "(D)J"⟩
def RJxf58ca : String := "java/lang/Float"
def TJxf58ca : u_T := fun k => match k with
  | _ => ("", "", "", false)
def tyJxf58ca : Nat → FieldType := fun k => match k with
  | _ => .int
abbrev wsJxf58ca0 : List Cond := u_ws RJxf58ca TJxf58ca 0
theorem nmJxf58ca : ∀ a, a < 0 → ∀ b, b < 0 → a ≠ b → (TJxf58ca a).2.1 ≠ (TJxf58ca b).2.1 := by decide +kernel
theorem tyJxf58ca_ok : ∀ k, k < 0 → parseFieldDescriptor (TJxf58ca k).2.2.1 = some (tyJxf58ca k) := by decide +kernel
abbrev cJxf58ca_isNaN_12338 : ByteArray := prog_12_method_6_code
def yJxf58ca_isNaN_12338 : MethodName := ⟨RJxf58ca, "isNaN", "(F)Z"⟩
abbrev cJxf58ca_floatToIntBits_5c35a : ByteArray := prog_12_method_24_code
def yJxf58ca_floatToIntBits_5c35a : MethodName := ⟨RJxf58ca, "floatToIntBits", "(F)I"⟩
def RJ6 : String := "java/lang/Integer"
def TJ6 : u_T := fun k => match k with
  | _ => ("", "", "", false)
def tyJ6 : Nat → FieldType := fun k => match k with
  | _ => .int
abbrev wsJ60 : List Cond := u_ws RJ6 TJ6 0
theorem nmJ6 : ∀ a, a < 0 → ∀ b, b < 0 → a ≠ b → (TJ6 a).2.1 ≠ (TJ6 b).2.1 := by decide +kernel
theorem tyJ6_ok : ∀ k, k < 0 → parseFieldDescriptor (TJ6 k).2.2.1 = some (tyJ6 k) := by decide +kernel
abbrev cJ6_bitCount_0f7a4 : ByteArray := prog_13_method_49_code
def yJ6_bitCount_0f7a4 : MethodName := ⟨RJ6, "bitCount", "(I)I"⟩
def RJ9 : String := "java/lang/Math"
def TJ9 : u_T := fun k => match k with
  | _ => ("", "", "", false)
def tyJ9 : Nat → FieldType := fun k => match k with
  | _ => .int
abbrev wsJ90 : List Cond := u_ws RJ9 TJ9 0
theorem nmJ9 : ∀ a, a < 0 → ∀ b, b < 0 → a ≠ b → (TJ9 a).2.1 ≠ (TJ9 b).2.1 := by decide +kernel
theorem tyJ9_ok : ∀ k, k < 0 → parseFieldDescriptor (TJ9 k).2.2.1 = some (tyJ9 k) := by decide +kernel
abbrev cJ9_floorMod_7cf53 : ByteArray := prog_14_method_50_code
def yJ9_floorMod_7cf53 : MethodName := ⟨RJ9, "floorMod", "(II)I"⟩
def RL : String := "CutMarksLaw"
abbrev cL_law : ByteArray := code
def yL_law : MethodName := ⟨RL, "law", "([I)Z"⟩
def zA_0 : List Cond := [Cond.classLink RL 7 RX7, Cond.instantiable RX7 9, Cond.initialized RX7, Cond.classLink RL 10 RX8, Cond.instantiable RX8 19, Cond.initialized RX8, Cond.constantLong RL 119 (4294967295), Cond.methodLink RL 9 yX7_init, Cond.instanceMethod yX7_init, Cond.code yX7_init cX7_init 1 none, Cond.methodLink RX7 1 objectInit, Cond.instanceMethod objectInit, Cond.code objectInit ⟨#[0xb1]⟩ 1 none, Cond.classLink RX7 7 RX6, Cond.instantiable RX6 5, Cond.initialized RX6, Cond.fieldLink RX7 10 "CutMarks" "table" "LCutMarks$Table;", Cond.classLink RX7 16 RX4, Cond.instantiable RX4 2, Cond.initialized RX4, Cond.fieldLink RX7 21 "CutMarks" "history" "LCutMarks$Shelf;", Cond.fieldLink RX7 25 "CutMarks" "slots" "LCutMarks$Shelf;", Cond.classLink RX7 28 RX1, Cond.instantiable RX1 1, Cond.initialized RX1]
def zA_1 : List Cond := [Cond.fieldLink RX7 31 "CutMarks" "cycles" "LCutMarks$Cycles;", Cond.classLink RX7 35 RX2, Cond.instantiable RX2 8, Cond.initialized RX2, Cond.fieldLink RX7 38 "CutMarks" "reader" "LCutMarks$MarkReader;", Cond.arrayClass .char, Cond.fieldLink RX7 42 "CutMarks" "pad" "[C", Cond.fieldLink RX7 46 "CutMarks" "padLength" "I", Cond.fieldLink RX7 50 "CutMarks" "undoable" "I", Cond.fieldLink RX7 53 "CutMarks" "nextKept" "I", Cond.instanceMethod yX6_init, Cond.code yX6_init cX6_init 1 none, Cond.methodLink RX6 3 objectInit, Cond.fieldLink RX6 9 "CutMarks$Table" "size" "I", Cond.constantLong RX6 17 (-81985529216486896), Cond.fieldLink RX6 19 "CutMarks$Table" "places" "J", Cond.fieldLink RX6 23 "CutMarks$Table" "trick" "J", Cond.fieldLink RX6 26 "CutMarks$Table" "markCount" "I", Cond.arrayClass .long, Cond.fieldLink RX6 29 "CutMarks$Table" "marks" "[J", Cond.methodLink RX7 18 yX4_init, Cond.instanceMethod yX4_init, Cond.code yX4_init cX4_init 4 none, Cond.methodLink RX4 1 objectInit, Cond.classLink RX4 7 RX6]
def zA_2 : List Cond := [Cond.fieldLink RX4 9 "CutMarks$Shelf" "copies" "[LCutMarks$Table;", Cond.arrayClass .boolean, Cond.fieldLink RX4 15 "CutMarks$Shelf" "full" "[Z", Cond.instanceMethod yX1_init, Cond.code yX1_init cX1_init 1 none, Cond.methodLink RX1 3 objectInit, Cond.arrayClass .int, Cond.fieldLink RX1 9 "CutMarks$Cycles" "counts" "[I", Cond.instanceMethod yX2_init, Cond.code yX2_init cX2_init 1 none, Cond.methodLink RX2 3 objectInit, Cond.fieldLink RX2 9 "CutMarks$MarkReader" "size" "I", Cond.fieldLink RX2 15 "CutMarks$MarkReader" "state" "I", Cond.constantLong RX2 20 (-81985529216486896), Cond.fieldLink RX2 22 "CutMarks$MarkReader" "moves" "J", Cond.fieldLink RX2 26 "CutMarks$MarkReader" "used" "I", Cond.fieldLink RX2 29 "CutMarks$MarkReader" "digits" "I", Cond.fieldLink RX2 32 "CutMarks$MarkReader" "inCycle" "I", Cond.fieldLink RX2 35 "CutMarks$MarkReader" "first" "I", Cond.fieldLink RX2 38 "CutMarks$MarkReader" "last" "I", Cond.methodLink RL 12 yX8_init, Cond.instanceMethod yX8_init, Cond.code yX8_init cX8_init 1 none, Cond.methodLink RX8 1 objectInit, Cond.fieldLink RX8 7 "CutMarksModel" "s" "[I"]
def zA_3 : List Cond := [Cond.fieldLink RX8 13 "CutMarksModel" "undos" "[I", Cond.fieldLink RX8 16 "CutMarksModel" "slots" "[I", Cond.fieldLink RX8 19 "CutMarksModel" "hasSlot" "[Z", Cond.fieldLink RX8 23 "CutMarksModel" "pad" "[I", Cond.fieldLink RX8 26 "CutMarksModel" "told" "[I", Cond.fieldLink RX8 29 "CutMarksModel" "isIn" "[Z", Cond.fieldLink RX8 32 "CutMarksModel" "one" "[I", Cond.fieldLink RX8 35 "CutMarksModel" "two" "[I", Cond.fieldLink RX8 38 "CutMarksModel" "three" "[I", Cond.fieldLink RX8 41 "CutMarksModel" "cards" "[I", Cond.fieldLink RX8 44 "CutMarksModel" "next" "[I", Cond.fieldLink RX8 47 "CutMarksModel" "seen" "[Z", Cond.fieldLink RX8 50 "CutMarksModel" "lengths" "[I", Cond.fieldLink RX8 53 "CutMarksModel" "thrown" "I", Cond.methodLink RX8 57 yX8_begins, Cond.instanceMethod yX8_begins, Cond.selects RX8 yX8_begins yX8_begins, Cond.code yX8_begins cX8_begins 3 none, Cond.methodLink RL 13 yX7_set, Cond.instanceMethod yX7_set, Cond.selects RX7 yX7_set yX7_set, Cond.code yX7_set cX7_set 3 (some .int), Cond.methodLink RX7 59 yX7_keepForUndo, Cond.instanceMethod yX7_keepForUndo, Cond.selects RX7 yX7_keepForUndo yX7_keepForUndo]
def zA_4 : List Cond := [Cond.code yX7_keepForUndo cX7_keepForUndo 1 none, Cond.methodLink RX7 224 yX4_keep, Cond.instanceMethod yX4_keep, Cond.selects RX4 yX4_keep yX4_keep, Cond.code yX4_keep cX4_keep 3 none, Cond.methodLink RX4 20 yX4_hasPlace, Cond.instanceMethod yX4_hasPlace, Cond.selects RX4 yX4_hasPlace yX4_hasPlace, Cond.code yX4_hasPlace cX4_hasPlace 2 (some .boolean), Cond.methodLink RX4 24 yX6_copyFrom, Cond.instanceMethod yX6_copyFrom, Cond.selects RX6 yX6_copyFrom yX6_copyFrom, Cond.code yX6_copyFrom cX6_copyFrom 3 none, Cond.methodLink RX7 62 yX6_layInOrder, Cond.instanceMethod yX6_layInOrder, Cond.selects RX6 yX6_layInOrder yX6_layInOrder, Cond.code yX6_layInOrder cX6_layInOrder 2 none, Cond.methodLink RL 17 yX8_set, Cond.instanceMethod yX8_set, Cond.selects RX8 yX8_set yX8_set, Cond.code yX8_set cX8_set 3 (some .int), Cond.methodLink RX8 64 yX8_in, Cond.static yX8_in, Cond.code yX8_in cX8_in 3 (some .boolean), Cond.methodLink RX8 83 yX8_records]
def zA_5 : List Cond := [Cond.instanceMethod yX8_records, Cond.selects RX8 yX8_records yX8_records, Cond.code yX8_records cX8_records 2 none, Cond.fieldLink RX8 61 "CutMarksModel" "undoMany" "I", Cond.methodLink RL 18 yX7_mark, Cond.instanceMethod yX7_mark, Cond.selects RX7 yX7_mark yX7_mark, Cond.code yX7_mark cX7_mark 2 (some .int), Cond.methodLink RX7 65 yX7_readPad, Cond.instanceMethod yX7_readPad, Cond.selects RX7 yX7_readPad yX7_readPad, Cond.code yX7_readPad cX7_readPad 2 (some .int), Cond.methodLink RX7 240 yX2_begin, Cond.instanceMethod yX2_begin, Cond.selects RX2 yX2_begin yX2_begin, Cond.code yX2_begin cX2_begin 2 none, Cond.methodLink RX7 243 yX2_takes, Cond.instanceMethod yX2_takes, Cond.selects RX2 yX2_takes yX2_takes, Cond.code yX2_takes cX2_takes 2 (some .boolean), Cond.methodLink RX2 41 yX2_takesStay, Cond.instanceMethod yX2_takesStay, Cond.selects RX2 yX2_takesStay yX2_takesStay, Cond.code yX2_takesStay cX2_takesStay 1 (some .boolean), Cond.methodLink RX2 45 yX2_takesOpening]
def zA_6 : List Cond := [Cond.instanceMethod yX2_takesOpening, Cond.selects RX2 yX2_takesOpening yX2_takesOpening, Cond.code yX2_takesOpening cX2_takesOpening 2 (some .boolean), Cond.methodLink RX2 49 yX2_takesDigit, Cond.instanceMethod yX2_takesDigit, Cond.selects RX2 yX2_takesDigit yX2_takesDigit, Cond.code yX2_takesDigit cX2_takesDigit 4 (some .boolean), Cond.methodLink RX2 59 yX2_beginsFreePlace, Cond.instanceMethod yX2_beginsFreePlace, Cond.selects RX2 yX2_beginsFreePlace yX2_beginsFreePlace, Cond.code yX2_beginsFreePlace cX2_beginsFreePlace 3 (some .boolean), Cond.methodLink RX2 63 yX2_isFree, Cond.instanceMethod yX2_isFree, Cond.selects RX2 yX2_isFree yX2_isFree, Cond.code yX2_isFree cX2_isFree 2 (some .boolean), Cond.methodLink RX2 53 yX2_endsPlace, Cond.instanceMethod yX2_endsPlace, Cond.selects RX2 yX2_endsPlace yX2_endsPlace, Cond.code yX2_endsPlace cX2_endsPlace 1 (some .boolean), Cond.methodLink RX2 66 yX3_with, Cond.static yX3_with, Cond.initialized RX3, Cond.code yX3_with cX3_with 6 (some .long), Cond.constantLong RX3 15 (15), Cond.constantLong RX3 17 (-1)]
def zA_7 : List Cond := [Cond.methodLink RX2 56 yX2_closesCycle, Cond.instanceMethod yX2_closesCycle, Cond.selects RX2 yX2_closesCycle yX2_closesCycle, Cond.code yX2_closesCycle cX2_closesCycle 1 (some .boolean), Cond.methodLink RX7 247 yX2_mayEnd, Cond.instanceMethod yX2_mayEnd, Cond.selects RX2 yX2_mayEnd yX2_mayEnd, Cond.code yX2_mayEnd cX2_mayEnd 1 (some .boolean), Cond.methodLink RX7 73 yX7_comes, Cond.instanceMethod yX7_comes, Cond.selects RX7 yX7_comes yX7_comes, Cond.code yX7_comes cX7_comes 3 (some .int), Cond.methodLink RX7 230 yX6_addMark, Cond.instanceMethod yX6_addMark, Cond.selects RX6 yX6_addMark yX6_addMark, Cond.code yX6_addMark cX6_addMark 4 (some .int), Cond.methodLink RL 22 yX8_mark, Cond.instanceMethod yX8_mark, Cond.selects RX8 yX8_mark yX8_mark, Cond.code yX8_mark cX8_mark 1 (some .int), Cond.fieldLink RX8 90 "CutMarksModel" "length" "I", Cond.methodLink RX8 86 yX8_faultAt, Cond.instanceMethod yX8_faultAt, Cond.selects RX8 yX8_faultAt yX8_faultAt, Cond.code yX8_faultAt cX8_faultAt 2 (some .int)]
def zA_8 : List Cond := [Cond.fieldLink RX8 194 "CutMarksModel" "at" "I", Cond.fieldLink RX8 206 "CutMarksModel" "isWell" "Z", Cond.methodLink RX8 200 yX8_letter, Cond.instanceMethod yX8_letter, Cond.selects RX8 yX8_letter yX8_letter, Cond.code yX8_letter cX8_letter 1 (some .int), Cond.methodLink RX8 213 yX8_readsCycle, Cond.instanceMethod yX8_readsCycle, Cond.selects RX8 yX8_readsCycle yX8_readsCycle, Cond.code yX8_readsCycle cX8_readsCycle 4 none, Cond.methodLink RX8 210 yX8_place, Cond.instanceMethod yX8_place, Cond.selects RX8 yX8_place yX8_place, Cond.code yX8_place cX8_place 3 (some .int), Cond.methodLink RX8 203 yX8_canBegin, Cond.instanceMethod yX8_canBegin, Cond.selects RX8 yX8_canBegin yX8_canBegin, Cond.code yX8_canBegin cX8_canBegin 4 (some .boolean), Cond.methodLink RX8 197 yX8_isLeft, Cond.instanceMethod yX8_isLeft, Cond.selects RX8 yX8_isLeft yX8_isLeft, Cond.code yX8_isLeft cX8_isLeft 2 (some .boolean), Cond.methodLink RX8 111 yX8_isPlace, Cond.instanceMethod yX8_isPlace, Cond.selects RX8 yX8_isPlace yX8_isPlace]
def zA_9 : List Cond := [Cond.code yX8_isPlace cX8_isPlace 2 (some .boolean), Cond.methodLink RX8 93 yX8_adds, Cond.instanceMethod yX8_adds, Cond.selects RX8 yX8_adds yX8_adds, Cond.code yX8_adds cX8_adds 4 (some .int), Cond.methodLink RL 23 yX7_product, Cond.instanceMethod yX7_product, Cond.selects RX7 yX7_product yX7_product, Cond.code yX7_product cX7_product 3 (some .int), Cond.methodLink RX7 77 yX6_hasMark, Cond.instanceMethod yX6_hasMark, Cond.selects RX6 yX6_hasMark yX6_hasMark, Cond.code yX6_hasMark cX6_hasMark 2 (some .boolean), Cond.methodLink RX7 81 yX6_movesOf, Cond.instanceMethod yX6_movesOf, Cond.selects RX6 yX6_movesOf yX6_movesOf, Cond.code yX6_movesOf cX6_movesOf 2 (some .long), Cond.methodLink RX7 85 yX3_then, Cond.static yX3_then, Cond.code yX3_then cX3_then 7 (some .long), Cond.methodLink RX3 9 yX3_to, Cond.static yX3_to, Cond.code yX3_to cX3_to 3 (some .int), Cond.methodLink RX3 19 yX3_with, Cond.methodLink RL 27 yX8_product]
def zA_10 : List Cond := [Cond.instanceMethod yX8_product, Cond.selects RX8 yX8_product yX8_product, Cond.code yX8_product cX8_product 3 (some .int), Cond.methodLink RX8 68 yX8_isMark, Cond.instanceMethod yX8_isMark, Cond.selects RX8 yX8_isMark yX8_isMark, Cond.code yX8_isMark cX8_isMark 2 (some .boolean), Cond.methodLink RX8 96 yX8_fetches, Cond.instanceMethod yX8_fetches, Cond.selects RX8 yX8_fetches yX8_fetches, Cond.code yX8_fetches cX8_fetches 4 none, Cond.methodLink RX8 72 yX8_goesTo, Cond.instanceMethod yX8_goesTo, Cond.selects RX8 yX8_goesTo yX8_goesTo, Cond.code yX8_goesTo cX8_goesTo 3 (some .int), Cond.methodLink RX8 100 yX8_laysProduct, Cond.instanceMethod yX8_laysProduct, Cond.selects RX8 yX8_laysProduct yX8_laysProduct, Cond.code yX8_laysProduct cX8_laysProduct 5 none, Cond.methodLink RL 28 yX7_power, Cond.instanceMethod yX7_power, Cond.selects RX7 yX7_power yX7_power, Cond.code yX7_power cX7_power 3 (some .int), Cond.methodLink RX7 91 yX7_isPower, Cond.static yX7_isPower]
def zA_11 : List Cond := [Cond.code yX7_isPower cX7_isPower 1 (some .boolean), Cond.methodLink RX7 94 yX3_times, Cond.static yX3_times, Cond.code yX3_times cX3_times 6 (some .long), Cond.methodLink RX3 23 yX3_toAfter, Cond.static yX3_toAfter, Cond.code yX3_toAfter cX3_toAfter 8 (some .int), Cond.methodLink RX3 27 yX3_cycleLength, Cond.static yX3_cycleLength, Cond.code yX3_cycleLength cX3_cycleLength 5 (some .int), Cond.methodLink RX3 30 yJ9_floorMod_7cf53, Cond.static yJ9_floorMod_7cf53, Cond.initialized RJ9, Cond.code yJ9_floorMod_7cf53 cJ9_floorMod_7cf53 3 (some .int), Cond.methodLink RL 31 yX8_power, Cond.instanceMethod yX8_power, Cond.selects RX8 yX8_power yX8_power, Cond.code yX8_power cX8_power 4 (some .int), Cond.methodLink RX8 104 yX8_powered, Cond.instanceMethod yX8_powered, Cond.selects RX8 yX8_powered yX8_powered, Cond.code yX8_powered cX8_powered 7 (some .int), Cond.methodLink RL 32 yX7_trick, Cond.instanceMethod yX7_trick, Cond.selects RX7 yX7_trick yX7_trick]
def zA_12 : List Cond := [Cond.code yX7_trick cX7_trick 1 (some .int), Cond.methodLink RL 35 yX8_trick, Cond.instanceMethod yX8_trick, Cond.selects RX8 yX8_trick yX8_trick, Cond.code yX8_trick cX8_trick 1 (some .int), Cond.methodLink RL 36 yX7_drop, Cond.instanceMethod yX7_drop, Cond.selects RX7 yX7_drop yX7_drop, Cond.code yX7_drop cX7_drop 2 (some .int), Cond.methodLink RX7 101 yX6_removeMark, Cond.instanceMethod yX6_removeMark, Cond.selects RX6 yX6_removeMark yX6_removeMark, Cond.code yX6_removeMark cX6_removeMark 3 none, Cond.methodLink RL 39 yX8_drop, Cond.instanceMethod yX8_drop, Cond.selects RX8 yX8_drop yX8_drop, Cond.code yX8_drop cX8_drop 3 (some .int), Cond.methodLink RL 40 yX7_play, Cond.instanceMethod yX7_play, Cond.selects RX7 yX7_play yX7_play, Cond.code yX7_play cX7_play 2 (some .int), Cond.methodLink RX7 107 yX7_moveDeck, Cond.instanceMethod yX7_moveDeck, Cond.selects RX7 yX7_moveDeck yX7_moveDeck, Cond.code yX7_moveDeck cX7_moveDeck 3 (some .int)]
def zA_13 : List Cond := [Cond.methodLink RX7 130 yX3_from, Cond.static yX3_from, Cond.code yX3_from cX3_from 4 (some .int), Cond.methodLink RL 43 yX8_play, Cond.instanceMethod yX8_play, Cond.selects RX8 yX8_play yX8_play, Cond.code yX8_play cX8_play 2 (some .int), Cond.methodLink RX8 108 yX8_does, Cond.instanceMethod yX8_does, Cond.selects RX8 yX8_does yX8_does, Cond.code yX8_does cX8_does 3 (some .int), Cond.methodLink RL 44 yX7_cut, Cond.instanceMethod yX7_cut, Cond.selects RX7 yX7_cut yX7_cut, Cond.code yX7_cut cX7_cut 2 (some .int), Cond.methodLink RX7 110 yX6_hasPlace, Cond.instanceMethod yX6_hasPlace, Cond.selects RX6 yX6_hasPlace yX6_hasPlace, Cond.code yX6_hasPlace cX6_hasPlace 2 (some .boolean), Cond.methodLink RX7 113 yX5_cutBy, Cond.static yX5_cutBy, Cond.initialized RX5, Cond.code yX5_cutBy cX5_cutBy 5 (some .long), Cond.constantLong RX5 19 (-81985529216486896), Cond.methodLink RX5 7 yX5_cutTo]
def zA_14 : List Cond := [Cond.static yX5_cutTo, Cond.code yX5_cutTo cX5_cutTo 3 (some .int), Cond.methodLink RX5 21 yX3_with, Cond.methodLink RL 47 yX8_cut, Cond.instanceMethod yX8_cut, Cond.selects RX8 yX8_cut yX8_cut, Cond.code yX8_cut cX8_cut 2 (some .int), Cond.methodLink RX8 114 yX8_laysCut, Cond.instanceMethod yX8_laysCut, Cond.selects RX8 yX8_laysCut yX8_laysCut, Cond.code yX8_laysCut cX8_laysCut 4 none, Cond.methodLink RL 48 yX7_riffle, Cond.instanceMethod yX7_riffle, Cond.selects RX7 yX7_riffle yX7_riffle, Cond.code yX7_riffle cX7_riffle 2 (some .int), Cond.methodLink RX7 119 yX5_stepBy, Cond.static yX5_stepBy, Cond.code yX5_stepBy cX5_stepBy 5 (some .long), Cond.methodLink RX5 25 yX5_stepTo, Cond.static yX5_stepTo, Cond.code yX5_stepTo cX5_stepTo 3 (some .int), Cond.methodLink RX5 13 yX5_riffleTo, Cond.static yX5_riffleTo, Cond.code yX5_riffleTo cX5_riffleTo 5 (some .int), Cond.methodLink RL 51 yX8_riffle]
def zA_15 : List Cond := [Cond.instanceMethod yX8_riffle, Cond.selects RX8 yX8_riffle yX8_riffle, Cond.code yX8_riffle cX8_riffle 2 (some .int), Cond.methodLink RX8 117 yX8_laysRiffle, Cond.instanceMethod yX8_laysRiffle, Cond.selects RX8 yX8_laysRiffle yX8_laysRiffle, Cond.code yX8_laysRiffle cX8_laysRiffle 6 none, Cond.methodLink RL 52 yX7_turn, Cond.instanceMethod yX7_turn, Cond.selects RX7 yX7_turn yX7_turn, Cond.code yX7_turn cX7_turn 1 (some .int), Cond.methodLink RL 55 yX8_turn, Cond.instanceMethod yX8_turn, Cond.selects RX8 yX8_turn yX8_turn, Cond.code yX8_turn cX8_turn 1 (some .int), Cond.methodLink RX8 121 yX8_laysTurn, Cond.instanceMethod yX8_laysTurn, Cond.selects RX8 yX8_laysTurn yX8_laysTurn, Cond.code yX8_laysTurn cX8_laysTurn 3 none, Cond.methodLink RL 56 yX7_restart, Cond.instanceMethod yX7_restart, Cond.selects RX7 yX7_restart yX7_restart, Cond.code yX7_restart cX7_restart 2 (some .int), Cond.constantLong RX7 125 (-81985529216486896), Cond.methodLink RX7 122 yX7_placesMoved]
def zA_16 : List Cond := [Cond.instanceMethod yX7_placesMoved, Cond.selects RX7 yX7_placesMoved yX7_placesMoved, Cond.code yX7_placesMoved cX7_placesMoved 1 (some .int), Cond.methodLink RX7 153 yX3_fixedPlaces, Cond.static yX3_fixedPlaces, Cond.code yX3_fixedPlaces cX3_fixedPlaces 5 (some .int), Cond.methodLink RX7 185 yJ6_bitCount_0f7a4, Cond.static yJ6_bitCount_0f7a4, Cond.initialized RJ6, Cond.code yJ6_bitCount_0f7a4 cJ6_bitCount_0f7a4 1 (some .int), Cond.constant RJ6 265 (1431655765), Cond.constant RJ6 266 (858993459), Cond.constant RJ6 267 (252645135), Cond.methodLink RL 59 yX8_restart, Cond.instanceMethod yX8_restart, Cond.selects RX8 yX8_restart yX8_restart, Cond.code yX8_restart cX8_restart 3 (some .int), Cond.methodLink RX8 125 yX8_moved, Cond.instanceMethod yX8_moved, Cond.selects RX8 yX8_moved yX8_moved, Cond.code yX8_moved cX8_moved 3 (some .int), Cond.methodLink RL 60 yX7_at, Cond.instanceMethod yX7_at, Cond.selects RX7 yX7_at yX7_at, Cond.code yX7_at cX7_at 2 (some .int)]
def zA_17 : List Cond := [Cond.methodLink RL 63 yX8_at, Cond.instanceMethod yX8_at, Cond.selects RX8 yX8_at yX8_at, Cond.code yX8_at cX8_at 2 (some .int), Cond.methodLink RL 64 yX7_where, Cond.instanceMethod yX7_where, Cond.selects RX7 yX7_where yX7_where, Cond.code yX7_where cX7_where 2 (some .int), Cond.methodLink RX7 134 yX3_to, Cond.methodLink RL 67 yX8_where, Cond.instanceMethod yX8_where, Cond.selects RX8 yX8_where yX8_where, Cond.code yX8_where cX8_where 4 (some .int), Cond.methodLink RL 68 yX7_of, Cond.instanceMethod yX7_of, Cond.selects RX7 yX7_of yX7_of, Cond.code yX7_of cX7_of 5 (some .int), Cond.methodLink RX7 137 yX7_isMarkOrTrick, Cond.instanceMethod yX7_isMarkOrTrick, Cond.selects RX7 yX7_isMarkOrTrick yX7_isMarkOrTrick, Cond.code yX7_isMarkOrTrick cX7_isMarkOrTrick 2 (some .boolean), Cond.methodLink RX7 140 yX7_markOrTrick, Cond.instanceMethod yX7_markOrTrick, Cond.selects RX7 yX7_markOrTrick yX7_markOrTrick, Cond.code yX7_markOrTrick cX7_markOrTrick 2 (some .long)]
def zA_18 : List Cond := [Cond.methodLink RX7 143 yX1_tell, Cond.instanceMethod yX1_tell, Cond.selects RX1 yX1_tell yX1_tell, Cond.code yX1_tell cX1_tell 9 none, Cond.methodLink RX1 15 yX3_cycleLength, Cond.methodLink RX1 21 yX3_to, Cond.methodLink RX1 24 yX1_add, Cond.instanceMethod yX1_add, Cond.selects RX1 yX1_add yX1_add, Cond.code yX1_add cX1_add 2 none, Cond.methodLink RX7 147 yX1_order, Cond.instanceMethod yX1_order, Cond.selects RX1 yX1_order yX1_order, Cond.code yX1_order cX1_order 3 (some .int), Cond.methodLink RX1 28 yX1_leastMultiple, Cond.static yX1_leastMultiple, Cond.code yX1_leastMultiple cX1_leastMultiple 3 (some .int), Cond.methodLink RX7 150 yX1_howMany, Cond.instanceMethod yX1_howMany, Cond.selects RX1 yX1_howMany yX1_howMany, Cond.code yX1_howMany cX1_howMany 3 (some .int), Cond.methodLink RX7 156 yX1_longest, Cond.instanceMethod yX1_longest, Cond.selects RX1 yX1_longest yX1_longest, Cond.code yX1_longest cX1_longest 3 (some .int)]
def zA_19 : List Cond := [Cond.methodLink RX7 159 yX7_cutsThatStay, Cond.instanceMethod yX7_cutsThatStay, Cond.selects RX7 yX7_cutsThatStay yX7_cutsThatStay, Cond.code yX7_cutsThatStay cX7_cutsThatStay 5 (some .int), Cond.methodLink RX7 195 yX5_becomesBy, Cond.static yX5_becomesBy, Cond.code yX5_becomesBy cX5_becomesBy 7 (some .long), Cond.methodLink RX5 28 yX3_to, Cond.methodLink RX7 162 yX3_inverse, Cond.static yX3_inverse, Cond.code yX3_inverse cX3_inverse 5 (some .long), Cond.methodLink RX7 166 yX6_lowestMark, Cond.instanceMethod yX6_lowestMark, Cond.selects RX6 yX6_lowestMark yX6_lowestMark, Cond.code yX6_lowestMark cX6_lowestMark 4 (some .int), Cond.methodLink RL 71 yX8_of, Cond.instanceMethod yX8_of, Cond.selects RX8 yX8_of yX8_of, Cond.code yX8_of cX8_of 3 (some .int), Cond.methodLink RX8 135 yX8_isMarkOrTrick, Cond.instanceMethod yX8_isMarkOrTrick, Cond.selects RX8 yX8_isMarkOrTrick yX8_isMarkOrTrick, Cond.code yX8_isMarkOrTrick cX8_isMarkOrTrick 2 (some .boolean), Cond.methodLink RX8 138 yX8_order, Cond.instanceMethod yX8_order]
def zA_20 : List Cond := [Cond.selects RX8 yX8_order yX8_order, Cond.code yX8_order cX8_order 4 (some .int), Cond.methodLink RX8 76 yX8_cycles, Cond.instanceMethod yX8_cycles, Cond.selects RX8 yX8_cycles yX8_cycles, Cond.code yX8_cycles cX8_cycles 6 (some .int), Cond.methodLink RX8 80 yX8_common, Cond.static yX8_common, Cond.code yX8_common cX8_common 5 (some .int), Cond.methodLink RX8 141 yX8_fixed, Cond.instanceMethod yX8_fixed, Cond.selects RX8 yX8_fixed yX8_fixed, Cond.code yX8_fixed cX8_fixed 4 (some .int), Cond.methodLink RX8 144 yX8_longest, Cond.instanceMethod yX8_longest, Cond.selects RX8 yX8_longest yX8_longest, Cond.code yX8_longest cX8_longest 4 (some .int), Cond.methodLink RX8 147 yX8_cutsWith, Cond.instanceMethod yX8_cutsWith, Cond.selects RX8 yX8_cutsWith yX8_cutsWith, Cond.code yX8_cutsWith cX8_cutsWith 4 (some .int), Cond.methodLink RX8 128 yX8_doCommute, Cond.instanceMethod yX8_doCommute, Cond.selects RX8 yX8_doCommute yX8_doCommute, Cond.code yX8_doCommute cX8_doCommute 5 (some .boolean)]
def zA_21 : List Cond := [Cond.methodLink RX8 150 yX8_laysInverse, Cond.instanceMethod yX8_laysInverse, Cond.selects RX8 yX8_laysInverse yX8_laysInverse, Cond.code yX8_laysInverse cX8_laysInverse 4 none, Cond.methodLink RX8 154 yX8_markAs, Cond.instanceMethod yX8_markAs, Cond.selects RX8 yX8_markAs yX8_markAs, Cond.code yX8_markAs cX8_markAs 3 (some .int), Cond.methodLink RX8 132 yX8_areAlike, Cond.instanceMethod yX8_areAlike, Cond.selects RX8 yX8_areAlike yX8_areAlike, Cond.code yX8_areAlike cX8_areAlike 5 (some .boolean), Cond.methodLink RL 72 yX7_image, Cond.instanceMethod yX7_image, Cond.selects RX7 yX7_image yX7_image, Cond.code yX7_image cX7_image 4 (some .int), Cond.methodLink RX7 169 yX3_toAfter, Cond.methodLink RL 76 yX8_image, Cond.instanceMethod yX8_image, Cond.selects RX8 yX8_image yX8_image, Cond.code yX8_image cX8_image 4 (some .int), Cond.methodLink RL 77 yX7_commuting, Cond.instanceMethod yX7_commuting, Cond.selects RX7 yX7_commuting yX7_commuting, Cond.code yX7_commuting cX7_commuting 2 (some .long)]
def zA_22 : List Cond := [Cond.constantLong RX7 173 (-1), Cond.methodLink RX7 175 yX1_marksThatCommute, Cond.instanceMethod yX1_marksThatCommute, Cond.selects RX1 yX1_marksThatCommute yX1_marksThatCommute, Cond.code yX1_marksThatCommute cX1_marksThatCommute 5 (some .long), Cond.methodLink RL 81 yX8_commuting, Cond.instanceMethod yX8_commuting, Cond.selects RX8 yX8_commuting yX8_commuting, Cond.code yX8_commuting cX8_commuting 6 (some .long), Cond.constantLong RX8 157 (-1), Cond.methodLink RL 82 yX7_commute, Cond.instanceMethod yX7_commute, Cond.selects RX7 yX7_commute yX7_commute, Cond.code yX7_commute cX7_commute 7 (some .int), Cond.methodLink RL 85 yX8_commute, Cond.instanceMethod yX8_commute, Cond.selects RX8 yX8_commute yX8_commute, Cond.code yX8_commute cX8_commute 3 (some .int), Cond.methodLink RL 86 yX7_count, Cond.instanceMethod yX7_count, Cond.selects RX7 yX7_count yX7_count, Cond.code yX7_count cX7_count 2 (some .int), Cond.methodLink RL 89 yX8_count, Cond.instanceMethod yX8_count, Cond.selects RX8 yX8_count yX8_count]
def zA_23 : List Cond := [Cond.code yX8_count cX8_count 2 (some .int), Cond.methodLink RX8 159 yX8_inPlace, Cond.instanceMethod yX8_inPlace, Cond.selects RX8 yX8_inPlace yX8_inPlace, Cond.code yX8_inPlace cX8_inPlace 3 (some .int), Cond.methodLink RX8 162 yX8_isInOrder, Cond.instanceMethod yX8_isInOrder, Cond.selects RX8 yX8_isInOrder yX8_isInOrder, Cond.code yX8_isInOrder cX8_isInOrder 1 (some .boolean), Cond.methodLink RL 90 yX7_spread, Cond.instanceMethod yX7_spread, Cond.selects RX7 yX7_spread yX7_spread, Cond.code yX7_spread cX7_spread 5 (some .long), Cond.methodLink RX7 179 yX0_ofDouble, Cond.static yX0_ofDouble, Cond.initialized RX0, Cond.code yX0_ofDouble cX0_ofDouble 7 (some .long), Cond.constantDouble RX0 7 (4611686018427387904), Cond.constantDouble RX0 11 (4841369599423283200), Cond.methodLink RL 94 yX8_spread, Cond.instanceMethod yX8_spread, Cond.selects RX8 yX8_spread yX8_spread, Cond.code yX8_spread cX8_spread 5 (some .long), Cond.methodLink RX8 166 yJxe99ae_doubleToLongBits_ccdee, Cond.static yJxe99ae_doubleToLongBits_ccdee]
def zA_24 : List Cond := [Cond.initialized RJxe99ae, Cond.code yJxe99ae_doubleToLongBits_ccdee cJxe99ae_doubleToLongBits_ccdee 2 (some .long), Cond.methodLink RJxe99ae 134 ⟨"java/lang/Double", "doubleToRawLongBits", "(D)J"⟩, Cond.native ⟨"java/lang/Double", "doubleToRawLongBits", "(D)J"⟩, Cond.static ⟨"java/lang/Double", "doubleToRawLongBits", "(D)J"⟩, Cond.constantLong RJxe99ae 137 (9221120237041090560), Cond.methodLink RJxe99ae 122 yJxe99ae_isNaN_b9ae7, Cond.static yJxe99ae_isNaN_b9ae7, Cond.code yJxe99ae_isNaN_b9ae7 cJxe99ae_isNaN_b9ae7 2 (some .boolean), Cond.methodLink RL 95 yX7_share, Cond.instanceMethod yX7_share, Cond.selects RX7 yX7_share yX7_share, Cond.code yX7_share cX7_share 2 (some .int), Cond.methodLink RX7 191 yX0_ofShare, Cond.static yX0_ofShare, Cond.code yX0_ofShare cX0_ofShare 4 (some .int), Cond.constantFloat RX0 13 (1258291200), Cond.methodLink RL 98 yX8_share, Cond.instanceMethod yX8_share, Cond.selects RX8 yX8_share yX8_share, Cond.code yX8_share cX8_share 3 (some .int), Cond.methodLink RX8 172 yJxf58ca_floatToIntBits_5c35a, Cond.static yJxf58ca_floatToIntBits_5c35a, Cond.initialized RJxf58ca, Cond.code yJxf58ca_floatToIntBits_5c35a cJxf58ca_floatToIntBits_5c35a 1 (some .int)]
def zA_25 : List Cond := [Cond.methodLink RJxf58ca 74 ⟨"java/lang/Float", "floatToRawIntBits", "(F)I"⟩, Cond.native ⟨"java/lang/Float", "floatToRawIntBits", "(F)I"⟩, Cond.static ⟨"java/lang/Float", "floatToRawIntBits", "(F)I"⟩, Cond.constant RJxf58ca 77 (2143289344), Cond.methodLink RJxf58ca 59 yJxf58ca_isNaN_12338, Cond.static yJxf58ca_isNaN_12338, Cond.code yJxf58ca_isNaN_12338 cJxf58ca_isNaN_12338 1 (some .boolean), Cond.methodLink RL 99 yX7_byCut, Cond.instanceMethod yX7_byCut, Cond.selects RX7 yX7_byCut yX7_byCut, Cond.code yX7_byCut cX7_byCut 4 (some .int), Cond.methodLink RL 102 yX8_byCut, Cond.instanceMethod yX8_byCut, Cond.selects RX8 yX8_byCut yX8_byCut, Cond.code yX8_byCut cX8_byCut 4 (some .int), Cond.methodLink RX8 178 yX8_laysByCut, Cond.instanceMethod yX8_laysByCut, Cond.selects RX8 yX8_laysByCut yX8_laysByCut, Cond.code yX8_laysByCut cX8_laysByCut 4 none, Cond.methodLink RL 103 yX7_becomes, Cond.instanceMethod yX7_becomes, Cond.selects RX7 yX7_becomes yX7_becomes, Cond.code yX7_becomes cX7_becomes 3 (some .int), Cond.methodLink RL 106 yX8_becomes, Cond.instanceMethod yX8_becomes]
def zA_26 : List Cond := [Cond.selects RX8 yX8_becomes yX8_becomes, Cond.code yX8_becomes cX8_becomes 3 (some .int), Cond.methodLink RL 107 yX7_ordersIn, Cond.instanceMethod yX7_ordersIn, Cond.selects RX7 yX7_ordersIn yX7_ordersIn, Cond.code yX7_ordersIn cX7_ordersIn 8 (some .int), Cond.methodLink RL 110 yX8_ordersIn, Cond.instanceMethod yX8_ordersIn, Cond.selects RX8 yX8_ordersIn yX8_ordersIn, Cond.code yX8_ordersIn cX8_ordersIn 5 (some .int), Cond.methodLink RL 111 yX7_fewestSteps, Cond.instanceMethod yX7_fewestSteps, Cond.selects RX7 yX7_fewestSteps yX7_fewestSteps, Cond.code yX7_fewestSteps cX7_fewestSteps 2 (some .int), Cond.methodLink RX7 199 yX7_lowestWay, Cond.instanceMethod yX7_lowestWay, Cond.selects RX7 yX7_lowestWay yX7_lowestWay, Cond.code yX7_lowestWay cX7_lowestWay 4 (some .int), Cond.methodLink RX7 233 yX7_ordersDeck, Cond.instanceMethod yX7_ordersDeck, Cond.selects RX7 yX7_ordersDeck yX7_ordersDeck, Cond.code yX7_ordersDeck cX7_ordersDeck 6 (some .boolean), Cond.methodLink RX7 205 yX7_stepOfWay, Cond.static yX7_stepOfWay, Cond.code yX7_stepOfWay cX7_stepOfWay 3 (some .int)]
def zA_27 : List Cond := [Cond.methodLink RX7 237 yX5_stepTo, Cond.methodLink RL 114 yX8_fewestSteps, Cond.instanceMethod yX8_fewestSteps, Cond.selects RX8 yX8_fewestSteps yX8_fewestSteps, Cond.code yX8_fewestSteps cX8_fewestSteps 2 (some .int), Cond.methodLink RX8 189 yX8_leastSteps, Cond.instanceMethod yX8_leastSteps, Cond.selects RX8 yX8_leastSteps yX8_leastSteps, Cond.code yX8_leastSteps cX8_leastSteps 3 (some .int), Cond.methodLink RX8 185 yX8_areOrdering, Cond.instanceMethod yX8_areOrdering, Cond.selects RX8 yX8_areOrdering yX8_areOrdering, Cond.code yX8_areOrdering cX8_areOrdering 5 (some .boolean), Cond.methodLink RX8 182 yX8_laysStep, Cond.instanceMethod yX8_laysStep, Cond.selects RX8 yX8_laysStep yX8_laysStep, Cond.code yX8_laysStep cX8_laysStep 2 none, Cond.methodLink RL 115 yX7_firstStep, Cond.instanceMethod yX7_firstStep, Cond.selects RX7 yX7_firstStep yX7_firstStep, Cond.code yX7_firstStep cX7_firstStep 2 (some .int), Cond.methodLink RX7 202 yX7_fewestSteps, Cond.methodLink RL 118 yX8_firstStep, Cond.instanceMethod yX8_firstStep, Cond.selects RX8 yX8_firstStep yX8_firstStep]
def zA_28 : List Cond := [Cond.code yX8_firstStep cX8_firstStep 3 (some .int), Cond.methodLink RL 121 yX7_put, Cond.instanceMethod yX7_put, Cond.selects RX7 yX7_put yX7_put, Cond.code yX7_put cX7_put 5 (some .int), Cond.methodLink RX7 209 yX7_charactersIn, Cond.static yX7_charactersIn, Cond.code yX7_charactersIn cX7_charactersIn 4 (some .int), Cond.methodLink RX7 212 yX7_codeAt, Cond.static yX7_codeAt, Cond.code yX7_codeAt cX7_codeAt 3 (some .int), Cond.methodLink RX7 215 yX7_append, Cond.instanceMethod yX7_append, Cond.selects RX7 yX7_append yX7_append, Cond.code yX7_append cX7_append 2 none, Cond.methodLink RL 125 yX8_put, Cond.instanceMethod yX8_put, Cond.selects RX8 yX8_put yX8_put, Cond.code yX8_put cX8_put 8 (some .int), Cond.constantLong RX8 192 (255), Cond.methodLink RL 126 yX7_wipe, Cond.instanceMethod yX7_wipe, Cond.selects RX7 yX7_wipe yX7_wipe, Cond.code yX7_wipe cX7_wipe 2 (some .int), Cond.methodLink RL 129 yX8_wipe]
def zA_29 : List Cond := [Cond.instanceMethod yX8_wipe, Cond.selects RX8 yX8_wipe yX8_wipe, Cond.code yX8_wipe cX8_wipe 2 (some .int), Cond.methodLink RL 130 yX7_fault, Cond.instanceMethod yX7_fault, Cond.selects RX7 yX7_fault yX7_fault, Cond.code yX7_fault cX7_fault 1 (some .int), Cond.methodLink RL 133 yX8_fault, Cond.instanceMethod yX8_fault, Cond.selects RX8 yX8_fault yX8_fault, Cond.code yX8_fault cX8_fault 1 (some .int), Cond.methodLink RL 134 yX7_undo, Cond.instanceMethod yX7_undo, Cond.selects RX7 yX7_undo yX7_undo, Cond.code yX7_undo cX7_undo 1 (some .int), Cond.methodLink RX7 219 yX4_bring, Cond.instanceMethod yX4_bring, Cond.selects RX4 yX4_bring yX4_bring, Cond.code yX4_bring cX4_bring 3 none, Cond.methodLink RL 137 yX8_undo, Cond.instanceMethod yX8_undo, Cond.selects RX8 yX8_undo yX8_undo, Cond.code yX8_undo cX8_undo 2 (some .int), Cond.methodLink RL 138 yX7_save, Cond.instanceMethod yX7_save]
def zA_30 : List Cond := [Cond.selects RX7 yX7_save yX7_save, Cond.code yX7_save cX7_save 2 (some .int), Cond.methodLink RX7 223 yX4_hasPlace, Cond.methodLink RL 141 yX8_save, Cond.instanceMethod yX8_save, Cond.selects RX8 yX8_save yX8_save, Cond.code yX8_save cX8_save 3 (some .int), Cond.methodLink RL 142 yX7_restore, Cond.instanceMethod yX7_restore, Cond.selects RX7 yX7_restore yX7_restore, Cond.code yX7_restore cX7_restore 2 (some .int), Cond.methodLink RX7 227 yX4_isFull, Cond.instanceMethod yX4_isFull, Cond.selects RX4 yX4_isFull yX4_isFull, Cond.code yX4_isFull cX4_isFull 2 (some .boolean), Cond.methodLink RL 145 yX8_restore, Cond.instanceMethod yX8_restore, Cond.selects RX8 yX8_restore yX8_restore, Cond.code yX8_restore cX8_restore 3 (some .int)]
def zC : List Cond := wsX10 ++ (wsX20 ++ (wsX40 ++ (wsX60 ++ (wsX70 ++ (wsX80)))))
def zAll : List Cond := zA_0 ++ (zA_1 ++ (zA_2 ++ (zA_3 ++ (zA_4 ++ (zA_5 ++ (zA_6 ++ (zA_7 ++ (zA_8 ++ (zA_9 ++ (zA_10 ++ (zA_11 ++ (zA_12 ++ (zA_13 ++ (zA_14 ++ (zA_15 ++ (zA_16 ++ (zA_17 ++ (zA_18 ++ (zA_19 ++ (zA_20 ++ (zA_21 ++ (zA_22 ++ (zA_23 ++ (zA_24 ++ (zA_25 ++ (zA_26 ++ (zA_27 ++ (zA_28 ++ (zA_29 ++ (zA_30 ++ (zC)))))))))))))))))))))))))))))))
theorem zc_0 : ∀ w ∈ zA_0, w ∈ zAll := fun _ h => List.mem_append_left _ h
theorem zc_1 : ∀ w ∈ zA_1, w ∈ zAll := fun _ h => List.mem_append_right _ (List.mem_append_left _ h)
theorem zc_2 : ∀ w ∈ zA_2, w ∈ zAll := fun _ h => List.mem_append_right _ (List.mem_append_right _ (List.mem_append_left _ h))
theorem zc_3 : ∀ w ∈ zA_3, w ∈ zAll := fun _ h => List.mem_append_right _ (List.mem_append_right _ (List.mem_append_right _ (List.mem_append_left _ h)))
theorem zc_4 : ∀ w ∈ zA_4, w ∈ zAll := fun _ h => List.mem_append_right _ (List.mem_append_right _ (List.mem_append_right _ (List.mem_append_right _ (List.mem_append_left _ h))))
theorem zc_5 : ∀ w ∈ zA_5, w ∈ zAll := fun _ h => List.mem_append_right _ (List.mem_append_right _ (List.mem_append_right _ (List.mem_append_right _ (List.mem_append_right _ (List.mem_append_left _ h)))))
theorem zc_6 : ∀ w ∈ zA_6, w ∈ zAll := fun _ h => List.mem_append_right _ (List.mem_append_right _ (List.mem_append_right _ (List.mem_append_right _ (List.mem_append_right _ (List.mem_append_right _ (List.mem_append_left _ h))))))
theorem zc_7 : ∀ w ∈ zA_7, w ∈ zAll := fun _ h => List.mem_append_right _ (List.mem_append_right _ (List.mem_append_right _ (List.mem_append_right _ (List.mem_append_right _ (List.mem_append_right _ (List.mem_append_right _ (List.mem_append_left _ h)))))))
theorem zc_8 : ∀ w ∈ zA_8, w ∈ zAll := fun _ h => List.mem_append_right _ (List.mem_append_right _ (List.mem_append_right _ (List.mem_append_right _ (List.mem_append_right _ (List.mem_append_right _ (List.mem_append_right _ (List.mem_append_right _ (List.mem_append_left _ h))))))))
theorem zc_9 : ∀ w ∈ zA_9, w ∈ zAll := fun _ h => List.mem_append_right _ (List.mem_append_right _ (List.mem_append_right _ (List.mem_append_right _ (List.mem_append_right _ (List.mem_append_right _ (List.mem_append_right _ (List.mem_append_right _ (List.mem_append_right _ (List.mem_append_left _ h)))))))))
theorem zc_10 : ∀ w ∈ zA_10, w ∈ zAll := fun _ h => List.mem_append_right _ (List.mem_append_right _ (List.mem_append_right _ (List.mem_append_right _ (List.mem_append_right _ (List.mem_append_right _ (List.mem_append_right _ (List.mem_append_right _ (List.mem_append_right _ (List.mem_append_right _ (List.mem_append_left _ h))))))))))
theorem zc_11 : ∀ w ∈ zA_11, w ∈ zAll := fun _ h => List.mem_append_right _ (List.mem_append_right _ (List.mem_append_right _ (List.mem_append_right _ (List.mem_append_right _ (List.mem_append_right _ (List.mem_append_right _ (List.mem_append_right _ (List.mem_append_right _ (List.mem_append_right _ (List.mem_append_right _ (List.mem_append_left _ h)))))))))))
theorem zc_12 : ∀ w ∈ zA_12, w ∈ zAll := fun _ h => List.mem_append_right _ (List.mem_append_right _ (List.mem_append_right _ (List.mem_append_right _ (List.mem_append_right _ (List.mem_append_right _ (List.mem_append_right _ (List.mem_append_right _ (List.mem_append_right _ (List.mem_append_right _ (List.mem_append_right _ (List.mem_append_right _ (List.mem_append_left _ h))))))))))))
theorem zc_13 : ∀ w ∈ zA_13, w ∈ zAll := fun _ h => List.mem_append_right _ (List.mem_append_right _ (List.mem_append_right _ (List.mem_append_right _ (List.mem_append_right _ (List.mem_append_right _ (List.mem_append_right _ (List.mem_append_right _ (List.mem_append_right _ (List.mem_append_right _ (List.mem_append_right _ (List.mem_append_right _ (List.mem_append_right _ (List.mem_append_left _ h)))))))))))))
theorem zc_14 : ∀ w ∈ zA_14, w ∈ zAll := fun _ h => List.mem_append_right _ (List.mem_append_right _ (List.mem_append_right _ (List.mem_append_right _ (List.mem_append_right _ (List.mem_append_right _ (List.mem_append_right _ (List.mem_append_right _ (List.mem_append_right _ (List.mem_append_right _ (List.mem_append_right _ (List.mem_append_right _ (List.mem_append_right _ (List.mem_append_right _ (List.mem_append_left _ h))))))))))))))
theorem zc_15 : ∀ w ∈ zA_15, w ∈ zAll := fun _ h => List.mem_append_right _ (List.mem_append_right _ (List.mem_append_right _ (List.mem_append_right _ (List.mem_append_right _ (List.mem_append_right _ (List.mem_append_right _ (List.mem_append_right _ (List.mem_append_right _ (List.mem_append_right _ (List.mem_append_right _ (List.mem_append_right _ (List.mem_append_right _ (List.mem_append_right _ (List.mem_append_right _ (List.mem_append_left _ h)))))))))))))))
theorem zc_16 : ∀ w ∈ zA_16, w ∈ zAll := fun _ h => List.mem_append_right _ (List.mem_append_right _ (List.mem_append_right _ (List.mem_append_right _ (List.mem_append_right _ (List.mem_append_right _ (List.mem_append_right _ (List.mem_append_right _ (List.mem_append_right _ (List.mem_append_right _ (List.mem_append_right _ (List.mem_append_right _ (List.mem_append_right _ (List.mem_append_right _ (List.mem_append_right _ (List.mem_append_right _ (List.mem_append_left _ h))))))))))))))))
theorem zc_17 : ∀ w ∈ zA_17, w ∈ zAll := fun _ h => List.mem_append_right _ (List.mem_append_right _ (List.mem_append_right _ (List.mem_append_right _ (List.mem_append_right _ (List.mem_append_right _ (List.mem_append_right _ (List.mem_append_right _ (List.mem_append_right _ (List.mem_append_right _ (List.mem_append_right _ (List.mem_append_right _ (List.mem_append_right _ (List.mem_append_right _ (List.mem_append_right _ (List.mem_append_right _ (List.mem_append_right _ (List.mem_append_left _ h)))))))))))))))))
theorem zc_18 : ∀ w ∈ zA_18, w ∈ zAll := fun _ h => List.mem_append_right _ (List.mem_append_right _ (List.mem_append_right _ (List.mem_append_right _ (List.mem_append_right _ (List.mem_append_right _ (List.mem_append_right _ (List.mem_append_right _ (List.mem_append_right _ (List.mem_append_right _ (List.mem_append_right _ (List.mem_append_right _ (List.mem_append_right _ (List.mem_append_right _ (List.mem_append_right _ (List.mem_append_right _ (List.mem_append_right _ (List.mem_append_right _ (List.mem_append_left _ h))))))))))))))))))
theorem zc_19 : ∀ w ∈ zA_19, w ∈ zAll := fun _ h => List.mem_append_right _ (List.mem_append_right _ (List.mem_append_right _ (List.mem_append_right _ (List.mem_append_right _ (List.mem_append_right _ (List.mem_append_right _ (List.mem_append_right _ (List.mem_append_right _ (List.mem_append_right _ (List.mem_append_right _ (List.mem_append_right _ (List.mem_append_right _ (List.mem_append_right _ (List.mem_append_right _ (List.mem_append_right _ (List.mem_append_right _ (List.mem_append_right _ (List.mem_append_right _ (List.mem_append_left _ h)))))))))))))))))))
theorem zc_20 : ∀ w ∈ zA_20, w ∈ zAll := fun _ h => List.mem_append_right _ (List.mem_append_right _ (List.mem_append_right _ (List.mem_append_right _ (List.mem_append_right _ (List.mem_append_right _ (List.mem_append_right _ (List.mem_append_right _ (List.mem_append_right _ (List.mem_append_right _ (List.mem_append_right _ (List.mem_append_right _ (List.mem_append_right _ (List.mem_append_right _ (List.mem_append_right _ (List.mem_append_right _ (List.mem_append_right _ (List.mem_append_right _ (List.mem_append_right _ (List.mem_append_right _ (List.mem_append_left _ h))))))))))))))))))))
theorem zc_21 : ∀ w ∈ zA_21, w ∈ zAll := fun _ h => List.mem_append_right _ (List.mem_append_right _ (List.mem_append_right _ (List.mem_append_right _ (List.mem_append_right _ (List.mem_append_right _ (List.mem_append_right _ (List.mem_append_right _ (List.mem_append_right _ (List.mem_append_right _ (List.mem_append_right _ (List.mem_append_right _ (List.mem_append_right _ (List.mem_append_right _ (List.mem_append_right _ (List.mem_append_right _ (List.mem_append_right _ (List.mem_append_right _ (List.mem_append_right _ (List.mem_append_right _ (List.mem_append_right _ (List.mem_append_left _ h)))))))))))))))))))))
theorem zc_22 : ∀ w ∈ zA_22, w ∈ zAll := fun _ h => List.mem_append_right _ (List.mem_append_right _ (List.mem_append_right _ (List.mem_append_right _ (List.mem_append_right _ (List.mem_append_right _ (List.mem_append_right _ (List.mem_append_right _ (List.mem_append_right _ (List.mem_append_right _ (List.mem_append_right _ (List.mem_append_right _ (List.mem_append_right _ (List.mem_append_right _ (List.mem_append_right _ (List.mem_append_right _ (List.mem_append_right _ (List.mem_append_right _ (List.mem_append_right _ (List.mem_append_right _ (List.mem_append_right _ (List.mem_append_right _ (List.mem_append_left _ h))))))))))))))))))))))
theorem zc_23 : ∀ w ∈ zA_23, w ∈ zAll := fun _ h => List.mem_append_right _ (List.mem_append_right _ (List.mem_append_right _ (List.mem_append_right _ (List.mem_append_right _ (List.mem_append_right _ (List.mem_append_right _ (List.mem_append_right _ (List.mem_append_right _ (List.mem_append_right _ (List.mem_append_right _ (List.mem_append_right _ (List.mem_append_right _ (List.mem_append_right _ (List.mem_append_right _ (List.mem_append_right _ (List.mem_append_right _ (List.mem_append_right _ (List.mem_append_right _ (List.mem_append_right _ (List.mem_append_right _ (List.mem_append_right _ (List.mem_append_right _ (List.mem_append_left _ h)))))))))))))))))))))))
theorem zc_24 : ∀ w ∈ zA_24, w ∈ zAll := fun _ h => List.mem_append_right _ (List.mem_append_right _ (List.mem_append_right _ (List.mem_append_right _ (List.mem_append_right _ (List.mem_append_right _ (List.mem_append_right _ (List.mem_append_right _ (List.mem_append_right _ (List.mem_append_right _ (List.mem_append_right _ (List.mem_append_right _ (List.mem_append_right _ (List.mem_append_right _ (List.mem_append_right _ (List.mem_append_right _ (List.mem_append_right _ (List.mem_append_right _ (List.mem_append_right _ (List.mem_append_right _ (List.mem_append_right _ (List.mem_append_right _ (List.mem_append_right _ (List.mem_append_right _ (List.mem_append_left _ h))))))))))))))))))))))))
theorem zc_25 : ∀ w ∈ zA_25, w ∈ zAll := fun _ h => List.mem_append_right _ (List.mem_append_right _ (List.mem_append_right _ (List.mem_append_right _ (List.mem_append_right _ (List.mem_append_right _ (List.mem_append_right _ (List.mem_append_right _ (List.mem_append_right _ (List.mem_append_right _ (List.mem_append_right _ (List.mem_append_right _ (List.mem_append_right _ (List.mem_append_right _ (List.mem_append_right _ (List.mem_append_right _ (List.mem_append_right _ (List.mem_append_right _ (List.mem_append_right _ (List.mem_append_right _ (List.mem_append_right _ (List.mem_append_right _ (List.mem_append_right _ (List.mem_append_right _ (List.mem_append_right _ (List.mem_append_left _ h)))))))))))))))))))))))))
theorem zc_26 : ∀ w ∈ zA_26, w ∈ zAll := fun _ h => List.mem_append_right _ (List.mem_append_right _ (List.mem_append_right _ (List.mem_append_right _ (List.mem_append_right _ (List.mem_append_right _ (List.mem_append_right _ (List.mem_append_right _ (List.mem_append_right _ (List.mem_append_right _ (List.mem_append_right _ (List.mem_append_right _ (List.mem_append_right _ (List.mem_append_right _ (List.mem_append_right _ (List.mem_append_right _ (List.mem_append_right _ (List.mem_append_right _ (List.mem_append_right _ (List.mem_append_right _ (List.mem_append_right _ (List.mem_append_right _ (List.mem_append_right _ (List.mem_append_right _ (List.mem_append_right _ (List.mem_append_right _ (List.mem_append_left _ h))))))))))))))))))))))))))
theorem zc_27 : ∀ w ∈ zA_27, w ∈ zAll := fun _ h => List.mem_append_right _ (List.mem_append_right _ (List.mem_append_right _ (List.mem_append_right _ (List.mem_append_right _ (List.mem_append_right _ (List.mem_append_right _ (List.mem_append_right _ (List.mem_append_right _ (List.mem_append_right _ (List.mem_append_right _ (List.mem_append_right _ (List.mem_append_right _ (List.mem_append_right _ (List.mem_append_right _ (List.mem_append_right _ (List.mem_append_right _ (List.mem_append_right _ (List.mem_append_right _ (List.mem_append_right _ (List.mem_append_right _ (List.mem_append_right _ (List.mem_append_right _ (List.mem_append_right _ (List.mem_append_right _ (List.mem_append_right _ (List.mem_append_right _ (List.mem_append_left _ h)))))))))))))))))))))))))))
theorem zc_28 : ∀ w ∈ zA_28, w ∈ zAll := fun _ h => List.mem_append_right _ (List.mem_append_right _ (List.mem_append_right _ (List.mem_append_right _ (List.mem_append_right _ (List.mem_append_right _ (List.mem_append_right _ (List.mem_append_right _ (List.mem_append_right _ (List.mem_append_right _ (List.mem_append_right _ (List.mem_append_right _ (List.mem_append_right _ (List.mem_append_right _ (List.mem_append_right _ (List.mem_append_right _ (List.mem_append_right _ (List.mem_append_right _ (List.mem_append_right _ (List.mem_append_right _ (List.mem_append_right _ (List.mem_append_right _ (List.mem_append_right _ (List.mem_append_right _ (List.mem_append_right _ (List.mem_append_right _ (List.mem_append_right _ (List.mem_append_right _ (List.mem_append_left _ h))))))))))))))))))))))))))))
theorem zc_29 : ∀ w ∈ zA_29, w ∈ zAll := fun _ h => List.mem_append_right _ (List.mem_append_right _ (List.mem_append_right _ (List.mem_append_right _ (List.mem_append_right _ (List.mem_append_right _ (List.mem_append_right _ (List.mem_append_right _ (List.mem_append_right _ (List.mem_append_right _ (List.mem_append_right _ (List.mem_append_right _ (List.mem_append_right _ (List.mem_append_right _ (List.mem_append_right _ (List.mem_append_right _ (List.mem_append_right _ (List.mem_append_right _ (List.mem_append_right _ (List.mem_append_right _ (List.mem_append_right _ (List.mem_append_right _ (List.mem_append_right _ (List.mem_append_right _ (List.mem_append_right _ (List.mem_append_right _ (List.mem_append_right _ (List.mem_append_right _ (List.mem_append_right _ (List.mem_append_left _ h)))))))))))))))))))))))))))))
theorem zc_30 : ∀ w ∈ zA_30, w ∈ zAll := fun _ h => List.mem_append_right _ (List.mem_append_right _ (List.mem_append_right _ (List.mem_append_right _ (List.mem_append_right _ (List.mem_append_right _ (List.mem_append_right _ (List.mem_append_right _ (List.mem_append_right _ (List.mem_append_right _ (List.mem_append_right _ (List.mem_append_right _ (List.mem_append_right _ (List.mem_append_right _ (List.mem_append_right _ (List.mem_append_right _ (List.mem_append_right _ (List.mem_append_right _ (List.mem_append_right _ (List.mem_append_right _ (List.mem_append_right _ (List.mem_append_right _ (List.mem_append_right _ (List.mem_append_right _ (List.mem_append_right _ (List.mem_append_right _ (List.mem_append_right _ (List.mem_append_right _ (List.mem_append_right _ (List.mem_append_right _ (List.mem_append_left _ h))))))))))))))))))))))))))))))
theorem zc_C : ∀ w ∈ zC, w ∈ zAll := fun _ h => List.mem_append_right _ (List.mem_append_right _ (List.mem_append_right _ (List.mem_append_right _ (List.mem_append_right _ (List.mem_append_right _ (List.mem_append_right _ (List.mem_append_right _ (List.mem_append_right _ (List.mem_append_right _ (List.mem_append_right _ (List.mem_append_right _ (List.mem_append_right _ (List.mem_append_right _ (List.mem_append_right _ (List.mem_append_right _ (List.mem_append_right _ (List.mem_append_right _ (List.mem_append_right _ (List.mem_append_right _ (List.mem_append_right _ (List.mem_append_right _ (List.mem_append_right _ (List.mem_append_right _ (List.mem_append_right _ (List.mem_append_right _ (List.mem_append_right _ (List.mem_append_right _ (List.mem_append_right _ (List.mem_append_right _ (List.mem_append_right _ (h)))))))))))))))))))))))))))))))
theorem zinX1 : ∀ w ∈ wsX10, w ∈ zAll := fun w h => zc_C w (List.mem_append_left _ h)
theorem zinX2 : ∀ w ∈ wsX20, w ∈ zAll := fun w h => zc_C w (List.mem_append_right _ (List.mem_append_left _ h))
theorem zinX4 : ∀ w ∈ wsX40, w ∈ zAll := fun w h => zc_C w (List.mem_append_right _ (List.mem_append_right _ (List.mem_append_left _ h)))
theorem zinX6 : ∀ w ∈ wsX60, w ∈ zAll := fun w h => zc_C w (List.mem_append_right _ (List.mem_append_right _ (List.mem_append_right _ (List.mem_append_left _ h))))
theorem zinX7 : ∀ w ∈ wsX70, w ∈ zAll := fun w h => zc_C w (List.mem_append_right _ (List.mem_append_right _ (List.mem_append_right _ (List.mem_append_right _ (List.mem_append_left _ h)))))
theorem zinX8 : ∀ w ∈ wsX80, w ∈ zAll := fun w h => zc_C w (List.mem_append_right _ (List.mem_append_right _ (List.mem_append_right _ (List.mem_append_right _ (List.mem_append_right _ (h))))))
theorem zw_0 : Cond.classLink RL 7 RX7 ∈ zAll := zc_0 _ (List.mem_of_getElem? (i := 0) rfl)
theorem zw_1 : Cond.instantiable RX7 9 ∈ zAll := zc_0 _ (List.mem_of_getElem? (i := 1) rfl)
theorem zw_2 : Cond.initialized RX7 ∈ zAll := zc_0 _ (List.mem_of_getElem? (i := 2) rfl)
theorem zw_3 : Cond.classLink RL 10 RX8 ∈ zAll := zc_0 _ (List.mem_of_getElem? (i := 3) rfl)
theorem zw_4 : Cond.instantiable RX8 19 ∈ zAll := zc_0 _ (List.mem_of_getElem? (i := 4) rfl)
theorem zw_5 : Cond.initialized RX8 ∈ zAll := zc_0 _ (List.mem_of_getElem? (i := 5) rfl)
theorem zw_6 : Cond.constantLong RL 119 (4294967295) ∈ zAll := zc_0 _ (List.mem_of_getElem? (i := 6) rfl)
theorem zw_7 : Cond.methodLink RL 9 yX7_init ∈ zAll := zc_0 _ (List.mem_of_getElem? (i := 7) rfl)
theorem zw_8 : Cond.instanceMethod yX7_init ∈ zAll := zc_0 _ (List.mem_of_getElem? (i := 8) rfl)
theorem zw_9 : Cond.code yX7_init cX7_init 1 none ∈ zAll := zc_0 _ (List.mem_of_getElem? (i := 9) rfl)
theorem zw_10 : Cond.methodLink RX7 1 objectInit ∈ zAll := zc_0 _ (List.mem_of_getElem? (i := 10) rfl)
theorem zw_11 : Cond.instanceMethod objectInit ∈ zAll := zc_0 _ (List.mem_of_getElem? (i := 11) rfl)
theorem zw_12 : Cond.code objectInit ⟨#[0xb1]⟩ 1 none ∈ zAll := zc_0 _ (List.mem_of_getElem? (i := 12) rfl)
theorem zw_13 : Cond.classLink RX7 7 RX6 ∈ zAll := zc_0 _ (List.mem_of_getElem? (i := 13) rfl)
theorem zw_14 : Cond.instantiable RX6 5 ∈ zAll := zc_0 _ (List.mem_of_getElem? (i := 14) rfl)
theorem zw_15 : Cond.initialized RX6 ∈ zAll := zc_0 _ (List.mem_of_getElem? (i := 15) rfl)
theorem zw_16 : Cond.fieldLink RX7 10 "CutMarks" "table" "LCutMarks$Table;" ∈ zAll := zc_0 _ (List.mem_of_getElem? (i := 16) rfl)
theorem zw_17 : Cond.classLink RX7 16 RX4 ∈ zAll := zc_0 _ (List.mem_of_getElem? (i := 17) rfl)
theorem zw_18 : Cond.instantiable RX4 2 ∈ zAll := zc_0 _ (List.mem_of_getElem? (i := 18) rfl)
theorem zw_19 : Cond.initialized RX4 ∈ zAll := zc_0 _ (List.mem_of_getElem? (i := 19) rfl)
theorem zw_20 : Cond.fieldLink RX7 21 "CutMarks" "history" "LCutMarks$Shelf;" ∈ zAll := zc_0 _ (List.mem_of_getElem? (i := 20) rfl)
theorem zw_21 : Cond.fieldLink RX7 25 "CutMarks" "slots" "LCutMarks$Shelf;" ∈ zAll := zc_0 _ (List.mem_of_getElem? (i := 21) rfl)
theorem zw_22 : Cond.classLink RX7 28 RX1 ∈ zAll := zc_0 _ (List.mem_of_getElem? (i := 22) rfl)
theorem zw_23 : Cond.instantiable RX1 1 ∈ zAll := zc_0 _ (List.mem_of_getElem? (i := 23) rfl)
theorem zw_24 : Cond.initialized RX1 ∈ zAll := zc_0 _ (List.mem_of_getElem? (i := 24) rfl)
theorem zw_25 : Cond.fieldLink RX7 31 "CutMarks" "cycles" "LCutMarks$Cycles;" ∈ zAll := zc_1 _ (List.mem_of_getElem? (i := 0) rfl)
theorem zw_26 : Cond.classLink RX7 35 RX2 ∈ zAll := zc_1 _ (List.mem_of_getElem? (i := 1) rfl)
theorem zw_27 : Cond.instantiable RX2 8 ∈ zAll := zc_1 _ (List.mem_of_getElem? (i := 2) rfl)
theorem zw_28 : Cond.initialized RX2 ∈ zAll := zc_1 _ (List.mem_of_getElem? (i := 3) rfl)
theorem zw_29 : Cond.fieldLink RX7 38 "CutMarks" "reader" "LCutMarks$MarkReader;" ∈ zAll := zc_1 _ (List.mem_of_getElem? (i := 4) rfl)
theorem zw_30 : Cond.arrayClass .char ∈ zAll := zc_1 _ (List.mem_of_getElem? (i := 5) rfl)
theorem zw_31 : Cond.fieldLink RX7 42 "CutMarks" "pad" "[C" ∈ zAll := zc_1 _ (List.mem_of_getElem? (i := 6) rfl)
theorem zw_32 : Cond.fieldLink RX7 46 "CutMarks" "padLength" "I" ∈ zAll := zc_1 _ (List.mem_of_getElem? (i := 7) rfl)
theorem zw_33 : Cond.fieldLink RX7 50 "CutMarks" "undoable" "I" ∈ zAll := zc_1 _ (List.mem_of_getElem? (i := 8) rfl)
theorem zw_34 : Cond.fieldLink RX7 53 "CutMarks" "nextKept" "I" ∈ zAll := zc_1 _ (List.mem_of_getElem? (i := 9) rfl)
theorem zw_35 : Cond.instanceMethod yX6_init ∈ zAll := zc_1 _ (List.mem_of_getElem? (i := 10) rfl)
theorem zw_36 : Cond.code yX6_init cX6_init 1 none ∈ zAll := zc_1 _ (List.mem_of_getElem? (i := 11) rfl)
theorem zw_37 : Cond.methodLink RX6 3 objectInit ∈ zAll := zc_1 _ (List.mem_of_getElem? (i := 12) rfl)
theorem zw_38 : Cond.fieldLink RX6 9 "CutMarks$Table" "size" "I" ∈ zAll := zc_1 _ (List.mem_of_getElem? (i := 13) rfl)
theorem zw_39 : Cond.constantLong RX6 17 (-81985529216486896) ∈ zAll := zc_1 _ (List.mem_of_getElem? (i := 14) rfl)
theorem zw_40 : Cond.fieldLink RX6 19 "CutMarks$Table" "places" "J" ∈ zAll := zc_1 _ (List.mem_of_getElem? (i := 15) rfl)
theorem zw_41 : Cond.fieldLink RX6 23 "CutMarks$Table" "trick" "J" ∈ zAll := zc_1 _ (List.mem_of_getElem? (i := 16) rfl)
theorem zw_42 : Cond.fieldLink RX6 26 "CutMarks$Table" "markCount" "I" ∈ zAll := zc_1 _ (List.mem_of_getElem? (i := 17) rfl)
theorem zw_43 : Cond.arrayClass .long ∈ zAll := zc_1 _ (List.mem_of_getElem? (i := 18) rfl)
theorem zw_44 : Cond.fieldLink RX6 29 "CutMarks$Table" "marks" "[J" ∈ zAll := zc_1 _ (List.mem_of_getElem? (i := 19) rfl)
theorem zw_45 : Cond.methodLink RX7 18 yX4_init ∈ zAll := zc_1 _ (List.mem_of_getElem? (i := 20) rfl)
theorem zw_46 : Cond.instanceMethod yX4_init ∈ zAll := zc_1 _ (List.mem_of_getElem? (i := 21) rfl)
theorem zw_47 : Cond.code yX4_init cX4_init 4 none ∈ zAll := zc_1 _ (List.mem_of_getElem? (i := 22) rfl)
theorem zw_48 : Cond.methodLink RX4 1 objectInit ∈ zAll := zc_1 _ (List.mem_of_getElem? (i := 23) rfl)
theorem zw_49 : Cond.classLink RX4 7 RX6 ∈ zAll := zc_1 _ (List.mem_of_getElem? (i := 24) rfl)
theorem zw_50 : Cond.fieldLink RX4 9 "CutMarks$Shelf" "copies" "[LCutMarks$Table;" ∈ zAll := zc_2 _ (List.mem_of_getElem? (i := 0) rfl)
theorem zw_51 : Cond.arrayClass .boolean ∈ zAll := zc_2 _ (List.mem_of_getElem? (i := 1) rfl)
theorem zw_52 : Cond.fieldLink RX4 15 "CutMarks$Shelf" "full" "[Z" ∈ zAll := zc_2 _ (List.mem_of_getElem? (i := 2) rfl)
theorem zw_53 : Cond.instanceMethod yX1_init ∈ zAll := zc_2 _ (List.mem_of_getElem? (i := 3) rfl)
theorem zw_54 : Cond.code yX1_init cX1_init 1 none ∈ zAll := zc_2 _ (List.mem_of_getElem? (i := 4) rfl)
theorem zw_55 : Cond.methodLink RX1 3 objectInit ∈ zAll := zc_2 _ (List.mem_of_getElem? (i := 5) rfl)
theorem zw_56 : Cond.arrayClass .int ∈ zAll := zc_2 _ (List.mem_of_getElem? (i := 6) rfl)
theorem zw_57 : Cond.fieldLink RX1 9 "CutMarks$Cycles" "counts" "[I" ∈ zAll := zc_2 _ (List.mem_of_getElem? (i := 7) rfl)
theorem zw_58 : Cond.instanceMethod yX2_init ∈ zAll := zc_2 _ (List.mem_of_getElem? (i := 8) rfl)
theorem zw_59 : Cond.code yX2_init cX2_init 1 none ∈ zAll := zc_2 _ (List.mem_of_getElem? (i := 9) rfl)
theorem zw_60 : Cond.methodLink RX2 3 objectInit ∈ zAll := zc_2 _ (List.mem_of_getElem? (i := 10) rfl)
theorem zw_61 : Cond.fieldLink RX2 9 "CutMarks$MarkReader" "size" "I" ∈ zAll := zc_2 _ (List.mem_of_getElem? (i := 11) rfl)
theorem zw_62 : Cond.fieldLink RX2 15 "CutMarks$MarkReader" "state" "I" ∈ zAll := zc_2 _ (List.mem_of_getElem? (i := 12) rfl)
theorem zw_63 : Cond.constantLong RX2 20 (-81985529216486896) ∈ zAll := zc_2 _ (List.mem_of_getElem? (i := 13) rfl)
theorem zw_64 : Cond.fieldLink RX2 22 "CutMarks$MarkReader" "moves" "J" ∈ zAll := zc_2 _ (List.mem_of_getElem? (i := 14) rfl)
theorem zw_65 : Cond.fieldLink RX2 26 "CutMarks$MarkReader" "used" "I" ∈ zAll := zc_2 _ (List.mem_of_getElem? (i := 15) rfl)
theorem zw_66 : Cond.fieldLink RX2 29 "CutMarks$MarkReader" "digits" "I" ∈ zAll := zc_2 _ (List.mem_of_getElem? (i := 16) rfl)
theorem zw_67 : Cond.fieldLink RX2 32 "CutMarks$MarkReader" "inCycle" "I" ∈ zAll := zc_2 _ (List.mem_of_getElem? (i := 17) rfl)
theorem zw_68 : Cond.fieldLink RX2 35 "CutMarks$MarkReader" "first" "I" ∈ zAll := zc_2 _ (List.mem_of_getElem? (i := 18) rfl)
theorem zw_69 : Cond.fieldLink RX2 38 "CutMarks$MarkReader" "last" "I" ∈ zAll := zc_2 _ (List.mem_of_getElem? (i := 19) rfl)
theorem zw_70 : Cond.methodLink RL 12 yX8_init ∈ zAll := zc_2 _ (List.mem_of_getElem? (i := 20) rfl)
theorem zw_71 : Cond.instanceMethod yX8_init ∈ zAll := zc_2 _ (List.mem_of_getElem? (i := 21) rfl)
theorem zw_72 : Cond.code yX8_init cX8_init 1 none ∈ zAll := zc_2 _ (List.mem_of_getElem? (i := 22) rfl)
theorem zw_73 : Cond.methodLink RX8 1 objectInit ∈ zAll := zc_2 _ (List.mem_of_getElem? (i := 23) rfl)
theorem zw_74 : Cond.fieldLink RX8 7 "CutMarksModel" "s" "[I" ∈ zAll := zc_2 _ (List.mem_of_getElem? (i := 24) rfl)
theorem zw_75 : Cond.fieldLink RX8 13 "CutMarksModel" "undos" "[I" ∈ zAll := zc_3 _ (List.mem_of_getElem? (i := 0) rfl)
theorem zw_76 : Cond.fieldLink RX8 16 "CutMarksModel" "slots" "[I" ∈ zAll := zc_3 _ (List.mem_of_getElem? (i := 1) rfl)
theorem zw_77 : Cond.fieldLink RX8 19 "CutMarksModel" "hasSlot" "[Z" ∈ zAll := zc_3 _ (List.mem_of_getElem? (i := 2) rfl)
theorem zw_78 : Cond.fieldLink RX8 23 "CutMarksModel" "pad" "[I" ∈ zAll := zc_3 _ (List.mem_of_getElem? (i := 3) rfl)
theorem zw_79 : Cond.fieldLink RX8 26 "CutMarksModel" "told" "[I" ∈ zAll := zc_3 _ (List.mem_of_getElem? (i := 4) rfl)
theorem zw_80 : Cond.fieldLink RX8 29 "CutMarksModel" "isIn" "[Z" ∈ zAll := zc_3 _ (List.mem_of_getElem? (i := 5) rfl)
theorem zw_81 : Cond.fieldLink RX8 32 "CutMarksModel" "one" "[I" ∈ zAll := zc_3 _ (List.mem_of_getElem? (i := 6) rfl)
theorem zw_82 : Cond.fieldLink RX8 35 "CutMarksModel" "two" "[I" ∈ zAll := zc_3 _ (List.mem_of_getElem? (i := 7) rfl)
theorem zw_83 : Cond.fieldLink RX8 38 "CutMarksModel" "three" "[I" ∈ zAll := zc_3 _ (List.mem_of_getElem? (i := 8) rfl)
theorem zw_84 : Cond.fieldLink RX8 41 "CutMarksModel" "cards" "[I" ∈ zAll := zc_3 _ (List.mem_of_getElem? (i := 9) rfl)
theorem zw_85 : Cond.fieldLink RX8 44 "CutMarksModel" "next" "[I" ∈ zAll := zc_3 _ (List.mem_of_getElem? (i := 10) rfl)
theorem zw_86 : Cond.fieldLink RX8 47 "CutMarksModel" "seen" "[Z" ∈ zAll := zc_3 _ (List.mem_of_getElem? (i := 11) rfl)
theorem zw_87 : Cond.fieldLink RX8 50 "CutMarksModel" "lengths" "[I" ∈ zAll := zc_3 _ (List.mem_of_getElem? (i := 12) rfl)
theorem zw_88 : Cond.fieldLink RX8 53 "CutMarksModel" "thrown" "I" ∈ zAll := zc_3 _ (List.mem_of_getElem? (i := 13) rfl)
theorem zw_89 : Cond.methodLink RX8 57 yX8_begins ∈ zAll := zc_3 _ (List.mem_of_getElem? (i := 14) rfl)
theorem zw_90 : Cond.instanceMethod yX8_begins ∈ zAll := zc_3 _ (List.mem_of_getElem? (i := 15) rfl)
theorem zw_91 : Cond.selects RX8 yX8_begins yX8_begins ∈ zAll := zc_3 _ (List.mem_of_getElem? (i := 16) rfl)
theorem zw_92 : Cond.code yX8_begins cX8_begins 3 none ∈ zAll := zc_3 _ (List.mem_of_getElem? (i := 17) rfl)
theorem zw_93 : Cond.methodLink RL 13 yX7_set ∈ zAll := zc_3 _ (List.mem_of_getElem? (i := 18) rfl)
theorem zw_94 : Cond.instanceMethod yX7_set ∈ zAll := zc_3 _ (List.mem_of_getElem? (i := 19) rfl)
theorem zw_95 : Cond.selects RX7 yX7_set yX7_set ∈ zAll := zc_3 _ (List.mem_of_getElem? (i := 20) rfl)
theorem zw_96 : Cond.code yX7_set cX7_set 3 (some .int) ∈ zAll := zc_3 _ (List.mem_of_getElem? (i := 21) rfl)
theorem zw_97 : Cond.methodLink RX7 59 yX7_keepForUndo ∈ zAll := zc_3 _ (List.mem_of_getElem? (i := 22) rfl)
theorem zw_98 : Cond.instanceMethod yX7_keepForUndo ∈ zAll := zc_3 _ (List.mem_of_getElem? (i := 23) rfl)
theorem zw_99 : Cond.selects RX7 yX7_keepForUndo yX7_keepForUndo ∈ zAll := zc_3 _ (List.mem_of_getElem? (i := 24) rfl)
theorem zw_100 : Cond.code yX7_keepForUndo cX7_keepForUndo 1 none ∈ zAll := zc_4 _ (List.mem_of_getElem? (i := 0) rfl)
theorem zw_101 : Cond.methodLink RX7 224 yX4_keep ∈ zAll := zc_4 _ (List.mem_of_getElem? (i := 1) rfl)
theorem zw_102 : Cond.instanceMethod yX4_keep ∈ zAll := zc_4 _ (List.mem_of_getElem? (i := 2) rfl)
theorem zw_103 : Cond.selects RX4 yX4_keep yX4_keep ∈ zAll := zc_4 _ (List.mem_of_getElem? (i := 3) rfl)
theorem zw_104 : Cond.code yX4_keep cX4_keep 3 none ∈ zAll := zc_4 _ (List.mem_of_getElem? (i := 4) rfl)
theorem zw_105 : Cond.methodLink RX4 20 yX4_hasPlace ∈ zAll := zc_4 _ (List.mem_of_getElem? (i := 5) rfl)
theorem zw_106 : Cond.instanceMethod yX4_hasPlace ∈ zAll := zc_4 _ (List.mem_of_getElem? (i := 6) rfl)
theorem zw_107 : Cond.selects RX4 yX4_hasPlace yX4_hasPlace ∈ zAll := zc_4 _ (List.mem_of_getElem? (i := 7) rfl)
theorem zw_108 : Cond.code yX4_hasPlace cX4_hasPlace 2 (some .boolean) ∈ zAll := zc_4 _ (List.mem_of_getElem? (i := 8) rfl)
theorem zw_109 : Cond.methodLink RX4 24 yX6_copyFrom ∈ zAll := zc_4 _ (List.mem_of_getElem? (i := 9) rfl)
theorem zw_110 : Cond.instanceMethod yX6_copyFrom ∈ zAll := zc_4 _ (List.mem_of_getElem? (i := 10) rfl)
theorem zw_111 : Cond.selects RX6 yX6_copyFrom yX6_copyFrom ∈ zAll := zc_4 _ (List.mem_of_getElem? (i := 11) rfl)
theorem zw_112 : Cond.code yX6_copyFrom cX6_copyFrom 3 none ∈ zAll := zc_4 _ (List.mem_of_getElem? (i := 12) rfl)
theorem zw_113 : Cond.methodLink RX7 62 yX6_layInOrder ∈ zAll := zc_4 _ (List.mem_of_getElem? (i := 13) rfl)
theorem zw_114 : Cond.instanceMethod yX6_layInOrder ∈ zAll := zc_4 _ (List.mem_of_getElem? (i := 14) rfl)
theorem zw_115 : Cond.selects RX6 yX6_layInOrder yX6_layInOrder ∈ zAll := zc_4 _ (List.mem_of_getElem? (i := 15) rfl)
theorem zw_116 : Cond.code yX6_layInOrder cX6_layInOrder 2 none ∈ zAll := zc_4 _ (List.mem_of_getElem? (i := 16) rfl)
theorem zw_117 : Cond.methodLink RL 17 yX8_set ∈ zAll := zc_4 _ (List.mem_of_getElem? (i := 17) rfl)
theorem zw_118 : Cond.instanceMethod yX8_set ∈ zAll := zc_4 _ (List.mem_of_getElem? (i := 18) rfl)
theorem zw_119 : Cond.selects RX8 yX8_set yX8_set ∈ zAll := zc_4 _ (List.mem_of_getElem? (i := 19) rfl)
theorem zw_120 : Cond.code yX8_set cX8_set 3 (some .int) ∈ zAll := zc_4 _ (List.mem_of_getElem? (i := 20) rfl)
theorem zw_121 : Cond.methodLink RX8 64 yX8_in ∈ zAll := zc_4 _ (List.mem_of_getElem? (i := 21) rfl)
theorem zw_122 : Cond.static yX8_in ∈ zAll := zc_4 _ (List.mem_of_getElem? (i := 22) rfl)
theorem zw_123 : Cond.code yX8_in cX8_in 3 (some .boolean) ∈ zAll := zc_4 _ (List.mem_of_getElem? (i := 23) rfl)
theorem zw_124 : Cond.methodLink RX8 83 yX8_records ∈ zAll := zc_4 _ (List.mem_of_getElem? (i := 24) rfl)
theorem zw_125 : Cond.instanceMethod yX8_records ∈ zAll := zc_5 _ (List.mem_of_getElem? (i := 0) rfl)
theorem zw_126 : Cond.selects RX8 yX8_records yX8_records ∈ zAll := zc_5 _ (List.mem_of_getElem? (i := 1) rfl)
theorem zw_127 : Cond.code yX8_records cX8_records 2 none ∈ zAll := zc_5 _ (List.mem_of_getElem? (i := 2) rfl)
theorem zw_128 : Cond.fieldLink RX8 61 "CutMarksModel" "undoMany" "I" ∈ zAll := zc_5 _ (List.mem_of_getElem? (i := 3) rfl)
theorem zw_129 : Cond.methodLink RL 18 yX7_mark ∈ zAll := zc_5 _ (List.mem_of_getElem? (i := 4) rfl)
theorem zw_130 : Cond.instanceMethod yX7_mark ∈ zAll := zc_5 _ (List.mem_of_getElem? (i := 5) rfl)
theorem zw_131 : Cond.selects RX7 yX7_mark yX7_mark ∈ zAll := zc_5 _ (List.mem_of_getElem? (i := 6) rfl)
theorem zw_132 : Cond.code yX7_mark cX7_mark 2 (some .int) ∈ zAll := zc_5 _ (List.mem_of_getElem? (i := 7) rfl)
theorem zw_133 : Cond.methodLink RX7 65 yX7_readPad ∈ zAll := zc_5 _ (List.mem_of_getElem? (i := 8) rfl)
theorem zw_134 : Cond.instanceMethod yX7_readPad ∈ zAll := zc_5 _ (List.mem_of_getElem? (i := 9) rfl)
theorem zw_135 : Cond.selects RX7 yX7_readPad yX7_readPad ∈ zAll := zc_5 _ (List.mem_of_getElem? (i := 10) rfl)
theorem zw_136 : Cond.code yX7_readPad cX7_readPad 2 (some .int) ∈ zAll := zc_5 _ (List.mem_of_getElem? (i := 11) rfl)
theorem zw_137 : Cond.methodLink RX7 240 yX2_begin ∈ zAll := zc_5 _ (List.mem_of_getElem? (i := 12) rfl)
theorem zw_138 : Cond.instanceMethod yX2_begin ∈ zAll := zc_5 _ (List.mem_of_getElem? (i := 13) rfl)
theorem zw_139 : Cond.selects RX2 yX2_begin yX2_begin ∈ zAll := zc_5 _ (List.mem_of_getElem? (i := 14) rfl)
theorem zw_140 : Cond.code yX2_begin cX2_begin 2 none ∈ zAll := zc_5 _ (List.mem_of_getElem? (i := 15) rfl)
theorem zw_141 : Cond.methodLink RX7 243 yX2_takes ∈ zAll := zc_5 _ (List.mem_of_getElem? (i := 16) rfl)
theorem zw_142 : Cond.instanceMethod yX2_takes ∈ zAll := zc_5 _ (List.mem_of_getElem? (i := 17) rfl)
theorem zw_143 : Cond.selects RX2 yX2_takes yX2_takes ∈ zAll := zc_5 _ (List.mem_of_getElem? (i := 18) rfl)
theorem zw_144 : Cond.code yX2_takes cX2_takes 2 (some .boolean) ∈ zAll := zc_5 _ (List.mem_of_getElem? (i := 19) rfl)
theorem zw_145 : Cond.methodLink RX2 41 yX2_takesStay ∈ zAll := zc_5 _ (List.mem_of_getElem? (i := 20) rfl)
theorem zw_146 : Cond.instanceMethod yX2_takesStay ∈ zAll := zc_5 _ (List.mem_of_getElem? (i := 21) rfl)
theorem zw_147 : Cond.selects RX2 yX2_takesStay yX2_takesStay ∈ zAll := zc_5 _ (List.mem_of_getElem? (i := 22) rfl)
theorem zw_148 : Cond.code yX2_takesStay cX2_takesStay 1 (some .boolean) ∈ zAll := zc_5 _ (List.mem_of_getElem? (i := 23) rfl)
theorem zw_149 : Cond.methodLink RX2 45 yX2_takesOpening ∈ zAll := zc_5 _ (List.mem_of_getElem? (i := 24) rfl)
theorem zw_150 : Cond.instanceMethod yX2_takesOpening ∈ zAll := zc_6 _ (List.mem_of_getElem? (i := 0) rfl)
theorem zw_151 : Cond.selects RX2 yX2_takesOpening yX2_takesOpening ∈ zAll := zc_6 _ (List.mem_of_getElem? (i := 1) rfl)
theorem zw_152 : Cond.code yX2_takesOpening cX2_takesOpening 2 (some .boolean) ∈ zAll := zc_6 _ (List.mem_of_getElem? (i := 2) rfl)
theorem zw_153 : Cond.methodLink RX2 49 yX2_takesDigit ∈ zAll := zc_6 _ (List.mem_of_getElem? (i := 3) rfl)
theorem zw_154 : Cond.instanceMethod yX2_takesDigit ∈ zAll := zc_6 _ (List.mem_of_getElem? (i := 4) rfl)
theorem zw_155 : Cond.selects RX2 yX2_takesDigit yX2_takesDigit ∈ zAll := zc_6 _ (List.mem_of_getElem? (i := 5) rfl)
theorem zw_156 : Cond.code yX2_takesDigit cX2_takesDigit 4 (some .boolean) ∈ zAll := zc_6 _ (List.mem_of_getElem? (i := 6) rfl)
theorem zw_157 : Cond.methodLink RX2 59 yX2_beginsFreePlace ∈ zAll := zc_6 _ (List.mem_of_getElem? (i := 7) rfl)
theorem zw_158 : Cond.instanceMethod yX2_beginsFreePlace ∈ zAll := zc_6 _ (List.mem_of_getElem? (i := 8) rfl)
theorem zw_159 : Cond.selects RX2 yX2_beginsFreePlace yX2_beginsFreePlace ∈ zAll := zc_6 _ (List.mem_of_getElem? (i := 9) rfl)
theorem zw_160 : Cond.code yX2_beginsFreePlace cX2_beginsFreePlace 3 (some .boolean) ∈ zAll := zc_6 _ (List.mem_of_getElem? (i := 10) rfl)
theorem zw_161 : Cond.methodLink RX2 63 yX2_isFree ∈ zAll := zc_6 _ (List.mem_of_getElem? (i := 11) rfl)
theorem zw_162 : Cond.instanceMethod yX2_isFree ∈ zAll := zc_6 _ (List.mem_of_getElem? (i := 12) rfl)
theorem zw_163 : Cond.selects RX2 yX2_isFree yX2_isFree ∈ zAll := zc_6 _ (List.mem_of_getElem? (i := 13) rfl)
theorem zw_164 : Cond.code yX2_isFree cX2_isFree 2 (some .boolean) ∈ zAll := zc_6 _ (List.mem_of_getElem? (i := 14) rfl)
theorem zw_165 : Cond.methodLink RX2 53 yX2_endsPlace ∈ zAll := zc_6 _ (List.mem_of_getElem? (i := 15) rfl)
theorem zw_166 : Cond.instanceMethod yX2_endsPlace ∈ zAll := zc_6 _ (List.mem_of_getElem? (i := 16) rfl)
theorem zw_167 : Cond.selects RX2 yX2_endsPlace yX2_endsPlace ∈ zAll := zc_6 _ (List.mem_of_getElem? (i := 17) rfl)
theorem zw_168 : Cond.code yX2_endsPlace cX2_endsPlace 1 (some .boolean) ∈ zAll := zc_6 _ (List.mem_of_getElem? (i := 18) rfl)
theorem zw_169 : Cond.methodLink RX2 66 yX3_with ∈ zAll := zc_6 _ (List.mem_of_getElem? (i := 19) rfl)
theorem zw_170 : Cond.static yX3_with ∈ zAll := zc_6 _ (List.mem_of_getElem? (i := 20) rfl)
theorem zw_171 : Cond.initialized RX3 ∈ zAll := zc_6 _ (List.mem_of_getElem? (i := 21) rfl)
theorem zw_172 : Cond.code yX3_with cX3_with 6 (some .long) ∈ zAll := zc_6 _ (List.mem_of_getElem? (i := 22) rfl)
theorem zw_173 : Cond.constantLong RX3 15 (15) ∈ zAll := zc_6 _ (List.mem_of_getElem? (i := 23) rfl)
theorem zw_174 : Cond.constantLong RX3 17 (-1) ∈ zAll := zc_6 _ (List.mem_of_getElem? (i := 24) rfl)
theorem zw_175 : Cond.methodLink RX2 56 yX2_closesCycle ∈ zAll := zc_7 _ (List.mem_of_getElem? (i := 0) rfl)
theorem zw_176 : Cond.instanceMethod yX2_closesCycle ∈ zAll := zc_7 _ (List.mem_of_getElem? (i := 1) rfl)
theorem zw_177 : Cond.selects RX2 yX2_closesCycle yX2_closesCycle ∈ zAll := zc_7 _ (List.mem_of_getElem? (i := 2) rfl)
theorem zw_178 : Cond.code yX2_closesCycle cX2_closesCycle 1 (some .boolean) ∈ zAll := zc_7 _ (List.mem_of_getElem? (i := 3) rfl)
theorem zw_179 : Cond.methodLink RX7 247 yX2_mayEnd ∈ zAll := zc_7 _ (List.mem_of_getElem? (i := 4) rfl)
theorem zw_180 : Cond.instanceMethod yX2_mayEnd ∈ zAll := zc_7 _ (List.mem_of_getElem? (i := 5) rfl)
theorem zw_181 : Cond.selects RX2 yX2_mayEnd yX2_mayEnd ∈ zAll := zc_7 _ (List.mem_of_getElem? (i := 6) rfl)
theorem zw_182 : Cond.code yX2_mayEnd cX2_mayEnd 1 (some .boolean) ∈ zAll := zc_7 _ (List.mem_of_getElem? (i := 7) rfl)
theorem zw_183 : Cond.methodLink RX7 73 yX7_comes ∈ zAll := zc_7 _ (List.mem_of_getElem? (i := 8) rfl)
theorem zw_184 : Cond.instanceMethod yX7_comes ∈ zAll := zc_7 _ (List.mem_of_getElem? (i := 9) rfl)
theorem zw_185 : Cond.selects RX7 yX7_comes yX7_comes ∈ zAll := zc_7 _ (List.mem_of_getElem? (i := 10) rfl)
theorem zw_186 : Cond.code yX7_comes cX7_comes 3 (some .int) ∈ zAll := zc_7 _ (List.mem_of_getElem? (i := 11) rfl)
theorem zw_187 : Cond.methodLink RX7 230 yX6_addMark ∈ zAll := zc_7 _ (List.mem_of_getElem? (i := 12) rfl)
theorem zw_188 : Cond.instanceMethod yX6_addMark ∈ zAll := zc_7 _ (List.mem_of_getElem? (i := 13) rfl)
theorem zw_189 : Cond.selects RX6 yX6_addMark yX6_addMark ∈ zAll := zc_7 _ (List.mem_of_getElem? (i := 14) rfl)
theorem zw_190 : Cond.code yX6_addMark cX6_addMark 4 (some .int) ∈ zAll := zc_7 _ (List.mem_of_getElem? (i := 15) rfl)
theorem zw_191 : Cond.methodLink RL 22 yX8_mark ∈ zAll := zc_7 _ (List.mem_of_getElem? (i := 16) rfl)
theorem zw_192 : Cond.instanceMethod yX8_mark ∈ zAll := zc_7 _ (List.mem_of_getElem? (i := 17) rfl)
theorem zw_193 : Cond.selects RX8 yX8_mark yX8_mark ∈ zAll := zc_7 _ (List.mem_of_getElem? (i := 18) rfl)
theorem zw_194 : Cond.code yX8_mark cX8_mark 1 (some .int) ∈ zAll := zc_7 _ (List.mem_of_getElem? (i := 19) rfl)
theorem zw_195 : Cond.fieldLink RX8 90 "CutMarksModel" "length" "I" ∈ zAll := zc_7 _ (List.mem_of_getElem? (i := 20) rfl)
theorem zw_196 : Cond.methodLink RX8 86 yX8_faultAt ∈ zAll := zc_7 _ (List.mem_of_getElem? (i := 21) rfl)
theorem zw_197 : Cond.instanceMethod yX8_faultAt ∈ zAll := zc_7 _ (List.mem_of_getElem? (i := 22) rfl)
theorem zw_198 : Cond.selects RX8 yX8_faultAt yX8_faultAt ∈ zAll := zc_7 _ (List.mem_of_getElem? (i := 23) rfl)
theorem zw_199 : Cond.code yX8_faultAt cX8_faultAt 2 (some .int) ∈ zAll := zc_7 _ (List.mem_of_getElem? (i := 24) rfl)
theorem zw_200 : Cond.fieldLink RX8 194 "CutMarksModel" "at" "I" ∈ zAll := zc_8 _ (List.mem_of_getElem? (i := 0) rfl)
theorem zw_201 : Cond.fieldLink RX8 206 "CutMarksModel" "isWell" "Z" ∈ zAll := zc_8 _ (List.mem_of_getElem? (i := 1) rfl)
theorem zw_202 : Cond.methodLink RX8 200 yX8_letter ∈ zAll := zc_8 _ (List.mem_of_getElem? (i := 2) rfl)
theorem zw_203 : Cond.instanceMethod yX8_letter ∈ zAll := zc_8 _ (List.mem_of_getElem? (i := 3) rfl)
theorem zw_204 : Cond.selects RX8 yX8_letter yX8_letter ∈ zAll := zc_8 _ (List.mem_of_getElem? (i := 4) rfl)
theorem zw_205 : Cond.code yX8_letter cX8_letter 1 (some .int) ∈ zAll := zc_8 _ (List.mem_of_getElem? (i := 5) rfl)
theorem zw_206 : Cond.methodLink RX8 213 yX8_readsCycle ∈ zAll := zc_8 _ (List.mem_of_getElem? (i := 6) rfl)
theorem zw_207 : Cond.instanceMethod yX8_readsCycle ∈ zAll := zc_8 _ (List.mem_of_getElem? (i := 7) rfl)
theorem zw_208 : Cond.selects RX8 yX8_readsCycle yX8_readsCycle ∈ zAll := zc_8 _ (List.mem_of_getElem? (i := 8) rfl)
theorem zw_209 : Cond.code yX8_readsCycle cX8_readsCycle 4 none ∈ zAll := zc_8 _ (List.mem_of_getElem? (i := 9) rfl)
theorem zw_210 : Cond.methodLink RX8 210 yX8_place ∈ zAll := zc_8 _ (List.mem_of_getElem? (i := 10) rfl)
theorem zw_211 : Cond.instanceMethod yX8_place ∈ zAll := zc_8 _ (List.mem_of_getElem? (i := 11) rfl)
theorem zw_212 : Cond.selects RX8 yX8_place yX8_place ∈ zAll := zc_8 _ (List.mem_of_getElem? (i := 12) rfl)
theorem zw_213 : Cond.code yX8_place cX8_place 3 (some .int) ∈ zAll := zc_8 _ (List.mem_of_getElem? (i := 13) rfl)
theorem zw_214 : Cond.methodLink RX8 203 yX8_canBegin ∈ zAll := zc_8 _ (List.mem_of_getElem? (i := 14) rfl)
theorem zw_215 : Cond.instanceMethod yX8_canBegin ∈ zAll := zc_8 _ (List.mem_of_getElem? (i := 15) rfl)
theorem zw_216 : Cond.selects RX8 yX8_canBegin yX8_canBegin ∈ zAll := zc_8 _ (List.mem_of_getElem? (i := 16) rfl)
theorem zw_217 : Cond.code yX8_canBegin cX8_canBegin 4 (some .boolean) ∈ zAll := zc_8 _ (List.mem_of_getElem? (i := 17) rfl)
theorem zw_218 : Cond.methodLink RX8 197 yX8_isLeft ∈ zAll := zc_8 _ (List.mem_of_getElem? (i := 18) rfl)
theorem zw_219 : Cond.instanceMethod yX8_isLeft ∈ zAll := zc_8 _ (List.mem_of_getElem? (i := 19) rfl)
theorem zw_220 : Cond.selects RX8 yX8_isLeft yX8_isLeft ∈ zAll := zc_8 _ (List.mem_of_getElem? (i := 20) rfl)
theorem zw_221 : Cond.code yX8_isLeft cX8_isLeft 2 (some .boolean) ∈ zAll := zc_8 _ (List.mem_of_getElem? (i := 21) rfl)
theorem zw_222 : Cond.methodLink RX8 111 yX8_isPlace ∈ zAll := zc_8 _ (List.mem_of_getElem? (i := 22) rfl)
theorem zw_223 : Cond.instanceMethod yX8_isPlace ∈ zAll := zc_8 _ (List.mem_of_getElem? (i := 23) rfl)
theorem zw_224 : Cond.selects RX8 yX8_isPlace yX8_isPlace ∈ zAll := zc_8 _ (List.mem_of_getElem? (i := 24) rfl)
theorem zw_225 : Cond.code yX8_isPlace cX8_isPlace 2 (some .boolean) ∈ zAll := zc_9 _ (List.mem_of_getElem? (i := 0) rfl)
theorem zw_226 : Cond.methodLink RX8 93 yX8_adds ∈ zAll := zc_9 _ (List.mem_of_getElem? (i := 1) rfl)
theorem zw_227 : Cond.instanceMethod yX8_adds ∈ zAll := zc_9 _ (List.mem_of_getElem? (i := 2) rfl)
theorem zw_228 : Cond.selects RX8 yX8_adds yX8_adds ∈ zAll := zc_9 _ (List.mem_of_getElem? (i := 3) rfl)
theorem zw_229 : Cond.code yX8_adds cX8_adds 4 (some .int) ∈ zAll := zc_9 _ (List.mem_of_getElem? (i := 4) rfl)
theorem zw_230 : Cond.methodLink RL 23 yX7_product ∈ zAll := zc_9 _ (List.mem_of_getElem? (i := 5) rfl)
theorem zw_231 : Cond.instanceMethod yX7_product ∈ zAll := zc_9 _ (List.mem_of_getElem? (i := 6) rfl)
theorem zw_232 : Cond.selects RX7 yX7_product yX7_product ∈ zAll := zc_9 _ (List.mem_of_getElem? (i := 7) rfl)
theorem zw_233 : Cond.code yX7_product cX7_product 3 (some .int) ∈ zAll := zc_9 _ (List.mem_of_getElem? (i := 8) rfl)
theorem zw_234 : Cond.methodLink RX7 77 yX6_hasMark ∈ zAll := zc_9 _ (List.mem_of_getElem? (i := 9) rfl)
theorem zw_235 : Cond.instanceMethod yX6_hasMark ∈ zAll := zc_9 _ (List.mem_of_getElem? (i := 10) rfl)
theorem zw_236 : Cond.selects RX6 yX6_hasMark yX6_hasMark ∈ zAll := zc_9 _ (List.mem_of_getElem? (i := 11) rfl)
theorem zw_237 : Cond.code yX6_hasMark cX6_hasMark 2 (some .boolean) ∈ zAll := zc_9 _ (List.mem_of_getElem? (i := 12) rfl)
theorem zw_238 : Cond.methodLink RX7 81 yX6_movesOf ∈ zAll := zc_9 _ (List.mem_of_getElem? (i := 13) rfl)
theorem zw_239 : Cond.instanceMethod yX6_movesOf ∈ zAll := zc_9 _ (List.mem_of_getElem? (i := 14) rfl)
theorem zw_240 : Cond.selects RX6 yX6_movesOf yX6_movesOf ∈ zAll := zc_9 _ (List.mem_of_getElem? (i := 15) rfl)
theorem zw_241 : Cond.code yX6_movesOf cX6_movesOf 2 (some .long) ∈ zAll := zc_9 _ (List.mem_of_getElem? (i := 16) rfl)
theorem zw_242 : Cond.methodLink RX7 85 yX3_then ∈ zAll := zc_9 _ (List.mem_of_getElem? (i := 17) rfl)
theorem zw_243 : Cond.static yX3_then ∈ zAll := zc_9 _ (List.mem_of_getElem? (i := 18) rfl)
theorem zw_244 : Cond.code yX3_then cX3_then 7 (some .long) ∈ zAll := zc_9 _ (List.mem_of_getElem? (i := 19) rfl)
theorem zw_245 : Cond.methodLink RX3 9 yX3_to ∈ zAll := zc_9 _ (List.mem_of_getElem? (i := 20) rfl)
theorem zw_246 : Cond.static yX3_to ∈ zAll := zc_9 _ (List.mem_of_getElem? (i := 21) rfl)
theorem zw_247 : Cond.code yX3_to cX3_to 3 (some .int) ∈ zAll := zc_9 _ (List.mem_of_getElem? (i := 22) rfl)
theorem zw_248 : Cond.methodLink RX3 19 yX3_with ∈ zAll := zc_9 _ (List.mem_of_getElem? (i := 23) rfl)
theorem zw_249 : Cond.methodLink RL 27 yX8_product ∈ zAll := zc_9 _ (List.mem_of_getElem? (i := 24) rfl)
theorem zw_250 : Cond.instanceMethod yX8_product ∈ zAll := zc_10 _ (List.mem_of_getElem? (i := 0) rfl)
theorem zw_251 : Cond.selects RX8 yX8_product yX8_product ∈ zAll := zc_10 _ (List.mem_of_getElem? (i := 1) rfl)
theorem zw_252 : Cond.code yX8_product cX8_product 3 (some .int) ∈ zAll := zc_10 _ (List.mem_of_getElem? (i := 2) rfl)
theorem zw_253 : Cond.methodLink RX8 68 yX8_isMark ∈ zAll := zc_10 _ (List.mem_of_getElem? (i := 3) rfl)
theorem zw_254 : Cond.instanceMethod yX8_isMark ∈ zAll := zc_10 _ (List.mem_of_getElem? (i := 4) rfl)
theorem zw_255 : Cond.selects RX8 yX8_isMark yX8_isMark ∈ zAll := zc_10 _ (List.mem_of_getElem? (i := 5) rfl)
theorem zw_256 : Cond.code yX8_isMark cX8_isMark 2 (some .boolean) ∈ zAll := zc_10 _ (List.mem_of_getElem? (i := 6) rfl)
theorem zw_257 : Cond.methodLink RX8 96 yX8_fetches ∈ zAll := zc_10 _ (List.mem_of_getElem? (i := 7) rfl)
theorem zw_258 : Cond.instanceMethod yX8_fetches ∈ zAll := zc_10 _ (List.mem_of_getElem? (i := 8) rfl)
theorem zw_259 : Cond.selects RX8 yX8_fetches yX8_fetches ∈ zAll := zc_10 _ (List.mem_of_getElem? (i := 9) rfl)
theorem zw_260 : Cond.code yX8_fetches cX8_fetches 4 none ∈ zAll := zc_10 _ (List.mem_of_getElem? (i := 10) rfl)
theorem zw_261 : Cond.methodLink RX8 72 yX8_goesTo ∈ zAll := zc_10 _ (List.mem_of_getElem? (i := 11) rfl)
theorem zw_262 : Cond.instanceMethod yX8_goesTo ∈ zAll := zc_10 _ (List.mem_of_getElem? (i := 12) rfl)
theorem zw_263 : Cond.selects RX8 yX8_goesTo yX8_goesTo ∈ zAll := zc_10 _ (List.mem_of_getElem? (i := 13) rfl)
theorem zw_264 : Cond.code yX8_goesTo cX8_goesTo 3 (some .int) ∈ zAll := zc_10 _ (List.mem_of_getElem? (i := 14) rfl)
theorem zw_265 : Cond.methodLink RX8 100 yX8_laysProduct ∈ zAll := zc_10 _ (List.mem_of_getElem? (i := 15) rfl)
theorem zw_266 : Cond.instanceMethod yX8_laysProduct ∈ zAll := zc_10 _ (List.mem_of_getElem? (i := 16) rfl)
theorem zw_267 : Cond.selects RX8 yX8_laysProduct yX8_laysProduct ∈ zAll := zc_10 _ (List.mem_of_getElem? (i := 17) rfl)
theorem zw_268 : Cond.code yX8_laysProduct cX8_laysProduct 5 none ∈ zAll := zc_10 _ (List.mem_of_getElem? (i := 18) rfl)
theorem zw_269 : Cond.methodLink RL 28 yX7_power ∈ zAll := zc_10 _ (List.mem_of_getElem? (i := 19) rfl)
theorem zw_270 : Cond.instanceMethod yX7_power ∈ zAll := zc_10 _ (List.mem_of_getElem? (i := 20) rfl)
theorem zw_271 : Cond.selects RX7 yX7_power yX7_power ∈ zAll := zc_10 _ (List.mem_of_getElem? (i := 21) rfl)
theorem zw_272 : Cond.code yX7_power cX7_power 3 (some .int) ∈ zAll := zc_10 _ (List.mem_of_getElem? (i := 22) rfl)
theorem zw_273 : Cond.methodLink RX7 91 yX7_isPower ∈ zAll := zc_10 _ (List.mem_of_getElem? (i := 23) rfl)
theorem zw_274 : Cond.static yX7_isPower ∈ zAll := zc_10 _ (List.mem_of_getElem? (i := 24) rfl)
theorem zw_275 : Cond.code yX7_isPower cX7_isPower 1 (some .boolean) ∈ zAll := zc_11 _ (List.mem_of_getElem? (i := 0) rfl)
theorem zw_276 : Cond.methodLink RX7 94 yX3_times ∈ zAll := zc_11 _ (List.mem_of_getElem? (i := 1) rfl)
theorem zw_277 : Cond.static yX3_times ∈ zAll := zc_11 _ (List.mem_of_getElem? (i := 2) rfl)
theorem zw_278 : Cond.code yX3_times cX3_times 6 (some .long) ∈ zAll := zc_11 _ (List.mem_of_getElem? (i := 3) rfl)
theorem zw_279 : Cond.methodLink RX3 23 yX3_toAfter ∈ zAll := zc_11 _ (List.mem_of_getElem? (i := 4) rfl)
theorem zw_280 : Cond.static yX3_toAfter ∈ zAll := zc_11 _ (List.mem_of_getElem? (i := 5) rfl)
theorem zw_281 : Cond.code yX3_toAfter cX3_toAfter 8 (some .int) ∈ zAll := zc_11 _ (List.mem_of_getElem? (i := 6) rfl)
theorem zw_282 : Cond.methodLink RX3 27 yX3_cycleLength ∈ zAll := zc_11 _ (List.mem_of_getElem? (i := 7) rfl)
theorem zw_283 : Cond.static yX3_cycleLength ∈ zAll := zc_11 _ (List.mem_of_getElem? (i := 8) rfl)
theorem zw_284 : Cond.code yX3_cycleLength cX3_cycleLength 5 (some .int) ∈ zAll := zc_11 _ (List.mem_of_getElem? (i := 9) rfl)
theorem zw_285 : Cond.methodLink RX3 30 yJ9_floorMod_7cf53 ∈ zAll := zc_11 _ (List.mem_of_getElem? (i := 10) rfl)
theorem zw_286 : Cond.static yJ9_floorMod_7cf53 ∈ zAll := zc_11 _ (List.mem_of_getElem? (i := 11) rfl)
theorem zw_287 : Cond.initialized RJ9 ∈ zAll := zc_11 _ (List.mem_of_getElem? (i := 12) rfl)
theorem zw_288 : Cond.code yJ9_floorMod_7cf53 cJ9_floorMod_7cf53 3 (some .int) ∈ zAll := zc_11 _ (List.mem_of_getElem? (i := 13) rfl)
theorem zw_289 : Cond.methodLink RL 31 yX8_power ∈ zAll := zc_11 _ (List.mem_of_getElem? (i := 14) rfl)
theorem zw_290 : Cond.instanceMethod yX8_power ∈ zAll := zc_11 _ (List.mem_of_getElem? (i := 15) rfl)
theorem zw_291 : Cond.selects RX8 yX8_power yX8_power ∈ zAll := zc_11 _ (List.mem_of_getElem? (i := 16) rfl)
theorem zw_292 : Cond.code yX8_power cX8_power 4 (some .int) ∈ zAll := zc_11 _ (List.mem_of_getElem? (i := 17) rfl)
theorem zw_293 : Cond.methodLink RX8 104 yX8_powered ∈ zAll := zc_11 _ (List.mem_of_getElem? (i := 18) rfl)
theorem zw_294 : Cond.instanceMethod yX8_powered ∈ zAll := zc_11 _ (List.mem_of_getElem? (i := 19) rfl)
theorem zw_295 : Cond.selects RX8 yX8_powered yX8_powered ∈ zAll := zc_11 _ (List.mem_of_getElem? (i := 20) rfl)
theorem zw_296 : Cond.code yX8_powered cX8_powered 7 (some .int) ∈ zAll := zc_11 _ (List.mem_of_getElem? (i := 21) rfl)
theorem zw_297 : Cond.methodLink RL 32 yX7_trick ∈ zAll := zc_11 _ (List.mem_of_getElem? (i := 22) rfl)
theorem zw_298 : Cond.instanceMethod yX7_trick ∈ zAll := zc_11 _ (List.mem_of_getElem? (i := 23) rfl)
theorem zw_299 : Cond.selects RX7 yX7_trick yX7_trick ∈ zAll := zc_11 _ (List.mem_of_getElem? (i := 24) rfl)
theorem zw_300 : Cond.code yX7_trick cX7_trick 1 (some .int) ∈ zAll := zc_12 _ (List.mem_of_getElem? (i := 0) rfl)
theorem zw_301 : Cond.methodLink RL 35 yX8_trick ∈ zAll := zc_12 _ (List.mem_of_getElem? (i := 1) rfl)
theorem zw_302 : Cond.instanceMethod yX8_trick ∈ zAll := zc_12 _ (List.mem_of_getElem? (i := 2) rfl)
theorem zw_303 : Cond.selects RX8 yX8_trick yX8_trick ∈ zAll := zc_12 _ (List.mem_of_getElem? (i := 3) rfl)
theorem zw_304 : Cond.code yX8_trick cX8_trick 1 (some .int) ∈ zAll := zc_12 _ (List.mem_of_getElem? (i := 4) rfl)
theorem zw_305 : Cond.methodLink RL 36 yX7_drop ∈ zAll := zc_12 _ (List.mem_of_getElem? (i := 5) rfl)
theorem zw_306 : Cond.instanceMethod yX7_drop ∈ zAll := zc_12 _ (List.mem_of_getElem? (i := 6) rfl)
theorem zw_307 : Cond.selects RX7 yX7_drop yX7_drop ∈ zAll := zc_12 _ (List.mem_of_getElem? (i := 7) rfl)
theorem zw_308 : Cond.code yX7_drop cX7_drop 2 (some .int) ∈ zAll := zc_12 _ (List.mem_of_getElem? (i := 8) rfl)
theorem zw_309 : Cond.methodLink RX7 101 yX6_removeMark ∈ zAll := zc_12 _ (List.mem_of_getElem? (i := 9) rfl)
theorem zw_310 : Cond.instanceMethod yX6_removeMark ∈ zAll := zc_12 _ (List.mem_of_getElem? (i := 10) rfl)
theorem zw_311 : Cond.selects RX6 yX6_removeMark yX6_removeMark ∈ zAll := zc_12 _ (List.mem_of_getElem? (i := 11) rfl)
theorem zw_312 : Cond.code yX6_removeMark cX6_removeMark 3 none ∈ zAll := zc_12 _ (List.mem_of_getElem? (i := 12) rfl)
theorem zw_313 : Cond.methodLink RL 39 yX8_drop ∈ zAll := zc_12 _ (List.mem_of_getElem? (i := 13) rfl)
theorem zw_314 : Cond.instanceMethod yX8_drop ∈ zAll := zc_12 _ (List.mem_of_getElem? (i := 14) rfl)
theorem zw_315 : Cond.selects RX8 yX8_drop yX8_drop ∈ zAll := zc_12 _ (List.mem_of_getElem? (i := 15) rfl)
theorem zw_316 : Cond.code yX8_drop cX8_drop 3 (some .int) ∈ zAll := zc_12 _ (List.mem_of_getElem? (i := 16) rfl)
theorem zw_317 : Cond.methodLink RL 40 yX7_play ∈ zAll := zc_12 _ (List.mem_of_getElem? (i := 17) rfl)
theorem zw_318 : Cond.instanceMethod yX7_play ∈ zAll := zc_12 _ (List.mem_of_getElem? (i := 18) rfl)
theorem zw_319 : Cond.selects RX7 yX7_play yX7_play ∈ zAll := zc_12 _ (List.mem_of_getElem? (i := 19) rfl)
theorem zw_320 : Cond.code yX7_play cX7_play 2 (some .int) ∈ zAll := zc_12 _ (List.mem_of_getElem? (i := 20) rfl)
theorem zw_321 : Cond.methodLink RX7 107 yX7_moveDeck ∈ zAll := zc_12 _ (List.mem_of_getElem? (i := 21) rfl)
theorem zw_322 : Cond.instanceMethod yX7_moveDeck ∈ zAll := zc_12 _ (List.mem_of_getElem? (i := 22) rfl)
theorem zw_323 : Cond.selects RX7 yX7_moveDeck yX7_moveDeck ∈ zAll := zc_12 _ (List.mem_of_getElem? (i := 23) rfl)
theorem zw_324 : Cond.code yX7_moveDeck cX7_moveDeck 3 (some .int) ∈ zAll := zc_12 _ (List.mem_of_getElem? (i := 24) rfl)
theorem zw_325 : Cond.methodLink RX7 130 yX3_from ∈ zAll := zc_13 _ (List.mem_of_getElem? (i := 0) rfl)
theorem zw_326 : Cond.static yX3_from ∈ zAll := zc_13 _ (List.mem_of_getElem? (i := 1) rfl)
theorem zw_327 : Cond.code yX3_from cX3_from 4 (some .int) ∈ zAll := zc_13 _ (List.mem_of_getElem? (i := 2) rfl)
theorem zw_328 : Cond.methodLink RL 43 yX8_play ∈ zAll := zc_13 _ (List.mem_of_getElem? (i := 3) rfl)
theorem zw_329 : Cond.instanceMethod yX8_play ∈ zAll := zc_13 _ (List.mem_of_getElem? (i := 4) rfl)
theorem zw_330 : Cond.selects RX8 yX8_play yX8_play ∈ zAll := zc_13 _ (List.mem_of_getElem? (i := 5) rfl)
theorem zw_331 : Cond.code yX8_play cX8_play 2 (some .int) ∈ zAll := zc_13 _ (List.mem_of_getElem? (i := 6) rfl)
theorem zw_332 : Cond.methodLink RX8 108 yX8_does ∈ zAll := zc_13 _ (List.mem_of_getElem? (i := 7) rfl)
theorem zw_333 : Cond.instanceMethod yX8_does ∈ zAll := zc_13 _ (List.mem_of_getElem? (i := 8) rfl)
theorem zw_334 : Cond.selects RX8 yX8_does yX8_does ∈ zAll := zc_13 _ (List.mem_of_getElem? (i := 9) rfl)
theorem zw_335 : Cond.code yX8_does cX8_does 3 (some .int) ∈ zAll := zc_13 _ (List.mem_of_getElem? (i := 10) rfl)
theorem zw_336 : Cond.methodLink RL 44 yX7_cut ∈ zAll := zc_13 _ (List.mem_of_getElem? (i := 11) rfl)
theorem zw_337 : Cond.instanceMethod yX7_cut ∈ zAll := zc_13 _ (List.mem_of_getElem? (i := 12) rfl)
theorem zw_338 : Cond.selects RX7 yX7_cut yX7_cut ∈ zAll := zc_13 _ (List.mem_of_getElem? (i := 13) rfl)
theorem zw_339 : Cond.code yX7_cut cX7_cut 2 (some .int) ∈ zAll := zc_13 _ (List.mem_of_getElem? (i := 14) rfl)
theorem zw_340 : Cond.methodLink RX7 110 yX6_hasPlace ∈ zAll := zc_13 _ (List.mem_of_getElem? (i := 15) rfl)
theorem zw_341 : Cond.instanceMethod yX6_hasPlace ∈ zAll := zc_13 _ (List.mem_of_getElem? (i := 16) rfl)
theorem zw_342 : Cond.selects RX6 yX6_hasPlace yX6_hasPlace ∈ zAll := zc_13 _ (List.mem_of_getElem? (i := 17) rfl)
theorem zw_343 : Cond.code yX6_hasPlace cX6_hasPlace 2 (some .boolean) ∈ zAll := zc_13 _ (List.mem_of_getElem? (i := 18) rfl)
theorem zw_344 : Cond.methodLink RX7 113 yX5_cutBy ∈ zAll := zc_13 _ (List.mem_of_getElem? (i := 19) rfl)
theorem zw_345 : Cond.static yX5_cutBy ∈ zAll := zc_13 _ (List.mem_of_getElem? (i := 20) rfl)
theorem zw_346 : Cond.initialized RX5 ∈ zAll := zc_13 _ (List.mem_of_getElem? (i := 21) rfl)
theorem zw_347 : Cond.code yX5_cutBy cX5_cutBy 5 (some .long) ∈ zAll := zc_13 _ (List.mem_of_getElem? (i := 22) rfl)
theorem zw_348 : Cond.constantLong RX5 19 (-81985529216486896) ∈ zAll := zc_13 _ (List.mem_of_getElem? (i := 23) rfl)
theorem zw_349 : Cond.methodLink RX5 7 yX5_cutTo ∈ zAll := zc_13 _ (List.mem_of_getElem? (i := 24) rfl)
theorem zw_350 : Cond.static yX5_cutTo ∈ zAll := zc_14 _ (List.mem_of_getElem? (i := 0) rfl)
theorem zw_351 : Cond.code yX5_cutTo cX5_cutTo 3 (some .int) ∈ zAll := zc_14 _ (List.mem_of_getElem? (i := 1) rfl)
theorem zw_352 : Cond.methodLink RX5 21 yX3_with ∈ zAll := zc_14 _ (List.mem_of_getElem? (i := 2) rfl)
theorem zw_353 : Cond.methodLink RL 47 yX8_cut ∈ zAll := zc_14 _ (List.mem_of_getElem? (i := 3) rfl)
theorem zw_354 : Cond.instanceMethod yX8_cut ∈ zAll := zc_14 _ (List.mem_of_getElem? (i := 4) rfl)
theorem zw_355 : Cond.selects RX8 yX8_cut yX8_cut ∈ zAll := zc_14 _ (List.mem_of_getElem? (i := 5) rfl)
theorem zw_356 : Cond.code yX8_cut cX8_cut 2 (some .int) ∈ zAll := zc_14 _ (List.mem_of_getElem? (i := 6) rfl)
theorem zw_357 : Cond.methodLink RX8 114 yX8_laysCut ∈ zAll := zc_14 _ (List.mem_of_getElem? (i := 7) rfl)
theorem zw_358 : Cond.instanceMethod yX8_laysCut ∈ zAll := zc_14 _ (List.mem_of_getElem? (i := 8) rfl)
theorem zw_359 : Cond.selects RX8 yX8_laysCut yX8_laysCut ∈ zAll := zc_14 _ (List.mem_of_getElem? (i := 9) rfl)
theorem zw_360 : Cond.code yX8_laysCut cX8_laysCut 4 none ∈ zAll := zc_14 _ (List.mem_of_getElem? (i := 10) rfl)
theorem zw_361 : Cond.methodLink RL 48 yX7_riffle ∈ zAll := zc_14 _ (List.mem_of_getElem? (i := 11) rfl)
theorem zw_362 : Cond.instanceMethod yX7_riffle ∈ zAll := zc_14 _ (List.mem_of_getElem? (i := 12) rfl)
theorem zw_363 : Cond.selects RX7 yX7_riffle yX7_riffle ∈ zAll := zc_14 _ (List.mem_of_getElem? (i := 13) rfl)
theorem zw_364 : Cond.code yX7_riffle cX7_riffle 2 (some .int) ∈ zAll := zc_14 _ (List.mem_of_getElem? (i := 14) rfl)
theorem zw_365 : Cond.methodLink RX7 119 yX5_stepBy ∈ zAll := zc_14 _ (List.mem_of_getElem? (i := 15) rfl)
theorem zw_366 : Cond.static yX5_stepBy ∈ zAll := zc_14 _ (List.mem_of_getElem? (i := 16) rfl)
theorem zw_367 : Cond.code yX5_stepBy cX5_stepBy 5 (some .long) ∈ zAll := zc_14 _ (List.mem_of_getElem? (i := 17) rfl)
theorem zw_368 : Cond.methodLink RX5 25 yX5_stepTo ∈ zAll := zc_14 _ (List.mem_of_getElem? (i := 18) rfl)
theorem zw_369 : Cond.static yX5_stepTo ∈ zAll := zc_14 _ (List.mem_of_getElem? (i := 19) rfl)
theorem zw_370 : Cond.code yX5_stepTo cX5_stepTo 3 (some .int) ∈ zAll := zc_14 _ (List.mem_of_getElem? (i := 20) rfl)
theorem zw_371 : Cond.methodLink RX5 13 yX5_riffleTo ∈ zAll := zc_14 _ (List.mem_of_getElem? (i := 21) rfl)
theorem zw_372 : Cond.static yX5_riffleTo ∈ zAll := zc_14 _ (List.mem_of_getElem? (i := 22) rfl)
theorem zw_373 : Cond.code yX5_riffleTo cX5_riffleTo 5 (some .int) ∈ zAll := zc_14 _ (List.mem_of_getElem? (i := 23) rfl)
theorem zw_374 : Cond.methodLink RL 51 yX8_riffle ∈ zAll := zc_14 _ (List.mem_of_getElem? (i := 24) rfl)
theorem zw_375 : Cond.instanceMethod yX8_riffle ∈ zAll := zc_15 _ (List.mem_of_getElem? (i := 0) rfl)
theorem zw_376 : Cond.selects RX8 yX8_riffle yX8_riffle ∈ zAll := zc_15 _ (List.mem_of_getElem? (i := 1) rfl)
theorem zw_377 : Cond.code yX8_riffle cX8_riffle 2 (some .int) ∈ zAll := zc_15 _ (List.mem_of_getElem? (i := 2) rfl)
theorem zw_378 : Cond.methodLink RX8 117 yX8_laysRiffle ∈ zAll := zc_15 _ (List.mem_of_getElem? (i := 3) rfl)
theorem zw_379 : Cond.instanceMethod yX8_laysRiffle ∈ zAll := zc_15 _ (List.mem_of_getElem? (i := 4) rfl)
theorem zw_380 : Cond.selects RX8 yX8_laysRiffle yX8_laysRiffle ∈ zAll := zc_15 _ (List.mem_of_getElem? (i := 5) rfl)
theorem zw_381 : Cond.code yX8_laysRiffle cX8_laysRiffle 6 none ∈ zAll := zc_15 _ (List.mem_of_getElem? (i := 6) rfl)
theorem zw_382 : Cond.methodLink RL 52 yX7_turn ∈ zAll := zc_15 _ (List.mem_of_getElem? (i := 7) rfl)
theorem zw_383 : Cond.instanceMethod yX7_turn ∈ zAll := zc_15 _ (List.mem_of_getElem? (i := 8) rfl)
theorem zw_384 : Cond.selects RX7 yX7_turn yX7_turn ∈ zAll := zc_15 _ (List.mem_of_getElem? (i := 9) rfl)
theorem zw_385 : Cond.code yX7_turn cX7_turn 1 (some .int) ∈ zAll := zc_15 _ (List.mem_of_getElem? (i := 10) rfl)
theorem zw_386 : Cond.methodLink RL 55 yX8_turn ∈ zAll := zc_15 _ (List.mem_of_getElem? (i := 11) rfl)
theorem zw_387 : Cond.instanceMethod yX8_turn ∈ zAll := zc_15 _ (List.mem_of_getElem? (i := 12) rfl)
theorem zw_388 : Cond.selects RX8 yX8_turn yX8_turn ∈ zAll := zc_15 _ (List.mem_of_getElem? (i := 13) rfl)
theorem zw_389 : Cond.code yX8_turn cX8_turn 1 (some .int) ∈ zAll := zc_15 _ (List.mem_of_getElem? (i := 14) rfl)
theorem zw_390 : Cond.methodLink RX8 121 yX8_laysTurn ∈ zAll := zc_15 _ (List.mem_of_getElem? (i := 15) rfl)
theorem zw_391 : Cond.instanceMethod yX8_laysTurn ∈ zAll := zc_15 _ (List.mem_of_getElem? (i := 16) rfl)
theorem zw_392 : Cond.selects RX8 yX8_laysTurn yX8_laysTurn ∈ zAll := zc_15 _ (List.mem_of_getElem? (i := 17) rfl)
theorem zw_393 : Cond.code yX8_laysTurn cX8_laysTurn 3 none ∈ zAll := zc_15 _ (List.mem_of_getElem? (i := 18) rfl)
theorem zw_394 : Cond.methodLink RL 56 yX7_restart ∈ zAll := zc_15 _ (List.mem_of_getElem? (i := 19) rfl)
theorem zw_395 : Cond.instanceMethod yX7_restart ∈ zAll := zc_15 _ (List.mem_of_getElem? (i := 20) rfl)
theorem zw_396 : Cond.selects RX7 yX7_restart yX7_restart ∈ zAll := zc_15 _ (List.mem_of_getElem? (i := 21) rfl)
theorem zw_397 : Cond.code yX7_restart cX7_restart 2 (some .int) ∈ zAll := zc_15 _ (List.mem_of_getElem? (i := 22) rfl)
theorem zw_398 : Cond.constantLong RX7 125 (-81985529216486896) ∈ zAll := zc_15 _ (List.mem_of_getElem? (i := 23) rfl)
theorem zw_399 : Cond.methodLink RX7 122 yX7_placesMoved ∈ zAll := zc_15 _ (List.mem_of_getElem? (i := 24) rfl)
theorem zw_400 : Cond.instanceMethod yX7_placesMoved ∈ zAll := zc_16 _ (List.mem_of_getElem? (i := 0) rfl)
theorem zw_401 : Cond.selects RX7 yX7_placesMoved yX7_placesMoved ∈ zAll := zc_16 _ (List.mem_of_getElem? (i := 1) rfl)
theorem zw_402 : Cond.code yX7_placesMoved cX7_placesMoved 1 (some .int) ∈ zAll := zc_16 _ (List.mem_of_getElem? (i := 2) rfl)
theorem zw_403 : Cond.methodLink RX7 153 yX3_fixedPlaces ∈ zAll := zc_16 _ (List.mem_of_getElem? (i := 3) rfl)
theorem zw_404 : Cond.static yX3_fixedPlaces ∈ zAll := zc_16 _ (List.mem_of_getElem? (i := 4) rfl)
theorem zw_405 : Cond.code yX3_fixedPlaces cX3_fixedPlaces 5 (some .int) ∈ zAll := zc_16 _ (List.mem_of_getElem? (i := 5) rfl)
theorem zw_406 : Cond.methodLink RX7 185 yJ6_bitCount_0f7a4 ∈ zAll := zc_16 _ (List.mem_of_getElem? (i := 6) rfl)
theorem zw_407 : Cond.static yJ6_bitCount_0f7a4 ∈ zAll := zc_16 _ (List.mem_of_getElem? (i := 7) rfl)
theorem zw_408 : Cond.initialized RJ6 ∈ zAll := zc_16 _ (List.mem_of_getElem? (i := 8) rfl)
theorem zw_409 : Cond.code yJ6_bitCount_0f7a4 cJ6_bitCount_0f7a4 1 (some .int) ∈ zAll := zc_16 _ (List.mem_of_getElem? (i := 9) rfl)
theorem zw_410 : Cond.constant RJ6 265 (1431655765) ∈ zAll := zc_16 _ (List.mem_of_getElem? (i := 10) rfl)
theorem zw_411 : Cond.constant RJ6 266 (858993459) ∈ zAll := zc_16 _ (List.mem_of_getElem? (i := 11) rfl)
theorem zw_412 : Cond.constant RJ6 267 (252645135) ∈ zAll := zc_16 _ (List.mem_of_getElem? (i := 12) rfl)
theorem zw_413 : Cond.methodLink RL 59 yX8_restart ∈ zAll := zc_16 _ (List.mem_of_getElem? (i := 13) rfl)
theorem zw_414 : Cond.instanceMethod yX8_restart ∈ zAll := zc_16 _ (List.mem_of_getElem? (i := 14) rfl)
theorem zw_415 : Cond.selects RX8 yX8_restart yX8_restart ∈ zAll := zc_16 _ (List.mem_of_getElem? (i := 15) rfl)
theorem zw_416 : Cond.code yX8_restart cX8_restart 3 (some .int) ∈ zAll := zc_16 _ (List.mem_of_getElem? (i := 16) rfl)
theorem zw_417 : Cond.methodLink RX8 125 yX8_moved ∈ zAll := zc_16 _ (List.mem_of_getElem? (i := 17) rfl)
theorem zw_418 : Cond.instanceMethod yX8_moved ∈ zAll := zc_16 _ (List.mem_of_getElem? (i := 18) rfl)
theorem zw_419 : Cond.selects RX8 yX8_moved yX8_moved ∈ zAll := zc_16 _ (List.mem_of_getElem? (i := 19) rfl)
theorem zw_420 : Cond.code yX8_moved cX8_moved 3 (some .int) ∈ zAll := zc_16 _ (List.mem_of_getElem? (i := 20) rfl)
theorem zw_421 : Cond.methodLink RL 60 yX7_at ∈ zAll := zc_16 _ (List.mem_of_getElem? (i := 21) rfl)
theorem zw_422 : Cond.instanceMethod yX7_at ∈ zAll := zc_16 _ (List.mem_of_getElem? (i := 22) rfl)
theorem zw_423 : Cond.selects RX7 yX7_at yX7_at ∈ zAll := zc_16 _ (List.mem_of_getElem? (i := 23) rfl)
theorem zw_424 : Cond.code yX7_at cX7_at 2 (some .int) ∈ zAll := zc_16 _ (List.mem_of_getElem? (i := 24) rfl)
theorem zw_425 : Cond.methodLink RL 63 yX8_at ∈ zAll := zc_17 _ (List.mem_of_getElem? (i := 0) rfl)
theorem zw_426 : Cond.instanceMethod yX8_at ∈ zAll := zc_17 _ (List.mem_of_getElem? (i := 1) rfl)
theorem zw_427 : Cond.selects RX8 yX8_at yX8_at ∈ zAll := zc_17 _ (List.mem_of_getElem? (i := 2) rfl)
theorem zw_428 : Cond.code yX8_at cX8_at 2 (some .int) ∈ zAll := zc_17 _ (List.mem_of_getElem? (i := 3) rfl)
theorem zw_429 : Cond.methodLink RL 64 yX7_where ∈ zAll := zc_17 _ (List.mem_of_getElem? (i := 4) rfl)
theorem zw_430 : Cond.instanceMethod yX7_where ∈ zAll := zc_17 _ (List.mem_of_getElem? (i := 5) rfl)
theorem zw_431 : Cond.selects RX7 yX7_where yX7_where ∈ zAll := zc_17 _ (List.mem_of_getElem? (i := 6) rfl)
theorem zw_432 : Cond.code yX7_where cX7_where 2 (some .int) ∈ zAll := zc_17 _ (List.mem_of_getElem? (i := 7) rfl)
theorem zw_433 : Cond.methodLink RX7 134 yX3_to ∈ zAll := zc_17 _ (List.mem_of_getElem? (i := 8) rfl)
theorem zw_434 : Cond.methodLink RL 67 yX8_where ∈ zAll := zc_17 _ (List.mem_of_getElem? (i := 9) rfl)
theorem zw_435 : Cond.instanceMethod yX8_where ∈ zAll := zc_17 _ (List.mem_of_getElem? (i := 10) rfl)
theorem zw_436 : Cond.selects RX8 yX8_where yX8_where ∈ zAll := zc_17 _ (List.mem_of_getElem? (i := 11) rfl)
theorem zw_437 : Cond.code yX8_where cX8_where 4 (some .int) ∈ zAll := zc_17 _ (List.mem_of_getElem? (i := 12) rfl)
theorem zw_438 : Cond.methodLink RL 68 yX7_of ∈ zAll := zc_17 _ (List.mem_of_getElem? (i := 13) rfl)
theorem zw_439 : Cond.instanceMethod yX7_of ∈ zAll := zc_17 _ (List.mem_of_getElem? (i := 14) rfl)
theorem zw_440 : Cond.selects RX7 yX7_of yX7_of ∈ zAll := zc_17 _ (List.mem_of_getElem? (i := 15) rfl)
theorem zw_441 : Cond.code yX7_of cX7_of 5 (some .int) ∈ zAll := zc_17 _ (List.mem_of_getElem? (i := 16) rfl)
theorem zw_442 : Cond.methodLink RX7 137 yX7_isMarkOrTrick ∈ zAll := zc_17 _ (List.mem_of_getElem? (i := 17) rfl)
theorem zw_443 : Cond.instanceMethod yX7_isMarkOrTrick ∈ zAll := zc_17 _ (List.mem_of_getElem? (i := 18) rfl)
theorem zw_444 : Cond.selects RX7 yX7_isMarkOrTrick yX7_isMarkOrTrick ∈ zAll := zc_17 _ (List.mem_of_getElem? (i := 19) rfl)
theorem zw_445 : Cond.code yX7_isMarkOrTrick cX7_isMarkOrTrick 2 (some .boolean) ∈ zAll := zc_17 _ (List.mem_of_getElem? (i := 20) rfl)
theorem zw_446 : Cond.methodLink RX7 140 yX7_markOrTrick ∈ zAll := zc_17 _ (List.mem_of_getElem? (i := 21) rfl)
theorem zw_447 : Cond.instanceMethod yX7_markOrTrick ∈ zAll := zc_17 _ (List.mem_of_getElem? (i := 22) rfl)
theorem zw_448 : Cond.selects RX7 yX7_markOrTrick yX7_markOrTrick ∈ zAll := zc_17 _ (List.mem_of_getElem? (i := 23) rfl)
theorem zw_449 : Cond.code yX7_markOrTrick cX7_markOrTrick 2 (some .long) ∈ zAll := zc_17 _ (List.mem_of_getElem? (i := 24) rfl)
theorem zw_450 : Cond.methodLink RX7 143 yX1_tell ∈ zAll := zc_18 _ (List.mem_of_getElem? (i := 0) rfl)
theorem zw_451 : Cond.instanceMethod yX1_tell ∈ zAll := zc_18 _ (List.mem_of_getElem? (i := 1) rfl)
theorem zw_452 : Cond.selects RX1 yX1_tell yX1_tell ∈ zAll := zc_18 _ (List.mem_of_getElem? (i := 2) rfl)
theorem zw_453 : Cond.code yX1_tell cX1_tell 9 none ∈ zAll := zc_18 _ (List.mem_of_getElem? (i := 3) rfl)
theorem zw_454 : Cond.methodLink RX1 15 yX3_cycleLength ∈ zAll := zc_18 _ (List.mem_of_getElem? (i := 4) rfl)
theorem zw_455 : Cond.methodLink RX1 21 yX3_to ∈ zAll := zc_18 _ (List.mem_of_getElem? (i := 5) rfl)
theorem zw_456 : Cond.methodLink RX1 24 yX1_add ∈ zAll := zc_18 _ (List.mem_of_getElem? (i := 6) rfl)
theorem zw_457 : Cond.instanceMethod yX1_add ∈ zAll := zc_18 _ (List.mem_of_getElem? (i := 7) rfl)
theorem zw_458 : Cond.selects RX1 yX1_add yX1_add ∈ zAll := zc_18 _ (List.mem_of_getElem? (i := 8) rfl)
theorem zw_459 : Cond.code yX1_add cX1_add 2 none ∈ zAll := zc_18 _ (List.mem_of_getElem? (i := 9) rfl)
theorem zw_460 : Cond.methodLink RX7 147 yX1_order ∈ zAll := zc_18 _ (List.mem_of_getElem? (i := 10) rfl)
theorem zw_461 : Cond.instanceMethod yX1_order ∈ zAll := zc_18 _ (List.mem_of_getElem? (i := 11) rfl)
theorem zw_462 : Cond.selects RX1 yX1_order yX1_order ∈ zAll := zc_18 _ (List.mem_of_getElem? (i := 12) rfl)
theorem zw_463 : Cond.code yX1_order cX1_order 3 (some .int) ∈ zAll := zc_18 _ (List.mem_of_getElem? (i := 13) rfl)
theorem zw_464 : Cond.methodLink RX1 28 yX1_leastMultiple ∈ zAll := zc_18 _ (List.mem_of_getElem? (i := 14) rfl)
theorem zw_465 : Cond.static yX1_leastMultiple ∈ zAll := zc_18 _ (List.mem_of_getElem? (i := 15) rfl)
theorem zw_466 : Cond.code yX1_leastMultiple cX1_leastMultiple 3 (some .int) ∈ zAll := zc_18 _ (List.mem_of_getElem? (i := 16) rfl)
theorem zw_467 : Cond.methodLink RX7 150 yX1_howMany ∈ zAll := zc_18 _ (List.mem_of_getElem? (i := 17) rfl)
theorem zw_468 : Cond.instanceMethod yX1_howMany ∈ zAll := zc_18 _ (List.mem_of_getElem? (i := 18) rfl)
theorem zw_469 : Cond.selects RX1 yX1_howMany yX1_howMany ∈ zAll := zc_18 _ (List.mem_of_getElem? (i := 19) rfl)
theorem zw_470 : Cond.code yX1_howMany cX1_howMany 3 (some .int) ∈ zAll := zc_18 _ (List.mem_of_getElem? (i := 20) rfl)
theorem zw_471 : Cond.methodLink RX7 156 yX1_longest ∈ zAll := zc_18 _ (List.mem_of_getElem? (i := 21) rfl)
theorem zw_472 : Cond.instanceMethod yX1_longest ∈ zAll := zc_18 _ (List.mem_of_getElem? (i := 22) rfl)
theorem zw_473 : Cond.selects RX1 yX1_longest yX1_longest ∈ zAll := zc_18 _ (List.mem_of_getElem? (i := 23) rfl)
theorem zw_474 : Cond.code yX1_longest cX1_longest 3 (some .int) ∈ zAll := zc_18 _ (List.mem_of_getElem? (i := 24) rfl)
theorem zw_475 : Cond.methodLink RX7 159 yX7_cutsThatStay ∈ zAll := zc_19 _ (List.mem_of_getElem? (i := 0) rfl)
theorem zw_476 : Cond.instanceMethod yX7_cutsThatStay ∈ zAll := zc_19 _ (List.mem_of_getElem? (i := 1) rfl)
theorem zw_477 : Cond.selects RX7 yX7_cutsThatStay yX7_cutsThatStay ∈ zAll := zc_19 _ (List.mem_of_getElem? (i := 2) rfl)
theorem zw_478 : Cond.code yX7_cutsThatStay cX7_cutsThatStay 5 (some .int) ∈ zAll := zc_19 _ (List.mem_of_getElem? (i := 3) rfl)
theorem zw_479 : Cond.methodLink RX7 195 yX5_becomesBy ∈ zAll := zc_19 _ (List.mem_of_getElem? (i := 4) rfl)
theorem zw_480 : Cond.static yX5_becomesBy ∈ zAll := zc_19 _ (List.mem_of_getElem? (i := 5) rfl)
theorem zw_481 : Cond.code yX5_becomesBy cX5_becomesBy 7 (some .long) ∈ zAll := zc_19 _ (List.mem_of_getElem? (i := 6) rfl)
theorem zw_482 : Cond.methodLink RX5 28 yX3_to ∈ zAll := zc_19 _ (List.mem_of_getElem? (i := 7) rfl)
theorem zw_483 : Cond.methodLink RX7 162 yX3_inverse ∈ zAll := zc_19 _ (List.mem_of_getElem? (i := 8) rfl)
theorem zw_484 : Cond.static yX3_inverse ∈ zAll := zc_19 _ (List.mem_of_getElem? (i := 9) rfl)
theorem zw_485 : Cond.code yX3_inverse cX3_inverse 5 (some .long) ∈ zAll := zc_19 _ (List.mem_of_getElem? (i := 10) rfl)
theorem zw_486 : Cond.methodLink RX7 166 yX6_lowestMark ∈ zAll := zc_19 _ (List.mem_of_getElem? (i := 11) rfl)
theorem zw_487 : Cond.instanceMethod yX6_lowestMark ∈ zAll := zc_19 _ (List.mem_of_getElem? (i := 12) rfl)
theorem zw_488 : Cond.selects RX6 yX6_lowestMark yX6_lowestMark ∈ zAll := zc_19 _ (List.mem_of_getElem? (i := 13) rfl)
theorem zw_489 : Cond.code yX6_lowestMark cX6_lowestMark 4 (some .int) ∈ zAll := zc_19 _ (List.mem_of_getElem? (i := 14) rfl)
theorem zw_490 : Cond.methodLink RL 71 yX8_of ∈ zAll := zc_19 _ (List.mem_of_getElem? (i := 15) rfl)
theorem zw_491 : Cond.instanceMethod yX8_of ∈ zAll := zc_19 _ (List.mem_of_getElem? (i := 16) rfl)
theorem zw_492 : Cond.selects RX8 yX8_of yX8_of ∈ zAll := zc_19 _ (List.mem_of_getElem? (i := 17) rfl)
theorem zw_493 : Cond.code yX8_of cX8_of 3 (some .int) ∈ zAll := zc_19 _ (List.mem_of_getElem? (i := 18) rfl)
theorem zw_494 : Cond.methodLink RX8 135 yX8_isMarkOrTrick ∈ zAll := zc_19 _ (List.mem_of_getElem? (i := 19) rfl)
theorem zw_495 : Cond.instanceMethod yX8_isMarkOrTrick ∈ zAll := zc_19 _ (List.mem_of_getElem? (i := 20) rfl)
theorem zw_496 : Cond.selects RX8 yX8_isMarkOrTrick yX8_isMarkOrTrick ∈ zAll := zc_19 _ (List.mem_of_getElem? (i := 21) rfl)
theorem zw_497 : Cond.code yX8_isMarkOrTrick cX8_isMarkOrTrick 2 (some .boolean) ∈ zAll := zc_19 _ (List.mem_of_getElem? (i := 22) rfl)
theorem zw_498 : Cond.methodLink RX8 138 yX8_order ∈ zAll := zc_19 _ (List.mem_of_getElem? (i := 23) rfl)
theorem zw_499 : Cond.instanceMethod yX8_order ∈ zAll := zc_19 _ (List.mem_of_getElem? (i := 24) rfl)
theorem zw_500 : Cond.selects RX8 yX8_order yX8_order ∈ zAll := zc_20 _ (List.mem_of_getElem? (i := 0) rfl)
theorem zw_501 : Cond.code yX8_order cX8_order 4 (some .int) ∈ zAll := zc_20 _ (List.mem_of_getElem? (i := 1) rfl)
theorem zw_502 : Cond.methodLink RX8 76 yX8_cycles ∈ zAll := zc_20 _ (List.mem_of_getElem? (i := 2) rfl)
theorem zw_503 : Cond.instanceMethod yX8_cycles ∈ zAll := zc_20 _ (List.mem_of_getElem? (i := 3) rfl)
theorem zw_504 : Cond.selects RX8 yX8_cycles yX8_cycles ∈ zAll := zc_20 _ (List.mem_of_getElem? (i := 4) rfl)
theorem zw_505 : Cond.code yX8_cycles cX8_cycles 6 (some .int) ∈ zAll := zc_20 _ (List.mem_of_getElem? (i := 5) rfl)
theorem zw_506 : Cond.methodLink RX8 80 yX8_common ∈ zAll := zc_20 _ (List.mem_of_getElem? (i := 6) rfl)
theorem zw_507 : Cond.static yX8_common ∈ zAll := zc_20 _ (List.mem_of_getElem? (i := 7) rfl)
theorem zw_508 : Cond.code yX8_common cX8_common 5 (some .int) ∈ zAll := zc_20 _ (List.mem_of_getElem? (i := 8) rfl)
theorem zw_509 : Cond.methodLink RX8 141 yX8_fixed ∈ zAll := zc_20 _ (List.mem_of_getElem? (i := 9) rfl)
theorem zw_510 : Cond.instanceMethod yX8_fixed ∈ zAll := zc_20 _ (List.mem_of_getElem? (i := 10) rfl)
theorem zw_511 : Cond.selects RX8 yX8_fixed yX8_fixed ∈ zAll := zc_20 _ (List.mem_of_getElem? (i := 11) rfl)
theorem zw_512 : Cond.code yX8_fixed cX8_fixed 4 (some .int) ∈ zAll := zc_20 _ (List.mem_of_getElem? (i := 12) rfl)
theorem zw_513 : Cond.methodLink RX8 144 yX8_longest ∈ zAll := zc_20 _ (List.mem_of_getElem? (i := 13) rfl)
theorem zw_514 : Cond.instanceMethod yX8_longest ∈ zAll := zc_20 _ (List.mem_of_getElem? (i := 14) rfl)
theorem zw_515 : Cond.selects RX8 yX8_longest yX8_longest ∈ zAll := zc_20 _ (List.mem_of_getElem? (i := 15) rfl)
theorem zw_516 : Cond.code yX8_longest cX8_longest 4 (some .int) ∈ zAll := zc_20 _ (List.mem_of_getElem? (i := 16) rfl)
theorem zw_517 : Cond.methodLink RX8 147 yX8_cutsWith ∈ zAll := zc_20 _ (List.mem_of_getElem? (i := 17) rfl)
theorem zw_518 : Cond.instanceMethod yX8_cutsWith ∈ zAll := zc_20 _ (List.mem_of_getElem? (i := 18) rfl)
theorem zw_519 : Cond.selects RX8 yX8_cutsWith yX8_cutsWith ∈ zAll := zc_20 _ (List.mem_of_getElem? (i := 19) rfl)
theorem zw_520 : Cond.code yX8_cutsWith cX8_cutsWith 4 (some .int) ∈ zAll := zc_20 _ (List.mem_of_getElem? (i := 20) rfl)
theorem zw_521 : Cond.methodLink RX8 128 yX8_doCommute ∈ zAll := zc_20 _ (List.mem_of_getElem? (i := 21) rfl)
theorem zw_522 : Cond.instanceMethod yX8_doCommute ∈ zAll := zc_20 _ (List.mem_of_getElem? (i := 22) rfl)
theorem zw_523 : Cond.selects RX8 yX8_doCommute yX8_doCommute ∈ zAll := zc_20 _ (List.mem_of_getElem? (i := 23) rfl)
theorem zw_524 : Cond.code yX8_doCommute cX8_doCommute 5 (some .boolean) ∈ zAll := zc_20 _ (List.mem_of_getElem? (i := 24) rfl)
theorem zw_525 : Cond.methodLink RX8 150 yX8_laysInverse ∈ zAll := zc_21 _ (List.mem_of_getElem? (i := 0) rfl)
theorem zw_526 : Cond.instanceMethod yX8_laysInverse ∈ zAll := zc_21 _ (List.mem_of_getElem? (i := 1) rfl)
theorem zw_527 : Cond.selects RX8 yX8_laysInverse yX8_laysInverse ∈ zAll := zc_21 _ (List.mem_of_getElem? (i := 2) rfl)
theorem zw_528 : Cond.code yX8_laysInverse cX8_laysInverse 4 none ∈ zAll := zc_21 _ (List.mem_of_getElem? (i := 3) rfl)
theorem zw_529 : Cond.methodLink RX8 154 yX8_markAs ∈ zAll := zc_21 _ (List.mem_of_getElem? (i := 4) rfl)
theorem zw_530 : Cond.instanceMethod yX8_markAs ∈ zAll := zc_21 _ (List.mem_of_getElem? (i := 5) rfl)
theorem zw_531 : Cond.selects RX8 yX8_markAs yX8_markAs ∈ zAll := zc_21 _ (List.mem_of_getElem? (i := 6) rfl)
theorem zw_532 : Cond.code yX8_markAs cX8_markAs 3 (some .int) ∈ zAll := zc_21 _ (List.mem_of_getElem? (i := 7) rfl)
theorem zw_533 : Cond.methodLink RX8 132 yX8_areAlike ∈ zAll := zc_21 _ (List.mem_of_getElem? (i := 8) rfl)
theorem zw_534 : Cond.instanceMethod yX8_areAlike ∈ zAll := zc_21 _ (List.mem_of_getElem? (i := 9) rfl)
theorem zw_535 : Cond.selects RX8 yX8_areAlike yX8_areAlike ∈ zAll := zc_21 _ (List.mem_of_getElem? (i := 10) rfl)
theorem zw_536 : Cond.code yX8_areAlike cX8_areAlike 5 (some .boolean) ∈ zAll := zc_21 _ (List.mem_of_getElem? (i := 11) rfl)
theorem zw_537 : Cond.methodLink RL 72 yX7_image ∈ zAll := zc_21 _ (List.mem_of_getElem? (i := 12) rfl)
theorem zw_538 : Cond.instanceMethod yX7_image ∈ zAll := zc_21 _ (List.mem_of_getElem? (i := 13) rfl)
theorem zw_539 : Cond.selects RX7 yX7_image yX7_image ∈ zAll := zc_21 _ (List.mem_of_getElem? (i := 14) rfl)
theorem zw_540 : Cond.code yX7_image cX7_image 4 (some .int) ∈ zAll := zc_21 _ (List.mem_of_getElem? (i := 15) rfl)
theorem zw_541 : Cond.methodLink RX7 169 yX3_toAfter ∈ zAll := zc_21 _ (List.mem_of_getElem? (i := 16) rfl)
theorem zw_542 : Cond.methodLink RL 76 yX8_image ∈ zAll := zc_21 _ (List.mem_of_getElem? (i := 17) rfl)
theorem zw_543 : Cond.instanceMethod yX8_image ∈ zAll := zc_21 _ (List.mem_of_getElem? (i := 18) rfl)
theorem zw_544 : Cond.selects RX8 yX8_image yX8_image ∈ zAll := zc_21 _ (List.mem_of_getElem? (i := 19) rfl)
theorem zw_545 : Cond.code yX8_image cX8_image 4 (some .int) ∈ zAll := zc_21 _ (List.mem_of_getElem? (i := 20) rfl)
theorem zw_546 : Cond.methodLink RL 77 yX7_commuting ∈ zAll := zc_21 _ (List.mem_of_getElem? (i := 21) rfl)
theorem zw_547 : Cond.instanceMethod yX7_commuting ∈ zAll := zc_21 _ (List.mem_of_getElem? (i := 22) rfl)
theorem zw_548 : Cond.selects RX7 yX7_commuting yX7_commuting ∈ zAll := zc_21 _ (List.mem_of_getElem? (i := 23) rfl)
theorem zw_549 : Cond.code yX7_commuting cX7_commuting 2 (some .long) ∈ zAll := zc_21 _ (List.mem_of_getElem? (i := 24) rfl)
theorem zw_550 : Cond.constantLong RX7 173 (-1) ∈ zAll := zc_22 _ (List.mem_of_getElem? (i := 0) rfl)
theorem zw_551 : Cond.methodLink RX7 175 yX1_marksThatCommute ∈ zAll := zc_22 _ (List.mem_of_getElem? (i := 1) rfl)
theorem zw_552 : Cond.instanceMethod yX1_marksThatCommute ∈ zAll := zc_22 _ (List.mem_of_getElem? (i := 2) rfl)
theorem zw_553 : Cond.selects RX1 yX1_marksThatCommute yX1_marksThatCommute ∈ zAll := zc_22 _ (List.mem_of_getElem? (i := 3) rfl)
theorem zw_554 : Cond.code yX1_marksThatCommute cX1_marksThatCommute 5 (some .long) ∈ zAll := zc_22 _ (List.mem_of_getElem? (i := 4) rfl)
theorem zw_555 : Cond.methodLink RL 81 yX8_commuting ∈ zAll := zc_22 _ (List.mem_of_getElem? (i := 5) rfl)
theorem zw_556 : Cond.instanceMethod yX8_commuting ∈ zAll := zc_22 _ (List.mem_of_getElem? (i := 6) rfl)
theorem zw_557 : Cond.selects RX8 yX8_commuting yX8_commuting ∈ zAll := zc_22 _ (List.mem_of_getElem? (i := 7) rfl)
theorem zw_558 : Cond.code yX8_commuting cX8_commuting 6 (some .long) ∈ zAll := zc_22 _ (List.mem_of_getElem? (i := 8) rfl)
theorem zw_559 : Cond.constantLong RX8 157 (-1) ∈ zAll := zc_22 _ (List.mem_of_getElem? (i := 9) rfl)
theorem zw_560 : Cond.methodLink RL 82 yX7_commute ∈ zAll := zc_22 _ (List.mem_of_getElem? (i := 10) rfl)
theorem zw_561 : Cond.instanceMethod yX7_commute ∈ zAll := zc_22 _ (List.mem_of_getElem? (i := 11) rfl)
theorem zw_562 : Cond.selects RX7 yX7_commute yX7_commute ∈ zAll := zc_22 _ (List.mem_of_getElem? (i := 12) rfl)
theorem zw_563 : Cond.code yX7_commute cX7_commute 7 (some .int) ∈ zAll := zc_22 _ (List.mem_of_getElem? (i := 13) rfl)
theorem zw_564 : Cond.methodLink RL 85 yX8_commute ∈ zAll := zc_22 _ (List.mem_of_getElem? (i := 14) rfl)
theorem zw_565 : Cond.instanceMethod yX8_commute ∈ zAll := zc_22 _ (List.mem_of_getElem? (i := 15) rfl)
theorem zw_566 : Cond.selects RX8 yX8_commute yX8_commute ∈ zAll := zc_22 _ (List.mem_of_getElem? (i := 16) rfl)
theorem zw_567 : Cond.code yX8_commute cX8_commute 3 (some .int) ∈ zAll := zc_22 _ (List.mem_of_getElem? (i := 17) rfl)
theorem zw_568 : Cond.methodLink RL 86 yX7_count ∈ zAll := zc_22 _ (List.mem_of_getElem? (i := 18) rfl)
theorem zw_569 : Cond.instanceMethod yX7_count ∈ zAll := zc_22 _ (List.mem_of_getElem? (i := 19) rfl)
theorem zw_570 : Cond.selects RX7 yX7_count yX7_count ∈ zAll := zc_22 _ (List.mem_of_getElem? (i := 20) rfl)
theorem zw_571 : Cond.code yX7_count cX7_count 2 (some .int) ∈ zAll := zc_22 _ (List.mem_of_getElem? (i := 21) rfl)
theorem zw_572 : Cond.methodLink RL 89 yX8_count ∈ zAll := zc_22 _ (List.mem_of_getElem? (i := 22) rfl)
theorem zw_573 : Cond.instanceMethod yX8_count ∈ zAll := zc_22 _ (List.mem_of_getElem? (i := 23) rfl)
theorem zw_574 : Cond.selects RX8 yX8_count yX8_count ∈ zAll := zc_22 _ (List.mem_of_getElem? (i := 24) rfl)
theorem zw_575 : Cond.code yX8_count cX8_count 2 (some .int) ∈ zAll := zc_23 _ (List.mem_of_getElem? (i := 0) rfl)
theorem zw_576 : Cond.methodLink RX8 159 yX8_inPlace ∈ zAll := zc_23 _ (List.mem_of_getElem? (i := 1) rfl)
theorem zw_577 : Cond.instanceMethod yX8_inPlace ∈ zAll := zc_23 _ (List.mem_of_getElem? (i := 2) rfl)
theorem zw_578 : Cond.selects RX8 yX8_inPlace yX8_inPlace ∈ zAll := zc_23 _ (List.mem_of_getElem? (i := 3) rfl)
theorem zw_579 : Cond.code yX8_inPlace cX8_inPlace 3 (some .int) ∈ zAll := zc_23 _ (List.mem_of_getElem? (i := 4) rfl)
theorem zw_580 : Cond.methodLink RX8 162 yX8_isInOrder ∈ zAll := zc_23 _ (List.mem_of_getElem? (i := 5) rfl)
theorem zw_581 : Cond.instanceMethod yX8_isInOrder ∈ zAll := zc_23 _ (List.mem_of_getElem? (i := 6) rfl)
theorem zw_582 : Cond.selects RX8 yX8_isInOrder yX8_isInOrder ∈ zAll := zc_23 _ (List.mem_of_getElem? (i := 7) rfl)
theorem zw_583 : Cond.code yX8_isInOrder cX8_isInOrder 1 (some .boolean) ∈ zAll := zc_23 _ (List.mem_of_getElem? (i := 8) rfl)
theorem zw_584 : Cond.methodLink RL 90 yX7_spread ∈ zAll := zc_23 _ (List.mem_of_getElem? (i := 9) rfl)
theorem zw_585 : Cond.instanceMethod yX7_spread ∈ zAll := zc_23 _ (List.mem_of_getElem? (i := 10) rfl)
theorem zw_586 : Cond.selects RX7 yX7_spread yX7_spread ∈ zAll := zc_23 _ (List.mem_of_getElem? (i := 11) rfl)
theorem zw_587 : Cond.code yX7_spread cX7_spread 5 (some .long) ∈ zAll := zc_23 _ (List.mem_of_getElem? (i := 12) rfl)
theorem zw_588 : Cond.methodLink RX7 179 yX0_ofDouble ∈ zAll := zc_23 _ (List.mem_of_getElem? (i := 13) rfl)
theorem zw_589 : Cond.static yX0_ofDouble ∈ zAll := zc_23 _ (List.mem_of_getElem? (i := 14) rfl)
theorem zw_590 : Cond.initialized RX0 ∈ zAll := zc_23 _ (List.mem_of_getElem? (i := 15) rfl)
theorem zw_591 : Cond.code yX0_ofDouble cX0_ofDouble 7 (some .long) ∈ zAll := zc_23 _ (List.mem_of_getElem? (i := 16) rfl)
theorem zw_592 : Cond.constantDouble RX0 7 (4611686018427387904) ∈ zAll := zc_23 _ (List.mem_of_getElem? (i := 17) rfl)
theorem zw_593 : Cond.constantDouble RX0 11 (4841369599423283200) ∈ zAll := zc_23 _ (List.mem_of_getElem? (i := 18) rfl)
theorem zw_594 : Cond.methodLink RL 94 yX8_spread ∈ zAll := zc_23 _ (List.mem_of_getElem? (i := 19) rfl)
theorem zw_595 : Cond.instanceMethod yX8_spread ∈ zAll := zc_23 _ (List.mem_of_getElem? (i := 20) rfl)
theorem zw_596 : Cond.selects RX8 yX8_spread yX8_spread ∈ zAll := zc_23 _ (List.mem_of_getElem? (i := 21) rfl)
theorem zw_597 : Cond.code yX8_spread cX8_spread 5 (some .long) ∈ zAll := zc_23 _ (List.mem_of_getElem? (i := 22) rfl)
theorem zw_598 : Cond.methodLink RX8 166 yJxe99ae_doubleToLongBits_ccdee ∈ zAll := zc_23 _ (List.mem_of_getElem? (i := 23) rfl)
theorem zw_599 : Cond.static yJxe99ae_doubleToLongBits_ccdee ∈ zAll := zc_23 _ (List.mem_of_getElem? (i := 24) rfl)
theorem zw_600 : Cond.initialized RJxe99ae ∈ zAll := zc_24 _ (List.mem_of_getElem? (i := 0) rfl)
theorem zw_601 : Cond.code yJxe99ae_doubleToLongBits_ccdee cJxe99ae_doubleToLongBits_ccdee 2 (some .long) ∈ zAll := zc_24 _ (List.mem_of_getElem? (i := 1) rfl)
theorem zw_602 : Cond.methodLink RJxe99ae 134 ⟨"java/lang/Double", "doubleToRawLongBits", "(D)J"⟩ ∈ zAll := zc_24 _ (List.mem_of_getElem? (i := 2) rfl)
theorem zw_603 : Cond.native ⟨"java/lang/Double", "doubleToRawLongBits", "(D)J"⟩ ∈ zAll := zc_24 _ (List.mem_of_getElem? (i := 3) rfl)
theorem zw_604 : Cond.static ⟨"java/lang/Double", "doubleToRawLongBits", "(D)J"⟩ ∈ zAll := zc_24 _ (List.mem_of_getElem? (i := 4) rfl)
theorem zw_605 : Cond.constantLong RJxe99ae 137 (9221120237041090560) ∈ zAll := zc_24 _ (List.mem_of_getElem? (i := 5) rfl)
theorem zw_606 : Cond.methodLink RJxe99ae 122 yJxe99ae_isNaN_b9ae7 ∈ zAll := zc_24 _ (List.mem_of_getElem? (i := 6) rfl)
theorem zw_607 : Cond.static yJxe99ae_isNaN_b9ae7 ∈ zAll := zc_24 _ (List.mem_of_getElem? (i := 7) rfl)
theorem zw_608 : Cond.code yJxe99ae_isNaN_b9ae7 cJxe99ae_isNaN_b9ae7 2 (some .boolean) ∈ zAll := zc_24 _ (List.mem_of_getElem? (i := 8) rfl)
theorem zw_609 : Cond.methodLink RL 95 yX7_share ∈ zAll := zc_24 _ (List.mem_of_getElem? (i := 9) rfl)
theorem zw_610 : Cond.instanceMethod yX7_share ∈ zAll := zc_24 _ (List.mem_of_getElem? (i := 10) rfl)
theorem zw_611 : Cond.selects RX7 yX7_share yX7_share ∈ zAll := zc_24 _ (List.mem_of_getElem? (i := 11) rfl)
theorem zw_612 : Cond.code yX7_share cX7_share 2 (some .int) ∈ zAll := zc_24 _ (List.mem_of_getElem? (i := 12) rfl)
theorem zw_613 : Cond.methodLink RX7 191 yX0_ofShare ∈ zAll := zc_24 _ (List.mem_of_getElem? (i := 13) rfl)
theorem zw_614 : Cond.static yX0_ofShare ∈ zAll := zc_24 _ (List.mem_of_getElem? (i := 14) rfl)
theorem zw_615 : Cond.code yX0_ofShare cX0_ofShare 4 (some .int) ∈ zAll := zc_24 _ (List.mem_of_getElem? (i := 15) rfl)
theorem zw_616 : Cond.constantFloat RX0 13 (1258291200) ∈ zAll := zc_24 _ (List.mem_of_getElem? (i := 16) rfl)
theorem zw_617 : Cond.methodLink RL 98 yX8_share ∈ zAll := zc_24 _ (List.mem_of_getElem? (i := 17) rfl)
theorem zw_618 : Cond.instanceMethod yX8_share ∈ zAll := zc_24 _ (List.mem_of_getElem? (i := 18) rfl)
theorem zw_619 : Cond.selects RX8 yX8_share yX8_share ∈ zAll := zc_24 _ (List.mem_of_getElem? (i := 19) rfl)
theorem zw_620 : Cond.code yX8_share cX8_share 3 (some .int) ∈ zAll := zc_24 _ (List.mem_of_getElem? (i := 20) rfl)
theorem zw_621 : Cond.methodLink RX8 172 yJxf58ca_floatToIntBits_5c35a ∈ zAll := zc_24 _ (List.mem_of_getElem? (i := 21) rfl)
theorem zw_622 : Cond.static yJxf58ca_floatToIntBits_5c35a ∈ zAll := zc_24 _ (List.mem_of_getElem? (i := 22) rfl)
theorem zw_623 : Cond.initialized RJxf58ca ∈ zAll := zc_24 _ (List.mem_of_getElem? (i := 23) rfl)
theorem zw_624 : Cond.code yJxf58ca_floatToIntBits_5c35a cJxf58ca_floatToIntBits_5c35a 1 (some .int) ∈ zAll := zc_24 _ (List.mem_of_getElem? (i := 24) rfl)
theorem zw_625 : Cond.methodLink RJxf58ca 74 ⟨"java/lang/Float", "floatToRawIntBits", "(F)I"⟩ ∈ zAll := zc_25 _ (List.mem_of_getElem? (i := 0) rfl)
theorem zw_626 : Cond.native ⟨"java/lang/Float", "floatToRawIntBits", "(F)I"⟩ ∈ zAll := zc_25 _ (List.mem_of_getElem? (i := 1) rfl)
theorem zw_627 : Cond.static ⟨"java/lang/Float", "floatToRawIntBits", "(F)I"⟩ ∈ zAll := zc_25 _ (List.mem_of_getElem? (i := 2) rfl)
theorem zw_628 : Cond.constant RJxf58ca 77 (2143289344) ∈ zAll := zc_25 _ (List.mem_of_getElem? (i := 3) rfl)
theorem zw_629 : Cond.methodLink RJxf58ca 59 yJxf58ca_isNaN_12338 ∈ zAll := zc_25 _ (List.mem_of_getElem? (i := 4) rfl)
theorem zw_630 : Cond.static yJxf58ca_isNaN_12338 ∈ zAll := zc_25 _ (List.mem_of_getElem? (i := 5) rfl)
theorem zw_631 : Cond.code yJxf58ca_isNaN_12338 cJxf58ca_isNaN_12338 1 (some .boolean) ∈ zAll := zc_25 _ (List.mem_of_getElem? (i := 6) rfl)
theorem zw_632 : Cond.methodLink RL 99 yX7_byCut ∈ zAll := zc_25 _ (List.mem_of_getElem? (i := 7) rfl)
theorem zw_633 : Cond.instanceMethod yX7_byCut ∈ zAll := zc_25 _ (List.mem_of_getElem? (i := 8) rfl)
theorem zw_634 : Cond.selects RX7 yX7_byCut yX7_byCut ∈ zAll := zc_25 _ (List.mem_of_getElem? (i := 9) rfl)
theorem zw_635 : Cond.code yX7_byCut cX7_byCut 4 (some .int) ∈ zAll := zc_25 _ (List.mem_of_getElem? (i := 10) rfl)
theorem zw_636 : Cond.methodLink RL 102 yX8_byCut ∈ zAll := zc_25 _ (List.mem_of_getElem? (i := 11) rfl)
theorem zw_637 : Cond.instanceMethod yX8_byCut ∈ zAll := zc_25 _ (List.mem_of_getElem? (i := 12) rfl)
theorem zw_638 : Cond.selects RX8 yX8_byCut yX8_byCut ∈ zAll := zc_25 _ (List.mem_of_getElem? (i := 13) rfl)
theorem zw_639 : Cond.code yX8_byCut cX8_byCut 4 (some .int) ∈ zAll := zc_25 _ (List.mem_of_getElem? (i := 14) rfl)
theorem zw_640 : Cond.methodLink RX8 178 yX8_laysByCut ∈ zAll := zc_25 _ (List.mem_of_getElem? (i := 15) rfl)
theorem zw_641 : Cond.instanceMethod yX8_laysByCut ∈ zAll := zc_25 _ (List.mem_of_getElem? (i := 16) rfl)
theorem zw_642 : Cond.selects RX8 yX8_laysByCut yX8_laysByCut ∈ zAll := zc_25 _ (List.mem_of_getElem? (i := 17) rfl)
theorem zw_643 : Cond.code yX8_laysByCut cX8_laysByCut 4 none ∈ zAll := zc_25 _ (List.mem_of_getElem? (i := 18) rfl)
theorem zw_644 : Cond.methodLink RL 103 yX7_becomes ∈ zAll := zc_25 _ (List.mem_of_getElem? (i := 19) rfl)
theorem zw_645 : Cond.instanceMethod yX7_becomes ∈ zAll := zc_25 _ (List.mem_of_getElem? (i := 20) rfl)
theorem zw_646 : Cond.selects RX7 yX7_becomes yX7_becomes ∈ zAll := zc_25 _ (List.mem_of_getElem? (i := 21) rfl)
theorem zw_647 : Cond.code yX7_becomes cX7_becomes 3 (some .int) ∈ zAll := zc_25 _ (List.mem_of_getElem? (i := 22) rfl)
theorem zw_648 : Cond.methodLink RL 106 yX8_becomes ∈ zAll := zc_25 _ (List.mem_of_getElem? (i := 23) rfl)
theorem zw_649 : Cond.instanceMethod yX8_becomes ∈ zAll := zc_25 _ (List.mem_of_getElem? (i := 24) rfl)
theorem zw_650 : Cond.selects RX8 yX8_becomes yX8_becomes ∈ zAll := zc_26 _ (List.mem_of_getElem? (i := 0) rfl)
theorem zw_651 : Cond.code yX8_becomes cX8_becomes 3 (some .int) ∈ zAll := zc_26 _ (List.mem_of_getElem? (i := 1) rfl)
theorem zw_652 : Cond.methodLink RL 107 yX7_ordersIn ∈ zAll := zc_26 _ (List.mem_of_getElem? (i := 2) rfl)
theorem zw_653 : Cond.instanceMethod yX7_ordersIn ∈ zAll := zc_26 _ (List.mem_of_getElem? (i := 3) rfl)
theorem zw_654 : Cond.selects RX7 yX7_ordersIn yX7_ordersIn ∈ zAll := zc_26 _ (List.mem_of_getElem? (i := 4) rfl)
theorem zw_655 : Cond.code yX7_ordersIn cX7_ordersIn 8 (some .int) ∈ zAll := zc_26 _ (List.mem_of_getElem? (i := 5) rfl)
theorem zw_656 : Cond.methodLink RL 110 yX8_ordersIn ∈ zAll := zc_26 _ (List.mem_of_getElem? (i := 6) rfl)
theorem zw_657 : Cond.instanceMethod yX8_ordersIn ∈ zAll := zc_26 _ (List.mem_of_getElem? (i := 7) rfl)
theorem zw_658 : Cond.selects RX8 yX8_ordersIn yX8_ordersIn ∈ zAll := zc_26 _ (List.mem_of_getElem? (i := 8) rfl)
theorem zw_659 : Cond.code yX8_ordersIn cX8_ordersIn 5 (some .int) ∈ zAll := zc_26 _ (List.mem_of_getElem? (i := 9) rfl)
theorem zw_660 : Cond.methodLink RL 111 yX7_fewestSteps ∈ zAll := zc_26 _ (List.mem_of_getElem? (i := 10) rfl)
theorem zw_661 : Cond.instanceMethod yX7_fewestSteps ∈ zAll := zc_26 _ (List.mem_of_getElem? (i := 11) rfl)
theorem zw_662 : Cond.selects RX7 yX7_fewestSteps yX7_fewestSteps ∈ zAll := zc_26 _ (List.mem_of_getElem? (i := 12) rfl)
theorem zw_663 : Cond.code yX7_fewestSteps cX7_fewestSteps 2 (some .int) ∈ zAll := zc_26 _ (List.mem_of_getElem? (i := 13) rfl)
theorem zw_664 : Cond.methodLink RX7 199 yX7_lowestWay ∈ zAll := zc_26 _ (List.mem_of_getElem? (i := 14) rfl)
theorem zw_665 : Cond.instanceMethod yX7_lowestWay ∈ zAll := zc_26 _ (List.mem_of_getElem? (i := 15) rfl)
theorem zw_666 : Cond.selects RX7 yX7_lowestWay yX7_lowestWay ∈ zAll := zc_26 _ (List.mem_of_getElem? (i := 16) rfl)
theorem zw_667 : Cond.code yX7_lowestWay cX7_lowestWay 4 (some .int) ∈ zAll := zc_26 _ (List.mem_of_getElem? (i := 17) rfl)
theorem zw_668 : Cond.methodLink RX7 233 yX7_ordersDeck ∈ zAll := zc_26 _ (List.mem_of_getElem? (i := 18) rfl)
theorem zw_669 : Cond.instanceMethod yX7_ordersDeck ∈ zAll := zc_26 _ (List.mem_of_getElem? (i := 19) rfl)
theorem zw_670 : Cond.selects RX7 yX7_ordersDeck yX7_ordersDeck ∈ zAll := zc_26 _ (List.mem_of_getElem? (i := 20) rfl)
theorem zw_671 : Cond.code yX7_ordersDeck cX7_ordersDeck 6 (some .boolean) ∈ zAll := zc_26 _ (List.mem_of_getElem? (i := 21) rfl)
theorem zw_672 : Cond.methodLink RX7 205 yX7_stepOfWay ∈ zAll := zc_26 _ (List.mem_of_getElem? (i := 22) rfl)
theorem zw_673 : Cond.static yX7_stepOfWay ∈ zAll := zc_26 _ (List.mem_of_getElem? (i := 23) rfl)
theorem zw_674 : Cond.code yX7_stepOfWay cX7_stepOfWay 3 (some .int) ∈ zAll := zc_26 _ (List.mem_of_getElem? (i := 24) rfl)
theorem zw_675 : Cond.methodLink RX7 237 yX5_stepTo ∈ zAll := zc_27 _ (List.mem_of_getElem? (i := 0) rfl)
theorem zw_676 : Cond.methodLink RL 114 yX8_fewestSteps ∈ zAll := zc_27 _ (List.mem_of_getElem? (i := 1) rfl)
theorem zw_677 : Cond.instanceMethod yX8_fewestSteps ∈ zAll := zc_27 _ (List.mem_of_getElem? (i := 2) rfl)
theorem zw_678 : Cond.selects RX8 yX8_fewestSteps yX8_fewestSteps ∈ zAll := zc_27 _ (List.mem_of_getElem? (i := 3) rfl)
theorem zw_679 : Cond.code yX8_fewestSteps cX8_fewestSteps 2 (some .int) ∈ zAll := zc_27 _ (List.mem_of_getElem? (i := 4) rfl)
theorem zw_680 : Cond.methodLink RX8 189 yX8_leastSteps ∈ zAll := zc_27 _ (List.mem_of_getElem? (i := 5) rfl)
theorem zw_681 : Cond.instanceMethod yX8_leastSteps ∈ zAll := zc_27 _ (List.mem_of_getElem? (i := 6) rfl)
theorem zw_682 : Cond.selects RX8 yX8_leastSteps yX8_leastSteps ∈ zAll := zc_27 _ (List.mem_of_getElem? (i := 7) rfl)
theorem zw_683 : Cond.code yX8_leastSteps cX8_leastSteps 3 (some .int) ∈ zAll := zc_27 _ (List.mem_of_getElem? (i := 8) rfl)
theorem zw_684 : Cond.methodLink RX8 185 yX8_areOrdering ∈ zAll := zc_27 _ (List.mem_of_getElem? (i := 9) rfl)
theorem zw_685 : Cond.instanceMethod yX8_areOrdering ∈ zAll := zc_27 _ (List.mem_of_getElem? (i := 10) rfl)
theorem zw_686 : Cond.selects RX8 yX8_areOrdering yX8_areOrdering ∈ zAll := zc_27 _ (List.mem_of_getElem? (i := 11) rfl)
theorem zw_687 : Cond.code yX8_areOrdering cX8_areOrdering 5 (some .boolean) ∈ zAll := zc_27 _ (List.mem_of_getElem? (i := 12) rfl)
theorem zw_688 : Cond.methodLink RX8 182 yX8_laysStep ∈ zAll := zc_27 _ (List.mem_of_getElem? (i := 13) rfl)
theorem zw_689 : Cond.instanceMethod yX8_laysStep ∈ zAll := zc_27 _ (List.mem_of_getElem? (i := 14) rfl)
theorem zw_690 : Cond.selects RX8 yX8_laysStep yX8_laysStep ∈ zAll := zc_27 _ (List.mem_of_getElem? (i := 15) rfl)
theorem zw_691 : Cond.code yX8_laysStep cX8_laysStep 2 none ∈ zAll := zc_27 _ (List.mem_of_getElem? (i := 16) rfl)
theorem zw_692 : Cond.methodLink RL 115 yX7_firstStep ∈ zAll := zc_27 _ (List.mem_of_getElem? (i := 17) rfl)
theorem zw_693 : Cond.instanceMethod yX7_firstStep ∈ zAll := zc_27 _ (List.mem_of_getElem? (i := 18) rfl)
theorem zw_694 : Cond.selects RX7 yX7_firstStep yX7_firstStep ∈ zAll := zc_27 _ (List.mem_of_getElem? (i := 19) rfl)
theorem zw_695 : Cond.code yX7_firstStep cX7_firstStep 2 (some .int) ∈ zAll := zc_27 _ (List.mem_of_getElem? (i := 20) rfl)
theorem zw_696 : Cond.methodLink RX7 202 yX7_fewestSteps ∈ zAll := zc_27 _ (List.mem_of_getElem? (i := 21) rfl)
theorem zw_697 : Cond.methodLink RL 118 yX8_firstStep ∈ zAll := zc_27 _ (List.mem_of_getElem? (i := 22) rfl)
theorem zw_698 : Cond.instanceMethod yX8_firstStep ∈ zAll := zc_27 _ (List.mem_of_getElem? (i := 23) rfl)
theorem zw_699 : Cond.selects RX8 yX8_firstStep yX8_firstStep ∈ zAll := zc_27 _ (List.mem_of_getElem? (i := 24) rfl)
theorem zw_700 : Cond.code yX8_firstStep cX8_firstStep 3 (some .int) ∈ zAll := zc_28 _ (List.mem_of_getElem? (i := 0) rfl)
theorem zw_701 : Cond.methodLink RL 121 yX7_put ∈ zAll := zc_28 _ (List.mem_of_getElem? (i := 1) rfl)
theorem zw_702 : Cond.instanceMethod yX7_put ∈ zAll := zc_28 _ (List.mem_of_getElem? (i := 2) rfl)
theorem zw_703 : Cond.selects RX7 yX7_put yX7_put ∈ zAll := zc_28 _ (List.mem_of_getElem? (i := 3) rfl)
theorem zw_704 : Cond.code yX7_put cX7_put 5 (some .int) ∈ zAll := zc_28 _ (List.mem_of_getElem? (i := 4) rfl)
theorem zw_705 : Cond.methodLink RX7 209 yX7_charactersIn ∈ zAll := zc_28 _ (List.mem_of_getElem? (i := 5) rfl)
theorem zw_706 : Cond.static yX7_charactersIn ∈ zAll := zc_28 _ (List.mem_of_getElem? (i := 6) rfl)
theorem zw_707 : Cond.code yX7_charactersIn cX7_charactersIn 4 (some .int) ∈ zAll := zc_28 _ (List.mem_of_getElem? (i := 7) rfl)
theorem zw_708 : Cond.methodLink RX7 212 yX7_codeAt ∈ zAll := zc_28 _ (List.mem_of_getElem? (i := 8) rfl)
theorem zw_709 : Cond.static yX7_codeAt ∈ zAll := zc_28 _ (List.mem_of_getElem? (i := 9) rfl)
theorem zw_710 : Cond.code yX7_codeAt cX7_codeAt 3 (some .int) ∈ zAll := zc_28 _ (List.mem_of_getElem? (i := 10) rfl)
theorem zw_711 : Cond.methodLink RX7 215 yX7_append ∈ zAll := zc_28 _ (List.mem_of_getElem? (i := 11) rfl)
theorem zw_712 : Cond.instanceMethod yX7_append ∈ zAll := zc_28 _ (List.mem_of_getElem? (i := 12) rfl)
theorem zw_713 : Cond.selects RX7 yX7_append yX7_append ∈ zAll := zc_28 _ (List.mem_of_getElem? (i := 13) rfl)
theorem zw_714 : Cond.code yX7_append cX7_append 2 none ∈ zAll := zc_28 _ (List.mem_of_getElem? (i := 14) rfl)
theorem zw_715 : Cond.methodLink RL 125 yX8_put ∈ zAll := zc_28 _ (List.mem_of_getElem? (i := 15) rfl)
theorem zw_716 : Cond.instanceMethod yX8_put ∈ zAll := zc_28 _ (List.mem_of_getElem? (i := 16) rfl)
theorem zw_717 : Cond.selects RX8 yX8_put yX8_put ∈ zAll := zc_28 _ (List.mem_of_getElem? (i := 17) rfl)
theorem zw_718 : Cond.code yX8_put cX8_put 8 (some .int) ∈ zAll := zc_28 _ (List.mem_of_getElem? (i := 18) rfl)
theorem zw_719 : Cond.constantLong RX8 192 (255) ∈ zAll := zc_28 _ (List.mem_of_getElem? (i := 19) rfl)
theorem zw_720 : Cond.methodLink RL 126 yX7_wipe ∈ zAll := zc_28 _ (List.mem_of_getElem? (i := 20) rfl)
theorem zw_721 : Cond.instanceMethod yX7_wipe ∈ zAll := zc_28 _ (List.mem_of_getElem? (i := 21) rfl)
theorem zw_722 : Cond.selects RX7 yX7_wipe yX7_wipe ∈ zAll := zc_28 _ (List.mem_of_getElem? (i := 22) rfl)
theorem zw_723 : Cond.code yX7_wipe cX7_wipe 2 (some .int) ∈ zAll := zc_28 _ (List.mem_of_getElem? (i := 23) rfl)
theorem zw_724 : Cond.methodLink RL 129 yX8_wipe ∈ zAll := zc_28 _ (List.mem_of_getElem? (i := 24) rfl)
theorem zw_725 : Cond.instanceMethod yX8_wipe ∈ zAll := zc_29 _ (List.mem_of_getElem? (i := 0) rfl)
theorem zw_726 : Cond.selects RX8 yX8_wipe yX8_wipe ∈ zAll := zc_29 _ (List.mem_of_getElem? (i := 1) rfl)
theorem zw_727 : Cond.code yX8_wipe cX8_wipe 2 (some .int) ∈ zAll := zc_29 _ (List.mem_of_getElem? (i := 2) rfl)
theorem zw_728 : Cond.methodLink RL 130 yX7_fault ∈ zAll := zc_29 _ (List.mem_of_getElem? (i := 3) rfl)
theorem zw_729 : Cond.instanceMethod yX7_fault ∈ zAll := zc_29 _ (List.mem_of_getElem? (i := 4) rfl)
theorem zw_730 : Cond.selects RX7 yX7_fault yX7_fault ∈ zAll := zc_29 _ (List.mem_of_getElem? (i := 5) rfl)
theorem zw_731 : Cond.code yX7_fault cX7_fault 1 (some .int) ∈ zAll := zc_29 _ (List.mem_of_getElem? (i := 6) rfl)
theorem zw_732 : Cond.methodLink RL 133 yX8_fault ∈ zAll := zc_29 _ (List.mem_of_getElem? (i := 7) rfl)
theorem zw_733 : Cond.instanceMethod yX8_fault ∈ zAll := zc_29 _ (List.mem_of_getElem? (i := 8) rfl)
theorem zw_734 : Cond.selects RX8 yX8_fault yX8_fault ∈ zAll := zc_29 _ (List.mem_of_getElem? (i := 9) rfl)
theorem zw_735 : Cond.code yX8_fault cX8_fault 1 (some .int) ∈ zAll := zc_29 _ (List.mem_of_getElem? (i := 10) rfl)
theorem zw_736 : Cond.methodLink RL 134 yX7_undo ∈ zAll := zc_29 _ (List.mem_of_getElem? (i := 11) rfl)
theorem zw_737 : Cond.instanceMethod yX7_undo ∈ zAll := zc_29 _ (List.mem_of_getElem? (i := 12) rfl)
theorem zw_738 : Cond.selects RX7 yX7_undo yX7_undo ∈ zAll := zc_29 _ (List.mem_of_getElem? (i := 13) rfl)
theorem zw_739 : Cond.code yX7_undo cX7_undo 1 (some .int) ∈ zAll := zc_29 _ (List.mem_of_getElem? (i := 14) rfl)
theorem zw_740 : Cond.methodLink RX7 219 yX4_bring ∈ zAll := zc_29 _ (List.mem_of_getElem? (i := 15) rfl)
theorem zw_741 : Cond.instanceMethod yX4_bring ∈ zAll := zc_29 _ (List.mem_of_getElem? (i := 16) rfl)
theorem zw_742 : Cond.selects RX4 yX4_bring yX4_bring ∈ zAll := zc_29 _ (List.mem_of_getElem? (i := 17) rfl)
theorem zw_743 : Cond.code yX4_bring cX4_bring 3 none ∈ zAll := zc_29 _ (List.mem_of_getElem? (i := 18) rfl)
theorem zw_744 : Cond.methodLink RL 137 yX8_undo ∈ zAll := zc_29 _ (List.mem_of_getElem? (i := 19) rfl)
theorem zw_745 : Cond.instanceMethod yX8_undo ∈ zAll := zc_29 _ (List.mem_of_getElem? (i := 20) rfl)
theorem zw_746 : Cond.selects RX8 yX8_undo yX8_undo ∈ zAll := zc_29 _ (List.mem_of_getElem? (i := 21) rfl)
theorem zw_747 : Cond.code yX8_undo cX8_undo 2 (some .int) ∈ zAll := zc_29 _ (List.mem_of_getElem? (i := 22) rfl)
theorem zw_748 : Cond.methodLink RL 138 yX7_save ∈ zAll := zc_29 _ (List.mem_of_getElem? (i := 23) rfl)
theorem zw_749 : Cond.instanceMethod yX7_save ∈ zAll := zc_29 _ (List.mem_of_getElem? (i := 24) rfl)
theorem zw_750 : Cond.selects RX7 yX7_save yX7_save ∈ zAll := zc_30 _ (List.mem_of_getElem? (i := 0) rfl)
theorem zw_751 : Cond.code yX7_save cX7_save 2 (some .int) ∈ zAll := zc_30 _ (List.mem_of_getElem? (i := 1) rfl)
theorem zw_752 : Cond.methodLink RX7 223 yX4_hasPlace ∈ zAll := zc_30 _ (List.mem_of_getElem? (i := 2) rfl)
theorem zw_753 : Cond.methodLink RL 141 yX8_save ∈ zAll := zc_30 _ (List.mem_of_getElem? (i := 3) rfl)
theorem zw_754 : Cond.instanceMethod yX8_save ∈ zAll := zc_30 _ (List.mem_of_getElem? (i := 4) rfl)
theorem zw_755 : Cond.selects RX8 yX8_save yX8_save ∈ zAll := zc_30 _ (List.mem_of_getElem? (i := 5) rfl)
theorem zw_756 : Cond.code yX8_save cX8_save 3 (some .int) ∈ zAll := zc_30 _ (List.mem_of_getElem? (i := 6) rfl)
theorem zw_757 : Cond.methodLink RL 142 yX7_restore ∈ zAll := zc_30 _ (List.mem_of_getElem? (i := 7) rfl)
theorem zw_758 : Cond.instanceMethod yX7_restore ∈ zAll := zc_30 _ (List.mem_of_getElem? (i := 8) rfl)
theorem zw_759 : Cond.selects RX7 yX7_restore yX7_restore ∈ zAll := zc_30 _ (List.mem_of_getElem? (i := 9) rfl)
theorem zw_760 : Cond.code yX7_restore cX7_restore 2 (some .int) ∈ zAll := zc_30 _ (List.mem_of_getElem? (i := 10) rfl)
theorem zw_761 : Cond.methodLink RX7 227 yX4_isFull ∈ zAll := zc_30 _ (List.mem_of_getElem? (i := 11) rfl)
theorem zw_762 : Cond.instanceMethod yX4_isFull ∈ zAll := zc_30 _ (List.mem_of_getElem? (i := 12) rfl)
theorem zw_763 : Cond.selects RX4 yX4_isFull yX4_isFull ∈ zAll := zc_30 _ (List.mem_of_getElem? (i := 13) rfl)
theorem zw_764 : Cond.code yX4_isFull cX4_isFull 2 (some .boolean) ∈ zAll := zc_30 _ (List.mem_of_getElem? (i := 14) rfl)
theorem zw_765 : Cond.methodLink RL 145 yX8_restore ∈ zAll := zc_30 _ (List.mem_of_getElem? (i := 15) rfl)
theorem zw_766 : Cond.instanceMethod yX8_restore ∈ zAll := zc_30 _ (List.mem_of_getElem? (i := 16) rfl)
theorem zw_767 : Cond.selects RX8 yX8_restore yX8_restore ∈ zAll := zc_30 _ (List.mem_of_getElem? (i := 17) rfl)
theorem zw_768 : Cond.code yX8_restore cX8_restore 3 (some .int) ∈ zAll := zc_30 _ (List.mem_of_getElem? (i := 18) rfl)
theorem zt_1 : ∀ w ∈ tables_1_1, w ∈ lw_tbl := fun w h => List.mem_append_right _ (show w ∈ tables_1 from List.mem_append_left _ h)
theorem zt_2 : ∀ w ∈ tables_1_2, w ∈ lw_tbl := fun w h => List.mem_append_right _ (show w ∈ tables_1 from List.mem_append_right _ (List.mem_append_left _ h))
theorem zt_3 : ∀ w ∈ tables_1_3, w ∈ lw_tbl := fun w h => List.mem_append_right _ (show w ∈ tables_1 from List.mem_append_right _ (List.mem_append_right _ (List.mem_append_left _ h)))
theorem zt_4 : ∀ w ∈ tables_1_4, w ∈ lw_tbl := fun w h => List.mem_append_right _ (show w ∈ tables_1 from List.mem_append_right _ (List.mem_append_right _ (List.mem_append_right _ (h))))
theorem zs_1 : ∀ q ∈ lw_privs_1, Cond.selects q.1.cls q.1 q.1 ∈ lw_tbl := fun q h => List.mem_append_left _ (List.mem_map.mpr ⟨q, show q ∈ lw_privs from List.mem_append_left _ h, rfl⟩)
theorem zs_2 : ∀ q ∈ lw_privs_2, Cond.selects q.1.cls q.1 q.1 ∈ lw_tbl := fun q h => List.mem_append_left _ (List.mem_map.mpr ⟨q, show q ∈ lw_privs from List.mem_append_right _ (List.mem_append_left _ h), rfl⟩)
theorem zs_3 : ∀ q ∈ lw_privs_3, Cond.selects q.1.cls q.1 q.1 ∈ lw_tbl := fun q h => List.mem_append_left _ (List.mem_map.mpr ⟨q, show q ∈ lw_privs from List.mem_append_right _ (List.mem_append_right _ (List.mem_append_left _ h)), rfl⟩)
theorem zs_4 : ∀ q ∈ lw_privs_4, Cond.selects q.1.cls q.1 q.1 ∈ lw_tbl := fun q h => List.mem_append_left _ (List.mem_map.mpr ⟨q, show q ∈ lw_privs from List.mem_append_right _ (List.mem_append_right _ (List.mem_append_right _ (h))), rfl⟩)
set_option maxRecDepth 20000 in
theorem zm_0 : ∀ w ∈ zA_0, w ∈ lw_tbl := List.forall_mem_cons.mpr ⟨zt_1 _ (List.mem_of_getElem? (i := 14) rfl), List.forall_mem_cons.mpr ⟨zt_1 _ (List.mem_of_getElem? (i := 15) rfl), List.forall_mem_cons.mpr ⟨zt_1 _ (List.mem_of_getElem? (i := 1) rfl), List.forall_mem_cons.mpr ⟨zt_3 _ (List.mem_of_getElem? (i := 33) rfl), List.forall_mem_cons.mpr ⟨zt_3 _ (List.mem_of_getElem? (i := 34) rfl), List.forall_mem_cons.mpr ⟨zt_1 _ (List.mem_of_getElem? (i := 6) rfl), List.forall_mem_cons.mpr ⟨zt_4 _ (List.mem_of_getElem? (i := 153) rfl), List.forall_mem_cons.mpr ⟨zt_1 _ (List.mem_of_getElem? (i := 16) rfl), List.forall_mem_cons.mpr ⟨zt_1 _ (List.mem_of_getElem? (i := 17) rfl), List.forall_mem_cons.mpr ⟨zt_1 _ (List.mem_of_getElem? (i := 18) rfl), List.forall_mem_cons.mpr ⟨zt_1 _ (List.mem_of_getElem? (i := 19) rfl), List.forall_mem_cons.mpr ⟨zt_1 _ (List.mem_of_getElem? (i := 20) rfl), List.forall_mem_cons.mpr ⟨zt_1 _ (List.mem_of_getElem? (i := 21) rfl), List.forall_mem_cons.mpr ⟨zt_1 _ (List.mem_of_getElem? (i := 22) rfl), List.forall_mem_cons.mpr ⟨zt_1 _ (List.mem_of_getElem? (i := 23) rfl), List.forall_mem_cons.mpr ⟨zt_1 _ (List.mem_of_getElem? (i := 2) rfl), List.forall_mem_cons.mpr ⟨zt_1 _ (List.mem_of_getElem? (i := 111) rfl), List.forall_mem_cons.mpr ⟨zt_1 _ (List.mem_of_getElem? (i := 50) rfl), List.forall_mem_cons.mpr ⟨zt_1 _ (List.mem_of_getElem? (i := 51) rfl), List.forall_mem_cons.mpr ⟨zt_1 _ (List.mem_of_getElem? (i := 3) rfl), List.forall_mem_cons.mpr ⟨zt_1 _ (List.mem_of_getElem? (i := 112) rfl), List.forall_mem_cons.mpr ⟨zt_1 _ (List.mem_of_getElem? (i := 113) rfl), List.forall_mem_cons.mpr ⟨zt_1 _ (List.mem_of_getElem? (i := 67) rfl), List.forall_mem_cons.mpr ⟨zt_1 _ (List.mem_of_getElem? (i := 68) rfl), List.forall_mem_cons.mpr ⟨zt_1 _ (List.mem_of_getElem? (i := 4) rfl), fun _ h => absurd h List.not_mem_nil⟩⟩⟩⟩⟩⟩⟩⟩⟩⟩⟩⟩⟩⟩⟩⟩⟩⟩⟩⟩⟩⟩⟩⟩⟩
set_option maxRecDepth 20000 in
theorem zm_1 : ∀ w ∈ zA_1, w ∈ lw_tbl := List.forall_mem_cons.mpr ⟨zt_1 _ (List.mem_of_getElem? (i := 114) rfl), List.forall_mem_cons.mpr ⟨zt_1 _ (List.mem_of_getElem? (i := 78) rfl), List.forall_mem_cons.mpr ⟨zt_1 _ (List.mem_of_getElem? (i := 79) rfl), List.forall_mem_cons.mpr ⟨zt_1 _ (List.mem_of_getElem? (i := 5) rfl), List.forall_mem_cons.mpr ⟨zt_1 _ (List.mem_of_getElem? (i := 115) rfl), List.forall_mem_cons.mpr ⟨zt_1 _ (List.mem_of_getElem? (i := 139) rfl), List.forall_mem_cons.mpr ⟨zt_1 _ (List.mem_of_getElem? (i := 116) rfl), List.forall_mem_cons.mpr ⟨zt_1 _ (List.mem_of_getElem? (i := 117) rfl), List.forall_mem_cons.mpr ⟨zt_1 _ (List.mem_of_getElem? (i := 118) rfl), List.forall_mem_cons.mpr ⟨zt_1 _ (List.mem_of_getElem? (i := 119) rfl), List.forall_mem_cons.mpr ⟨zt_1 _ (List.mem_of_getElem? (i := 25) rfl), List.forall_mem_cons.mpr ⟨zt_1 _ (List.mem_of_getElem? (i := 26) rfl), List.forall_mem_cons.mpr ⟨zt_1 _ (List.mem_of_getElem? (i := 27) rfl), List.forall_mem_cons.mpr ⟨zt_1 _ (List.mem_of_getElem? (i := 29) rfl), List.forall_mem_cons.mpr ⟨zt_1 _ (List.mem_of_getElem? (i := 28) rfl), List.forall_mem_cons.mpr ⟨zt_1 _ (List.mem_of_getElem? (i := 31) rfl), List.forall_mem_cons.mpr ⟨zt_1 _ (List.mem_of_getElem? (i := 33) rfl), List.forall_mem_cons.mpr ⟨zt_1 _ (List.mem_of_getElem? (i := 35) rfl), List.forall_mem_cons.mpr ⟨zt_1 _ (List.mem_of_getElem? (i := 49) rfl), List.forall_mem_cons.mpr ⟨zt_1 _ (List.mem_of_getElem? (i := 37) rfl), List.forall_mem_cons.mpr ⟨zt_1 _ (List.mem_of_getElem? (i := 52) rfl), List.forall_mem_cons.mpr ⟨zt_1 _ (List.mem_of_getElem? (i := 53) rfl), List.forall_mem_cons.mpr ⟨zt_1 _ (List.mem_of_getElem? (i := 54) rfl), List.forall_mem_cons.mpr ⟨zt_1 _ (List.mem_of_getElem? (i := 55) rfl), List.forall_mem_cons.mpr ⟨zt_1 _ (List.mem_of_getElem? (i := 56) rfl), fun _ h => absurd h List.not_mem_nil⟩⟩⟩⟩⟩⟩⟩⟩⟩⟩⟩⟩⟩⟩⟩⟩⟩⟩⟩⟩⟩⟩⟩⟩⟩
set_option maxRecDepth 20000 in
theorem zm_2 : ∀ w ∈ zA_2, w ∈ lw_tbl := List.forall_mem_cons.mpr ⟨zt_1 _ (List.mem_of_getElem? (i := 59) rfl), List.forall_mem_cons.mpr ⟨zt_1 _ (List.mem_of_getElem? (i := 66) rfl), List.forall_mem_cons.mpr ⟨zt_1 _ (List.mem_of_getElem? (i := 60) rfl), List.forall_mem_cons.mpr ⟨zt_1 _ (List.mem_of_getElem? (i := 70) rfl), List.forall_mem_cons.mpr ⟨zt_1 _ (List.mem_of_getElem? (i := 71) rfl), List.forall_mem_cons.mpr ⟨zt_1 _ (List.mem_of_getElem? (i := 72) rfl), List.forall_mem_cons.mpr ⟨zt_1 _ (List.mem_of_getElem? (i := 77) rfl), List.forall_mem_cons.mpr ⟨zt_1 _ (List.mem_of_getElem? (i := 73) rfl), List.forall_mem_cons.mpr ⟨zt_1 _ (List.mem_of_getElem? (i := 81) rfl), List.forall_mem_cons.mpr ⟨zt_1 _ (List.mem_of_getElem? (i := 82) rfl), List.forall_mem_cons.mpr ⟨zt_1 _ (List.mem_of_getElem? (i := 83) rfl), List.forall_mem_cons.mpr ⟨zt_1 _ (List.mem_of_getElem? (i := 85) rfl), List.forall_mem_cons.mpr ⟨zt_1 _ (List.mem_of_getElem? (i := 86) rfl), List.forall_mem_cons.mpr ⟨zt_1 _ (List.mem_of_getElem? (i := 84) rfl), List.forall_mem_cons.mpr ⟨zt_1 _ (List.mem_of_getElem? (i := 87) rfl), List.forall_mem_cons.mpr ⟨zt_1 _ (List.mem_of_getElem? (i := 89) rfl), List.forall_mem_cons.mpr ⟨zt_1 _ (List.mem_of_getElem? (i := 90) rfl), List.forall_mem_cons.mpr ⟨zt_1 _ (List.mem_of_getElem? (i := 91) rfl), List.forall_mem_cons.mpr ⟨zt_1 _ (List.mem_of_getElem? (i := 92) rfl), List.forall_mem_cons.mpr ⟨zt_1 _ (List.mem_of_getElem? (i := 93) rfl), List.forall_mem_cons.mpr ⟨zt_3 _ (List.mem_of_getElem? (i := 35) rfl), List.forall_mem_cons.mpr ⟨zt_3 _ (List.mem_of_getElem? (i := 36) rfl), List.forall_mem_cons.mpr ⟨zt_3 _ (List.mem_of_getElem? (i := 37) rfl), List.forall_mem_cons.mpr ⟨zt_3 _ (List.mem_of_getElem? (i := 38) rfl), List.forall_mem_cons.mpr ⟨zt_3 _ (List.mem_of_getElem? (i := 44) rfl), fun _ h => absurd h List.not_mem_nil⟩⟩⟩⟩⟩⟩⟩⟩⟩⟩⟩⟩⟩⟩⟩⟩⟩⟩⟩⟩⟩⟩⟩⟩⟩
set_option maxRecDepth 20000 in
theorem zm_3 : ∀ w ∈ zA_3, w ∈ lw_tbl := List.forall_mem_cons.mpr ⟨zt_3 _ (List.mem_of_getElem? (i := 45) rfl), List.forall_mem_cons.mpr ⟨zt_3 _ (List.mem_of_getElem? (i := 47) rfl), List.forall_mem_cons.mpr ⟨zt_3 _ (List.mem_of_getElem? (i := 48) rfl), List.forall_mem_cons.mpr ⟨zt_3 _ (List.mem_of_getElem? (i := 49) rfl), List.forall_mem_cons.mpr ⟨zt_3 _ (List.mem_of_getElem? (i := 53) rfl), List.forall_mem_cons.mpr ⟨zt_3 _ (List.mem_of_getElem? (i := 54) rfl), List.forall_mem_cons.mpr ⟨zt_3 _ (List.mem_of_getElem? (i := 55) rfl), List.forall_mem_cons.mpr ⟨zt_3 _ (List.mem_of_getElem? (i := 56) rfl), List.forall_mem_cons.mpr ⟨zt_3 _ (List.mem_of_getElem? (i := 57) rfl), List.forall_mem_cons.mpr ⟨zt_3 _ (List.mem_of_getElem? (i := 58) rfl), List.forall_mem_cons.mpr ⟨zt_3 _ (List.mem_of_getElem? (i := 59) rfl), List.forall_mem_cons.mpr ⟨zt_3 _ (List.mem_of_getElem? (i := 60) rfl), List.forall_mem_cons.mpr ⟨zt_3 _ (List.mem_of_getElem? (i := 61) rfl), List.forall_mem_cons.mpr ⟨zt_3 _ (List.mem_of_getElem? (i := 43) rfl), List.forall_mem_cons.mpr ⟨zt_3 _ (List.mem_of_getElem? (i := 39) rfl), List.forall_mem_cons.mpr ⟨zt_3 _ (List.mem_of_getElem? (i := 41) rfl), List.forall_mem_cons.mpr ⟨zs_2 _ (List.mem_of_getElem? (i := 3) rfl), List.forall_mem_cons.mpr ⟨zt_3 _ (List.mem_of_getElem? (i := 42) rfl), List.forall_mem_cons.mpr ⟨zt_1 _ (List.mem_of_getElem? (i := 140) rfl), List.forall_mem_cons.mpr ⟨zt_1 _ (List.mem_of_getElem? (i := 141) rfl), List.forall_mem_cons.mpr ⟨zt_1 _ (List.mem_of_getElem? (i := 142) rfl), List.forall_mem_cons.mpr ⟨zt_1 _ (List.mem_of_getElem? (i := 143) rfl), List.forall_mem_cons.mpr ⟨zt_1 _ (List.mem_of_getElem? (i := 144) rfl), List.forall_mem_cons.mpr ⟨zt_1 _ (List.mem_of_getElem? (i := 146) rfl), List.forall_mem_cons.mpr ⟨zs_1 _ (List.mem_of_getElem? (i := 0) rfl), fun _ h => absurd h List.not_mem_nil⟩⟩⟩⟩⟩⟩⟩⟩⟩⟩⟩⟩⟩⟩⟩⟩⟩⟩⟩⟩⟩⟩⟩⟩⟩
set_option maxRecDepth 20000 in
theorem zm_4 : ∀ w ∈ zA_4, w ∈ lw_tbl := List.forall_mem_cons.mpr ⟨zt_1 _ (List.mem_of_getElem? (i := 147) rfl), List.forall_mem_cons.mpr ⟨zt_1 _ (List.mem_of_getElem? (i := 148) rfl), List.forall_mem_cons.mpr ⟨zt_1 _ (List.mem_of_getElem? (i := 149) rfl), List.forall_mem_cons.mpr ⟨zt_1 _ (List.mem_of_getElem? (i := 150) rfl), List.forall_mem_cons.mpr ⟨zt_1 _ (List.mem_of_getElem? (i := 151) rfl), List.forall_mem_cons.mpr ⟨zt_1 _ (List.mem_of_getElem? (i := 152) rfl), List.forall_mem_cons.mpr ⟨zt_1 _ (List.mem_of_getElem? (i := 153) rfl), List.forall_mem_cons.mpr ⟨zt_1 _ (List.mem_of_getElem? (i := 154) rfl), List.forall_mem_cons.mpr ⟨zt_1 _ (List.mem_of_getElem? (i := 155) rfl), List.forall_mem_cons.mpr ⟨zt_1 _ (List.mem_of_getElem? (i := 156) rfl), List.forall_mem_cons.mpr ⟨zt_1 _ (List.mem_of_getElem? (i := 157) rfl), List.forall_mem_cons.mpr ⟨zt_1 _ (List.mem_of_getElem? (i := 158) rfl), List.forall_mem_cons.mpr ⟨zt_1 _ (List.mem_of_getElem? (i := 159) rfl), List.forall_mem_cons.mpr ⟨zt_1 _ (List.mem_of_getElem? (i := 160) rfl), List.forall_mem_cons.mpr ⟨zt_1 _ (List.mem_of_getElem? (i := 161) rfl), List.forall_mem_cons.mpr ⟨zt_1 _ (List.mem_of_getElem? (i := 162) rfl), List.forall_mem_cons.mpr ⟨zt_1 _ (List.mem_of_getElem? (i := 163) rfl), List.forall_mem_cons.mpr ⟨zt_3 _ (List.mem_of_getElem? (i := 101) rfl), List.forall_mem_cons.mpr ⟨zt_3 _ (List.mem_of_getElem? (i := 102) rfl), List.forall_mem_cons.mpr ⟨zt_3 _ (List.mem_of_getElem? (i := 103) rfl), List.forall_mem_cons.mpr ⟨zt_3 _ (List.mem_of_getElem? (i := 104) rfl), List.forall_mem_cons.mpr ⟨zt_3 _ (List.mem_of_getElem? (i := 105) rfl), List.forall_mem_cons.mpr ⟨zt_3 _ (List.mem_of_getElem? (i := 106) rfl), List.forall_mem_cons.mpr ⟨zt_3 _ (List.mem_of_getElem? (i := 107) rfl), List.forall_mem_cons.mpr ⟨zt_3 _ (List.mem_of_getElem? (i := 108) rfl), fun _ h => absurd h List.not_mem_nil⟩⟩⟩⟩⟩⟩⟩⟩⟩⟩⟩⟩⟩⟩⟩⟩⟩⟩⟩⟩⟩⟩⟩⟩⟩
set_option maxRecDepth 20000 in
theorem zm_5 : ∀ w ∈ zA_5, w ∈ lw_tbl := List.forall_mem_cons.mpr ⟨zt_3 _ (List.mem_of_getElem? (i := 110) rfl), List.forall_mem_cons.mpr ⟨zs_2 _ (List.mem_of_getElem? (i := 4) rfl), List.forall_mem_cons.mpr ⟨zt_3 _ (List.mem_of_getElem? (i := 111) rfl), List.forall_mem_cons.mpr ⟨zt_3 _ (List.mem_of_getElem? (i := 46) rfl), List.forall_mem_cons.mpr ⟨zt_1 _ (List.mem_of_getElem? (i := 164) rfl), List.forall_mem_cons.mpr ⟨zt_1 _ (List.mem_of_getElem? (i := 165) rfl), List.forall_mem_cons.mpr ⟨zt_1 _ (List.mem_of_getElem? (i := 166) rfl), List.forall_mem_cons.mpr ⟨zt_1 _ (List.mem_of_getElem? (i := 167) rfl), List.forall_mem_cons.mpr ⟨zt_1 _ (List.mem_of_getElem? (i := 168) rfl), List.forall_mem_cons.mpr ⟨zt_1 _ (List.mem_of_getElem? (i := 170) rfl), List.forall_mem_cons.mpr ⟨zs_1 _ (List.mem_of_getElem? (i := 1) rfl), List.forall_mem_cons.mpr ⟨zt_1 _ (List.mem_of_getElem? (i := 171) rfl), List.forall_mem_cons.mpr ⟨zt_1 _ (List.mem_of_getElem? (i := 172) rfl), List.forall_mem_cons.mpr ⟨zt_1 _ (List.mem_of_getElem? (i := 173) rfl), List.forall_mem_cons.mpr ⟨zt_1 _ (List.mem_of_getElem? (i := 174) rfl), List.forall_mem_cons.mpr ⟨zt_1 _ (List.mem_of_getElem? (i := 175) rfl), List.forall_mem_cons.mpr ⟨zt_1 _ (List.mem_of_getElem? (i := 176) rfl), List.forall_mem_cons.mpr ⟨zt_1 _ (List.mem_of_getElem? (i := 177) rfl), List.forall_mem_cons.mpr ⟨zt_1 _ (List.mem_of_getElem? (i := 178) rfl), List.forall_mem_cons.mpr ⟨zt_1 _ (List.mem_of_getElem? (i := 179) rfl), List.forall_mem_cons.mpr ⟨zt_1 _ (List.mem_of_getElem? (i := 180) rfl), List.forall_mem_cons.mpr ⟨zt_1 _ (List.mem_of_getElem? (i := 182) rfl), List.forall_mem_cons.mpr ⟨zs_1 _ (List.mem_of_getElem? (i := 2) rfl), List.forall_mem_cons.mpr ⟨zt_1 _ (List.mem_of_getElem? (i := 183) rfl), List.forall_mem_cons.mpr ⟨zt_1 _ (List.mem_of_getElem? (i := 184) rfl), fun _ h => absurd h List.not_mem_nil⟩⟩⟩⟩⟩⟩⟩⟩⟩⟩⟩⟩⟩⟩⟩⟩⟩⟩⟩⟩⟩⟩⟩⟩⟩
set_option maxRecDepth 20000 in
theorem zm_6 : ∀ w ∈ zA_6, w ∈ lw_tbl := List.forall_mem_cons.mpr ⟨zt_1 _ (List.mem_of_getElem? (i := 186) rfl), List.forall_mem_cons.mpr ⟨zs_1 _ (List.mem_of_getElem? (i := 3) rfl), List.forall_mem_cons.mpr ⟨zt_1 _ (List.mem_of_getElem? (i := 187) rfl), List.forall_mem_cons.mpr ⟨zt_1 _ (List.mem_of_getElem? (i := 188) rfl), List.forall_mem_cons.mpr ⟨zt_1 _ (List.mem_of_getElem? (i := 190) rfl), List.forall_mem_cons.mpr ⟨zs_1 _ (List.mem_of_getElem? (i := 4) rfl), List.forall_mem_cons.mpr ⟨zt_1 _ (List.mem_of_getElem? (i := 191) rfl), List.forall_mem_cons.mpr ⟨zt_1 _ (List.mem_of_getElem? (i := 192) rfl), List.forall_mem_cons.mpr ⟨zt_1 _ (List.mem_of_getElem? (i := 194) rfl), List.forall_mem_cons.mpr ⟨zs_1 _ (List.mem_of_getElem? (i := 5) rfl), List.forall_mem_cons.mpr ⟨zt_1 _ (List.mem_of_getElem? (i := 195) rfl), List.forall_mem_cons.mpr ⟨zt_1 _ (List.mem_of_getElem? (i := 196) rfl), List.forall_mem_cons.mpr ⟨zt_1 _ (List.mem_of_getElem? (i := 198) rfl), List.forall_mem_cons.mpr ⟨zs_1 _ (List.mem_of_getElem? (i := 6) rfl), List.forall_mem_cons.mpr ⟨zt_1 _ (List.mem_of_getElem? (i := 199) rfl), List.forall_mem_cons.mpr ⟨zt_1 _ (List.mem_of_getElem? (i := 200) rfl), List.forall_mem_cons.mpr ⟨zt_1 _ (List.mem_of_getElem? (i := 202) rfl), List.forall_mem_cons.mpr ⟨zs_1 _ (List.mem_of_getElem? (i := 7) rfl), List.forall_mem_cons.mpr ⟨zt_1 _ (List.mem_of_getElem? (i := 203) rfl), List.forall_mem_cons.mpr ⟨zt_1 _ (List.mem_of_getElem? (i := 204) rfl), List.forall_mem_cons.mpr ⟨zt_1 _ (List.mem_of_getElem? (i := 205) rfl), List.forall_mem_cons.mpr ⟨zt_1 _ (List.mem_of_getElem? (i := 7) rfl), List.forall_mem_cons.mpr ⟨zt_1 _ (List.mem_of_getElem? (i := 206) rfl), List.forall_mem_cons.mpr ⟨zt_1 _ (List.mem_of_getElem? (i := 207) rfl), List.forall_mem_cons.mpr ⟨zt_1 _ (List.mem_of_getElem? (i := 208) rfl), fun _ h => absurd h List.not_mem_nil⟩⟩⟩⟩⟩⟩⟩⟩⟩⟩⟩⟩⟩⟩⟩⟩⟩⟩⟩⟩⟩⟩⟩⟩⟩
set_option maxRecDepth 20000 in
theorem zm_7 : ∀ w ∈ zA_7, w ∈ lw_tbl := List.forall_mem_cons.mpr ⟨zt_1 _ (List.mem_of_getElem? (i := 209) rfl), List.forall_mem_cons.mpr ⟨zt_1 _ (List.mem_of_getElem? (i := 211) rfl), List.forall_mem_cons.mpr ⟨zs_1 _ (List.mem_of_getElem? (i := 8) rfl), List.forall_mem_cons.mpr ⟨zt_1 _ (List.mem_of_getElem? (i := 212) rfl), List.forall_mem_cons.mpr ⟨zt_1 _ (List.mem_of_getElem? (i := 213) rfl), List.forall_mem_cons.mpr ⟨zt_1 _ (List.mem_of_getElem? (i := 214) rfl), List.forall_mem_cons.mpr ⟨zt_1 _ (List.mem_of_getElem? (i := 215) rfl), List.forall_mem_cons.mpr ⟨zt_1 _ (List.mem_of_getElem? (i := 216) rfl), List.forall_mem_cons.mpr ⟨zt_1 _ (List.mem_of_getElem? (i := 217) rfl), List.forall_mem_cons.mpr ⟨zt_1 _ (List.mem_of_getElem? (i := 219) rfl), List.forall_mem_cons.mpr ⟨zs_1 _ (List.mem_of_getElem? (i := 9) rfl), List.forall_mem_cons.mpr ⟨zt_1 _ (List.mem_of_getElem? (i := 220) rfl), List.forall_mem_cons.mpr ⟨zt_1 _ (List.mem_of_getElem? (i := 221) rfl), List.forall_mem_cons.mpr ⟨zt_1 _ (List.mem_of_getElem? (i := 222) rfl), List.forall_mem_cons.mpr ⟨zt_1 _ (List.mem_of_getElem? (i := 223) rfl), List.forall_mem_cons.mpr ⟨zt_1 _ (List.mem_of_getElem? (i := 224) rfl), List.forall_mem_cons.mpr ⟨zt_3 _ (List.mem_of_getElem? (i := 112) rfl), List.forall_mem_cons.mpr ⟨zt_3 _ (List.mem_of_getElem? (i := 113) rfl), List.forall_mem_cons.mpr ⟨zt_3 _ (List.mem_of_getElem? (i := 114) rfl), List.forall_mem_cons.mpr ⟨zt_3 _ (List.mem_of_getElem? (i := 115) rfl), List.forall_mem_cons.mpr ⟨zt_3 _ (List.mem_of_getElem? (i := 50) rfl), List.forall_mem_cons.mpr ⟨zt_3 _ (List.mem_of_getElem? (i := 116) rfl), List.forall_mem_cons.mpr ⟨zt_3 _ (List.mem_of_getElem? (i := 118) rfl), List.forall_mem_cons.mpr ⟨zs_2 _ (List.mem_of_getElem? (i := 5) rfl), List.forall_mem_cons.mpr ⟨zt_3 _ (List.mem_of_getElem? (i := 119) rfl), fun _ h => absurd h List.not_mem_nil⟩⟩⟩⟩⟩⟩⟩⟩⟩⟩⟩⟩⟩⟩⟩⟩⟩⟩⟩⟩⟩⟩⟩⟩⟩
set_option maxRecDepth 20000 in
theorem zm_8 : ∀ w ∈ zA_8, w ∈ lw_tbl := List.forall_mem_cons.mpr ⟨zt_3 _ (List.mem_of_getElem? (i := 51) rfl), List.forall_mem_cons.mpr ⟨zt_3 _ (List.mem_of_getElem? (i := 52) rfl), List.forall_mem_cons.mpr ⟨zt_3 _ (List.mem_of_getElem? (i := 120) rfl), List.forall_mem_cons.mpr ⟨zt_3 _ (List.mem_of_getElem? (i := 122) rfl), List.forall_mem_cons.mpr ⟨zs_2 _ (List.mem_of_getElem? (i := 6) rfl), List.forall_mem_cons.mpr ⟨zt_3 _ (List.mem_of_getElem? (i := 123) rfl), List.forall_mem_cons.mpr ⟨zt_3 _ (List.mem_of_getElem? (i := 124) rfl), List.forall_mem_cons.mpr ⟨zt_3 _ (List.mem_of_getElem? (i := 126) rfl), List.forall_mem_cons.mpr ⟨zs_2 _ (List.mem_of_getElem? (i := 7) rfl), List.forall_mem_cons.mpr ⟨zt_3 _ (List.mem_of_getElem? (i := 127) rfl), List.forall_mem_cons.mpr ⟨zt_3 _ (List.mem_of_getElem? (i := 128) rfl), List.forall_mem_cons.mpr ⟨zt_3 _ (List.mem_of_getElem? (i := 130) rfl), List.forall_mem_cons.mpr ⟨zs_2 _ (List.mem_of_getElem? (i := 8) rfl), List.forall_mem_cons.mpr ⟨zt_3 _ (List.mem_of_getElem? (i := 131) rfl), List.forall_mem_cons.mpr ⟨zt_3 _ (List.mem_of_getElem? (i := 132) rfl), List.forall_mem_cons.mpr ⟨zt_3 _ (List.mem_of_getElem? (i := 134) rfl), List.forall_mem_cons.mpr ⟨zs_2 _ (List.mem_of_getElem? (i := 9) rfl), List.forall_mem_cons.mpr ⟨zt_3 _ (List.mem_of_getElem? (i := 135) rfl), List.forall_mem_cons.mpr ⟨zt_3 _ (List.mem_of_getElem? (i := 136) rfl), List.forall_mem_cons.mpr ⟨zt_3 _ (List.mem_of_getElem? (i := 138) rfl), List.forall_mem_cons.mpr ⟨zs_2 _ (List.mem_of_getElem? (i := 10) rfl), List.forall_mem_cons.mpr ⟨zt_3 _ (List.mem_of_getElem? (i := 139) rfl), List.forall_mem_cons.mpr ⟨zt_3 _ (List.mem_of_getElem? (i := 140) rfl), List.forall_mem_cons.mpr ⟨zt_3 _ (List.mem_of_getElem? (i := 142) rfl), List.forall_mem_cons.mpr ⟨zs_2 _ (List.mem_of_getElem? (i := 11) rfl), fun _ h => absurd h List.not_mem_nil⟩⟩⟩⟩⟩⟩⟩⟩⟩⟩⟩⟩⟩⟩⟩⟩⟩⟩⟩⟩⟩⟩⟩⟩⟩
set_option maxRecDepth 20000 in
theorem zm_9 : ∀ w ∈ zA_9, w ∈ lw_tbl := List.forall_mem_cons.mpr ⟨zt_3 _ (List.mem_of_getElem? (i := 143) rfl), List.forall_mem_cons.mpr ⟨zt_3 _ (List.mem_of_getElem? (i := 144) rfl), List.forall_mem_cons.mpr ⟨zt_3 _ (List.mem_of_getElem? (i := 146) rfl), List.forall_mem_cons.mpr ⟨zs_2 _ (List.mem_of_getElem? (i := 12) rfl), List.forall_mem_cons.mpr ⟨zt_3 _ (List.mem_of_getElem? (i := 147) rfl), List.forall_mem_cons.mpr ⟨zt_1 _ (List.mem_of_getElem? (i := 225) rfl), List.forall_mem_cons.mpr ⟨zt_1 _ (List.mem_of_getElem? (i := 226) rfl), List.forall_mem_cons.mpr ⟨zt_1 _ (List.mem_of_getElem? (i := 227) rfl), List.forall_mem_cons.mpr ⟨zt_1 _ (List.mem_of_getElem? (i := 228) rfl), List.forall_mem_cons.mpr ⟨zt_1 _ (List.mem_of_getElem? (i := 229) rfl), List.forall_mem_cons.mpr ⟨zt_1 _ (List.mem_of_getElem? (i := 230) rfl), List.forall_mem_cons.mpr ⟨zt_1 _ (List.mem_of_getElem? (i := 231) rfl), List.forall_mem_cons.mpr ⟨zt_1 _ (List.mem_of_getElem? (i := 232) rfl), List.forall_mem_cons.mpr ⟨zt_1 _ (List.mem_of_getElem? (i := 233) rfl), List.forall_mem_cons.mpr ⟨zt_1 _ (List.mem_of_getElem? (i := 234) rfl), List.forall_mem_cons.mpr ⟨zt_1 _ (List.mem_of_getElem? (i := 235) rfl), List.forall_mem_cons.mpr ⟨zt_1 _ (List.mem_of_getElem? (i := 236) rfl), List.forall_mem_cons.mpr ⟨zt_1 _ (List.mem_of_getElem? (i := 237) rfl), List.forall_mem_cons.mpr ⟨zt_1 _ (List.mem_of_getElem? (i := 238) rfl), List.forall_mem_cons.mpr ⟨zt_1 _ (List.mem_of_getElem? (i := 239) rfl), List.forall_mem_cons.mpr ⟨zt_2 _ (List.mem_of_getElem? (i := 0) rfl), List.forall_mem_cons.mpr ⟨zt_2 _ (List.mem_of_getElem? (i := 1) rfl), List.forall_mem_cons.mpr ⟨zt_2 _ (List.mem_of_getElem? (i := 2) rfl), List.forall_mem_cons.mpr ⟨zt_2 _ (List.mem_of_getElem? (i := 3) rfl), List.forall_mem_cons.mpr ⟨zt_3 _ (List.mem_of_getElem? (i := 148) rfl), fun _ h => absurd h List.not_mem_nil⟩⟩⟩⟩⟩⟩⟩⟩⟩⟩⟩⟩⟩⟩⟩⟩⟩⟩⟩⟩⟩⟩⟩⟩⟩
set_option maxRecDepth 20000 in
theorem zm_10 : ∀ w ∈ zA_10, w ∈ lw_tbl := List.forall_mem_cons.mpr ⟨zt_3 _ (List.mem_of_getElem? (i := 149) rfl), List.forall_mem_cons.mpr ⟨zt_3 _ (List.mem_of_getElem? (i := 150) rfl), List.forall_mem_cons.mpr ⟨zt_3 _ (List.mem_of_getElem? (i := 151) rfl), List.forall_mem_cons.mpr ⟨zt_3 _ (List.mem_of_getElem? (i := 152) rfl), List.forall_mem_cons.mpr ⟨zt_3 _ (List.mem_of_getElem? (i := 154) rfl), List.forall_mem_cons.mpr ⟨zs_2 _ (List.mem_of_getElem? (i := 13) rfl), List.forall_mem_cons.mpr ⟨zt_3 _ (List.mem_of_getElem? (i := 155) rfl), List.forall_mem_cons.mpr ⟨zt_3 _ (List.mem_of_getElem? (i := 156) rfl), List.forall_mem_cons.mpr ⟨zt_3 _ (List.mem_of_getElem? (i := 158) rfl), List.forall_mem_cons.mpr ⟨zs_2 _ (List.mem_of_getElem? (i := 14) rfl), List.forall_mem_cons.mpr ⟨zt_3 _ (List.mem_of_getElem? (i := 159) rfl), List.forall_mem_cons.mpr ⟨zt_3 _ (List.mem_of_getElem? (i := 160) rfl), List.forall_mem_cons.mpr ⟨zt_3 _ (List.mem_of_getElem? (i := 162) rfl), List.forall_mem_cons.mpr ⟨zs_2 _ (List.mem_of_getElem? (i := 15) rfl), List.forall_mem_cons.mpr ⟨zt_3 _ (List.mem_of_getElem? (i := 163) rfl), List.forall_mem_cons.mpr ⟨zt_3 _ (List.mem_of_getElem? (i := 164) rfl), List.forall_mem_cons.mpr ⟨zt_3 _ (List.mem_of_getElem? (i := 166) rfl), List.forall_mem_cons.mpr ⟨zs_3 _ (List.mem_of_getElem? (i := 0) rfl), List.forall_mem_cons.mpr ⟨zt_3 _ (List.mem_of_getElem? (i := 167) rfl), List.forall_mem_cons.mpr ⟨zt_2 _ (List.mem_of_getElem? (i := 4) rfl), List.forall_mem_cons.mpr ⟨zt_2 _ (List.mem_of_getElem? (i := 5) rfl), List.forall_mem_cons.mpr ⟨zt_2 _ (List.mem_of_getElem? (i := 6) rfl), List.forall_mem_cons.mpr ⟨zt_2 _ (List.mem_of_getElem? (i := 7) rfl), List.forall_mem_cons.mpr ⟨zt_2 _ (List.mem_of_getElem? (i := 8) rfl), List.forall_mem_cons.mpr ⟨zt_2 _ (List.mem_of_getElem? (i := 9) rfl), fun _ h => absurd h List.not_mem_nil⟩⟩⟩⟩⟩⟩⟩⟩⟩⟩⟩⟩⟩⟩⟩⟩⟩⟩⟩⟩⟩⟩⟩⟩⟩
set_option maxRecDepth 20000 in
theorem zm_11 : ∀ w ∈ zA_11, w ∈ lw_tbl := List.forall_mem_cons.mpr ⟨zt_2 _ (List.mem_of_getElem? (i := 10) rfl), List.forall_mem_cons.mpr ⟨zt_2 _ (List.mem_of_getElem? (i := 11) rfl), List.forall_mem_cons.mpr ⟨zt_2 _ (List.mem_of_getElem? (i := 12) rfl), List.forall_mem_cons.mpr ⟨zt_2 _ (List.mem_of_getElem? (i := 13) rfl), List.forall_mem_cons.mpr ⟨zt_2 _ (List.mem_of_getElem? (i := 14) rfl), List.forall_mem_cons.mpr ⟨zt_2 _ (List.mem_of_getElem? (i := 15) rfl), List.forall_mem_cons.mpr ⟨zt_2 _ (List.mem_of_getElem? (i := 16) rfl), List.forall_mem_cons.mpr ⟨zt_2 _ (List.mem_of_getElem? (i := 17) rfl), List.forall_mem_cons.mpr ⟨zt_2 _ (List.mem_of_getElem? (i := 18) rfl), List.forall_mem_cons.mpr ⟨zt_2 _ (List.mem_of_getElem? (i := 19) rfl), List.forall_mem_cons.mpr ⟨zt_2 _ (List.mem_of_getElem? (i := 20) rfl), List.forall_mem_cons.mpr ⟨zt_2 _ (List.mem_of_getElem? (i := 21) rfl), List.forall_mem_cons.mpr ⟨zt_1 _ (List.mem_of_getElem? (i := 8) rfl), List.forall_mem_cons.mpr ⟨zt_2 _ (List.mem_of_getElem? (i := 22) rfl), List.forall_mem_cons.mpr ⟨zt_3 _ (List.mem_of_getElem? (i := 168) rfl), List.forall_mem_cons.mpr ⟨zt_3 _ (List.mem_of_getElem? (i := 169) rfl), List.forall_mem_cons.mpr ⟨zt_3 _ (List.mem_of_getElem? (i := 170) rfl), List.forall_mem_cons.mpr ⟨zt_3 _ (List.mem_of_getElem? (i := 171) rfl), List.forall_mem_cons.mpr ⟨zt_3 _ (List.mem_of_getElem? (i := 172) rfl), List.forall_mem_cons.mpr ⟨zt_3 _ (List.mem_of_getElem? (i := 174) rfl), List.forall_mem_cons.mpr ⟨zs_3 _ (List.mem_of_getElem? (i := 1) rfl), List.forall_mem_cons.mpr ⟨zt_3 _ (List.mem_of_getElem? (i := 175) rfl), List.forall_mem_cons.mpr ⟨zt_2 _ (List.mem_of_getElem? (i := 23) rfl), List.forall_mem_cons.mpr ⟨zt_2 _ (List.mem_of_getElem? (i := 24) rfl), List.forall_mem_cons.mpr ⟨zt_2 _ (List.mem_of_getElem? (i := 25) rfl), fun _ h => absurd h List.not_mem_nil⟩⟩⟩⟩⟩⟩⟩⟩⟩⟩⟩⟩⟩⟩⟩⟩⟩⟩⟩⟩⟩⟩⟩⟩⟩
set_option maxRecDepth 20000 in
theorem zm_12 : ∀ w ∈ zA_12, w ∈ lw_tbl := List.forall_mem_cons.mpr ⟨zt_2 _ (List.mem_of_getElem? (i := 26) rfl), List.forall_mem_cons.mpr ⟨zt_3 _ (List.mem_of_getElem? (i := 176) rfl), List.forall_mem_cons.mpr ⟨zt_3 _ (List.mem_of_getElem? (i := 177) rfl), List.forall_mem_cons.mpr ⟨zt_3 _ (List.mem_of_getElem? (i := 178) rfl), List.forall_mem_cons.mpr ⟨zt_3 _ (List.mem_of_getElem? (i := 179) rfl), List.forall_mem_cons.mpr ⟨zt_2 _ (List.mem_of_getElem? (i := 27) rfl), List.forall_mem_cons.mpr ⟨zt_2 _ (List.mem_of_getElem? (i := 28) rfl), List.forall_mem_cons.mpr ⟨zt_2 _ (List.mem_of_getElem? (i := 29) rfl), List.forall_mem_cons.mpr ⟨zt_2 _ (List.mem_of_getElem? (i := 30) rfl), List.forall_mem_cons.mpr ⟨zt_2 _ (List.mem_of_getElem? (i := 31) rfl), List.forall_mem_cons.mpr ⟨zt_2 _ (List.mem_of_getElem? (i := 32) rfl), List.forall_mem_cons.mpr ⟨zt_2 _ (List.mem_of_getElem? (i := 33) rfl), List.forall_mem_cons.mpr ⟨zt_2 _ (List.mem_of_getElem? (i := 34) rfl), List.forall_mem_cons.mpr ⟨zt_3 _ (List.mem_of_getElem? (i := 180) rfl), List.forall_mem_cons.mpr ⟨zt_3 _ (List.mem_of_getElem? (i := 181) rfl), List.forall_mem_cons.mpr ⟨zt_3 _ (List.mem_of_getElem? (i := 182) rfl), List.forall_mem_cons.mpr ⟨zt_3 _ (List.mem_of_getElem? (i := 183) rfl), List.forall_mem_cons.mpr ⟨zt_2 _ (List.mem_of_getElem? (i := 35) rfl), List.forall_mem_cons.mpr ⟨zt_2 _ (List.mem_of_getElem? (i := 36) rfl), List.forall_mem_cons.mpr ⟨zt_2 _ (List.mem_of_getElem? (i := 37) rfl), List.forall_mem_cons.mpr ⟨zt_2 _ (List.mem_of_getElem? (i := 38) rfl), List.forall_mem_cons.mpr ⟨zt_2 _ (List.mem_of_getElem? (i := 39) rfl), List.forall_mem_cons.mpr ⟨zt_2 _ (List.mem_of_getElem? (i := 41) rfl), List.forall_mem_cons.mpr ⟨zs_1 _ (List.mem_of_getElem? (i := 10) rfl), List.forall_mem_cons.mpr ⟨zt_2 _ (List.mem_of_getElem? (i := 42) rfl), fun _ h => absurd h List.not_mem_nil⟩⟩⟩⟩⟩⟩⟩⟩⟩⟩⟩⟩⟩⟩⟩⟩⟩⟩⟩⟩⟩⟩⟩⟩⟩
set_option maxRecDepth 20000 in
theorem zm_13 : ∀ w ∈ zA_13, w ∈ lw_tbl := List.forall_mem_cons.mpr ⟨zt_2 _ (List.mem_of_getElem? (i := 43) rfl), List.forall_mem_cons.mpr ⟨zt_2 _ (List.mem_of_getElem? (i := 44) rfl), List.forall_mem_cons.mpr ⟨zt_2 _ (List.mem_of_getElem? (i := 45) rfl), List.forall_mem_cons.mpr ⟨zt_3 _ (List.mem_of_getElem? (i := 184) rfl), List.forall_mem_cons.mpr ⟨zt_3 _ (List.mem_of_getElem? (i := 185) rfl), List.forall_mem_cons.mpr ⟨zt_3 _ (List.mem_of_getElem? (i := 186) rfl), List.forall_mem_cons.mpr ⟨zt_3 _ (List.mem_of_getElem? (i := 187) rfl), List.forall_mem_cons.mpr ⟨zt_3 _ (List.mem_of_getElem? (i := 188) rfl), List.forall_mem_cons.mpr ⟨zt_3 _ (List.mem_of_getElem? (i := 190) rfl), List.forall_mem_cons.mpr ⟨zs_3 _ (List.mem_of_getElem? (i := 2) rfl), List.forall_mem_cons.mpr ⟨zt_3 _ (List.mem_of_getElem? (i := 191) rfl), List.forall_mem_cons.mpr ⟨zt_2 _ (List.mem_of_getElem? (i := 46) rfl), List.forall_mem_cons.mpr ⟨zt_2 _ (List.mem_of_getElem? (i := 47) rfl), List.forall_mem_cons.mpr ⟨zt_2 _ (List.mem_of_getElem? (i := 48) rfl), List.forall_mem_cons.mpr ⟨zt_2 _ (List.mem_of_getElem? (i := 49) rfl), List.forall_mem_cons.mpr ⟨zt_2 _ (List.mem_of_getElem? (i := 50) rfl), List.forall_mem_cons.mpr ⟨zt_2 _ (List.mem_of_getElem? (i := 51) rfl), List.forall_mem_cons.mpr ⟨zt_2 _ (List.mem_of_getElem? (i := 52) rfl), List.forall_mem_cons.mpr ⟨zt_2 _ (List.mem_of_getElem? (i := 53) rfl), List.forall_mem_cons.mpr ⟨zt_2 _ (List.mem_of_getElem? (i := 54) rfl), List.forall_mem_cons.mpr ⟨zt_2 _ (List.mem_of_getElem? (i := 55) rfl), List.forall_mem_cons.mpr ⟨zt_1 _ (List.mem_of_getElem? (i := 9) rfl), List.forall_mem_cons.mpr ⟨zt_2 _ (List.mem_of_getElem? (i := 56) rfl), List.forall_mem_cons.mpr ⟨zt_2 _ (List.mem_of_getElem? (i := 57) rfl), List.forall_mem_cons.mpr ⟨zt_2 _ (List.mem_of_getElem? (i := 58) rfl), fun _ h => absurd h List.not_mem_nil⟩⟩⟩⟩⟩⟩⟩⟩⟩⟩⟩⟩⟩⟩⟩⟩⟩⟩⟩⟩⟩⟩⟩⟩⟩
set_option maxRecDepth 20000 in
theorem zm_14 : ∀ w ∈ zA_14, w ∈ lw_tbl := List.forall_mem_cons.mpr ⟨zt_2 _ (List.mem_of_getElem? (i := 59) rfl), List.forall_mem_cons.mpr ⟨zt_2 _ (List.mem_of_getElem? (i := 60) rfl), List.forall_mem_cons.mpr ⟨zt_2 _ (List.mem_of_getElem? (i := 61) rfl), List.forall_mem_cons.mpr ⟨zt_3 _ (List.mem_of_getElem? (i := 192) rfl), List.forall_mem_cons.mpr ⟨zt_3 _ (List.mem_of_getElem? (i := 193) rfl), List.forall_mem_cons.mpr ⟨zt_3 _ (List.mem_of_getElem? (i := 194) rfl), List.forall_mem_cons.mpr ⟨zt_3 _ (List.mem_of_getElem? (i := 195) rfl), List.forall_mem_cons.mpr ⟨zt_3 _ (List.mem_of_getElem? (i := 196) rfl), List.forall_mem_cons.mpr ⟨zt_3 _ (List.mem_of_getElem? (i := 198) rfl), List.forall_mem_cons.mpr ⟨zs_3 _ (List.mem_of_getElem? (i := 3) rfl), List.forall_mem_cons.mpr ⟨zt_3 _ (List.mem_of_getElem? (i := 199) rfl), List.forall_mem_cons.mpr ⟨zt_2 _ (List.mem_of_getElem? (i := 62) rfl), List.forall_mem_cons.mpr ⟨zt_2 _ (List.mem_of_getElem? (i := 63) rfl), List.forall_mem_cons.mpr ⟨zt_2 _ (List.mem_of_getElem? (i := 64) rfl), List.forall_mem_cons.mpr ⟨zt_2 _ (List.mem_of_getElem? (i := 65) rfl), List.forall_mem_cons.mpr ⟨zt_2 _ (List.mem_of_getElem? (i := 66) rfl), List.forall_mem_cons.mpr ⟨zt_2 _ (List.mem_of_getElem? (i := 67) rfl), List.forall_mem_cons.mpr ⟨zt_2 _ (List.mem_of_getElem? (i := 68) rfl), List.forall_mem_cons.mpr ⟨zt_2 _ (List.mem_of_getElem? (i := 69) rfl), List.forall_mem_cons.mpr ⟨zt_2 _ (List.mem_of_getElem? (i := 70) rfl), List.forall_mem_cons.mpr ⟨zt_2 _ (List.mem_of_getElem? (i := 71) rfl), List.forall_mem_cons.mpr ⟨zt_2 _ (List.mem_of_getElem? (i := 72) rfl), List.forall_mem_cons.mpr ⟨zt_2 _ (List.mem_of_getElem? (i := 73) rfl), List.forall_mem_cons.mpr ⟨zt_2 _ (List.mem_of_getElem? (i := 74) rfl), List.forall_mem_cons.mpr ⟨zt_3 _ (List.mem_of_getElem? (i := 200) rfl), fun _ h => absurd h List.not_mem_nil⟩⟩⟩⟩⟩⟩⟩⟩⟩⟩⟩⟩⟩⟩⟩⟩⟩⟩⟩⟩⟩⟩⟩⟩⟩
set_option maxRecDepth 20000 in
theorem zm_15 : ∀ w ∈ zA_15, w ∈ lw_tbl := List.forall_mem_cons.mpr ⟨zt_3 _ (List.mem_of_getElem? (i := 201) rfl), List.forall_mem_cons.mpr ⟨zt_3 _ (List.mem_of_getElem? (i := 202) rfl), List.forall_mem_cons.mpr ⟨zt_3 _ (List.mem_of_getElem? (i := 203) rfl), List.forall_mem_cons.mpr ⟨zt_3 _ (List.mem_of_getElem? (i := 204) rfl), List.forall_mem_cons.mpr ⟨zt_3 _ (List.mem_of_getElem? (i := 206) rfl), List.forall_mem_cons.mpr ⟨zs_3 _ (List.mem_of_getElem? (i := 4) rfl), List.forall_mem_cons.mpr ⟨zt_3 _ (List.mem_of_getElem? (i := 207) rfl), List.forall_mem_cons.mpr ⟨zt_2 _ (List.mem_of_getElem? (i := 75) rfl), List.forall_mem_cons.mpr ⟨zt_2 _ (List.mem_of_getElem? (i := 76) rfl), List.forall_mem_cons.mpr ⟨zt_2 _ (List.mem_of_getElem? (i := 77) rfl), List.forall_mem_cons.mpr ⟨zt_2 _ (List.mem_of_getElem? (i := 78) rfl), List.forall_mem_cons.mpr ⟨zt_3 _ (List.mem_of_getElem? (i := 208) rfl), List.forall_mem_cons.mpr ⟨zt_3 _ (List.mem_of_getElem? (i := 209) rfl), List.forall_mem_cons.mpr ⟨zt_3 _ (List.mem_of_getElem? (i := 210) rfl), List.forall_mem_cons.mpr ⟨zt_3 _ (List.mem_of_getElem? (i := 211) rfl), List.forall_mem_cons.mpr ⟨zt_3 _ (List.mem_of_getElem? (i := 212) rfl), List.forall_mem_cons.mpr ⟨zt_3 _ (List.mem_of_getElem? (i := 214) rfl), List.forall_mem_cons.mpr ⟨zs_3 _ (List.mem_of_getElem? (i := 5) rfl), List.forall_mem_cons.mpr ⟨zt_3 _ (List.mem_of_getElem? (i := 215) rfl), List.forall_mem_cons.mpr ⟨zt_2 _ (List.mem_of_getElem? (i := 79) rfl), List.forall_mem_cons.mpr ⟨zt_2 _ (List.mem_of_getElem? (i := 80) rfl), List.forall_mem_cons.mpr ⟨zt_2 _ (List.mem_of_getElem? (i := 81) rfl), List.forall_mem_cons.mpr ⟨zt_2 _ (List.mem_of_getElem? (i := 82) rfl), List.forall_mem_cons.mpr ⟨zt_2 _ (List.mem_of_getElem? (i := 96) rfl), List.forall_mem_cons.mpr ⟨zt_2 _ (List.mem_of_getElem? (i := 83) rfl), fun _ h => absurd h List.not_mem_nil⟩⟩⟩⟩⟩⟩⟩⟩⟩⟩⟩⟩⟩⟩⟩⟩⟩⟩⟩⟩⟩⟩⟩⟩⟩
set_option maxRecDepth 20000 in
theorem zm_16 : ∀ w ∈ zA_16, w ∈ lw_tbl := List.forall_mem_cons.mpr ⟨zt_2 _ (List.mem_of_getElem? (i := 85) rfl), List.forall_mem_cons.mpr ⟨zs_1 _ (List.mem_of_getElem? (i := 11) rfl), List.forall_mem_cons.mpr ⟨zt_2 _ (List.mem_of_getElem? (i := 86) rfl), List.forall_mem_cons.mpr ⟨zt_2 _ (List.mem_of_getElem? (i := 87) rfl), List.forall_mem_cons.mpr ⟨zt_2 _ (List.mem_of_getElem? (i := 88) rfl), List.forall_mem_cons.mpr ⟨zt_2 _ (List.mem_of_getElem? (i := 89) rfl), List.forall_mem_cons.mpr ⟨zt_2 _ (List.mem_of_getElem? (i := 90) rfl), List.forall_mem_cons.mpr ⟨zt_2 _ (List.mem_of_getElem? (i := 91) rfl), List.forall_mem_cons.mpr ⟨zt_1 _ (List.mem_of_getElem? (i := 10) rfl), List.forall_mem_cons.mpr ⟨zt_2 _ (List.mem_of_getElem? (i := 92) rfl), List.forall_mem_cons.mpr ⟨zt_2 _ (List.mem_of_getElem? (i := 93) rfl), List.forall_mem_cons.mpr ⟨zt_2 _ (List.mem_of_getElem? (i := 94) rfl), List.forall_mem_cons.mpr ⟨zt_2 _ (List.mem_of_getElem? (i := 95) rfl), List.forall_mem_cons.mpr ⟨zt_3 _ (List.mem_of_getElem? (i := 216) rfl), List.forall_mem_cons.mpr ⟨zt_3 _ (List.mem_of_getElem? (i := 217) rfl), List.forall_mem_cons.mpr ⟨zt_3 _ (List.mem_of_getElem? (i := 218) rfl), List.forall_mem_cons.mpr ⟨zt_3 _ (List.mem_of_getElem? (i := 219) rfl), List.forall_mem_cons.mpr ⟨zt_3 _ (List.mem_of_getElem? (i := 220) rfl), List.forall_mem_cons.mpr ⟨zt_3 _ (List.mem_of_getElem? (i := 222) rfl), List.forall_mem_cons.mpr ⟨zs_3 _ (List.mem_of_getElem? (i := 6) rfl), List.forall_mem_cons.mpr ⟨zt_3 _ (List.mem_of_getElem? (i := 223) rfl), List.forall_mem_cons.mpr ⟨zt_2 _ (List.mem_of_getElem? (i := 97) rfl), List.forall_mem_cons.mpr ⟨zt_2 _ (List.mem_of_getElem? (i := 98) rfl), List.forall_mem_cons.mpr ⟨zt_2 _ (List.mem_of_getElem? (i := 99) rfl), List.forall_mem_cons.mpr ⟨zt_2 _ (List.mem_of_getElem? (i := 100) rfl), fun _ h => absurd h List.not_mem_nil⟩⟩⟩⟩⟩⟩⟩⟩⟩⟩⟩⟩⟩⟩⟩⟩⟩⟩⟩⟩⟩⟩⟩⟩⟩
set_option maxRecDepth 20000 in
theorem zm_17 : ∀ w ∈ zA_17, w ∈ lw_tbl := List.forall_mem_cons.mpr ⟨zt_3 _ (List.mem_of_getElem? (i := 224) rfl), List.forall_mem_cons.mpr ⟨zt_3 _ (List.mem_of_getElem? (i := 225) rfl), List.forall_mem_cons.mpr ⟨zt_3 _ (List.mem_of_getElem? (i := 226) rfl), List.forall_mem_cons.mpr ⟨zt_3 _ (List.mem_of_getElem? (i := 227) rfl), List.forall_mem_cons.mpr ⟨zt_2 _ (List.mem_of_getElem? (i := 101) rfl), List.forall_mem_cons.mpr ⟨zt_2 _ (List.mem_of_getElem? (i := 102) rfl), List.forall_mem_cons.mpr ⟨zt_2 _ (List.mem_of_getElem? (i := 103) rfl), List.forall_mem_cons.mpr ⟨zt_2 _ (List.mem_of_getElem? (i := 104) rfl), List.forall_mem_cons.mpr ⟨zt_2 _ (List.mem_of_getElem? (i := 105) rfl), List.forall_mem_cons.mpr ⟨zt_3 _ (List.mem_of_getElem? (i := 228) rfl), List.forall_mem_cons.mpr ⟨zt_3 _ (List.mem_of_getElem? (i := 229) rfl), List.forall_mem_cons.mpr ⟨zt_3 _ (List.mem_of_getElem? (i := 230) rfl), List.forall_mem_cons.mpr ⟨zt_3 _ (List.mem_of_getElem? (i := 231) rfl), List.forall_mem_cons.mpr ⟨zt_2 _ (List.mem_of_getElem? (i := 106) rfl), List.forall_mem_cons.mpr ⟨zt_2 _ (List.mem_of_getElem? (i := 107) rfl), List.forall_mem_cons.mpr ⟨zt_2 _ (List.mem_of_getElem? (i := 108) rfl), List.forall_mem_cons.mpr ⟨zt_2 _ (List.mem_of_getElem? (i := 109) rfl), List.forall_mem_cons.mpr ⟨zt_2 _ (List.mem_of_getElem? (i := 110) rfl), List.forall_mem_cons.mpr ⟨zt_2 _ (List.mem_of_getElem? (i := 112) rfl), List.forall_mem_cons.mpr ⟨zs_1 _ (List.mem_of_getElem? (i := 12) rfl), List.forall_mem_cons.mpr ⟨zt_2 _ (List.mem_of_getElem? (i := 113) rfl), List.forall_mem_cons.mpr ⟨zt_2 _ (List.mem_of_getElem? (i := 114) rfl), List.forall_mem_cons.mpr ⟨zt_2 _ (List.mem_of_getElem? (i := 116) rfl), List.forall_mem_cons.mpr ⟨zs_1 _ (List.mem_of_getElem? (i := 13) rfl), List.forall_mem_cons.mpr ⟨zt_2 _ (List.mem_of_getElem? (i := 117) rfl), fun _ h => absurd h List.not_mem_nil⟩⟩⟩⟩⟩⟩⟩⟩⟩⟩⟩⟩⟩⟩⟩⟩⟩⟩⟩⟩⟩⟩⟩⟩⟩
set_option maxRecDepth 20000 in
theorem zm_18 : ∀ w ∈ zA_18, w ∈ lw_tbl := List.forall_mem_cons.mpr ⟨zt_2 _ (List.mem_of_getElem? (i := 118) rfl), List.forall_mem_cons.mpr ⟨zt_2 _ (List.mem_of_getElem? (i := 119) rfl), List.forall_mem_cons.mpr ⟨zt_2 _ (List.mem_of_getElem? (i := 120) rfl), List.forall_mem_cons.mpr ⟨zt_2 _ (List.mem_of_getElem? (i := 121) rfl), List.forall_mem_cons.mpr ⟨zt_2 _ (List.mem_of_getElem? (i := 122) rfl), List.forall_mem_cons.mpr ⟨zt_2 _ (List.mem_of_getElem? (i := 123) rfl), List.forall_mem_cons.mpr ⟨zt_2 _ (List.mem_of_getElem? (i := 124) rfl), List.forall_mem_cons.mpr ⟨zt_2 _ (List.mem_of_getElem? (i := 126) rfl), List.forall_mem_cons.mpr ⟨zs_1 _ (List.mem_of_getElem? (i := 14) rfl), List.forall_mem_cons.mpr ⟨zt_2 _ (List.mem_of_getElem? (i := 127) rfl), List.forall_mem_cons.mpr ⟨zt_2 _ (List.mem_of_getElem? (i := 128) rfl), List.forall_mem_cons.mpr ⟨zt_2 _ (List.mem_of_getElem? (i := 129) rfl), List.forall_mem_cons.mpr ⟨zt_2 _ (List.mem_of_getElem? (i := 130) rfl), List.forall_mem_cons.mpr ⟨zt_2 _ (List.mem_of_getElem? (i := 131) rfl), List.forall_mem_cons.mpr ⟨zt_2 _ (List.mem_of_getElem? (i := 132) rfl), List.forall_mem_cons.mpr ⟨zt_2 _ (List.mem_of_getElem? (i := 133) rfl), List.forall_mem_cons.mpr ⟨zt_2 _ (List.mem_of_getElem? (i := 134) rfl), List.forall_mem_cons.mpr ⟨zt_2 _ (List.mem_of_getElem? (i := 135) rfl), List.forall_mem_cons.mpr ⟨zt_2 _ (List.mem_of_getElem? (i := 136) rfl), List.forall_mem_cons.mpr ⟨zt_2 _ (List.mem_of_getElem? (i := 137) rfl), List.forall_mem_cons.mpr ⟨zt_2 _ (List.mem_of_getElem? (i := 138) rfl), List.forall_mem_cons.mpr ⟨zt_2 _ (List.mem_of_getElem? (i := 139) rfl), List.forall_mem_cons.mpr ⟨zt_2 _ (List.mem_of_getElem? (i := 140) rfl), List.forall_mem_cons.mpr ⟨zt_2 _ (List.mem_of_getElem? (i := 141) rfl), List.forall_mem_cons.mpr ⟨zt_2 _ (List.mem_of_getElem? (i := 142) rfl), fun _ h => absurd h List.not_mem_nil⟩⟩⟩⟩⟩⟩⟩⟩⟩⟩⟩⟩⟩⟩⟩⟩⟩⟩⟩⟩⟩⟩⟩⟩⟩
set_option maxRecDepth 20000 in
theorem zm_19 : ∀ w ∈ zA_19, w ∈ lw_tbl := List.forall_mem_cons.mpr ⟨zt_2 _ (List.mem_of_getElem? (i := 143) rfl), List.forall_mem_cons.mpr ⟨zt_2 _ (List.mem_of_getElem? (i := 145) rfl), List.forall_mem_cons.mpr ⟨zs_1 _ (List.mem_of_getElem? (i := 15) rfl), List.forall_mem_cons.mpr ⟨zt_2 _ (List.mem_of_getElem? (i := 146) rfl), List.forall_mem_cons.mpr ⟨zt_2 _ (List.mem_of_getElem? (i := 147) rfl), List.forall_mem_cons.mpr ⟨zt_2 _ (List.mem_of_getElem? (i := 148) rfl), List.forall_mem_cons.mpr ⟨zt_2 _ (List.mem_of_getElem? (i := 149) rfl), List.forall_mem_cons.mpr ⟨zt_2 _ (List.mem_of_getElem? (i := 150) rfl), List.forall_mem_cons.mpr ⟨zt_2 _ (List.mem_of_getElem? (i := 151) rfl), List.forall_mem_cons.mpr ⟨zt_2 _ (List.mem_of_getElem? (i := 152) rfl), List.forall_mem_cons.mpr ⟨zt_2 _ (List.mem_of_getElem? (i := 153) rfl), List.forall_mem_cons.mpr ⟨zt_2 _ (List.mem_of_getElem? (i := 154) rfl), List.forall_mem_cons.mpr ⟨zt_2 _ (List.mem_of_getElem? (i := 155) rfl), List.forall_mem_cons.mpr ⟨zt_2 _ (List.mem_of_getElem? (i := 156) rfl), List.forall_mem_cons.mpr ⟨zt_2 _ (List.mem_of_getElem? (i := 157) rfl), List.forall_mem_cons.mpr ⟨zt_3 _ (List.mem_of_getElem? (i := 232) rfl), List.forall_mem_cons.mpr ⟨zt_3 _ (List.mem_of_getElem? (i := 233) rfl), List.forall_mem_cons.mpr ⟨zt_3 _ (List.mem_of_getElem? (i := 234) rfl), List.forall_mem_cons.mpr ⟨zt_3 _ (List.mem_of_getElem? (i := 235) rfl), List.forall_mem_cons.mpr ⟨zt_3 _ (List.mem_of_getElem? (i := 236) rfl), List.forall_mem_cons.mpr ⟨zt_3 _ (List.mem_of_getElem? (i := 238) rfl), List.forall_mem_cons.mpr ⟨zs_3 _ (List.mem_of_getElem? (i := 7) rfl), List.forall_mem_cons.mpr ⟨zt_3 _ (List.mem_of_getElem? (i := 239) rfl), List.forall_mem_cons.mpr ⟨zt_4 _ (List.mem_of_getElem? (i := 0) rfl), List.forall_mem_cons.mpr ⟨zt_4 _ (List.mem_of_getElem? (i := 2) rfl), fun _ h => absurd h List.not_mem_nil⟩⟩⟩⟩⟩⟩⟩⟩⟩⟩⟩⟩⟩⟩⟩⟩⟩⟩⟩⟩⟩⟩⟩⟩⟩
set_option maxRecDepth 20000 in
theorem zm_20 : ∀ w ∈ zA_20, w ∈ lw_tbl := List.forall_mem_cons.mpr ⟨zs_3 _ (List.mem_of_getElem? (i := 8) rfl), List.forall_mem_cons.mpr ⟨zt_4 _ (List.mem_of_getElem? (i := 3) rfl), List.forall_mem_cons.mpr ⟨zt_4 _ (List.mem_of_getElem? (i := 4) rfl), List.forall_mem_cons.mpr ⟨zt_4 _ (List.mem_of_getElem? (i := 6) rfl), List.forall_mem_cons.mpr ⟨zs_3 _ (List.mem_of_getElem? (i := 9) rfl), List.forall_mem_cons.mpr ⟨zt_4 _ (List.mem_of_getElem? (i := 7) rfl), List.forall_mem_cons.mpr ⟨zt_4 _ (List.mem_of_getElem? (i := 8) rfl), List.forall_mem_cons.mpr ⟨zt_4 _ (List.mem_of_getElem? (i := 9) rfl), List.forall_mem_cons.mpr ⟨zt_4 _ (List.mem_of_getElem? (i := 10) rfl), List.forall_mem_cons.mpr ⟨zt_4 _ (List.mem_of_getElem? (i := 11) rfl), List.forall_mem_cons.mpr ⟨zt_4 _ (List.mem_of_getElem? (i := 13) rfl), List.forall_mem_cons.mpr ⟨zs_3 _ (List.mem_of_getElem? (i := 10) rfl), List.forall_mem_cons.mpr ⟨zt_4 _ (List.mem_of_getElem? (i := 14) rfl), List.forall_mem_cons.mpr ⟨zt_4 _ (List.mem_of_getElem? (i := 15) rfl), List.forall_mem_cons.mpr ⟨zt_4 _ (List.mem_of_getElem? (i := 17) rfl), List.forall_mem_cons.mpr ⟨zs_3 _ (List.mem_of_getElem? (i := 11) rfl), List.forall_mem_cons.mpr ⟨zt_4 _ (List.mem_of_getElem? (i := 18) rfl), List.forall_mem_cons.mpr ⟨zt_4 _ (List.mem_of_getElem? (i := 19) rfl), List.forall_mem_cons.mpr ⟨zt_4 _ (List.mem_of_getElem? (i := 21) rfl), List.forall_mem_cons.mpr ⟨zs_3 _ (List.mem_of_getElem? (i := 12) rfl), List.forall_mem_cons.mpr ⟨zt_4 _ (List.mem_of_getElem? (i := 22) rfl), List.forall_mem_cons.mpr ⟨zt_4 _ (List.mem_of_getElem? (i := 23) rfl), List.forall_mem_cons.mpr ⟨zt_4 _ (List.mem_of_getElem? (i := 25) rfl), List.forall_mem_cons.mpr ⟨zs_3 _ (List.mem_of_getElem? (i := 13) rfl), List.forall_mem_cons.mpr ⟨zt_4 _ (List.mem_of_getElem? (i := 26) rfl), fun _ h => absurd h List.not_mem_nil⟩⟩⟩⟩⟩⟩⟩⟩⟩⟩⟩⟩⟩⟩⟩⟩⟩⟩⟩⟩⟩⟩⟩⟩⟩
set_option maxRecDepth 20000 in
theorem zm_21 : ∀ w ∈ zA_21, w ∈ lw_tbl := List.forall_mem_cons.mpr ⟨zt_4 _ (List.mem_of_getElem? (i := 27) rfl), List.forall_mem_cons.mpr ⟨zt_4 _ (List.mem_of_getElem? (i := 29) rfl), List.forall_mem_cons.mpr ⟨zs_3 _ (List.mem_of_getElem? (i := 14) rfl), List.forall_mem_cons.mpr ⟨zt_4 _ (List.mem_of_getElem? (i := 30) rfl), List.forall_mem_cons.mpr ⟨zt_4 _ (List.mem_of_getElem? (i := 31) rfl), List.forall_mem_cons.mpr ⟨zt_4 _ (List.mem_of_getElem? (i := 33) rfl), List.forall_mem_cons.mpr ⟨zs_3 _ (List.mem_of_getElem? (i := 15) rfl), List.forall_mem_cons.mpr ⟨zt_4 _ (List.mem_of_getElem? (i := 34) rfl), List.forall_mem_cons.mpr ⟨zt_4 _ (List.mem_of_getElem? (i := 35) rfl), List.forall_mem_cons.mpr ⟨zt_4 _ (List.mem_of_getElem? (i := 37) rfl), List.forall_mem_cons.mpr ⟨zs_4 _ (List.mem_of_getElem? (i := 0) rfl), List.forall_mem_cons.mpr ⟨zt_4 _ (List.mem_of_getElem? (i := 38) rfl), List.forall_mem_cons.mpr ⟨zt_2 _ (List.mem_of_getElem? (i := 158) rfl), List.forall_mem_cons.mpr ⟨zt_2 _ (List.mem_of_getElem? (i := 159) rfl), List.forall_mem_cons.mpr ⟨zt_2 _ (List.mem_of_getElem? (i := 160) rfl), List.forall_mem_cons.mpr ⟨zt_2 _ (List.mem_of_getElem? (i := 161) rfl), List.forall_mem_cons.mpr ⟨zt_2 _ (List.mem_of_getElem? (i := 162) rfl), List.forall_mem_cons.mpr ⟨zt_4 _ (List.mem_of_getElem? (i := 39) rfl), List.forall_mem_cons.mpr ⟨zt_4 _ (List.mem_of_getElem? (i := 40) rfl), List.forall_mem_cons.mpr ⟨zt_4 _ (List.mem_of_getElem? (i := 41) rfl), List.forall_mem_cons.mpr ⟨zt_4 _ (List.mem_of_getElem? (i := 42) rfl), List.forall_mem_cons.mpr ⟨zt_2 _ (List.mem_of_getElem? (i := 163) rfl), List.forall_mem_cons.mpr ⟨zt_2 _ (List.mem_of_getElem? (i := 164) rfl), List.forall_mem_cons.mpr ⟨zt_2 _ (List.mem_of_getElem? (i := 165) rfl), List.forall_mem_cons.mpr ⟨zt_2 _ (List.mem_of_getElem? (i := 166) rfl), fun _ h => absurd h List.not_mem_nil⟩⟩⟩⟩⟩⟩⟩⟩⟩⟩⟩⟩⟩⟩⟩⟩⟩⟩⟩⟩⟩⟩⟩⟩⟩
set_option maxRecDepth 20000 in
theorem zm_22 : ∀ w ∈ zA_22, w ∈ lw_tbl := List.forall_mem_cons.mpr ⟨zt_2 _ (List.mem_of_getElem? (i := 167) rfl), List.forall_mem_cons.mpr ⟨zt_2 _ (List.mem_of_getElem? (i := 168) rfl), List.forall_mem_cons.mpr ⟨zt_2 _ (List.mem_of_getElem? (i := 169) rfl), List.forall_mem_cons.mpr ⟨zt_2 _ (List.mem_of_getElem? (i := 170) rfl), List.forall_mem_cons.mpr ⟨zt_2 _ (List.mem_of_getElem? (i := 171) rfl), List.forall_mem_cons.mpr ⟨zt_4 _ (List.mem_of_getElem? (i := 43) rfl), List.forall_mem_cons.mpr ⟨zt_4 _ (List.mem_of_getElem? (i := 44) rfl), List.forall_mem_cons.mpr ⟨zt_4 _ (List.mem_of_getElem? (i := 45) rfl), List.forall_mem_cons.mpr ⟨zt_4 _ (List.mem_of_getElem? (i := 46) rfl), List.forall_mem_cons.mpr ⟨zt_4 _ (List.mem_of_getElem? (i := 47) rfl), List.forall_mem_cons.mpr ⟨zt_2 _ (List.mem_of_getElem? (i := 172) rfl), List.forall_mem_cons.mpr ⟨zt_2 _ (List.mem_of_getElem? (i := 173) rfl), List.forall_mem_cons.mpr ⟨zt_2 _ (List.mem_of_getElem? (i := 174) rfl), List.forall_mem_cons.mpr ⟨zt_2 _ (List.mem_of_getElem? (i := 175) rfl), List.forall_mem_cons.mpr ⟨zt_4 _ (List.mem_of_getElem? (i := 48) rfl), List.forall_mem_cons.mpr ⟨zt_4 _ (List.mem_of_getElem? (i := 49) rfl), List.forall_mem_cons.mpr ⟨zt_4 _ (List.mem_of_getElem? (i := 50) rfl), List.forall_mem_cons.mpr ⟨zt_4 _ (List.mem_of_getElem? (i := 51) rfl), List.forall_mem_cons.mpr ⟨zt_2 _ (List.mem_of_getElem? (i := 176) rfl), List.forall_mem_cons.mpr ⟨zt_2 _ (List.mem_of_getElem? (i := 177) rfl), List.forall_mem_cons.mpr ⟨zt_2 _ (List.mem_of_getElem? (i := 178) rfl), List.forall_mem_cons.mpr ⟨zt_2 _ (List.mem_of_getElem? (i := 179) rfl), List.forall_mem_cons.mpr ⟨zt_4 _ (List.mem_of_getElem? (i := 52) rfl), List.forall_mem_cons.mpr ⟨zt_4 _ (List.mem_of_getElem? (i := 53) rfl), List.forall_mem_cons.mpr ⟨zt_4 _ (List.mem_of_getElem? (i := 54) rfl), fun _ h => absurd h List.not_mem_nil⟩⟩⟩⟩⟩⟩⟩⟩⟩⟩⟩⟩⟩⟩⟩⟩⟩⟩⟩⟩⟩⟩⟩⟩⟩
set_option maxRecDepth 20000 in
theorem zm_23 : ∀ w ∈ zA_23, w ∈ lw_tbl := List.forall_mem_cons.mpr ⟨zt_4 _ (List.mem_of_getElem? (i := 55) rfl), List.forall_mem_cons.mpr ⟨zt_4 _ (List.mem_of_getElem? (i := 56) rfl), List.forall_mem_cons.mpr ⟨zt_4 _ (List.mem_of_getElem? (i := 58) rfl), List.forall_mem_cons.mpr ⟨zs_4 _ (List.mem_of_getElem? (i := 1) rfl), List.forall_mem_cons.mpr ⟨zt_4 _ (List.mem_of_getElem? (i := 59) rfl), List.forall_mem_cons.mpr ⟨zt_4 _ (List.mem_of_getElem? (i := 60) rfl), List.forall_mem_cons.mpr ⟨zt_4 _ (List.mem_of_getElem? (i := 62) rfl), List.forall_mem_cons.mpr ⟨zs_4 _ (List.mem_of_getElem? (i := 2) rfl), List.forall_mem_cons.mpr ⟨zt_4 _ (List.mem_of_getElem? (i := 63) rfl), List.forall_mem_cons.mpr ⟨zt_2 _ (List.mem_of_getElem? (i := 180) rfl), List.forall_mem_cons.mpr ⟨zt_2 _ (List.mem_of_getElem? (i := 181) rfl), List.forall_mem_cons.mpr ⟨zt_2 _ (List.mem_of_getElem? (i := 182) rfl), List.forall_mem_cons.mpr ⟨zt_2 _ (List.mem_of_getElem? (i := 183) rfl), List.forall_mem_cons.mpr ⟨zt_2 _ (List.mem_of_getElem? (i := 184) rfl), List.forall_mem_cons.mpr ⟨zt_2 _ (List.mem_of_getElem? (i := 185) rfl), List.forall_mem_cons.mpr ⟨zt_1 _ (List.mem_of_getElem? (i := 11) rfl), List.forall_mem_cons.mpr ⟨zt_2 _ (List.mem_of_getElem? (i := 186) rfl), List.forall_mem_cons.mpr ⟨zt_2 _ (List.mem_of_getElem? (i := 187) rfl), List.forall_mem_cons.mpr ⟨zt_2 _ (List.mem_of_getElem? (i := 188) rfl), List.forall_mem_cons.mpr ⟨zt_4 _ (List.mem_of_getElem? (i := 64) rfl), List.forall_mem_cons.mpr ⟨zt_4 _ (List.mem_of_getElem? (i := 65) rfl), List.forall_mem_cons.mpr ⟨zt_4 _ (List.mem_of_getElem? (i := 66) rfl), List.forall_mem_cons.mpr ⟨zt_4 _ (List.mem_of_getElem? (i := 67) rfl), List.forall_mem_cons.mpr ⟨zt_4 _ (List.mem_of_getElem? (i := 68) rfl), List.forall_mem_cons.mpr ⟨zt_4 _ (List.mem_of_getElem? (i := 69) rfl), fun _ h => absurd h List.not_mem_nil⟩⟩⟩⟩⟩⟩⟩⟩⟩⟩⟩⟩⟩⟩⟩⟩⟩⟩⟩⟩⟩⟩⟩⟩⟩
set_option maxRecDepth 20000 in
theorem zm_24 : ∀ w ∈ zA_24, w ∈ lw_tbl := List.forall_mem_cons.mpr ⟨zt_1 _ (List.mem_of_getElem? (i := 12) rfl), List.forall_mem_cons.mpr ⟨zt_4 _ (List.mem_of_getElem? (i := 70) rfl), List.forall_mem_cons.mpr ⟨zt_4 _ (List.mem_of_getElem? (i := 74) rfl), List.forall_mem_cons.mpr ⟨zt_4 _ (List.mem_of_getElem? (i := 76) rfl), List.forall_mem_cons.mpr ⟨zt_4 _ (List.mem_of_getElem? (i := 75) rfl), List.forall_mem_cons.mpr ⟨zt_4 _ (List.mem_of_getElem? (i := 77) rfl), List.forall_mem_cons.mpr ⟨zt_4 _ (List.mem_of_getElem? (i := 71) rfl), List.forall_mem_cons.mpr ⟨zt_4 _ (List.mem_of_getElem? (i := 72) rfl), List.forall_mem_cons.mpr ⟨zt_4 _ (List.mem_of_getElem? (i := 73) rfl), List.forall_mem_cons.mpr ⟨zt_2 _ (List.mem_of_getElem? (i := 189) rfl), List.forall_mem_cons.mpr ⟨zt_2 _ (List.mem_of_getElem? (i := 190) rfl), List.forall_mem_cons.mpr ⟨zt_2 _ (List.mem_of_getElem? (i := 191) rfl), List.forall_mem_cons.mpr ⟨zt_2 _ (List.mem_of_getElem? (i := 192) rfl), List.forall_mem_cons.mpr ⟨zt_2 _ (List.mem_of_getElem? (i := 193) rfl), List.forall_mem_cons.mpr ⟨zt_2 _ (List.mem_of_getElem? (i := 194) rfl), List.forall_mem_cons.mpr ⟨zt_2 _ (List.mem_of_getElem? (i := 195) rfl), List.forall_mem_cons.mpr ⟨zt_2 _ (List.mem_of_getElem? (i := 196) rfl), List.forall_mem_cons.mpr ⟨zt_4 _ (List.mem_of_getElem? (i := 78) rfl), List.forall_mem_cons.mpr ⟨zt_4 _ (List.mem_of_getElem? (i := 79) rfl), List.forall_mem_cons.mpr ⟨zt_4 _ (List.mem_of_getElem? (i := 80) rfl), List.forall_mem_cons.mpr ⟨zt_4 _ (List.mem_of_getElem? (i := 81) rfl), List.forall_mem_cons.mpr ⟨zt_4 _ (List.mem_of_getElem? (i := 82) rfl), List.forall_mem_cons.mpr ⟨zt_4 _ (List.mem_of_getElem? (i := 83) rfl), List.forall_mem_cons.mpr ⟨zt_1 _ (List.mem_of_getElem? (i := 13) rfl), List.forall_mem_cons.mpr ⟨zt_4 _ (List.mem_of_getElem? (i := 84) rfl), fun _ h => absurd h List.not_mem_nil⟩⟩⟩⟩⟩⟩⟩⟩⟩⟩⟩⟩⟩⟩⟩⟩⟩⟩⟩⟩⟩⟩⟩⟩⟩
set_option maxRecDepth 20000 in
theorem zm_25 : ∀ w ∈ zA_25, w ∈ lw_tbl := List.forall_mem_cons.mpr ⟨zt_4 _ (List.mem_of_getElem? (i := 88) rfl), List.forall_mem_cons.mpr ⟨zt_4 _ (List.mem_of_getElem? (i := 90) rfl), List.forall_mem_cons.mpr ⟨zt_4 _ (List.mem_of_getElem? (i := 89) rfl), List.forall_mem_cons.mpr ⟨zt_4 _ (List.mem_of_getElem? (i := 91) rfl), List.forall_mem_cons.mpr ⟨zt_4 _ (List.mem_of_getElem? (i := 85) rfl), List.forall_mem_cons.mpr ⟨zt_4 _ (List.mem_of_getElem? (i := 86) rfl), List.forall_mem_cons.mpr ⟨zt_4 _ (List.mem_of_getElem? (i := 87) rfl), List.forall_mem_cons.mpr ⟨zt_2 _ (List.mem_of_getElem? (i := 197) rfl), List.forall_mem_cons.mpr ⟨zt_2 _ (List.mem_of_getElem? (i := 198) rfl), List.forall_mem_cons.mpr ⟨zt_2 _ (List.mem_of_getElem? (i := 199) rfl), List.forall_mem_cons.mpr ⟨zt_2 _ (List.mem_of_getElem? (i := 200) rfl), List.forall_mem_cons.mpr ⟨zt_4 _ (List.mem_of_getElem? (i := 92) rfl), List.forall_mem_cons.mpr ⟨zt_4 _ (List.mem_of_getElem? (i := 93) rfl), List.forall_mem_cons.mpr ⟨zt_4 _ (List.mem_of_getElem? (i := 94) rfl), List.forall_mem_cons.mpr ⟨zt_4 _ (List.mem_of_getElem? (i := 95) rfl), List.forall_mem_cons.mpr ⟨zt_4 _ (List.mem_of_getElem? (i := 96) rfl), List.forall_mem_cons.mpr ⟨zt_4 _ (List.mem_of_getElem? (i := 98) rfl), List.forall_mem_cons.mpr ⟨zs_4 _ (List.mem_of_getElem? (i := 3) rfl), List.forall_mem_cons.mpr ⟨zt_4 _ (List.mem_of_getElem? (i := 99) rfl), List.forall_mem_cons.mpr ⟨zt_2 _ (List.mem_of_getElem? (i := 201) rfl), List.forall_mem_cons.mpr ⟨zt_2 _ (List.mem_of_getElem? (i := 202) rfl), List.forall_mem_cons.mpr ⟨zt_2 _ (List.mem_of_getElem? (i := 203) rfl), List.forall_mem_cons.mpr ⟨zt_2 _ (List.mem_of_getElem? (i := 204) rfl), List.forall_mem_cons.mpr ⟨zt_4 _ (List.mem_of_getElem? (i := 100) rfl), List.forall_mem_cons.mpr ⟨zt_4 _ (List.mem_of_getElem? (i := 101) rfl), fun _ h => absurd h List.not_mem_nil⟩⟩⟩⟩⟩⟩⟩⟩⟩⟩⟩⟩⟩⟩⟩⟩⟩⟩⟩⟩⟩⟩⟩⟩⟩
set_option maxRecDepth 20000 in
theorem zm_26 : ∀ w ∈ zA_26, w ∈ lw_tbl := List.forall_mem_cons.mpr ⟨zt_4 _ (List.mem_of_getElem? (i := 102) rfl), List.forall_mem_cons.mpr ⟨zt_4 _ (List.mem_of_getElem? (i := 103) rfl), List.forall_mem_cons.mpr ⟨zt_2 _ (List.mem_of_getElem? (i := 205) rfl), List.forall_mem_cons.mpr ⟨zt_2 _ (List.mem_of_getElem? (i := 206) rfl), List.forall_mem_cons.mpr ⟨zt_2 _ (List.mem_of_getElem? (i := 207) rfl), List.forall_mem_cons.mpr ⟨zt_2 _ (List.mem_of_getElem? (i := 208) rfl), List.forall_mem_cons.mpr ⟨zt_4 _ (List.mem_of_getElem? (i := 104) rfl), List.forall_mem_cons.mpr ⟨zt_4 _ (List.mem_of_getElem? (i := 105) rfl), List.forall_mem_cons.mpr ⟨zt_4 _ (List.mem_of_getElem? (i := 106) rfl), List.forall_mem_cons.mpr ⟨zt_4 _ (List.mem_of_getElem? (i := 107) rfl), List.forall_mem_cons.mpr ⟨zt_2 _ (List.mem_of_getElem? (i := 209) rfl), List.forall_mem_cons.mpr ⟨zt_2 _ (List.mem_of_getElem? (i := 210) rfl), List.forall_mem_cons.mpr ⟨zt_2 _ (List.mem_of_getElem? (i := 211) rfl), List.forall_mem_cons.mpr ⟨zt_2 _ (List.mem_of_getElem? (i := 212) rfl), List.forall_mem_cons.mpr ⟨zt_2 _ (List.mem_of_getElem? (i := 213) rfl), List.forall_mem_cons.mpr ⟨zt_2 _ (List.mem_of_getElem? (i := 215) rfl), List.forall_mem_cons.mpr ⟨zs_2 _ (List.mem_of_getElem? (i := 0) rfl), List.forall_mem_cons.mpr ⟨zt_2 _ (List.mem_of_getElem? (i := 216) rfl), List.forall_mem_cons.mpr ⟨zt_2 _ (List.mem_of_getElem? (i := 217) rfl), List.forall_mem_cons.mpr ⟨zt_2 _ (List.mem_of_getElem? (i := 219) rfl), List.forall_mem_cons.mpr ⟨zs_2 _ (List.mem_of_getElem? (i := 1) rfl), List.forall_mem_cons.mpr ⟨zt_2 _ (List.mem_of_getElem? (i := 220) rfl), List.forall_mem_cons.mpr ⟨zt_2 _ (List.mem_of_getElem? (i := 221) rfl), List.forall_mem_cons.mpr ⟨zt_2 _ (List.mem_of_getElem? (i := 222) rfl), List.forall_mem_cons.mpr ⟨zt_2 _ (List.mem_of_getElem? (i := 223) rfl), fun _ h => absurd h List.not_mem_nil⟩⟩⟩⟩⟩⟩⟩⟩⟩⟩⟩⟩⟩⟩⟩⟩⟩⟩⟩⟩⟩⟩⟩⟩⟩
set_option maxRecDepth 20000 in
theorem zm_27 : ∀ w ∈ zA_27, w ∈ lw_tbl := List.forall_mem_cons.mpr ⟨zt_2 _ (List.mem_of_getElem? (i := 224) rfl), List.forall_mem_cons.mpr ⟨zt_4 _ (List.mem_of_getElem? (i := 108) rfl), List.forall_mem_cons.mpr ⟨zt_4 _ (List.mem_of_getElem? (i := 109) rfl), List.forall_mem_cons.mpr ⟨zt_4 _ (List.mem_of_getElem? (i := 110) rfl), List.forall_mem_cons.mpr ⟨zt_4 _ (List.mem_of_getElem? (i := 111) rfl), List.forall_mem_cons.mpr ⟨zt_4 _ (List.mem_of_getElem? (i := 112) rfl), List.forall_mem_cons.mpr ⟨zt_4 _ (List.mem_of_getElem? (i := 114) rfl), List.forall_mem_cons.mpr ⟨zs_4 _ (List.mem_of_getElem? (i := 4) rfl), List.forall_mem_cons.mpr ⟨zt_4 _ (List.mem_of_getElem? (i := 115) rfl), List.forall_mem_cons.mpr ⟨zt_4 _ (List.mem_of_getElem? (i := 116) rfl), List.forall_mem_cons.mpr ⟨zt_4 _ (List.mem_of_getElem? (i := 118) rfl), List.forall_mem_cons.mpr ⟨zs_4 _ (List.mem_of_getElem? (i := 5) rfl), List.forall_mem_cons.mpr ⟨zt_4 _ (List.mem_of_getElem? (i := 119) rfl), List.forall_mem_cons.mpr ⟨zt_4 _ (List.mem_of_getElem? (i := 120) rfl), List.forall_mem_cons.mpr ⟨zt_4 _ (List.mem_of_getElem? (i := 122) rfl), List.forall_mem_cons.mpr ⟨zs_4 _ (List.mem_of_getElem? (i := 6) rfl), List.forall_mem_cons.mpr ⟨zt_4 _ (List.mem_of_getElem? (i := 123) rfl), List.forall_mem_cons.mpr ⟨zt_2 _ (List.mem_of_getElem? (i := 225) rfl), List.forall_mem_cons.mpr ⟨zt_2 _ (List.mem_of_getElem? (i := 226) rfl), List.forall_mem_cons.mpr ⟨zt_2 _ (List.mem_of_getElem? (i := 227) rfl), List.forall_mem_cons.mpr ⟨zt_2 _ (List.mem_of_getElem? (i := 228) rfl), List.forall_mem_cons.mpr ⟨zt_2 _ (List.mem_of_getElem? (i := 229) rfl), List.forall_mem_cons.mpr ⟨zt_4 _ (List.mem_of_getElem? (i := 124) rfl), List.forall_mem_cons.mpr ⟨zt_4 _ (List.mem_of_getElem? (i := 125) rfl), List.forall_mem_cons.mpr ⟨zt_4 _ (List.mem_of_getElem? (i := 126) rfl), fun _ h => absurd h List.not_mem_nil⟩⟩⟩⟩⟩⟩⟩⟩⟩⟩⟩⟩⟩⟩⟩⟩⟩⟩⟩⟩⟩⟩⟩⟩⟩
set_option maxRecDepth 20000 in
theorem zm_28 : ∀ w ∈ zA_28, w ∈ lw_tbl := List.forall_mem_cons.mpr ⟨zt_4 _ (List.mem_of_getElem? (i := 127) rfl), List.forall_mem_cons.mpr ⟨zt_2 _ (List.mem_of_getElem? (i := 230) rfl), List.forall_mem_cons.mpr ⟨zt_2 _ (List.mem_of_getElem? (i := 231) rfl), List.forall_mem_cons.mpr ⟨zt_2 _ (List.mem_of_getElem? (i := 232) rfl), List.forall_mem_cons.mpr ⟨zt_2 _ (List.mem_of_getElem? (i := 233) rfl), List.forall_mem_cons.mpr ⟨zt_2 _ (List.mem_of_getElem? (i := 234) rfl), List.forall_mem_cons.mpr ⟨zt_2 _ (List.mem_of_getElem? (i := 235) rfl), List.forall_mem_cons.mpr ⟨zt_2 _ (List.mem_of_getElem? (i := 236) rfl), List.forall_mem_cons.mpr ⟨zt_2 _ (List.mem_of_getElem? (i := 237) rfl), List.forall_mem_cons.mpr ⟨zt_2 _ (List.mem_of_getElem? (i := 238) rfl), List.forall_mem_cons.mpr ⟨zt_2 _ (List.mem_of_getElem? (i := 239) rfl), List.forall_mem_cons.mpr ⟨zt_3 _ (List.mem_of_getElem? (i := 0) rfl), List.forall_mem_cons.mpr ⟨zt_3 _ (List.mem_of_getElem? (i := 2) rfl), List.forall_mem_cons.mpr ⟨zs_2 _ (List.mem_of_getElem? (i := 2) rfl), List.forall_mem_cons.mpr ⟨zt_3 _ (List.mem_of_getElem? (i := 3) rfl), List.forall_mem_cons.mpr ⟨zt_4 _ (List.mem_of_getElem? (i := 128) rfl), List.forall_mem_cons.mpr ⟨zt_4 _ (List.mem_of_getElem? (i := 129) rfl), List.forall_mem_cons.mpr ⟨zt_4 _ (List.mem_of_getElem? (i := 130) rfl), List.forall_mem_cons.mpr ⟨zt_4 _ (List.mem_of_getElem? (i := 131) rfl), List.forall_mem_cons.mpr ⟨zt_4 _ (List.mem_of_getElem? (i := 132) rfl), List.forall_mem_cons.mpr ⟨zt_3 _ (List.mem_of_getElem? (i := 4) rfl), List.forall_mem_cons.mpr ⟨zt_3 _ (List.mem_of_getElem? (i := 5) rfl), List.forall_mem_cons.mpr ⟨zt_3 _ (List.mem_of_getElem? (i := 6) rfl), List.forall_mem_cons.mpr ⟨zt_3 _ (List.mem_of_getElem? (i := 7) rfl), List.forall_mem_cons.mpr ⟨zt_4 _ (List.mem_of_getElem? (i := 133) rfl), fun _ h => absurd h List.not_mem_nil⟩⟩⟩⟩⟩⟩⟩⟩⟩⟩⟩⟩⟩⟩⟩⟩⟩⟩⟩⟩⟩⟩⟩⟩⟩
set_option maxRecDepth 20000 in
theorem zm_29 : ∀ w ∈ zA_29, w ∈ lw_tbl := List.forall_mem_cons.mpr ⟨zt_4 _ (List.mem_of_getElem? (i := 134) rfl), List.forall_mem_cons.mpr ⟨zt_4 _ (List.mem_of_getElem? (i := 135) rfl), List.forall_mem_cons.mpr ⟨zt_4 _ (List.mem_of_getElem? (i := 136) rfl), List.forall_mem_cons.mpr ⟨zt_3 _ (List.mem_of_getElem? (i := 8) rfl), List.forall_mem_cons.mpr ⟨zt_3 _ (List.mem_of_getElem? (i := 9) rfl), List.forall_mem_cons.mpr ⟨zt_3 _ (List.mem_of_getElem? (i := 10) rfl), List.forall_mem_cons.mpr ⟨zt_3 _ (List.mem_of_getElem? (i := 11) rfl), List.forall_mem_cons.mpr ⟨zt_4 _ (List.mem_of_getElem? (i := 137) rfl), List.forall_mem_cons.mpr ⟨zt_4 _ (List.mem_of_getElem? (i := 138) rfl), List.forall_mem_cons.mpr ⟨zt_4 _ (List.mem_of_getElem? (i := 139) rfl), List.forall_mem_cons.mpr ⟨zt_4 _ (List.mem_of_getElem? (i := 140) rfl), List.forall_mem_cons.mpr ⟨zt_3 _ (List.mem_of_getElem? (i := 12) rfl), List.forall_mem_cons.mpr ⟨zt_3 _ (List.mem_of_getElem? (i := 13) rfl), List.forall_mem_cons.mpr ⟨zt_3 _ (List.mem_of_getElem? (i := 14) rfl), List.forall_mem_cons.mpr ⟨zt_3 _ (List.mem_of_getElem? (i := 15) rfl), List.forall_mem_cons.mpr ⟨zt_3 _ (List.mem_of_getElem? (i := 16) rfl), List.forall_mem_cons.mpr ⟨zt_3 _ (List.mem_of_getElem? (i := 17) rfl), List.forall_mem_cons.mpr ⟨zt_3 _ (List.mem_of_getElem? (i := 18) rfl), List.forall_mem_cons.mpr ⟨zt_3 _ (List.mem_of_getElem? (i := 19) rfl), List.forall_mem_cons.mpr ⟨zt_4 _ (List.mem_of_getElem? (i := 141) rfl), List.forall_mem_cons.mpr ⟨zt_4 _ (List.mem_of_getElem? (i := 142) rfl), List.forall_mem_cons.mpr ⟨zt_4 _ (List.mem_of_getElem? (i := 143) rfl), List.forall_mem_cons.mpr ⟨zt_4 _ (List.mem_of_getElem? (i := 144) rfl), List.forall_mem_cons.mpr ⟨zt_3 _ (List.mem_of_getElem? (i := 20) rfl), List.forall_mem_cons.mpr ⟨zt_3 _ (List.mem_of_getElem? (i := 21) rfl), fun _ h => absurd h List.not_mem_nil⟩⟩⟩⟩⟩⟩⟩⟩⟩⟩⟩⟩⟩⟩⟩⟩⟩⟩⟩⟩⟩⟩⟩⟩⟩
set_option maxRecDepth 20000 in
theorem zm_30 : ∀ w ∈ zA_30, w ∈ lw_tbl := List.forall_mem_cons.mpr ⟨zt_3 _ (List.mem_of_getElem? (i := 22) rfl), List.forall_mem_cons.mpr ⟨zt_3 _ (List.mem_of_getElem? (i := 23) rfl), List.forall_mem_cons.mpr ⟨zt_3 _ (List.mem_of_getElem? (i := 24) rfl), List.forall_mem_cons.mpr ⟨zt_4 _ (List.mem_of_getElem? (i := 145) rfl), List.forall_mem_cons.mpr ⟨zt_4 _ (List.mem_of_getElem? (i := 146) rfl), List.forall_mem_cons.mpr ⟨zt_4 _ (List.mem_of_getElem? (i := 147) rfl), List.forall_mem_cons.mpr ⟨zt_4 _ (List.mem_of_getElem? (i := 148) rfl), List.forall_mem_cons.mpr ⟨zt_3 _ (List.mem_of_getElem? (i := 25) rfl), List.forall_mem_cons.mpr ⟨zt_3 _ (List.mem_of_getElem? (i := 26) rfl), List.forall_mem_cons.mpr ⟨zt_3 _ (List.mem_of_getElem? (i := 27) rfl), List.forall_mem_cons.mpr ⟨zt_3 _ (List.mem_of_getElem? (i := 28) rfl), List.forall_mem_cons.mpr ⟨zt_3 _ (List.mem_of_getElem? (i := 29) rfl), List.forall_mem_cons.mpr ⟨zt_3 _ (List.mem_of_getElem? (i := 30) rfl), List.forall_mem_cons.mpr ⟨zt_3 _ (List.mem_of_getElem? (i := 31) rfl), List.forall_mem_cons.mpr ⟨zt_3 _ (List.mem_of_getElem? (i := 32) rfl), List.forall_mem_cons.mpr ⟨zt_4 _ (List.mem_of_getElem? (i := 149) rfl), List.forall_mem_cons.mpr ⟨zt_4 _ (List.mem_of_getElem? (i := 150) rfl), List.forall_mem_cons.mpr ⟨zt_4 _ (List.mem_of_getElem? (i := 151) rfl), List.forall_mem_cons.mpr ⟨zt_4 _ (List.mem_of_getElem? (i := 152) rfl), fun _ h => absurd h List.not_mem_nil⟩⟩⟩⟩⟩⟩⟩⟩⟩⟩⟩⟩⟩⟩⟩⟩⟩⟩⟩
abbrev vwCl : List vw_C := [(RX1, TX1, 1), (RX2, TX2, 8), (RX4, TX4, 2), (RX6, TX6, 5), (RX7, TX7, 9), (RX8, TX8, 19)]
theorem zmc_X1 : ∀ w ∈ wsX10, w ∈ lw_tbl := by decide +kernel
theorem zmc_X2 : ∀ w ∈ wsX20, w ∈ lw_tbl := by decide +kernel
theorem zmc_X4 : ∀ w ∈ wsX40, w ∈ lw_tbl := by decide +kernel
theorem zmc_X6 : ∀ w ∈ wsX60, w ∈ lw_tbl := by decide +kernel
theorem zmc_X7 : ∀ w ∈ wsX70, w ∈ lw_tbl := by decide +kernel
theorem zmc_X8 : ∀ w ∈ wsX80, w ∈ lw_tbl := by decide +kernel
theorem zmC : ∀ w ∈ zC, w ∈ lw_tbl := fun w h => (List.mem_append.mp h).elim (zmc_X1 w) (fun h => (List.mem_append.mp h).elim (zmc_X2 w) (fun h => (List.mem_append.mp h).elim (zmc_X4 w) (fun h => (List.mem_append.mp h).elim (zmc_X6 w) (fun h => (List.mem_append.mp h).elim (zmc_X7 w) (fun h => zmc_X8 w h)))))
theorem zAll_in : ∀ w ∈ zAll, w ∈ lw_tbl := fun w h => (List.mem_append.mp h).elim (zm_0 w) (fun h => (List.mem_append.mp h).elim (zm_1 w) (fun h => (List.mem_append.mp h).elim (zm_2 w) (fun h => (List.mem_append.mp h).elim (zm_3 w) (fun h => (List.mem_append.mp h).elim (zm_4 w) (fun h => (List.mem_append.mp h).elim (zm_5 w) (fun h => (List.mem_append.mp h).elim (zm_6 w) (fun h => (List.mem_append.mp h).elim (zm_7 w) (fun h => (List.mem_append.mp h).elim (zm_8 w) (fun h => (List.mem_append.mp h).elim (zm_9 w) (fun h => (List.mem_append.mp h).elim (zm_10 w) (fun h => (List.mem_append.mp h).elim (zm_11 w) (fun h => (List.mem_append.mp h).elim (zm_12 w) (fun h => (List.mem_append.mp h).elim (zm_13 w) (fun h => (List.mem_append.mp h).elim (zm_14 w) (fun h => (List.mem_append.mp h).elim (zm_15 w) (fun h => (List.mem_append.mp h).elim (zm_16 w) (fun h => (List.mem_append.mp h).elim (zm_17 w) (fun h => (List.mem_append.mp h).elim (zm_18 w) (fun h => (List.mem_append.mp h).elim (zm_19 w) (fun h => (List.mem_append.mp h).elim (zm_20 w) (fun h => (List.mem_append.mp h).elim (zm_21 w) (fun h => (List.mem_append.mp h).elim (zm_22 w) (fun h => (List.mem_append.mp h).elim (zm_23 w) (fun h => (List.mem_append.mp h).elim (zm_24 w) (fun h => (List.mem_append.mp h).elim (zm_25 w) (fun h => (List.mem_append.mp h).elim (zm_26 w) (fun h => (List.mem_append.mp h).elim (zm_27 w) (fun h => (List.mem_append.mp h).elim (zm_28 w) (fun h => (List.mem_append.mp h).elim (zm_29 w) (fun h => (List.mem_append.mp h).elim (zm_30 w) (fun h => zmC w h)))))))))))))))))))))))))))))))
theorem zAll_good : ∀ w ∈ zAll, goodWord w = true := List.all_eq_true.mp (by decide +kernel)
theorem zG_V {c1 c2 : Cond} {own C : String} {idx : Nat} {y : MethodName} (h1 : Cond.methodLink own idx y ∈ zAll) (h2 : Cond.instanceMethod y ∈ zAll) (h3 : Cond.selects C y y ∈ zAll) (h4 : Cond.initialized C ∈ zAll) (h5 : c2 ∈ zAll) : GoodIn (c1 :: zAll) (wsV own idx C y (c2 :: zAll)) := by
  intro w hw
  have h : w ∈ zAll := by
    simp only [wsV, List.cons_append, List.nil_append, List.mem_cons] at hw
    rcases hw with rfl | rfl | rfl | rfl | rfl | hw
    · exact h1
    · exact h2
    · exact h3
    · exact h4
    · exact h5
    · exact hw
  exact ⟨List.mem_cons_of_mem _ h, good_of_word (zAll_good w h)⟩
theorem zG_S {c1 c2 : Cond} {own : String} {idx : Nat} {y : MethodName} (h1 : Cond.methodLink own idx y ∈ zAll) (h2 : Cond.static y ∈ zAll) (h4 : Cond.initialized y.cls ∈ zAll) (h5 : c2 ∈ zAll) : GoodIn (c1 :: zAll) (va_wsS own idx y (c2 :: zAll)) := by
  intro w hw
  have h : w ∈ zAll := by
    simp only [va_wsS, List.cons_append, List.nil_append, List.mem_cons] at hw
    rcases hw with rfl | rfl | rfl | rfl | hw
    · exact h1
    · exact h2
    · exact h4
    · exact h5
    · exact hw
  exact ⟨List.mem_cons_of_mem _ h, good_of_word (zAll_good w h)⟩
theorem zG_I {c1 c2 : Cond} (h5 : c2 ∈ zAll) : GoodIn (c1 :: zAll) (c2 :: zAll) := by
  intro w hw
  have h : w ∈ zAll := by
    simp only [List.mem_cons] at hw
    rcases hw with rfl | hw
    · exact h5
    · exact hw
  exact ⟨List.mem_cons_of_mem _ h, good_of_word (zAll_good w h)⟩
