def RX0 : String := "Shiftgate$Algebra"
def TX0 : u_T := fun k => match k with
  | 0 => ("Shiftgate$Algebra", "first", "LShiftgate$Table;", true)
  | 1 => ("Shiftgate$Algebra", "second", "LShiftgate$Table;", true)
  | 2 => ("Shiftgate$Algebra", "third", "LShiftgate$Table;", true)
  | 3 => ("Shiftgate$Algebra", "coefficients", "[J", true)
  | 4 => ("Shiftgate$Algebra", "minors", "[J", true)
  | 5 => ("Shiftgate$Algebra", "divisors", "[J", true)
  | 6 => ("Shiftgate$Algebra", "counts", "[J", true)
  | _ => ("Shiftgate$Algebra", "later", "[J", true)
def tyX0 : Nat → FieldType := fun k => match k with
  | 0 => .object "Shiftgate$Table"
  | 1 => .object "Shiftgate$Table"
  | 2 => .object "Shiftgate$Table"
  | 3 => .array .long
  | 4 => .array .long
  | 5 => .array .long
  | 6 => .array .long
  | _ => .array .long
abbrev wsX00 : List Cond := u_ws RX0 TX0 8
theorem nmX0 : ∀ a, a < 8 → ∀ b, b < 8 → a ≠ b → (TX0 a).2.1 ≠ (TX0 b).2.1 := by decide +kernel
theorem tyX0_ok : ∀ k, k < 8 → parseFieldDescriptor (TX0 k).2.2.1 = some (tyX0 k) := by decide +kernel
abbrev cX0_init : ByteArray := prog_2_method_1_code
def yX0_init : MethodName := ⟨RX0, "<init>", "()V"⟩
abbrev cX0_commonDivisor : ByteArray := prog_2_method_2_code
def yX0_commonDivisor : MethodName := ⟨RX0, "commonDivisor", "(JJ)J"⟩
abbrev cX0_graphCoefficient : ByteArray := prog_2_method_3_code
def yX0_graphCoefficient : MethodName := ⟨RX0, "graphCoefficient", "(LShiftgate$Graph;I)J"⟩
abbrev cX0_countBetween : ByteArray := prog_2_method_4_code
def yX0_countBetween : MethodName := ⟨RX0, "countBetween", "(LShiftgate$Graph;)V"⟩
abbrev cX0_countRow : ByteArray := prog_2_method_5_code
def yX0_countRow : MethodName := ⟨RX0, "countRow", "(LShiftgate$Graph;III)V"⟩
abbrev cX0_coefficientOf : ByteArray := prog_2_method_6_code
def yX0_coefficientOf : MethodName := ⟨RX0, "coefficientOf", "(LShiftgate$Table;I)J"⟩
abbrev cX0_keepCoefficient : ByteArray := prog_2_method_7_code
def yX0_keepCoefficient : MethodName := ⟨RX0, "keepCoefficient", "(IJ)V"⟩
abbrev cX0_powerOf : ByteArray := prog_2_method_8_code
def yX0_powerOf : MethodName := ⟨RX0, "powerOf", "(LShiftgate$Table;I)LShiftgate$Table;"⟩
abbrev cX0_isLikeBy : ByteArray := prog_2_method_9_code
def yX0_isLikeBy : MethodName := ⟨RX0, "isLikeBy", "(LShiftgate$Table;LShiftgate$Table;LShiftgate$Table;LShiftgate$Table;)Z"⟩
abbrev cX0_isPowerBy : ByteArray := prog_2_method_10_code
def yX0_isPowerBy : MethodName := ⟨RX0, "isPowerBy", "(LShiftgate$Table;LShiftgate$Table;LShiftgate$Table;I)Z"⟩
abbrev cX0_diagonalNumber : ByteArray := prog_2_method_11_code
def yX0_diagonalNumber : MethodName := ⟨RX0, "diagonalNumber", "(LShiftgate$Table;I)J"⟩
abbrev cX0_divisorOf : ByteArray := prog_2_method_12_code
def yX0_divisorOf : MethodName := ⟨RX0, "divisorOf", "(I)J"⟩
abbrev cX0_findDivisors : ByteArray := prog_2_method_13_code
def yX0_findDivisors : MethodName := ⟨RX0, "findDivisors", "(LShiftgate$Table;)V"⟩
abbrev cX0_expand : ByteArray := prog_2_method_14_code
def yX0_expand : MethodName := ⟨RX0, "expand", "(LShiftgate$Table;II)J"⟩
abbrev cX0_minorOf : ByteArray := prog_2_method_15_code
def yX0_minorOf : MethodName := ⟨RX0, "minorOf", "(II)J"⟩
abbrev cX0_keepMinor : ByteArray := prog_2_method_16_code
def yX0_keepMinor : MethodName := ⟨RX0, "keepMinor", "(IIJ)V"⟩
abbrev cX0_findBound : ByteArray := prog_2_method_17_code
def yX0_findBound : MethodName := ⟨RX0, "findBound", "(LShiftgate$Graph;IZ)J"⟩
abbrev cX0_sumBehind : ByteArray := prog_2_method_18_code
def yX0_sumBehind : MethodName := ⟨RX0, "sumBehind", "(LShiftgate$Graph;II)J"⟩
def RX1 : String := "Shiftgate$Block"
def TX1 : u_T := fun k => match k with
  | 0 => ("Shiftgate$Block", "letters", "I", true)
  | _ => ("Shiftgate$Block", "gives", "[I", true)
def tyX1 : Nat → FieldType := fun k => match k with
  | 0 => .int
  | _ => .array .int
abbrev wsX10 : List Cond := u_ws RX1 TX1 2
theorem nmX1 : ∀ a, a < 2 → ∀ b, b < 2 → a ≠ b → (TX1 a).2.1 ≠ (TX1 b).2.1 := by decide +kernel
theorem tyX1_ok : ∀ k, k < 2 → parseFieldDescriptor (TX1 k).2.2.1 = some (tyX1 k) := by decide +kernel
abbrev cX1_init : ByteArray := prog_3_method_1_code
def yX1_init : MethodName := ⟨RX1, "<init>", "(I)V"⟩
abbrev cX1_hasLetter : ByteArray := prog_3_method_2_code
def yX1_hasLetter : MethodName := ⟨RX1, "hasLetter", "(I)Z"⟩
abbrev cX1_given : ByteArray := prog_3_method_3_code
def yX1_given : MethodName := ⟨RX1, "given", "(II)I"⟩
abbrev cX1_give : ByteArray := prog_3_method_4_code
def yX1_give : MethodName := ⟨RX1, "give", "(III)V"⟩
abbrev cX1_isInBounds : ByteArray := prog_3_method_5_code
def yX1_isInBounds : MethodName := ⟨RX1, "isInBounds", "()Z"⟩
def RX2 : String := "Shiftgate$Cells"
def TX2 : u_T := fun k => match k with
  | _ => ("Shiftgate$Cells", "marks", "[I", true)
def tyX2 : Nat → FieldType := fun k => match k with
  | _ => .array .int
abbrev wsX20 : List Cond := u_ws RX2 TX2 1
theorem nmX2 : ∀ a, a < 1 → ∀ b, b < 1 → a ≠ b → (TX2 a).2.1 ≠ (TX2 b).2.1 := by decide +kernel
theorem tyX2_ok : ∀ k, k < 1 → parseFieldDescriptor (TX2 k).2.2.1 = some (tyX2 k) := by decide +kernel
abbrev cX2_init : ByteArray := prog_4_method_1_code
def yX2_init : MethodName := ⟨RX2, "<init>", "()V"⟩
abbrev cX2_leastOrphan : ByteArray := prog_4_method_2_code
def yX2_leastOrphan : MethodName := ⟨RX2, "leastOrphan", "(I)I"⟩
abbrev cX2_extend : ByteArray := prog_4_method_3_code
def yX2_extend : MethodName := ⟨RX2, "extend", "(III)I"⟩
abbrev cX2_step : ByteArray := prog_4_method_4_code
def yX2_step : MethodName := ⟨RX2, "step", "(III)I"⟩
abbrev cX2_isInjective : ByteArray := prog_4_method_5_code
def yX2_isInjective : MethodName := ⟨RX2, "isInjective", "(II)Z"⟩
abbrev cX2_findRingPeriod : ByteArray := prog_4_method_6_code
def yX2_findRingPeriod : MethodName := ⟨RX2, "findRingPeriod", "(III)I"⟩
def RX3 : String := "Shiftgate$Graph"
def TX3 : u_T := fun k => match k with
  | 0 => ("Shiftgate$Graph", "states", "I", true)
  | 1 => ("Shiftgate$Graph", "letters", "I", true)
  | _ => ("Shiftgate$Graph", "edges", "[I", true)
def tyX3 : Nat → FieldType := fun k => match k with
  | 0 => .int
  | 1 => .int
  | _ => .array .int
abbrev wsX30 : List Cond := u_ws RX3 TX3 3
theorem nmX3 : ∀ a, a < 3 → ∀ b, b < 3 → a ≠ b → (TX3 a).2.1 ≠ (TX3 b).2.1 := by decide +kernel
theorem tyX3_ok : ∀ k, k < 3 → parseFieldDescriptor (TX3 k).2.2.1 = some (tyX3 k) := by decide +kernel
abbrev cX3_init : ByteArray := prog_5_method_1_code
def yX3_init : MethodName := ⟨RX3, "<init>", "(II)V"⟩
abbrev cX3_hasState : ByteArray := prog_5_method_2_code
def yX3_hasState : MethodName := ⟨RX3, "hasState", "(I)Z"⟩
abbrev cX3_hasLetter : ByteArray := prog_5_method_3_code
def yX3_hasLetter : MethodName := ⟨RX3, "hasLetter", "(I)Z"⟩
abbrev cX3_isInBounds : ByteArray := prog_5_method_4_code
def yX3_isInBounds : MethodName := ⟨RX3, "isInBounds", "()Z"⟩
abbrev cX3_targets : ByteArray := prog_5_method_5_code
def yX3_targets : MethodName := ⟨RX3, "targets", "(II)I"⟩
abbrev cX3_tell : ByteArray := prog_5_method_6_code
def yX3_tell : MethodName := ⟨RX3, "tell", "(IIIZ)V"⟩
abbrev cX3_countEdges : ByteArray := prog_5_method_7_code
def yX3_countEdges : MethodName := ⟨RX3, "countEdges", "()I"⟩
abbrev cX3_allTargets : ByteArray := prog_5_method_8_code
def yX3_allTargets : MethodName := ⟨RX3, "allTargets", "(I)I"⟩
abbrev cX3_read : ByteArray := prog_5_method_9_code
def yX3_read : MethodName := ⟨RX3, "read", "(II)I"⟩
abbrev cX3_liveSet : ByteArray := prog_5_method_10_code
def yX3_liveSet : MethodName := ⟨RX3, "liveSet", "()I"⟩
abbrev cX3_entered : ByteArray := prog_5_method_11_code
def yX3_entered : MethodName := ⟨RX3, "entered", "(I)I"⟩
abbrev cX3_leaving : ByteArray := prog_5_method_12_code
def yX3_leaving : MethodName := ⟨RX3, "leaving", "(I)I"⟩
abbrev cX3_isDeterministic : ByteArray := prog_5_method_13_code
def yX3_isDeterministic : MethodName := ⟨RX3, "isDeterministic", "()Z"⟩
def RX4 : String := "Shiftgate$Lines"
def TX4 : u_T := fun k => match k with
  | _ => ("", "", "", false)
def tyX4 : Nat → FieldType := fun k => match k with
  | _ => .int
abbrev wsX40 : List Cond := u_ws RX4 TX4 0
theorem nmX4 : ∀ a, a < 0 → ∀ b, b < 0 → a ≠ b → (TX4 a).2.1 ≠ (TX4 b).2.1 := by decide +kernel
theorem tyX4_ok : ∀ k, k < 0 → parseFieldDescriptor (TX4 k).2.2.1 = some (tyX4 k) := by decide +kernel
abbrev cX4_isRow : ByteArray := prog_6_method_2_code
def yX4_isRow : MethodName := ⟨RX4, "isRow", "(LShiftgate$Tape;II)Z"⟩
abbrev cX4_order : ByteArray := prog_6_method_3_code
def yX4_order : MethodName := ⟨RX4, "order", "(LShiftgate$Tape;IIII)I"⟩
abbrev cX4_isTop : ByteArray := prog_6_method_4_code
def yX4_isTop : MethodName := ⟨RX4, "isTop", "(LShiftgate$Tape;)Z"⟩
abbrev cX4_isAheadOrLevel : ByteArray := prog_6_method_5_code
def yX4_isAheadOrLevel : MethodName := ⟨RX4, "isAheadOrLevel", "(II)Z"⟩
def RX5 : String := "Shiftgate$Maker"
def TX5 : u_T := fun k => match k with
  | _ => ("", "", "", false)
def tyX5 : Nat → FieldType := fun k => match k with
  | _ => .int
abbrev wsX50 : List Cond := u_ws RX5 TX5 0
theorem nmX5 : ∀ a, a < 0 → ∀ b, b < 0 → a ≠ b → (TX5 a).2.1 ≠ (TX5 b).2.1 := by decide +kernel
theorem tyX5_ok : ∀ k, k < 0 → parseFieldDescriptor (TX5 k).2.2.1 = some (tyX5 k) := by decide +kernel
abbrev cX5_byForbidden : ByteArray := prog_7_method_2_code
def yX5_byForbidden : MethodName := ⟨RX5, "byForbidden", "(LShiftgate$Tape;I)LShiftgate$Graph;"⟩
abbrev cX5_byGaps : ByteArray := prog_7_method_3_code
def yX5_byGaps : MethodName := ⟨RX5, "byGaps", "(I)LShiftgate$Graph;"⟩
abbrev cX5_arrivals : ByteArray := prog_7_method_4_code
def yX5_arrivals : MethodName := ⟨RX5, "arrivals", "(LShiftgate$Graph;II)I"⟩
abbrev cX5_countPairs : ByteArray := prog_7_method_5_code
def yX5_countPairs : MethodName := ⟨RX5, "countPairs", "(LShiftgate$Graph;I)I"⟩
abbrev cX5_numberPairs : ByteArray := prog_7_method_6_code
def yX5_numberPairs : MethodName := ⟨RX5, "numberPairs", "(LShiftgate$Graph;I)[I"⟩
abbrev cX5_byImage : ByteArray := prog_7_method_7_code
def yX5_byImage : MethodName := ⟨RX5, "byImage", "(LShiftgate$Block;LShiftgate$Graph;)LShiftgate$Graph;"⟩
abbrev cX5_numberOf : ByteArray := prog_7_method_8_code
def yX5_numberOf : MethodName := ⟨RX5, "numberOf", "([III)I"⟩
abbrev cX5_drawTo : ByteArray := prog_7_method_9_code
def yX5_drawTo : MethodName := ⟨RX5, "drawTo", "(LShiftgate$Graph;[IIIII)V"⟩
def RX6 : String := "Shiftgate$Reader"
def TX6 : u_T := fun k => match k with
  | 0 => ("Shiftgate$Reader", "knownSet", "[I", true)
  | 1 => ("Shiftgate$Reader", "knownLeft", "[I", true)
  | 2 => ("Shiftgate$Reader", "knownCount", "[I", true)
  | 3 => ("Shiftgate$Reader", "row", "[I", true)
  | 4 => ("Shiftgate$Reader", "sets", "[I", true)
  | 5 => ("Shiftgate$Reader", "moves", "[I", true)
  | 6 => ("Shiftgate$Reader", "kinds", "[I", true)
  | 7 => ("Shiftgate$Reader", "finer", "[I", true)
  | 8 => ("Shiftgate$Reader", "firsts", "[I", true)
  | 9 => ("Shiftgate$Reader", "seconds", "[I", true)
  | _ => ("Shiftgate$Reader", "marks", "[I", true)
def tyX6 : Nat → FieldType := fun k => match k with
  | 0 => .array .int
  | 1 => .array .int
  | 2 => .array .int
  | 3 => .array .int
  | 4 => .array .int
  | 5 => .array .int
  | 6 => .array .int
  | 7 => .array .int
  | 8 => .array .int
  | 9 => .array .int
  | _ => .array .int
abbrev wsX60 : List Cond := u_ws RX6 TX6 11
theorem nmX6 : ∀ a, a < 11 → ∀ b, b < 11 → a ≠ b → (TX6 a).2.1 ≠ (TX6 b).2.1 := by decide +kernel
theorem tyX6_ok : ∀ k, k < 11 → parseFieldDescriptor (TX6 k).2.2.1 = some (tyX6 k) := by decide +kernel
abbrev cX6_init : ByteArray := prog_8_method_1_code
def yX6_init : MethodName := ⟨RX6, "<init>", "()V"⟩
abbrev cX6_canRead : ByteArray := prog_8_method_2_code
def yX6_canRead : MethodName := ⟨RX6, "canRead", "(LShiftgate$Graph;LShiftgate$Tape;)Z"⟩
abbrev cX6_countWords : ByteArray := prog_8_method_3_code
def yX6_countWords : MethodName := ⟨RX6, "countWords", "(LShiftgate$Graph;I)I"⟩
abbrev cX6_countOn : ByteArray := prog_8_method_4_code
def yX6_countOn : MethodName := ⟨RX6, "countOn", "(LShiftgate$Reader;LShiftgate$Graph;III)I"⟩
abbrev cX6_slotOf : ByteArray := prog_8_method_5_code
def yX6_slotOf : MethodName := ⟨RX6, "slotOf", "(II)I"⟩
abbrev cX6_recall : ByteArray := prog_8_method_6_code
def yX6_recall : MethodName := ⟨RX6, "recall", "(III)I"⟩
abbrev cX6_keep : ByteArray := prog_8_method_7_code
def yX6_keep : MethodName := ⟨RX6, "keep", "(IIII)V"⟩
abbrev cX6_countPoints : ByteArray := prog_8_method_8_code
def yX6_countPoints : MethodName := ⟨RX6, "countPoints", "(LShiftgate$Graph;I)I"⟩
abbrev cX6_isAdvanced : ByteArray := prog_8_method_9_code
def yX6_isAdvanced : MethodName := ⟨RX6, "isAdvanced", "(II)Z"⟩
abbrev cX6_isPoint : ByteArray := prog_8_method_10_code
def yX6_isPoint : MethodName := ⟨RX6, "isPoint", "(LShiftgate$Graph;II)Z"⟩
abbrev cX6_readRow : ByteArray := prog_8_method_11_code
def yX6_readRow : MethodName := ⟨RX6, "readRow", "(LShiftgate$Graph;III)I"⟩
abbrev cX6_keepsUnlike : ByteArray := prog_8_method_12_code
def yX6_keepsUnlike : MethodName := ⟨RX6, "keepsUnlike", "(LShiftgate$Block;LShiftgate$Graph;I)Z"⟩
abbrev cX6_codedRow : ByteArray := prog_8_method_13_code
def yX6_codedRow : MethodName := ⟨RX6, "codedRow", "(LShiftgate$Block;I)I"⟩
abbrev cX6_rowAt : ByteArray := prog_8_method_14_code
def yX6_rowAt : MethodName := ⟨RX6, "rowAt", "(I)I"⟩
abbrev cX6_countFutures : ByteArray := prog_8_method_15_code
def yX6_countFutures : MethodName := ⟨RX6, "countFutures", "(LShiftgate$Graph;)I"⟩
abbrev cX6_collectSets : ByteArray := prog_8_method_16_code
def yX6_collectSets : MethodName := ⟨RX6, "collectSets", "(LShiftgate$Graph;)I"⟩
abbrev cX6_keepSet : ByteArray := prog_8_method_17_code
def yX6_keepSet : MethodName := ⟨RX6, "keepSet", "(II)V"⟩
abbrev cX6_placeOfSet : ByteArray := prog_8_method_18_code
def yX6_placeOfSet : MethodName := ⟨RX6, "placeOfSet", "(II)I"⟩
abbrev cX6_noteMove : ByteArray := prog_8_method_19_code
def yX6_noteMove : MethodName := ⟨RX6, "noteMove", "(III)V"⟩
abbrev cX6_refine : ByteArray := prog_8_method_20_code
def yX6_refine : MethodName := ⟨RX6, "refine", "(II)I"⟩
abbrev cX6_firstLike : ByteArray := prog_8_method_21_code
def yX6_firstLike : MethodName := ⟨RX6, "firstLike", "(II)I"⟩
abbrev cX6_kindOf : ByteArray := prog_8_method_22_code
def yX6_kindOf : MethodName := ⟨RX6, "kindOf", "(I)I"⟩
abbrev cX6_kindBehind : ByteArray := prog_8_method_23_code
def yX6_kindBehind : MethodName := ⟨RX6, "kindBehind", "(II)I"⟩
abbrev cX6_match : ByteArray := prog_8_method_24_code
def yX6_match : MethodName := ⟨RX6, "match", "(LShiftgate$Graph;LShiftgate$Graph;)I"⟩
abbrev cX6_keepPair : ByteArray := prog_8_method_25_code
def yX6_keepPair : MethodName := ⟨RX6, "keepPair", "(III)V"⟩
abbrev cX6_isUnlike : ByteArray := prog_8_method_26_code
def yX6_isUnlike : MethodName := ⟨RX6, "isUnlike", "(II)Z"⟩
abbrev cX6_isMet : ByteArray := prog_8_method_27_code
def yX6_isMet : MethodName := ⟨RX6, "isMet", "(III)Z"⟩
def RX7 : String := "Shiftgate$Replacer"
def TX7 : u_T := fun k => match k with
  | 0 => ("Shiftgate$Replacer", "lengths", "[I", true)
  | 1 => ("Shiftgate$Replacer", "letters", "[I", true)
  | 2 => ("Shiftgate$Replacer", "row", "[I", true)
  | _ => ("Shiftgate$Replacer", "spare", "[I", true)
def tyX7 : Nat → FieldType := fun k => match k with
  | 0 => .array .int
  | 1 => .array .int
  | 2 => .array .int
  | _ => .array .int
abbrev wsX70 : List Cond := u_ws RX7 TX7 4
theorem nmX7 : ∀ a, a < 4 → ∀ b, b < 4 → a ≠ b → (TX7 a).2.1 ≠ (TX7 b).2.1 := by decide +kernel
theorem tyX7_ok : ∀ k, k < 4 → parseFieldDescriptor (TX7 k).2.2.1 = some (tyX7 k) := by decide +kernel
abbrev cX7_init : ByteArray := prog_9_method_1_code
def yX7_init : MethodName := ⟨RX7, "<init>", "()V"⟩
abbrev cX7_lengthOf : ByteArray := prog_9_method_2_code
def yX7_lengthOf : MethodName := ⟨RX7, "lengthOf", "(I)I"⟩
abbrev cX7_learn : ByteArray := prog_9_method_3_code
def yX7_learn : MethodName := ⟨RX7, "learn", "(ILShiftgate$Tape;)V"⟩
abbrev cX7_grow : ByteArray := prog_9_method_4_code
def yX7_grow : MethodName := ⟨RX7, "grow", "()I"⟩
abbrev cX7_replace : ByteArray := prog_9_method_5_code
def yX7_replace : MethodName := ⟨RX7, "replace", "(II)I"⟩
abbrev cX7_countUnlike : ByteArray := prog_9_method_6_code
def yX7_countUnlike : MethodName := ⟨RX7, "countUnlike", "(I)I"⟩
abbrev cX7_wordAt : ByteArray := prog_9_method_7_code
def yX7_wordAt : MethodName := ⟨RX7, "wordAt", "(II)I"⟩
abbrev cX7_isFound : ByteArray := prog_9_method_8_code
def yX7_isFound : MethodName := ⟨RX7, "isFound", "(II)Z"⟩
def RX8 : String := "Shiftgate$Table"
def TX8 : u_T := fun k => match k with
  | 0 => ("Shiftgate$Table", "rows", "I", false)
  | 1 => ("Shiftgate$Table", "columns", "I", false)
  | _ => ("Shiftgate$Table", "numbers", "[J", true)
def tyX8 : Nat → FieldType := fun k => match k with
  | 0 => .int
  | 1 => .int
  | _ => .array .long
abbrev wsX80 : List Cond := u_ws RX8 TX8 3
theorem nmX8 : ∀ a, a < 3 → ∀ b, b < 3 → a ≠ b → (TX8 a).2.1 ≠ (TX8 b).2.1 := by decide +kernel
theorem tyX8_ok : ∀ k, k < 3 → parseFieldDescriptor (TX8 k).2.2.1 = some (tyX8 k) := by decide +kernel
abbrev cX8_init : ByteArray := prog_10_method_1_code
def yX8_init : MethodName := ⟨RX8, "<init>", "()V"⟩
abbrev cX8_hasShape : ByteArray := prog_10_method_2_code
def yX8_hasShape : MethodName := ⟨RX8, "hasShape", "(II)Z"⟩
abbrev cX8_reshape : ByteArray := prog_10_method_3_code
def yX8_reshape : MethodName := ⟨RX8, "reshape", "(II)V"⟩
abbrev cX8_placeOf : ByteArray := prog_10_method_4_code
def yX8_placeOf : MethodName := ⟨RX8, "placeOf", "(II)I"⟩
abbrev cX8_at : ByteArray := prog_10_method_5_code
def yX8_at : MethodName := ⟨RX8, "at", "(II)J"⟩
abbrev cX8_write : ByteArray := prog_10_method_6_code
def yX8_write : MethodName := ⟨RX8, "write", "(IIJ)V"⟩
abbrev cX8_isInBounds : ByteArray := prog_10_method_7_code
def yX8_isInBounds : MethodName := ⟨RX8, "isInBounds", "()Z"⟩
abbrev cX8_isSameAs : ByteArray := prog_10_method_8_code
def yX8_isSameAs : MethodName := ⟨RX8, "isSameAs", "(LShiftgate$Table;)Z"⟩
abbrev cX8_diagonalSum : ByteArray := prog_10_method_9_code
def yX8_diagonalSum : MethodName := ⟨RX8, "diagonalSum", "()J"⟩
abbrev cX8_copyFrom : ByteArray := prog_10_method_10_code
def yX8_copyFrom : MethodName := ⟨RX8, "copyFrom", "(LShiftgate$Table;)V"⟩
abbrev cX8_multiply : ByteArray := prog_10_method_11_code
def yX8_multiply : MethodName := ⟨RX8, "multiply", "(LShiftgate$Table;LShiftgate$Table;)V"⟩
abbrev cX8_splitAt : ByteArray := prog_10_method_12_code
def yX8_splitAt : MethodName := ⟨RX8, "splitAt", "(IIJ)V"⟩
def RX9 : String := "Shiftgate$Tape"
def TX9 : u_T := fun k => match k with
  | 0 => ("Shiftgate$Tape", "signs", "[C", true)
  | _ => ("Shiftgate$Tape", "size", "I", false)
def tyX9 : Nat → FieldType := fun k => match k with
  | 0 => .array .char
  | _ => .int
abbrev wsX90 : List Cond := u_ws RX9 TX9 2
theorem nmX9 : ∀ a, a < 2 → ∀ b, b < 2 → a ≠ b → (TX9 a).2.1 ≠ (TX9 b).2.1 := by decide +kernel
theorem tyX9_ok : ∀ k, k < 2 → parseFieldDescriptor (TX9 k).2.2.1 = some (tyX9 k) := by decide +kernel
abbrev cX9_init : ByteArray := prog_11_method_1_code
def yX9_init : MethodName := ⟨RX9, "<init>", "()V"⟩
abbrev cX9_isSign : ByteArray := prog_11_method_2_code
def yX9_isSign : MethodName := ⟨RX9, "isSign", "(C)Z"⟩
abbrev cX9_letterOf : ByteArray := prog_11_method_3_code
def yX9_letterOf : MethodName := ⟨RX9, "letterOf", "(C)I"⟩
abbrev cX9_signOf : ByteArray := prog_11_method_4_code
def yX9_signOf : MethodName := ⟨RX9, "signOf", "(I)C"⟩
abbrev cX9_at : ByteArray := prog_11_method_5_code
def yX9_at : MethodName := ⟨RX9, "at", "(I)C"⟩
abbrev cX9_letterAt : ByteArray := prog_11_method_6_code
def yX9_letterAt : MethodName := ⟨RX9, "letterAt", "(I)I"⟩
abbrev cX9_append : ByteArray := prog_11_method_7_code
def yX9_append : MethodName := ⟨RX9, "append", "(C)V"⟩
abbrev cX9_empty : ByteArray := prog_11_method_8_code
def yX9_empty : MethodName := ⟨RX9, "empty", "()V"⟩
abbrev cX9_isInBounds : ByteArray := prog_11_method_9_code
def yX9_isInBounds : MethodName := ⟨RX9, "isInBounds", "()Z"⟩
abbrev cX9_hasOnlyLetters : ByteArray := prog_11_method_10_code
def yX9_hasOnlyLetters : MethodName := ⟨RX9, "hasOnlyLetters", "(I)Z"⟩
abbrev cX9_firstComma : ByteArray := prog_11_method_11_code
def yX9_firstComma : MethodName := ⟨RX9, "firstComma", "()I"⟩
abbrev cX9_endsWord : ByteArray := prog_11_method_12_code
def yX9_endsWord : MethodName := ⟨RX9, "endsWord", "(I)Z"⟩
abbrev cX9_isForbidden : ByteArray := prog_11_method_13_code
def yX9_isForbidden : MethodName := ⟨RX9, "isForbidden", "(I)Z"⟩
abbrev cX9_bars : ByteArray := prog_11_method_14_code
def yX9_bars : MethodName := ⟨RX9, "bars", "(III)Z"⟩
abbrev cX9_standsIn : ByteArray := prog_11_method_15_code
def yX9_standsIn : MethodName := ⟨RX9, "standsIn", "(IIIII)Z"⟩
abbrev cX9_slideBy : ByteArray := prog_11_method_16_code
def yX9_slideBy : MethodName := ⟨RX9, "slideBy", "(LShiftgate$Block;)V"⟩
def RX10 : String := "Shiftgate$Ways"
def TX10 : u_T := fun k => match k with
  | 0 => ("Shiftgate$Ways", "reach", "[I", true)
  | _ => ("Shiftgate$Ways", "levels", "[I", true)
def tyX10 : Nat → FieldType := fun k => match k with
  | 0 => .array .int
  | _ => .array .int
abbrev wsX100 : List Cond := u_ws RX10 TX10 2
theorem nmX10 : ∀ a, a < 2 → ∀ b, b < 2 → a ≠ b → (TX10 a).2.1 ≠ (TX10 b).2.1 := by decide +kernel
theorem tyX10_ok : ∀ k, k < 2 → parseFieldDescriptor (TX10 k).2.2.1 = some (tyX10 k) := by decide +kernel
abbrev cX10_init : ByteArray := prog_12_method_1_code
def yX10_init : MethodName := ⟨RX10, "<init>", "()V"⟩
abbrev cX10_follow : ByteArray := prog_12_method_2_code
def yX10_follow : MethodName := ⟨RX10, "follow", "(LShiftgate$Graph;)V"⟩
abbrev cX10_partOf : ByteArray := prog_12_method_3_code
def yX10_partOf : MethodName := ⟨RX10, "partOf", "(I)I"⟩
abbrev cX10_reachOf : ByteArray := prog_12_method_4_code
def yX10_reachOf : MethodName := ⟨RX10, "reachOf", "(I)I"⟩
abbrev cX10_countParts : ByteArray := prog_12_method_5_code
def yX10_countParts : MethodName := ⟨RX10, "countParts", "(LShiftgate$Graph;)I"⟩
abbrev cX10_isOnePart : ByteArray := prog_12_method_6_code
def yX10_isOnePart : MethodName := ⟨RX10, "isOnePart", "(LShiftgate$Graph;)Z"⟩
abbrev cX10_findPeriod : ByteArray := prog_12_method_7_code
def yX10_findPeriod : MethodName := ⟨RX10, "findPeriod", "(LShiftgate$Graph;I)I"⟩
abbrev cX10_measure : ByteArray := prog_12_method_8_code
def yX10_measure : MethodName := ⟨RX10, "measure", "(LShiftgate$Graph;II)V"⟩
def RX11 : String := "Shiftgate"
def TX11 : u_T := fun k => match k with
  | 0 => ("Shiftgate", "tape", "LShiftgate$Tape;", true)
  | 1 => ("Shiftgate", "shifts", "[LShiftgate$Graph;", true)
  | 2 => ("Shiftgate", "shiftCount", "I", false)
  | 3 => ("Shiftgate", "codes", "[LShiftgate$Block;", true)
  | 4 => ("Shiftgate", "codeCount", "I", false)
  | 5 => ("Shiftgate", "matrices", "[LShiftgate$Table;", true)
  | 6 => ("Shiftgate", "matrixCount", "I", false)
  | 7 => ("Shiftgate", "reader", "LShiftgate$Reader;", true)
  | 8 => ("Shiftgate", "ways", "LShiftgate$Ways;", true)
  | 9 => ("Shiftgate", "algebra", "LShiftgate$Algebra;", true)
  | 10 => ("Shiftgate", "cells", "LShiftgate$Cells;", true)
  | _ => ("Shiftgate", "replacer", "LShiftgate$Replacer;", true)
def tyX11 : Nat → FieldType := fun k => match k with
  | 0 => .object "Shiftgate$Tape"
  | 1 => .array (.object "Shiftgate$Graph")
  | 2 => .int
  | 3 => .array (.object "Shiftgate$Block")
  | 4 => .int
  | 5 => .array (.object "Shiftgate$Table")
  | 6 => .int
  | 7 => .object "Shiftgate$Reader"
  | 8 => .object "Shiftgate$Ways"
  | 9 => .object "Shiftgate$Algebra"
  | 10 => .object "Shiftgate$Cells"
  | _ => .object "Shiftgate$Replacer"
abbrev wsX110 : List Cond := u_ws RX11 TX11 12
theorem nmX11 : ∀ a, a < 12 → ∀ b, b < 12 → a ≠ b → (TX11 a).2.1 ≠ (TX11 b).2.1 := by decide +kernel
theorem tyX11_ok : ∀ k, k < 12 → parseFieldDescriptor (TX11 k).2.2.1 = some (tyX11 k) := by decide +kernel
abbrev cX11_init : ByteArray := prog_1_method_1_code
def yX11_init : MethodName := ⟨RX11, "<init>", "()V"⟩
abbrev cX11_type : ByteArray := prog_1_method_2_code
def yX11_type : MethodName := ⟨RX11, "type", "(C)I"⟩
abbrev cX11_clear : ByteArray := prog_1_method_3_code
def yX11_clear : MethodName := ⟨RX11, "clear", "()I"⟩
abbrev cX11_shift : ByteArray := prog_1_method_4_code
def yX11_shift : MethodName := ⟨RX11, "shift", "(II)I"⟩
abbrev cX11_edge : ByteArray := prog_1_method_5_code
def yX11_edge : MethodName := ⟨RX11, "edge", "(IICIZ)Z"⟩
abbrev cX11_forbid : ByteArray := prog_1_method_6_code
def yX11_forbid : MethodName := ⟨RX11, "forbid", "(I)I"⟩
abbrev cX11_gaps : ByteArray := prog_1_method_7_code
def yX11_gaps : MethodName := ⟨RX11, "gaps", "(I)I"⟩
abbrev cX11_states : ByteArray := prog_1_method_8_code
def yX11_states : MethodName := ⟨RX11, "states", "(I)I"⟩
abbrev cX11_words : ByteArray := prog_1_method_9_code
def yX11_words : MethodName := ⟨RX11, "words", "(II)I"⟩
abbrev cX11_isWord : ByteArray := prog_1_method_10_code
def yX11_isWord : MethodName := ⟨RX11, "isWord", "(I)Z"⟩
abbrev cX11_points : ByteArray := prog_1_method_11_code
def yX11_points : MethodName := ⟨RX11, "points", "(II)I"⟩
abbrev cX11_parts : ByteArray := prog_1_method_12_code
def yX11_parts : MethodName := ⟨RX11, "parts", "(I)I"⟩
abbrev cX11_period : ByteArray := prog_1_method_13_code
def yX11_period : MethodName := ⟨RX11, "period", "(II)I"⟩
abbrev cX11_isIrreducible : ByteArray := prog_1_method_14_code
def yX11_isIrreducible : MethodName := ⟨RX11, "isIrreducible", "(I)Z"⟩
abbrev cX11_isRight : ByteArray := prog_1_method_15_code
def yX11_isRight : MethodName := ⟨RX11, "isRight", "(I)Z"⟩
abbrev cX11_futures : ByteArray := prog_1_method_16_code
def yX11_futures : MethodName := ⟨RX11, "futures", "(I)I"⟩
abbrev cX11_areSame : ByteArray := prog_1_method_17_code
def yX11_areSame : MethodName := ⟨RX11, "areSame", "(II)Z"⟩
abbrev cX11_series : ByteArray := prog_1_method_18_code
def yX11_series : MethodName := ⟨RX11, "series", "(II)J"⟩
abbrev cX11_growth : ByteArray := prog_1_method_19_code
def yX11_growth : MethodName := ⟨RX11, "growth", "(IIZ)J"⟩
abbrev cX11_code : ByteArray := prog_1_method_20_code
def yX11_code : MethodName := ⟨RX11, "code", "(I)I"⟩
abbrev cX11_set : ByteArray := prog_1_method_21_code
def yX11_set : MethodName := ⟨RX11, "set", "(ICCC)C"⟩
abbrev cX11_slide : ByteArray := prog_1_method_22_code
def yX11_slide : MethodName := ⟨RX11, "slide", "(I)I"⟩
abbrev cX11_signAt : ByteArray := prog_1_method_23_code
def yX11_signAt : MethodName := ⟨RX11, "signAt", "(I)C"⟩
abbrev cX11_image : ByteArray := prog_1_method_24_code
def yX11_image : MethodName := ⟨RX11, "image", "(II)I"⟩
abbrev cX11_isOneToOne : ByteArray := prog_1_method_25_code
def yX11_isOneToOne : MethodName := ⟨RX11, "isOneToOne", "(III)Z"⟩
abbrev cX11_matrix : ByteArray := prog_1_method_26_code
def yX11_matrix : MethodName := ⟨RX11, "matrix", "(II)I"⟩
abbrev cX11_put : ByteArray := prog_1_method_27_code
def yX11_put : MethodName := ⟨RX11, "put", "(IIII)I"⟩
abbrev cX11_get : ByteArray := prog_1_method_28_code
def yX11_get : MethodName := ⟨RX11, "get", "(III)I"⟩
abbrev cX11_split : ByteArray := prog_1_method_29_code
def yX11_split : MethodName := ⟨RX11, "split", "(IIII)I"⟩
abbrev cX11_areLike : ByteArray := prog_1_method_30_code
def yX11_areLike : MethodName := ⟨RX11, "areLike", "(IIIII)Z"⟩
abbrev cX11_group : ByteArray := prog_1_method_31_code
def yX11_group : MethodName := ⟨RX11, "group", "(II)J"⟩
abbrev cX11_zeta : ByteArray := prog_1_method_32_code
def yX11_zeta : MethodName := ⟨RX11, "zeta", "(II)J"⟩
abbrev cX11_trace : ByteArray := prog_1_method_33_code
def yX11_trace : MethodName := ⟨RX11, "trace", "(II)J"⟩
abbrev cX11_compare : ByteArray := prog_1_method_34_code
def yX11_compare : MethodName := ⟨RX11, "compare", "()I"⟩
abbrev cX11_isGreatest : ByteArray := prog_1_method_35_code
def yX11_isGreatest : MethodName := ⟨RX11, "isGreatest", "()Z"⟩
abbrev cX11_forces : ByteArray := prog_1_method_36_code
def yX11_forces : MethodName := ⟨RX11, "forces", "(II)Z"⟩
abbrev cX11_isOnto : ByteArray := prog_1_method_37_code
def yX11_isOnto : MethodName := ⟨RX11, "isOnto", "(I)Z"⟩
abbrev cX11_orphan : ByteArray := prog_1_method_38_code
def yX11_orphan : MethodName := ⟨RX11, "orphan", "(I)I"⟩
abbrev cX11_isOneToOneOn : ByteArray := prog_1_method_39_code
def yX11_isOneToOneOn : MethodName := ⟨RX11, "isOneToOneOn", "(II)Z"⟩
abbrev cX11_ringPeriod : ByteArray := prog_1_method_40_code
def yX11_ringPeriod : MethodName := ⟨RX11, "ringPeriod", "(III)I"⟩
abbrev cX11_becomes : ByteArray := prog_1_method_41_code
def yX11_becomes : MethodName := ⟨RX11, "becomes", "(C)I"⟩
abbrev cX11_complexity : ByteArray := prog_1_method_42_code
def yX11_complexity : MethodName := ⟨RX11, "complexity", "(I)I"⟩
abbrev cX11_checksum : ByteArray := prog_1_method_43_code
def yX11_checksum : MethodName := ⟨RX11, "checksum", "()J"⟩
abbrev cX11_isSound : ByteArray := prog_1_method_46_code
def yX11_isSound : MethodName := ⟨RX11, "isSound", "()Z"⟩
abbrev cX11_shiftAt : ByteArray := prog_1_method_47_code
def yX11_shiftAt : MethodName := ⟨RX11, "shiftAt", "(I)LShiftgate$Graph;"⟩
abbrev cX11_shiftOrNull : ByteArray := prog_1_method_48_code
def yX11_shiftOrNull : MethodName := ⟨RX11, "shiftOrNull", "(I)LShiftgate$Graph;"⟩
abbrev cX11_codeAt : ByteArray := prog_1_method_49_code
def yX11_codeAt : MethodName := ⟨RX11, "codeAt", "(I)LShiftgate$Block;"⟩
abbrev cX11_matrixAt : ByteArray := prog_1_method_50_code
def yX11_matrixAt : MethodName := ⟨RX11, "matrixAt", "(I)LShiftgate$Table;"⟩
abbrev cX11_demandRoomForShift : ByteArray := prog_1_method_51_code
def yX11_demandRoomForShift : MethodName := ⟨RX11, "demandRoomForShift", "()V"⟩
abbrev cX11_addShift : ByteArray := prog_1_method_52_code
def yX11_addShift : MethodName := ⟨RX11, "addShift", "(LShiftgate$Graph;)I"⟩
abbrev cX11_demandRange : ByteArray := prog_1_method_53_code
def yX11_demandRange : MethodName := ⟨RX11, "demandRange", "(III)V"⟩
abbrev cX11_demandCell : ByteArray := prog_1_method_54_code
def yX11_demandCell : MethodName := ⟨RX11, "demandCell", "(LShiftgate$Table;II)V"⟩
abbrev cX11_demandSquare : ByteArray := prog_1_method_55_code
def yX11_demandSquare : MethodName := ⟨RX11, "demandSquare", "(LShiftgate$Table;)V"⟩
abbrev cX11_hasBit : ByteArray := prog_1_method_56_code
def yX11_hasBit : MethodName := ⟨RX11, "hasBit", "(II)Z"⟩
def RX12 : String := "ShiftgateModel$Graph"
def TX12 : u_T := fun k => match k with
  | _ => ("", "", "", false)
def tyX12 : Nat → FieldType := fun k => match k with
  | _ => .int
abbrev wsX120 : List Cond := u_ws RX12 TX12 0
theorem nmX12 : ∀ a, a < 0 → ∀ b, b < 0 → a ≠ b → (TX12 a).2.1 ≠ (TX12 b).2.1 := by decide +kernel
theorem tyX12_ok : ∀ k, k < 0 → parseFieldDescriptor (TX12 k).2.2.1 = some (tyX12 k) := by decide +kernel
def RX13 : String := "ShiftgateModel"
def TX13 : u_T := fun k => match k with
  | _ => ("", "", "", false)
def tyX13 : Nat → FieldType := fun k => match k with
  | _ => .int
abbrev wsX130 : List Cond := u_ws RX13 TX13 0
theorem nmX13 : ∀ a, a < 0 → ∀ b, b < 0 → a ≠ b → (TX13 a).2.1 ≠ (TX13 b).2.1 := by decide +kernel
theorem tyX13_ok : ∀ k, k < 0 → parseFieldDescriptor (TX13 k).2.2.1 = some (tyX13 k) := by decide +kernel
def RJx145de : String := "java/io/Serializable"
def TJx145de : u_T := fun k => match k with
  | _ => ("", "", "", false)
def tyJx145de : Nat → FieldType := fun k => match k with
  | _ => .int
abbrev wsJx145de0 : List Cond := u_ws RJx145de TJx145de 0
theorem nmJx145de : ∀ a, a < 0 → ∀ b, b < 0 → a ≠ b → (TJx145de a).2.1 ≠ (TJx145de b).2.1 := by decide +kernel
theorem tyJx145de_ok : ∀ k, k < 0 → parseFieldDescriptor (TJx145de k).2.2.1 = some (tyJx145de k) := by decide +kernel
def RJ5 : String := "java/lang/AbstractStringBuilder"
def TJ5 : u_T := fun k => match k with
  | _ => ("", "", "", false)
def tyJ5 : Nat → FieldType := fun k => match k with
  | _ => .int
abbrev wsJ50 : List Cond := u_ws RJ5 TJ5 0
theorem nmJ5 : ∀ a, a < 0 → ∀ b, b < 0 → a ≠ b → (TJ5 a).2.1 ≠ (TJ5 b).2.1 := by decide +kernel
theorem tyJ5_ok : ∀ k, k < 0 → parseFieldDescriptor (TJ5 k).2.2.1 = some (tyJ5 k) := by decide +kernel
abbrev cJ5_init_d00df : ByteArray := prog_17_method_2_code
def yJ5_init_d00df : MethodName := ⟨RJ5, "<init>", "(I)V"⟩
abbrev cJ5_length_8abf5 : ByteArray := prog_17_method_6_code
def yJ5_length_8abf5 : MethodName := ⟨RJ5, "length", "()I"⟩
abbrev cJ5_ensureCapacityInternal_d00df : ByteArray := prog_17_method_9_code
def yJ5_ensureCapacityInternal_d00df : MethodName := ⟨RJ5, "ensureCapacityInternal", "(I)V"⟩
abbrev cJ5_newCapacity_0f7a4 : ByteArray := prog_17_method_10_code
def yJ5_newCapacity_0f7a4 : MethodName := ⟨RJ5, "newCapacity", "(I)I"⟩
abbrev cJ5_inflate_da8c8 : ByteArray := prog_17_method_11_code
def yJ5_inflate_da8c8 : MethodName := ⟨RJ5, "inflate", "()V"⟩
abbrev cJ5_append_cf1ce : ByteArray := prog_17_method_22_code
def yJ5_append_cf1ce : MethodName := ⟨RJ5, "append", "(Ljava/lang/String;)Ljava/lang/AbstractStringBuilder;"⟩
abbrev cJ5_appendNull_278bc : ByteArray := prog_17_method_26_code
def yJ5_appendNull_278bc : MethodName := ⟨RJ5, "appendNull", "()Ljava/lang/AbstractStringBuilder;"⟩
abbrev cJ5_append_3fe6f : ByteArray := prog_17_method_31_code
def yJ5_append_3fe6f : MethodName := ⟨RJ5, "append", "(C)Ljava/lang/AbstractStringBuilder;"⟩
abbrev cJ5_append_c97b9 : ByteArray := prog_17_method_32_code
def yJ5_append_c97b9 : MethodName := ⟨RJ5, "append", "(I)Ljava/lang/AbstractStringBuilder;"⟩
abbrev cJ5_getValue_6d5f1 : ByteArray := prog_17_method_64_code
def yJ5_getValue_6d5f1 : MethodName := ⟨RJ5, "getValue", "()[B"⟩
abbrev cJ5_isLatin1_aae02 : ByteArray := prog_17_method_68_code
def yJ5_isLatin1_aae02 : MethodName := ⟨RJ5, "isLatin1", "()Z"⟩
abbrev cJ5_inflateIfNeededFor_a7421 : ByteArray := prog_17_method_71_code
def yJ5_inflateIfNeededFor_a7421 : MethodName := ⟨RJ5, "inflateIfNeededFor", "(Ljava/lang/String;)V"⟩
abbrev cJ5_putStringAt_47b60 : ByteArray := prog_17_method_73_code
def yJ5_putStringAt_47b60 : MethodName := ⟨RJ5, "putStringAt", "(ILjava/lang/String;)V"⟩
def RJx2cfe8 : String := "java/lang/Appendable"
def TJx2cfe8 : u_T := fun k => match k with
  | _ => ("", "", "", false)
def tyJx2cfe8 : Nat → FieldType := fun k => match k with
  | _ => .int
abbrev wsJx2cfe80 : List Cond := u_ws RJx2cfe8 TJx2cfe8 0
theorem nmJx2cfe8 : ∀ a, a < 0 → ∀ b, b < 0 → a ≠ b → (TJx2cfe8 a).2.1 ≠ (TJx2cfe8 b).2.1 := by decide +kernel
theorem tyJx2cfe8_ok : ∀ k, k < 0 → parseFieldDescriptor (TJx2cfe8 k).2.2.1 = some (tyJx2cfe8 k) := by decide +kernel
def RJx00060 : String := "java/lang/ArrayIndexOutOfBoundsException"
def TJx00060 : u_T := fun k => match k with
  | 0 => ("java/lang/Throwable", "backtrace", "Ljava/lang/Object;", false)
  | 1 => ("java/lang/Throwable", "detailMessage", "Ljava/lang/String;", false)
  | 2 => ("java/lang/Throwable", "cause", "Ljava/lang/Throwable;", false)
  | 3 => ("java/lang/Throwable", "stackTrace", "[Ljava/lang/StackTraceElement;", false)
  | 4 => ("java/lang/Throwable", "depth", "I", false)
  | _ => ("java/lang/Throwable", "suppressedExceptions", "Ljava/util/List;", false)
def tyJx00060 : Nat → FieldType := fun k => match k with
  | 0 => .object "java/lang/Object"
  | 1 => .object "java/lang/String"
  | 2 => .object "java/lang/Throwable"
  | 3 => .array (.object "java/lang/StackTraceElement")
  | 4 => .int
  | _ => .object "java/util/List"
abbrev wsJx000600 : List Cond := u_ws RJx00060 TJx00060 6
theorem nmJx00060 : ∀ a, a < 6 → ∀ b, b < 6 → a ≠ b → (TJx00060 a).2.1 ≠ (TJx00060 b).2.1 := by decide +kernel
theorem tyJx00060_ok : ∀ k, k < 6 → parseFieldDescriptor (TJx00060 k).2.2.1 = some (tyJx00060 k) := by decide +kernel
abbrev cJx00060_init_a7421 : ByteArray := prog_20_method_2_code
def yJx00060_init_a7421 : MethodName := ⟨RJx00060, "<init>", "(Ljava/lang/String;)V"⟩
def RJx9f9b0 : String := "java/lang/CharSequence"
def TJx9f9b0 : u_T := fun k => match k with
  | _ => ("", "", "", false)
def tyJx9f9b0 : Nat → FieldType := fun k => match k with
  | _ => .int
abbrev wsJx9f9b00 : List Cond := u_ws RJx9f9b0 TJx9f9b0 0
theorem nmJx9f9b0 : ∀ a, a < 0 → ∀ b, b < 0 → a ≠ b → (TJx9f9b0 a).2.1 ≠ (TJx9f9b0 b).2.1 := by decide +kernel
theorem tyJx9f9b0_ok : ∀ k, k < 0 → parseFieldDescriptor (TJx9f9b0 k).2.2.1 = some (tyJx9f9b0 k) := by decide +kernel
def RJx8e188 : String := "java/lang/Cloneable"
def TJx8e188 : u_T := fun k => match k with
  | _ => ("", "", "", false)
def tyJx8e188 : Nat → FieldType := fun k => match k with
  | _ => .int
abbrev wsJx8e1880 : List Cond := u_ws RJx8e188 TJx8e188 0
theorem nmJx8e188 : ∀ a, a < 0 → ∀ b, b < 0 → a ≠ b → (TJx8e188 a).2.1 ≠ (TJx8e188 b).2.1 := by decide +kernel
theorem tyJx8e188_ok : ∀ k, k < 0 → parseFieldDescriptor (TJx8e188 k).2.2.1 = some (tyJx8e188 k) := by decide +kernel
def RJxb160c : String := "java/lang/Comparable"
def TJxb160c : u_T := fun k => match k with
  | _ => ("", "", "", false)
def tyJxb160c : Nat → FieldType := fun k => match k with
  | _ => .int
abbrev wsJxb160c0 : List Cond := u_ws RJxb160c TJxb160c 0
theorem nmJxb160c : ∀ a, a < 0 → ∀ b, b < 0 → a ≠ b → (TJxb160c a).2.1 ≠ (TJxb160c b).2.1 := by decide +kernel
theorem tyJxb160c_ok : ∀ k, k < 0 → parseFieldDescriptor (TJxb160c k).2.2.1 = some (tyJxb160c k) := by decide +kernel
def RJ6 : String := "java/lang/Integer"
def TJ6 : u_T := fun k => match k with
  | _ => ("", "", "", false)
def tyJ6 : Nat → FieldType := fun k => match k with
  | _ => .int
abbrev wsJ60 : List Cond := u_ws RJ6 TJ6 0
theorem nmJ6 : ∀ a, a < 0 → ∀ b, b < 0 → a ≠ b → (TJ6 a).2.1 ≠ (TJ6 b).2.1 := by decide +kernel
theorem tyJ6_ok : ∀ k, k < 0 → parseFieldDescriptor (TJ6 k).2.2.1 = some (tyJ6 k) := by decide +kernel
abbrev cJ6_getChars_ba4f3 : ByteArray := prog_28_method_12_code
def yJ6_getChars_ba4f3 : MethodName := ⟨RJ6, "getChars", "(II[B)I"⟩
abbrev cJ6_stringSize_0f7a4 : ByteArray := prog_28_method_13_code
def yJ6_stringSize_0f7a4 : MethodName := ⟨RJ6, "stringSize", "(I)I"⟩
abbrev cJ6_bitCount_0f7a4 : ByteArray := prog_28_method_49_code
def yJ6_bitCount_0f7a4 : MethodName := ⟨RJ6, "bitCount", "(I)I"⟩
def RJ9 : String := "java/lang/Math"
def TJ9 : u_T := fun k => match k with
  | _ => ("", "", "", false)
def tyJ9 : Nat → FieldType := fun k => match k with
  | _ => .int
abbrev wsJ90 : List Cond := u_ws RJ9 TJ9 0
theorem nmJ9 : ∀ a, a < 0 → ∀ b, b < 0 → a ≠ b → (TJ9 a).2.1 ≠ (TJ9 b).2.1 := by decide +kernel
theorem tyJ9_ok : ∀ k, k < 0 → parseFieldDescriptor (TJ9 k).2.2.1 = some (tyJ9 k) := by decide +kernel
abbrev cJ9_abs_067f4 : ByteArray := prog_29_method_61_code
def yJ9_abs_067f4 : MethodName := ⟨RJ9, "abs", "(J)J"⟩
abbrev cJ9_max_7cf53 : ByteArray := prog_29_method_65_code
def yJ9_max_7cf53 : MethodName := ⟨RJ9, "max", "(II)I"⟩
abbrev cJ9_min_7cf53 : ByteArray := prog_29_method_69_code
def yJ9_min_7cf53 : MethodName := ⟨RJ9, "min", "(II)I"⟩
def RJxd2413 : String := "java/lang/Number"
def TJxd2413 : u_T := fun k => match k with
  | _ => ("", "", "", false)
def tyJxd2413 : Nat → FieldType := fun k => match k with
  | _ => .int
abbrev wsJxd24130 : List Cond := u_ws RJxd2413 TJxd2413 0
theorem nmJxd2413 : ∀ a, a < 0 → ∀ b, b < 0 → a ≠ b → (TJxd2413 a).2.1 ≠ (TJxd2413 b).2.1 := by decide +kernel
theorem tyJxd2413_ok : ∀ k, k < 0 → parseFieldDescriptor (TJxd2413 k).2.2.1 = some (tyJxd2413 k) := by decide +kernel
def RJ0 : String := "java/lang/String"
def TJ0 : u_T := fun k => match k with
  | 0 => ("java/lang/String", "value", "[B", true)
  | 1 => ("java/lang/String", "coder", "B", true)
  | 2 => ("java/lang/String", "hash", "I", false)
  | _ => ("java/lang/String", "hashIsZero", "Z", false)
def tyJ0 : Nat → FieldType := fun k => match k with
  | 0 => .array .byte
  | 1 => .byte
  | 2 => .int
  | _ => .boolean
abbrev wsJ00 : List Cond := u_ws RJ0 TJ0 4
theorem nmJ0 : ∀ a, a < 4 → ∀ b, b < 4 → a ≠ b → (TJ0 a).2.1 ≠ (TJ0 b).2.1 := by decide +kernel
theorem tyJ0_ok : ∀ k, k < 4 → parseFieldDescriptor (TJ0 k).2.2.1 = some (tyJ0 k) := by decide +kernel
abbrev cJ0_init_81219 : ByteArray := prog_32_method_53_code
def yJ0_init_81219 : MethodName := ⟨RJ0, "<init>", "(Ljava/lang/StringBuilder;)V"⟩
abbrev cJ0_length_8abf5 : ByteArray := prog_32_method_54_code
def yJ0_length_8abf5 : MethodName := ⟨RJ0, "length", "()I"⟩
abbrev cJ0_charAt_5068e : ByteArray := prog_32_method_56_code
def yJ0_charAt_5068e : MethodName := ⟨RJ0, "charAt", "(I)C"⟩
abbrev cJ0_getBytes_840e7 : ByteArray := prog_32_method_147_code
def yJ0_getBytes_840e7 : MethodName := ⟨RJ0, "getBytes", "([BIB)V"⟩
abbrev cJ0_init_db425 : ByteArray := prog_32_method_150_code
def yJ0_init_db425 : MethodName := ⟨RJ0, "<init>", "(Ljava/lang/AbstractStringBuilder;Ljava/lang/Void;)V"⟩
abbrev cJ0_coder_7d493 : ByteArray := prog_32_method_152_code
def yJ0_coder_7d493 : MethodName := ⟨RJ0, "coder", "()B"⟩
abbrev cJ0_isLatin1_aae02 : ByteArray := prog_32_method_154_code
def yJ0_isLatin1_aae02 : MethodName := ⟨RJ0, "isLatin1", "()Z"⟩
abbrev cJ0_checkIndex_df160 : ByteArray := prog_32_method_155_code
def yJ0_checkIndex_df160 : MethodName := ⟨RJ0, "checkIndex", "(II)V"⟩
abbrev cJ0_checkBoundsOffCount_cabcc : ByteArray := prog_32_method_157_code
def yJ0_checkBoundsOffCount_cabcc : MethodName := ⟨RJ0, "checkBoundsOffCount", "(III)I"⟩
abbrev cJ0_checkBoundsBeginEnd_23922 : ByteArray := prog_32_method_158_code
def yJ0_checkBoundsBeginEnd_23922 : MethodName := ⟨RJ0, "checkBoundsBeginEnd", "(III)V"⟩
def RJ4 : String := "java/lang/StringBuilder"
def TJ4 : u_T := fun k => match k with
  | 0 => ("java/lang/AbstractStringBuilder", "value", "[B", false)
  | 1 => ("java/lang/AbstractStringBuilder", "coder", "B", false)
  | 2 => ("java/lang/AbstractStringBuilder", "maybeLatin1", "Z", false)
  | _ => ("java/lang/AbstractStringBuilder", "count", "I", false)
def tyJ4 : Nat → FieldType := fun k => match k with
  | 0 => .array .byte
  | 1 => .byte
  | 2 => .boolean
  | _ => .int
abbrev wsJ40 : List Cond := u_ws RJ4 TJ4 4
theorem nmJ4 : ∀ a, a < 4 → ∀ b, b < 4 → a ≠ b → (TJ4 a).2.1 ≠ (TJ4 b).2.1 := by decide +kernel
theorem tyJ4_ok : ∀ k, k < 4 → parseFieldDescriptor (TJ4 k).2.2.1 = some (tyJ4 k) := by decide +kernel
abbrev cJ4_init_da8c8 : ByteArray := prog_33_method_1_code
def yJ4_init_da8c8 : MethodName := ⟨RJ4, "<init>", "()V"⟩
abbrev cJ4_append_15ec4 : ByteArray := prog_33_method_7_code
def yJ4_append_15ec4 : MethodName := ⟨RJ4, "append", "(Ljava/lang/String;)Ljava/lang/StringBuilder;"⟩
abbrev cJ4_append_cf468 : ByteArray := prog_33_method_14_code
def yJ4_append_cf468 : MethodName := ⟨RJ4, "append", "(C)Ljava/lang/StringBuilder;"⟩
abbrev cJ4_append_bf812 : ByteArray := prog_33_method_15_code
def yJ4_append_bf812 : MethodName := ⟨RJ4, "append", "(I)Ljava/lang/StringBuilder;"⟩
abbrev cJ4_toString_0e30d : ByteArray := prog_33_method_42_code
def yJ4_toString_0e30d : MethodName := ⟨RJ4, "toString", "()Ljava/lang/String;"⟩
abbrev cJ4_length_8abf5 : ByteArray := prog_33_method_93_code
def yJ4_length_8abf5 : MethodName := ⟨RJ4, "length", "()I"⟩
def RJ1 : String := "java/lang/StringLatin1"
def TJ1 : u_T := fun k => match k with
  | _ => ("", "", "", false)
def tyJ1 : Nat → FieldType := fun k => match k with
  | _ => .int
abbrev wsJ10 : List Cond := u_ws RJ1 TJ1 0
theorem nmJ1 : ∀ a, a < 0 → ∀ b, b < 0 → a ≠ b → (TJ1 a).2.1 ≠ (TJ1 b).2.1 := by decide +kernel
theorem tyJ1_ok : ∀ k, k < 0 → parseFieldDescriptor (TJ1 k).2.2.1 = some (tyJ1 k) := by decide +kernel
abbrev cJ1_charAt_3b067 : ByteArray := prog_34_method_2_code
def yJ1_charAt_3b067 : MethodName := ⟨RJ1, "charAt", "([BI)C"⟩
abbrev cJ1_canEncode_fc78d : ByteArray := prog_34_method_3_code
def yJ1_canEncode_fc78d : MethodName := ⟨RJ1, "canEncode", "(C)Z"⟩
abbrev cJ1_inflate_0e8fd : ByteArray := prog_34_method_50_code
def yJ1_inflate_0e8fd : MethodName := ⟨RJ1, "inflate", "([BI[BII)V"⟩
def RJ2 : String := "java/lang/StringUTF16"
def TJ2 : u_T := fun k => match k with
  | _ => ("", "", "", false)
def tyJ2 : Nat → FieldType := fun k => match k with
  | _ => .int
abbrev wsJ20 : List Cond := u_ws RJ2 TJ2 0
theorem nmJ2 : ∀ a, a < 0 → ∀ b, b < 0 → a ≠ b → (TJ2 a).2.1 ≠ (TJ2 b).2.1 := by decide +kernel
theorem tyJ2_ok : ∀ k, k < 0 → parseFieldDescriptor (TJ2 k).2.2.1 = some (tyJ2 k) := by decide +kernel
abbrev cJ2_newBytesFor_77867 : ByteArray := prog_35_method_2_code
def yJ2_newBytesFor_77867 : MethodName := ⟨RJ2, "newBytesFor", "(I)[B"⟩
abbrev cJ2_newBytesLength_0f7a4 : ByteArray := prog_35_method_3_code
def yJ2_newBytesLength_0f7a4 : MethodName := ⟨RJ2, "newBytesLength", "(I)I"⟩
abbrev cJ2_putChar_b72d1 : ByteArray := prog_35_method_4_code
def yJ2_putChar_b72d1 : MethodName := ⟨RJ2, "putChar", "([BII)V"⟩
abbrev cJ2_getChar_3b067 : ByteArray := prog_35_method_5_code
def yJ2_getChar_3b067 : MethodName := ⟨RJ2, "getChar", "([BI)C"⟩
abbrev cJ2_length_9d52b : ByteArray := prog_35_method_6_code
def yJ2_length_9d52b : MethodName := ⟨RJ2, "length", "([B)I"⟩
abbrev cJ2_coderFromArrayLen_85cad : ByteArray := prog_35_method_15_code
def yJ2_coderFromArrayLen_85cad : MethodName := ⟨RJ2, "coderFromArrayLen", "([BI)B"⟩
abbrev cJ2_compress_39247 : ByteArray := prog_35_method_17_code
def yJ2_compress_39247 : MethodName := ⟨RJ2, "compress", "([BII)[B"⟩
abbrev cJ2_compress_5af95 : ByteArray := prog_35_method_22_code
def yJ2_compress_5af95 : MethodName := ⟨RJ2, "compress", "([BI[BII)I"⟩
abbrev cJ2_putCharSB_b72d1 : ByteArray := prog_35_method_71_code
def yJ2_putCharSB_b72d1 : MethodName := ⟨RJ2, "putCharSB", "([BII)V"⟩
abbrev cJ2_getChars_46870 : ByteArray := prog_35_method_77_code
def yJ2_getChars_46870 : MethodName := ⟨RJ2, "getChars", "(III[B)I"⟩
abbrev cJ2_putCharsAt_cd4e5 : ByteArray := prog_35_method_81_code
def yJ2_putCharsAt_cd4e5 : MethodName := ⟨RJ2, "putCharsAt", "([BICCCC)I"⟩
abbrev cJ2_charAt_3b067 : ByteArray := prog_35_method_83_code
def yJ2_charAt_3b067 : MethodName := ⟨RJ2, "charAt", "([BI)C"⟩
abbrev cJ2_inflate_0e8fd : ByteArray := prog_35_method_86_code
def yJ2_inflate_0e8fd : MethodName := ⟨RJ2, "inflate", "([BI[BII)V"⟩
abbrev cJ2_getChars_ba4f3 : ByteArray := prog_35_method_89_code
def yJ2_getChars_ba4f3 : MethodName := ⟨RJ2, "getChars", "(II[B)I"⟩
abbrev cJ2_checkIndex_2214a : ByteArray := prog_35_method_91_code
def yJ2_checkIndex_2214a : MethodName := ⟨RJ2, "checkIndex", "(I[B)V"⟩
abbrev cJ2_checkBoundsBeginEnd_d044e : ByteArray := prog_35_method_93_code
def yJ2_checkBoundsBeginEnd_d044e : MethodName := ⟨RJ2, "checkBoundsBeginEnd", "(II[B)V"⟩
abbrev cJ2_checkBoundsOffCount_d044e : ByteArray := prog_35_method_94_code
def yJ2_checkBoundsOffCount_d044e : MethodName := ⟨RJ2, "checkBoundsOffCount", "(II[B)V"⟩
def RJ10 : String := "java/lang/System"
def TJ10 : u_T := fun k => match k with
  | _ => ("", "", "", false)
def tyJ10 : Nat → FieldType := fun k => match k with
  | _ => .int
abbrev wsJ100 : List Cond := u_ws RJ10 TJ10 0
theorem nmJ10 : ∀ a, a < 0 → ∀ b, b < 0 → a ≠ b → (TJ10 a).2.1 ≠ (TJ10 b).2.1 := by decide +kernel
theorem tyJ10_ok : ∀ k, k < 0 → parseFieldDescriptor (TJ10 k).2.2.1 = some (tyJ10 k) := by decide +kernel
def RJxfd54e : String := "java/lang/constant/Constable"
def TJxfd54e : u_T := fun k => match k with
  | _ => ("", "", "", false)
def tyJxfd54e : Nat → FieldType := fun k => match k with
  | _ => .int
abbrev wsJxfd54e0 : List Cond := u_ws RJxfd54e TJxfd54e 0
theorem nmJxfd54e : ∀ a, a < 0 → ∀ b, b < 0 → a ≠ b → (TJxfd54e a).2.1 ≠ (TJxfd54e b).2.1 := by decide +kernel
theorem tyJxfd54e_ok : ∀ k, k < 0 → parseFieldDescriptor (TJxfd54e k).2.2.1 = some (tyJxfd54e k) := by decide +kernel
def RJx3cf43 : String := "java/lang/constant/ConstantDesc"
def TJx3cf43 : u_T := fun k => match k with
  | _ => ("", "", "", false)
def tyJx3cf43 : Nat → FieldType := fun k => match k with
  | _ => .int
abbrev wsJx3cf430 : List Cond := u_ws RJx3cf43 TJx3cf43 0
theorem nmJx3cf43 : ∀ a, a < 0 → ∀ b, b < 0 → a ≠ b → (TJx3cf43 a).2.1 ≠ (TJx3cf43 b).2.1 := by decide +kernel
theorem tyJx3cf43_ok : ∀ k, k < 0 → parseFieldDescriptor (TJx3cf43 k).2.2.1 = some (tyJx3cf43 k) := by decide +kernel
def RJ7 : String := "java/util/Arrays"
def TJ7 : u_T := fun k => match k with
  | _ => ("", "", "", false)
def tyJ7 : Nat → FieldType := fun k => match k with
  | _ => .int
abbrev wsJ70 : List Cond := u_ws RJ7 TJ7 0
theorem nmJ7 : ∀ a, a < 0 → ∀ b, b < 0 → a ≠ b → (TJ7 a).2.1 ≠ (TJ7 b).2.1 := by decide +kernel
theorem tyJ7_ok : ∀ k, k < 0 → parseFieldDescriptor (TJ7 k).2.2.1 = some (tyJ7 k) := by decide +kernel
abbrev cJ7_fill_d0a16 : ByteArray := prog_41_method_101_code
def yJ7_fill_d0a16 : MethodName := ⟨RJ7, "fill", "([JJ)V"⟩
abbrev cJ7_fill_53178 : ByteArray := prog_41_method_103_code
def yJ7_fill_53178 : MethodName := ⟨RJ7, "fill", "([II)V"⟩
abbrev cJ7_copyOf_9075b : ByteArray := prog_41_method_121_code
def yJ7_copyOf_9075b : MethodName := ⟨RJ7, "copyOf", "([BI)[B"⟩
abbrev cJ7_checkLength_df160 : ByteArray := prog_41_method_131_code
def yJ7_checkLength_df160 : MethodName := ⟨RJ7, "checkLength", "(II)V"⟩
abbrev cJ7_copyOfRange_39247 : ByteArray := prog_41_method_132_code
def yJ7_copyOfRange_39247 : MethodName := ⟨RJ7, "copyOfRange", "([BII)[B"⟩
abbrev cJ7_copyOfRangeByte_39247 : ByteArray := prog_41_method_133_code
def yJ7_copyOfRangeByte_39247 : MethodName := ⟨RJ7, "copyOfRangeByte", "([BII)[B"⟩
def RJ8 : String := "jdk/internal/util/ArraysSupport"
def TJ8 : u_T := fun k => match k with
  | _ => ("", "", "", false)
def tyJ8 : Nat → FieldType := fun k => match k with
  | _ => .int
abbrev wsJ80 : List Cond := u_ws RJ8 TJ8 0
theorem nmJ8 : ∀ a, a < 0 → ∀ b, b < 0 → a ≠ b → (TJ8 a).2.1 ≠ (TJ8 b).2.1 := by decide +kernel
theorem tyJ8_ok : ∀ k, k < 0 → parseFieldDescriptor (TJ8 k).2.2.1 = some (tyJ8 k) := by decide +kernel
abbrev cJ8_newLength_cabcc : ByteArray := prog_43_method_27_code
def yJ8_newLength_cabcc : MethodName := ⟨RJ8, "newLength", "(III)I"⟩
abbrev cJ8_hugeLength_7cf53 : ByteArray := prog_43_method_28_code
def yJ8_hugeLength_7cf53 : MethodName := ⟨RJ8, "hugeLength", "(II)I"⟩
def RJ3 : String := "jdk/internal/util/Preconditions"
def TJ3 : u_T := fun k => match k with
  | _ => ("", "", "", false)
def tyJ3 : Nat → FieldType := fun k => match k with
  | _ => .int
abbrev wsJ30 : List Cond := u_ws RJ3 TJ3 0
theorem nmJ3 : ∀ a, a < 0 → ∀ b, b < 0 → a ≠ b → (TJ3 a).2.1 ≠ (TJ3 b).2.1 := by decide +kernel
theorem tyJ3_ok : ∀ k, k < 0 → parseFieldDescriptor (TJ3 k).2.2.1 = some (tyJ3 k) := by decide +kernel
abbrev cJ3_checkIndex_8e157 : ByteArray := prog_44_method_11_code
def yJ3_checkIndex_8e157 : MethodName := ⟨RJ3, "checkIndex", "(IILjava/util/function/BiFunction;)I"⟩
abbrev cJ3_checkFromToIndex_8c36e : ByteArray := prog_44_method_12_code
def yJ3_checkFromToIndex_8c36e : MethodName := ⟨RJ3, "checkFromToIndex", "(IIILjava/util/function/BiFunction;)I"⟩
abbrev cJ3_checkFromIndexSize_8c36e : ByteArray := prog_44_method_13_code
def yJ3_checkFromIndexSize_8c36e : MethodName := ⟨RJ3, "checkFromIndexSize", "(IIILjava/util/function/BiFunction;)I"⟩
def RL : String := "ShiftgateLaw"
abbrev cL_cell : ByteArray := method_2_code
def yL_cell : MethodName := ⟨RL, "cell", "([II)I"⟩
abbrev cL_low : ByteArray := method_3_code
def yL_low : MethodName := ⟨RL, "low", "(II)I"⟩
abbrev cL_call : ByteArray := method_4_code
def yL_call : MethodName := ⟨RL, "call", "(LShiftgate;IIIIII)J"⟩
abbrev cL_call_ : ByteArray := method_5_code
def yL_call_ : MethodName := ⟨RL, "call", "(LShiftgate;IIII)J"⟩
abbrev cL_types : ByteArray := method_6_code
def yL_types : MethodName := ⟨RL, "types", "(LShiftgate;Ljava/lang/String;)Z"⟩
abbrev cL_state : ByteArray := method_7_code
def yL_state : MethodName := ⟨RL, "state", "(LShiftgate;II)J"⟩
abbrev cL_law : ByteArray := code
def yL_law : MethodName := ⟨RL, "law", "([I)Z"⟩
abbrev vwCl : List vw_C := [(RJ0, TJ0, 4), (RJ4, TJ4, 4), (RJx00060, TJx00060, 6), (RX0, TX0, 8), (RX1, TX1, 2), (RX2, TX2, 1), (RX3, TX3, 3), (RX6, TX6, 11), (RX7, TX7, 4), (RX8, TX8, 3), (RX9, TX9, 2), (RX10, TX10, 2), (RX11, TX11, 12)]
set_option maxRecDepth 20000 in
theorem inJ0 : ∀ w ∈ wsJ00, w ∈ lw_tbl := by decide +kernel
set_option maxRecDepth 20000 in
theorem inJ4 : ∀ w ∈ wsJ40, w ∈ lw_tbl := by decide +kernel
set_option maxRecDepth 20000 in
theorem inJx00060 : ∀ w ∈ wsJx000600, w ∈ lw_tbl := by decide +kernel
set_option maxRecDepth 20000 in
theorem inX0 : ∀ w ∈ wsX00, w ∈ lw_tbl := by decide +kernel
set_option maxRecDepth 20000 in
theorem inX1 : ∀ w ∈ wsX10, w ∈ lw_tbl := by decide +kernel
set_option maxRecDepth 20000 in
theorem inX2 : ∀ w ∈ wsX20, w ∈ lw_tbl := by decide +kernel
set_option maxRecDepth 20000 in
theorem inX3 : ∀ w ∈ wsX30, w ∈ lw_tbl := by decide +kernel
set_option maxRecDepth 20000 in
theorem inX6 : ∀ w ∈ wsX60, w ∈ lw_tbl := by decide +kernel
set_option maxRecDepth 20000 in
theorem inX7 : ∀ w ∈ wsX70, w ∈ lw_tbl := by decide +kernel
set_option maxRecDepth 20000 in
theorem inX8 : ∀ w ∈ wsX80, w ∈ lw_tbl := by decide +kernel
set_option maxRecDepth 20000 in
theorem inX9 : ∀ w ∈ wsX90, w ∈ lw_tbl := by decide +kernel
set_option maxRecDepth 20000 in
theorem inX10 : ∀ w ∈ wsX100, w ∈ lw_tbl := by decide +kernel
set_option maxRecDepth 20000 in
theorem inX11 : ∀ w ∈ wsX110, w ∈ lw_tbl := by decide +kernel
abbrev SL : List (String × Nat × String) := [("Shiftgate", 75, "no such sign"), ("Shiftgate", 86, "the buffer is full"), ("Shiftgate", 435, "a number is out of range"), ("Shiftgate", 433, "there are 8 shifts"), ("Shiftgate", 426, "no such shift"), ("Shiftgate", 125, "no such letter or state"), ("Shiftgate", 144, "the buffer is no forbidden words"), ("Shiftgate", 176, "the buffer has other signs"), ("Shiftgate", 188, "no such state"), ("Shiftgate", 195, "the state is in no part"), ("Shiftgate", 209, "more than 60 sets"), ("Shiftgate", 211, "other letters"), ("Shiftgate", 217, "more than 400 pairs"), ("Shiftgate", 219, "more than 12 states"), ("Shiftgate", 225, "all states are stranded"), ("Shiftgate", 234, "there are 6 codes"), ("Shiftgate", 429, "no such code"), ("Shiftgate", 244, "no such letter"), ("Shiftgate", 257, "the buffer can't be coded"), ("Shiftgate", 269, "too many states, or none"), ("Shiftgate", 282, "there are 8 matrices"), ("Shiftgate", 431, "no such matrix"), ("Shiftgate", 440, "no such row or column"), ("Shiftgate", 303, "there are not so many"), ("Shiftgate", 442, "the matrix is not square"), ("Shiftgate", 312, "there are 5 rows"), ("Shiftgate", 320, "they do not fit together"), ("Shiftgate", 330, "no such number"), ("Shiftgate", 336, "no such power"), ("Shiftgate", 358, "the buffer is not two itineraries"), ("Shiftgate", 364, "the buffer is no itinerary"), ("Shiftgate", 376, "the rule is onto"), ("Shiftgate", 385, "the buffer is not 1 to 4 letters"), ("java/util/Arrays", 337, " > "), ("ShiftgateLaw", 207, ""), ("ShiftgateLaw", 216, "abababc,b"), ("ShiftgateLaw", 218, "ab"), ("ShiftgateLaw", 220, "abc")]
abbrev AOL : List String := ["Shiftgate$Graph", "Shiftgate$Block", "Shiftgate$Table"]
