def RX0 : String := "Rankwise$Arithmetic"
def TX0 : u_T := fun k => match k with
  | 0 => ("Rankwise$Arithmetic", "left", "LRankwise$Whole;", true)
  | 1 => ("Rankwise$Arithmetic", "right", "LRankwise$Whole;", true)
  | 2 => ("Rankwise$Arithmetic", "third", "LRankwise$Whole;", true)
  | _ => ("Rankwise$Arithmetic", "rest", "LRankwise$Whole;", true)
def tyX0 : Nat → FieldType := fun k => match k with
  | 0 => .object "Rankwise$Whole"
  | 1 => .object "Rankwise$Whole"
  | 2 => .object "Rankwise$Whole"
  | _ => .object "Rankwise$Whole"
abbrev wsX00 : List Cond := u_ws RX0 TX0 4
theorem nmX0 : ∀ a, a < 4 → ∀ b, b < 4 → a ≠ b → (TX0 a).2.1 ≠ (TX0 b).2.1 := by decide +kernel
theorem tyX0_ok : ∀ k, k < 4 → parseFieldDescriptor (TX0 k).2.2.1 = some (tyX0 k) := by decide +kernel
abbrev cX0_init : ByteArray := prog_2_method_1_code
def yX0_init : MethodName := ⟨RX0, "<init>", "()V"⟩
abbrev cX0_sum : ByteArray := prog_2_method_2_code
def yX0_sum : MethodName := ⟨RX0, "sum", "(LRankwise$Fraction;LRankwise$Fraction;LRankwise$Fraction;Z)V"⟩
abbrev cX0_times : ByteArray := prog_2_method_3_code
def yX0_times : MethodName := ⟨RX0, "times", "(LRankwise$Fraction;LRankwise$Fraction;LRankwise$Fraction;)V"⟩
abbrev cX0_over : ByteArray := prog_2_method_4_code
def yX0_over : MethodName := ⟨RX0, "over", "(LRankwise$Fraction;LRankwise$Fraction;LRankwise$Fraction;)V"⟩
abbrev cX0_compare : ByteArray := prog_2_method_5_code
def yX0_compare : MethodName := ⟨RX0, "compare", "(LRankwise$Fraction;LRankwise$Fraction;)I"⟩
abbrev cX0_remainder : ByteArray := prog_2_method_6_code
def yX0_remainder : MethodName := ⟨RX0, "remainder", "(LRankwise$Fraction;LRankwise$Fraction;LRankwise$Fraction;)V"⟩
abbrev cX0_power : ByteArray := prog_2_method_7_code
def yX0_power : MethodName := ⟨RX0, "power", "(LRankwise$Fraction;LRankwise$Fraction;I)Z"⟩
abbrev cX0_factorial : ByteArray := prog_2_method_8_code
def yX0_factorial : MethodName := ⟨RX0, "factorial", "(LRankwise$Fraction;I)V"⟩
abbrev cX0_settle : ByteArray := prog_2_method_9_code
def yX0_settle : MethodName := ⟨RX0, "settle", "(LRankwise$Fraction;)V"⟩
abbrev cX0_commonDivisor : ByteArray := prog_2_method_10_code
def yX0_commonDivisor : MethodName := ⟨RX0, "commonDivisor", "(JJ)J"⟩
def RX1 : String := "Rankwise$Desk"
def TX1 : u_T := fun k => match k with
  | 0 => ("Rankwise$Desk", "places", "[I", true)
  | 1 => ("Rankwise$Desk", "ranks", "[I", true)
  | 2 => ("Rankwise$Desk", "sides", "[I", true)
  | 3 => ("Rankwise$Desk", "meanings", "[I", true)
  | 4 => ("Rankwise$Desk", "shelf", "[LRankwise$Tree;", true)
  | 5 => ("Rankwise$Desk", "trees", "I", false)
  | 6 => ("Rankwise$Desk", "names", "[LRankwise$Fraction;", true)
  | 7 => ("Rankwise$Desk", "known", "[Z", true)
  | 8 => ("Rankwise$Desk", "functions", "[[I", true)
  | 9 => ("Rankwise$Desk", "changeKinds", "[I", true)
  | 10 => ("Rankwise$Desk", "changeKeys", "[I", true)
  | 11 => ("Rankwise$Desk", "changeRows", "[[I", true)
  | 12 => ("Rankwise$Desk", "changeValues", "[LRankwise$Fraction;", true)
  | 13 => ("Rankwise$Desk", "firstChange", "I", false)
  | _ => ("Rankwise$Desk", "changes", "I", false)
def tyX1 : Nat → FieldType := fun k => match k with
  | 0 => .array .int
  | 1 => .array .int
  | 2 => .array .int
  | 3 => .array .int
  | 4 => .array (.object "Rankwise$Tree")
  | 5 => .int
  | 6 => .array (.object "Rankwise$Fraction")
  | 7 => .array .boolean
  | 8 => .array (.array .int)
  | 9 => .array .int
  | 10 => .array .int
  | 11 => .array (.array .int)
  | 12 => .array (.object "Rankwise$Fraction")
  | 13 => .int
  | _ => .int
abbrev wsX10 : List Cond := u_ws RX1 TX1 15
theorem nmX1 : ∀ a, a < 15 → ∀ b, b < 15 → a ≠ b → (TX1 a).2.1 ≠ (TX1 b).2.1 := by decide +kernel
theorem tyX1_ok : ∀ k, k < 15 → parseFieldDescriptor (TX1 k).2.2.1 = some (tyX1 k) := by decide +kernel
abbrev cX1_init : ByteArray := prog_3_method_1_code
def yX1_init : MethodName := ⟨RX1, "<init>", "()V"⟩
abbrev cX1_beginOperators : ByteArray := prog_3_method_2_code
def yX1_beginOperators : MethodName := ⟨RX1, "beginOperators", "()V"⟩
abbrev cX1_begin : ByteArray := prog_3_method_3_code
def yX1_begin : MethodName := ⟨RX1, "begin", "(CIIII)V"⟩
abbrev cX1_putOperator : ByteArray := prog_3_method_4_code
def yX1_putOperator : MethodName := ⟨RX1, "putOperator", "(IIII)V"⟩
abbrev cX1_isSign : ByteArray := prog_3_method_5_code
def yX1_isSign : MethodName := ⟨RX1, "isSign", "(I)Z"⟩
abbrev cX1_isFix : ByteArray := prog_3_method_6_code
def yX1_isFix : MethodName := ⟨RX1, "isFix", "(I)Z"⟩
abbrev cX1_slot : ByteArray := prog_3_method_7_code
def yX1_slot : MethodName := ⟨RX1, "slot", "(II)I"⟩
abbrev cX1_isOperator : ByteArray := prog_3_method_8_code
def yX1_isOperator : MethodName := ⟨RX1, "isOperator", "(IIII)Z"⟩
abbrev cX1_rank : ByteArray := prog_3_method_9_code
def yX1_rank : MethodName := ⟨RX1, "rank", "(II)I"⟩
abbrev cX1_side : ByteArray := prog_3_method_10_code
def yX1_side : MethodName := ⟨RX1, "side", "(II)I"⟩
abbrev cX1_meaning : ByteArray := prog_3_method_11_code
def yX1_meaning : MethodName := ⟨RX1, "meaning", "(II)I"⟩
abbrev cX1_clashes : ByteArray := prog_3_method_12_code
def yX1_clashes : MethodName := ⟨RX1, "clashes", "(IIII)Z"⟩
abbrev cX1_leastWith : ByteArray := prog_3_method_13_code
def yX1_leastWith : MethodName := ⟨RX1, "leastWith", "(I)I"⟩
abbrev cX1_shelve : ByteArray := prog_3_method_14_code
def yX1_shelve : MethodName := ⟨RX1, "shelve", "(LRankwise$Tree;)I"⟩
abbrev cX1_tellOperator : ByteArray := prog_3_method_15_code
def yX1_tellOperator : MethodName := ⟨RX1, "tellOperator", "(IIIII)V"⟩
abbrev cX1_giveValue : ByteArray := prog_3_method_16_code
def yX1_giveValue : MethodName := ⟨RX1, "giveValue", "(ILRankwise$Fraction;)V"⟩
abbrev cX1_noteName : ByteArray := prog_3_method_18_code
def yX1_noteName : MethodName := ⟨RX1, "noteName", "(I)V"⟩
abbrev cX1_copyRow : ByteArray := prog_3_method_22_code
def yX1_copyRow : MethodName := ⟨RX1, "copyRow", "([I[I)V"⟩
abbrev cX1_parametersOf : ByteArray := prog_3_method_23_code
def yX1_parametersOf : MethodName := ⟨RX1, "parametersOf", "(I)I"⟩
abbrev cX1_casesOf : ByteArray := prog_3_method_24_code
def yX1_casesOf : MethodName := ⟨RX1, "casesOf", "(I)I"⟩
abbrev cX1_conditionOf : ByteArray := prog_3_method_25_code
def yX1_conditionOf : MethodName := ⟨RX1, "conditionOf", "(II)LRankwise$Tree;"⟩
abbrev cX1_valueOf : ByteArray := prog_3_method_26_code
def yX1_valueOf : MethodName := ⟨RX1, "valueOf", "(II)LRankwise$Tree;"⟩
abbrev cX1_treeOf : ByteArray := prog_3_method_27_code
def yX1_treeOf : MethodName := ⟨RX1, "treeOf", "(I)LRankwise$Tree;"⟩
abbrev cX1_note : ByteArray := prog_3_method_28_code
def yX1_note : MethodName := ⟨RX1, "note", "(II)I"⟩
abbrev cX1_takeBack : ByteArray := prog_3_method_29_code
def yX1_takeBack : MethodName := ⟨RX1, "takeBack", "()I"⟩
def RX2 : String := "Rankwise$Fraction"
def TX2 : u_T := fun k => match k with
  | 0 => ("Rankwise$Fraction", "top", "LRankwise$Whole;", true)
  | _ => ("Rankwise$Fraction", "bottom", "LRankwise$Whole;", true)
def tyX2 : Nat → FieldType := fun k => match k with
  | 0 => .object "Rankwise$Whole"
  | _ => .object "Rankwise$Whole"
abbrev wsX20 : List Cond := u_ws RX2 TX2 2
theorem nmX2 : ∀ a, a < 2 → ∀ b, b < 2 → a ≠ b → (TX2 a).2.1 ≠ (TX2 b).2.1 := by decide +kernel
theorem tyX2_ok : ∀ k, k < 2 → parseFieldDescriptor (TX2 k).2.2.1 = some (tyX2 k) := by decide +kernel
abbrev cX2_init : ByteArray := prog_4_method_1_code
def yX2_init : MethodName := ⟨RX2, "<init>", "(I)V"⟩
abbrev cX2_set : ByteArray := prog_4_method_2_code
def yX2_set : MethodName := ⟨RX2, "set", "(J)V"⟩
abbrev cX2_copy : ByteArray := prog_4_method_3_code
def yX2_copy : MethodName := ⟨RX2, "copy", "(LRankwise$Fraction;)V"⟩
abbrev cX2_isZero : ByteArray := prog_4_method_4_code
def yX2_isZero : MethodName := ⟨RX2, "isZero", "()Z"⟩
abbrev cX2_isWhole : ByteArray := prog_4_method_5_code
def yX2_isWhole : MethodName := ⟨RX2, "isWhole", "()Z"⟩
abbrev cX2_fits : ByteArray := prog_4_method_6_code
def yX2_fits : MethodName := ⟨RX2, "fits", "()Z"⟩
abbrev cX2_sameAs : ByteArray := prog_4_method_7_code
def yX2_sameAs : MethodName := ⟨RX2, "sameAs", "(LRankwise$Fraction;)Z"⟩
def RX3 : String := "Rankwise$Gatherer"
def TX3 : u_T := fun k => match k with
  | 0 => ("Rankwise$Gatherer", "desk", "LRankwise$Desk;", true)
  | 1 => ("Rankwise$Gatherer", "arithmetic", "LRankwise$Arithmetic;", true)
  | 2 => ("Rankwise$Gatherer", "rows", "[LRankwise$Fraction;", true)
  | 3 => ("Rankwise$Gatherer", "degrees", "[I", true)
  | 4 => ("Rankwise$Gatherer", "height", "I", false)
  | 5 => ("Rankwise$Gatherer", "product", "[LRankwise$Fraction;", true)
  | 6 => ("Rankwise$Gatherer", "factor", "[LRankwise$Fraction;", true)
  | 7 => ("Rankwise$Gatherer", "wide", "LRankwise$Fraction;", true)
  | 8 => ("Rankwise$Gatherer", "other", "LRankwise$Fraction;", true)
  | 9 => ("Rankwise$Gatherer", "kept", "[LRankwise$Fraction;", true)
  | 10 => ("Rankwise$Gatherer", "alone", "LRankwise$Fraction;", true)
  | 11 => ("Rankwise$Gatherer", "named", "LRankwise$Fraction;", true)
  | _ => ("Rankwise$Gatherer", "solution", "LRankwise$Fraction;", true)
def tyX3 : Nat → FieldType := fun k => match k with
  | 0 => .object "Rankwise$Desk"
  | 1 => .object "Rankwise$Arithmetic"
  | 2 => .array (.object "Rankwise$Fraction")
  | 3 => .array .int
  | 4 => .int
  | 5 => .array (.object "Rankwise$Fraction")
  | 6 => .array (.object "Rankwise$Fraction")
  | 7 => .object "Rankwise$Fraction"
  | 8 => .object "Rankwise$Fraction"
  | 9 => .array (.object "Rankwise$Fraction")
  | 10 => .object "Rankwise$Fraction"
  | 11 => .object "Rankwise$Fraction"
  | _ => .object "Rankwise$Fraction"
abbrev wsX30 : List Cond := u_ws RX3 TX3 13
theorem nmX3 : ∀ a, a < 13 → ∀ b, b < 13 → a ≠ b → (TX3 a).2.1 ≠ (TX3 b).2.1 := by decide +kernel
theorem tyX3_ok : ∀ k, k < 13 → parseFieldDescriptor (TX3 k).2.2.1 = some (tyX3 k) := by decide +kernel
abbrev cX3_init : ByteArray := prog_5_method_1_code
def yX3_init : MethodName := ⟨RX3, "<init>", "(LRankwise$Desk;LRankwise$Arithmetic;)V"⟩
def RX4 : String := "Rankwise$Machine"
def TX4 : u_T := fun k => match k with
  | 0 => ("Rankwise$Machine", "desk", "LRankwise$Desk;", true)
  | 1 => ("Rankwise$Machine", "arithmetic", "LRankwise$Arithmetic;", true)
  | 2 => ("Rankwise$Machine", "stack", "[LRankwise$Fraction;", true)
  | 3 => ("Rankwise$Machine", "height", "I", false)
  | 4 => ("Rankwise$Machine", "counted", "I", false)
  | 5 => ("Rankwise$Machine", "wide", "LRankwise$Fraction;", true)
  | 6 => ("Rankwise$Machine", "taskKinds", "[I", true)
  | 7 => ("Rankwise$Machine", "taskTrees", "[LRankwise$Tree;", true)
  | 8 => ("Rankwise$Machine", "taskNodes", "[I", true)
  | 9 => ("Rankwise$Machine", "taskStages", "[I", true)
  | 10 => ("Rankwise$Machine", "taskScopes", "[I", true)
  | 11 => ("Rankwise$Machine", "taskMore", "[I", true)
  | 12 => ("Rankwise$Machine", "tasks", "I", false)
  | 13 => ("Rankwise$Machine", "calls", "I", false)
  | 14 => ("Rankwise$Machine", "scopeNames", "[I", true)
  | 15 => ("Rankwise$Machine", "scopeParameters", "[I", true)
  | 16 => ("Rankwise$Machine", "scopeSlots", "[I", true)
  | 17 => ("Rankwise$Machine", "scopeParents", "[I", true)
  | _ => ("Rankwise$Machine", "scopes", "I", false)
def tyX4 : Nat → FieldType := fun k => match k with
  | 0 => .object "Rankwise$Desk"
  | 1 => .object "Rankwise$Arithmetic"
  | 2 => .array (.object "Rankwise$Fraction")
  | 3 => .int
  | 4 => .int
  | 5 => .object "Rankwise$Fraction"
  | 6 => .array .int
  | 7 => .array (.object "Rankwise$Tree")
  | 8 => .array .int
  | 9 => .array .int
  | 10 => .array .int
  | 11 => .array .int
  | 12 => .int
  | 13 => .int
  | 14 => .array .int
  | 15 => .array .int
  | 16 => .array .int
  | 17 => .array .int
  | _ => .int
abbrev wsX40 : List Cond := u_ws RX4 TX4 19
theorem nmX4 : ∀ a, a < 19 → ∀ b, b < 19 → a ≠ b → (TX4 a).2.1 ≠ (TX4 b).2.1 := by decide +kernel
theorem tyX4_ok : ∀ k, k < 19 → parseFieldDescriptor (TX4 k).2.2.1 = some (tyX4 k) := by decide +kernel
abbrev cX4_init : ByteArray := prog_6_method_1_code
def yX4_init : MethodName := ⟨RX4, "<init>", "(LRankwise$Desk;LRankwise$Arithmetic;)V"⟩
abbrev cX4_restart : ByteArray := prog_6_method_2_code
def yX4_restart : MethodName := ⟨RX4, "restart", "()V"⟩
abbrev cX4_startTree : ByteArray := prog_6_method_3_code
def yX4_startTree : MethodName := ⟨RX4, "startTree", "(LRankwise$Tree;)V"⟩
abbrev cX4_startLine : ByteArray := prog_6_method_4_code
def yX4_startLine : MethodName := ⟨RX4, "startLine", "(LRankwise$Tree;)V"⟩
abbrev cX4_result : ByteArray := prog_6_method_5_code
def yX4_result : MethodName := ⟨RX4, "result", "()LRankwise$Fraction;"⟩
abbrev cX4_fromTop : ByteArray := prog_6_method_6_code
def yX4_fromTop : MethodName := ⟨RX4, "fromTop", "(I)LRankwise$Fraction;"⟩
abbrev cX4_begin : ByteArray := prog_6_method_7_code
def yX4_begin : MethodName := ⟨RX4, "begin", "(LRankwise$Tree;II)I"⟩
abbrev cX4_addTask : ByteArray := prog_6_method_8_code
def yX4_addTask : MethodName := ⟨RX4, "addTask", "(ILRankwise$Tree;II)I"⟩
abbrev cX4_work : ByteArray := prog_6_method_9_code
def yX4_work : MethodName := ⟨RX4, "work", "()I"⟩
abbrev cX4_nextOperand : ByteArray := prog_6_method_10_code
def yX4_nextOperand : MethodName := ⟨RX4, "nextOperand", "(ILRankwise$Tree;I)I"⟩
abbrev cX4_countNode : ByteArray := prog_6_method_11_code
def yX4_countNode : MethodName := ⟨RX4, "countNode", "()I"⟩
abbrev cX4_give : ByteArray := prog_6_method_12_code
def yX4_give : MethodName := ⟨RX4, "give", "(LRankwise$Tree;II)I"⟩
abbrev cX4_giveName : ByteArray := prog_6_method_13_code
def yX4_giveName : MethodName := ⟨RX4, "giveName", "(II)I"⟩
abbrev cX4_meaningOf : ByteArray := prog_6_method_14_code
def yX4_meaningOf : MethodName := ⟨RX4, "meaningOf", "(LRankwise$Tree;I)I"⟩
abbrev cX4_operate : ByteArray := prog_6_method_15_code
def yX4_operate : MethodName := ⟨RX4, "operate", "(I)I"⟩
abbrev cX4_faultOf : ByteArray := prog_6_method_16_code
def yX4_faultOf : MethodName := ⟨RX4, "faultOf", "(ILRankwise$Fraction;LRankwise$Fraction;)I"⟩
abbrev cX4_openCall : ByteArray := prog_6_method_17_code
def yX4_openCall : MethodName := ⟨RX4, "openCall", "(II)I"⟩
abbrev cX4_openScope : ByteArray := prog_6_method_18_code
def yX4_openScope : MethodName := ⟨RX4, "openScope", "(IIII)Z"⟩
abbrev cX4_advanceCall : ByteArray := prog_6_method_19_code
def yX4_advanceCall : MethodName := ⟨RX4, "advanceCall", "(II)I"⟩
abbrev cX4_noteCase : ByteArray := prog_6_method_20_code
def yX4_noteCase : MethodName := ⟨RX4, "noteCase", "(IIZ)V"⟩
abbrev cX4_beginValue : ByteArray := prog_6_method_21_code
def yX4_beginValue : MethodName := ⟨RX4, "beginValue", "(III)I"⟩
abbrev cX4_closeCall : ByteArray := prog_6_method_22_code
def yX4_closeCall : MethodName := ⟨RX4, "closeCall", "(II)I"⟩
abbrev cX4_advanceChoice : ByteArray := prog_6_method_23_code
def yX4_advanceChoice : MethodName := ⟨RX4, "advanceChoice", "(ILRankwise$Tree;I)I"⟩
abbrev cX4_advanceSum : ByteArray := prog_6_method_24_code
def yX4_advanceSum : MethodName := ⟨RX4, "advanceSum", "(ILRankwise$Tree;I)I"⟩
abbrev cX4_openSum : ByteArray := prog_6_method_25_code
def yX4_openSum : MethodName := ⟨RX4, "openSum", "(II)I"⟩
abbrev cX4_nextOfSum : ByteArray := prog_6_method_26_code
def yX4_nextOfSum : MethodName := ⟨RX4, "nextOfSum", "(ILRankwise$Tree;I)I"⟩
abbrev cX4_addToSum : ByteArray := prog_6_method_27_code
def yX4_addToSum : MethodName := ⟨RX4, "addToSum", "(I)I"⟩
def RX5 : String := "Rankwise$Printer"
def TX5 : u_T := fun k => match k with
  | 0 => ("Rankwise$Printer", "reader", "LRankwise$Reader;", true)
  | 1 => ("Rankwise$Printer", "rest", "LRankwise$Whole;", true)
  | 2 => ("Rankwise$Printer", "text", "[C", true)
  | _ => ("Rankwise$Printer", "count", "I", false)
def tyX5 : Nat → FieldType := fun k => match k with
  | 0 => .object "Rankwise$Reader"
  | 1 => .object "Rankwise$Whole"
  | 2 => .array .char
  | _ => .int
abbrev wsX50 : List Cond := u_ws RX5 TX5 4
theorem nmX5 : ∀ a, a < 4 → ∀ b, b < 4 → a ≠ b → (TX5 a).2.1 ≠ (TX5 b).2.1 := by decide +kernel
theorem tyX5_ok : ∀ k, k < 4 → parseFieldDescriptor (TX5 k).2.2.1 = some (tyX5 k) := by decide +kernel
abbrev cX5_init : ByteArray := prog_7_method_1_code
def yX5_init : MethodName := ⟨RX5, "<init>", "(LRankwise$Reader;)V"⟩
abbrev cX5_put : ByteArray := prog_7_method_2_code
def yX5_put : MethodName := ⟨RX5, "put", "(I)V"⟩
abbrev cX5_putNumber : ByteArray := prog_7_method_3_code
def yX5_putNumber : MethodName := ⟨RX5, "putNumber", "(I)V"⟩
abbrev cX5_putValue : ByteArray := prog_7_method_4_code
def yX5_putValue : MethodName := ⟨RX5, "putValue", "(II)V"⟩
abbrev cX5_fewest : ByteArray := prog_7_method_5_code
def yX5_fewest : MethodName := ⟨RX5, "fewest", "(LRankwise$Tree;)V"⟩
abbrev cX5_spell : ByteArray := prog_7_method_6_code
def yX5_spell : MethodName := ⟨RX5, "spell", "(LRankwise$Tree;II)V"⟩
abbrev cX5_line : ByteArray := prog_7_method_7_code
def yX5_line : MethodName := ⟨RX5, "line", "(LRankwise$Tree;)V"⟩
abbrev cX5_digits : ByteArray := prog_7_method_8_code
def yX5_digits : MethodName := ⟨RX5, "digits", "(LRankwise$Whole;I)V"⟩
def RX6 : String := "Rankwise$Reader"
def TX6 : u_T := fun k => match k with
  | 0 => ("Rankwise$Reader", "desk", "LRankwise$Desk;", true)
  | 1 => ("Rankwise$Reader", "kinds", "[I", true)
  | 2 => ("Rankwise$Reader", "values", "[I", true)
  | 3 => ("Rankwise$Reader", "places", "[I", true)
  | 4 => ("Rankwise$Reader", "hidden", "[Z", true)
  | 5 => ("Rankwise$Reader", "count", "I", false)
  | 6 => ("Rankwise$Reader", "length", "I", false)
  | 7 => ("Rankwise$Reader", "next", "I", false)
  | 8 => ("Rankwise$Reader", "waiting", "Z", false)
  | 9 => ("Rankwise$Reader", "heldKinds", "[I", true)
  | 10 => ("Rankwise$Reader", "heldValues", "[I", true)
  | 11 => ("Rankwise$Reader", "heldFixes", "[I", true)
  | 12 => ("Rankwise$Reader", "heldLevels", "[I", true)
  | 13 => ("Rankwise$Reader", "heldMore", "[I", true)
  | 14 => ("Rankwise$Reader", "held", "I", false)
  | 15 => ("Rankwise$Reader", "bares", "[I", true)
  | 16 => ("Rankwise$Reader", "operands", "I", false)
  | _ => ("Rankwise$Reader", "line", "LRankwise$Tree;", true)
def tyX6 : Nat → FieldType := fun k => match k with
  | 0 => .object "Rankwise$Desk"
  | 1 => .array .int
  | 2 => .array .int
  | 3 => .array .int
  | 4 => .array .boolean
  | 5 => .int
  | 6 => .int
  | 7 => .int
  | 8 => .boolean
  | 9 => .array .int
  | 10 => .array .int
  | 11 => .array .int
  | 12 => .array .int
  | 13 => .array .int
  | 14 => .int
  | 15 => .array .int
  | 16 => .int
  | _ => .object "Rankwise$Tree"
abbrev wsX60 : List Cond := u_ws RX6 TX6 18
theorem nmX6 : ∀ a, a < 18 → ∀ b, b < 18 → a ≠ b → (TX6 a).2.1 ≠ (TX6 b).2.1 := by decide +kernel
theorem tyX6_ok : ∀ k, k < 18 → parseFieldDescriptor (TX6 k).2.2.1 = some (tyX6 k) := by decide +kernel
abbrev cX6_init : ByteArray := prog_8_method_1_code
def yX6_init : MethodName := ⟨RX6, "<init>", "(LRankwise$Desk;)V"⟩
abbrev cX6_startWords : ByteArray := prog_8_method_2_code
def yX6_startWords : MethodName := ⟨RX6, "startWords", "()V"⟩
abbrev cX6_addWord : ByteArray := prog_8_method_3_code
def yX6_addWord : MethodName := ⟨RX6, "addWord", "(III)V"⟩
abbrev cX6_split : ByteArray := prog_8_method_4_code
def yX6_split : MethodName := ⟨RX6, "split", "([CI)V"⟩
abbrev cX6_splitOther : ByteArray := prog_8_method_5_code
def yX6_splitOther : MethodName := ⟨RX6, "splitOther", "(CI)I"⟩
abbrev cX6_splitNumber : ByteArray := prog_8_method_6_code
def yX6_splitNumber : MethodName := ⟨RX6, "splitNumber", "([CI)I"⟩
abbrev cX6_digit : ByteArray := prog_8_method_7_code
def yX6_digit : MethodName := ⟨RX6, "digit", "(C)I"⟩
abbrev cX6_nextWord : ByteArray := prog_8_method_8_code
def yX6_nextWord : MethodName := ⟨RX6, "nextWord", "()I"⟩
abbrev cX6_kindAt : ByteArray := prog_8_method_9_code
def yX6_kindAt : MethodName := ⟨RX6, "kindAt", "(I)I"⟩
abbrev cX6_byStacks : ByteArray := prog_8_method_10_code
def yX6_byStacks : MethodName := ⟨RX6, "byStacks", "()I"⟩
abbrev cX6_takeOperand : ByteArray := prog_8_method_11_code
def yX6_takeOperand : MethodName := ⟨RX6, "takeOperand", "(I)Z"⟩
abbrev cX6_addLeaf : ByteArray := prog_8_method_12_code
def yX6_addLeaf : MethodName := ⟨RX6, "addLeaf", "(II)Z"⟩
abbrev cX6_pushOperand : ByteArray := prog_8_method_13_code
def yX6_pushOperand : MethodName := ⟨RX6, "pushOperand", "(I)Z"⟩
abbrev cX6_hold : ByteArray := prog_8_method_14_code
def yX6_hold : MethodName := ⟨RX6, "hold", "(IIIII)Z"⟩
abbrev cX6_takeSign : ByteArray := prog_8_method_15_code
def yX6_takeSign : MethodName := ⟨RX6, "takeSign", "(I)Z"⟩
abbrev cX6_takeClosing : ByteArray := prog_8_method_16_code
def yX6_takeClosing : MethodName := ⟨RX6, "takeClosing", "(I)Z"⟩
abbrev cX6_reduce : ByteArray := prog_8_method_17_code
def yX6_reduce : MethodName := ⟨RX6, "reduce", "(I)V"⟩
abbrev cX6_stacksGive : ByteArray := prog_8_method_18_code
def yX6_stacksGive : MethodName := ⟨RX6, "stacksGive", "(LRankwise$Tree;)Z"⟩
abbrev cX6_climbingGives : ByteArray := prog_8_method_19_code
def yX6_climbingGives : MethodName := ⟨RX6, "climbingGives", "(LRankwise$Tree;)Z"⟩
abbrev cX6_takeWord : ByteArray := prog_8_method_20_code
def yX6_takeWord : MethodName := ⟨RX6, "takeWord", "()I"⟩
abbrev cX6_climb : ByteArray := prog_8_method_21_code
def yX6_climb : MethodName := ⟨RX6, "climb", "(II)Z"⟩
abbrev cX6_climbArguments : ByteArray := prog_8_method_22_code
def yX6_climbArguments : MethodName := ⟨RX6, "climbArguments", "(II)Z"⟩
abbrev cX6_dropBrackets : ByteArray := prog_8_method_23_code
def yX6_dropBrackets : MethodName := ⟨RX6, "dropBrackets", "(LRankwise$Tree;)V"⟩
abbrev cX6_needsAllBrackets : ByteArray := prog_8_method_24_code
def yX6_needsAllBrackets : MethodName := ⟨RX6, "needsAllBrackets", "(LRankwise$Tree;)Z"⟩
abbrev cX6_opensPair : ByteArray := prog_8_method_25_code
def yX6_opensPair : MethodName := ⟨RX6, "opensPair", "(I)Z"⟩
abbrev cX6_partnerOf : ByteArray := prog_8_method_26_code
def yX6_partnerOf : MethodName := ⟨RX6, "partnerOf", "(I)I"⟩
abbrev cX6_hide : ByteArray := prog_8_method_27_code
def yX6_hide : MethodName := ⟨RX6, "hide", "(IIZ)V"⟩
def RX7 : String := "Rankwise$Rewriter"
def TX7 : u_T := fun k => match k with
  | 0 => ("Rankwise$Rewriter", "desk", "LRankwise$Desk;", true)
  | 1 => ("Rankwise$Rewriter", "changedNode", "I", false)
  | _ => ("Rankwise$Rewriter", "made", "LRankwise$Tree;", true)
def tyX7 : Nat → FieldType := fun k => match k with
  | 0 => .object "Rankwise$Desk"
  | 1 => .int
  | _ => .object "Rankwise$Tree"
abbrev wsX70 : List Cond := u_ws RX7 TX7 3
theorem nmX7 : ∀ a, a < 3 → ∀ b, b < 3 → a ≠ b → (TX7 a).2.1 ≠ (TX7 b).2.1 := by decide +kernel
theorem tyX7_ok : ∀ k, k < 3 → parseFieldDescriptor (TX7 k).2.2.1 = some (tyX7 k) := by decide +kernel
abbrev cX7_init : ByteArray := prog_9_method_1_code
def yX7_init : MethodName := ⟨RX7, "<init>", "(LRankwise$Desk;)V"⟩
abbrev cX7_meaningOf : ByteArray := prog_9_method_2_code
def yX7_meaningOf : MethodName := ⟨RX7, "meaningOf", "(LRankwise$Tree;I)I"⟩
abbrev cX7_applyRule : ByteArray := prog_9_method_3_code
def yX7_applyRule : MethodName := ⟨RX7, "applyRule", "(LRankwise$Tree;)I"⟩
abbrev cX7_applyToTwo : ByteArray := prog_9_method_4_code
def yX7_applyToTwo : MethodName := ⟨RX7, "applyToTwo", "(LRankwise$Tree;II)I"⟩
abbrev cX7_wholeOf : ByteArray := prog_9_method_5_code
def yX7_wholeOf : MethodName := ⟨RX7, "wholeOf", "(LRankwise$Tree;III)I"⟩
abbrev cX7_powerOf : ByteArray := prog_9_method_6_code
def yX7_powerOf : MethodName := ⟨RX7, "powerOf", "(JJ)J"⟩
abbrev cX7_applyNeutral : ByteArray := prog_9_method_7_code
def yX7_applyNeutral : MethodName := ⟨RX7, "applyNeutral", "(LRankwise$Tree;II)I"⟩
abbrev cX7_addAlike : ByteArray := prog_9_method_8_code
def yX7_addAlike : MethodName := ⟨RX7, "addAlike", "(LRankwise$Tree;III)Z"⟩
abbrev cX7_hasRules : ByteArray := prog_9_method_9_code
def yX7_hasRules : MethodName := ⟨RX7, "hasRules", "(LRankwise$Tree;)Z"⟩
abbrev cX7_differentiate : ByteArray := prog_9_method_10_code
def yX7_differentiate : MethodName := ⟨RX7, "differentiate", "(LRankwise$Tree;I)Z"⟩
abbrev cX7_addDerivative : ByteArray := prog_9_method_11_code
def yX7_addDerivative : MethodName := ⟨RX7, "addDerivative", "(LRankwise$Tree;III)Z"⟩
abbrev cX7_addNumber : ByteArray := prog_9_method_12_code
def yX7_addNumber : MethodName := ⟨RX7, "addNumber", "(I)Z"⟩
abbrev cX7_addWanted : ByteArray := prog_9_method_13_code
def yX7_addWanted : MethodName := ⟨RX7, "addWanted", "(ILRankwise$Tree;I)Z"⟩
def RX8 : String := "Rankwise$Slopes"
def TX8 : u_T := fun k => match k with
  | 0 => ("Rankwise$Slopes", "machine", "LRankwise$Machine;", true)
  | 1 => ("Rankwise$Slopes", "arithmetic", "LRankwise$Arithmetic;", true)
  | 2 => ("Rankwise$Slopes", "parts", "[LRankwise$Fraction;", true)
  | 3 => ("Rankwise$Slopes", "height", "I", false)
  | 4 => ("Rankwise$Slopes", "left", "LRankwise$Fraction;", true)
  | 5 => ("Rankwise$Slopes", "right", "LRankwise$Fraction;", true)
  | 6 => ("Rankwise$Slopes", "wide", "LRankwise$Fraction;", true)
  | _ => ("Rankwise$Slopes", "other", "LRankwise$Fraction;", true)
def tyX8 : Nat → FieldType := fun k => match k with
  | 0 => .object "Rankwise$Machine"
  | 1 => .object "Rankwise$Arithmetic"
  | 2 => .array (.object "Rankwise$Fraction")
  | 3 => .int
  | 4 => .object "Rankwise$Fraction"
  | 5 => .object "Rankwise$Fraction"
  | 6 => .object "Rankwise$Fraction"
  | _ => .object "Rankwise$Fraction"
abbrev wsX80 : List Cond := u_ws RX8 TX8 8
theorem nmX8 : ∀ a, a < 8 → ∀ b, b < 8 → a ≠ b → (TX8 a).2.1 ≠ (TX8 b).2.1 := by decide +kernel
theorem tyX8_ok : ∀ k, k < 8 → parseFieldDescriptor (TX8 k).2.2.1 = some (tyX8 k) := by decide +kernel
abbrev cX8_init : ByteArray := prog_10_method_1_code
def yX8_init : MethodName := ⟨RX8, "<init>", "(LRankwise$Machine;LRankwise$Arithmetic;)V"⟩
abbrev cX8_result : ByteArray := prog_10_method_2_code
def yX8_result : MethodName := ⟨RX8, "result", "()LRankwise$Fraction;"⟩
abbrev cX8_reckonPart : ByteArray := prog_10_method_3_code
def yX8_reckonPart : MethodName := ⟨RX8, "reckonPart", "(LRankwise$Tree;I)I"⟩
abbrev cX8_leafPart : ByteArray := prog_10_method_4_code
def yX8_leafPart : MethodName := ⟨RX8, "leafPart", "(LRankwise$Tree;II)I"⟩
abbrev cX8_operatorPart : ByteArray := prog_10_method_5_code
def yX8_operatorPart : MethodName := ⟨RX8, "operatorPart", "(I)I"⟩
abbrev cX8_crosswise : ByteArray := prog_10_method_6_code
def yX8_crosswise : MethodName := ⟨RX8, "crosswise", "(LRankwise$Fraction;LRankwise$Fraction;Z)V"⟩
abbrev cX8_powerPart : ByteArray := prog_10_method_7_code
def yX8_powerPart : MethodName := ⟨RX8, "powerPart", "(LRankwise$Fraction;I)V"⟩
def RX9 : String := "Rankwise$Tree"
def TX9 : u_T := fun k => match k with
  | 0 => ("Rankwise$Tree", "kinds", "[I", true)
  | 1 => ("Rankwise$Tree", "values", "[I", true)
  | 2 => ("Rankwise$Tree", "fixes", "[I", true)
  | 3 => ("Rankwise$Tree", "arities", "[I", true)
  | 4 => ("Rankwise$Tree", "sizes", "[I", true)
  | 5 => ("Rankwise$Tree", "places", "[I", true)
  | 6 => ("Rankwise$Tree", "nodes", "[I", true)
  | _ => ("Rankwise$Tree", "count", "I", false)
def tyX9 : Nat → FieldType := fun k => match k with
  | 0 => .array .int
  | 1 => .array .int
  | 2 => .array .int
  | 3 => .array .int
  | 4 => .array .int
  | 5 => .array .int
  | 6 => .array .int
  | _ => .int
abbrev wsX90 : List Cond := u_ws RX9 TX9 8
theorem nmX9 : ∀ a, a < 8 → ∀ b, b < 8 → a ≠ b → (TX9 a).2.1 ≠ (TX9 b).2.1 := by decide +kernel
theorem tyX9_ok : ∀ k, k < 8 → parseFieldDescriptor (TX9 k).2.2.1 = some (tyX9 k) := by decide +kernel
abbrev cX9_init : ByteArray := prog_11_method_1_code
def yX9_init : MethodName := ⟨RX9, "<init>", "()V"⟩
abbrev cX9_clear : ByteArray := prog_11_method_2_code
def yX9_clear : MethodName := ⟨RX9, "clear", "()V"⟩
abbrev cX9_add : ByteArray := prog_11_method_3_code
def yX9_add : MethodName := ⟨RX9, "add", "(IIII)Z"⟩
abbrev cX9_addNode : ByteArray := prog_11_method_4_code
def yX9_addNode : MethodName := ⟨RX9, "addNode", "(LRankwise$Tree;I)Z"⟩
abbrev cX9_addPart : ByteArray := prog_11_method_5_code
def yX9_addPart : MethodName := ⟨RX9, "addPart", "(LRankwise$Tree;I)Z"⟩
abbrev cX9_copy : ByteArray := prog_11_method_6_code
def yX9_copy : MethodName := ⟨RX9, "copy", "(LRankwise$Tree;)V"⟩
abbrev cX9_measure : ByteArray := prog_11_method_7_code
def yX9_measure : MethodName := ⟨RX9, "measure", "()V"⟩
abbrev cX9_turn : ByteArray := prog_11_method_8_code
def yX9_turn : MethodName := ⟨RX9, "turn", "(LRankwise$Tree;)V"⟩
abbrev cX9_put : ByteArray := prog_11_method_9_code
def yX9_put : MethodName := ⟨RX9, "put", "(ILRankwise$Tree;I)V"⟩
abbrev cX9_keepOnly : ByteArray := prog_11_method_11_code
def yX9_keepOnly : MethodName := ⟨RX9, "keepOnly", "(II)V"⟩
abbrev cX9_makeNumber : ByteArray := prog_11_method_12_code
def yX9_makeNumber : MethodName := ⟨RX9, "makeNumber", "(II)V"⟩
abbrev cX9_cut : ByteArray := prog_11_method_13_code
def yX9_cut : MethodName := ⟨RX9, "cut", "(II)V"⟩
abbrev cX9_child : ByteArray := prog_11_method_14_code
def yX9_child : MethodName := ⟨RX9, "child", "(II)I"⟩
abbrev cX9_parentOf : ByteArray := prog_11_method_15_code
def yX9_parentOf : MethodName := ⟨RX9, "parentOf", "(I)I"⟩
abbrev cX9_nodeAt : ByteArray := prog_11_method_16_code
def yX9_nodeAt : MethodName := ⟨RX9, "nodeAt", "(I)I"⟩
abbrev cX9_isCallOf : ByteArray := prog_11_method_17_code
def yX9_isCallOf : MethodName := ⟨RX9, "isCallOf", "(II)Z"⟩
abbrev cX9_hasLazyCall : ByteArray := prog_11_method_18_code
def yX9_hasLazyCall : MethodName := ⟨RX9, "hasLazyCall", "()Z"⟩
abbrev cX9_isNumber : ByteArray := prog_11_method_19_code
def yX9_isNumber : MethodName := ⟨RX9, "isNumber", "(II)Z"⟩
abbrev cX9_sameAs : ByteArray := prog_11_method_20_code
def yX9_sameAs : MethodName := ⟨RX9, "sameAs", "(LRankwise$Tree;)Z"⟩
abbrev cX9_hasLine : ByteArray := prog_11_method_21_code
def yX9_hasLine : MethodName := ⟨RX9, "hasLine", "(LRankwise$Tree;)Z"⟩
abbrev cX9_sameParts : ByteArray := prog_11_method_22_code
def yX9_sameParts : MethodName := ⟨RX9, "sameParts", "(II)Z"⟩
abbrev cX9_sameNode : ByteArray := prog_11_method_23_code
def yX9_sameNode : MethodName := ⟨RX9, "sameNode", "(ILRankwise$Tree;I)Z"⟩
def RX10 : String := "Rankwise$Whole"
def TX10 : u_T := fun k => match k with
  | 0 => ("Rankwise$Whole", "limbs", "[I", true)
  | 1 => ("Rankwise$Whole", "size", "I", false)
  | _ => ("Rankwise$Whole", "negative", "Z", false)
def tyX10 : Nat → FieldType := fun k => match k with
  | 0 => .array .int
  | 1 => .int
  | _ => .boolean
abbrev wsX100 : List Cond := u_ws RX10 TX10 3
theorem nmX10 : ∀ a, a < 3 → ∀ b, b < 3 → a ≠ b → (TX10 a).2.1 ≠ (TX10 b).2.1 := by decide +kernel
theorem tyX10_ok : ∀ k, k < 3 → parseFieldDescriptor (TX10 k).2.2.1 = some (tyX10 k) := by decide +kernel
abbrev cX10_init : ByteArray := prog_12_method_1_code
def yX10_init : MethodName := ⟨RX10, "<init>", "(I)V"⟩
abbrev cX10_set : ByteArray := prog_12_method_2_code
def yX10_set : MethodName := ⟨RX10, "set", "(J)V"⟩
abbrev cX10_copy : ByteArray := prog_12_method_3_code
def yX10_copy : MethodName := ⟨RX10, "copy", "(LRankwise$Whole;)V"⟩
abbrev cX10_copySize : ByteArray := prog_12_method_4_code
def yX10_copySize : MethodName := ⟨RX10, "copySize", "(LRankwise$Whole;)V"⟩
abbrev cX10_isZero : ByteArray := prog_12_method_5_code
def yX10_isZero : MethodName := ⟨RX10, "isZero", "()Z"⟩
abbrev cX10_isOne : ByteArray := prog_12_method_6_code
def yX10_isOne : MethodName := ⟨RX10, "isOne", "()Z"⟩
abbrev cX10_flip : ByteArray := prog_12_method_7_code
def yX10_flip : MethodName := ⟨RX10, "flip", "()V"⟩
abbrev cX10_bits : ByteArray := prog_12_method_8_code
def yX10_bits : MethodName := ⟨RX10, "bits", "()I"⟩
abbrev cX10_clamped : ByteArray := prog_12_method_9_code
def yX10_clamped : MethodName := ⟨RX10, "clamped", "()I"⟩
abbrev cX10_compareSizes : ByteArray := prog_12_method_10_code
def yX10_compareSizes : MethodName := ⟨RX10, "compareSizes", "(LRankwise$Whole;LRankwise$Whole;)I"⟩
abbrev cX10_compareSigned : ByteArray := prog_12_method_11_code
def yX10_compareSigned : MethodName := ⟨RX10, "compareSigned", "(LRankwise$Whole;LRankwise$Whole;)I"⟩
abbrev cX10_sum : ByteArray := prog_12_method_12_code
def yX10_sum : MethodName := ⟨RX10, "sum", "(LRankwise$Whole;LRankwise$Whole;Z)V"⟩
abbrev cX10_multiply : ByteArray := prog_12_method_13_code
def yX10_multiply : MethodName := ⟨RX10, "multiply", "(LRankwise$Whole;LRankwise$Whole;)V"⟩
abbrev cX10_shrink : ByteArray := prog_12_method_14_code
def yX10_shrink : MethodName := ⟨RX10, "shrink", "(I)I"⟩
abbrev cX10_divideBy : ByteArray := prog_12_method_15_code
def yX10_divideBy : MethodName := ⟨RX10, "divideBy", "(LRankwise$Whole;LRankwise$Whole;)V"⟩
abbrev cX10_guess : ByteArray := prog_12_method_16_code
def yX10_guess : MethodName := ⟨RX10, "guess", "(LRankwise$Whole;I)J"⟩
abbrev cX10_takeTimes : ByteArray := prog_12_method_17_code
def yX10_takeTimes : MethodName := ⟨RX10, "takeTimes", "(LRankwise$Whole;JI)J"⟩
abbrev cX10_trim : ByteArray := prog_12_method_18_code
def yX10_trim : MethodName := ⟨RX10, "trim", "(I)V"⟩
abbrev cX10_isShort : ByteArray := prog_12_method_19_code
def yX10_isShort : MethodName := ⟨RX10, "isShort", "()Z"⟩
abbrev cX10_shortSize : ByteArray := prog_12_method_20_code
def yX10_shortSize : MethodName := ⟨RX10, "shortSize", "()J"⟩
def RX11 : String := "Rankwise"
def TX11 : u_T := fun k => match k with
  | 0 => ("Rankwise", "typed", "[C", true)
  | 1 => ("Rankwise", "typedCount", "I", false)
  | 2 => ("Rankwise", "desk", "LRankwise$Desk;", true)
  | 3 => ("Rankwise", "reader", "LRankwise$Reader;", true)
  | 4 => ("Rankwise", "printer", "LRankwise$Printer;", true)
  | 5 => ("Rankwise", "proof", "LRankwise$Printer;", true)
  | 6 => ("Rankwise", "machine", "LRankwise$Machine;", true)
  | 7 => ("Rankwise", "slopes", "LRankwise$Slopes;", true)
  | 8 => ("Rankwise", "rewriter", "LRankwise$Rewriter;", true)
  | 9 => ("Rankwise", "gatherer", "LRankwise$Gatherer;", true)
  | 10 => ("Rankwise", "latest", "LRankwise$Fraction;", true)
  | 11 => ("Rankwise", "compared", "LRankwise$Fraction;", true)
  | 12 => ("Rankwise", "work", "LRankwise$Tree;", true)
  | 13 => ("Rankwise", "traceRules", "[I", true)
  | 14 => ("Rankwise", "traceNodes", "[I", true)
  | _ => ("Rankwise", "traced", "I", false)
def tyX11 : Nat → FieldType := fun k => match k with
  | 0 => .array .char
  | 1 => .int
  | 2 => .object "Rankwise$Desk"
  | 3 => .object "Rankwise$Reader"
  | 4 => .object "Rankwise$Printer"
  | 5 => .object "Rankwise$Printer"
  | 6 => .object "Rankwise$Machine"
  | 7 => .object "Rankwise$Slopes"
  | 8 => .object "Rankwise$Rewriter"
  | 9 => .object "Rankwise$Gatherer"
  | 10 => .object "Rankwise$Fraction"
  | 11 => .object "Rankwise$Fraction"
  | 12 => .object "Rankwise$Tree"
  | 13 => .array .int
  | 14 => .array .int
  | _ => .int
abbrev wsX110 : List Cond := u_ws RX11 TX11 16
theorem nmX11 : ∀ a, a < 16 → ∀ b, b < 16 → a ≠ b → (TX11 a).2.1 ≠ (TX11 b).2.1 := by decide +kernel
theorem tyX11_ok : ∀ k, k < 16 → parseFieldDescriptor (TX11 k).2.2.1 = some (tyX11 k) := by decide +kernel
abbrev cX11_init : ByteArray := prog_1_method_1_code
def yX11_init : MethodName := ⟨RX11, "<init>", "()V"⟩
abbrev cX11_type : ByteArray := prog_1_method_2_code
def yX11_type : MethodName := ⟨RX11, "type", "(C)I"⟩
abbrev cX11_drop : ByteArray := prog_1_method_3_code
def yX11_drop : MethodName := ⟨RX11, "drop", "()I"⟩
abbrev cX11_fault : ByteArray := prog_1_method_4_code
def yX11_fault : MethodName := ⟨RX11, "fault", "()I"⟩
abbrev cX11_read : ByteArray := prog_1_method_5_code
def yX11_read : MethodName := ⟨RX11, "read", "()I"⟩
abbrev cX11_trees : ByteArray := prog_1_method_6_code
def yX11_trees : MethodName := ⟨RX11, "trees", "()I"⟩
abbrev cX11_node : ByteArray := prog_1_method_7_code
def yX11_node : MethodName := ⟨RX11, "node", "(III)I"⟩
abbrev cX11_isSame : ByteArray := prog_1_method_8_code
def yX11_isSame : MethodName := ⟨RX11, "isSame", "(II)Z"⟩
abbrev cX11_tell : ByteArray := prog_1_method_11_code
def yX11_tell : MethodName := ⟨RX11, "tell", "(CIIII)I"⟩
abbrev cX11_told : ByteArray := prog_1_method_12_code
def yX11_told : MethodName := ⟨RX11, "told", "(CII)I"⟩
abbrev cX11_print : ByteArray := prog_1_method_13_code
def yX11_print : MethodName := ⟨RX11, "print", "(I)I"⟩
abbrev cX11_postfix : ByteArray := prog_1_method_14_code
def yX11_postfix : MethodName := ⟨RX11, "postfix", "(I)I"⟩
abbrev cX11_out : ByteArray := prog_1_method_15_code
def yX11_out : MethodName := ⟨RX11, "out", "(I)I"⟩
abbrev cX11_evaluate : ByteArray := prog_1_method_16_code
def yX11_evaluate : MethodName := ⟨RX11, "evaluate", "(I)I"⟩
abbrev cX11_reckon : ByteArray := prog_1_method_17_code
def yX11_reckon : MethodName := ⟨RX11, "reckon", "(I)I"⟩
abbrev cX11_answer : ByteArray := prog_1_method_18_code
def yX11_answer : MethodName := ⟨RX11, "answer", "(II)I"⟩
abbrev cX11_let : ByteArray := prog_1_method_19_code
def yX11_let : MethodName := ⟨RX11, "let", "(CI)I"⟩
abbrev cX11_recall : ByteArray := prog_1_method_21_code
def yX11_recall : MethodName := ⟨RX11, "recall", "(C)Z"⟩
abbrev cX11_step : ByteArray := prog_1_method_24_code
def yX11_step : MethodName := ⟨RX11, "step", "(I)I"⟩
abbrev cX11_simplify : ByteArray := prog_1_method_25_code
def yX11_simplify : MethodName := ⟨RX11, "simplify", "(I)I"⟩
abbrev cX11_trace : ByteArray := prog_1_method_26_code
def yX11_trace : MethodName := ⟨RX11, "trace", "(II)I"⟩
abbrev cX11_undo : ByteArray := prog_1_method_32_code
def yX11_undo : MethodName := ⟨RX11, "undo", "()I"⟩
abbrev cX11_audit : ByteArray := prog_1_method_33_code
def yX11_audit : MethodName := ⟨RX11, "audit", "(II)Z"⟩
abbrev cX11_postfixAgrees : ByteArray := prog_1_method_34_code
def yX11_postfixAgrees : MethodName := ⟨RX11, "postfixAgrees", "(LRankwise$Tree;)Z"⟩
abbrev cX11_simplifiesWell : ByteArray := prog_1_method_35_code
def yX11_simplifiesWell : MethodName := ⟨RX11, "simplifiesWell", "(LRankwise$Tree;)Z"⟩
abbrev cX11_derivesWell : ByteArray := prog_1_method_36_code
def yX11_derivesWell : MethodName := ⟨RX11, "derivesWell", "(LRankwise$Tree;C)Z"⟩
abbrev cX11_takeSteps : ByteArray := prog_1_method_37_code
def yX11_takeSteps : MethodName := ⟨RX11, "takeSteps", "(LRankwise$Tree;I)I"⟩
abbrev cX11_answerOf : ByteArray := prog_1_method_38_code
def yX11_answerOf : MethodName := ⟨RX11, "answerOf", "(I)I"⟩
abbrev cX11_treeAt : ByteArray := prog_1_method_39_code
def yX11_treeAt : MethodName := ⟨RX11, "treeAt", "(I)LRankwise$Tree;"⟩
abbrev cX11_needNode : ByteArray := prog_1_method_40_code
def yX11_needNode : MethodName := ⟨RX11, "needNode", "(LRankwise$Tree;I)V"⟩
abbrev cX11_needRoom : ByteArray := prog_1_method_41_code
def yX11_needRoom : MethodName := ⟨RX11, "needRoom", "()V"⟩
abbrev cX11_needNoLazyCall : ByteArray := prog_1_method_42_code
def yX11_needNoLazyCall : MethodName := ⟨RX11, "needNoLazyCall", "(LRankwise$Tree;)V"⟩
abbrev cX11_needName : ByteArray := prog_1_method_43_code
def yX11_needName : MethodName := ⟨RX11, "needName", "(C)V"⟩
abbrev cX11_letterOf : ByteArray := prog_1_method_44_code
def yX11_letterOf : MethodName := ⟨RX11, "letterOf", "(C)I"⟩
def RX12 : String := "RankwiseModel"
def TX12 : u_T := fun k => match k with
  | _ => ("", "", "", false)
def tyX12 : Nat → FieldType := fun k => match k with
  | _ => .int
abbrev wsX120 : List Cond := u_ws RX12 TX12 0
theorem nmX12 : ∀ a, a < 0 → ∀ b, b < 0 → a ≠ b → (TX12 a).2.1 ≠ (TX12 b).2.1 := by decide +kernel
theorem tyX12_ok : ∀ k, k < 0 → parseFieldDescriptor (TX12 k).2.2.1 = some (tyX12 k) := by decide +kernel
def RJ11 : String := "java/lang/Character"
def TJ11 : u_T := fun k => match k with
  | _ => ("", "", "", false)
def tyJ11 : Nat → FieldType := fun k => match k with
  | _ => .int
abbrev wsJ110 : List Cond := u_ws RJ11 TJ11 0
theorem nmJ11 : ∀ a, a < 0 → ∀ b, b < 0 → a ≠ b → (TJ11 a).2.1 ≠ (TJ11 b).2.1 := by decide +kernel
theorem tyJ11_ok : ∀ k, k < 0 → parseFieldDescriptor (TJ11 k).2.2.1 = some (tyJ11 k) := by decide +kernel
abbrev cJ11_isValidCodePoint_9a6ad : ByteArray := prog_15_method_11_code
def yJ11_isValidCodePoint_9a6ad : MethodName := ⟨RJ11, "isValidCodePoint", "(I)Z"⟩
abbrev cJ11_highSurrogate_5068e : ByteArray := prog_15_method_28_code
def yJ11_highSurrogate_5068e : MethodName := ⟨RJ11, "highSurrogate", "(I)C"⟩
abbrev cJ11_lowSurrogate_5068e : ByteArray := prog_15_method_29_code
def yJ11_lowSurrogate_5068e : MethodName := ⟨RJ11, "lowSurrogate", "(I)C"⟩
def RJ9 : String := "java/lang/Math"
def TJ9 : u_T := fun k => match k with
  | _ => ("", "", "", false)
def tyJ9 : Nat → FieldType := fun k => match k with
  | _ => .int
abbrev wsJ90 : List Cond := u_ws RJ9 TJ9 0
theorem nmJ9 : ∀ a, a < 0 → ∀ b, b < 0 → a ≠ b → (TJ9 a).2.1 ≠ (TJ9 b).2.1 := by decide +kernel
theorem tyJ9_ok : ∀ k, k < 0 → parseFieldDescriptor (TJ9 k).2.2.1 = some (tyJ9 k) := by decide +kernel
abbrev cJ9_max_7cf53 : ByteArray := prog_20_method_65_code
def yJ9_max_7cf53 : MethodName := ⟨RJ9, "max", "(II)I"⟩
abbrev cJ9_min_7cf53 : ByteArray := prog_20_method_69_code
def yJ9_min_7cf53 : MethodName := ⟨RJ9, "min", "(II)I"⟩
def RJ0 : String := "java/lang/String"
def TJ0 : u_T := fun k => match k with
  | _ => ("", "", "", false)
def tyJ0 : Nat → FieldType := fun k => match k with
  | _ => .int
abbrev wsJ00 : List Cond := u_ws RJ0 TJ0 0
theorem nmJ0 : ∀ a, a < 0 → ∀ b, b < 0 → a ≠ b → (TJ0 a).2.1 ≠ (TJ0 b).2.1 := by decide +kernel
theorem tyJ0_ok : ∀ k, k < 0 → parseFieldDescriptor (TJ0 k).2.2.1 = some (tyJ0 k) := by decide +kernel
abbrev cJ0_length_8abf5 : ByteArray := prog_22_method_54_code
def yJ0_length_8abf5 : MethodName := ⟨RJ0, "length", "()I"⟩
abbrev cJ0_charAt_5068e : ByteArray := prog_22_method_56_code
def yJ0_charAt_5068e : MethodName := ⟨RJ0, "charAt", "(I)C"⟩
abbrev cJ0_indexOf_0f7a4 : ByteArray := prog_22_method_79_code
def yJ0_indexOf_0f7a4 : MethodName := ⟨RJ0, "indexOf", "(I)I"⟩
abbrev cJ0_indexOf_7cf53 : ByteArray := prog_22_method_80_code
def yJ0_indexOf_7cf53 : MethodName := ⟨RJ0, "indexOf", "(II)I"⟩
abbrev cJ0_coder_7d493 : ByteArray := prog_22_method_152_code
def yJ0_coder_7d493 : MethodName := ⟨RJ0, "coder", "()B"⟩
abbrev cJ0_isLatin1_aae02 : ByteArray := prog_22_method_154_code
def yJ0_isLatin1_aae02 : MethodName := ⟨RJ0, "isLatin1", "()Z"⟩
abbrev cJ0_checkIndex_df160 : ByteArray := prog_22_method_155_code
def yJ0_checkIndex_df160 : MethodName := ⟨RJ0, "checkIndex", "(II)V"⟩
abbrev cJ0_checkBoundsBeginEnd_23922 : ByteArray := prog_22_method_158_code
def yJ0_checkBoundsBeginEnd_23922 : MethodName := ⟨RJ0, "checkBoundsBeginEnd", "(III)V"⟩
def RJ1 : String := "java/lang/StringLatin1"
def TJ1 : u_T := fun k => match k with
  | _ => ("", "", "", false)
def tyJ1 : Nat → FieldType := fun k => match k with
  | _ => .int
abbrev wsJ10 : List Cond := u_ws RJ1 TJ1 0
theorem nmJ1 : ∀ a, a < 0 → ∀ b, b < 0 → a ≠ b → (TJ1 a).2.1 ≠ (TJ1 b).2.1 := by decide +kernel
theorem tyJ1_ok : ∀ k, k < 0 → parseFieldDescriptor (TJ1 k).2.2.1 = some (tyJ1 k) := by decide +kernel
abbrev cJ1_charAt_3b067 : ByteArray := prog_23_method_2_code
def yJ1_charAt_3b067 : MethodName := ⟨RJ1, "charAt", "([BI)C"⟩
abbrev cJ1_canEncode_9a6ad : ByteArray := prog_23_method_4_code
def yJ1_canEncode_9a6ad : MethodName := ⟨RJ1, "canEncode", "(I)Z"⟩
abbrev cJ1_indexOf_4cfef : ByteArray := prog_23_method_22_code
def yJ1_indexOf_4cfef : MethodName := ⟨RJ1, "indexOf", "([BIII)I"⟩
abbrev cJ1_indexOfChar_4cfef : ByteArray := prog_23_method_23_code
def yJ1_indexOfChar_4cfef : MethodName := ⟨RJ1, "indexOfChar", "([BIII)I"⟩
def RJ2 : String := "java/lang/StringUTF16"
def TJ2 : u_T := fun k => match k with
  | _ => ("", "", "", false)
def tyJ2 : Nat → FieldType := fun k => match k with
  | _ => .int
abbrev wsJ20 : List Cond := u_ws RJ2 TJ2 0
theorem nmJ2 : ∀ a, a < 0 → ∀ b, b < 0 → a ≠ b → (TJ2 a).2.1 ≠ (TJ2 b).2.1 := by decide +kernel
theorem tyJ2_ok : ∀ k, k < 0 → parseFieldDescriptor (TJ2 k).2.2.1 = some (tyJ2 k) := by decide +kernel
abbrev cJ2_getChar_3b067 : ByteArray := prog_24_method_5_code
def yJ2_getChar_3b067 : MethodName := ⟨RJ2, "getChar", "([BI)C"⟩
abbrev cJ2_length_9d52b : ByteArray := prog_24_method_6_code
def yJ2_length_9d52b : MethodName := ⟨RJ2, "length", "([B)I"⟩
abbrev cJ2_indexOf_4cfef : ByteArray := prog_24_method_40_code
def yJ2_indexOf_4cfef : MethodName := ⟨RJ2, "indexOf", "([BIII)I"⟩
abbrev cJ2_indexOfChar_4cfef : ByteArray := prog_24_method_47_code
def yJ2_indexOfChar_4cfef : MethodName := ⟨RJ2, "indexOfChar", "([BIII)I"⟩
abbrev cJ2_indexOfCharUnsafe_4cfef : ByteArray := prog_24_method_48_code
def yJ2_indexOfCharUnsafe_4cfef : MethodName := ⟨RJ2, "indexOfCharUnsafe", "([BIII)I"⟩
abbrev cJ2_indexOfSupplementary_4cfef : ByteArray := prog_24_method_49_code
def yJ2_indexOfSupplementary_4cfef : MethodName := ⟨RJ2, "indexOfSupplementary", "([BIII)I"⟩
abbrev cJ2_charAt_3b067 : ByteArray := prog_24_method_83_code
def yJ2_charAt_3b067 : MethodName := ⟨RJ2, "charAt", "([BI)C"⟩
abbrev cJ2_checkIndex_2214a : ByteArray := prog_24_method_91_code
def yJ2_checkIndex_2214a : MethodName := ⟨RJ2, "checkIndex", "(I[B)V"⟩
abbrev cJ2_checkBoundsBeginEnd_d044e : ByteArray := prog_24_method_93_code
def yJ2_checkBoundsBeginEnd_d044e : MethodName := ⟨RJ2, "checkBoundsBeginEnd", "(II[B)V"⟩
def RJ3 : String := "jdk/internal/util/Preconditions"
def TJ3 : u_T := fun k => match k with
  | _ => ("", "", "", false)
def tyJ3 : Nat → FieldType := fun k => match k with
  | _ => .int
abbrev wsJ30 : List Cond := u_ws RJ3 TJ3 0
theorem nmJ3 : ∀ a, a < 0 → ∀ b, b < 0 → a ≠ b → (TJ3 a).2.1 ≠ (TJ3 b).2.1 := by decide +kernel
theorem tyJ3_ok : ∀ k, k < 0 → parseFieldDescriptor (TJ3 k).2.2.1 = some (tyJ3 k) := by decide +kernel
abbrev cJ3_checkIndex_8e157 : ByteArray := prog_26_method_11_code
def yJ3_checkIndex_8e157 : MethodName := ⟨RJ3, "checkIndex", "(IILjava/util/function/BiFunction;)I"⟩
abbrev cJ3_checkFromToIndex_8c36e : ByteArray := prog_26_method_12_code
def yJ3_checkFromToIndex_8c36e : MethodName := ⟨RJ3, "checkFromToIndex", "(IIILjava/util/function/BiFunction;)I"⟩
def RL : String := "RankwiseLaw"
abbrev cL_cell : ByteArray := method_2_code
def yL_cell : MethodName := ⟨RL, "cell", "([II)I"⟩
abbrev cL_low : ByteArray := method_3_code
def yL_low : MethodName := ⟨RL, "low", "(II)I"⟩
abbrev cL_sign : ByteArray := method_4_code
def yL_sign : MethodName := ⟨RL, "sign", "(I)C"⟩
abbrev cL_mayTell : ByteArray := method_5_code
def yL_mayTell : MethodName := ⟨RL, "mayTell", "(LRankwise;CIII)Z"⟩
abbrev cL_sum : ByteArray := method_6_code
def yL_sum : MethodName := ⟨RL, "sum", "(LRankwise;)I"⟩
abbrev cL_types : ByteArray := method_7_code
def yL_types : MethodName := ⟨RL, "types", "(LRankwise;[III)V"⟩
abbrev cL_fill : ByteArray := method_8_code
def yL_fill : MethodName := ⟨RL, "fill", "([II[I)I"⟩
abbrev cL_faulty : ByteArray := method_9_code
def yL_faulty : MethodName := ⟨RL, "faulty", "(LRankwise;[III)Z"⟩
abbrev cL_printed : ByteArray := method_10_code
def yL_printed : MethodName := ⟨RL, "printed", "(LRankwise;I)Z"⟩
abbrev cL_reckoned : ByteArray := method_11_code
def yL_reckoned : MethodName := ⟨RL, "reckoned", "(LRankwise;I)Z"⟩
abbrev cL_simpler : ByteArray := method_12_code
def yL_simpler : MethodName := ⟨RL, "simpler", "(LRankwise;I)Z"⟩
abbrev cL_sound : ByteArray := method_13_code
def yL_sound : MethodName := ⟨RL, "sound", "(LRankwise;I)Z"⟩
abbrev cL_law : ByteArray := code
def yL_law : MethodName := ⟨RL, "law", "([I)Z"⟩
set_option maxRecDepth 20000 in
theorem inX0 : ∀ w ∈ wsX00, w ∈ lw_tbl := fun w h => List.mem_append_right _ ((goodIn_r (big := tables_1) wsX00 [62, 64, 66, 68] (by decide +kernel) (by decide +kernel)) w h).1
set_option maxRecDepth 20000 in
theorem gdX0 : wsX00.all goodWord = true := by decide +kernel
set_option maxRecDepth 20000 in
theorem inX1 : ∀ w ∈ wsX10, w ∈ lw_tbl := fun w h => List.mem_append_right _ ((goodIn_r (big := tables_1) wsX10 [290, 292, 294, 296, 298, 300, 302, 304, 306, 308, 310, 312, 314, 316, 318] (by decide +kernel) (by decide +kernel)) w h).1
set_option maxRecDepth 20000 in
theorem gdX1 : wsX10.all goodWord = true := by decide +kernel
set_option maxRecDepth 20000 in
theorem inX2 : ∀ w ∈ wsX20, w ∈ lw_tbl := fun w h => List.mem_append_right _ ((goodIn_r (big := tables_1) wsX20 [264, 266] (by decide +kernel) (by decide +kernel)) w h).1
set_option maxRecDepth 20000 in
theorem gdX2 : wsX20.all goodWord = true := by decide +kernel
set_option maxRecDepth 20000 in
theorem inX3 : ∀ w ∈ wsX30, w ∈ lw_tbl := fun w h => List.mem_append_right _ ((goodIn_r (big := tables_1) wsX30 [552, 554, 556, 558, 560, 562, 564, 566, 568, 570, 572, 574, 576] (by decide +kernel) (by decide +kernel)) w h).1
set_option maxRecDepth 20000 in
theorem gdX3 : wsX30.all goodWord = true := by decide +kernel
set_option maxRecDepth 20000 in
theorem inX4 : ∀ w ∈ wsX40, w ∈ lw_tbl := fun w h => List.mem_append_right _ ((goodIn_r (big := tables_1) wsX40 [440, 442, 444, 446, 448, 450, 452, 454, 456, 458, 460, 462, 464, 466, 468, 470, 472, 474, 476] (by decide +kernel) (by decide +kernel)) w h).1
set_option maxRecDepth 20000 in
theorem gdX4 : wsX40.all goodWord = true := by decide +kernel
set_option maxRecDepth 20000 in
theorem inX5 : ∀ w ∈ wsX50, w ∈ lw_tbl := fun w h => List.mem_append_right _ ((goodIn_r (big := tables_1) wsX50 [403, 405, 407, 409] (by decide +kernel) (by decide +kernel)) w h).1
set_option maxRecDepth 20000 in
theorem gdX5 : wsX50.all goodWord = true := by decide +kernel
set_option maxRecDepth 20000 in
theorem inX6 : ∀ w ∈ wsX60, w ∈ lw_tbl := fun w h => List.mem_append_right _ ((goodIn_r (big := tables_1) wsX60 [352, 354, 356, 358, 360, 362, 364, 366, 368, 370, 372, 374, 376, 378, 380, 382, 384, 386] (by decide +kernel) (by decide +kernel)) w h).1
set_option maxRecDepth 20000 in
theorem gdX6 : wsX60.all goodWord = true := by decide +kernel
set_option maxRecDepth 20000 in
theorem inX7 : ∀ w ∈ wsX70, w ∈ lw_tbl := fun w h => List.mem_append_right _ ((goodIn_r (big := tables_1) wsX70 [525, 527, 529] (by decide +kernel) (by decide +kernel)) w h).1
set_option maxRecDepth 20000 in
theorem gdX7 : wsX70.all goodWord = true := by decide +kernel
set_option maxRecDepth 20000 in
theorem inX8 : ∀ w ∈ wsX80, w ∈ lw_tbl := fun w h => List.mem_append_right _ ((goodIn_r (big := tables_1) wsX80 [495, 497, 499, 501, 503, 505, 507, 509] (by decide +kernel) (by decide +kernel)) w h).1
set_option maxRecDepth 20000 in
theorem gdX8 : wsX80.all goodWord = true := by decide +kernel
set_option maxRecDepth 20000 in
theorem inX9 : ∀ w ∈ wsX90, w ∈ lw_tbl := fun w h => List.mem_append_right _ ((goodIn_r (big := tables_1) wsX90 [224, 226, 228, 230, 232, 234, 236, 238] (by decide +kernel) (by decide +kernel)) w h).1
set_option maxRecDepth 20000 in
theorem gdX9 : wsX90.all goodWord = true := by decide +kernel
set_option maxRecDepth 20000 in
theorem inX10 : ∀ w ∈ wsX100, w ∈ lw_tbl := fun w h => List.mem_append_right _ ((goodIn_r (big := tables_1) wsX100 [50, 52, 54] (by decide +kernel) (by decide +kernel)) w h).1
set_option maxRecDepth 20000 in
theorem gdX10 : wsX100.all goodWord = true := by decide +kernel
set_option maxRecDepth 20000 in
theorem inX11 : ∀ w ∈ wsX110, w ∈ lw_tbl := fun w h => List.mem_append_right _ ((goodIn_r (big := tables_1) wsX110 [599, 601, 603, 605, 607, 609, 611, 613, 615, 617, 619, 621, 623, 625, 627, 629] (by decide +kernel) (by decide +kernel)) w h).1
set_option maxRecDepth 20000 in
theorem gdX11 : wsX110.all goodWord = true := by decide +kernel
set_option maxRecDepth 20000 in
theorem inX12 : ∀ w ∈ wsX120, w ∈ lw_tbl := fun w h => List.mem_append_right _ ((goodIn_r (big := tables_1) wsX120 [] (by decide +kernel) (by decide +kernel)) w h).1
set_option maxRecDepth 20000 in
theorem gdX12 : wsX120.all goodWord = true := by decide +kernel
set_option maxRecDepth 20000 in
theorem inJ11 : ∀ w ∈ wsJ110, w ∈ lw_tbl := fun w h => List.mem_append_right _ ((goodIn_r (big := tables_1) wsJ110 [] (by decide +kernel) (by decide +kernel)) w h).1
set_option maxRecDepth 20000 in
theorem gdJ11 : wsJ110.all goodWord = true := by decide +kernel
set_option maxRecDepth 20000 in
theorem inJ9 : ∀ w ∈ wsJ90, w ∈ lw_tbl := fun w h => List.mem_append_right _ ((goodIn_r (big := tables_1) wsJ90 [] (by decide +kernel) (by decide +kernel)) w h).1
set_option maxRecDepth 20000 in
theorem gdJ9 : wsJ90.all goodWord = true := by decide +kernel
set_option maxRecDepth 20000 in
theorem inJ0 : ∀ w ∈ wsJ00, w ∈ lw_tbl := fun w h => List.mem_append_right _ ((goodIn_r (big := tables_1) wsJ00 [] (by decide +kernel) (by decide +kernel)) w h).1
set_option maxRecDepth 20000 in
theorem gdJ0 : wsJ00.all goodWord = true := by decide +kernel
set_option maxRecDepth 20000 in
theorem inJ1 : ∀ w ∈ wsJ10, w ∈ lw_tbl := fun w h => List.mem_append_right _ ((goodIn_r (big := tables_1) wsJ10 [] (by decide +kernel) (by decide +kernel)) w h).1
set_option maxRecDepth 20000 in
theorem gdJ1 : wsJ10.all goodWord = true := by decide +kernel
set_option maxRecDepth 20000 in
theorem inJ2 : ∀ w ∈ wsJ20, w ∈ lw_tbl := fun w h => List.mem_append_right _ ((goodIn_r (big := tables_1) wsJ20 [] (by decide +kernel) (by decide +kernel)) w h).1
set_option maxRecDepth 20000 in
theorem gdJ2 : wsJ20.all goodWord = true := by decide +kernel
set_option maxRecDepth 20000 in
theorem inJ3 : ∀ w ∈ wsJ30, w ∈ lw_tbl := fun w h => List.mem_append_right _ ((goodIn_r (big := tables_1) wsJ30 [] (by decide +kernel) (by decide +kernel)) w h).1
set_option maxRecDepth 20000 in
theorem gdJ3 : wsJ30.all goodWord = true := by decide +kernel
abbrev vwCl : List vw_C := [(RX0, TX0, 4), (RX1, TX1, 15), (RX2, TX2, 2), (RX3, TX3, 13), (RX4, TX4, 19), (RX5, TX5, 4), (RX6, TX6, 18), (RX7, TX7, 3), (RX8, TX8, 8), (RX9, TX9, 8), (RX10, TX10, 3), (RX11, TX11, 16)]
