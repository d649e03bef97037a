def RX0 : String := "UncleAges$Casks"
def TX0 : u_T := fun k => match k with
  | 0 => ("UncleAges$Casks", "size", "[I", true)
  | 1 => ("UncleAges$Casks", "first", "[I", true)
  | 2 => ("UncleAges$Casks", "now", "[I", true)
  | 3 => ("UncleAges$Casks", "next", "[I", true)
  | 4 => ("UncleAges$Casks", "times", "[I", true)
  | 5 => ("UncleAges$Casks", "queue", "[I", true)
  | _ => ("UncleAges$Casks", "queued", "I", false)
def tyX0 : Nat → FieldType := fun k => match k with
  | 0 => .array .int
  | 1 => .array .int
  | 2 => .array .int
  | 3 => .array .int
  | 4 => .array .int
  | 5 => .array .int
  | _ => .int
theorem nmX0 : ∀ a, a < 7 → ∀ b, b < 7 → a ≠ b → (TX0 a).2.1 ≠ (TX0 b).2.1 := by decide +kernel
theorem tyX0_ok : ∀ k, k < 7 → parseFieldDescriptor (TX0 k).2.2.1 = some (tyX0 k) := by decide +kernel
abbrev cX0_init : ByteArray := prog_2_method_1_code
def yX0_init : MethodName := ⟨RX0, "<init>", "()V"⟩
abbrev cX0_fill : ByteArray := prog_2_method_2_code
def yX0_fill : MethodName := ⟨RX0, "fill", "([I)Z"⟩
abbrev cX0_pour : ByteArray := prog_2_method_3_code
def yX0_pour : MethodName := ⟨RX0, "pour", "(I)I"⟩
abbrev cX0_setNow : ByteArray := prog_2_method_4_code
def yX0_setNow : MethodName := ⟨RX0, "setNow", "(I)V"⟩
abbrev cX0_pourOne : ByteArray := prog_2_method_5_code
def yX0_pourOne : MethodName := ⟨RX0, "pourOne", "(III)V"⟩
abbrev cX0_reach : ByteArray := prog_2_method_6_code
def yX0_reach : MethodName := ⟨RX0, "reach", "([II)V"⟩
def RX1 : String := "UncleAges$Family"
def TX1 : u_T := fun k => match k with
  | 0 => ("UncleAges$Family", "low", "[I", true)
  | _ => ("UncleAges$Family", "high", "[I", true)
def tyX1 : Nat → FieldType := fun k => match k with
  | 0 => .array .int
  | _ => .array .int
theorem nmX1 : ∀ a, a < 2 → ∀ b, b < 2 → a ≠ b → (TX1 a).2.1 ≠ (TX1 b).2.1 := by decide +kernel
theorem tyX1_ok : ∀ k, k < 2 → parseFieldDescriptor (TX1 k).2.2.1 = some (tyX1 k) := by decide +kernel
abbrev cX1_init : ByteArray := prog_3_method_1_code
def yX1_init : MethodName := ⟨RX1, "<init>", "()V"⟩
abbrev cX1_canBe : ByteArray := prog_3_method_2_code
def yX1_canBe : MethodName := ⟨RX1, "canBe", "(LUncleAges$Told;)Z"⟩
abbrev cX1_tighten : ByteArray := prog_3_method_3_code
def yX1_tighten : MethodName := ⟨RX1, "tighten", "(LUncleAges$Told;)Z"⟩
def RX2 : String := "UncleAges$Few"
def TX2 : u_T := fun k => match k with
  | 0 => ("UncleAges$Few", "ages", "[I", true)
  | 1 => ("UncleAges$Few", "heard", "[J", true)
  | 2 => ("UncleAges$Few", "isAlone", "[Z", true)
  | 3 => ("UncleAges$Few", "many", "I", false)
  | 4 => ("UncleAges$Few", "numbers", "I", false)
  | 5 => ("UncleAges$Few", "times", "I", false)
  | _ => ("UncleAges$Few", "number", "I", false)
def tyX2 : Nat → FieldType := fun k => match k with
  | 0 => .array .int
  | 1 => .array .long
  | 2 => .array .boolean
  | 3 => .int
  | 4 => .int
  | 5 => .int
  | _ => .int
theorem nmX2 : ∀ a, a < 7 → ∀ b, b < 7 → a ≠ b → (TX2 a).2.1 ≠ (TX2 b).2.1 := by decide +kernel
theorem tyX2_ok : ∀ k, k < 7 → parseFieldDescriptor (TX2 k).2.2.1 = some (tyX2 k) := by decide +kernel
abbrev cX2_init : ByteArray := prog_4_method_1_code
def yX2_init : MethodName := ⟨RX2, "<init>", "()V"⟩
abbrev cX2_gather : ByteArray := prog_4_method_2_code
def yX2_gather : MethodName := ⟨RX2, "gather", "(LUncleAges$Rows;I)Z"⟩
abbrev cX2_ageOf : ByteArray := prog_4_method_3_code
def yX2_ageOf : MethodName := ⟨RX2, "ageOf", "(II)I"⟩
abbrev cX2_hear : ByteArray := prog_4_method_4_code
def yX2_hear : MethodName := ⟨RX2, "hear", "(LUncleAges$Line;)V"⟩
abbrev cX2_toldAt : ByteArray := prog_4_method_5_code
def yX2_toldAt : MethodName := ⟨RX2, "toldAt", "(I)I"⟩
abbrev cX2_rowAt : ByteArray := prog_4_method_6_code
def yX2_rowAt : MethodName := ⟨RX2, "rowAt", "(I)I"⟩
abbrev cX2_sortHeard : ByteArray := prog_4_method_7_code
def yX2_sortHeard : MethodName := ⟨RX2, "sortHeard", "()V"⟩
abbrev cX2_alone : ByteArray := prog_4_method_8_code
def yX2_alone : MethodName := ⟨RX2, "alone", "()I"⟩
abbrev cX2_leave : ByteArray := prog_4_method_9_code
def yX2_leave : MethodName := ⟨RX2, "leave", "(Z)V"⟩
abbrev cX2_countNumbers : ByteArray := prog_4_method_10_code
def yX2_countNumbers : MethodName := ⟨RX2, "countNumbers", "()V"⟩
def RX3 : String := "UncleAges$Fits"
def TX3 : u_T := fun k => match k with
  | 0 => ("UncleAges$Fits", "many", "[I", true)
  | _ => ("UncleAges$Fits", "counted", "Z", false)
def tyX3 : Nat → FieldType := fun k => match k with
  | 0 => .array .int
  | _ => .boolean
theorem nmX3 : ∀ a, a < 2 → ∀ b, b < 2 → a ≠ b → (TX3 a).2.1 ≠ (TX3 b).2.1 := by decide +kernel
theorem tyX3_ok : ∀ k, k < 2 → parseFieldDescriptor (TX3 k).2.2.1 = some (tyX3 k) := by decide +kernel
abbrev cX3_init : ByteArray := prog_5_method_1_code
def yX3_init : MethodName := ⟨RX3, "<init>", "()V"⟩
abbrev cX3_forget : ByteArray := prog_5_method_2_code
def yX3_forget : MethodName := ⟨RX3, "forget", "()V"⟩
abbrev cX3_isCounted : ByteArray := prog_5_method_3_code
def yX3_isCounted : MethodName := ⟨RX3, "isCounted", "(LUncleAges$Rows;)Z"⟩
abbrev cX3_countAll : ByteArray := prog_5_method_4_code
def yX3_countAll : MethodName := ⟨RX3, "countAll", "(LUncleAges$Rows;)V"⟩
abbrev cX3_of : ByteArray := prog_5_method_5_code
def yX3_of : MethodName := ⟨RX3, "of", "(I)I"⟩
abbrev cX3_allButOne : ByteArray := prog_5_method_6_code
def yX3_allButOne : MethodName := ⟨RX3, "allButOne", "(I)I"⟩
def RX4 : String := "UncleAges$Giving"
def TX4 : u_T := fun k => match k with
  | 0 => ("UncleAges$Giving", "place", "[I", true)
  | 1 => ("UncleAges$Giving", "age", "[I", true)
  | 2 => ("UncleAges$Giving", "least", "[I", true)
  | _ => ("UncleAges$Giving", "ways", "I", false)
def tyX4 : Nat → FieldType := fun k => match k with
  | 0 => .array .int
  | 1 => .array .int
  | 2 => .array .int
  | _ => .int
theorem nmX4 : ∀ a, a < 4 → ∀ b, b < 4 → a ≠ b → (TX4 a).2.1 ≠ (TX4 b).2.1 := by decide +kernel
theorem tyX4_ok : ∀ k, k < 4 → parseFieldDescriptor (TX4 k).2.2.1 = some (tyX4 k) := by decide +kernel
abbrev cX4_init : ByteArray := prog_6_method_1_code
def yX4_init : MethodName := ⟨RX4, "<init>", "()V"⟩
abbrev cX4_giveAll : ByteArray := prog_6_method_2_code
def yX4_giveAll : MethodName := ⟨RX4, "giveAll", "(LUncleAges$Told;[III)V"⟩
abbrev cX4_give : ByteArray := prog_6_method_3_code
def yX4_give : MethodName := ⟨RX4, "give", "([II)V"⟩
abbrev cX4_allHold : ByteArray := prog_6_method_4_code
def yX4_allHold : MethodName := ⟨RX4, "allHold", "(LUncleAges$Told;I)Z"⟩
abbrev cX4_noteWay : ByteArray := prog_6_method_5_code
def yX4_noteWay : MethodName := ⟨RX4, "noteWay", "(I)V"⟩
abbrev cX4_nextOrder : ByteArray := prog_6_method_6_code
def yX4_nextOrder : MethodName := ⟨RX4, "nextOrder", "(I)Z"⟩
abbrev cX4_swap : ByteArray := prog_6_method_7_code
def yX4_swap : MethodName := ⟨RX4, "swap", "(II)V"⟩
def RX5 : String := "UncleAges$Line"
def TX5 : u_T := fun k => match k with
  | 0 => ("UncleAges$Line", "times", "[I", true)
  | 1 => ("UncleAges$Line", "number", "I", false)
  | 2 => ("UncleAges$Line", "besides", "I", false)
  | 3 => ("UncleAges$Line", "sign", "I", false)
  | 4 => ("UncleAges$Line", "divisor", "I", false)
  | 5 => ("UncleAges$Line", "year", "I", false)
  | _ => ("UncleAges$Line", "people", "I", false)
def tyX5 : Nat → FieldType := fun k => match k with
  | 0 => .array .int
  | 1 => .int
  | 2 => .int
  | 3 => .int
  | 4 => .int
  | 5 => .int
  | _ => .int
theorem nmX5 : ∀ a, a < 7 → ∀ b, b < 7 → a ≠ b → (TX5 a).2.1 ≠ (TX5 b).2.1 := by decide +kernel
theorem tyX5_ok : ∀ k, k < 7 → parseFieldDescriptor (TX5 k).2.2.1 = some (tyX5 k) := by decide +kernel
abbrev cX5_init : ByteArray := prog_7_method_1_code
def yX5_init : MethodName := ⟨RX5, "<init>", "()V"⟩
abbrev cX5_become : ByteArray := prog_7_method_2_code
def yX5_become : MethodName := ⟨RX5, "become", "(LUncleAges$Line;)V"⟩
abbrev cX5_tells : ByteArray := prog_7_method_3_code
def yX5_tells : MethodName := ⟨RX5, "tells", "([I)I"⟩
abbrev cX5_tellsIn : ByteArray := prog_7_method_4_code
def yX5_tellsIn : MethodName := ⟨RX5, "tellsIn", "([II)I"⟩
abbrev cX5_holds : ByteArray := prog_7_method_5_code
def yX5_holds : MethodName := ⟨RX5, "holds", "(I)Z"⟩
def RX6 : String := "UncleAges$Reader"
def TX6 : u_T := fun k => match k with
  | 0 => ("UncleAges$Reader", "text", "[I", true)
  | 1 => ("UncleAges$Reader", "sides", "[[I", true)
  | 2 => ("UncleAges$Reader", "terms", "[[I", true)
  | 3 => ("UncleAges$Reader", "factors", "[[I", true)
  | 4 => ("UncleAges$Reader", "sum", "[I", true)
  | 5 => ("UncleAges$Reader", "end", "I", false)
  | 6 => ("UncleAges$Reader", "at", "I", false)
  | 7 => ("UncleAges$Reader", "known", "I", false)
  | 8 => ("UncleAges$Reader", "letters", "I", false)
  | 9 => ("UncleAges$Reader", "numberRead", "I", false)
  | 10 => ("UncleAges$Reader", "people", "I", false)
  | 11 => ("UncleAges$Reader", "sign", "I", false)
  | 12 => ("UncleAges$Reader", "divisor", "I", false)
  | 13 => ("UncleAges$Reader", "fault", "I", false)
  | _ => ("UncleAges$Reader", "place", "I", false)
def tyX6 : Nat → FieldType := fun k => match k with
  | 0 => .array .int
  | 1 => .array (.array .int)
  | 2 => .array (.array .int)
  | 3 => .array (.array .int)
  | 4 => .array .int
  | 5 => .int
  | 6 => .int
  | 7 => .int
  | 8 => .int
  | 9 => .int
  | 10 => .int
  | 11 => .int
  | 12 => .int
  | 13 => .int
  | _ => .int
theorem nmX6 : ∀ a, a < 15 → ∀ b, b < 15 → a ≠ b → (TX6 a).2.1 ≠ (TX6 b).2.1 := by decide +kernel
theorem tyX6_ok : ∀ k, k < 15 → parseFieldDescriptor (TX6 k).2.2.1 = some (tyX6 k) := by decide +kernel
abbrev cX6_init : ByteArray := prog_8_method_1_code
def yX6_init : MethodName := ⟨RX6, "<init>", "([I)V"⟩
abbrev cX6_read : ByteArray := prog_8_method_2_code
def yX6_read : MethodName := ⟨RX6, "read", "(IIZ)Z"⟩
abbrev cX6_writeTo : ByteArray := prog_8_method_3_code
def yX6_writeTo : MethodName := ⟨RX6, "writeTo", "(LUncleAges$Line;LUncleAges$Told;)V"⟩
abbrev cX6_readSecondHalf : ByteArray := prog_8_method_4_code
def yX6_readSecondHalf : MethodName := ⟨RX6, "readSecondHalf", "()Z"⟩
abbrev cX6_readDivisor : ByteArray := prog_8_method_5_code
def yX6_readDivisor : MethodName := ⟨RX6, "readDivisor", "()Z"⟩
abbrev cX6_readSide : ByteArray := prog_8_method_6_code
def yX6_readSide : MethodName := ⟨RX6, "readSide", "(I)Z"⟩
abbrev cX6_readTerm : ByteArray := prog_8_method_7_code
def yX6_readTerm : MethodName := ⟨RX6, "readTerm", "(I)Z"⟩
abbrev cX6_readFactor : ByteArray := prog_8_method_8_code
def yX6_readFactor : MethodName := ⟨RX6, "readFactor", "(I)Z"⟩
abbrev cX6_readPerson : ByteArray := prog_8_method_9_code
def yX6_readPerson : MethodName := ⟨RX6, "readPerson", "(I)Z"⟩
abbrev cX6_readLetter : ByteArray := prog_8_method_10_code
def yX6_readLetter : MethodName := ⟨RX6, "readLetter", "()I"⟩
abbrev cX6_readNumber : ByteArray := prog_8_method_11_code
def yX6_readNumber : MethodName := ⟨RX6, "readNumber", "()Z"⟩
abbrev cX6_open : ByteArray := prog_8_method_12_code
def yX6_open : MethodName := ⟨RX6, "open", "(I)Z"⟩
abbrev cX6_pass : ByteArray := prog_8_method_13_code
def yX6_pass : MethodName := ⟨RX6, "pass", "(I)Z"⟩
abbrev cX6_peek : ByteArray := prog_8_method_14_code
def yX6_peek : MethodName := ⟨RX6, "peek", "()I"⟩
abbrev cX6_fail : ByteArray := prog_8_method_15_code
def yX6_fail : MethodName := ⟨RX6, "fail", "(II)Z"⟩
abbrev cX6_add : ByteArray := prog_8_method_16_code
def yX6_add : MethodName := ⟨RX6, "add", "([I[II)V"⟩
abbrev cX6_multiply : ByteArray := prog_8_method_17_code
def yX6_multiply : MethodName := ⟨RX6, "multiply", "([I[IZ)V"⟩
def RX7 : String := "UncleAges$Rows"
def TX7 : u_T := fun k => match k with
  | 0 => ("UncleAges$Rows", "told", "LUncleAges$Told;", true)
  | 1 => ("UncleAges$Rows", "age", "[I", true)
  | 2 => ("UncleAges$Rows", "asked", "[I", true)
  | 3 => ("UncleAges$Rows", "value", "[I", true)
  | 4 => ("UncleAges$Rows", "askedMany", "I", false)
  | 5 => ("UncleAges$Rows", "all", "I", false)
  | _ => ("UncleAges$Rows", "done", "I", false)
def tyX7 : Nat → FieldType := fun k => match k with
  | 0 => .object "UncleAges$Told"
  | 1 => .array .int
  | 2 => .array .int
  | 3 => .array .int
  | 4 => .int
  | 5 => .int
  | _ => .int
theorem nmX7 : ∀ a, a < 7 → ∀ b, b < 7 → a ≠ b → (TX7 a).2.1 ≠ (TX7 b).2.1 := by decide +kernel
theorem tyX7_ok : ∀ k, k < 7 → parseFieldDescriptor (TX7 k).2.2.1 = some (tyX7 k) := by decide +kernel
abbrev cX7_init : ByteArray := prog_9_method_1_code
def yX7_init : MethodName := ⟨RX7, "<init>", "(LUncleAges$Told;)V"⟩
abbrev cX7_start : ByteArray := prog_9_method_2_code
def yX7_start : MethodName := ⟨RX7, "start", "(I)Z"⟩
abbrev cX7_seek : ByteArray := prog_9_method_3_code
def yX7_seek : MethodName := ⟨RX7, "seek", "(I)I"⟩
abbrev cX7_next : ByteArray := prog_9_method_4_code
def yX7_next : MethodName := ⟨RX7, "next", "()Z"⟩
abbrev cX7_move : ByteArray := prog_9_method_5_code
def yX7_move : MethodName := ⟨RX7, "move", "()Z"⟩
abbrev cX7_step : ByteArray := prog_9_method_6_code
def yX7_step : MethodName := ⟨RX7, "step", "()V"⟩
abbrev cX7_grow : ByteArray := prog_9_method_7_code
def yX7_grow : MethodName := ⟨RX7, "grow", "(II)V"⟩
abbrev cX7_allHold : ByteArray := prog_9_method_8_code
def yX7_allHold : MethodName := ⟨RX7, "allHold", "()Z"⟩
abbrev cX7_holding : ByteArray := prog_9_method_9_code
def yX7_holding : MethodName := ⟨RX7, "holding", "()I"⟩
abbrev cX7_offByOne : ByteArray := prog_9_method_10_code
def yX7_offByOne : MethodName := ⟨RX7, "offByOne", "()I"⟩
def RX8 : String := "UncleAges$Shortest"
def TX8 : u_T := fun k => match k with
  | 0 => ("UncleAges$Shortest", "now", "[I", true)
  | 1 => ("UncleAges$Shortest", "signs", "I", false)
  | 2 => ("UncleAges$Shortest", "sort", "I", false)
  | 3 => ("UncleAges$Shortest", "first", "I", false)
  | 4 => ("UncleAges$Shortest", "second", "I", false)
  | _ => ("UncleAges$Shortest", "number", "I", false)
def tyX8 : Nat → FieldType := fun k => match k with
  | 0 => .array .int
  | 1 => .int
  | 2 => .int
  | 3 => .int
  | 4 => .int
  | _ => .int
theorem nmX8 : ∀ a, a < 6 → ∀ b, b < 6 → a ≠ b → (TX8 a).2.1 ≠ (TX8 b).2.1 := by decide +kernel
theorem tyX8_ok : ∀ k, k < 6 → parseFieldDescriptor (TX8 k).2.2.1 = some (tyX8 k) := by decide +kernel
abbrev cX8_init : ByteArray := prog_10_method_1_code
def yX8_init : MethodName := ⟨RX8, "<init>", "()V"⟩
abbrev cX8_find : ByteArray := prog_10_method_2_code
def yX8_find : MethodName := ⟨RX8, "find", "(LUncleAges$Few;LUncleAges$Told;)Z"⟩
abbrev cX8_offerPairs : ByteArray := prog_10_method_3_code
def yX8_offerPairs : MethodName := ⟨RX8, "offerPairs", "(LUncleAges$Few;LUncleAges$Told;I)V"⟩
abbrev cX8_numberBetween : ByteArray := prog_10_method_4_code
def yX8_numberBetween : MethodName := ⟨RX8, "numberBetween", "(III)I"⟩
abbrev cX8_offer : ByteArray := prog_10_method_5_code
def yX8_offer : MethodName := ⟨RX8, "offer", "(LUncleAges$Few;LUncleAges$Told;IIII)V"⟩
abbrev cX8_leavesOne : ByteArray := prog_10_method_6_code
def yX8_leavesOne : MethodName := ⟨RX8, "leavesOne", "(LUncleAges$Few;LUncleAges$Told;IIII)Z"⟩
def RX9 : String := "UncleAges$Told"
def TX9 : u_T := fun k => match k with
  | 0 => ("UncleAges$Told", "low", "[I", true)
  | 1 => ("UncleAges$Told", "high", "[I", true)
  | 2 => ("UncleAges$Told", "dead", "[I", true)
  | 3 => ("UncleAges$Told", "older", "[I", true)
  | 4 => ("UncleAges$Told", "lines", "[LUncleAges$Line;", true)
  | 5 => ("UncleAges$Told", "people", "I", false)
  | 6 => ("UncleAges$Told", "said", "I", false)
  | _ => ("UncleAges$Told", "year", "I", false)
def tyX9 : Nat → FieldType := fun k => match k with
  | 0 => .array .int
  | 1 => .array .int
  | 2 => .array .int
  | 3 => .array .int
  | 4 => .array (.object "UncleAges$Line")
  | 5 => .int
  | 6 => .int
  | _ => .int
theorem nmX9 : ∀ a, a < 8 → ∀ b, b < 8 → a ≠ b → (TX9 a).2.1 ≠ (TX9 b).2.1 := by decide +kernel
theorem tyX9_ok : ∀ k, k < 8 → parseFieldDescriptor (TX9 k).2.2.1 = some (tyX9 k) := by decide +kernel
abbrev cX9_init : ByteArray := prog_11_method_1_code
def yX9_init : MethodName := ⟨RX9, "<init>", "()V"⟩
abbrev cX9_become : ByteArray := prog_11_method_2_code
def yX9_become : MethodName := ⟨RX9, "become", "(LUncleAges$Told;)V"⟩
abbrev cX9_hasPerson : ByteArray := prog_11_method_3_code
def yX9_hasPerson : MethodName := ⟨RX9, "hasPerson", "(I)Z"⟩
abbrev cX9_hasLine : ByteArray := prog_11_method_4_code
def yX9_hasLine : MethodName := ⟨RX9, "hasLine", "(I)Z"⟩
abbrev cX9_hasRemark : ByteArray := prog_11_method_5_code
def yX9_hasRemark : MethodName := ⟨RX9, "hasRemark", "(I)Z"⟩
abbrev cX9_hasForm : ByteArray := prog_11_method_6_code
def yX9_hasForm : MethodName := ⟨RX9, "hasForm", "(I)Z"⟩
abbrev cX9_remarksSaid : ByteArray := prog_11_method_7_code
def yX9_remarksSaid : MethodName := ⟨RX9, "remarksSaid", "()I"⟩
abbrev cX9_lived : ByteArray := prog_11_method_8_code
def yX9_lived : MethodName := ⟨RX9, "lived", "(I)I"⟩
abbrev cX9_allRows : ByteArray := prog_11_method_9_code
def yX9_allRows : MethodName := ⟨RX9, "allRows", "()J"⟩
def RX10 : String := "UncleAges"
def TX10 : u_T := fun k => match k with
  | 0 => ("UncleAges", "told", "LUncleAges$Told;", true)
  | 1 => ("UncleAges", "kept", "LUncleAges$Told;", true)
  | 2 => ("UncleAges", "anyKept", "Z", false)
  | 3 => ("UncleAges", "tape", "[I", true)
  | 4 => ("UncleAges", "tapeMany", "I", false)
  | 5 => ("UncleAges", "reader", "LUncleAges$Reader;", true)
  | 6 => ("UncleAges", "rows", "LUncleAges$Rows;", true)
  | 7 => ("UncleAges", "fits", "LUncleAges$Fits;", true)
  | 8 => ("UncleAges", "few", "LUncleAges$Few;", true)
  | 9 => ("UncleAges", "settler", "LUncleAges$Shortest;", true)
  | 10 => ("UncleAges", "giving", "LUncleAges$Giving;", true)
  | 11 => ("UncleAges", "family", "LUncleAges$Family;", true)
  | 12 => ("UncleAges", "casks", "LUncleAges$Casks;", true)
  | 13 => ("UncleAges", "ageMany", "[I", true)
  | _ => ("UncleAges", "ways", "[J", true)
def tyX10 : Nat → FieldType := fun k => match k with
  | 0 => .object "UncleAges$Told"
  | 1 => .object "UncleAges$Told"
  | 2 => .boolean
  | 3 => .array .int
  | 4 => .int
  | 5 => .object "UncleAges$Reader"
  | 6 => .object "UncleAges$Rows"
  | 7 => .object "UncleAges$Fits"
  | 8 => .object "UncleAges$Few"
  | 9 => .object "UncleAges$Shortest"
  | 10 => .object "UncleAges$Giving"
  | 11 => .object "UncleAges$Family"
  | 12 => .object "UncleAges$Casks"
  | 13 => .array .int
  | _ => .array .long
theorem nmX10 : ∀ a, a < 15 → ∀ b, b < 15 → a ≠ b → (TX10 a).2.1 ≠ (TX10 b).2.1 := by decide +kernel
theorem tyX10_ok : ∀ k, k < 15 → parseFieldDescriptor (TX10 k).2.2.1 = some (tyX10 k) := by decide +kernel
abbrev cX10_init : ByteArray := prog_1_method_1_code
def yX10_init : MethodName := ⟨RX10, "<init>", "()V"⟩
abbrev cX10_person : ByteArray := prog_1_method_2_code
def yX10_person : MethodName := ⟨RX10, "person", "(III)Z"⟩
abbrev cX10_dies : ByteArray := prog_1_method_3_code
def yX10_dies : MethodName := ⟨RX10, "dies", "(II)Z"⟩
abbrev cX10_years : ByteArray := prog_1_method_4_code
def yX10_years : MethodName := ⟨RX10, "years", "(I)I"⟩
abbrev cX10_feed : ByteArray := prog_1_method_5_code
def yX10_feed : MethodName := ⟨RX10, "feed", "(IIIII)I"⟩
abbrev cX10_putBytes : ByteArray := prog_1_method_6_code
def yX10_putBytes : MethodName := ⟨RX10, "putBytes", "(I)V"⟩
abbrev cX10_remark : ByteArray := prog_1_method_7_code
def yX10_remark : MethodName := ⟨RX10, "remark", "(II)I"⟩
abbrev cX10_form : ByteArray := prog_1_method_8_code
def yX10_form : MethodName := ⟨RX10, "form", "(II)I"⟩
abbrev cX10_isText : ByteArray := prog_1_method_9_code
def yX10_isText : MethodName := ⟨RX10, "isText", "(II)Z"⟩
abbrev cX10_tell : ByteArray := prog_1_method_10_code
def yX10_tell : MethodName := ⟨RX10, "tell", "(II)I"⟩
abbrev cX10_takeBack : ByteArray := prog_1_method_11_code
def yX10_takeBack : MethodName := ⟨RX10, "takeBack", "(I)Z"⟩
abbrev cX10_parent : ByteArray := prog_1_method_12_code
def yX10_parent : MethodName := ⟨RX10, "parent", "(III)Z"⟩
abbrev cX10_keep : ByteArray := prog_1_method_13_code
def yX10_keep : MethodName := ⟨RX10, "keep", "()I"⟩
abbrev cX10_undo : ByteArray := prog_1_method_14_code
def yX10_undo : MethodName := ⟨RX10, "undo", "()Z"⟩
abbrev cX10_count : ByteArray := prog_1_method_15_code
def yX10_count : MethodName := ⟨RX10, "count", "(I)I"⟩
abbrev cX10_countOfPerson : ByteArray := prog_1_method_16_code
def yX10_countOfPerson : MethodName := ⟨RX10, "countOfPerson", "(I)I"⟩
abbrev cX10_areRemarks : ByteArray := prog_1_method_17_code
def yX10_areRemarks : MethodName := ⟨RX10, "areRemarks", "(I)Z"⟩
abbrev cX10_rows : ByteArray := prog_1_method_18_code
def yX10_rows : MethodName := ⟨RX10, "rows", "()I"⟩
abbrev cX10_fit : ByteArray := prog_1_method_19_code
def yX10_fit : MethodName := ⟨RX10, "fit", "(II)I"⟩
abbrev cX10_countAges : ByteArray := prog_1_method_20_code
def yX10_countAges : MethodName := ⟨RX10, "countAges", "(II)I"⟩
abbrev cX10_ageIs : ByteArray := prog_1_method_21_code
def yX10_ageIs : MethodName := ⟨RX10, "ageIs", "(III)I"⟩
abbrev cX10_unlikeAges : ByteArray := prog_1_method_22_code
def yX10_unlikeAges : MethodName := ⟨RX10, "unlikeAges", "()I"⟩
abbrev cX10_ageAt : ByteArray := prog_1_method_23_code
def yX10_ageAt : MethodName := ⟨RX10, "ageAt", "(I)I"⟩
abbrev cX10_aged : ByteArray := prog_1_method_24_code
def yX10_aged : MethodName := ⟨RX10, "aged", "(III)I"⟩
abbrev cX10_middle : ByteArray := prog_1_method_25_code
def yX10_middle : MethodName := ⟨RX10, "middle", "(II)I"⟩
abbrev cX10_apart : ByteArray := prog_1_method_26_code
def yX10_apart : MethodName := ⟨RX10, "apart", "(IIII)I"⟩
abbrev cX10_offByAYear : ByteArray := prog_1_method_27_code
def yX10_offByAYear : MethodName := ⟨RX10, "offByAYear", "(II)I"⟩
abbrev cX10_isFewer : ByteArray := prog_1_method_28_code
def yX10_isFewer : MethodName := ⟨RX10, "isFewer", "(II)Z"⟩
abbrev cX10_follows : ByteArray := prog_1_method_29_code
def yX10_follows : MethodName := ⟨RX10, "follows", "(II)I"⟩
abbrev cX10_clash : ByteArray := prog_1_method_30_code
def yX10_clash : MethodName := ⟨RX10, "clash", "(II)I"⟩
abbrev cX10_needless : ByteArray := prog_1_method_31_code
def yX10_needless : MethodName := ⟨RX10, "needless", "(I)I"⟩
abbrev cX10_settles : ByteArray := prog_1_method_32_code
def yX10_settles : MethodName := ⟨RX10, "settles", "(I)I"⟩
abbrev cX10_isOther : ByteArray := prog_1_method_33_code
def yX10_isOther : MethodName := ⟨RX10, "isOther", "(II)Z"⟩
abbrev cX10_fewest : ByteArray := prog_1_method_34_code
def yX10_fewest : MethodName := ⟨RX10, "fewest", "(II)I"⟩
abbrev cX10_asks : ByteArray := prog_1_method_35_code
def yX10_asks : MethodName := ⟨RX10, "asks", "(II)I"⟩
abbrev cX10_costOfAsking : ByteArray := prog_1_method_36_code
def yX10_costOfAsking : MethodName := ⟨RX10, "costOfAsking", "(III)I"⟩
abbrev cX10_unlike : ByteArray := prog_1_method_37_code
def yX10_unlike : MethodName := ⟨RX10, "unlike", "(II)I"⟩
abbrev cX10_known : ByteArray := prog_1_method_38_code
def yX10_known : MethodName := ⟨RX10, "known", "(II)I"⟩
abbrev cX10_often : ByteArray := prog_1_method_39_code
def yX10_often : MethodName := ⟨RX10, "often", "(III)I"⟩
abbrev cX10_sayings : ByteArray := prog_1_method_40_code
def yX10_sayings : MethodName := ⟨RX10, "sayings", "(III)I"⟩
abbrev cX10_faultOfSayings : ByteArray := prog_1_method_41_code
def yX10_faultOfSayings : MethodName := ⟨RX10, "faultOfSayings", "(I)I"⟩
abbrev cX10_between : ByteArray := prog_1_method_42_code
def yX10_between : MethodName := ⟨RX10, "between", "(III)I"⟩
abbrev cX10_worth : ByteArray := prog_1_method_43_code
def yX10_worth : MethodName := ⟨RX10, "worth", "(II)I"⟩
abbrev cX10_isTrue : ByteArray := prog_1_method_44_code
def yX10_isTrue : MethodName := ⟨RX10, "isTrue", "(III)I"⟩
abbrev cX10_yearsTrue : ByteArray := prog_1_method_45_code
def yX10_yearsTrue : MethodName := ⟨RX10, "yearsTrue", "(LUncleAges$Line;)I"⟩
abbrev cX10_nearestTrue : ByteArray := prog_1_method_46_code
def yX10_nearestTrue : MethodName := ⟨RX10, "nearestTrue", "(LUncleAges$Line;II)I"⟩
abbrev cX10_together : ByteArray := prog_1_method_47_code
def yX10_together : MethodName := ⟨RX10, "together", "(III)I"⟩
abbrev cX10_turned : ByteArray := prog_1_method_48_code
def yX10_turned : MethodName := ⟨RX10, "turned", "(IIII)I"⟩
abbrev cX10_areTurned : ByteArray := prog_1_method_49_code
def yX10_areTurned : MethodName := ⟨RX10, "areTurned", "(II)Z"⟩
abbrev cX10_squares : ByteArray := prog_1_method_50_code
def yX10_squares : MethodName := ⟨RX10, "squares", "(II)I"⟩
abbrev cX10_squaresIn : ByteArray := prog_1_method_51_code
def yX10_squaresIn : MethodName := ⟨RX10, "squaresIn", "(I)I"⟩
abbrev cX10_isSquare : ByteArray := prog_1_method_52_code
def yX10_isSquare : MethodName := ⟨RX10, "isSquare", "(I)Z"⟩
abbrev cX10_when : ByteArray := prog_1_method_53_code
def yX10_when : MethodName := ⟨RX10, "when", "(IIII)I"⟩
abbrev cX10_check : ByteArray := prog_1_method_54_code
def yX10_check : MethodName := ⟨RX10, "check", "(I)I"⟩
abbrev cX10_shortest : ByteArray := prog_1_method_55_code
def yX10_shortest : MethodName := ⟨RX10, "shortest", "(II)I"⟩
abbrev cX10_whoIsWho : ByteArray := prog_1_method_56_code
def yX10_whoIsWho : MethodName := ⟨RX10, "whoIsWho", "(IIII)I"⟩
abbrev cX10_hasAgeAbove : ByteArray := prog_1_method_57_code
def yX10_hasAgeAbove : MethodName := ⟨RX10, "hasAgeAbove", "(I)Z"⟩
abbrev cX10_standAlone : ByteArray := prog_1_method_58_code
def yX10_standAlone : MethodName := ⟨RX10, "standAlone", "(II)Z"⟩
abbrev cX10_tree : ByteArray := prog_1_method_59_code
def yX10_tree : MethodName := ⟨RX10, "tree", "(II)I"⟩
abbrev cX10_tyres : ByteArray := prog_1_method_60_code
def yX10_tyres : MethodName := ⟨RX10, "tyres", "(II)I"⟩
abbrev cX10_milesInAll : ByteArray := prog_1_method_61_code
def yX10_milesInAll : MethodName := ⟨RX10, "milesInAll", "(II)I"⟩
abbrev cX10_butts : ByteArray := prog_1_method_62_code
def yX10_butts : MethodName := ⟨RX10, "butts", "(I)I"⟩
abbrev cX10_howOld : ByteArray := prog_1_method_63_code
def yX10_howOld : MethodName := ⟨RX10, "howOld", "(IIII)J"⟩
abbrev cX10_plain : ByteArray := prog_1_method_64_code
def yX10_plain : MethodName := ⟨RX10, "plain", "(II)I"⟩
abbrev cX10_remarkIs : ByteArray := prog_1_method_65_code
def yX10_remarkIs : MethodName := ⟨RX10, "remarkIs", "(II)I"⟩
def RX11 : String := "UncleAgesModel"
def TX11 : u_T := fun k => match k with
  | 0 => ("UncleAgesModel", "low", "[I", true)
  | 1 => ("UncleAgesModel", "high", "[I", true)
  | 2 => ("UncleAgesModel", "deadFrom", "[I", true)
  | 3 => ("UncleAgesModel", "olderBy", "[I", true)
  | 4 => ("UncleAgesModel", "people", "I", false)
  | 5 => ("UncleAgesModel", "year", "I", false)
  | 6 => ("UncleAgesModel", "told", "I", false)
  | 7 => ("UncleAgesModel", "timesOf", "[I", true)
  | 8 => ("UncleAgesModel", "rawOf", "[I", true)
  | 9 => ("UncleAgesModel", "plainOf", "[I", true)
  | 10 => ("UncleAgesModel", "signOf", "[I", true)
  | 11 => ("UncleAgesModel", "restOf", "[I", true)
  | 12 => ("UncleAgesModel", "yearOf", "[I", true)
  | 13 => ("UncleAgesModel", "whoOf", "[I", true)
  | 14 => ("UncleAgesModel", "tape", "[B", true)
  | 15 => ("UncleAgesModel", "taped", "I", false)
  | 16 => ("UncleAgesModel", "place0", "I", false)
  | 17 => ("UncleAgesModel", "length0", "I", false)
  | 18 => ("UncleAgesModel", "fault", "I", false)
  | 19 => ("UncleAgesModel", "number0", "I", false)
  | 20 => ("UncleAgesModel", "sum", "[I", true)
  | 21 => ("UncleAgesModel", "term", "[I", true)
  | 22 => ("UncleAgesModel", "part", "[I", true)
  | 23 => ("UncleAgesModel", "sumHas", "[I", true)
  | 24 => ("UncleAgesModel", "termHas", "[I", true)
  | 25 => ("UncleAgesModel", "addsOf", "[I", true)
  | 26 => ("UncleAgesModel", "starAt", "[I", true)
  | 27 => ("UncleAgesModel", "firstOf", "[I", true)
  | 28 => ("UncleAgesModel", "secondOf", "[I", true)
  | 29 => ("UncleAgesModel", "frame", "I", false)
  | 30 => ("UncleAgesModel", "partHas", "I", false)
  | 31 => ("UncleAgesModel", "isNext", "Z", false)
  | 32 => ("UncleAgesModel", "newTimes", "[I", true)
  | 33 => ("UncleAgesModel", "newSign", "I", false)
  | 34 => ("UncleAgesModel", "newRest", "I", false)
  | 35 => ("UncleAgesModel", "newWho", "I", false)
  | 36 => ("UncleAgesModel", "age", "[I", true)
  | 37 => ("UncleAgesModel", "rowsBy", "[I", true)
  | 38 => ("UncleAgesModel", "rowsAged", "[I", true)
  | 39 => ("UncleAgesModel", "listed", "[B", true)
  | 40 => ("UncleAgesModel", "heard", "[I", true)
  | 41 => ("UncleAgesModel", "listMany", "I", false)
  | 42 => ("UncleAgesModel", "staysIn", "[Z", true)
  | 43 => ("UncleAgesModel", "signs", "I", false)
  | 44 => ("UncleAgesModel", "sort", "I", false)
  | 45 => ("UncleAgesModel", "firstOne", "I", false)
  | 46 => ("UncleAgesModel", "secondOne", "I", false)
  | 47 => ("UncleAgesModel", "numberNow", "I", false)
  | 48 => ("UncleAgesModel", "agesTold", "[I", true)
  | 49 => ("UncleAgesModel", "placeOf", "[I", true)
  | 50 => ("UncleAgesModel", "placeBest", "[I", true)
  | 51 => ("UncleAgesModel", "theOnes", "[I", true)
  | 52 => ("UncleAgesModel", "leastAge", "[I", true)
  | 53 => ("UncleAgesModel", "mostAge", "[I", true)
  | 54 => ("UncleAgesModel", "sizes", "[I", true)
  | 55 => ("UncleAgesModel", "fullOf", "[I", true)
  | 56 => ("UncleAgesModel", "queue", "[I", true)
  | 57 => ("UncleAgesModel", "timesTo", "[I", true)
  | 58 => ("UncleAgesModel", "queued", "I", false)
  | 59 => ("UncleAgesModel", "waysTo", "[J", true)
  | 60 => ("UncleAgesModel", "keptRow", "[I", true)
  | 61 => ("UncleAgesModel", "isKept", "Z", false)
  | _ => ("UncleAgesModel", "keptAt", "I", false)
def tyX11 : Nat → FieldType := fun k => match k with
  | 0 => .array .int
  | 1 => .array .int
  | 2 => .array .int
  | 3 => .array .int
  | 4 => .int
  | 5 => .int
  | 6 => .int
  | 7 => .array .int
  | 8 => .array .int
  | 9 => .array .int
  | 10 => .array .int
  | 11 => .array .int
  | 12 => .array .int
  | 13 => .array .int
  | 14 => .array .byte
  | 15 => .int
  | 16 => .int
  | 17 => .int
  | 18 => .int
  | 19 => .int
  | 20 => .array .int
  | 21 => .array .int
  | 22 => .array .int
  | 23 => .array .int
  | 24 => .array .int
  | 25 => .array .int
  | 26 => .array .int
  | 27 => .array .int
  | 28 => .array .int
  | 29 => .int
  | 30 => .int
  | 31 => .boolean
  | 32 => .array .int
  | 33 => .int
  | 34 => .int
  | 35 => .int
  | 36 => .array .int
  | 37 => .array .int
  | 38 => .array .int
  | 39 => .array .byte
  | 40 => .array .int
  | 41 => .int
  | 42 => .array .boolean
  | 43 => .int
  | 44 => .int
  | 45 => .int
  | 46 => .int
  | 47 => .int
  | 48 => .array .int
  | 49 => .array .int
  | 50 => .array .int
  | 51 => .array .int
  | 52 => .array .int
  | 53 => .array .int
  | 54 => .array .int
  | 55 => .array .int
  | 56 => .array .int
  | 57 => .array .int
  | 58 => .int
  | 59 => .array .long
  | 60 => .array .int
  | 61 => .boolean
  | _ => .int
theorem nmX11 : ∀ a, a < 63 → ∀ b, b < 63 → a ≠ b → (TX11 a).2.1 ≠ (TX11 b).2.1 := by decide +kernel
theorem tyX11_ok : ∀ k, k < 63 → parseFieldDescriptor (TX11 k).2.2.1 = some (tyX11 k) := by decide +kernel
abbrev cX11_init : ByteArray := prog_13_method_1_code
def yX11_init : MethodName := ⟨RX11, "<init>", "()V"⟩
abbrev cX11_in : ByteArray := prog_13_method_2_code
def yX11_in : MethodName := ⟨RX11, "in", "(III)Z"⟩
abbrev cX11_min : ByteArray := prog_13_method_3_code
def yX11_min : MethodName := ⟨RX11, "min", "(II)I"⟩
abbrev cX11_max : ByteArray := prog_13_method_4_code
def yX11_max : MethodName := ⟨RX11, "max", "(II)I"⟩
abbrev cX11_has : ByteArray := prog_13_method_5_code
def yX11_has : MethodName := ⟨RX11, "has", "(II)Z"⟩
abbrev cX11_bits : ByteArray := prog_13_method_6_code
def yX11_bits : MethodName := ⟨RX11, "bits", "(I)I"⟩
abbrev cX11_isPerson : ByteArray := prog_13_method_8_code
def yX11_isPerson : MethodName := ⟨RX11, "isPerson", "(I)Z"⟩
abbrev cX11_areTwo : ByteArray := prog_13_method_9_code
def yX11_areTwo : MethodName := ⟨RX11, "areTwo", "(II)Z"⟩
abbrev cX11_isRemark : ByteArray := prog_13_method_10_code
def yX11_isRemark : MethodName := ⟨RX11, "isRemark", "(I)Z"⟩
abbrev cX11_isForm : ByteArray := prog_13_method_11_code
def yX11_isForm : MethodName := ⟨RX11, "isForm", "(I)Z"⟩
abbrev cX11_toldRemarks : ByteArray := prog_13_method_12_code
def yX11_toldRemarks : MethodName := ⟨RX11, "toldRemarks", "()I"⟩
abbrev cX11_areRemarks : ByteArray := prog_13_method_13_code
def yX11_areRemarks : MethodName := ⟨RX11, "areRemarks", "(I)Z"⟩
abbrev cX11_person : ByteArray := prog_13_method_14_code
def yX11_person : MethodName := ⟨RX11, "person", "(III)Z"⟩
abbrev cX11_dies : ByteArray := prog_13_method_15_code
def yX11_dies : MethodName := ⟨RX11, "dies", "(II)Z"⟩
abbrev cX11_years : ByteArray := prog_13_method_16_code
def yX11_years : MethodName := ⟨RX11, "years", "(I)I"⟩
abbrev cX11_types : ByteArray := prog_13_method_17_code
def yX11_types : MethodName := ⟨RX11, "types", "(I)V"⟩
abbrev cX11_feed : ByteArray := prog_13_method_18_code
def yX11_feed : MethodName := ⟨RX11, "feed", "(IIIII)I"⟩
abbrev cX11_octet : ByteArray := prog_13_method_19_code
def yX11_octet : MethodName := ⟨RX11, "octet", "(I)I"⟩
abbrev cX11_here : ByteArray := prog_13_method_20_code
def yX11_here : MethodName := ⟨RX11, "here", "()I"⟩
abbrev cX11_wrongAt : ByteArray := prog_13_method_21_code
def yX11_wrongAt : MethodName := ⟨RX11, "wrongAt", "(II)Z"⟩
abbrev cX11_takes : ByteArray := prog_13_method_22_code
def yX11_takes : MethodName := ⟨RX11, "takes", "(I)Z"⟩
abbrev cX11_readsNumber : ByteArray := prog_13_method_23_code
def yX11_readsNumber : MethodName := ⟨RX11, "readsNumber", "()Z"⟩
abbrev cX11_readsPerson : ByteArray := prog_13_method_24_code
def yX11_readsPerson : MethodName := ⟨RX11, "readsPerson", "()Z"⟩
abbrev cX11_clearsPart : ByteArray := prog_13_method_25_code
def yX11_clearsPart : MethodName := ⟨RX11, "clearsPart", "()V"⟩
abbrev cX11_opensFrame : ByteArray := prog_13_method_26_code
def yX11_opensFrame : MethodName := ⟨RX11, "opensFrame", "(II)V"⟩
abbrev cX11_opensAnother : ByteArray := prog_13_method_27_code
def yX11_opensAnother : MethodName := ⟨RX11, "opensAnother", "(II)Z"⟩
abbrev cX11_endsPart : ByteArray := prog_13_method_28_code
def yX11_endsPart : MethodName := ⟨RX11, "endsPart", "()Z"⟩
abbrev cX11_endsTerm : ByteArray := prog_13_method_29_code
def yX11_endsTerm : MethodName := ⟨RX11, "endsTerm", "()V"⟩
abbrev cX11_readsPart : ByteArray := prog_13_method_30_code
def yX11_readsPart : MethodName := ⟨RX11, "readsPart", "()Z"⟩
abbrev cX11_endsFrame : ByteArray := prog_13_method_31_code
def yX11_endsFrame : MethodName := ⟨RX11, "endsFrame", "()Z"⟩
abbrev cX11_readsSide : ByteArray := prog_13_method_32_code
def yX11_readsSide : MethodName := ⟨RX11, "readsSide", "()Z"⟩
abbrev cX11_readsRight : ByteArray := prog_13_method_33_code
def yX11_readsRight : MethodName := ⟨RX11, "readsRight", "()Z"⟩
abbrev cX11_whoStands : ByteArray := prog_13_method_34_code
def yX11_whoStands : MethodName := ⟨RX11, "whoStands", "()I"⟩
abbrev cX11_readsText : ByteArray := prog_13_method_35_code
def yX11_readsText : MethodName := ⟨RX11, "readsText", "(IZ)Z"⟩
abbrev cX11_sinceOf : ByteArray := prog_13_method_36_code
def yX11_sinceOf : MethodName := ⟨RX11, "sinceOf", "(I)I"⟩
abbrev cX11_textOf : ByteArray := prog_13_method_37_code
def yX11_textOf : MethodName := ⟨RX11, "textOf", "(IIZ)I"⟩
abbrev cX11_remark : ByteArray := prog_13_method_38_code
def yX11_remark : MethodName := ⟨RX11, "remark", "(II)I"⟩
abbrev cX11_form : ByteArray := prog_13_method_39_code
def yX11_form : MethodName := ⟨RX11, "form", "(II)I"⟩
abbrev cX11_takeBack : ByteArray := prog_13_method_40_code
def yX11_takeBack : MethodName := ⟨RX11, "takeBack", "(I)Z"⟩
abbrev cX11_rowMany : ByteArray := prog_13_method_41_code
def yX11_rowMany : MethodName := ⟨RX11, "rowMany", "()I"⟩
abbrev cX11_rows : ByteArray := prog_13_method_42_code
def yX11_rows : MethodName := ⟨RX11, "rows", "()I"⟩
abbrev cX11_firstRow : ByteArray := prog_13_method_43_code
def yX11_firstRow : MethodName := ⟨RX11, "firstRow", "()V"⟩
abbrev cX11_nextRow : ByteArray := prog_13_method_44_code
def yX11_nextRow : MethodName := ⟨RX11, "nextRow", "()Z"⟩
abbrev cX11_valueOf : ByteArray := prog_13_method_45_code
def yX11_valueOf : MethodName := ⟨RX11, "valueOf", "(I)I"⟩
abbrev cX11_isSo : ByteArray := prog_13_method_46_code
def yX11_isSo : MethodName := ⟨RX11, "isSo", "(II)Z"⟩
abbrev cX11_fitsAll : ByteArray := prog_13_method_47_code
def yX11_fitsAll : MethodName := ⟨RX11, "fitsAll", "(I)Z"⟩
abbrev cX11_counts : ByteArray := prog_13_method_48_code
def yX11_counts : MethodName := ⟨RX11, "counts", "()V"⟩
abbrev cX11_fitting : ByteArray := prog_13_method_49_code
def yX11_fitting : MethodName := ⟨RX11, "fitting", "(I)I"⟩
abbrev cX11_findsRow : ByteArray := prog_13_method_50_code
def yX11_findsRow : MethodName := ⟨RX11, "findsRow", "(I)Z"⟩
abbrev cX11_fit : ByteArray := prog_13_method_51_code
def yX11_fit : MethodName := ⟨RX11, "fit", "(II)I"⟩
abbrev cX11_laysAges : ByteArray := prog_13_method_52_code
def yX11_laysAges : MethodName := ⟨RX11, "laysAges", "(II)V"⟩
abbrev cX11_ageIs : ByteArray := prog_13_method_53_code
def yX11_ageIs : MethodName := ⟨RX11, "ageIs", "(III)I"⟩
abbrev cX11_aged : ByteArray := prog_13_method_54_code
def yX11_aged : MethodName := ⟨RX11, "aged", "(III)I"⟩
abbrev cX11_middle : ByteArray := prog_13_method_55_code
def yX11_middle : MethodName := ⟨RX11, "middle", "(II)I"⟩
abbrev cX11_apart : ByteArray := prog_13_method_56_code
def yX11_apart : MethodName := ⟨RX11, "apart", "(IIII)I"⟩
abbrev cX11_follows : ByteArray := prog_13_method_57_code
def yX11_follows : MethodName := ⟨RX11, "follows", "(II)I"⟩
abbrev cX11_clash : ByteArray := prog_13_method_58_code
def yX11_clash : MethodName := ⟨RX11, "clash", "(II)I"⟩
abbrev cX11_needless : ByteArray := prog_13_method_59_code
def yX11_needless : MethodName := ⟨RX11, "needless", "(I)I"⟩
abbrev cX11_settles : ByteArray := prog_13_method_60_code
def yX11_settles : MethodName := ⟨RX11, "settles", "(I)I"⟩
abbrev cX11_fewest : ByteArray := prog_13_method_61_code
def yX11_fewest : MethodName := ⟨RX11, "fewest", "(II)I"⟩
abbrev cX11_offIn : ByteArray := prog_13_method_62_code
def yX11_offIn : MethodName := ⟨RX11, "offIn", "(I)I"⟩
abbrev cX11_offByAYear : ByteArray := prog_13_method_63_code
def yX11_offByAYear : MethodName := ⟨RX11, "offByAYear", "(II)I"⟩
abbrev cX11_asks : ByteArray := prog_13_method_64_code
def yX11_asks : MethodName := ⟨RX11, "asks", "(II)I"⟩
abbrev cX11_unlike : ByteArray := prog_13_method_65_code
def yX11_unlike : MethodName := ⟨RX11, "unlike", "(II)I"⟩
abbrev cX11_lists : ByteArray := prog_13_method_66_code
def yX11_lists : MethodName := ⟨RX11, "lists", "(I)Z"⟩
abbrev cX11_takesRow : ByteArray := prog_13_method_67_code
def yX11_takesRow : MethodName := ⟨RX11, "takesRow", "(I)V"⟩
abbrev cX11_hears : ByteArray := prog_13_method_68_code
def yX11_hears : MethodName := ⟨RX11, "hears", "(I)V"⟩
abbrev cX11_alikeTo : ByteArray := prog_13_method_69_code
def yX11_alikeTo : MethodName := ⟨RX11, "alikeTo", "(I)I"⟩
abbrev cX11_known : ByteArray := prog_13_method_70_code
def yX11_known : MethodName := ⟨RX11, "known", "(II)I"⟩
abbrev cX11_says : ByteArray := prog_13_method_71_code
def yX11_says : MethodName := ⟨RX11, "says", "(IZ)V"⟩
abbrev cX11_readsSayings : ByteArray := prog_13_method_72_code
def yX11_readsSayings : MethodName := ⟨RX11, "readsSayings", "(I)Z"⟩
abbrev cX11_sayings : ByteArray := prog_13_method_73_code
def yX11_sayings : MethodName := ⟨RX11, "sayings", "(III)I"⟩
abbrev cX11_often : ByteArray := prog_13_method_74_code
def yX11_often : MethodName := ⟨RX11, "often", "(III)I"⟩
abbrev cX11_digitsOf : ByteArray := prog_13_method_75_code
def yX11_digitsOf : MethodName := ⟨RX11, "digitsOf", "(I)I"⟩
abbrev cX11_mayBe : ByteArray := prog_13_method_76_code
def yX11_mayBe : MethodName := ⟨RX11, "mayBe", "(IIIII)V"⟩
abbrev cX11_ageNow : ByteArray := prog_13_method_77_code
def yX11_ageNow : MethodName := ⟨RX11, "ageNow", "(II)I"⟩
abbrev cX11_rowsWith : ByteArray := prog_13_method_78_code
def yX11_rowsWith : MethodName := ⟨RX11, "rowsWith", "(IIII)I"⟩
abbrev cX11_triesTwo : ByteArray := prog_13_method_79_code
def yX11_triesTwo : MethodName := ⟨RX11, "triesTwo", "(II)V"⟩
abbrev cX11_shortest : ByteArray := prog_13_method_80_code
def yX11_shortest : MethodName := ⟨RX11, "shortest", "(II)I"⟩
abbrev cX11_isTrue : ByteArray := prog_13_method_81_code
def yX11_isTrue : MethodName := ⟨RX11, "isTrue", "(III)I"⟩
abbrev cX11_together : ByteArray := prog_13_method_82_code
def yX11_together : MethodName := ⟨RX11, "together", "(III)I"⟩
abbrev cX11_areTurned : ByteArray := prog_13_method_83_code
def yX11_areTurned : MethodName := ⟨RX11, "areTurned", "(II)Z"⟩
abbrev cX11_turned : ByteArray := prog_13_method_84_code
def yX11_turned : MethodName := ⟨RX11, "turned", "(IIII)I"⟩
abbrev cX11_squaresIn : ByteArray := prog_13_method_85_code
def yX11_squaresIn : MethodName := ⟨RX11, "squaresIn", "(I)I"⟩
abbrev cX11_squares : ByteArray := prog_13_method_86_code
def yX11_squares : MethodName := ⟨RX11, "squares", "(II)I"⟩
abbrev cX11_when : ByteArray := prog_13_method_87_code
def yX11_when : MethodName := ⟨RX11, "when", "(IIII)I"⟩
abbrev cX11_worth : ByteArray := prog_13_method_88_code
def yX11_worth : MethodName := ⟨RX11, "worth", "(II)I"⟩
abbrev cX11_between : ByteArray := prog_13_method_89_code
def yX11_between : MethodName := ⟨RX11, "between", "(III)I"⟩
abbrev cX11_readsPlaces : ByteArray := prog_13_method_90_code
def yX11_readsPlaces : MethodName := ⟨RX11, "readsPlaces", "(II)Z"⟩
abbrev cX11_holdsAsTold : ByteArray := prog_13_method_91_code
def yX11_holdsAsTold : MethodName := ⟨RX11, "holdsAsTold", "(II)Z"⟩
abbrev cX11_holdAllAsTold : ByteArray := prog_13_method_92_code
def yX11_holdAllAsTold : MethodName := ⟨RX11, "holdAllAsTold", "(II)Z"⟩
abbrev cX11_whoIsWho : ByteArray := prog_13_method_93_code
def yX11_whoIsWho : MethodName := ⟨RX11, "whoIsWho", "(IIII)I"⟩
abbrev cX11_parent : ByteArray := prog_13_method_94_code
def yX11_parent : MethodName := ⟨RX11, "parent", "(III)Z"⟩
abbrev cX11_laysTree : ByteArray := prog_13_method_95_code
def yX11_laysTree : MethodName := ⟨RX11, "laysTree", "()Z"⟩
abbrev cX11_tree : ByteArray := prog_13_method_96_code
def yX11_tree : MethodName := ⟨RX11, "tree", "(II)I"⟩
abbrev cX11_tyres : ByteArray := prog_13_method_97_code
def yX11_tyres : MethodName := ⟨RX11, "tyres", "(II)I"⟩
abbrev cX11_lasting : ByteArray := prog_13_method_98_code
def yX11_lasting : MethodName := ⟨RX11, "lasting", "(II)I"⟩
abbrev cX11_reaches : ByteArray := prog_13_method_99_code
def yX11_reaches : MethodName := ⟨RX11, "reaches", "(II)V"⟩
abbrev cX11_stateOf : ByteArray := prog_13_method_100_code
def yX11_stateOf : MethodName := ⟨RX11, "stateOf", "(III)I"⟩
abbrev cX11_pours : ByteArray := prog_13_method_101_code
def yX11_pours : MethodName := ⟨RX11, "pours", "(III)V"⟩
abbrev cX11_butts : ByteArray := prog_13_method_102_code
def yX11_butts : MethodName := ⟨RX11, "butts", "(I)I"⟩
abbrev cX11_howOld : ByteArray := prog_13_method_103_code
def yX11_howOld : MethodName := ⟨RX11, "howOld", "(IIII)J"⟩
abbrev cX11_plain : ByteArray := prog_13_method_104_code
def yX11_plain : MethodName := ⟨RX11, "plain", "(II)I"⟩
abbrev cX11_remarkIs : ByteArray := prog_13_method_105_code
def yX11_remarkIs : MethodName := ⟨RX11, "remarkIs", "(II)I"⟩
abbrev cX11_moves : ByteArray := prog_13_method_106_code
def yX11_moves : MethodName := ⟨RX11, "moves", "(Z)V"⟩
abbrev cX11_moved : ByteArray := prog_13_method_107_code
def yX11_moved : MethodName := ⟨RX11, "moved", "(IZ)I"⟩
abbrev cX11_movesAll : ByteArray := prog_13_method_108_code
def yX11_movesAll : MethodName := ⟨RX11, "movesAll", "([IZ)V"⟩
abbrev cX11_keep : ByteArray := prog_13_method_109_code
def yX11_keep : MethodName := ⟨RX11, "keep", "()I"⟩
abbrev cX11_undo : ByteArray := prog_13_method_110_code
def yX11_undo : MethodName := ⟨RX11, "undo", "()Z"⟩
abbrev cX11_check : ByteArray := prog_13_method_111_code
def yX11_check : MethodName := ⟨RX11, "check", "(I)I"⟩
abbrev cX11_count : ByteArray := prog_13_method_112_code
def yX11_count : MethodName := ⟨RX11, "count", "(I)I"⟩
def RJ6 : String := "java/lang/Integer"
abbrev cJ6_bitCount_0f7a4 : ByteArray := prog_14_method_49_code
def yJ6_bitCount_0f7a4 : MethodName := ⟨RJ6, "bitCount", "(I)I"⟩
def RJ9 : String := "java/lang/Math"
abbrev cJ9_abs_0f7a4 : ByteArray := prog_15_method_59_code
def yJ9_abs_0f7a4 : MethodName := ⟨RJ9, "abs", "(I)I"⟩
abbrev cJ9_max_7cf53 : ByteArray := prog_15_method_65_code
def yJ9_max_7cf53 : MethodName := ⟨RJ9, "max", "(II)I"⟩
abbrev cJ9_min_7cf53 : ByteArray := prog_15_method_69_code
def yJ9_min_7cf53 : MethodName := ⟨RJ9, "min", "(II)I"⟩
def RJ10 : String := "java/lang/System"
def RJ7 : String := "java/util/Arrays"
abbrev cJ7_fill_d0a16 : ByteArray := prog_17_method_101_code
def yJ7_fill_d0a16 : MethodName := ⟨RJ7, "fill", "([JJ)V"⟩
abbrev cJ7_fill_53178 : ByteArray := prog_17_method_103_code
def yJ7_fill_53178 : MethodName := ⟨RJ7, "fill", "([II)V"⟩
def RL : String := "UncleAgesLaw"
abbrev cL_law : ByteArray := code
def yL_law : MethodName := ⟨RL, "law", "([I)Z"⟩
abbrev vwCl : List vw_C := [(RX0, TX0, 7), (RX1, TX1, 2), (RX2, TX2, 7), (RX3, TX3, 2), (RX4, TX4, 4), (RX5, TX5, 7), (RX6, TX6, 15), (RX7, TX7, 7), (RX8, TX8, 6), (RX9, TX9, 8), (RX10, TX10, 15), (RX11, TX11, 63)]
def qtbl : List Cond := lw_tbl.filter goodWord
theorem wq_r {w : Cond} (h : w ∈ tables_1) (g : goodWord w = true) : w ∈ qtbl := List.mem_filter.mpr ⟨List.mem_append_right _ h, g⟩
theorem wq_t {w : Cond} (h : w ∈ tables_1) : w ∈ lw_tbl := List.mem_append_right _ h
theorem wq_l {w : MethodName × Nat} (h : w ∈ lw_privs) : Cond.selects w.1.cls w.1 w.1 ∈ qtbl := List.mem_filter.mpr ⟨List.mem_append_left _ (List.mem_map.mpr ⟨w, h, rfl⟩), rfl⟩
theorem wq_p {big ws : List Cond} (ps : List Nat) (hp : ws = ps.filterMap (fun i => big[i]?)) : ∀ w ∈ ws, w ∈ big := by
  intro w hw
  rw [hp] at hw
  obtain ⟨i, -, hi⟩ := List.mem_filterMap.mp hw
  exact List.mem_of_getElem? hi
theorem wq_all : qtbl.all goodWord = true := List.all_eq_true.mpr (fun w h => (List.mem_filter.mp h).2)
set_option maxRecDepth 100000 in
theorem inX0 : ∀ w ∈ u_ws RX0 TX0 7, w ∈ qtbl := fun w h => wq_r (wq_p (big := tables_1) [338, 340, 342, 344, 346, 348, 350] (by decide +kernel) w h) (List.all_eq_true.mp (show (u_ws RX0 TX0 7).all goodWord = true from by decide +kernel) w h)
set_option maxRecDepth 100000 in
theorem inX1 : ∀ w ∈ u_ws RX1 TX1 2, w ∈ qtbl := fun w h => wq_r (wq_p (big := tables_1) [320, 322] (by decide +kernel) w h) (List.all_eq_true.mp (show (u_ws RX1 TX1 2).all goodWord = true from by decide +kernel) w h)
set_option maxRecDepth 100000 in
theorem inX2 : ∀ w ∈ u_ws RX2 TX2 7, w ∈ qtbl := fun w h => wq_r (wq_p (big := tables_1) [242, 244, 246, 248, 250, 252, 254] (by decide +kernel) w h) (List.all_eq_true.mp (show (u_ws RX2 TX2 7).all goodWord = true from by decide +kernel) w h)
set_option maxRecDepth 100000 in
theorem inX3 : ∀ w ∈ u_ws RX3 TX3 2, w ∈ qtbl := fun w h => wq_r (wq_p (big := tables_1) [218, 220] (by decide +kernel) w h) (List.all_eq_true.mp (show (u_ws RX3 TX3 2).all goodWord = true from by decide +kernel) w h)
set_option maxRecDepth 100000 in
theorem inX4 : ∀ w ∈ u_ws RX4 TX4 4, w ∈ qtbl := fun w h => wq_r (wq_p (big := tables_1) [301, 303, 305, 307] (by decide +kernel) w h) (List.all_eq_true.mp (show (u_ws RX4 TX4 4).all goodWord = true from by decide +kernel) w h)
set_option maxRecDepth 100000 in
theorem inX5 : ∀ w ∈ u_ws RX5 TX5 7, w ∈ qtbl := fun w h => wq_r (wq_p (big := tables_1) [65, 67, 69, 71, 73, 75, 77] (by decide +kernel) w h) (List.all_eq_true.mp (show (u_ws RX5 TX5 7).all goodWord = true from by decide +kernel) w h)
set_option maxRecDepth 100000 in
theorem inX6 : ∀ w ∈ u_ws RX6 TX6 15, w ∈ qtbl := fun w h => wq_r (wq_p (big := tables_1) [148, 150, 152, 154, 156, 158, 160, 162, 164, 166, 168, 170, 172, 174, 176] (by decide +kernel) w h) (List.all_eq_true.mp (show (u_ws RX6 TX6 15).all goodWord = true from by decide +kernel) w h)
set_option maxRecDepth 100000 in
theorem inX7 : ∀ w ∈ u_ws RX7 TX7 7, w ∈ qtbl := fun w h => wq_r (wq_p (big := tables_1) [195, 197, 199, 201, 203, 205, 207] (by decide +kernel) w h) (List.all_eq_true.mp (show (u_ws RX7 TX7 7).all goodWord = true from by decide +kernel) w h)
set_option maxRecDepth 100000 in
theorem inX8 : ∀ w ∈ u_ws RX8 TX8 6, w ∈ qtbl := fun w h => wq_r (wq_p (big := tables_1) [276, 278, 280, 282, 284, 286] (by decide +kernel) w h) (List.all_eq_true.mp (show (u_ws RX8 TX8 6).all goodWord = true from by decide +kernel) w h)
set_option maxRecDepth 100000 in
theorem inX9 : ∀ w ∈ u_ws RX9 TX9 8, w ∈ qtbl := fun w h => wq_r (wq_p (big := tables_1) [105, 107, 109, 111, 113, 115, 117, 119] (by decide +kernel) w h) (List.all_eq_true.mp (show (u_ws RX9 TX9 8).all goodWord = true from by decide +kernel) w h)
set_option maxRecDepth 100000 in
theorem inX10 : ∀ w ∈ u_ws RX10 TX10 15, w ∈ qtbl := fun w h => wq_r (wq_p (big := tables_1) [368, 370, 372, 374, 376, 378, 380, 382, 384, 386, 388, 390, 392, 394, 396] (by decide +kernel) w h) (List.all_eq_true.mp (show (u_ws RX10 TX10 15).all goodWord = true from by decide +kernel) w h)
set_option maxRecDepth 100000 in
theorem inX11 : ∀ w ∈ u_ws RX11 TX11 63, w ∈ qtbl := fun w h => wq_r (wq_p (big := tables_1) [1055, 1057, 1059, 1061, 1063, 1065, 1067, 1069, 1071, 1073, 1075, 1077, 1079, 1081, 1083, 1085, 1087, 1089, 1091, 1093, 1095, 1097, 1099, 1101, 1103, 1105, 1107, 1109, 1111, 1113, 1115, 1117, 1119, 1121, 1123, 1125, 1127, 1129, 1131, 1133, 1135, 1137, 1139, 1141, 1143, 1145, 1147, 1149, 1151, 1153, 1155, 1157, 1159, 1161, 1163, 1165, 1167, 1169, 1171, 1173, 1175, 1177, 1179] (by decide +kernel) w h) (List.all_eq_true.mp (show (u_ws RX11 TX11 63).all goodWord = true from by decide +kernel) w h)
theorem wq_0 : Cond.initialized RL ∈ qtbl := wq_r (List.mem_append_left _ (List.mem_of_getElem? (l := tables_1_1) (i := 0) (by decide +kernel))) rfl
theorem wq_1 : Cond.initialized RX10 ∈ qtbl := wq_r (List.mem_append_left _ (List.mem_of_getElem? (l := tables_1_1) (i := 1) (by decide +kernel))) rfl
theorem wq_2 : Cond.initialized RX9 ∈ qtbl := wq_r (List.mem_append_left _ (List.mem_of_getElem? (l := tables_1_1) (i := 2) (by decide +kernel))) rfl
theorem wq_3 : Cond.initialized RJ7 ∈ qtbl := wq_r (List.mem_append_left _ (List.mem_of_getElem? (l := tables_1_1) (i := 3) (by decide +kernel))) rfl
theorem wq_4 : Cond.initialized RX5 ∈ qtbl := wq_r (List.mem_append_left _ (List.mem_of_getElem? (l := tables_1_1) (i := 4) (by decide +kernel))) rfl
theorem wq_5 : Cond.initialized RX6 ∈ qtbl := wq_r (List.mem_append_left _ (List.mem_of_getElem? (l := tables_1_1) (i := 5) (by decide +kernel))) rfl
theorem wq_6 : Cond.initialized RX7 ∈ qtbl := wq_r (List.mem_append_left _ (List.mem_of_getElem? (l := tables_1_1) (i := 6) (by decide +kernel))) rfl
theorem wq_7 : Cond.initialized RX3 ∈ qtbl := wq_r (List.mem_append_left _ (List.mem_of_getElem? (l := tables_1_1) (i := 7) (by decide +kernel))) rfl
theorem wq_8 : Cond.initialized RX2 ∈ qtbl := wq_r (List.mem_append_left _ (List.mem_of_getElem? (l := tables_1_1) (i := 8) (by decide +kernel))) rfl
theorem wq_9 : Cond.initialized RX8 ∈ qtbl := wq_r (List.mem_append_left _ (List.mem_of_getElem? (l := tables_1_1) (i := 9) (by decide +kernel))) rfl
theorem wq_10 : Cond.initialized RX4 ∈ qtbl := wq_r (List.mem_append_left _ (List.mem_of_getElem? (l := tables_1_1) (i := 10) (by decide +kernel))) rfl
theorem wq_11 : Cond.initialized RX1 ∈ qtbl := wq_r (List.mem_append_left _ (List.mem_of_getElem? (l := tables_1_1) (i := 11) (by decide +kernel))) rfl
theorem wq_12 : Cond.initialized RX0 ∈ qtbl := wq_r (List.mem_append_left _ (List.mem_of_getElem? (l := tables_1_1) (i := 12) (by decide +kernel))) rfl
theorem wq_13 : Cond.initialized RX11 ∈ qtbl := wq_r (List.mem_append_left _ (List.mem_of_getElem? (l := tables_1_1) (i := 13) (by decide +kernel))) rfl
theorem wq_14 : Cond.initialized RJ9 ∈ qtbl := wq_r (List.mem_append_left _ (List.mem_of_getElem? (l := tables_1_1) (i := 14) (by decide +kernel))) rfl
theorem wq_15 : Cond.initialized RJ10 ∈ qtbl := wq_r (List.mem_append_left _ (List.mem_of_getElem? (l := tables_1_1) (i := 15) (by decide +kernel))) rfl
theorem wq_16 : Cond.initialized RJ6 ∈ qtbl := wq_r (List.mem_append_left _ (List.mem_of_getElem? (l := tables_1_1) (i := 16) (by decide +kernel))) rfl
theorem wq_17 : Cond.classLink RL 7 RX10 ∈ qtbl := wq_r (List.mem_append_left _ (List.mem_of_getElem? (l := tables_1_1) (i := 17) (by decide +kernel))) rfl
theorem wq_18 : Cond.instantiable RX10 15 ∈ qtbl := wq_r (List.mem_append_left _ (List.mem_of_getElem? (l := tables_1_1) (i := 18) (by decide +kernel))) rfl
theorem wq_19 : Cond.methodLink RL 9 yX10_init ∈ qtbl := wq_r (List.mem_append_left _ (List.mem_of_getElem? (l := tables_1_1) (i := 19) (by decide +kernel))) rfl
theorem wq_20 : Cond.instanceMethod yX10_init ∈ qtbl := wq_r (List.mem_append_left _ (List.mem_of_getElem? (l := tables_1_1) (i := 20) (by decide +kernel))) rfl
theorem wq_21 : Cond.code yX10_init cX10_init 1 (Option.none : Option Jvm.ClassFile.FieldType) ∈ qtbl := wq_r (List.mem_append_left _ (List.mem_of_getElem? (l := tables_1_1) (i := 21) (rfl))) rfl
theorem wq_22 : Cond.methodLink RX10 1 objectInit ∈ qtbl := wq_r (List.mem_append_left _ (List.mem_of_getElem? (l := tables_1_1) (i := 22) (by decide +kernel))) rfl
theorem wq_23 : Cond.instanceMethod objectInit ∈ qtbl := wq_r (List.mem_append_left _ (List.mem_of_getElem? (l := tables_1_1) (i := 23) (by decide +kernel))) rfl
theorem wq_24 : Cond.code objectInit object_method_1_code 1 (Option.none : Option Jvm.ClassFile.FieldType) ∈ qtbl := wq_r (List.mem_append_left _ (List.mem_of_getElem? (l := tables_1_1) (i := 24) (rfl))) rfl
theorem wq_25 : Cond.classLink RX10 7 RX9 ∈ qtbl := wq_r (List.mem_append_left _ (List.mem_of_getElem? (l := tables_1_1) (i := 25) (by decide +kernel))) rfl
theorem wq_26 : Cond.instantiable RX9 8 ∈ qtbl := wq_r (List.mem_append_left _ (List.mem_of_getElem? (l := tables_1_1) (i := 26) (by decide +kernel))) rfl
theorem wq_27 : Cond.methodLink RX10 9 yX9_init ∈ qtbl := wq_r (List.mem_append_left _ (List.mem_of_getElem? (l := tables_1_1) (i := 27) (by decide +kernel))) rfl
theorem wq_28 : Cond.instanceMethod yX9_init ∈ qtbl := wq_r (List.mem_append_left _ (List.mem_of_getElem? (l := tables_1_1) (i := 28) (by decide +kernel))) rfl
theorem wq_29 : Cond.code yX9_init cX9_init 2 (Option.none : Option Jvm.ClassFile.FieldType) ∈ qtbl := wq_r (List.mem_append_left _ (List.mem_of_getElem? (l := tables_1_1) (i := 29) (rfl))) rfl
theorem wq_30 : Cond.methodLink RX9 3 objectInit ∈ qtbl := wq_r (List.mem_append_left _ (List.mem_of_getElem? (l := tables_1_1) (i := 30) (by decide +kernel))) rfl
theorem wq_31 : Cond.classLink RX9 24 RX5 ∈ qtbl := wq_r (List.mem_append_left _ (List.mem_of_getElem? (l := tables_1_1) (i := 31) (by decide +kernel))) rfl
theorem wq_32 : Cond.arrayOver (Jvm.ClassFile.FieldType.object "UncleAges$Line") ∈ lw_tbl := wq_t (List.mem_append_left _ (List.mem_of_getElem? (l := tables_1_1) (i := 32) (by decide +kernel)))
theorem wq_33 : Cond.methodLink RX9 30 yJ7_fill_53178 ∈ qtbl := wq_r (List.mem_append_left _ (List.mem_of_getElem? (l := tables_1_1) (i := 33) (by decide +kernel))) rfl
theorem wq_34 : Cond.static yJ7_fill_53178 ∈ qtbl := wq_r (List.mem_append_left _ (List.mem_of_getElem? (l := tables_1_1) (i := 34) (by decide +kernel))) rfl
theorem wq_35 : Cond.code yJ7_fill_53178 cJ7_fill_53178 4 (Option.none : Option Jvm.ClassFile.FieldType) ∈ qtbl := wq_r (List.mem_append_left _ (List.mem_of_getElem? (l := tables_1_1) (i := 35) (rfl))) rfl
theorem wq_36 : Cond.instantiable RX5 7 ∈ qtbl := wq_r (List.mem_append_left _ (List.mem_of_getElem? (l := tables_1_1) (i := 36) (by decide +kernel))) rfl
theorem wq_37 : Cond.methodLinkNest RX9 36 yX5_init RX10 ∈ lw_tbl := wq_t (List.mem_append_left _ (List.mem_of_getElem? (l := tables_1_1) (i := 37) (by decide +kernel)))
theorem wq_38 : Cond.instanceMethod yX5_init ∈ qtbl := wq_r (List.mem_append_left _ (List.mem_of_getElem? (l := tables_1_1) (i := 38) (by decide +kernel))) rfl
theorem wq_39 : Cond.code yX5_init cX5_init 1 (Option.none : Option Jvm.ClassFile.FieldType) ∈ qtbl := wq_r (List.mem_append_left _ (List.mem_of_getElem? (l := tables_1_1) (i := 39) (rfl))) rfl
theorem wq_40 : Cond.methodLink RX5 3 objectInit ∈ qtbl := wq_r (List.mem_append_left _ (List.mem_of_getElem? (l := tables_1_1) (i := 40) (by decide +kernel))) rfl
theorem wq_41 : Cond.fieldLink RX5 9 "UncleAges$Line" "times" "[I" ∈ qtbl := wq_r (List.mem_append_left _ (List.mem_of_getElem? (l := tables_1_1) (i := 41) (by decide +kernel))) rfl
theorem wq_42 : Cond.fieldLink RX6 83 "UncleAges$Line" "times" "[I" ∈ qtbl := wq_r (List.mem_append_left _ (List.mem_of_getElem? (l := tables_1_1) (i := 42) (by decide +kernel))) rfl
theorem wq_43 : Cond.fieldLink RX2 52 "UncleAges$Line" "times" "[I" ∈ qtbl := wq_r (List.mem_append_left _ (List.mem_of_getElem? (l := tables_1_1) (i := 43) (by decide +kernel))) rfl
theorem wq_44 : Cond.fieldLink RX7 84 "UncleAges$Line" "times" "[I" ∈ qtbl := wq_r (List.mem_append_left _ (List.mem_of_getElem? (l := tables_1_1) (i := 44) (by decide +kernel))) rfl
theorem wq_45 : Cond.fieldLink RX10 379 "UncleAges$Line" "times" "[I" ∈ qtbl := wq_r (List.mem_append_left _ (List.mem_of_getElem? (l := tables_1_1) (i := 45) (by decide +kernel))) rfl
theorem wq_46 : Cond.fieldLink RX5 21 "UncleAges$Line" "number" "I" ∈ qtbl := wq_r (List.mem_append_left _ (List.mem_of_getElem? (l := tables_1_1) (i := 46) (by decide +kernel))) rfl
theorem wq_47 : Cond.fieldLink RX6 86 "UncleAges$Line" "number" "I" ∈ qtbl := wq_r (List.mem_append_left _ (List.mem_of_getElem? (l := tables_1_1) (i := 47) (by decide +kernel))) rfl
theorem wq_48 : Cond.fieldLink RX5 25 "UncleAges$Line" "besides" "I" ∈ qtbl := wq_r (List.mem_append_left _ (List.mem_of_getElem? (l := tables_1_1) (i := 48) (by decide +kernel))) rfl
theorem wq_49 : Cond.fieldLink RX6 89 "UncleAges$Line" "besides" "I" ∈ qtbl := wq_r (List.mem_append_left _ (List.mem_of_getElem? (l := tables_1_1) (i := 49) (by decide +kernel))) rfl
theorem wq_50 : Cond.fieldLink RX2 47 "UncleAges$Line" "besides" "I" ∈ qtbl := wq_r (List.mem_append_left _ (List.mem_of_getElem? (l := tables_1_1) (i := 50) (by decide +kernel))) rfl
theorem wq_51 : Cond.fieldLink RX10 376 "UncleAges$Line" "besides" "I" ∈ qtbl := wq_r (List.mem_append_left _ (List.mem_of_getElem? (l := tables_1_1) (i := 51) (by decide +kernel))) rfl
theorem wq_52 : Cond.fieldLink RX5 28 "UncleAges$Line" "sign" "I" ∈ qtbl := wq_r (List.mem_append_left _ (List.mem_of_getElem? (l := tables_1_1) (i := 52) (by decide +kernel))) rfl
theorem wq_53 : Cond.fieldLink RX6 98 "UncleAges$Line" "sign" "I" ∈ qtbl := wq_r (List.mem_append_left _ (List.mem_of_getElem? (l := tables_1_1) (i := 53) (by decide +kernel))) rfl
theorem wq_54 : Cond.fieldLink RX7 90 "UncleAges$Line" "sign" "I" ∈ qtbl := wq_r (List.mem_append_left _ (List.mem_of_getElem? (l := tables_1_1) (i := 54) (by decide +kernel))) rfl
theorem wq_55 : Cond.fieldLink RX10 382 "UncleAges$Line" "sign" "I" ∈ qtbl := wq_r (List.mem_append_left _ (List.mem_of_getElem? (l := tables_1_1) (i := 55) (by decide +kernel))) rfl
theorem wq_56 : Cond.fieldLink RX5 31 "UncleAges$Line" "divisor" "I" ∈ qtbl := wq_r (List.mem_append_left _ (List.mem_of_getElem? (l := tables_1_1) (i := 56) (by decide +kernel))) rfl
theorem wq_57 : Cond.fieldLink RX6 99 "UncleAges$Line" "divisor" "I" ∈ qtbl := wq_r (List.mem_append_left _ (List.mem_of_getElem? (l := tables_1_1) (i := 57) (by decide +kernel))) rfl
theorem wq_58 : Cond.fieldLink RX10 385 "UncleAges$Line" "divisor" "I" ∈ qtbl := wq_r (List.mem_append_left _ (List.mem_of_getElem? (l := tables_1_1) (i := 58) (by decide +kernel))) rfl
theorem wq_59 : Cond.fieldLink RX5 34 "UncleAges$Line" "year" "I" ∈ qtbl := wq_r (List.mem_append_left _ (List.mem_of_getElem? (l := tables_1_1) (i := 59) (by decide +kernel))) rfl
theorem wq_60 : Cond.fieldLink RX6 103 "UncleAges$Line" "year" "I" ∈ qtbl := wq_r (List.mem_append_left _ (List.mem_of_getElem? (l := tables_1_1) (i := 60) (by decide +kernel))) rfl
theorem wq_61 : Cond.fieldLink RX10 381 "UncleAges$Line" "year" "I" ∈ qtbl := wq_r (List.mem_append_left _ (List.mem_of_getElem? (l := tables_1_1) (i := 61) (by decide +kernel))) rfl
theorem wq_62 : Cond.fieldLink RX5 37 "UncleAges$Line" "people" "I" ∈ qtbl := wq_r (List.mem_append_left _ (List.mem_of_getElem? (l := tables_1_1) (i := 62) (by decide +kernel))) rfl
theorem wq_63 : Cond.fieldLink RX6 104 "UncleAges$Line" "people" "I" ∈ qtbl := wq_r (List.mem_append_left _ (List.mem_of_getElem? (l := tables_1_1) (i := 63) (by decide +kernel))) rfl
theorem wq_64 : Cond.fieldLink RX10 352 "UncleAges$Line" "people" "I" ∈ qtbl := wq_r (List.mem_append_left _ (List.mem_of_getElem? (l := tables_1_1) (i := 64) (by decide +kernel))) rfl
theorem wq_80 : Cond.arrayClass Jvm.ClassFile.FieldType.int ∈ qtbl := wq_r (List.mem_append_left _ (List.mem_of_getElem? (l := tables_1_1) (i := 80) (by decide +kernel))) rfl
theorem wq_81 : Cond.fieldLink RX9 9 "UncleAges$Told" "low" "[I" ∈ qtbl := wq_r (List.mem_append_left _ (List.mem_of_getElem? (l := tables_1_1) (i := 81) (by decide +kernel))) rfl
theorem wq_82 : Cond.fieldLink RX1 18 "UncleAges$Told" "low" "[I" ∈ qtbl := wq_r (List.mem_append_left _ (List.mem_of_getElem? (l := tables_1_1) (i := 82) (by decide +kernel))) rfl
theorem wq_83 : Cond.fieldLink RX10 90 "UncleAges$Told" "low" "[I" ∈ qtbl := wq_r (List.mem_append_left _ (List.mem_of_getElem? (l := tables_1_1) (i := 83) (by decide +kernel))) rfl
theorem wq_84 : Cond.fieldLink RX7 44 "UncleAges$Told" "low" "[I" ∈ qtbl := wq_r (List.mem_append_left _ (List.mem_of_getElem? (l := tables_1_1) (i := 84) (by decide +kernel))) rfl
theorem wq_85 : Cond.fieldLink RX9 15 "UncleAges$Told" "high" "[I" ∈ qtbl := wq_r (List.mem_append_left _ (List.mem_of_getElem? (l := tables_1_1) (i := 85) (by decide +kernel))) rfl
theorem wq_86 : Cond.fieldLink RX1 27 "UncleAges$Told" "high" "[I" ∈ qtbl := wq_r (List.mem_append_left _ (List.mem_of_getElem? (l := tables_1_1) (i := 86) (by decide +kernel))) rfl
theorem wq_87 : Cond.fieldLink RX10 93 "UncleAges$Told" "high" "[I" ∈ qtbl := wq_r (List.mem_append_left _ (List.mem_of_getElem? (l := tables_1_1) (i := 87) (by decide +kernel))) rfl
theorem wq_88 : Cond.fieldLink RX7 77 "UncleAges$Told" "high" "[I" ∈ qtbl := wq_r (List.mem_append_left _ (List.mem_of_getElem? (l := tables_1_1) (i := 88) (by decide +kernel))) rfl
theorem wq_89 : Cond.fieldLink RX9 18 "UncleAges$Told" "dead" "[I" ∈ qtbl := wq_r (List.mem_append_left _ (List.mem_of_getElem? (l := tables_1_1) (i := 89) (by decide +kernel))) rfl
theorem wq_90 : Cond.fieldLink RX10 96 "UncleAges$Told" "dead" "[I" ∈ qtbl := wq_r (List.mem_append_left _ (List.mem_of_getElem? (l := tables_1_1) (i := 90) (by decide +kernel))) rfl
theorem wq_91 : Cond.fieldLink RX9 21 "UncleAges$Told" "older" "[I" ∈ qtbl := wq_r (List.mem_append_left _ (List.mem_of_getElem? (l := tables_1_1) (i := 91) (by decide +kernel))) rfl
theorem wq_92 : Cond.fieldLink RX1 36 "UncleAges$Told" "older" "[I" ∈ qtbl := wq_r (List.mem_append_left _ (List.mem_of_getElem? (l := tables_1_1) (i := 92) (by decide +kernel))) rfl
theorem wq_93 : Cond.fieldLink RX10 159 "UncleAges$Told" "older" "[I" ∈ qtbl := wq_r (List.mem_append_left _ (List.mem_of_getElem? (l := tables_1_1) (i := 93) (by decide +kernel))) rfl
theorem wq_94 : Cond.fieldLink RX9 26 "UncleAges$Told" "lines" "[LUncleAges$Line;" ∈ qtbl := wq_r (List.mem_append_left _ (List.mem_of_getElem? (l := tables_1_1) (i := 94) (by decide +kernel))) rfl
theorem wq_95 : Cond.fieldLink RX7 50 "UncleAges$Told" "lines" "[LUncleAges$Line;" ∈ qtbl := wq_r (List.mem_append_left _ (List.mem_of_getElem? (l := tables_1_1) (i := 95) (by decide +kernel))) rfl
theorem wq_96 : Cond.fieldLink RX4 53 "UncleAges$Told" "lines" "[LUncleAges$Line;" ∈ qtbl := wq_r (List.mem_append_left _ (List.mem_of_getElem? (l := tables_1_1) (i := 96) (by decide +kernel))) rfl
theorem wq_97 : Cond.fieldLink RX10 138 "UncleAges$Told" "lines" "[LUncleAges$Line;" ∈ qtbl := wq_r (List.mem_append_left _ (List.mem_of_getElem? (l := tables_1_1) (i := 97) (by decide +kernel))) rfl
theorem wq_98 : Cond.fieldLink RX10 99 "UncleAges$Told" "people" "I" ∈ qtbl := wq_r (List.mem_append_left _ (List.mem_of_getElem? (l := tables_1_1) (i := 98) (by decide +kernel))) rfl
theorem wq_99 : Cond.fieldLink RX9 47 "UncleAges$Told" "people" "I" ∈ qtbl := wq_r (List.mem_append_left _ (List.mem_of_getElem? (l := tables_1_1) (i := 99) (by decide +kernel))) rfl
theorem wq_100 : Cond.fieldLink RX9 51 "UncleAges$Told" "said" "I" ∈ qtbl := wq_r (List.mem_append_left _ (List.mem_of_getElem? (l := tables_1_1) (i := 100) (by decide +kernel))) rfl
theorem wq_101 : Cond.fieldLink RX10 146 "UncleAges$Told" "said" "I" ∈ qtbl := wq_r (List.mem_append_left _ (List.mem_of_getElem? (l := tables_1_1) (i := 101) (by decide +kernel))) rfl
theorem wq_102 : Cond.fieldLink RX9 54 "UncleAges$Told" "year" "I" ∈ qtbl := wq_r (List.mem_append_left _ (List.mem_of_getElem? (l := tables_1_1) (i := 102) (by decide +kernel))) rfl
theorem wq_103 : Cond.fieldLink RX6 100 "UncleAges$Told" "year" "I" ∈ qtbl := wq_r (List.mem_append_left _ (List.mem_of_getElem? (l := tables_1_1) (i := 103) (by decide +kernel))) rfl
theorem wq_104 : Cond.fieldLink RX10 110 "UncleAges$Told" "year" "I" ∈ qtbl := wq_r (List.mem_append_left _ (List.mem_of_getElem? (l := tables_1_1) (i := 104) (by decide +kernel))) rfl
theorem wq_122 : Cond.classLink RX10 23 RX6 ∈ qtbl := wq_r (List.mem_append_left _ (List.mem_of_getElem? (l := tables_1_1) (i := 122) (by decide +kernel))) rfl
theorem wq_123 : Cond.instantiable RX6 15 ∈ qtbl := wq_r (List.mem_append_left _ (List.mem_of_getElem? (l := tables_1_1) (i := 123) (by decide +kernel))) rfl
theorem wq_124 : Cond.methodLink RX10 25 yX6_init ∈ qtbl := wq_r (List.mem_append_left _ (List.mem_of_getElem? (l := tables_1_1) (i := 124) (by decide +kernel))) rfl
theorem wq_125 : Cond.instanceMethod yX6_init ∈ qtbl := wq_r (List.mem_append_left _ (List.mem_of_getElem? (l := tables_1_1) (i := 125) (by decide +kernel))) rfl
theorem wq_126 : Cond.code yX6_init cX6_init 2 (Option.none : Option Jvm.ClassFile.FieldType) ∈ qtbl := wq_r (List.mem_append_left _ (List.mem_of_getElem? (l := tables_1_1) (i := 126) (rfl))) rfl
theorem wq_127 : Cond.methodLink RX6 3 objectInit ∈ qtbl := wq_r (List.mem_append_left _ (List.mem_of_getElem? (l := tables_1_1) (i := 127) (by decide +kernel))) rfl
theorem wq_128 : Cond.classLink RX6 11 "[[I" ∈ qtbl := wq_r (List.mem_append_left _ (List.mem_of_getElem? (l := tables_1_1) (i := 128) (by decide +kernel))) rfl
theorem wq_129 : Cond.arrayOver (Jvm.ClassFile.FieldType.array Jvm.ClassFile.FieldType.int) ∈ lw_tbl := wq_t (List.mem_append_left _ (List.mem_of_getElem? (l := tables_1_1) (i := 129) (by decide +kernel)))
theorem wq_130 : Cond.fieldLink RX6 26 "UncleAges$Reader" "text" "[I" ∈ qtbl := wq_r (List.mem_append_left _ (List.mem_of_getElem? (l := tables_1_1) (i := 130) (by decide +kernel))) rfl
theorem wq_131 : Cond.fieldLink RX6 13 "UncleAges$Reader" "sides" "[[I" ∈ qtbl := wq_r (List.mem_append_left _ (List.mem_of_getElem? (l := tables_1_1) (i := 131) (by decide +kernel))) rfl
theorem wq_132 : Cond.fieldLink RX6 16 "UncleAges$Reader" "terms" "[[I" ∈ qtbl := wq_r (List.mem_append_left _ (List.mem_of_getElem? (l := tables_1_1) (i := 132) (by decide +kernel))) rfl
theorem wq_133 : Cond.fieldLink RX6 19 "UncleAges$Reader" "factors" "[[I" ∈ qtbl := wq_r (List.mem_append_left _ (List.mem_of_getElem? (l := tables_1_1) (i := 133) (by decide +kernel))) rfl
theorem wq_134 : Cond.fieldLink RX6 22 "UncleAges$Reader" "sum" "[I" ∈ qtbl := wq_r (List.mem_append_left _ (List.mem_of_getElem? (l := tables_1_1) (i := 134) (by decide +kernel))) rfl
theorem wq_135 : Cond.fieldLink RX6 35 "UncleAges$Reader" "end" "I" ∈ qtbl := wq_r (List.mem_append_left _ (List.mem_of_getElem? (l := tables_1_1) (i := 135) (by decide +kernel))) rfl
theorem wq_136 : Cond.fieldLink RX6 42 "UncleAges$Reader" "at" "I" ∈ qtbl := wq_r (List.mem_append_left _ (List.mem_of_getElem? (l := tables_1_1) (i := 136) (by decide +kernel))) rfl
theorem wq_137 : Cond.fieldLink RX6 39 "UncleAges$Reader" "known" "I" ∈ qtbl := wq_r (List.mem_append_left _ (List.mem_of_getElem? (l := tables_1_1) (i := 137) (by decide +kernel))) rfl
theorem wq_138 : Cond.fieldLink RX6 45 "UncleAges$Reader" "letters" "I" ∈ qtbl := wq_r (List.mem_append_left _ (List.mem_of_getElem? (l := tables_1_1) (i := 138) (by decide +kernel))) rfl
theorem wq_139 : Cond.fieldLink RX6 119 "UncleAges$Reader" "numberRead" "I" ∈ qtbl := wq_r (List.mem_append_left _ (List.mem_of_getElem? (l := tables_1_1) (i := 139) (by decide +kernel))) rfl
theorem wq_140 : Cond.fieldLink RX6 48 "UncleAges$Reader" "people" "I" ∈ qtbl := wq_r (List.mem_append_left _ (List.mem_of_getElem? (l := tables_1_1) (i := 140) (by decide +kernel))) rfl
theorem wq_141 : Cond.fieldLink RX10 149 "UncleAges$Reader" "people" "I" ∈ qtbl := wq_r (List.mem_append_left _ (List.mem_of_getElem? (l := tables_1_1) (i := 141) (by decide +kernel))) rfl
theorem wq_142 : Cond.fieldLink RX6 53 "UncleAges$Reader" "sign" "I" ∈ qtbl := wq_r (List.mem_append_left _ (List.mem_of_getElem? (l := tables_1_1) (i := 142) (by decide +kernel))) rfl
theorem wq_143 : Cond.fieldLink RX6 56 "UncleAges$Reader" "divisor" "I" ∈ qtbl := wq_r (List.mem_append_left _ (List.mem_of_getElem? (l := tables_1_1) (i := 143) (by decide +kernel))) rfl
theorem wq_144 : Cond.fieldLink RX6 59 "UncleAges$Reader" "fault" "I" ∈ qtbl := wq_r (List.mem_append_left _ (List.mem_of_getElem? (l := tables_1_1) (i := 144) (by decide +kernel))) rfl
theorem wq_145 : Cond.fieldLink RX10 132 "UncleAges$Reader" "fault" "I" ∈ qtbl := wq_r (List.mem_append_left _ (List.mem_of_getElem? (l := tables_1_1) (i := 145) (by decide +kernel))) rfl
theorem wq_146 : Cond.fieldLink RX6 62 "UncleAges$Reader" "place" "I" ∈ qtbl := wq_r (List.mem_append_left _ (List.mem_of_getElem? (l := tables_1_1) (i := 146) (by decide +kernel))) rfl
theorem wq_147 : Cond.fieldLink RX10 135 "UncleAges$Reader" "place" "I" ∈ qtbl := wq_r (List.mem_append_left _ (List.mem_of_getElem? (l := tables_1_1) (i := 147) (by decide +kernel))) rfl
theorem wq_179 : Cond.classLink RX10 32 RX7 ∈ qtbl := wq_r (List.mem_append_left _ (List.mem_of_getElem? (l := tables_1_1) (i := 179) (by decide +kernel))) rfl
theorem wq_180 : Cond.instantiable RX7 7 ∈ qtbl := wq_r (List.mem_append_left _ (List.mem_of_getElem? (l := tables_1_1) (i := 180) (by decide +kernel))) rfl
theorem wq_181 : Cond.methodLink RX10 34 yX7_init ∈ qtbl := wq_r (List.mem_append_left _ (List.mem_of_getElem? (l := tables_1_1) (i := 181) (by decide +kernel))) rfl
theorem wq_182 : Cond.instanceMethod yX7_init ∈ qtbl := wq_r (List.mem_append_left _ (List.mem_of_getElem? (l := tables_1_1) (i := 182) (by decide +kernel))) rfl
theorem wq_183 : Cond.code yX7_init cX7_init 2 (Option.none : Option Jvm.ClassFile.FieldType) ∈ qtbl := wq_r (List.mem_append_left _ (List.mem_of_getElem? (l := tables_1_1) (i := 183) (rfl))) rfl
theorem wq_184 : Cond.methodLink RX7 3 objectInit ∈ qtbl := wq_r (List.mem_append_left _ (List.mem_of_getElem? (l := tables_1_1) (i := 184) (by decide +kernel))) rfl
theorem wq_185 : Cond.fieldLink RX7 21 "UncleAges$Rows" "told" "LUncleAges$Told;" ∈ qtbl := wq_r (List.mem_append_left _ (List.mem_of_getElem? (l := tables_1_1) (i := 185) (by decide +kernel))) rfl
theorem wq_186 : Cond.fieldLink RX3 19 "UncleAges$Rows" "told" "LUncleAges$Told;" ∈ qtbl := wq_r (List.mem_append_left _ (List.mem_of_getElem? (l := tables_1_1) (i := 186) (by decide +kernel))) rfl
theorem wq_187 : Cond.fieldLink RX7 9 "UncleAges$Rows" "age" "[I" ∈ qtbl := wq_r (List.mem_append_left _ (List.mem_of_getElem? (l := tables_1_1) (i := 187) (by decide +kernel))) rfl
theorem wq_188 : Cond.fieldLink RX2 38 "UncleAges$Rows" "age" "[I" ∈ qtbl := wq_r (List.mem_append_left _ (List.mem_of_getElem? (l := tables_1_1) (i := 188) (by decide +kernel))) rfl
theorem wq_189 : Cond.fieldLink RX10 188 "UncleAges$Rows" "age" "[I" ∈ qtbl := wq_r (List.mem_append_left _ (List.mem_of_getElem? (l := tables_1_1) (i := 189) (by decide +kernel))) rfl
theorem wq_190 : Cond.fieldLink RX7 15 "UncleAges$Rows" "asked" "[I" ∈ qtbl := wq_r (List.mem_append_left _ (List.mem_of_getElem? (l := tables_1_1) (i := 190) (by decide +kernel))) rfl
theorem wq_191 : Cond.fieldLink RX7 18 "UncleAges$Rows" "value" "[I" ∈ qtbl := wq_r (List.mem_append_left _ (List.mem_of_getElem? (l := tables_1_1) (i := 191) (by decide +kernel))) rfl
theorem wq_192 : Cond.fieldLink RX7 47 "UncleAges$Rows" "askedMany" "I" ∈ qtbl := wq_r (List.mem_append_left _ (List.mem_of_getElem? (l := tables_1_1) (i := 192) (by decide +kernel))) rfl
theorem wq_193 : Cond.fieldLink RX7 33 "UncleAges$Rows" "all" "I" ∈ qtbl := wq_r (List.mem_append_left _ (List.mem_of_getElem? (l := tables_1_1) (i := 193) (by decide +kernel))) rfl
theorem wq_194 : Cond.fieldLink RX7 37 "UncleAges$Rows" "done" "I" ∈ qtbl := wq_r (List.mem_append_left _ (List.mem_of_getElem? (l := tables_1_1) (i := 194) (by decide +kernel))) rfl
theorem wq_210 : Cond.classLink RX10 41 RX3 ∈ qtbl := wq_r (List.mem_append_left _ (List.mem_of_getElem? (l := tables_1_1) (i := 210) (by decide +kernel))) rfl
theorem wq_211 : Cond.instantiable RX3 2 ∈ qtbl := wq_r (List.mem_append_left _ (List.mem_of_getElem? (l := tables_1_1) (i := 211) (by decide +kernel))) rfl
theorem wq_212 : Cond.methodLinkNest RX10 43 yX3_init RX10 ∈ lw_tbl := wq_t (List.mem_append_left _ (List.mem_of_getElem? (l := tables_1_1) (i := 212) (by decide +kernel)))
theorem wq_213 : Cond.instanceMethod yX3_init ∈ qtbl := wq_r (List.mem_append_left _ (List.mem_of_getElem? (l := tables_1_1) (i := 213) (by decide +kernel))) rfl
theorem wq_214 : Cond.code yX3_init cX3_init 1 (Option.none : Option Jvm.ClassFile.FieldType) ∈ qtbl := wq_r (List.mem_append_left _ (List.mem_of_getElem? (l := tables_1_1) (i := 214) (rfl))) rfl
theorem wq_215 : Cond.methodLink RX3 3 objectInit ∈ qtbl := wq_r (List.mem_append_left _ (List.mem_of_getElem? (l := tables_1_1) (i := 215) (by decide +kernel))) rfl
theorem wq_216 : Cond.fieldLink RX3 9 "UncleAges$Fits" "many" "[I" ∈ qtbl := wq_r (List.mem_append_left _ (List.mem_of_getElem? (l := tables_1_1) (i := 216) (by decide +kernel))) rfl
theorem wq_217 : Cond.fieldLink RX3 15 "UncleAges$Fits" "counted" "Z" ∈ qtbl := wq_r (List.mem_append_left _ (List.mem_of_getElem? (l := tables_1_1) (i := 217) (by decide +kernel))) rfl
theorem wq_223 : Cond.classLink RX10 48 RX2 ∈ qtbl := wq_r (List.mem_append_left _ (List.mem_of_getElem? (l := tables_1_1) (i := 223) (by decide +kernel))) rfl
theorem wq_224 : Cond.instantiable RX2 7 ∈ qtbl := wq_r (List.mem_append_left _ (List.mem_of_getElem? (l := tables_1_1) (i := 224) (by decide +kernel))) rfl
theorem wq_225 : Cond.methodLinkNest RX10 50 yX2_init RX10 ∈ lw_tbl := wq_t (List.mem_append_left _ (List.mem_of_getElem? (l := tables_1_1) (i := 225) (by decide +kernel)))
theorem wq_226 : Cond.instanceMethod yX2_init ∈ qtbl := wq_r (List.mem_append_left _ (List.mem_of_getElem? (l := tables_1_1) (i := 226) (by decide +kernel))) rfl
theorem wq_227 : Cond.code yX2_init cX2_init 1 (Option.none : Option Jvm.ClassFile.FieldType) ∈ qtbl := wq_r (List.mem_append_left _ (List.mem_of_getElem? (l := tables_1_1) (i := 227) (rfl))) rfl
theorem wq_228 : Cond.methodLink RX2 3 objectInit ∈ qtbl := wq_r (List.mem_append_left _ (List.mem_of_getElem? (l := tables_1_1) (i := 228) (by decide +kernel))) rfl
theorem wq_229 : Cond.fieldLink RX2 9 "UncleAges$Few" "ages" "[I" ∈ qtbl := wq_r (List.mem_append_left _ (List.mem_of_getElem? (l := tables_1_1) (i := 229) (by decide +kernel))) rfl
theorem wq_230 : Cond.fieldLink RX10 287 "UncleAges$Few" "ages" "[I" ∈ qtbl := wq_r (List.mem_append_left _ (List.mem_of_getElem? (l := tables_1_1) (i := 230) (by decide +kernel))) rfl
theorem wq_231 : Cond.fieldLink RX2 15 "UncleAges$Few" "heard" "[J" ∈ qtbl := wq_r (List.mem_append_left _ (List.mem_of_getElem? (l := tables_1_1) (i := 231) (by decide +kernel))) rfl
theorem wq_232 : Cond.fieldLink RX2 19 "UncleAges$Few" "isAlone" "[Z" ∈ qtbl := wq_r (List.mem_append_left _ (List.mem_of_getElem? (l := tables_1_1) (i := 232) (by decide +kernel))) rfl
theorem wq_233 : Cond.fieldLink RX2 23 "UncleAges$Few" "many" "I" ∈ qtbl := wq_r (List.mem_append_left _ (List.mem_of_getElem? (l := tables_1_1) (i := 233) (by decide +kernel))) rfl
theorem wq_234 : Cond.fieldLink RX8 63 "UncleAges$Few" "many" "I" ∈ qtbl := wq_r (List.mem_append_left _ (List.mem_of_getElem? (l := tables_1_1) (i := 234) (by decide +kernel))) rfl
theorem wq_235 : Cond.fieldLink RX10 274 "UncleAges$Few" "many" "I" ∈ qtbl := wq_r (List.mem_append_left _ (List.mem_of_getElem? (l := tables_1_1) (i := 235) (by decide +kernel))) rfl
theorem wq_236 : Cond.fieldLink RX2 71 "UncleAges$Few" "numbers" "I" ∈ qtbl := wq_r (List.mem_append_left _ (List.mem_of_getElem? (l := tables_1_1) (i := 236) (by decide +kernel))) rfl
theorem wq_237 : Cond.fieldLink RX10 268 "UncleAges$Few" "numbers" "I" ∈ qtbl := wq_r (List.mem_append_left _ (List.mem_of_getElem? (l := tables_1_1) (i := 237) (by decide +kernel))) rfl
theorem wq_238 : Cond.fieldLink RX2 74 "UncleAges$Few" "times" "I" ∈ qtbl := wq_r (List.mem_append_left _ (List.mem_of_getElem? (l := tables_1_1) (i := 238) (by decide +kernel))) rfl
theorem wq_239 : Cond.fieldLink RX10 271 "UncleAges$Few" "times" "I" ∈ qtbl := wq_r (List.mem_append_left _ (List.mem_of_getElem? (l := tables_1_1) (i := 239) (by decide +kernel))) rfl
theorem wq_240 : Cond.fieldLink RX2 76 "UncleAges$Few" "number" "I" ∈ qtbl := wq_r (List.mem_append_right _ (List.mem_append_left _ (List.mem_of_getElem? (l := tables_1_2) (i := 0) (by decide +kernel)))) rfl
theorem wq_241 : Cond.fieldLink RX10 277 "UncleAges$Few" "number" "I" ∈ qtbl := wq_r (List.mem_append_right _ (List.mem_append_left _ (List.mem_of_getElem? (l := tables_1_2) (i := 1) (by decide +kernel)))) rfl
theorem wq_257 : Cond.arrayClass Jvm.ClassFile.FieldType.long ∈ qtbl := wq_r (List.mem_append_right _ (List.mem_append_left _ (List.mem_of_getElem? (l := tables_1_2) (i := 17) (by decide +kernel)))) rfl
theorem wq_258 : Cond.arrayClass Jvm.ClassFile.FieldType.boolean ∈ qtbl := wq_r (List.mem_append_right _ (List.mem_append_left _ (List.mem_of_getElem? (l := tables_1_2) (i := 18) (by decide +kernel)))) rfl
theorem wq_259 : Cond.classLink RX10 55 RX8 ∈ qtbl := wq_r (List.mem_append_right _ (List.mem_append_left _ (List.mem_of_getElem? (l := tables_1_2) (i := 19) (by decide +kernel)))) rfl
theorem wq_260 : Cond.instantiable RX8 6 ∈ qtbl := wq_r (List.mem_append_right _ (List.mem_append_left _ (List.mem_of_getElem? (l := tables_1_2) (i := 20) (by decide +kernel)))) rfl
theorem wq_261 : Cond.methodLinkNest RX10 57 yX8_init RX10 ∈ lw_tbl := wq_t (List.mem_append_right _ (List.mem_append_left _ (List.mem_of_getElem? (l := tables_1_2) (i := 21) (by decide +kernel))))
theorem wq_262 : Cond.instanceMethod yX8_init ∈ qtbl := wq_r (List.mem_append_right _ (List.mem_append_left _ (List.mem_of_getElem? (l := tables_1_2) (i := 22) (by decide +kernel)))) rfl
theorem wq_263 : Cond.code yX8_init cX8_init 1 (Option.none : Option Jvm.ClassFile.FieldType) ∈ qtbl := wq_r (List.mem_append_right _ (List.mem_append_left _ (List.mem_of_getElem? (l := tables_1_2) (i := 23) (rfl)))) rfl
theorem wq_264 : Cond.methodLink RX8 3 objectInit ∈ qtbl := wq_r (List.mem_append_right _ (List.mem_append_left _ (List.mem_of_getElem? (l := tables_1_2) (i := 24) (by decide +kernel)))) rfl
theorem wq_265 : Cond.fieldLink RX8 9 "UncleAges$Shortest" "now" "[I" ∈ qtbl := wq_r (List.mem_append_right _ (List.mem_append_left _ (List.mem_of_getElem? (l := tables_1_2) (i := 25) (by decide +kernel)))) rfl
theorem wq_266 : Cond.fieldLink RX8 15 "UncleAges$Shortest" "signs" "I" ∈ qtbl := wq_r (List.mem_append_right _ (List.mem_append_left _ (List.mem_of_getElem? (l := tables_1_2) (i := 26) (by decide +kernel)))) rfl
theorem wq_267 : Cond.fieldLink RX10 324 "UncleAges$Shortest" "signs" "I" ∈ qtbl := wq_r (List.mem_append_right _ (List.mem_append_left _ (List.mem_of_getElem? (l := tables_1_2) (i := 27) (by decide +kernel)))) rfl
theorem wq_268 : Cond.fieldLink RX8 51 "UncleAges$Shortest" "sort" "I" ∈ qtbl := wq_r (List.mem_append_right _ (List.mem_append_left _ (List.mem_of_getElem? (l := tables_1_2) (i := 28) (by decide +kernel)))) rfl
theorem wq_269 : Cond.fieldLink RX10 327 "UncleAges$Shortest" "sort" "I" ∈ qtbl := wq_r (List.mem_append_right _ (List.mem_append_left _ (List.mem_of_getElem? (l := tables_1_2) (i := 29) (by decide +kernel)))) rfl
theorem wq_270 : Cond.fieldLink RX8 54 "UncleAges$Shortest" "first" "I" ∈ qtbl := wq_r (List.mem_append_right _ (List.mem_append_left _ (List.mem_of_getElem? (l := tables_1_2) (i := 30) (by decide +kernel)))) rfl
theorem wq_271 : Cond.fieldLink RX10 330 "UncleAges$Shortest" "first" "I" ∈ qtbl := wq_r (List.mem_append_right _ (List.mem_append_left _ (List.mem_of_getElem? (l := tables_1_2) (i := 31) (by decide +kernel)))) rfl
theorem wq_272 : Cond.fieldLink RX8 57 "UncleAges$Shortest" "second" "I" ∈ qtbl := wq_r (List.mem_append_right _ (List.mem_append_left _ (List.mem_of_getElem? (l := tables_1_2) (i := 32) (by decide +kernel)))) rfl
theorem wq_273 : Cond.fieldLink RX10 333 "UncleAges$Shortest" "second" "I" ∈ qtbl := wq_r (List.mem_append_right _ (List.mem_append_left _ (List.mem_of_getElem? (l := tables_1_2) (i := 33) (by decide +kernel)))) rfl
theorem wq_274 : Cond.fieldLink RX8 60 "UncleAges$Shortest" "number" "I" ∈ qtbl := wq_r (List.mem_append_right _ (List.mem_append_left _ (List.mem_of_getElem? (l := tables_1_2) (i := 34) (by decide +kernel)))) rfl
theorem wq_275 : Cond.fieldLink RX10 336 "UncleAges$Shortest" "number" "I" ∈ qtbl := wq_r (List.mem_append_right _ (List.mem_append_left _ (List.mem_of_getElem? (l := tables_1_2) (i := 35) (by decide +kernel)))) rfl
theorem wq_289 : Cond.classLink RX10 62 RX4 ∈ qtbl := wq_r (List.mem_append_right _ (List.mem_append_left _ (List.mem_of_getElem? (l := tables_1_2) (i := 49) (by decide +kernel)))) rfl
theorem wq_290 : Cond.instantiable RX4 4 ∈ qtbl := wq_r (List.mem_append_right _ (List.mem_append_left _ (List.mem_of_getElem? (l := tables_1_2) (i := 50) (by decide +kernel)))) rfl
theorem wq_291 : Cond.methodLinkNest RX10 64 yX4_init RX10 ∈ lw_tbl := wq_t (List.mem_append_right _ (List.mem_append_left _ (List.mem_of_getElem? (l := tables_1_2) (i := 51) (by decide +kernel))))
theorem wq_292 : Cond.instanceMethod yX4_init ∈ qtbl := wq_r (List.mem_append_right _ (List.mem_append_left _ (List.mem_of_getElem? (l := tables_1_2) (i := 52) (by decide +kernel)))) rfl
theorem wq_293 : Cond.code yX4_init cX4_init 1 (Option.none : Option Jvm.ClassFile.FieldType) ∈ qtbl := wq_r (List.mem_append_right _ (List.mem_append_left _ (List.mem_of_getElem? (l := tables_1_2) (i := 53) (rfl)))) rfl
theorem wq_294 : Cond.methodLink RX4 3 objectInit ∈ qtbl := wq_r (List.mem_append_right _ (List.mem_append_left _ (List.mem_of_getElem? (l := tables_1_2) (i := 54) (by decide +kernel)))) rfl
theorem wq_295 : Cond.fieldLink RX4 9 "UncleAges$Giving" "place" "[I" ∈ qtbl := wq_r (List.mem_append_right _ (List.mem_append_left _ (List.mem_of_getElem? (l := tables_1_2) (i := 55) (by decide +kernel)))) rfl
theorem wq_296 : Cond.fieldLink RX4 15 "UncleAges$Giving" "age" "[I" ∈ qtbl := wq_r (List.mem_append_right _ (List.mem_append_left _ (List.mem_of_getElem? (l := tables_1_2) (i := 56) (by decide +kernel)))) rfl
theorem wq_297 : Cond.fieldLink RX4 18 "UncleAges$Giving" "least" "[I" ∈ qtbl := wq_r (List.mem_append_right _ (List.mem_append_left _ (List.mem_of_getElem? (l := tables_1_2) (i := 57) (by decide +kernel)))) rfl
theorem wq_298 : Cond.fieldLink RX10 349 "UncleAges$Giving" "least" "[I" ∈ qtbl := wq_r (List.mem_append_right _ (List.mem_append_left _ (List.mem_of_getElem? (l := tables_1_2) (i := 58) (by decide +kernel)))) rfl
theorem wq_299 : Cond.fieldLink RX4 33 "UncleAges$Giving" "ways" "I" ∈ qtbl := wq_r (List.mem_append_right _ (List.mem_append_left _ (List.mem_of_getElem? (l := tables_1_2) (i := 59) (by decide +kernel)))) rfl
theorem wq_300 : Cond.fieldLink RX10 347 "UncleAges$Giving" "ways" "I" ∈ qtbl := wq_r (List.mem_append_right _ (List.mem_append_left _ (List.mem_of_getElem? (l := tables_1_2) (i := 60) (by decide +kernel)))) rfl
theorem wq_310 : Cond.classLink RX10 69 RX1 ∈ qtbl := wq_r (List.mem_append_right _ (List.mem_append_left _ (List.mem_of_getElem? (l := tables_1_2) (i := 70) (by decide +kernel)))) rfl
theorem wq_311 : Cond.instantiable RX1 2 ∈ qtbl := wq_r (List.mem_append_right _ (List.mem_append_left _ (List.mem_of_getElem? (l := tables_1_2) (i := 71) (by decide +kernel)))) rfl
theorem wq_312 : Cond.methodLinkNest RX10 71 yX1_init RX10 ∈ lw_tbl := wq_t (List.mem_append_right _ (List.mem_append_left _ (List.mem_of_getElem? (l := tables_1_2) (i := 72) (by decide +kernel))))
theorem wq_313 : Cond.instanceMethod yX1_init ∈ qtbl := wq_r (List.mem_append_right _ (List.mem_append_left _ (List.mem_of_getElem? (l := tables_1_2) (i := 73) (by decide +kernel)))) rfl
theorem wq_314 : Cond.code yX1_init cX1_init 1 (Option.none : Option Jvm.ClassFile.FieldType) ∈ qtbl := wq_r (List.mem_append_right _ (List.mem_append_left _ (List.mem_of_getElem? (l := tables_1_2) (i := 74) (rfl)))) rfl
theorem wq_315 : Cond.methodLink RX1 3 objectInit ∈ qtbl := wq_r (List.mem_append_right _ (List.mem_append_left _ (List.mem_of_getElem? (l := tables_1_2) (i := 75) (by decide +kernel)))) rfl
theorem wq_316 : Cond.fieldLink RX1 9 "UncleAges$Family" "low" "[I" ∈ qtbl := wq_r (List.mem_append_right _ (List.mem_append_left _ (List.mem_of_getElem? (l := tables_1_2) (i := 76) (by decide +kernel)))) rfl
theorem wq_317 : Cond.fieldLink RX10 357 "UncleAges$Family" "low" "[I" ∈ qtbl := wq_r (List.mem_append_right _ (List.mem_append_left _ (List.mem_of_getElem? (l := tables_1_2) (i := 77) (by decide +kernel)))) rfl
theorem wq_318 : Cond.fieldLink RX1 15 "UncleAges$Family" "high" "[I" ∈ qtbl := wq_r (List.mem_append_right _ (List.mem_append_left _ (List.mem_of_getElem? (l := tables_1_2) (i := 78) (by decide +kernel)))) rfl
theorem wq_319 : Cond.fieldLink RX10 358 "UncleAges$Family" "high" "[I" ∈ qtbl := wq_r (List.mem_append_right _ (List.mem_append_left _ (List.mem_of_getElem? (l := tables_1_2) (i := 79) (by decide +kernel)))) rfl
theorem wq_325 : Cond.classLink RX10 76 RX0 ∈ qtbl := wq_r (List.mem_append_right _ (List.mem_append_left _ (List.mem_of_getElem? (l := tables_1_2) (i := 85) (by decide +kernel)))) rfl
theorem wq_326 : Cond.instantiable RX0 7 ∈ qtbl := wq_r (List.mem_append_right _ (List.mem_append_left _ (List.mem_of_getElem? (l := tables_1_2) (i := 86) (by decide +kernel)))) rfl
theorem wq_327 : Cond.methodLinkNest RX10 78 yX0_init RX10 ∈ lw_tbl := wq_t (List.mem_append_right _ (List.mem_append_left _ (List.mem_of_getElem? (l := tables_1_2) (i := 87) (by decide +kernel))))
theorem wq_328 : Cond.instanceMethod yX0_init ∈ qtbl := wq_r (List.mem_append_right _ (List.mem_append_left _ (List.mem_of_getElem? (l := tables_1_2) (i := 88) (by decide +kernel)))) rfl
theorem wq_329 : Cond.code yX0_init cX0_init 1 (Option.none : Option Jvm.ClassFile.FieldType) ∈ qtbl := wq_r (List.mem_append_right _ (List.mem_append_left _ (List.mem_of_getElem? (l := tables_1_2) (i := 89) (rfl)))) rfl
theorem wq_330 : Cond.methodLink RX0 5 objectInit ∈ qtbl := wq_r (List.mem_append_right _ (List.mem_append_left _ (List.mem_of_getElem? (l := tables_1_2) (i := 90) (by decide +kernel)))) rfl
theorem wq_331 : Cond.fieldLink RX0 11 "UncleAges$Casks" "size" "[I" ∈ qtbl := wq_r (List.mem_append_right _ (List.mem_append_left _ (List.mem_of_getElem? (l := tables_1_2) (i := 91) (by decide +kernel)))) rfl
theorem wq_332 : Cond.fieldLink RX0 15 "UncleAges$Casks" "first" "[I" ∈ qtbl := wq_r (List.mem_append_right _ (List.mem_append_left _ (List.mem_of_getElem? (l := tables_1_2) (i := 92) (by decide +kernel)))) rfl
theorem wq_333 : Cond.fieldLink RX0 18 "UncleAges$Casks" "now" "[I" ∈ qtbl := wq_r (List.mem_append_right _ (List.mem_append_left _ (List.mem_of_getElem? (l := tables_1_2) (i := 93) (by decide +kernel)))) rfl
theorem wq_334 : Cond.fieldLink RX0 21 "UncleAges$Casks" "next" "[I" ∈ qtbl := wq_r (List.mem_append_right _ (List.mem_append_left _ (List.mem_of_getElem? (l := tables_1_2) (i := 94) (by decide +kernel)))) rfl
theorem wq_335 : Cond.fieldLink RX0 24 "UncleAges$Casks" "times" "[I" ∈ qtbl := wq_r (List.mem_append_right _ (List.mem_append_left _ (List.mem_of_getElem? (l := tables_1_2) (i := 95) (by decide +kernel)))) rfl
theorem wq_336 : Cond.fieldLink RX0 27 "UncleAges$Casks" "queue" "[I" ∈ qtbl := wq_r (List.mem_append_right _ (List.mem_append_left _ (List.mem_of_getElem? (l := tables_1_2) (i := 96) (by decide +kernel)))) rfl
theorem wq_337 : Cond.fieldLink RX0 36 "UncleAges$Casks" "queued" "I" ∈ qtbl := wq_r (List.mem_append_right _ (List.mem_append_left _ (List.mem_of_getElem? (l := tables_1_2) (i := 97) (by decide +kernel)))) rfl
theorem wq_353 : Cond.fieldLink RX10 10 "UncleAges" "told" "LUncleAges$Told;" ∈ qtbl := wq_r (List.mem_append_right _ (List.mem_append_left _ (List.mem_of_getElem? (l := tables_1_2) (i := 113) (by decide +kernel)))) rfl
theorem wq_354 : Cond.fieldLink RX10 16 "UncleAges" "kept" "LUncleAges$Told;" ∈ qtbl := wq_r (List.mem_append_right _ (List.mem_append_left _ (List.mem_of_getElem? (l := tables_1_2) (i := 114) (by decide +kernel)))) rfl
theorem wq_355 : Cond.fieldLink RX10 165 "UncleAges" "anyKept" "Z" ∈ qtbl := wq_r (List.mem_append_right _ (List.mem_append_left _ (List.mem_of_getElem? (l := tables_1_2) (i := 115) (by decide +kernel)))) rfl
theorem wq_356 : Cond.fieldLink RX10 19 "UncleAges" "tape" "[I" ∈ qtbl := wq_r (List.mem_append_right _ (List.mem_append_left _ (List.mem_of_getElem? (l := tables_1_2) (i := 116) (by decide +kernel)))) rfl
theorem wq_357 : Cond.fieldLink RX10 113 "UncleAges" "tapeMany" "I" ∈ qtbl := wq_r (List.mem_append_right _ (List.mem_append_left _ (List.mem_of_getElem? (l := tables_1_2) (i := 117) (by decide +kernel)))) rfl
theorem wq_358 : Cond.fieldLink RX10 28 "UncleAges" "reader" "LUncleAges$Reader;" ∈ qtbl := wq_r (List.mem_append_right _ (List.mem_append_left _ (List.mem_of_getElem? (l := tables_1_2) (i := 118) (by decide +kernel)))) rfl
theorem wq_359 : Cond.fieldLink RX10 37 "UncleAges" "rows" "LUncleAges$Rows;" ∈ qtbl := wq_r (List.mem_append_right _ (List.mem_append_left _ (List.mem_of_getElem? (l := tables_1_2) (i := 119) (by decide +kernel)))) rfl
theorem wq_360 : Cond.fieldLink RX10 44 "UncleAges" "fits" "LUncleAges$Fits;" ∈ qtbl := wq_r (List.mem_append_right _ (List.mem_append_left _ (List.mem_of_getElem? (l := tables_1_2) (i := 120) (by decide +kernel)))) rfl
theorem wq_361 : Cond.fieldLink RX10 51 "UncleAges" "few" "LUncleAges$Few;" ∈ qtbl := wq_r (List.mem_append_right _ (List.mem_append_left _ (List.mem_of_getElem? (l := tables_1_2) (i := 121) (by decide +kernel)))) rfl
theorem wq_362 : Cond.fieldLink RX10 58 "UncleAges" "settler" "LUncleAges$Shortest;" ∈ qtbl := wq_r (List.mem_append_right _ (List.mem_append_left _ (List.mem_of_getElem? (l := tables_1_2) (i := 122) (by decide +kernel)))) rfl
theorem wq_363 : Cond.fieldLink RX10 65 "UncleAges" "giving" "LUncleAges$Giving;" ∈ qtbl := wq_r (List.mem_append_right _ (List.mem_append_left _ (List.mem_of_getElem? (l := tables_1_2) (i := 123) (by decide +kernel)))) rfl
theorem wq_364 : Cond.fieldLink RX10 72 "UncleAges" "family" "LUncleAges$Family;" ∈ qtbl := wq_r (List.mem_append_right _ (List.mem_append_left _ (List.mem_of_getElem? (l := tables_1_2) (i := 124) (by decide +kernel)))) rfl
theorem wq_365 : Cond.fieldLink RX10 79 "UncleAges" "casks" "LUncleAges$Casks;" ∈ qtbl := wq_r (List.mem_append_right _ (List.mem_append_left _ (List.mem_of_getElem? (l := tables_1_2) (i := 125) (by decide +kernel)))) rfl
theorem wq_366 : Cond.fieldLink RX10 83 "UncleAges" "ageMany" "[I" ∈ qtbl := wq_r (List.mem_append_right _ (List.mem_append_left _ (List.mem_of_getElem? (l := tables_1_2) (i := 126) (by decide +kernel)))) rfl
theorem wq_367 : Cond.fieldLink RX10 86 "UncleAges" "ways" "[J" ∈ qtbl := wq_r (List.mem_append_right _ (List.mem_append_left _ (List.mem_of_getElem? (l := tables_1_2) (i := 127) (by decide +kernel)))) rfl
theorem wq_399 : Cond.methodLink RL 13 yX10_person ∈ qtbl := wq_r (List.mem_append_right _ (List.mem_append_left _ (List.mem_of_getElem? (l := tables_1_2) (i := 159) (by decide +kernel)))) rfl
theorem wq_400 : Cond.instanceMethod yX10_person ∈ qtbl := wq_r (List.mem_append_right _ (List.mem_append_left _ (List.mem_of_getElem? (l := tables_1_2) (i := 160) (by decide +kernel)))) rfl
theorem wq_401 : Cond.selects RX10 yX10_person yX10_person ∈ qtbl := wq_r (List.mem_append_right _ (List.mem_append_left _ (List.mem_of_getElem? (l := tables_1_2) (i := 161) (by decide +kernel)))) rfl
theorem wq_402 : Cond.code yX10_person cX10_person 4 (Option.some Jvm.ClassFile.FieldType.boolean) ∈ qtbl := wq_r (List.mem_append_right _ (List.mem_append_left _ (List.mem_of_getElem? (l := tables_1_2) (i := 162) (rfl)))) rfl
theorem wq_403 : Cond.methodLink RX10 103 yX3_forget ∈ qtbl := wq_r (List.mem_append_right _ (List.mem_append_left _ (List.mem_of_getElem? (l := tables_1_2) (i := 163) (by decide +kernel)))) rfl
theorem wq_404 : Cond.instanceMethod yX3_forget ∈ qtbl := wq_r (List.mem_append_right _ (List.mem_append_left _ (List.mem_of_getElem? (l := tables_1_2) (i := 164) (by decide +kernel)))) rfl
theorem wq_405 : Cond.selects RX3 yX3_forget yX3_forget ∈ qtbl := wq_r (List.mem_append_right _ (List.mem_append_left _ (List.mem_of_getElem? (l := tables_1_2) (i := 165) (by decide +kernel)))) rfl
theorem wq_406 : Cond.code yX3_forget cX3_forget 1 (Option.none : Option Jvm.ClassFile.FieldType) ∈ qtbl := wq_r (List.mem_append_right _ (List.mem_append_left _ (List.mem_of_getElem? (l := tables_1_2) (i := 166) (rfl)))) rfl
theorem wq_407 : Cond.methodLink RL 18 yX10_dies ∈ qtbl := wq_r (List.mem_append_right _ (List.mem_append_left _ (List.mem_of_getElem? (l := tables_1_2) (i := 167) (by decide +kernel)))) rfl
theorem wq_408 : Cond.instanceMethod yX10_dies ∈ qtbl := wq_r (List.mem_append_right _ (List.mem_append_left _ (List.mem_of_getElem? (l := tables_1_2) (i := 168) (by decide +kernel)))) rfl
theorem wq_409 : Cond.selects RX10 yX10_dies yX10_dies ∈ qtbl := wq_r (List.mem_append_right _ (List.mem_append_left _ (List.mem_of_getElem? (l := tables_1_2) (i := 169) (by decide +kernel)))) rfl
theorem wq_410 : Cond.code yX10_dies cX10_dies 3 (Option.some Jvm.ClassFile.FieldType.boolean) ∈ qtbl := wq_r (List.mem_append_right _ (List.mem_append_left _ (List.mem_of_getElem? (l := tables_1_2) (i := 170) (rfl)))) rfl
theorem wq_411 : Cond.methodLink RX10 106 yX9_hasPerson ∈ qtbl := wq_r (List.mem_append_right _ (List.mem_append_left _ (List.mem_of_getElem? (l := tables_1_2) (i := 171) (by decide +kernel)))) rfl
theorem wq_412 : Cond.instanceMethod yX9_hasPerson ∈ qtbl := wq_r (List.mem_append_right _ (List.mem_append_left _ (List.mem_of_getElem? (l := tables_1_2) (i := 172) (by decide +kernel)))) rfl
theorem wq_413 : Cond.selects RX9 yX9_hasPerson yX9_hasPerson ∈ qtbl := wq_r (List.mem_append_right _ (List.mem_append_left _ (List.mem_of_getElem? (l := tables_1_2) (i := 173) (by decide +kernel)))) rfl
theorem wq_414 : Cond.code yX9_hasPerson cX9_hasPerson 2 (Option.some Jvm.ClassFile.FieldType.boolean) ∈ qtbl := wq_r (List.mem_append_right _ (List.mem_append_left _ (List.mem_of_getElem? (l := tables_1_2) (i := 174) (rfl)))) rfl
theorem wq_415 : Cond.methodLink RL 23 yX10_years ∈ qtbl := wq_r (List.mem_append_right _ (List.mem_append_left _ (List.mem_of_getElem? (l := tables_1_2) (i := 175) (by decide +kernel)))) rfl
theorem wq_416 : Cond.instanceMethod yX10_years ∈ qtbl := wq_r (List.mem_append_right _ (List.mem_append_left _ (List.mem_of_getElem? (l := tables_1_2) (i := 176) (by decide +kernel)))) rfl
theorem wq_417 : Cond.selects RX10 yX10_years yX10_years ∈ qtbl := wq_r (List.mem_append_right _ (List.mem_append_left _ (List.mem_of_getElem? (l := tables_1_2) (i := 177) (by decide +kernel)))) rfl
theorem wq_418 : Cond.code yX10_years cX10_years 2 (Option.some Jvm.ClassFile.FieldType.int) ∈ qtbl := wq_r (List.mem_append_right _ (List.mem_append_left _ (List.mem_of_getElem? (l := tables_1_2) (i := 178) (rfl)))) rfl
theorem wq_419 : Cond.methodLink RL 28 yX10_feed ∈ qtbl := wq_r (List.mem_append_right _ (List.mem_append_left _ (List.mem_of_getElem? (l := tables_1_2) (i := 179) (by decide +kernel)))) rfl
theorem wq_420 : Cond.instanceMethod yX10_feed ∈ qtbl := wq_r (List.mem_append_right _ (List.mem_append_left _ (List.mem_of_getElem? (l := tables_1_2) (i := 180) (by decide +kernel)))) rfl
theorem wq_421 : Cond.selects RX10 yX10_feed yX10_feed ∈ qtbl := wq_r (List.mem_append_right _ (List.mem_append_left _ (List.mem_of_getElem? (l := tables_1_2) (i := 181) (by decide +kernel)))) rfl
theorem wq_422 : Cond.code yX10_feed cX10_feed 6 (Option.some Jvm.ClassFile.FieldType.int) ∈ qtbl := wq_r (List.mem_append_right _ (List.mem_append_left _ (List.mem_of_getElem? (l := tables_1_2) (i := 182) (rfl)))) rfl
theorem wq_423 : Cond.methodLink RX10 116 yX10_putBytes ∈ qtbl := wq_r (List.mem_append_right _ (List.mem_append_left _ (List.mem_of_getElem? (l := tables_1_2) (i := 183) (by decide +kernel)))) rfl
theorem wq_425 : Cond.instanceMethod yX10_putBytes ∈ qtbl := wq_r (List.mem_append_right _ (List.mem_append_left _ (List.mem_of_getElem? (l := tables_1_2) (i := 185) (by decide +kernel)))) rfl
theorem wq_426 : Cond.code yX10_putBytes cX10_putBytes 3 (Option.none : Option Jvm.ClassFile.FieldType) ∈ qtbl := wq_r (List.mem_append_right _ (List.mem_append_left _ (List.mem_of_getElem? (l := tables_1_2) (i := 186) (rfl)))) rfl
theorem wq_427 : Cond.methodLink RL 33 yX10_remark ∈ qtbl := wq_r (List.mem_append_right _ (List.mem_append_left _ (List.mem_of_getElem? (l := tables_1_2) (i := 187) (by decide +kernel)))) rfl
theorem wq_428 : Cond.instanceMethod yX10_remark ∈ qtbl := wq_r (List.mem_append_right _ (List.mem_append_left _ (List.mem_of_getElem? (l := tables_1_2) (i := 188) (by decide +kernel)))) rfl
theorem wq_429 : Cond.selects RX10 yX10_remark yX10_remark ∈ qtbl := wq_r (List.mem_append_right _ (List.mem_append_left _ (List.mem_of_getElem? (l := tables_1_2) (i := 189) (by decide +kernel)))) rfl
theorem wq_430 : Cond.code yX10_remark cX10_remark 3 (Option.some Jvm.ClassFile.FieldType.int) ∈ qtbl := wq_r (List.mem_append_right _ (List.mem_append_left _ (List.mem_of_getElem? (l := tables_1_2) (i := 190) (rfl)))) rfl
theorem wq_431 : Cond.methodLink RX10 120 yX10_isText ∈ qtbl := wq_r (List.mem_append_right _ (List.mem_append_left _ (List.mem_of_getElem? (l := tables_1_2) (i := 191) (by decide +kernel)))) rfl
theorem wq_433 : Cond.instanceMethod yX10_isText ∈ qtbl := wq_r (List.mem_append_right _ (List.mem_append_left _ (List.mem_of_getElem? (l := tables_1_2) (i := 193) (by decide +kernel)))) rfl
theorem wq_434 : Cond.code yX10_isText cX10_isText 3 (Option.some Jvm.ClassFile.FieldType.boolean) ∈ qtbl := wq_r (List.mem_append_right _ (List.mem_append_left _ (List.mem_of_getElem? (l := tables_1_2) (i := 194) (rfl)))) rfl
theorem wq_435 : Cond.methodLink RX10 124 yX10_tell ∈ qtbl := wq_r (List.mem_append_right _ (List.mem_append_left _ (List.mem_of_getElem? (l := tables_1_2) (i := 195) (by decide +kernel)))) rfl
theorem wq_437 : Cond.instanceMethod yX10_tell ∈ qtbl := wq_r (List.mem_append_right _ (List.mem_append_left _ (List.mem_of_getElem? (l := tables_1_2) (i := 197) (by decide +kernel)))) rfl
theorem wq_438 : Cond.code yX10_tell cX10_tell 4 (Option.some Jvm.ClassFile.FieldType.int) ∈ qtbl := wq_r (List.mem_append_right _ (List.mem_append_left _ (List.mem_of_getElem? (l := tables_1_2) (i := 198) (rfl)))) rfl
theorem wq_439 : Cond.methodLink RX10 128 yX6_read ∈ qtbl := wq_r (List.mem_append_right _ (List.mem_append_left _ (List.mem_of_getElem? (l := tables_1_2) (i := 199) (by decide +kernel)))) rfl
theorem wq_440 : Cond.instanceMethod yX6_read ∈ qtbl := wq_r (List.mem_append_right _ (List.mem_append_left _ (List.mem_of_getElem? (l := tables_1_2) (i := 200) (by decide +kernel)))) rfl
theorem wq_441 : Cond.selects RX6 yX6_read yX6_read ∈ qtbl := wq_r (List.mem_append_right _ (List.mem_append_left _ (List.mem_of_getElem? (l := tables_1_2) (i := 201) (by decide +kernel)))) rfl
theorem wq_442 : Cond.code yX6_read cX6_read 4 (Option.some Jvm.ClassFile.FieldType.boolean) ∈ qtbl := wq_r (List.mem_append_right _ (List.mem_append_left _ (List.mem_of_getElem? (l := tables_1_2) (i := 202) (rfl)))) rfl
theorem wq_443 : Cond.methodLink RX6 29 Lib.Math.min.name ∈ qtbl := wq_r (List.mem_append_right _ (List.mem_append_left _ (List.mem_of_getElem? (l := tables_1_2) (i := 203) (by decide +kernel)))) rfl
theorem wq_444 : Cond.static Lib.Math.min.name ∈ qtbl := wq_r (List.mem_append_right _ (List.mem_append_left _ (List.mem_of_getElem? (l := tables_1_2) (i := 204) (by decide +kernel)))) rfl
theorem wq_445 : Cond.code Lib.Math.min.name cJ9_min_7cf53 2 (Option.some Jvm.ClassFile.FieldType.int) ∈ qtbl := wq_r (List.mem_append_right _ (List.mem_append_left _ (List.mem_of_getElem? (l := tables_1_2) (i := 205) (rfl)))) rfl
theorem wq_446 : Cond.methodLink RX6 65 yX6_readSide ∈ qtbl := wq_r (List.mem_append_right _ (List.mem_append_left _ (List.mem_of_getElem? (l := tables_1_2) (i := 206) (by decide +kernel)))) rfl
theorem wq_448 : Cond.instanceMethod yX6_readSide ∈ qtbl := wq_r (List.mem_append_right _ (List.mem_append_left _ (List.mem_of_getElem? (l := tables_1_2) (i := 208) (by decide +kernel)))) rfl
theorem wq_449 : Cond.code yX6_readSide cX6_readSide 6 (Option.some Jvm.ClassFile.FieldType.boolean) ∈ qtbl := wq_r (List.mem_append_right _ (List.mem_append_left _ (List.mem_of_getElem? (l := tables_1_2) (i := 209) (rfl)))) rfl
theorem wq_450 : Cond.methodLink RX6 79 yX6_fail ∈ qtbl := wq_r (List.mem_append_right _ (List.mem_append_left _ (List.mem_of_getElem? (l := tables_1_2) (i := 210) (by decide +kernel)))) rfl
theorem wq_452 : Cond.instanceMethod yX6_fail ∈ qtbl := wq_r (List.mem_append_right _ (List.mem_append_left _ (List.mem_of_getElem? (l := tables_1_2) (i := 212) (by decide +kernel)))) rfl
theorem wq_453 : Cond.code yX6_fail cX6_fail 3 (Option.some Jvm.ClassFile.FieldType.boolean) ∈ qtbl := wq_r (List.mem_append_right _ (List.mem_append_left _ (List.mem_of_getElem? (l := tables_1_2) (i := 213) (rfl)))) rfl
theorem wq_454 : Cond.methodLink RX6 122 yJ7_fill_53178 ∈ qtbl := wq_r (List.mem_append_right _ (List.mem_append_left _ (List.mem_of_getElem? (l := tables_1_2) (i := 214) (by decide +kernel)))) rfl
theorem wq_455 : Cond.methodLink RX6 128 yX6_readTerm ∈ qtbl := wq_r (List.mem_append_right _ (List.mem_append_left _ (List.mem_of_getElem? (l := tables_1_2) (i := 215) (by decide +kernel)))) rfl
theorem wq_457 : Cond.instanceMethod yX6_readTerm ∈ qtbl := wq_r (List.mem_append_right _ (List.mem_append_left _ (List.mem_of_getElem? (l := tables_1_2) (i := 217) (by decide +kernel)))) rfl
theorem wq_458 : Cond.code yX6_readTerm cX6_readTerm 8 (Option.some Jvm.ClassFile.FieldType.boolean) ∈ qtbl := wq_r (List.mem_append_right _ (List.mem_append_left _ (List.mem_of_getElem? (l := tables_1_2) (i := 218) (rfl)))) rfl
theorem wq_459 : Cond.methodLink RX6 131 yX6_readFactor ∈ qtbl := wq_r (List.mem_append_right _ (List.mem_append_left _ (List.mem_of_getElem? (l := tables_1_2) (i := 219) (by decide +kernel)))) rfl
theorem wq_461 : Cond.instanceMethod yX6_readFactor ∈ qtbl := wq_r (List.mem_append_right _ (List.mem_append_left _ (List.mem_of_getElem? (l := tables_1_2) (i := 221) (by decide +kernel)))) rfl
theorem wq_462 : Cond.code yX6_readFactor cX6_readFactor 5 (Option.some Jvm.ClassFile.FieldType.boolean) ∈ qtbl := wq_r (List.mem_append_right _ (List.mem_append_left _ (List.mem_of_getElem? (l := tables_1_2) (i := 222) (rfl)))) rfl
theorem wq_463 : Cond.methodLink RX6 105 yX6_peek ∈ qtbl := wq_r (List.mem_append_right _ (List.mem_append_left _ (List.mem_of_getElem? (l := tables_1_2) (i := 223) (by decide +kernel)))) rfl
theorem wq_465 : Cond.instanceMethod yX6_peek ∈ qtbl := wq_r (List.mem_append_right _ (List.mem_append_left _ (List.mem_of_getElem? (l := tables_1_2) (i := 225) (by decide +kernel)))) rfl
theorem wq_466 : Cond.code yX6_peek cX6_peek 1 (Option.some Jvm.ClassFile.FieldType.int) ∈ qtbl := wq_r (List.mem_append_right _ (List.mem_append_left _ (List.mem_of_getElem? (l := tables_1_2) (i := 226) (rfl)))) rfl
theorem wq_467 : Cond.methodLink RX6 138 yX6_readPerson ∈ qtbl := wq_r (List.mem_append_right _ (List.mem_append_left _ (List.mem_of_getElem? (l := tables_1_2) (i := 227) (by decide +kernel)))) rfl
theorem wq_469 : Cond.instanceMethod yX6_readPerson ∈ qtbl := wq_r (List.mem_append_right _ (List.mem_append_left _ (List.mem_of_getElem? (l := tables_1_2) (i := 229) (by decide +kernel)))) rfl
theorem wq_470 : Cond.code yX6_readPerson cX6_readPerson 5 (Option.some Jvm.ClassFile.FieldType.boolean) ∈ qtbl := wq_r (List.mem_append_right _ (List.mem_append_left _ (List.mem_of_getElem? (l := tables_1_2) (i := 230) (rfl)))) rfl
theorem wq_471 : Cond.methodLink RX6 147 yX6_readLetter ∈ qtbl := wq_r (List.mem_append_right _ (List.mem_append_left _ (List.mem_of_getElem? (l := tables_1_2) (i := 231) (by decide +kernel)))) rfl
theorem wq_473 : Cond.instanceMethod yX6_readLetter ∈ qtbl := wq_r (List.mem_append_right _ (List.mem_append_left _ (List.mem_of_getElem? (l := tables_1_2) (i := 233) (by decide +kernel)))) rfl
theorem wq_474 : Cond.code yX6_readLetter cX6_readLetter 2 (Option.some Jvm.ClassFile.FieldType.int) ∈ qtbl := wq_r (List.mem_append_right _ (List.mem_append_left _ (List.mem_of_getElem? (l := tables_1_2) (i := 234) (rfl)))) rfl
theorem wq_475 : Cond.methodLink RX6 141 yX6_open ∈ qtbl := wq_r (List.mem_append_right _ (List.mem_append_left _ (List.mem_of_getElem? (l := tables_1_2) (i := 235) (by decide +kernel)))) rfl
theorem wq_477 : Cond.instanceMethod yX6_open ∈ qtbl := wq_r (List.mem_append_right _ (List.mem_append_left _ (List.mem_of_getElem? (l := tables_1_2) (i := 237) (by decide +kernel)))) rfl
theorem wq_478 : Cond.code yX6_open cX6_open 2 (Option.some Jvm.ClassFile.FieldType.boolean) ∈ qtbl := wq_r (List.mem_append_right _ (List.mem_append_left _ (List.mem_of_getElem? (l := tables_1_2) (i := 238) (rfl)))) rfl
theorem wq_479 : Cond.methodLink RX6 144 yX6_pass ∈ qtbl := wq_r (List.mem_append_right _ (List.mem_append_left _ (List.mem_of_getElem? (l := tables_1_2) (i := 239) (by decide +kernel)))) rfl
theorem wq_481 : Cond.instanceMethod yX6_pass ∈ qtbl := wq_r (List.mem_append_right _ (List.mem_append_right _ (List.mem_append_left _ (List.mem_of_getElem? (l := tables_1_3) (i := 1) (by decide +kernel))))) rfl
theorem wq_482 : Cond.code yX6_pass cX6_pass 2 (Option.some Jvm.ClassFile.FieldType.boolean) ∈ qtbl := wq_r (List.mem_append_right _ (List.mem_append_right _ (List.mem_append_left _ (List.mem_of_getElem? (l := tables_1_3) (i := 2) (rfl))))) rfl
theorem wq_483 : Cond.methodLink RX6 69 arraycopyName ∈ qtbl := wq_r (List.mem_append_right _ (List.mem_append_right _ (List.mem_append_left _ (List.mem_of_getElem? (l := tables_1_3) (i := 3) (by decide +kernel))))) rfl
theorem wq_484 : Cond.static arraycopyName ∈ qtbl := wq_r (List.mem_append_right _ (List.mem_append_right _ (List.mem_append_left _ (List.mem_of_getElem? (l := tables_1_3) (i := 4) (by decide +kernel))))) rfl
theorem wq_485 : Cond.native arraycopyName ∈ qtbl := wq_r (List.mem_append_right _ (List.mem_append_right _ (List.mem_append_left _ (List.mem_of_getElem? (l := tables_1_3) (i := 5) (by decide +kernel))))) rfl
theorem wq_486 : Cond.methodLink RX6 116 yX6_readNumber ∈ qtbl := wq_r (List.mem_append_right _ (List.mem_append_right _ (List.mem_append_left _ (List.mem_of_getElem? (l := tables_1_3) (i := 6) (by decide +kernel))))) rfl
theorem wq_488 : Cond.instanceMethod yX6_readNumber ∈ qtbl := wq_r (List.mem_append_right _ (List.mem_append_right _ (List.mem_append_left _ (List.mem_of_getElem? (l := tables_1_3) (i := 8) (by decide +kernel))))) rfl
theorem wq_489 : Cond.code yX6_readNumber cX6_readNumber 4 (Option.some Jvm.ClassFile.FieldType.boolean) ∈ qtbl := wq_r (List.mem_append_right _ (List.mem_append_right _ (List.mem_append_left _ (List.mem_of_getElem? (l := tables_1_3) (i := 9) (rfl))))) rfl
theorem wq_490 : Cond.methodLink RX6 134 yX6_multiply ∈ qtbl := wq_r (List.mem_append_right _ (List.mem_append_right _ (List.mem_append_left _ (List.mem_of_getElem? (l := tables_1_3) (i := 10) (by decide +kernel))))) rfl
theorem wq_491 : Cond.static yX6_multiply ∈ qtbl := wq_r (List.mem_append_right _ (List.mem_append_right _ (List.mem_append_left _ (List.mem_of_getElem? (l := tables_1_3) (i := 11) (by decide +kernel))))) rfl
theorem wq_492 : Cond.code yX6_multiply cX6_multiply 5 (Option.none : Option Jvm.ClassFile.FieldType) ∈ qtbl := wq_r (List.mem_append_right _ (List.mem_append_right _ (List.mem_append_left _ (List.mem_of_getElem? (l := tables_1_3) (i := 12) (rfl))))) rfl
theorem wq_493 : Cond.methodLink RX6 112 yX6_add ∈ qtbl := wq_r (List.mem_append_right _ (List.mem_append_right _ (List.mem_append_left _ (List.mem_of_getElem? (l := tables_1_3) (i := 13) (by decide +kernel))))) rfl
theorem wq_494 : Cond.static yX6_add ∈ qtbl := wq_r (List.mem_append_right _ (List.mem_append_right _ (List.mem_append_left _ (List.mem_of_getElem? (l := tables_1_3) (i := 14) (by decide +kernel))))) rfl
theorem wq_495 : Cond.code yX6_add cX6_add 4 (Option.none : Option Jvm.ClassFile.FieldType) ∈ qtbl := wq_r (List.mem_append_right _ (List.mem_append_right _ (List.mem_append_left _ (List.mem_of_getElem? (l := tables_1_3) (i := 15) (rfl))))) rfl
theorem wq_496 : Cond.methodLink RX6 75 yX6_readSecondHalf ∈ qtbl := wq_r (List.mem_append_right _ (List.mem_append_right _ (List.mem_append_left _ (List.mem_of_getElem? (l := tables_1_3) (i := 16) (by decide +kernel))))) rfl
theorem wq_498 : Cond.instanceMethod yX6_readSecondHalf ∈ qtbl := wq_r (List.mem_append_right _ (List.mem_append_right _ (List.mem_append_left _ (List.mem_of_getElem? (l := tables_1_3) (i := 18) (by decide +kernel))))) rfl
theorem wq_499 : Cond.code yX6_readSecondHalf cX6_readSecondHalf 2 (Option.some Jvm.ClassFile.FieldType.boolean) ∈ qtbl := wq_r (List.mem_append_right _ (List.mem_append_right _ (List.mem_append_left _ (List.mem_of_getElem? (l := tables_1_3) (i := 19) (rfl))))) rfl
theorem wq_500 : Cond.methodLink RX6 109 yX6_readDivisor ∈ qtbl := wq_r (List.mem_append_right _ (List.mem_append_right _ (List.mem_append_left _ (List.mem_of_getElem? (l := tables_1_3) (i := 20) (by decide +kernel))))) rfl
theorem wq_502 : Cond.instanceMethod yX6_readDivisor ∈ qtbl := wq_r (List.mem_append_right _ (List.mem_append_right _ (List.mem_append_left _ (List.mem_of_getElem? (l := tables_1_3) (i := 22) (by decide +kernel))))) rfl
theorem wq_503 : Cond.code yX6_readDivisor cX6_readDivisor 2 (Option.some Jvm.ClassFile.FieldType.boolean) ∈ qtbl := wq_r (List.mem_append_right _ (List.mem_append_right _ (List.mem_append_left _ (List.mem_of_getElem? (l := tables_1_3) (i := 23) (rfl))))) rfl
theorem wq_504 : Cond.methodLink RX10 142 yX6_writeTo ∈ qtbl := wq_r (List.mem_append_right _ (List.mem_append_right _ (List.mem_append_left _ (List.mem_of_getElem? (l := tables_1_3) (i := 24) (by decide +kernel))))) rfl
theorem wq_505 : Cond.instanceMethod yX6_writeTo ∈ qtbl := wq_r (List.mem_append_right _ (List.mem_append_right _ (List.mem_append_left _ (List.mem_of_getElem? (l := tables_1_3) (i := 25) (by decide +kernel))))) rfl
theorem wq_506 : Cond.selects RX6 yX6_writeTo yX6_writeTo ∈ qtbl := wq_r (List.mem_append_right _ (List.mem_append_right _ (List.mem_append_left _ (List.mem_of_getElem? (l := tables_1_3) (i := 26) (by decide +kernel))))) rfl
theorem wq_507 : Cond.code yX6_writeTo cX6_writeTo 4 (Option.none : Option Jvm.ClassFile.FieldType) ∈ qtbl := wq_r (List.mem_append_right _ (List.mem_append_right _ (List.mem_append_left _ (List.mem_of_getElem? (l := tables_1_3) (i := 27) (rfl))))) rfl
theorem wq_508 : Cond.methodLink RX6 92 yX9_lived ∈ qtbl := wq_r (List.mem_append_right _ (List.mem_append_right _ (List.mem_append_left _ (List.mem_of_getElem? (l := tables_1_3) (i := 28) (by decide +kernel))))) rfl
theorem wq_509 : Cond.instanceMethod yX9_lived ∈ qtbl := wq_r (List.mem_append_right _ (List.mem_append_right _ (List.mem_append_left _ (List.mem_of_getElem? (l := tables_1_3) (i := 29) (by decide +kernel))))) rfl
theorem wq_510 : Cond.selects RX9 yX9_lived yX9_lived ∈ qtbl := wq_r (List.mem_append_right _ (List.mem_append_right _ (List.mem_append_left _ (List.mem_of_getElem? (l := tables_1_3) (i := 30) (by decide +kernel))))) rfl
theorem wq_511 : Cond.code yX9_lived cX9_lived 2 (Option.some Jvm.ClassFile.FieldType.int) ∈ qtbl := wq_r (List.mem_append_right _ (List.mem_append_right _ (List.mem_append_left _ (List.mem_of_getElem? (l := tables_1_3) (i := 31) (rfl))))) rfl
theorem wq_512 : Cond.methodLink RX9 61 Lib.Math.min.name ∈ qtbl := wq_r (List.mem_append_right _ (List.mem_append_right _ (List.mem_append_left _ (List.mem_of_getElem? (l := tables_1_3) (i := 32) (by decide +kernel))))) rfl
theorem wq_513 : Cond.methodLink RX10 150 yJ6_bitCount_0f7a4 ∈ qtbl := wq_r (List.mem_append_right _ (List.mem_append_right _ (List.mem_append_left _ (List.mem_of_getElem? (l := tables_1_3) (i := 33) (by decide +kernel))))) rfl
theorem wq_514 : Cond.static yJ6_bitCount_0f7a4 ∈ qtbl := wq_r (List.mem_append_right _ (List.mem_append_right _ (List.mem_append_left _ (List.mem_of_getElem? (l := tables_1_3) (i := 34) (by decide +kernel))))) rfl
theorem wq_515 : Cond.code yJ6_bitCount_0f7a4 cJ6_bitCount_0f7a4 1 (Option.some Jvm.ClassFile.FieldType.int) ∈ qtbl := wq_r (List.mem_append_right _ (List.mem_append_right _ (List.mem_append_left _ (List.mem_of_getElem? (l := tables_1_3) (i := 35) (rfl))))) rfl
theorem wq_516 : Cond.constant RJ6 265 (1431655765 : Int32) ∈ qtbl := wq_r (List.mem_append_right _ (List.mem_append_right _ (List.mem_append_left _ (List.mem_of_getElem? (l := tables_1_3) (i := 36) (by decide +kernel))))) rfl
theorem wq_517 : Cond.constant RJ6 266 (858993459 : Int32) ∈ qtbl := wq_r (List.mem_append_right _ (List.mem_append_right _ (List.mem_append_left _ (List.mem_of_getElem? (l := tables_1_3) (i := 37) (by decide +kernel))))) rfl
theorem wq_518 : Cond.constant RJ6 267 (252645135 : Int32) ∈ qtbl := wq_r (List.mem_append_right _ (List.mem_append_right _ (List.mem_append_left _ (List.mem_of_getElem? (l := tables_1_3) (i := 38) (by decide +kernel))))) rfl
theorem wq_519 : Cond.methodLink RL 38 yX10_form ∈ qtbl := wq_r (List.mem_append_right _ (List.mem_append_right _ (List.mem_append_left _ (List.mem_of_getElem? (l := tables_1_3) (i := 39) (by decide +kernel))))) rfl
theorem wq_520 : Cond.instanceMethod yX10_form ∈ qtbl := wq_r (List.mem_append_right _ (List.mem_append_right _ (List.mem_append_left _ (List.mem_of_getElem? (l := tables_1_3) (i := 40) (by decide +kernel))))) rfl
theorem wq_521 : Cond.selects RX10 yX10_form yX10_form ∈ qtbl := wq_r (List.mem_append_right _ (List.mem_append_right _ (List.mem_append_left _ (List.mem_of_getElem? (l := tables_1_3) (i := 41) (by decide +kernel))))) rfl
theorem wq_522 : Cond.code yX10_form cX10_form 3 (Option.some Jvm.ClassFile.FieldType.int) ∈ qtbl := wq_r (List.mem_append_right _ (List.mem_append_right _ (List.mem_append_left _ (List.mem_of_getElem? (l := tables_1_3) (i := 42) (rfl))))) rfl
theorem wq_523 : Cond.methodLink RL 42 yX10_takeBack ∈ qtbl := wq_r (List.mem_append_right _ (List.mem_append_right _ (List.mem_append_left _ (List.mem_of_getElem? (l := tables_1_3) (i := 43) (by decide +kernel))))) rfl
theorem wq_524 : Cond.instanceMethod yX10_takeBack ∈ qtbl := wq_r (List.mem_append_right _ (List.mem_append_right _ (List.mem_append_left _ (List.mem_of_getElem? (l := tables_1_3) (i := 44) (by decide +kernel))))) rfl
theorem wq_525 : Cond.selects RX10 yX10_takeBack yX10_takeBack ∈ qtbl := wq_r (List.mem_append_right _ (List.mem_append_right _ (List.mem_append_left _ (List.mem_of_getElem? (l := tables_1_3) (i := 45) (by decide +kernel))))) rfl
theorem wq_526 : Cond.code yX10_takeBack cX10_takeBack 2 (Option.some Jvm.ClassFile.FieldType.boolean) ∈ qtbl := wq_r (List.mem_append_right _ (List.mem_append_right _ (List.mem_append_left _ (List.mem_of_getElem? (l := tables_1_3) (i := 46) (rfl))))) rfl
theorem wq_527 : Cond.methodLink RX10 156 yX9_hasRemark ∈ qtbl := wq_r (List.mem_append_right _ (List.mem_append_right _ (List.mem_append_left _ (List.mem_of_getElem? (l := tables_1_3) (i := 47) (by decide +kernel))))) rfl
theorem wq_528 : Cond.instanceMethod yX9_hasRemark ∈ qtbl := wq_r (List.mem_append_right _ (List.mem_append_right _ (List.mem_append_left _ (List.mem_of_getElem? (l := tables_1_3) (i := 48) (by decide +kernel))))) rfl
theorem wq_529 : Cond.selects RX9 yX9_hasRemark yX9_hasRemark ∈ qtbl := wq_r (List.mem_append_right _ (List.mem_append_right _ (List.mem_append_left _ (List.mem_of_getElem? (l := tables_1_3) (i := 49) (by decide +kernel))))) rfl
theorem wq_530 : Cond.code yX9_hasRemark cX9_hasRemark 2 (Option.some Jvm.ClassFile.FieldType.boolean) ∈ qtbl := wq_r (List.mem_append_right _ (List.mem_append_right _ (List.mem_append_left _ (List.mem_of_getElem? (l := tables_1_3) (i := 50) (rfl))))) rfl
theorem wq_531 : Cond.methodLink RX9 57 yX9_hasLine ∈ qtbl := wq_r (List.mem_append_right _ (List.mem_append_right _ (List.mem_append_left _ (List.mem_of_getElem? (l := tables_1_3) (i := 51) (by decide +kernel))))) rfl
theorem wq_532 : Cond.instanceMethod yX9_hasLine ∈ qtbl := wq_r (List.mem_append_right _ (List.mem_append_right _ (List.mem_append_left _ (List.mem_of_getElem? (l := tables_1_3) (i := 52) (by decide +kernel))))) rfl
theorem wq_533 : Cond.selects RX9 yX9_hasLine yX9_hasLine ∈ qtbl := wq_r (List.mem_append_right _ (List.mem_append_right _ (List.mem_append_left _ (List.mem_of_getElem? (l := tables_1_3) (i := 53) (by decide +kernel))))) rfl
theorem wq_534 : Cond.code yX9_hasLine cX9_hasLine 2 (Option.some Jvm.ClassFile.FieldType.boolean) ∈ qtbl := wq_r (List.mem_append_right _ (List.mem_append_right _ (List.mem_append_left _ (List.mem_of_getElem? (l := tables_1_3) (i := 54) (rfl))))) rfl
theorem wq_535 : Cond.methodLink RL 146 yX10_parent ∈ qtbl := wq_r (List.mem_append_right _ (List.mem_append_right _ (List.mem_append_left _ (List.mem_of_getElem? (l := tables_1_3) (i := 55) (by decide +kernel))))) rfl
theorem wq_536 : Cond.instanceMethod yX10_parent ∈ qtbl := wq_r (List.mem_append_right _ (List.mem_append_right _ (List.mem_append_left _ (List.mem_of_getElem? (l := tables_1_3) (i := 56) (by decide +kernel))))) rfl
theorem wq_537 : Cond.selects RX10 yX10_parent yX10_parent ∈ qtbl := wq_r (List.mem_append_right _ (List.mem_append_right _ (List.mem_append_left _ (List.mem_of_getElem? (l := tables_1_3) (i := 57) (by decide +kernel))))) rfl
theorem wq_538 : Cond.code yX10_parent cX10_parent 4 (Option.some Jvm.ClassFile.FieldType.boolean) ∈ qtbl := wq_r (List.mem_append_right _ (List.mem_append_right _ (List.mem_append_left _ (List.mem_of_getElem? (l := tables_1_3) (i := 58) (rfl))))) rfl
theorem wq_539 : Cond.methodLink RL 183 yX10_keep ∈ qtbl := wq_r (List.mem_append_right _ (List.mem_append_right _ (List.mem_append_left _ (List.mem_of_getElem? (l := tables_1_3) (i := 59) (by decide +kernel))))) rfl
theorem wq_540 : Cond.instanceMethod yX10_keep ∈ qtbl := wq_r (List.mem_append_right _ (List.mem_append_right _ (List.mem_append_left _ (List.mem_of_getElem? (l := tables_1_3) (i := 60) (by decide +kernel))))) rfl
theorem wq_541 : Cond.selects RX10 yX10_keep yX10_keep ∈ qtbl := wq_r (List.mem_append_right _ (List.mem_append_right _ (List.mem_append_left _ (List.mem_of_getElem? (l := tables_1_3) (i := 61) (by decide +kernel))))) rfl
theorem wq_542 : Cond.code yX10_keep cX10_keep 1 (Option.some Jvm.ClassFile.FieldType.int) ∈ qtbl := wq_r (List.mem_append_right _ (List.mem_append_right _ (List.mem_append_left _ (List.mem_of_getElem? (l := tables_1_3) (i := 62) (rfl))))) rfl
theorem wq_543 : Cond.methodLink RX10 162 yX9_become ∈ qtbl := wq_r (List.mem_append_right _ (List.mem_append_right _ (List.mem_append_left _ (List.mem_of_getElem? (l := tables_1_3) (i := 63) (by decide +kernel))))) rfl
theorem wq_544 : Cond.instanceMethod yX9_become ∈ qtbl := wq_r (List.mem_append_right _ (List.mem_append_right _ (List.mem_append_left _ (List.mem_of_getElem? (l := tables_1_3) (i := 64) (by decide +kernel))))) rfl
theorem wq_545 : Cond.selects RX9 yX9_become yX9_become ∈ qtbl := wq_r (List.mem_append_right _ (List.mem_append_right _ (List.mem_append_left _ (List.mem_of_getElem? (l := tables_1_3) (i := 65) (by decide +kernel))))) rfl
theorem wq_546 : Cond.code yX9_become cX9_become 3 (Option.none : Option Jvm.ClassFile.FieldType) ∈ qtbl := wq_r (List.mem_append_right _ (List.mem_append_right _ (List.mem_append_left _ (List.mem_of_getElem? (l := tables_1_3) (i := 66) (rfl))))) rfl
theorem wq_547 : Cond.methodLink RX9 37 arraycopyName ∈ qtbl := wq_r (List.mem_append_right _ (List.mem_append_right _ (List.mem_append_left _ (List.mem_of_getElem? (l := tables_1_3) (i := 67) (by decide +kernel))))) rfl
theorem wq_548 : Cond.methodLink RX9 43 yX5_become ∈ qtbl := wq_r (List.mem_append_right _ (List.mem_append_right _ (List.mem_append_left _ (List.mem_of_getElem? (l := tables_1_3) (i := 68) (by decide +kernel))))) rfl
theorem wq_549 : Cond.instanceMethod yX5_become ∈ qtbl := wq_r (List.mem_append_right _ (List.mem_append_right _ (List.mem_append_left _ (List.mem_of_getElem? (l := tables_1_3) (i := 69) (by decide +kernel))))) rfl
theorem wq_550 : Cond.selects RX5 yX5_become yX5_become ∈ qtbl := wq_r (List.mem_append_right _ (List.mem_append_right _ (List.mem_append_left _ (List.mem_of_getElem? (l := tables_1_3) (i := 70) (by decide +kernel))))) rfl
theorem wq_551 : Cond.code yX5_become cX5_become 2 (Option.none : Option Jvm.ClassFile.FieldType) ∈ qtbl := wq_r (List.mem_append_right _ (List.mem_append_right _ (List.mem_append_left _ (List.mem_of_getElem? (l := tables_1_3) (i := 71) (rfl))))) rfl
theorem wq_552 : Cond.methodLink RX5 15 arraycopyName ∈ qtbl := wq_r (List.mem_append_right _ (List.mem_append_right _ (List.mem_append_left _ (List.mem_of_getElem? (l := tables_1_3) (i := 72) (by decide +kernel))))) rfl
theorem wq_553 : Cond.methodLink RX10 169 yX9_remarksSaid ∈ qtbl := wq_r (List.mem_append_right _ (List.mem_append_right _ (List.mem_append_left _ (List.mem_of_getElem? (l := tables_1_3) (i := 73) (by decide +kernel))))) rfl
theorem wq_554 : Cond.instanceMethod yX9_remarksSaid ∈ qtbl := wq_r (List.mem_append_right _ (List.mem_append_right _ (List.mem_append_left _ (List.mem_of_getElem? (l := tables_1_3) (i := 74) (by decide +kernel))))) rfl
theorem wq_555 : Cond.selects RX9 yX9_remarksSaid yX9_remarksSaid ∈ qtbl := wq_r (List.mem_append_right _ (List.mem_append_right _ (List.mem_append_left _ (List.mem_of_getElem? (l := tables_1_3) (i := 75) (by decide +kernel))))) rfl
theorem wq_556 : Cond.code yX9_remarksSaid cX9_remarksSaid 1 (Option.some Jvm.ClassFile.FieldType.int) ∈ qtbl := wq_r (List.mem_append_right _ (List.mem_append_right _ (List.mem_append_left _ (List.mem_of_getElem? (l := tables_1_3) (i := 76) (rfl))))) rfl
theorem wq_557 : Cond.methodLink RL 187 yX10_undo ∈ qtbl := wq_r (List.mem_append_right _ (List.mem_append_right _ (List.mem_append_left _ (List.mem_of_getElem? (l := tables_1_3) (i := 77) (by decide +kernel))))) rfl
theorem wq_558 : Cond.instanceMethod yX10_undo ∈ qtbl := wq_r (List.mem_append_right _ (List.mem_append_right _ (List.mem_append_left _ (List.mem_of_getElem? (l := tables_1_3) (i := 78) (by decide +kernel))))) rfl
theorem wq_559 : Cond.selects RX10 yX10_undo yX10_undo ∈ qtbl := wq_r (List.mem_append_right _ (List.mem_append_right _ (List.mem_append_left _ (List.mem_of_getElem? (l := tables_1_3) (i := 79) (by decide +kernel))))) rfl
theorem wq_560 : Cond.code yX10_undo cX10_undo 1 (Option.some Jvm.ClassFile.FieldType.boolean) ∈ qtbl := wq_r (List.mem_append_right _ (List.mem_append_right _ (List.mem_append_left _ (List.mem_of_getElem? (l := tables_1_3) (i := 80) (rfl))))) rfl
theorem wq_561 : Cond.methodLink RL 196 yX10_count ∈ qtbl := wq_r (List.mem_append_right _ (List.mem_append_right _ (List.mem_append_left _ (List.mem_of_getElem? (l := tables_1_3) (i := 81) (by decide +kernel))))) rfl
theorem wq_562 : Cond.instanceMethod yX10_count ∈ qtbl := wq_r (List.mem_append_right _ (List.mem_append_right _ (List.mem_append_left _ (List.mem_of_getElem? (l := tables_1_3) (i := 82) (by decide +kernel))))) rfl
theorem wq_563 : Cond.selects RX10 yX10_count yX10_count ∈ qtbl := wq_r (List.mem_append_right _ (List.mem_append_right _ (List.mem_append_left _ (List.mem_of_getElem? (l := tables_1_3) (i := 83) (by decide +kernel))))) rfl
theorem wq_564 : Cond.code yX10_count cX10_count 2 (Option.some Jvm.ClassFile.FieldType.int) ∈ qtbl := wq_r (List.mem_append_right _ (List.mem_append_right _ (List.mem_append_left _ (List.mem_of_getElem? (l := tables_1_3) (i := 84) (rfl))))) rfl
theorem wq_565 : Cond.methodLink RX10 173 yX10_countOfPerson ∈ qtbl := wq_r (List.mem_append_right _ (List.mem_append_right _ (List.mem_append_left _ (List.mem_of_getElem? (l := tables_1_3) (i := 85) (by decide +kernel))))) rfl
theorem wq_567 : Cond.instanceMethod yX10_countOfPerson ∈ qtbl := wq_r (List.mem_append_right _ (List.mem_append_right _ (List.mem_append_left _ (List.mem_of_getElem? (l := tables_1_3) (i := 87) (by decide +kernel))))) rfl
theorem wq_568 : Cond.code yX10_countOfPerson cX10_countOfPerson 3 (Option.some Jvm.ClassFile.FieldType.int) ∈ qtbl := wq_r (List.mem_append_right _ (List.mem_append_right _ (List.mem_append_left _ (List.mem_of_getElem? (l := tables_1_3) (i := 88) (rfl))))) rfl
theorem wq_569 : Cond.methodLink RL 47 yX10_rows ∈ qtbl := wq_r (List.mem_append_right _ (List.mem_append_right _ (List.mem_append_left _ (List.mem_of_getElem? (l := tables_1_3) (i := 89) (by decide +kernel))))) rfl
theorem wq_570 : Cond.instanceMethod yX10_rows ∈ qtbl := wq_r (List.mem_append_right _ (List.mem_append_right _ (List.mem_append_left _ (List.mem_of_getElem? (l := tables_1_3) (i := 90) (by decide +kernel))))) rfl
theorem wq_571 : Cond.selects RX10 yX10_rows yX10_rows ∈ qtbl := wq_r (List.mem_append_right _ (List.mem_append_right _ (List.mem_append_left _ (List.mem_of_getElem? (l := tables_1_3) (i := 91) (by decide +kernel))))) rfl
theorem wq_572 : Cond.code yX10_rows cX10_rows 3 (Option.some Jvm.ClassFile.FieldType.int) ∈ qtbl := wq_r (List.mem_append_right _ (List.mem_append_right _ (List.mem_append_left _ (List.mem_of_getElem? (l := tables_1_3) (i := 92) (rfl))))) rfl
theorem wq_573 : Cond.methodLink RX10 176 yX9_allRows ∈ qtbl := wq_r (List.mem_append_right _ (List.mem_append_right _ (List.mem_append_left _ (List.mem_of_getElem? (l := tables_1_3) (i := 93) (by decide +kernel))))) rfl
theorem wq_574 : Cond.instanceMethod yX9_allRows ∈ qtbl := wq_r (List.mem_append_right _ (List.mem_append_right _ (List.mem_append_left _ (List.mem_of_getElem? (l := tables_1_3) (i := 94) (by decide +kernel))))) rfl
theorem wq_575 : Cond.selects RX9 yX9_allRows yX9_allRows ∈ qtbl := wq_r (List.mem_append_right _ (List.mem_append_right _ (List.mem_append_left _ (List.mem_of_getElem? (l := tables_1_3) (i := 95) (by decide +kernel))))) rfl
theorem wq_576 : Cond.code yX9_allRows cX9_allRows 4 (Option.some Jvm.ClassFile.FieldType.long) ∈ qtbl := wq_r (List.mem_append_right _ (List.mem_append_right _ (List.mem_append_left _ (List.mem_of_getElem? (l := tables_1_3) (i := 96) (rfl))))) rfl
theorem wq_577 : Cond.methodLink RX9 67 yX9_hasPerson ∈ qtbl := wq_r (List.mem_append_right _ (List.mem_append_right _ (List.mem_append_left _ (List.mem_of_getElem? (l := tables_1_3) (i := 97) (by decide +kernel))))) rfl
theorem wq_578 : Cond.constantLong RX10 180 (200000 : Int64) ∈ qtbl := wq_r (List.mem_append_right _ (List.mem_append_right _ (List.mem_append_left _ (List.mem_of_getElem? (l := tables_1_3) (i := 98) (by decide +kernel))))) rfl
theorem wq_579 : Cond.methodLink RL 52 yX10_fit ∈ qtbl := wq_r (List.mem_append_right _ (List.mem_append_right _ (List.mem_append_left _ (List.mem_of_getElem? (l := tables_1_3) (i := 99) (by decide +kernel))))) rfl
theorem wq_580 : Cond.instanceMethod yX10_fit ∈ qtbl := wq_r (List.mem_append_right _ (List.mem_append_right _ (List.mem_append_left _ (List.mem_of_getElem? (l := tables_1_3) (i := 100) (by decide +kernel))))) rfl
theorem wq_581 : Cond.selects RX10 yX10_fit yX10_fit ∈ qtbl := wq_r (List.mem_append_right _ (List.mem_append_right _ (List.mem_append_left _ (List.mem_of_getElem? (l := tables_1_3) (i := 101) (by decide +kernel))))) rfl
theorem wq_582 : Cond.code yX10_fit cX10_fit 4 (Option.some Jvm.ClassFile.FieldType.int) ∈ qtbl := wq_r (List.mem_append_right _ (List.mem_append_right _ (List.mem_append_left _ (List.mem_of_getElem? (l := tables_1_3) (i := 102) (rfl))))) rfl
theorem wq_583 : Cond.methodLink RX10 182 yX10_areRemarks ∈ qtbl := wq_r (List.mem_append_right _ (List.mem_append_right _ (List.mem_append_left _ (List.mem_of_getElem? (l := tables_1_3) (i := 103) (by decide +kernel))))) rfl
theorem wq_585 : Cond.instanceMethod yX10_areRemarks ∈ qtbl := wq_r (List.mem_append_right _ (List.mem_append_right _ (List.mem_append_left _ (List.mem_of_getElem? (l := tables_1_3) (i := 105) (by decide +kernel))))) rfl
theorem wq_586 : Cond.code yX10_areRemarks cX10_areRemarks 2 (Option.some Jvm.ClassFile.FieldType.boolean) ∈ qtbl := wq_r (List.mem_append_right _ (List.mem_append_right _ (List.mem_append_left _ (List.mem_of_getElem? (l := tables_1_3) (i := 106) (rfl))))) rfl
theorem wq_587 : Cond.methodLink RX10 185 yX7_seek ∈ qtbl := wq_r (List.mem_append_right _ (List.mem_append_right _ (List.mem_append_left _ (List.mem_of_getElem? (l := tables_1_3) (i := 107) (by decide +kernel))))) rfl
theorem wq_588 : Cond.instanceMethod yX7_seek ∈ qtbl := wq_r (List.mem_append_right _ (List.mem_append_right _ (List.mem_append_left _ (List.mem_of_getElem? (l := tables_1_3) (i := 108) (by decide +kernel))))) rfl
theorem wq_589 : Cond.selects RX7 yX7_seek yX7_seek ∈ qtbl := wq_r (List.mem_append_right _ (List.mem_append_right _ (List.mem_append_left _ (List.mem_of_getElem? (l := tables_1_3) (i := 109) (by decide +kernel))))) rfl
theorem wq_590 : Cond.code yX7_seek cX7_seek 2 (Option.some Jvm.ClassFile.FieldType.int) ∈ qtbl := wq_r (List.mem_append_right _ (List.mem_append_right _ (List.mem_append_left _ (List.mem_of_getElem? (l := tables_1_3) (i := 110) (rfl))))) rfl
theorem wq_591 : Cond.methodLink RX7 60 yX7_start ∈ qtbl := wq_r (List.mem_append_right _ (List.mem_append_right _ (List.mem_append_left _ (List.mem_of_getElem? (l := tables_1_3) (i := 111) (by decide +kernel))))) rfl
theorem wq_592 : Cond.instanceMethod yX7_start ∈ qtbl := wq_r (List.mem_append_right _ (List.mem_append_right _ (List.mem_append_left _ (List.mem_of_getElem? (l := tables_1_3) (i := 112) (by decide +kernel))))) rfl
theorem wq_593 : Cond.selects RX7 yX7_start yX7_start ∈ qtbl := wq_r (List.mem_append_right _ (List.mem_append_right _ (List.mem_append_left _ (List.mem_of_getElem? (l := tables_1_3) (i := 113) (by decide +kernel))))) rfl
theorem wq_594 : Cond.code yX7_start cX7_start 5 (Option.some Jvm.ClassFile.FieldType.boolean) ∈ qtbl := wq_r (List.mem_append_right _ (List.mem_append_right _ (List.mem_append_left _ (List.mem_of_getElem? (l := tables_1_3) (i := 114) (rfl))))) rfl
theorem wq_595 : Cond.methodLink RX7 25 yX9_allRows ∈ qtbl := wq_r (List.mem_append_right _ (List.mem_append_right _ (List.mem_append_left _ (List.mem_of_getElem? (l := tables_1_3) (i := 115) (by decide +kernel))))) rfl
theorem wq_596 : Cond.constantLong RX7 31 (200000 : Int64) ∈ qtbl := wq_r (List.mem_append_right _ (List.mem_append_right _ (List.mem_append_left _ (List.mem_of_getElem? (l := tables_1_3) (i := 116) (by decide +kernel))))) rfl
theorem wq_597 : Cond.methodLink RX7 40 yX9_hasPerson ∈ qtbl := wq_r (List.mem_append_right _ (List.mem_append_right _ (List.mem_append_left _ (List.mem_of_getElem? (l := tables_1_3) (i := 117) (by decide +kernel))))) rfl
theorem wq_598 : Cond.methodLink RX7 54 yX5_tells ∈ qtbl := wq_r (List.mem_append_right _ (List.mem_append_right _ (List.mem_append_left _ (List.mem_of_getElem? (l := tables_1_3) (i := 118) (by decide +kernel))))) rfl
theorem wq_599 : Cond.instanceMethod yX5_tells ∈ qtbl := wq_r (List.mem_append_right _ (List.mem_append_right _ (List.mem_append_left _ (List.mem_of_getElem? (l := tables_1_3) (i := 119) (by decide +kernel))))) rfl
theorem wq_600 : Cond.selects RX5 yX5_tells yX5_tells ∈ qtbl := wq_r (List.mem_append_right _ (List.mem_append_right _ (List.mem_append_left _ (List.mem_of_getElem? (l := tables_1_3) (i := 120) (by decide +kernel))))) rfl
theorem wq_601 : Cond.code yX5_tells cX5_tells 4 (Option.some Jvm.ClassFile.FieldType.int) ∈ qtbl := wq_r (List.mem_append_right _ (List.mem_append_right _ (List.mem_append_left _ (List.mem_of_getElem? (l := tables_1_3) (i := 121) (rfl))))) rfl
theorem wq_602 : Cond.methodLink RX7 63 yX7_next ∈ qtbl := wq_r (List.mem_append_right _ (List.mem_append_right _ (List.mem_append_left _ (List.mem_of_getElem? (l := tables_1_3) (i := 122) (by decide +kernel))))) rfl
theorem wq_603 : Cond.instanceMethod yX7_next ∈ qtbl := wq_r (List.mem_append_right _ (List.mem_append_right _ (List.mem_append_left _ (List.mem_of_getElem? (l := tables_1_3) (i := 123) (by decide +kernel))))) rfl
theorem wq_604 : Cond.selects RX7 yX7_next yX7_next ∈ qtbl := wq_r (List.mem_append_right _ (List.mem_append_right _ (List.mem_append_left _ (List.mem_of_getElem? (l := tables_1_3) (i := 124) (by decide +kernel))))) rfl
theorem wq_605 : Cond.code yX7_next cX7_next 2 (Option.some Jvm.ClassFile.FieldType.boolean) ∈ qtbl := wq_r (List.mem_append_right _ (List.mem_append_right _ (List.mem_append_left _ (List.mem_of_getElem? (l := tables_1_3) (i := 125) (rfl))))) rfl
theorem wq_606 : Cond.constant RX7 67 (200000 : Int32) ∈ qtbl := wq_r (List.mem_append_right _ (List.mem_append_right _ (List.mem_append_left _ (List.mem_of_getElem? (l := tables_1_3) (i := 126) (by decide +kernel))))) rfl
theorem wq_607 : Cond.methodLink RX7 68 yX7_move ∈ qtbl := wq_r (List.mem_append_right _ (List.mem_append_right _ (List.mem_append_left _ (List.mem_of_getElem? (l := tables_1_3) (i := 127) (by decide +kernel))))) rfl
theorem wq_608 : Cond.instanceMethod yX7_move ∈ qtbl := wq_r (List.mem_append_right _ (List.mem_append_right _ (List.mem_append_left _ (List.mem_of_getElem? (l := tables_1_3) (i := 128) (by decide +kernel))))) rfl
theorem wq_609 : Cond.selects RX7 yX7_move yX7_move ∈ qtbl := wq_r (List.mem_append_right _ (List.mem_append_right _ (List.mem_append_left _ (List.mem_of_getElem? (l := tables_1_3) (i := 129) (by decide +kernel))))) rfl
theorem wq_610 : Cond.code yX7_move cX7_move 1 (Option.some Jvm.ClassFile.FieldType.boolean) ∈ qtbl := wq_r (List.mem_append_right _ (List.mem_append_right _ (List.mem_append_left _ (List.mem_of_getElem? (l := tables_1_3) (i := 130) (rfl))))) rfl
theorem wq_611 : Cond.methodLink RX7 74 yX7_step ∈ qtbl := wq_r (List.mem_append_right _ (List.mem_append_right _ (List.mem_append_left _ (List.mem_of_getElem? (l := tables_1_3) (i := 131) (by decide +kernel))))) rfl
theorem wq_613 : Cond.instanceMethod yX7_step ∈ qtbl := wq_r (List.mem_append_right _ (List.mem_append_right _ (List.mem_append_left _ (List.mem_of_getElem? (l := tables_1_3) (i := 133) (by decide +kernel))))) rfl
theorem wq_614 : Cond.code yX7_step cX7_step 2 (Option.none : Option Jvm.ClassFile.FieldType) ∈ qtbl := wq_r (List.mem_append_right _ (List.mem_append_right _ (List.mem_append_left _ (List.mem_of_getElem? (l := tables_1_3) (i := 134) (rfl))))) rfl
theorem wq_615 : Cond.methodLink RX7 80 yX7_grow ∈ qtbl := wq_r (List.mem_append_right _ (List.mem_append_right _ (List.mem_append_left _ (List.mem_of_getElem? (l := tables_1_3) (i := 135) (by decide +kernel))))) rfl
theorem wq_617 : Cond.instanceMethod yX7_grow ∈ qtbl := wq_r (List.mem_append_right _ (List.mem_append_right _ (List.mem_append_left _ (List.mem_of_getElem? (l := tables_1_3) (i := 137) (by decide +kernel))))) rfl
theorem wq_618 : Cond.code yX7_grow cX7_grow 4 (Option.none : Option Jvm.ClassFile.FieldType) ∈ qtbl := wq_r (List.mem_append_right _ (List.mem_append_right _ (List.mem_append_left _ (List.mem_of_getElem? (l := tables_1_3) (i := 138) (rfl))))) rfl
theorem wq_619 : Cond.methodLink RX7 71 yX7_allHold ∈ qtbl := wq_r (List.mem_append_right _ (List.mem_append_right _ (List.mem_append_left _ (List.mem_of_getElem? (l := tables_1_3) (i := 139) (by decide +kernel))))) rfl
theorem wq_621 : Cond.instanceMethod yX7_allHold ∈ qtbl := wq_r (List.mem_append_right _ (List.mem_append_right _ (List.mem_append_left _ (List.mem_of_getElem? (l := tables_1_3) (i := 141) (by decide +kernel))))) rfl
theorem wq_622 : Cond.code yX7_allHold cX7_allHold 2 (Option.some Jvm.ClassFile.FieldType.boolean) ∈ qtbl := wq_r (List.mem_append_right _ (List.mem_append_right _ (List.mem_append_left _ (List.mem_of_getElem? (l := tables_1_3) (i := 142) (rfl))))) rfl
theorem wq_623 : Cond.methodLink RX7 87 yX5_holds ∈ qtbl := wq_r (List.mem_append_right _ (List.mem_append_right _ (List.mem_append_left _ (List.mem_of_getElem? (l := tables_1_3) (i := 143) (by decide +kernel))))) rfl
theorem wq_624 : Cond.instanceMethod yX5_holds ∈ qtbl := wq_r (List.mem_append_right _ (List.mem_append_right _ (List.mem_append_left _ (List.mem_of_getElem? (l := tables_1_3) (i := 144) (by decide +kernel))))) rfl
theorem wq_625 : Cond.selects RX5 yX5_holds yX5_holds ∈ qtbl := wq_r (List.mem_append_right _ (List.mem_append_right _ (List.mem_append_left _ (List.mem_of_getElem? (l := tables_1_3) (i := 145) (by decide +kernel))))) rfl
theorem wq_626 : Cond.code yX5_holds cX5_holds 2 (Option.some Jvm.ClassFile.FieldType.boolean) ∈ qtbl := wq_r (List.mem_append_right _ (List.mem_append_right _ (List.mem_append_left _ (List.mem_of_getElem? (l := tables_1_3) (i := 146) (rfl))))) rfl
theorem wq_627 : Cond.methodLink RX10 191 yX3_isCounted ∈ qtbl := wq_r (List.mem_append_right _ (List.mem_append_right _ (List.mem_append_left _ (List.mem_of_getElem? (l := tables_1_3) (i := 147) (by decide +kernel))))) rfl
theorem wq_628 : Cond.instanceMethod yX3_isCounted ∈ qtbl := wq_r (List.mem_append_right _ (List.mem_append_right _ (List.mem_append_left _ (List.mem_of_getElem? (l := tables_1_3) (i := 148) (by decide +kernel))))) rfl
theorem wq_629 : Cond.selects RX3 yX3_isCounted yX3_isCounted ∈ qtbl := wq_r (List.mem_append_right _ (List.mem_append_right _ (List.mem_append_left _ (List.mem_of_getElem? (l := tables_1_3) (i := 149) (by decide +kernel))))) rfl
theorem wq_630 : Cond.code yX3_isCounted cX3_isCounted 2 (Option.some Jvm.ClassFile.FieldType.boolean) ∈ qtbl := wq_r (List.mem_append_right _ (List.mem_append_right _ (List.mem_append_left _ (List.mem_of_getElem? (l := tables_1_3) (i := 150) (rfl))))) rfl
theorem wq_631 : Cond.methodLink RX3 25 yX9_remarksSaid ∈ qtbl := wq_r (List.mem_append_right _ (List.mem_append_right _ (List.mem_append_left _ (List.mem_of_getElem? (l := tables_1_3) (i := 151) (by decide +kernel))))) rfl
theorem wq_632 : Cond.methodLink RX3 31 yX7_start ∈ qtbl := wq_r (List.mem_append_right _ (List.mem_append_right _ (List.mem_append_left _ (List.mem_of_getElem? (l := tables_1_3) (i := 152) (by decide +kernel))))) rfl
theorem wq_633 : Cond.methodLink RX3 35 yX3_countAll ∈ qtbl := wq_r (List.mem_append_right _ (List.mem_append_right _ (List.mem_append_left _ (List.mem_of_getElem? (l := tables_1_3) (i := 153) (by decide +kernel))))) rfl
theorem wq_635 : Cond.instanceMethod yX3_countAll ∈ qtbl := wq_r (List.mem_append_right _ (List.mem_append_right _ (List.mem_append_left _ (List.mem_of_getElem? (l := tables_1_3) (i := 155) (by decide +kernel))))) rfl
theorem wq_636 : Cond.code yX3_countAll cX3_countAll 5 (Option.none : Option Jvm.ClassFile.FieldType) ∈ qtbl := wq_r (List.mem_append_right _ (List.mem_append_right _ (List.mem_append_left _ (List.mem_of_getElem? (l := tables_1_3) (i := 156) (rfl))))) rfl
theorem wq_637 : Cond.methodLink RX3 39 yJ7_fill_53178 ∈ qtbl := wq_r (List.mem_append_right _ (List.mem_append_right _ (List.mem_append_left _ (List.mem_of_getElem? (l := tables_1_3) (i := 157) (by decide +kernel))))) rfl
theorem wq_638 : Cond.constant RX3 45 (200000 : Int32) ∈ qtbl := wq_r (List.mem_append_right _ (List.mem_append_right _ (List.mem_append_left _ (List.mem_of_getElem? (l := tables_1_3) (i := 158) (by decide +kernel))))) rfl
theorem wq_639 : Cond.methodLink RX3 46 yX7_move ∈ qtbl := wq_r (List.mem_append_right _ (List.mem_append_right _ (List.mem_append_left _ (List.mem_of_getElem? (l := tables_1_3) (i := 159) (by decide +kernel))))) rfl
theorem wq_640 : Cond.methodLink RX3 50 yX7_holding ∈ qtbl := wq_r (List.mem_append_right _ (List.mem_append_right _ (List.mem_append_left _ (List.mem_of_getElem? (l := tables_1_3) (i := 160) (by decide +kernel))))) rfl
theorem wq_641 : Cond.instanceMethod yX7_holding ∈ qtbl := wq_r (List.mem_append_right _ (List.mem_append_right _ (List.mem_append_left _ (List.mem_of_getElem? (l := tables_1_3) (i := 161) (by decide +kernel))))) rfl
theorem wq_642 : Cond.selects RX7 yX7_holding yX7_holding ∈ qtbl := wq_r (List.mem_append_right _ (List.mem_append_right _ (List.mem_append_left _ (List.mem_of_getElem? (l := tables_1_3) (i := 162) (by decide +kernel))))) rfl
theorem wq_643 : Cond.code yX7_holding cX7_holding 3 (Option.some Jvm.ClassFile.FieldType.int) ∈ qtbl := wq_r (List.mem_append_right _ (List.mem_append_right _ (List.mem_append_left _ (List.mem_of_getElem? (l := tables_1_3) (i := 163) (rfl))))) rfl
theorem wq_644 : Cond.methodLink RX10 195 yX3_of ∈ qtbl := wq_r (List.mem_append_right _ (List.mem_append_right _ (List.mem_append_left _ (List.mem_of_getElem? (l := tables_1_3) (i := 164) (by decide +kernel))))) rfl
theorem wq_645 : Cond.instanceMethod yX3_of ∈ qtbl := wq_r (List.mem_append_right _ (List.mem_append_right _ (List.mem_append_left _ (List.mem_of_getElem? (l := tables_1_3) (i := 165) (by decide +kernel))))) rfl
theorem wq_646 : Cond.selects RX3 yX3_of yX3_of ∈ qtbl := wq_r (List.mem_append_right _ (List.mem_append_right _ (List.mem_append_left _ (List.mem_of_getElem? (l := tables_1_3) (i := 166) (by decide +kernel))))) rfl
theorem wq_647 : Cond.code yX3_of cX3_of 2 (Option.some Jvm.ClassFile.FieldType.int) ∈ qtbl := wq_r (List.mem_append_right _ (List.mem_append_right _ (List.mem_append_left _ (List.mem_of_getElem? (l := tables_1_3) (i := 167) (rfl))))) rfl
theorem wq_648 : Cond.methodLink RX10 198 yX3_allButOne ∈ qtbl := wq_r (List.mem_append_right _ (List.mem_append_right _ (List.mem_append_left _ (List.mem_of_getElem? (l := tables_1_3) (i := 168) (by decide +kernel))))) rfl
theorem wq_649 : Cond.instanceMethod yX3_allButOne ∈ qtbl := wq_r (List.mem_append_right _ (List.mem_append_right _ (List.mem_append_left _ (List.mem_of_getElem? (l := tables_1_3) (i := 169) (by decide +kernel))))) rfl
theorem wq_650 : Cond.selects RX3 yX3_allButOne yX3_allButOne ∈ qtbl := wq_r (List.mem_append_right _ (List.mem_append_right _ (List.mem_append_left _ (List.mem_of_getElem? (l := tables_1_3) (i := 170) (by decide +kernel))))) rfl
theorem wq_651 : Cond.code yX3_allButOne cX3_allButOne 5 (Option.some Jvm.ClassFile.FieldType.int) ∈ qtbl := wq_r (List.mem_append_right _ (List.mem_append_right _ (List.mem_append_left _ (List.mem_of_getElem? (l := tables_1_3) (i := 171) (rfl))))) rfl
theorem wq_652 : Cond.methodLink RX3 53 yX3_of ∈ qtbl := wq_r (List.mem_append_right _ (List.mem_append_right _ (List.mem_append_left _ (List.mem_of_getElem? (l := tables_1_3) (i := 172) (by decide +kernel))))) rfl
theorem wq_653 : Cond.methodLink RL 56 yX10_ageIs ∈ qtbl := wq_r (List.mem_append_right _ (List.mem_append_right _ (List.mem_append_left _ (List.mem_of_getElem? (l := tables_1_3) (i := 173) (by decide +kernel))))) rfl
theorem wq_654 : Cond.instanceMethod yX10_ageIs ∈ qtbl := wq_r (List.mem_append_right _ (List.mem_append_right _ (List.mem_append_left _ (List.mem_of_getElem? (l := tables_1_3) (i := 174) (by decide +kernel))))) rfl
theorem wq_655 : Cond.selects RX10 yX10_ageIs yX10_ageIs ∈ qtbl := wq_r (List.mem_append_right _ (List.mem_append_right _ (List.mem_append_left _ (List.mem_of_getElem? (l := tables_1_3) (i := 175) (by decide +kernel))))) rfl
theorem wq_656 : Cond.code yX10_ageIs cX10_ageIs 5 (Option.some Jvm.ClassFile.FieldType.int) ∈ qtbl := wq_r (List.mem_append_right _ (List.mem_append_right _ (List.mem_append_left _ (List.mem_of_getElem? (l := tables_1_3) (i := 176) (rfl))))) rfl
theorem wq_657 : Cond.methodLink RX10 215 yX10_countAges ∈ qtbl := wq_r (List.mem_append_right _ (List.mem_append_right _ (List.mem_append_left _ (List.mem_of_getElem? (l := tables_1_3) (i := 177) (by decide +kernel))))) rfl
theorem wq_659 : Cond.instanceMethod yX10_countAges ∈ qtbl := wq_r (List.mem_append_right _ (List.mem_append_right _ (List.mem_append_left _ (List.mem_of_getElem? (l := tables_1_3) (i := 179) (by decide +kernel))))) rfl
theorem wq_660 : Cond.code yX10_countAges cX10_countAges 5 (Option.some Jvm.ClassFile.FieldType.int) ∈ qtbl := wq_r (List.mem_append_right _ (List.mem_append_right _ (List.mem_append_left _ (List.mem_of_getElem? (l := tables_1_3) (i := 180) (rfl))))) rfl
theorem wq_661 : Cond.methodLink RX10 201 yX7_start ∈ qtbl := wq_r (List.mem_append_right _ (List.mem_append_right _ (List.mem_append_left _ (List.mem_of_getElem? (l := tables_1_3) (i := 181) (by decide +kernel))))) rfl
theorem wq_662 : Cond.methodLink RX10 204 yJ7_fill_53178 ∈ qtbl := wq_r (List.mem_append_right _ (List.mem_append_right _ (List.mem_append_left _ (List.mem_of_getElem? (l := tables_1_3) (i := 182) (by decide +kernel))))) rfl
theorem wq_663 : Cond.constant RX10 210 (200000 : Int32) ∈ qtbl := wq_r (List.mem_append_right _ (List.mem_append_right _ (List.mem_append_left _ (List.mem_of_getElem? (l := tables_1_3) (i := 183) (by decide +kernel))))) rfl
theorem wq_664 : Cond.methodLink RX10 211 yX7_next ∈ qtbl := wq_r (List.mem_append_right _ (List.mem_append_right _ (List.mem_append_left _ (List.mem_of_getElem? (l := tables_1_3) (i := 184) (by decide +kernel))))) rfl
theorem wq_665 : Cond.methodLink RX10 218 yX10_unlikeAges ∈ qtbl := wq_r (List.mem_append_right _ (List.mem_append_right _ (List.mem_append_left _ (List.mem_of_getElem? (l := tables_1_3) (i := 185) (by decide +kernel))))) rfl
theorem wq_667 : Cond.instanceMethod yX10_unlikeAges ∈ qtbl := wq_r (List.mem_append_right _ (List.mem_append_right _ (List.mem_append_left _ (List.mem_of_getElem? (l := tables_1_3) (i := 187) (by decide +kernel))))) rfl
theorem wq_668 : Cond.code yX10_unlikeAges cX10_unlikeAges 3 (Option.some Jvm.ClassFile.FieldType.int) ∈ qtbl := wq_r (List.mem_append_right _ (List.mem_append_right _ (List.mem_append_left _ (List.mem_of_getElem? (l := tables_1_3) (i := 188) (rfl))))) rfl
theorem wq_669 : Cond.methodLink RX10 221 yX10_ageAt ∈ qtbl := wq_r (List.mem_append_right _ (List.mem_append_right _ (List.mem_append_left _ (List.mem_of_getElem? (l := tables_1_3) (i := 189) (by decide +kernel))))) rfl
theorem wq_671 : Cond.instanceMethod yX10_ageAt ∈ qtbl := wq_r (List.mem_append_right _ (List.mem_append_right _ (List.mem_append_left _ (List.mem_of_getElem? (l := tables_1_3) (i := 191) (by decide +kernel))))) rfl
theorem wq_672 : Cond.code yX10_ageAt cX10_ageAt 4 (Option.some Jvm.ClassFile.FieldType.int) ∈ qtbl := wq_r (List.mem_append_right _ (List.mem_append_right _ (List.mem_append_left _ (List.mem_of_getElem? (l := tables_1_3) (i := 192) (rfl))))) rfl
theorem wq_673 : Cond.methodLink RL 61 yX10_aged ∈ qtbl := wq_r (List.mem_append_right _ (List.mem_append_right _ (List.mem_append_left _ (List.mem_of_getElem? (l := tables_1_3) (i := 193) (by decide +kernel))))) rfl
theorem wq_674 : Cond.instanceMethod yX10_aged ∈ qtbl := wq_r (List.mem_append_right _ (List.mem_append_right _ (List.mem_append_left _ (List.mem_of_getElem? (l := tables_1_3) (i := 194) (by decide +kernel))))) rfl
theorem wq_675 : Cond.selects RX10 yX10_aged yX10_aged ∈ qtbl := wq_r (List.mem_append_right _ (List.mem_append_right _ (List.mem_append_left _ (List.mem_of_getElem? (l := tables_1_3) (i := 195) (by decide +kernel))))) rfl
theorem wq_676 : Cond.code yX10_aged cX10_aged 5 (Option.some Jvm.ClassFile.FieldType.int) ∈ qtbl := wq_r (List.mem_append_right _ (List.mem_append_right _ (List.mem_append_left _ (List.mem_of_getElem? (l := tables_1_3) (i := 196) (rfl))))) rfl
theorem wq_677 : Cond.methodLink RL 138 yX10_middle ∈ qtbl := wq_r (List.mem_append_right _ (List.mem_append_right _ (List.mem_append_left _ (List.mem_of_getElem? (l := tables_1_3) (i := 197) (by decide +kernel))))) rfl
theorem wq_678 : Cond.instanceMethod yX10_middle ∈ qtbl := wq_r (List.mem_append_right _ (List.mem_append_right _ (List.mem_append_left _ (List.mem_of_getElem? (l := tables_1_3) (i := 198) (by decide +kernel))))) rfl
theorem wq_679 : Cond.selects RX10 yX10_middle yX10_middle ∈ qtbl := wq_r (List.mem_append_right _ (List.mem_append_right _ (List.mem_append_left _ (List.mem_of_getElem? (l := tables_1_3) (i := 199) (by decide +kernel))))) rfl
theorem wq_680 : Cond.code yX10_middle cX10_middle 4 (Option.some Jvm.ClassFile.FieldType.int) ∈ qtbl := wq_r (List.mem_append_right _ (List.mem_append_right _ (List.mem_append_left _ (List.mem_of_getElem? (l := tables_1_3) (i := 200) (rfl))))) rfl
theorem wq_681 : Cond.methodLink RL 142 yX10_apart ∈ qtbl := wq_r (List.mem_append_right _ (List.mem_append_right _ (List.mem_append_left _ (List.mem_of_getElem? (l := tables_1_3) (i := 201) (by decide +kernel))))) rfl
theorem wq_682 : Cond.instanceMethod yX10_apart ∈ qtbl := wq_r (List.mem_append_right _ (List.mem_append_right _ (List.mem_append_left _ (List.mem_of_getElem? (l := tables_1_3) (i := 202) (by decide +kernel))))) rfl
theorem wq_683 : Cond.selects RX10 yX10_apart yX10_apart ∈ qtbl := wq_r (List.mem_append_right _ (List.mem_append_right _ (List.mem_append_left _ (List.mem_of_getElem? (l := tables_1_3) (i := 203) (by decide +kernel))))) rfl
theorem wq_684 : Cond.code yX10_apart cX10_apart 11 (Option.some Jvm.ClassFile.FieldType.int) ∈ qtbl := wq_r (List.mem_append_right _ (List.mem_append_right _ (List.mem_append_left _ (List.mem_of_getElem? (l := tables_1_3) (i := 204) (rfl))))) rfl
theorem wq_685 : Cond.methodLink RX10 224 Lib.Math.min.name ∈ qtbl := wq_r (List.mem_append_right _ (List.mem_append_right _ (List.mem_append_left _ (List.mem_of_getElem? (l := tables_1_3) (i := 205) (by decide +kernel))))) rfl
theorem wq_686 : Cond.methodLink RX10 229 Lib.Math.max.name ∈ qtbl := wq_r (List.mem_append_right _ (List.mem_append_right _ (List.mem_append_left _ (List.mem_of_getElem? (l := tables_1_3) (i := 206) (by decide +kernel))))) rfl
theorem wq_687 : Cond.static Lib.Math.max.name ∈ qtbl := wq_r (List.mem_append_right _ (List.mem_append_right _ (List.mem_append_left _ (List.mem_of_getElem? (l := tables_1_3) (i := 207) (by decide +kernel))))) rfl
theorem wq_688 : Cond.code Lib.Math.max.name cJ9_max_7cf53 2 (Option.some Jvm.ClassFile.FieldType.int) ∈ qtbl := wq_r (List.mem_append_right _ (List.mem_append_right _ (List.mem_append_left _ (List.mem_of_getElem? (l := tables_1_3) (i := 208) (rfl))))) rfl
theorem wq_689 : Cond.methodLink RL 85 yX10_offByAYear ∈ qtbl := wq_r (List.mem_append_right _ (List.mem_append_right _ (List.mem_append_left _ (List.mem_of_getElem? (l := tables_1_3) (i := 209) (by decide +kernel))))) rfl
theorem wq_690 : Cond.instanceMethod yX10_offByAYear ∈ qtbl := wq_r (List.mem_append_right _ (List.mem_append_right _ (List.mem_append_left _ (List.mem_of_getElem? (l := tables_1_3) (i := 210) (by decide +kernel))))) rfl
theorem wq_691 : Cond.selects RX10 yX10_offByAYear yX10_offByAYear ∈ qtbl := wq_r (List.mem_append_right _ (List.mem_append_right _ (List.mem_append_left _ (List.mem_of_getElem? (l := tables_1_3) (i := 211) (by decide +kernel))))) rfl
theorem wq_692 : Cond.code yX10_offByAYear cX10_offByAYear 6 (Option.some Jvm.ClassFile.FieldType.int) ∈ qtbl := wq_r (List.mem_append_right _ (List.mem_append_right _ (List.mem_append_left _ (List.mem_of_getElem? (l := tables_1_3) (i := 212) (rfl))))) rfl
theorem wq_693 : Cond.methodLink RX10 232 yX7_move ∈ qtbl := wq_r (List.mem_append_right _ (List.mem_append_right _ (List.mem_append_left _ (List.mem_of_getElem? (l := tables_1_3) (i := 213) (by decide +kernel))))) rfl
theorem wq_694 : Cond.methodLink RX10 235 yX7_offByOne ∈ qtbl := wq_r (List.mem_append_right _ (List.mem_append_right _ (List.mem_append_left _ (List.mem_of_getElem? (l := tables_1_3) (i := 214) (by decide +kernel))))) rfl
theorem wq_695 : Cond.instanceMethod yX7_offByOne ∈ qtbl := wq_r (List.mem_append_right _ (List.mem_append_right _ (List.mem_append_left _ (List.mem_of_getElem? (l := tables_1_3) (i := 215) (by decide +kernel))))) rfl
theorem wq_696 : Cond.selects RX7 yX7_offByOne yX7_offByOne ∈ qtbl := wq_r (List.mem_append_right _ (List.mem_append_right _ (List.mem_append_left _ (List.mem_of_getElem? (l := tables_1_3) (i := 216) (by decide +kernel))))) rfl
theorem wq_697 : Cond.code yX7_offByOne cX7_offByOne 4 (Option.some Jvm.ClassFile.FieldType.int) ∈ qtbl := wq_r (List.mem_append_right _ (List.mem_append_right _ (List.mem_append_left _ (List.mem_of_getElem? (l := tables_1_3) (i := 217) (rfl))))) rfl
theorem wq_698 : Cond.methodLink RX10 238 yX10_isFewer ∈ qtbl := wq_r (List.mem_append_right _ (List.mem_append_right _ (List.mem_append_left _ (List.mem_of_getElem? (l := tables_1_3) (i := 218) (by decide +kernel))))) rfl
theorem wq_699 : Cond.static yX10_isFewer ∈ qtbl := wq_r (List.mem_append_right _ (List.mem_append_right _ (List.mem_append_left _ (List.mem_of_getElem? (l := tables_1_3) (i := 219) (by decide +kernel))))) rfl
theorem wq_700 : Cond.code yX10_isFewer cX10_isFewer 4 (Option.some Jvm.ClassFile.FieldType.boolean) ∈ qtbl := wq_r (List.mem_append_right _ (List.mem_append_right _ (List.mem_append_left _ (List.mem_of_getElem? (l := tables_1_3) (i := 220) (rfl))))) rfl
theorem wq_701 : Cond.methodLink RL 65 yX10_follows ∈ qtbl := wq_r (List.mem_append_right _ (List.mem_append_right _ (List.mem_append_left _ (List.mem_of_getElem? (l := tables_1_3) (i := 221) (by decide +kernel))))) rfl
theorem wq_702 : Cond.instanceMethod yX10_follows ∈ qtbl := wq_r (List.mem_append_right _ (List.mem_append_right _ (List.mem_append_left _ (List.mem_of_getElem? (l := tables_1_3) (i := 222) (by decide +kernel))))) rfl
theorem wq_703 : Cond.selects RX10 yX10_follows yX10_follows ∈ qtbl := wq_r (List.mem_append_right _ (List.mem_append_right _ (List.mem_append_left _ (List.mem_of_getElem? (l := tables_1_3) (i := 223) (by decide +kernel))))) rfl
theorem wq_704 : Cond.code yX10_follows cX10_follows 6 (Option.some Jvm.ClassFile.FieldType.int) ∈ qtbl := wq_r (List.mem_append_right _ (List.mem_append_right _ (List.mem_append_left _ (List.mem_of_getElem? (l := tables_1_3) (i := 224) (rfl))))) rfl
theorem wq_705 : Cond.methodLink RL 69 yX10_clash ∈ qtbl := wq_r (List.mem_append_right _ (List.mem_append_right _ (List.mem_append_left _ (List.mem_of_getElem? (l := tables_1_3) (i := 225) (by decide +kernel))))) rfl
theorem wq_706 : Cond.instanceMethod yX10_clash ∈ qtbl := wq_r (List.mem_append_right _ (List.mem_append_right _ (List.mem_append_left _ (List.mem_of_getElem? (l := tables_1_3) (i := 226) (by decide +kernel))))) rfl
theorem wq_707 : Cond.selects RX10 yX10_clash yX10_clash ∈ qtbl := wq_r (List.mem_append_right _ (List.mem_append_right _ (List.mem_append_left _ (List.mem_of_getElem? (l := tables_1_3) (i := 227) (by decide +kernel))))) rfl
theorem wq_708 : Cond.code yX10_clash cX10_clash 5 (Option.some Jvm.ClassFile.FieldType.int) ∈ qtbl := wq_r (List.mem_append_right _ (List.mem_append_right _ (List.mem_append_left _ (List.mem_of_getElem? (l := tables_1_3) (i := 228) (rfl))))) rfl
theorem wq_709 : Cond.methodLink RL 73 yX10_needless ∈ qtbl := wq_r (List.mem_append_right _ (List.mem_append_right _ (List.mem_append_left _ (List.mem_of_getElem? (l := tables_1_3) (i := 229) (by decide +kernel))))) rfl
theorem wq_710 : Cond.instanceMethod yX10_needless ∈ qtbl := wq_r (List.mem_append_right _ (List.mem_append_right _ (List.mem_append_left _ (List.mem_of_getElem? (l := tables_1_3) (i := 230) (by decide +kernel))))) rfl
theorem wq_711 : Cond.selects RX10 yX10_needless yX10_needless ∈ qtbl := wq_r (List.mem_append_right _ (List.mem_append_right _ (List.mem_append_left _ (List.mem_of_getElem? (l := tables_1_3) (i := 231) (by decide +kernel))))) rfl
theorem wq_712 : Cond.code yX10_needless cX10_needless 5 (Option.some Jvm.ClassFile.FieldType.int) ∈ qtbl := wq_r (List.mem_append_right _ (List.mem_append_right _ (List.mem_append_left _ (List.mem_of_getElem? (l := tables_1_3) (i := 232) (rfl))))) rfl
theorem wq_713 : Cond.methodLink RL 77 yX10_settles ∈ qtbl := wq_r (List.mem_append_right _ (List.mem_append_right _ (List.mem_append_left _ (List.mem_of_getElem? (l := tables_1_3) (i := 233) (by decide +kernel))))) rfl
theorem wq_714 : Cond.instanceMethod yX10_settles ∈ qtbl := wq_r (List.mem_append_right _ (List.mem_append_right _ (List.mem_append_left _ (List.mem_of_getElem? (l := tables_1_3) (i := 234) (by decide +kernel))))) rfl
theorem wq_715 : Cond.selects RX10 yX10_settles yX10_settles ∈ qtbl := wq_r (List.mem_append_right _ (List.mem_append_right _ (List.mem_append_left _ (List.mem_of_getElem? (l := tables_1_3) (i := 235) (by decide +kernel))))) rfl
theorem wq_716 : Cond.code yX10_settles cX10_settles 3 (Option.some Jvm.ClassFile.FieldType.int) ∈ qtbl := wq_r (List.mem_append_right _ (List.mem_append_right _ (List.mem_append_left _ (List.mem_of_getElem? (l := tables_1_3) (i := 236) (rfl))))) rfl
theorem wq_717 : Cond.methodLink RX10 241 yX10_isOther ∈ qtbl := wq_r (List.mem_append_right _ (List.mem_append_right _ (List.mem_append_left _ (List.mem_of_getElem? (l := tables_1_3) (i := 237) (by decide +kernel))))) rfl
theorem wq_719 : Cond.instanceMethod yX10_isOther ∈ qtbl := wq_r (List.mem_append_right _ (List.mem_append_right _ (List.mem_append_left _ (List.mem_of_getElem? (l := tables_1_3) (i := 239) (by decide +kernel))))) rfl
theorem wq_720 : Cond.code yX10_isOther cX10_isOther 3 (Option.some Jvm.ClassFile.FieldType.boolean) ∈ qtbl := wq_r (List.mem_append_right _ (List.mem_append_right _ (List.mem_append_right _ (List.mem_append_left _ (List.mem_of_getElem? (l := tables_1_4) (i := 0) (rfl)))))) rfl
theorem wq_721 : Cond.methodLink RL 81 yX10_fewest ∈ qtbl := wq_r (List.mem_append_right _ (List.mem_append_right _ (List.mem_append_right _ (List.mem_append_left _ (List.mem_of_getElem? (l := tables_1_4) (i := 1) (by decide +kernel)))))) rfl
theorem wq_722 : Cond.instanceMethod yX10_fewest ∈ qtbl := wq_r (List.mem_append_right _ (List.mem_append_right _ (List.mem_append_right _ (List.mem_append_left _ (List.mem_of_getElem? (l := tables_1_4) (i := 2) (by decide +kernel)))))) rfl
theorem wq_723 : Cond.selects RX10 yX10_fewest yX10_fewest ∈ qtbl := wq_r (List.mem_append_right _ (List.mem_append_right _ (List.mem_append_right _ (List.mem_append_left _ (List.mem_of_getElem? (l := tables_1_4) (i := 3) (by decide +kernel)))))) rfl
theorem wq_724 : Cond.code yX10_fewest cX10_fewest 6 (Option.some Jvm.ClassFile.FieldType.int) ∈ qtbl := wq_r (List.mem_append_right _ (List.mem_append_right _ (List.mem_append_right _ (List.mem_append_left _ (List.mem_of_getElem? (l := tables_1_4) (i := 4) (rfl)))))) rfl
theorem wq_725 : Cond.methodLink RL 122 yX10_asks ∈ qtbl := wq_r (List.mem_append_right _ (List.mem_append_right _ (List.mem_append_right _ (List.mem_append_left _ (List.mem_of_getElem? (l := tables_1_4) (i := 5) (by decide +kernel)))))) rfl
theorem wq_726 : Cond.instanceMethod yX10_asks ∈ qtbl := wq_r (List.mem_append_right _ (List.mem_append_right _ (List.mem_append_right _ (List.mem_append_left _ (List.mem_of_getElem? (l := tables_1_4) (i := 6) (by decide +kernel)))))) rfl
theorem wq_727 : Cond.selects RX10 yX10_asks yX10_asks ∈ qtbl := wq_r (List.mem_append_right _ (List.mem_append_right _ (List.mem_append_right _ (List.mem_append_left _ (List.mem_of_getElem? (l := tables_1_4) (i := 7) (by decide +kernel)))))) rfl
theorem wq_728 : Cond.code yX10_asks cX10_asks 9 (Option.some Jvm.ClassFile.FieldType.int) ∈ qtbl := wq_r (List.mem_append_right _ (List.mem_append_right _ (List.mem_append_right _ (List.mem_append_left _ (List.mem_of_getElem? (l := tables_1_4) (i := 8) (rfl)))))) rfl
theorem wq_729 : Cond.methodLink RX10 244 yX10_costOfAsking ∈ qtbl := wq_r (List.mem_append_right _ (List.mem_append_right _ (List.mem_append_right _ (List.mem_append_left _ (List.mem_of_getElem? (l := tables_1_4) (i := 9) (by decide +kernel)))))) rfl
theorem wq_730 : Cond.static yX10_costOfAsking ∈ qtbl := wq_r (List.mem_append_right _ (List.mem_append_right _ (List.mem_append_right _ (List.mem_append_left _ (List.mem_of_getElem? (l := tables_1_4) (i := 10) (by decide +kernel)))))) rfl
theorem wq_731 : Cond.code yX10_costOfAsking cX10_costOfAsking 3 (Option.some Jvm.ClassFile.FieldType.int) ∈ qtbl := wq_r (List.mem_append_right _ (List.mem_append_right _ (List.mem_append_right _ (List.mem_append_left _ (List.mem_of_getElem? (l := tables_1_4) (i := 11) (rfl)))))) rfl
theorem wq_732 : Cond.methodLink RX10 248 Lib.Math.abs.name ∈ qtbl := wq_r (List.mem_append_right _ (List.mem_append_right _ (List.mem_append_right _ (List.mem_append_left _ (List.mem_of_getElem? (l := tables_1_4) (i := 12) (by decide +kernel)))))) rfl
theorem wq_733 : Cond.static Lib.Math.abs.name ∈ qtbl := wq_r (List.mem_append_right _ (List.mem_append_right _ (List.mem_append_right _ (List.mem_append_left _ (List.mem_of_getElem? (l := tables_1_4) (i := 13) (by decide +kernel)))))) rfl
theorem wq_734 : Cond.code Lib.Math.abs.name cJ9_abs_0f7a4 1 (Option.some Jvm.ClassFile.FieldType.int) ∈ qtbl := wq_r (List.mem_append_right _ (List.mem_append_right _ (List.mem_append_right _ (List.mem_append_left _ (List.mem_of_getElem? (l := tables_1_4) (i := 14) (rfl)))))) rfl
theorem wq_735 : Cond.methodLink RL 126 yX10_unlike ∈ qtbl := wq_r (List.mem_append_right _ (List.mem_append_right _ (List.mem_append_right _ (List.mem_append_left _ (List.mem_of_getElem? (l := tables_1_4) (i := 15) (by decide +kernel)))))) rfl
theorem wq_736 : Cond.instanceMethod yX10_unlike ∈ qtbl := wq_r (List.mem_append_right _ (List.mem_append_right _ (List.mem_append_right _ (List.mem_append_left _ (List.mem_of_getElem? (l := tables_1_4) (i := 16) (by decide +kernel)))))) rfl
theorem wq_737 : Cond.selects RX10 yX10_unlike yX10_unlike ∈ qtbl := wq_r (List.mem_append_right _ (List.mem_append_right _ (List.mem_append_right _ (List.mem_append_left _ (List.mem_of_getElem? (l := tables_1_4) (i := 17) (by decide +kernel)))))) rfl
theorem wq_738 : Cond.code yX10_unlike cX10_unlike 3 (Option.some Jvm.ClassFile.FieldType.int) ∈ qtbl := wq_r (List.mem_append_right _ (List.mem_append_right _ (List.mem_append_right _ (List.mem_append_left _ (List.mem_of_getElem? (l := tables_1_4) (i := 18) (rfl)))))) rfl
theorem wq_739 : Cond.methodLink RL 89 yX10_known ∈ qtbl := wq_r (List.mem_append_right _ (List.mem_append_right _ (List.mem_append_right _ (List.mem_append_left _ (List.mem_of_getElem? (l := tables_1_4) (i := 19) (by decide +kernel)))))) rfl
theorem wq_740 : Cond.instanceMethod yX10_known ∈ qtbl := wq_r (List.mem_append_right _ (List.mem_append_right _ (List.mem_append_right _ (List.mem_append_left _ (List.mem_of_getElem? (l := tables_1_4) (i := 20) (by decide +kernel)))))) rfl
theorem wq_741 : Cond.selects RX10 yX10_known yX10_known ∈ qtbl := wq_r (List.mem_append_right _ (List.mem_append_right _ (List.mem_append_right _ (List.mem_append_left _ (List.mem_of_getElem? (l := tables_1_4) (i := 21) (by decide +kernel)))))) rfl
theorem wq_742 : Cond.code yX10_known cX10_known 3 (Option.some Jvm.ClassFile.FieldType.int) ∈ qtbl := wq_r (List.mem_append_right _ (List.mem_append_right _ (List.mem_append_right _ (List.mem_append_left _ (List.mem_of_getElem? (l := tables_1_4) (i := 22) (rfl)))))) rfl
theorem wq_743 : Cond.methodLink RX10 251 yX9_hasForm ∈ qtbl := wq_r (List.mem_append_right _ (List.mem_append_right _ (List.mem_append_right _ (List.mem_append_left _ (List.mem_of_getElem? (l := tables_1_4) (i := 23) (by decide +kernel)))))) rfl
theorem wq_744 : Cond.instanceMethod yX9_hasForm ∈ qtbl := wq_r (List.mem_append_right _ (List.mem_append_right _ (List.mem_append_right _ (List.mem_append_left _ (List.mem_of_getElem? (l := tables_1_4) (i := 24) (by decide +kernel)))))) rfl
theorem wq_745 : Cond.selects RX9 yX9_hasForm yX9_hasForm ∈ qtbl := wq_r (List.mem_append_right _ (List.mem_append_right _ (List.mem_append_right _ (List.mem_append_left _ (List.mem_of_getElem? (l := tables_1_4) (i := 25) (by decide +kernel)))))) rfl
theorem wq_746 : Cond.code yX9_hasForm cX9_hasForm 2 (Option.some Jvm.ClassFile.FieldType.boolean) ∈ qtbl := wq_r (List.mem_append_right _ (List.mem_append_right _ (List.mem_append_right _ (List.mem_append_left _ (List.mem_of_getElem? (l := tables_1_4) (i := 26) (rfl)))))) rfl
theorem wq_747 : Cond.methodLink RX10 254 yX2_gather ∈ qtbl := wq_r (List.mem_append_right _ (List.mem_append_right _ (List.mem_append_right _ (List.mem_append_left _ (List.mem_of_getElem? (l := tables_1_4) (i := 27) (by decide +kernel)))))) rfl
theorem wq_748 : Cond.instanceMethod yX2_gather ∈ qtbl := wq_r (List.mem_append_right _ (List.mem_append_right _ (List.mem_append_right _ (List.mem_append_left _ (List.mem_of_getElem? (l := tables_1_4) (i := 28) (by decide +kernel)))))) rfl
theorem wq_749 : Cond.selects RX2 yX2_gather yX2_gather ∈ qtbl := wq_r (List.mem_append_right _ (List.mem_append_right _ (List.mem_append_right _ (List.mem_append_left _ (List.mem_of_getElem? (l := tables_1_4) (i := 29) (by decide +kernel)))))) rfl
theorem wq_750 : Cond.code yX2_gather cX2_gather 4 (Option.some Jvm.ClassFile.FieldType.boolean) ∈ qtbl := wq_r (List.mem_append_right _ (List.mem_append_right _ (List.mem_append_right _ (List.mem_append_left _ (List.mem_of_getElem? (l := tables_1_4) (i := 30) (rfl)))))) rfl
theorem wq_751 : Cond.methodLink RX2 27 yX7_start ∈ qtbl := wq_r (List.mem_append_right _ (List.mem_append_right _ (List.mem_append_right _ (List.mem_append_left _ (List.mem_of_getElem? (l := tables_1_4) (i := 31) (by decide +kernel)))))) rfl
theorem wq_752 : Cond.constant RX2 33 (200000 : Int32) ∈ qtbl := wq_r (List.mem_append_right _ (List.mem_append_right _ (List.mem_append_right _ (List.mem_append_left _ (List.mem_of_getElem? (l := tables_1_4) (i := 32) (by decide +kernel)))))) rfl
theorem wq_753 : Cond.methodLink RX2 34 yX7_next ∈ qtbl := wq_r (List.mem_append_right _ (List.mem_append_right _ (List.mem_append_right _ (List.mem_append_left _ (List.mem_of_getElem? (l := tables_1_4) (i := 33) (by decide +kernel)))))) rfl
theorem wq_754 : Cond.methodLink RX2 41 arraycopyName ∈ qtbl := wq_r (List.mem_append_right _ (List.mem_append_right _ (List.mem_append_right _ (List.mem_append_left _ (List.mem_of_getElem? (l := tables_1_4) (i := 34) (by decide +kernel)))))) rfl
theorem wq_755 : Cond.methodLink RX10 258 yX2_hear ∈ qtbl := wq_r (List.mem_append_right _ (List.mem_append_right _ (List.mem_append_right _ (List.mem_append_left _ (List.mem_of_getElem? (l := tables_1_4) (i := 35) (by decide +kernel)))))) rfl
theorem wq_756 : Cond.instanceMethod yX2_hear ∈ qtbl := wq_r (List.mem_append_right _ (List.mem_append_right _ (List.mem_append_right _ (List.mem_append_left _ (List.mem_of_getElem? (l := tables_1_4) (i := 36) (by decide +kernel)))))) rfl
theorem wq_757 : Cond.selects RX2 yX2_hear yX2_hear ∈ qtbl := wq_r (List.mem_append_right _ (List.mem_append_right _ (List.mem_append_right _ (List.mem_append_left _ (List.mem_of_getElem? (l := tables_1_4) (i := 37) (by decide +kernel)))))) rfl
theorem wq_758 : Cond.code yX2_hear cX2_hear 5 (Option.none : Option Jvm.ClassFile.FieldType) ∈ qtbl := wq_r (List.mem_append_right _ (List.mem_append_right _ (List.mem_append_right _ (List.mem_append_left _ (List.mem_of_getElem? (l := tables_1_4) (i := 38) (rfl)))))) rfl
theorem wq_759 : Cond.methodLink RX2 55 yX2_ageOf ∈ qtbl := wq_r (List.mem_append_right _ (List.mem_append_right _ (List.mem_append_right _ (List.mem_append_left _ (List.mem_of_getElem? (l := tables_1_4) (i := 39) (by decide +kernel)))))) rfl
theorem wq_760 : Cond.instanceMethod yX2_ageOf ∈ qtbl := wq_r (List.mem_append_right _ (List.mem_append_right _ (List.mem_append_right _ (List.mem_append_left _ (List.mem_of_getElem? (l := tables_1_4) (i := 40) (by decide +kernel)))))) rfl
theorem wq_761 : Cond.selects RX2 yX2_ageOf yX2_ageOf ∈ qtbl := wq_r (List.mem_append_right _ (List.mem_append_right _ (List.mem_append_right _ (List.mem_append_left _ (List.mem_of_getElem? (l := tables_1_4) (i := 41) (by decide +kernel)))))) rfl
theorem wq_762 : Cond.code yX2_ageOf cX2_ageOf 3 (Option.some Jvm.ClassFile.FieldType.int) ∈ qtbl := wq_r (List.mem_append_right _ (List.mem_append_right _ (List.mem_append_right _ (List.mem_append_left _ (List.mem_of_getElem? (l := tables_1_4) (i := 42) (rfl)))))) rfl
theorem wq_763 : Cond.methodLink RX2 59 yX2_sortHeard ∈ qtbl := wq_r (List.mem_append_right _ (List.mem_append_right _ (List.mem_append_right _ (List.mem_append_left _ (List.mem_of_getElem? (l := tables_1_4) (i := 43) (by decide +kernel)))))) rfl
theorem wq_765 : Cond.instanceMethod yX2_sortHeard ∈ qtbl := wq_r (List.mem_append_right _ (List.mem_append_right _ (List.mem_append_right _ (List.mem_append_left _ (List.mem_of_getElem? (l := tables_1_4) (i := 45) (by decide +kernel)))))) rfl
theorem wq_766 : Cond.code yX2_sortHeard cX2_sortHeard 6 (Option.none : Option Jvm.ClassFile.FieldType) ∈ qtbl := wq_r (List.mem_append_right _ (List.mem_append_right _ (List.mem_append_right _ (List.mem_append_left _ (List.mem_of_getElem? (l := tables_1_4) (i := 46) (rfl)))))) rfl
theorem wq_767 : Cond.methodLink RX2 62 yX2_toldAt ∈ qtbl := wq_r (List.mem_append_right _ (List.mem_append_right _ (List.mem_append_right _ (List.mem_append_left _ (List.mem_of_getElem? (l := tables_1_4) (i := 47) (by decide +kernel)))))) rfl
theorem wq_769 : Cond.instanceMethod yX2_toldAt ∈ qtbl := wq_r (List.mem_append_right _ (List.mem_append_right _ (List.mem_append_right _ (List.mem_append_left _ (List.mem_of_getElem? (l := tables_1_4) (i := 49) (by decide +kernel)))))) rfl
theorem wq_770 : Cond.code yX2_toldAt cX2_toldAt 2 (Option.some Jvm.ClassFile.FieldType.int) ∈ qtbl := wq_r (List.mem_append_right _ (List.mem_append_right _ (List.mem_append_right _ (List.mem_append_left _ (List.mem_of_getElem? (l := tables_1_4) (i := 50) (rfl)))))) rfl
theorem wq_771 : Cond.methodLink RX2 66 yX2_rowAt ∈ qtbl := wq_r (List.mem_append_right _ (List.mem_append_right _ (List.mem_append_right _ (List.mem_append_left _ (List.mem_of_getElem? (l := tables_1_4) (i := 51) (by decide +kernel)))))) rfl
theorem wq_773 : Cond.instanceMethod yX2_rowAt ∈ qtbl := wq_r (List.mem_append_right _ (List.mem_append_right _ (List.mem_append_right _ (List.mem_append_left _ (List.mem_of_getElem? (l := tables_1_4) (i := 53) (by decide +kernel)))))) rfl
theorem wq_774 : Cond.code yX2_rowAt cX2_rowAt 2 (Option.some Jvm.ClassFile.FieldType.int) ∈ qtbl := wq_r (List.mem_append_right _ (List.mem_append_right _ (List.mem_append_right _ (List.mem_append_left _ (List.mem_of_getElem? (l := tables_1_4) (i := 54) (rfl)))))) rfl
theorem wq_775 : Cond.constantLong RX2 69 (65535 : Int64) ∈ qtbl := wq_r (List.mem_append_right _ (List.mem_append_right _ (List.mem_append_right _ (List.mem_append_left _ (List.mem_of_getElem? (l := tables_1_4) (i := 55) (by decide +kernel)))))) rfl
theorem wq_776 : Cond.methodLink RX10 262 yX2_alone ∈ qtbl := wq_r (List.mem_append_right _ (List.mem_append_right _ (List.mem_append_right _ (List.mem_append_left _ (List.mem_of_getElem? (l := tables_1_4) (i := 56) (by decide +kernel)))))) rfl
theorem wq_777 : Cond.instanceMethod yX2_alone ∈ qtbl := wq_r (List.mem_append_right _ (List.mem_append_right _ (List.mem_append_right _ (List.mem_append_left _ (List.mem_of_getElem? (l := tables_1_4) (i := 57) (by decide +kernel)))))) rfl
theorem wq_778 : Cond.selects RX2 yX2_alone yX2_alone ∈ qtbl := wq_r (List.mem_append_right _ (List.mem_append_right _ (List.mem_append_right _ (List.mem_append_left _ (List.mem_of_getElem? (l := tables_1_4) (i := 58) (by decide +kernel)))))) rfl
theorem wq_779 : Cond.code yX2_alone cX2_alone 3 (Option.some Jvm.ClassFile.FieldType.int) ∈ qtbl := wq_r (List.mem_append_right _ (List.mem_append_right _ (List.mem_append_right _ (List.mem_append_left _ (List.mem_of_getElem? (l := tables_1_4) (i := 59) (rfl)))))) rfl
theorem wq_780 : Cond.methodLink RL 134 yX10_often ∈ qtbl := wq_r (List.mem_append_right _ (List.mem_append_right _ (List.mem_append_right _ (List.mem_append_left _ (List.mem_of_getElem? (l := tables_1_4) (i := 60) (by decide +kernel)))))) rfl
theorem wq_781 : Cond.instanceMethod yX10_often ∈ qtbl := wq_r (List.mem_append_right _ (List.mem_append_right _ (List.mem_append_right _ (List.mem_append_left _ (List.mem_of_getElem? (l := tables_1_4) (i := 61) (by decide +kernel)))))) rfl
theorem wq_782 : Cond.selects RX10 yX10_often yX10_often ∈ qtbl := wq_r (List.mem_append_right _ (List.mem_append_right _ (List.mem_append_right _ (List.mem_append_left _ (List.mem_of_getElem? (l := tables_1_4) (i := 62) (by decide +kernel)))))) rfl
theorem wq_783 : Cond.code yX10_often cX10_often 4 (Option.some Jvm.ClassFile.FieldType.int) ∈ qtbl := wq_r (List.mem_append_right _ (List.mem_append_right _ (List.mem_append_right _ (List.mem_append_left _ (List.mem_of_getElem? (l := tables_1_4) (i := 63) (rfl)))))) rfl
theorem wq_784 : Cond.methodLink RX10 265 yX2_countNumbers ∈ qtbl := wq_r (List.mem_append_right _ (List.mem_append_right _ (List.mem_append_right _ (List.mem_append_left _ (List.mem_of_getElem? (l := tables_1_4) (i := 64) (by decide +kernel)))))) rfl
theorem wq_785 : Cond.instanceMethod yX2_countNumbers ∈ qtbl := wq_r (List.mem_append_right _ (List.mem_append_right _ (List.mem_append_right _ (List.mem_append_left _ (List.mem_of_getElem? (l := tables_1_4) (i := 65) (by decide +kernel)))))) rfl
theorem wq_786 : Cond.selects RX2 yX2_countNumbers yX2_countNumbers ∈ qtbl := wq_r (List.mem_append_right _ (List.mem_append_right _ (List.mem_append_right _ (List.mem_append_left _ (List.mem_of_getElem? (l := tables_1_4) (i := 66) (by decide +kernel)))))) rfl
theorem wq_787 : Cond.code yX2_countNumbers cX2_countNumbers 4 (Option.none : Option Jvm.ClassFile.FieldType) ∈ qtbl := wq_r (List.mem_append_right _ (List.mem_append_right _ (List.mem_append_right _ (List.mem_append_left _ (List.mem_of_getElem? (l := tables_1_4) (i := 67) (rfl)))))) rfl
theorem wq_788 : Cond.methodLink RL 93 yX10_sayings ∈ qtbl := wq_r (List.mem_append_right _ (List.mem_append_right _ (List.mem_append_right _ (List.mem_append_left _ (List.mem_of_getElem? (l := tables_1_4) (i := 68) (by decide +kernel)))))) rfl
theorem wq_789 : Cond.instanceMethod yX10_sayings ∈ qtbl := wq_r (List.mem_append_right _ (List.mem_append_right _ (List.mem_append_right _ (List.mem_append_left _ (List.mem_of_getElem? (l := tables_1_4) (i := 69) (by decide +kernel)))))) rfl
theorem wq_790 : Cond.selects RX10 yX10_sayings yX10_sayings ∈ qtbl := wq_r (List.mem_append_right _ (List.mem_append_right _ (List.mem_append_right _ (List.mem_append_left _ (List.mem_of_getElem? (l := tables_1_4) (i := 70) (by decide +kernel)))))) rfl
theorem wq_791 : Cond.code yX10_sayings cX10_sayings 7 (Option.some Jvm.ClassFile.FieldType.int) ∈ qtbl := wq_r (List.mem_append_right _ (List.mem_append_right _ (List.mem_append_right _ (List.mem_append_left _ (List.mem_of_getElem? (l := tables_1_4) (i := 71) (rfl)))))) rfl
theorem wq_792 : Cond.methodLink RX10 280 yX10_faultOfSayings ∈ qtbl := wq_r (List.mem_append_right _ (List.mem_append_right _ (List.mem_append_right _ (List.mem_append_left _ (List.mem_of_getElem? (l := tables_1_4) (i := 72) (by decide +kernel)))))) rfl
theorem wq_794 : Cond.instanceMethod yX10_faultOfSayings ∈ qtbl := wq_r (List.mem_append_right _ (List.mem_append_right _ (List.mem_append_right _ (List.mem_append_left _ (List.mem_of_getElem? (l := tables_1_4) (i := 74) (by decide +kernel)))))) rfl
theorem wq_795 : Cond.code yX10_faultOfSayings cX10_faultOfSayings 5 (Option.some Jvm.ClassFile.FieldType.int) ∈ qtbl := wq_r (List.mem_append_right _ (List.mem_append_right _ (List.mem_append_right _ (List.mem_append_left _ (List.mem_of_getElem? (l := tables_1_4) (i := 75) (rfl)))))) rfl
theorem wq_796 : Cond.methodLink RX10 283 yX2_leave ∈ qtbl := wq_r (List.mem_append_right _ (List.mem_append_right _ (List.mem_append_right _ (List.mem_append_left _ (List.mem_of_getElem? (l := tables_1_4) (i := 76) (by decide +kernel)))))) rfl
theorem wq_797 : Cond.instanceMethod yX2_leave ∈ qtbl := wq_r (List.mem_append_right _ (List.mem_append_right _ (List.mem_append_right _ (List.mem_append_left _ (List.mem_of_getElem? (l := tables_1_4) (i := 77) (by decide +kernel)))))) rfl
theorem wq_798 : Cond.selects RX2 yX2_leave yX2_leave ∈ qtbl := wq_r (List.mem_append_right _ (List.mem_append_right _ (List.mem_append_right _ (List.mem_append_left _ (List.mem_of_getElem? (l := tables_1_4) (i := 78) (by decide +kernel)))))) rfl
theorem wq_799 : Cond.code yX2_leave cX2_leave 4 (Option.none : Option Jvm.ClassFile.FieldType) ∈ qtbl := wq_r (List.mem_append_right _ (List.mem_append_right _ (List.mem_append_right _ (List.mem_append_left _ (List.mem_of_getElem? (l := tables_1_4) (i := 79) (rfl)))))) rfl
theorem wq_800 : Cond.methodLink RL 174 yX10_between ∈ qtbl := wq_r (List.mem_append_right _ (List.mem_append_right _ (List.mem_append_right _ (List.mem_append_left _ (List.mem_of_getElem? (l := tables_1_4) (i := 80) (by decide +kernel)))))) rfl
theorem wq_801 : Cond.instanceMethod yX10_between ∈ qtbl := wq_r (List.mem_append_right _ (List.mem_append_right _ (List.mem_append_right _ (List.mem_append_left _ (List.mem_of_getElem? (l := tables_1_4) (i := 81) (by decide +kernel)))))) rfl
theorem wq_802 : Cond.selects RX10 yX10_between yX10_between ∈ qtbl := wq_r (List.mem_append_right _ (List.mem_append_right _ (List.mem_append_right _ (List.mem_append_left _ (List.mem_of_getElem? (l := tables_1_4) (i := 82) (by decide +kernel)))))) rfl
theorem wq_803 : Cond.code yX10_between cX10_between 9 (Option.some Jvm.ClassFile.FieldType.int) ∈ qtbl := wq_r (List.mem_append_right _ (List.mem_append_right _ (List.mem_append_right _ (List.mem_append_left _ (List.mem_of_getElem? (l := tables_1_4) (i := 83) (rfl)))))) rfl
theorem wq_804 : Cond.methodLink RX10 290 yX5_tells ∈ qtbl := wq_r (List.mem_append_right _ (List.mem_append_right _ (List.mem_append_right _ (List.mem_append_left _ (List.mem_of_getElem? (l := tables_1_4) (i := 84) (by decide +kernel)))))) rfl
theorem wq_805 : Cond.methodLink RL 170 yX10_worth ∈ qtbl := wq_r (List.mem_append_right _ (List.mem_append_right _ (List.mem_append_right _ (List.mem_append_left _ (List.mem_of_getElem? (l := tables_1_4) (i := 85) (by decide +kernel)))))) rfl
theorem wq_806 : Cond.instanceMethod yX10_worth ∈ qtbl := wq_r (List.mem_append_right _ (List.mem_append_right _ (List.mem_append_right _ (List.mem_append_left _ (List.mem_of_getElem? (l := tables_1_4) (i := 86) (by decide +kernel)))))) rfl
theorem wq_807 : Cond.selects RX10 yX10_worth yX10_worth ∈ qtbl := wq_r (List.mem_append_right _ (List.mem_append_right _ (List.mem_append_right _ (List.mem_append_left _ (List.mem_of_getElem? (l := tables_1_4) (i := 87) (by decide +kernel)))))) rfl
theorem wq_808 : Cond.code yX10_worth cX10_worth 3 (Option.some Jvm.ClassFile.FieldType.int) ∈ qtbl := wq_r (List.mem_append_right _ (List.mem_append_right _ (List.mem_append_right _ (List.mem_append_left _ (List.mem_of_getElem? (l := tables_1_4) (i := 88) (rfl)))))) rfl
theorem wq_809 : Cond.methodLink RL 97 yX10_isTrue ∈ qtbl := wq_r (List.mem_append_right _ (List.mem_append_right _ (List.mem_append_right _ (List.mem_append_left _ (List.mem_of_getElem? (l := tables_1_4) (i := 89) (by decide +kernel)))))) rfl
theorem wq_810 : Cond.instanceMethod yX10_isTrue ∈ qtbl := wq_r (List.mem_append_right _ (List.mem_append_right _ (List.mem_append_right _ (List.mem_append_left _ (List.mem_of_getElem? (l := tables_1_4) (i := 90) (by decide +kernel)))))) rfl
theorem wq_811 : Cond.selects RX10 yX10_isTrue yX10_isTrue ∈ qtbl := wq_r (List.mem_append_right _ (List.mem_append_right _ (List.mem_append_right _ (List.mem_append_left _ (List.mem_of_getElem? (l := tables_1_4) (i := 91) (by decide +kernel)))))) rfl
theorem wq_812 : Cond.code yX10_isTrue cX10_isTrue 6 (Option.some Jvm.ClassFile.FieldType.int) ∈ qtbl := wq_r (List.mem_append_right _ (List.mem_append_right _ (List.mem_append_right _ (List.mem_append_left _ (List.mem_of_getElem? (l := tables_1_4) (i := 92) (rfl)))))) rfl
theorem wq_813 : Cond.methodLink RX10 296 yX10_nearestTrue ∈ qtbl := wq_r (List.mem_append_right _ (List.mem_append_right _ (List.mem_append_right _ (List.mem_append_left _ (List.mem_of_getElem? (l := tables_1_4) (i := 93) (by decide +kernel)))))) rfl
theorem wq_815 : Cond.instanceMethod yX10_nearestTrue ∈ qtbl := wq_r (List.mem_append_right _ (List.mem_append_right _ (List.mem_append_right _ (List.mem_append_left _ (List.mem_of_getElem? (l := tables_1_4) (i := 95) (by decide +kernel)))))) rfl
theorem wq_816 : Cond.code yX10_nearestTrue cX10_nearestTrue 6 (Option.some Jvm.ClassFile.FieldType.int) ∈ qtbl := wq_r (List.mem_append_right _ (List.mem_append_right _ (List.mem_append_right _ (List.mem_append_left _ (List.mem_of_getElem? (l := tables_1_4) (i := 96) (rfl)))))) rfl
theorem wq_817 : Cond.methodLink RX10 304 yX5_tellsIn ∈ qtbl := wq_r (List.mem_append_right _ (List.mem_append_right _ (List.mem_append_right _ (List.mem_append_left _ (List.mem_of_getElem? (l := tables_1_4) (i := 97) (by decide +kernel)))))) rfl
theorem wq_818 : Cond.instanceMethod yX5_tellsIn ∈ qtbl := wq_r (List.mem_append_right _ (List.mem_append_right _ (List.mem_append_right _ (List.mem_append_left _ (List.mem_of_getElem? (l := tables_1_4) (i := 98) (by decide +kernel)))))) rfl
theorem wq_819 : Cond.selects RX5 yX5_tellsIn yX5_tellsIn ∈ qtbl := wq_r (List.mem_append_right _ (List.mem_append_right _ (List.mem_append_right _ (List.mem_append_left _ (List.mem_of_getElem? (l := tables_1_4) (i := 99) (by decide +kernel)))))) rfl
theorem wq_820 : Cond.code yX5_tellsIn cX5_tellsIn 5 (Option.some Jvm.ClassFile.FieldType.int) ∈ qtbl := wq_r (List.mem_append_right _ (List.mem_append_right _ (List.mem_append_right _ (List.mem_append_left _ (List.mem_of_getElem? (l := tables_1_4) (i := 100) (rfl)))))) rfl
theorem wq_821 : Cond.methodLink RX10 308 yX5_holds ∈ qtbl := wq_r (List.mem_append_right _ (List.mem_append_right _ (List.mem_append_right _ (List.mem_append_left _ (List.mem_of_getElem? (l := tables_1_4) (i := 101) (by decide +kernel)))))) rfl
theorem wq_822 : Cond.methodLink RX10 300 yX10_yearsTrue ∈ qtbl := wq_r (List.mem_append_right _ (List.mem_append_right _ (List.mem_append_right _ (List.mem_append_left _ (List.mem_of_getElem? (l := tables_1_4) (i := 102) (by decide +kernel)))))) rfl
theorem wq_824 : Cond.instanceMethod yX10_yearsTrue ∈ qtbl := wq_r (List.mem_append_right _ (List.mem_append_right _ (List.mem_append_right _ (List.mem_append_left _ (List.mem_of_getElem? (l := tables_1_4) (i := 104) (by decide +kernel)))))) rfl
theorem wq_825 : Cond.code yX10_yearsTrue cX10_yearsTrue 4 (Option.some Jvm.ClassFile.FieldType.int) ∈ qtbl := wq_r (List.mem_append_right _ (List.mem_append_right _ (List.mem_append_right _ (List.mem_append_left _ (List.mem_of_getElem? (l := tables_1_4) (i := 105) (rfl)))))) rfl
theorem wq_826 : Cond.methodLink RL 101 yX10_together ∈ qtbl := wq_r (List.mem_append_right _ (List.mem_append_right _ (List.mem_append_right _ (List.mem_append_left _ (List.mem_of_getElem? (l := tables_1_4) (i := 106) (by decide +kernel)))))) rfl
theorem wq_827 : Cond.instanceMethod yX10_together ∈ qtbl := wq_r (List.mem_append_right _ (List.mem_append_right _ (List.mem_append_right _ (List.mem_append_left _ (List.mem_of_getElem? (l := tables_1_4) (i := 107) (by decide +kernel)))))) rfl
theorem wq_828 : Cond.selects RX10 yX10_together yX10_together ∈ qtbl := wq_r (List.mem_append_right _ (List.mem_append_right _ (List.mem_append_right _ (List.mem_append_left _ (List.mem_of_getElem? (l := tables_1_4) (i := 108) (by decide +kernel)))))) rfl
theorem wq_829 : Cond.code yX10_together cX10_together 8 (Option.some Jvm.ClassFile.FieldType.int) ∈ qtbl := wq_r (List.mem_append_right _ (List.mem_append_right _ (List.mem_append_right _ (List.mem_append_left _ (List.mem_of_getElem? (l := tables_1_4) (i := 109) (rfl)))))) rfl
theorem wq_830 : Cond.methodLink RL 105 yX10_turned ∈ qtbl := wq_r (List.mem_append_right _ (List.mem_append_right _ (List.mem_append_right _ (List.mem_append_left _ (List.mem_of_getElem? (l := tables_1_4) (i := 110) (by decide +kernel)))))) rfl
theorem wq_831 : Cond.instanceMethod yX10_turned ∈ qtbl := wq_r (List.mem_append_right _ (List.mem_append_right _ (List.mem_append_right _ (List.mem_append_left _ (List.mem_of_getElem? (l := tables_1_4) (i := 111) (by decide +kernel)))))) rfl
theorem wq_832 : Cond.selects RX10 yX10_turned yX10_turned ∈ qtbl := wq_r (List.mem_append_right _ (List.mem_append_right _ (List.mem_append_right _ (List.mem_append_left _ (List.mem_of_getElem? (l := tables_1_4) (i := 112) (by decide +kernel)))))) rfl
theorem wq_833 : Cond.code yX10_turned cX10_turned 9 (Option.some Jvm.ClassFile.FieldType.int) ∈ qtbl := wq_r (List.mem_append_right _ (List.mem_append_right _ (List.mem_append_right _ (List.mem_append_left _ (List.mem_of_getElem? (l := tables_1_4) (i := 113) (rfl)))))) rfl
theorem wq_834 : Cond.methodLink RX10 311 yX10_areTurned ∈ qtbl := wq_r (List.mem_append_right _ (List.mem_append_right _ (List.mem_append_right _ (List.mem_append_left _ (List.mem_of_getElem? (l := tables_1_4) (i := 114) (by decide +kernel)))))) rfl
theorem wq_835 : Cond.static yX10_areTurned ∈ qtbl := wq_r (List.mem_append_right _ (List.mem_append_right _ (List.mem_append_right _ (List.mem_append_left _ (List.mem_of_getElem? (l := tables_1_4) (i := 115) (by decide +kernel)))))) rfl
theorem wq_836 : Cond.code yX10_areTurned cX10_areTurned 2 (Option.some Jvm.ClassFile.FieldType.boolean) ∈ qtbl := wq_r (List.mem_append_right _ (List.mem_append_right _ (List.mem_append_right _ (List.mem_append_left _ (List.mem_of_getElem? (l := tables_1_4) (i := 116) (rfl)))))) rfl
theorem wq_837 : Cond.methodLink RL 110 yX10_squares ∈ qtbl := wq_r (List.mem_append_right _ (List.mem_append_right _ (List.mem_append_right _ (List.mem_append_left _ (List.mem_of_getElem? (l := tables_1_4) (i := 117) (by decide +kernel)))))) rfl
theorem wq_838 : Cond.instanceMethod yX10_squares ∈ qtbl := wq_r (List.mem_append_right _ (List.mem_append_right _ (List.mem_append_right _ (List.mem_append_left _ (List.mem_of_getElem? (l := tables_1_4) (i := 118) (by decide +kernel)))))) rfl
theorem wq_839 : Cond.selects RX10 yX10_squares yX10_squares ∈ qtbl := wq_r (List.mem_append_right _ (List.mem_append_right _ (List.mem_append_right _ (List.mem_append_left _ (List.mem_of_getElem? (l := tables_1_4) (i := 119) (by decide +kernel)))))) rfl
theorem wq_840 : Cond.code yX10_squares cX10_squares 6 (Option.some Jvm.ClassFile.FieldType.int) ∈ qtbl := wq_r (List.mem_append_right _ (List.mem_append_right _ (List.mem_append_right _ (List.mem_append_left _ (List.mem_of_getElem? (l := tables_1_4) (i := 120) (rfl)))))) rfl
theorem wq_841 : Cond.methodLink RX10 314 yX10_squaresIn ∈ qtbl := wq_r (List.mem_append_right _ (List.mem_append_right _ (List.mem_append_right _ (List.mem_append_left _ (List.mem_of_getElem? (l := tables_1_4) (i := 121) (by decide +kernel)))))) rfl
theorem wq_843 : Cond.instanceMethod yX10_squaresIn ∈ qtbl := wq_r (List.mem_append_right _ (List.mem_append_right _ (List.mem_append_right _ (List.mem_append_left _ (List.mem_of_getElem? (l := tables_1_4) (i := 123) (by decide +kernel)))))) rfl
theorem wq_844 : Cond.code yX10_squaresIn cX10_squaresIn 4 (Option.some Jvm.ClassFile.FieldType.int) ∈ qtbl := wq_r (List.mem_append_right _ (List.mem_append_right _ (List.mem_append_right _ (List.mem_append_left _ (List.mem_of_getElem? (l := tables_1_4) (i := 124) (rfl)))))) rfl
theorem wq_845 : Cond.methodLink RX10 317 yX10_isSquare ∈ qtbl := wq_r (List.mem_append_right _ (List.mem_append_right _ (List.mem_append_right _ (List.mem_append_left _ (List.mem_of_getElem? (l := tables_1_4) (i := 125) (by decide +kernel)))))) rfl
theorem wq_846 : Cond.static yX10_isSquare ∈ qtbl := wq_r (List.mem_append_right _ (List.mem_append_right _ (List.mem_append_right _ (List.mem_append_left _ (List.mem_of_getElem? (l := tables_1_4) (i := 126) (by decide +kernel)))))) rfl
theorem wq_847 : Cond.code yX10_isSquare cX10_isSquare 2 (Option.some Jvm.ClassFile.FieldType.boolean) ∈ qtbl := wq_r (List.mem_append_right _ (List.mem_append_right _ (List.mem_append_right _ (List.mem_append_left _ (List.mem_of_getElem? (l := tables_1_4) (i := 127) (rfl)))))) rfl
theorem wq_848 : Cond.methodLink RL 114 yX10_when ∈ qtbl := wq_r (List.mem_append_right _ (List.mem_append_right _ (List.mem_append_right _ (List.mem_append_left _ (List.mem_of_getElem? (l := tables_1_4) (i := 128) (by decide +kernel)))))) rfl
theorem wq_849 : Cond.instanceMethod yX10_when ∈ qtbl := wq_r (List.mem_append_right _ (List.mem_append_right _ (List.mem_append_right _ (List.mem_append_left _ (List.mem_of_getElem? (l := tables_1_4) (i := 129) (by decide +kernel)))))) rfl
theorem wq_850 : Cond.selects RX10 yX10_when yX10_when ∈ qtbl := wq_r (List.mem_append_right _ (List.mem_append_right _ (List.mem_append_right _ (List.mem_append_left _ (List.mem_of_getElem? (l := tables_1_4) (i := 130) (by decide +kernel)))))) rfl
theorem wq_851 : Cond.code yX10_when cX10_when 6 (Option.some Jvm.ClassFile.FieldType.int) ∈ qtbl := wq_r (List.mem_append_right _ (List.mem_append_right _ (List.mem_append_right _ (List.mem_append_left _ (List.mem_of_getElem? (l := tables_1_4) (i := 131) (rfl)))))) rfl
theorem wq_852 : Cond.methodLink RL 192 yX10_check ∈ qtbl := wq_r (List.mem_append_right _ (List.mem_append_right _ (List.mem_append_right _ (List.mem_append_left _ (List.mem_of_getElem? (l := tables_1_4) (i := 132) (by decide +kernel)))))) rfl
theorem wq_853 : Cond.instanceMethod yX10_check ∈ qtbl := wq_r (List.mem_append_right _ (List.mem_append_right _ (List.mem_append_right _ (List.mem_append_left _ (List.mem_of_getElem? (l := tables_1_4) (i := 133) (by decide +kernel)))))) rfl
theorem wq_854 : Cond.selects RX10 yX10_check yX10_check ∈ qtbl := wq_r (List.mem_append_right _ (List.mem_append_right _ (List.mem_append_right _ (List.mem_append_left _ (List.mem_of_getElem? (l := tables_1_4) (i := 134) (by decide +kernel)))))) rfl
theorem wq_855 : Cond.code yX10_check cX10_check 4 (Option.some Jvm.ClassFile.FieldType.int) ∈ qtbl := wq_r (List.mem_append_right _ (List.mem_append_right _ (List.mem_append_right _ (List.mem_append_left _ (List.mem_of_getElem? (l := tables_1_4) (i := 135) (rfl)))))) rfl
theorem wq_856 : Cond.methodLink RL 130 yX10_shortest ∈ qtbl := wq_r (List.mem_append_right _ (List.mem_append_right _ (List.mem_append_right _ (List.mem_append_left _ (List.mem_of_getElem? (l := tables_1_4) (i := 136) (by decide +kernel)))))) rfl
theorem wq_857 : Cond.instanceMethod yX10_shortest ∈ qtbl := wq_r (List.mem_append_right _ (List.mem_append_right _ (List.mem_append_right _ (List.mem_append_left _ (List.mem_of_getElem? (l := tables_1_4) (i := 137) (by decide +kernel)))))) rfl
theorem wq_858 : Cond.selects RX10 yX10_shortest yX10_shortest ∈ qtbl := wq_r (List.mem_append_right _ (List.mem_append_right _ (List.mem_append_right _ (List.mem_append_left _ (List.mem_of_getElem? (l := tables_1_4) (i := 138) (by decide +kernel)))))) rfl
theorem wq_859 : Cond.code yX10_shortest cX10_shortest 3 (Option.some Jvm.ClassFile.FieldType.int) ∈ qtbl := wq_r (List.mem_append_right _ (List.mem_append_right _ (List.mem_append_right _ (List.mem_append_left _ (List.mem_of_getElem? (l := tables_1_4) (i := 139) (rfl)))))) rfl
theorem wq_860 : Cond.methodLink RX10 320 yX8_find ∈ qtbl := wq_r (List.mem_append_right _ (List.mem_append_right _ (List.mem_append_right _ (List.mem_append_left _ (List.mem_of_getElem? (l := tables_1_4) (i := 140) (by decide +kernel)))))) rfl
theorem wq_861 : Cond.instanceMethod yX8_find ∈ qtbl := wq_r (List.mem_append_right _ (List.mem_append_right _ (List.mem_append_right _ (List.mem_append_left _ (List.mem_of_getElem? (l := tables_1_4) (i := 141) (by decide +kernel)))))) rfl
theorem wq_862 : Cond.selects RX8 yX8_find yX8_find ∈ qtbl := wq_r (List.mem_append_right _ (List.mem_append_right _ (List.mem_append_right _ (List.mem_append_left _ (List.mem_of_getElem? (l := tables_1_4) (i := 142) (by decide +kernel)))))) rfl
theorem wq_863 : Cond.code yX8_find cX8_find 4 (Option.some Jvm.ClassFile.FieldType.boolean) ∈ qtbl := wq_r (List.mem_append_right _ (List.mem_append_right _ (List.mem_append_right _ (List.mem_append_left _ (List.mem_of_getElem? (l := tables_1_4) (i := 143) (rfl)))))) rfl
theorem wq_864 : Cond.methodLink RX8 19 yX2_ageOf ∈ qtbl := wq_r (List.mem_append_right _ (List.mem_append_right _ (List.mem_append_right _ (List.mem_append_left _ (List.mem_of_getElem? (l := tables_1_4) (i := 144) (by decide +kernel)))))) rfl
theorem wq_865 : Cond.methodLink RX8 25 yX9_lived ∈ qtbl := wq_r (List.mem_append_right _ (List.mem_append_right _ (List.mem_append_right _ (List.mem_append_left _ (List.mem_of_getElem? (l := tables_1_4) (i := 145) (by decide +kernel)))))) rfl
theorem wq_866 : Cond.methodLink RX8 31 yX9_hasPerson ∈ qtbl := wq_r (List.mem_append_right _ (List.mem_append_right _ (List.mem_append_right _ (List.mem_append_left _ (List.mem_of_getElem? (l := tables_1_4) (i := 146) (by decide +kernel)))))) rfl
theorem wq_867 : Cond.methodLink RX8 35 yX8_offer ∈ qtbl := wq_r (List.mem_append_right _ (List.mem_append_right _ (List.mem_append_right _ (List.mem_append_left _ (List.mem_of_getElem? (l := tables_1_4) (i := 147) (by decide +kernel)))))) rfl
theorem wq_869 : Cond.instanceMethod yX8_offer ∈ qtbl := wq_r (List.mem_append_right _ (List.mem_append_right _ (List.mem_append_right _ (List.mem_append_left _ (List.mem_of_getElem? (l := tables_1_4) (i := 149) (by decide +kernel)))))) rfl
theorem wq_870 : Cond.code yX8_offer cX8_offer 9 (Option.none : Option Jvm.ClassFile.FieldType) ∈ qtbl := wq_r (List.mem_append_right _ (List.mem_append_right _ (List.mem_append_right _ (List.mem_append_left _ (List.mem_of_getElem? (l := tables_1_4) (i := 150) (rfl)))))) rfl
theorem wq_871 : Cond.methodLink RX8 47 yX8_leavesOne ∈ qtbl := wq_r (List.mem_append_right _ (List.mem_append_right _ (List.mem_append_right _ (List.mem_append_left _ (List.mem_of_getElem? (l := tables_1_4) (i := 151) (by decide +kernel)))))) rfl
theorem wq_872 : Cond.static yX8_leavesOne ∈ qtbl := wq_r (List.mem_append_right _ (List.mem_append_right _ (List.mem_append_right _ (List.mem_append_left _ (List.mem_of_getElem? (l := tables_1_4) (i := 152) (by decide +kernel)))))) rfl
theorem wq_873 : Cond.code yX8_leavesOne cX8_leavesOne 11 (Option.some Jvm.ClassFile.FieldType.boolean) ∈ qtbl := wq_r (List.mem_append_right _ (List.mem_append_right _ (List.mem_append_right _ (List.mem_append_left _ (List.mem_of_getElem? (l := tables_1_4) (i := 153) (rfl)))))) rfl
theorem wq_874 : Cond.methodLink RX8 39 yX8_offerPairs ∈ qtbl := wq_r (List.mem_append_right _ (List.mem_append_right _ (List.mem_append_right _ (List.mem_append_left _ (List.mem_of_getElem? (l := tables_1_4) (i := 154) (by decide +kernel)))))) rfl
theorem wq_876 : Cond.instanceMethod yX8_offerPairs ∈ qtbl := wq_r (List.mem_append_right _ (List.mem_append_right _ (List.mem_append_right _ (List.mem_append_left _ (List.mem_of_getElem? (l := tables_1_4) (i := 156) (by decide +kernel)))))) rfl
theorem wq_877 : Cond.code yX8_offerPairs cX8_offerPairs 7 (Option.none : Option Jvm.ClassFile.FieldType) ∈ qtbl := wq_r (List.mem_append_right _ (List.mem_append_right _ (List.mem_append_right _ (List.mem_append_left _ (List.mem_of_getElem? (l := tables_1_4) (i := 157) (rfl)))))) rfl
theorem wq_878 : Cond.methodLink RX8 43 yX8_numberBetween ∈ qtbl := wq_r (List.mem_append_right _ (List.mem_append_right _ (List.mem_append_right _ (List.mem_append_left _ (List.mem_of_getElem? (l := tables_1_4) (i := 158) (by decide +kernel)))))) rfl
theorem wq_879 : Cond.static yX8_numberBetween ∈ qtbl := wq_r (List.mem_append_right _ (List.mem_append_right _ (List.mem_append_right _ (List.mem_append_left _ (List.mem_of_getElem? (l := tables_1_4) (i := 159) (by decide +kernel)))))) rfl
theorem wq_880 : Cond.code yX8_numberBetween cX8_numberBetween 4 (Option.some Jvm.ClassFile.FieldType.int) ∈ qtbl := wq_r (List.mem_append_right _ (List.mem_append_right _ (List.mem_append_right _ (List.mem_append_left _ (List.mem_of_getElem? (l := tables_1_4) (i := 160) (rfl)))))) rfl
theorem wq_881 : Cond.methodLink RL 118 yX10_whoIsWho ∈ qtbl := wq_r (List.mem_append_right _ (List.mem_append_right _ (List.mem_append_right _ (List.mem_append_left _ (List.mem_of_getElem? (l := tables_1_4) (i := 161) (by decide +kernel)))))) rfl
theorem wq_882 : Cond.instanceMethod yX10_whoIsWho ∈ qtbl := wq_r (List.mem_append_right _ (List.mem_append_right _ (List.mem_append_right _ (List.mem_append_left _ (List.mem_of_getElem? (l := tables_1_4) (i := 162) (by decide +kernel)))))) rfl
theorem wq_883 : Cond.selects RX10 yX10_whoIsWho yX10_whoIsWho ∈ qtbl := wq_r (List.mem_append_right _ (List.mem_append_right _ (List.mem_append_right _ (List.mem_append_left _ (List.mem_of_getElem? (l := tables_1_4) (i := 163) (by decide +kernel)))))) rfl
theorem wq_884 : Cond.code yX10_whoIsWho cX10_whoIsWho 5 (Option.some Jvm.ClassFile.FieldType.int) ∈ qtbl := wq_r (List.mem_append_right _ (List.mem_append_right _ (List.mem_append_right _ (List.mem_append_left _ (List.mem_of_getElem? (l := tables_1_4) (i := 164) (rfl)))))) rfl
theorem wq_885 : Cond.methodLink RX10 337 yX10_hasAgeAbove ∈ qtbl := wq_r (List.mem_append_right _ (List.mem_append_right _ (List.mem_append_right _ (List.mem_append_left _ (List.mem_of_getElem? (l := tables_1_4) (i := 165) (by decide +kernel)))))) rfl
theorem wq_887 : Cond.instanceMethod yX10_hasAgeAbove ∈ qtbl := wq_r (List.mem_append_right _ (List.mem_append_right _ (List.mem_append_right _ (List.mem_append_left _ (List.mem_of_getElem? (l := tables_1_4) (i := 167) (by decide +kernel)))))) rfl
theorem wq_888 : Cond.code yX10_hasAgeAbove cX10_hasAgeAbove 3 (Option.some Jvm.ClassFile.FieldType.boolean) ∈ qtbl := wq_r (List.mem_append_right _ (List.mem_append_right _ (List.mem_append_right _ (List.mem_append_left _ (List.mem_of_getElem? (l := tables_1_4) (i := 168) (rfl)))))) rfl
theorem wq_889 : Cond.methodLink RX10 340 yX10_standAlone ∈ qtbl := wq_r (List.mem_append_right _ (List.mem_append_right _ (List.mem_append_right _ (List.mem_append_left _ (List.mem_of_getElem? (l := tables_1_4) (i := 169) (by decide +kernel)))))) rfl
theorem wq_891 : Cond.instanceMethod yX10_standAlone ∈ qtbl := wq_r (List.mem_append_right _ (List.mem_append_right _ (List.mem_append_right _ (List.mem_append_left _ (List.mem_of_getElem? (l := tables_1_4) (i := 171) (by decide +kernel)))))) rfl
theorem wq_892 : Cond.code yX10_standAlone cX10_standAlone 4 (Option.some Jvm.ClassFile.FieldType.boolean) ∈ qtbl := wq_r (List.mem_append_right _ (List.mem_append_right _ (List.mem_append_right _ (List.mem_append_left _ (List.mem_of_getElem? (l := tables_1_4) (i := 172) (rfl)))))) rfl
theorem wq_893 : Cond.methodLink RX10 343 yX4_giveAll ∈ qtbl := wq_r (List.mem_append_right _ (List.mem_append_right _ (List.mem_append_right _ (List.mem_append_left _ (List.mem_of_getElem? (l := tables_1_4) (i := 173) (by decide +kernel)))))) rfl
theorem wq_894 : Cond.instanceMethod yX4_giveAll ∈ qtbl := wq_r (List.mem_append_right _ (List.mem_append_right _ (List.mem_append_right _ (List.mem_append_left _ (List.mem_of_getElem? (l := tables_1_4) (i := 174) (by decide +kernel)))))) rfl
theorem wq_895 : Cond.selects RX4 yX4_giveAll yX4_giveAll ∈ qtbl := wq_r (List.mem_append_right _ (List.mem_append_right _ (List.mem_append_right _ (List.mem_append_left _ (List.mem_of_getElem? (l := tables_1_4) (i := 175) (by decide +kernel)))))) rfl
theorem wq_896 : Cond.code yX4_giveAll cX4_giveAll 7 (Option.none : Option Jvm.ClassFile.FieldType) ∈ qtbl := wq_r (List.mem_append_right _ (List.mem_append_right _ (List.mem_append_right _ (List.mem_append_left _ (List.mem_of_getElem? (l := tables_1_4) (i := 176) (rfl)))))) rfl
theorem wq_897 : Cond.methodLink RX4 21 yJ6_bitCount_0f7a4 ∈ qtbl := wq_r (List.mem_append_right _ (List.mem_append_right _ (List.mem_append_right _ (List.mem_append_left _ (List.mem_of_getElem? (l := tables_1_4) (i := 177) (by decide +kernel)))))) rfl
theorem wq_898 : Cond.methodLink RX4 27 Lib.Math.min.name ∈ qtbl := wq_r (List.mem_append_right _ (List.mem_append_right _ (List.mem_append_right _ (List.mem_append_left _ (List.mem_of_getElem? (l := tables_1_4) (i := 178) (by decide +kernel)))))) rfl
theorem wq_899 : Cond.methodLink RX4 37 yX4_give ∈ qtbl := wq_r (List.mem_append_right _ (List.mem_append_right _ (List.mem_append_right _ (List.mem_append_left _ (List.mem_of_getElem? (l := tables_1_4) (i := 179) (by decide +kernel)))))) rfl
theorem wq_901 : Cond.instanceMethod yX4_give ∈ qtbl := wq_r (List.mem_append_right _ (List.mem_append_right _ (List.mem_append_right _ (List.mem_append_left _ (List.mem_of_getElem? (l := tables_1_4) (i := 181) (by decide +kernel)))))) rfl
theorem wq_902 : Cond.code yX4_give cX4_give 5 (Option.none : Option Jvm.ClassFile.FieldType) ∈ qtbl := wq_r (List.mem_append_right _ (List.mem_append_right _ (List.mem_append_right _ (List.mem_append_left _ (List.mem_of_getElem? (l := tables_1_4) (i := 182) (rfl)))))) rfl
theorem wq_903 : Cond.methodLink RX4 41 yX4_allHold ∈ qtbl := wq_r (List.mem_append_right _ (List.mem_append_right _ (List.mem_append_right _ (List.mem_append_left _ (List.mem_of_getElem? (l := tables_1_4) (i := 183) (by decide +kernel)))))) rfl
theorem wq_905 : Cond.instanceMethod yX4_allHold ∈ qtbl := wq_r (List.mem_append_right _ (List.mem_append_right _ (List.mem_append_right _ (List.mem_append_left _ (List.mem_of_getElem? (l := tables_1_4) (i := 185) (by decide +kernel)))))) rfl
theorem wq_906 : Cond.code yX4_allHold cX4_allHold 5 (Option.some Jvm.ClassFile.FieldType.boolean) ∈ qtbl := wq_r (List.mem_append_right _ (List.mem_append_right _ (List.mem_append_right _ (List.mem_append_left _ (List.mem_of_getElem? (l := tables_1_4) (i := 186) (rfl)))))) rfl
theorem wq_907 : Cond.methodLink RX4 59 yX5_tellsIn ∈ qtbl := wq_r (List.mem_append_right _ (List.mem_append_right _ (List.mem_append_right _ (List.mem_append_left _ (List.mem_of_getElem? (l := tables_1_4) (i := 187) (by decide +kernel)))))) rfl
theorem wq_908 : Cond.methodLink RX4 65 yX5_holds ∈ qtbl := wq_r (List.mem_append_right _ (List.mem_append_right _ (List.mem_append_right _ (List.mem_append_left _ (List.mem_of_getElem? (l := tables_1_4) (i := 188) (by decide +kernel)))))) rfl
theorem wq_909 : Cond.methodLink RX4 45 yX4_noteWay ∈ qtbl := wq_r (List.mem_append_right _ (List.mem_append_right _ (List.mem_append_right _ (List.mem_append_left _ (List.mem_of_getElem? (l := tables_1_4) (i := 189) (by decide +kernel)))))) rfl
theorem wq_911 : Cond.instanceMethod yX4_noteWay ∈ qtbl := wq_r (List.mem_append_right _ (List.mem_append_right _ (List.mem_append_right _ (List.mem_append_left _ (List.mem_of_getElem? (l := tables_1_4) (i := 191) (by decide +kernel)))))) rfl
theorem wq_912 : Cond.code yX4_noteWay cX4_noteWay 4 (Option.none : Option Jvm.ClassFile.FieldType) ∈ qtbl := wq_r (List.mem_append_right _ (List.mem_append_right _ (List.mem_append_right _ (List.mem_append_left _ (List.mem_of_getElem? (l := tables_1_4) (i := 192) (rfl)))))) rfl
theorem wq_913 : Cond.methodLink RX4 49 yX4_nextOrder ∈ qtbl := wq_r (List.mem_append_right _ (List.mem_append_right _ (List.mem_append_right _ (List.mem_append_left _ (List.mem_of_getElem? (l := tables_1_4) (i := 193) (by decide +kernel)))))) rfl
theorem wq_915 : Cond.instanceMethod yX4_nextOrder ∈ qtbl := wq_r (List.mem_append_right _ (List.mem_append_right _ (List.mem_append_right _ (List.mem_append_left _ (List.mem_of_getElem? (l := tables_1_4) (i := 195) (by decide +kernel)))))) rfl
theorem wq_916 : Cond.code yX4_nextOrder cX4_nextOrder 6 (Option.some Jvm.ClassFile.FieldType.boolean) ∈ qtbl := wq_r (List.mem_append_right _ (List.mem_append_right _ (List.mem_append_right _ (List.mem_append_left _ (List.mem_of_getElem? (l := tables_1_4) (i := 196) (rfl)))))) rfl
theorem wq_917 : Cond.methodLink RX4 68 yX4_swap ∈ qtbl := wq_r (List.mem_append_right _ (List.mem_append_right _ (List.mem_append_right _ (List.mem_append_left _ (List.mem_of_getElem? (l := tables_1_4) (i := 197) (by decide +kernel)))))) rfl
theorem wq_919 : Cond.instanceMethod yX4_swap ∈ qtbl := wq_r (List.mem_append_right _ (List.mem_append_right _ (List.mem_append_right _ (List.mem_append_left _ (List.mem_of_getElem? (l := tables_1_4) (i := 199) (by decide +kernel)))))) rfl
theorem wq_920 : Cond.code yX4_swap cX4_swap 4 (Option.none : Option Jvm.ClassFile.FieldType) ∈ qtbl := wq_r (List.mem_append_right _ (List.mem_append_right _ (List.mem_append_right _ (List.mem_append_left _ (List.mem_of_getElem? (l := tables_1_4) (i := 200) (rfl)))))) rfl
theorem wq_921 : Cond.methodLink RL 150 yX10_tree ∈ qtbl := wq_r (List.mem_append_right _ (List.mem_append_right _ (List.mem_append_right _ (List.mem_append_left _ (List.mem_of_getElem? (l := tables_1_4) (i := 201) (by decide +kernel)))))) rfl
theorem wq_922 : Cond.instanceMethod yX10_tree ∈ qtbl := wq_r (List.mem_append_right _ (List.mem_append_right _ (List.mem_append_right _ (List.mem_append_left _ (List.mem_of_getElem? (l := tables_1_4) (i := 202) (by decide +kernel)))))) rfl
theorem wq_923 : Cond.selects RX10 yX10_tree yX10_tree ∈ qtbl := wq_r (List.mem_append_right _ (List.mem_append_right _ (List.mem_append_right _ (List.mem_append_left _ (List.mem_of_getElem? (l := tables_1_4) (i := 203) (by decide +kernel)))))) rfl
theorem wq_924 : Cond.code yX10_tree cX10_tree 3 (Option.some Jvm.ClassFile.FieldType.int) ∈ qtbl := wq_r (List.mem_append_right _ (List.mem_append_right _ (List.mem_append_right _ (List.mem_append_left _ (List.mem_of_getElem? (l := tables_1_4) (i := 204) (rfl)))))) rfl
theorem wq_925 : Cond.methodLink RX10 353 yX1_canBe ∈ qtbl := wq_r (List.mem_append_right _ (List.mem_append_right _ (List.mem_append_right _ (List.mem_append_left _ (List.mem_of_getElem? (l := tables_1_4) (i := 205) (by decide +kernel)))))) rfl
theorem wq_926 : Cond.instanceMethod yX1_canBe ∈ qtbl := wq_r (List.mem_append_right _ (List.mem_append_right _ (List.mem_append_right _ (List.mem_append_left _ (List.mem_of_getElem? (l := tables_1_4) (i := 206) (by decide +kernel)))))) rfl
theorem wq_927 : Cond.selects RX1 yX1_canBe yX1_canBe ∈ qtbl := wq_r (List.mem_append_right _ (List.mem_append_right _ (List.mem_append_right _ (List.mem_append_left _ (List.mem_of_getElem? (l := tables_1_4) (i := 207) (by decide +kernel)))))) rfl
theorem wq_928 : Cond.code yX1_canBe cX1_canBe 3 (Option.some Jvm.ClassFile.FieldType.boolean) ∈ qtbl := wq_r (List.mem_append_right _ (List.mem_append_right _ (List.mem_append_right _ (List.mem_append_left _ (List.mem_of_getElem? (l := tables_1_4) (i := 208) (rfl)))))) rfl
theorem wq_929 : Cond.methodLink RX1 21 arraycopyName ∈ qtbl := wq_r (List.mem_append_right _ (List.mem_append_right _ (List.mem_append_right _ (List.mem_append_left _ (List.mem_of_getElem? (l := tables_1_4) (i := 209) (by decide +kernel)))))) rfl
theorem wq_930 : Cond.methodLink RX1 28 yX1_tighten ∈ qtbl := wq_r (List.mem_append_right _ (List.mem_append_right _ (List.mem_append_right _ (List.mem_append_left _ (List.mem_of_getElem? (l := tables_1_4) (i := 210) (by decide +kernel)))))) rfl
theorem wq_932 : Cond.instanceMethod yX1_tighten ∈ qtbl := wq_r (List.mem_append_right _ (List.mem_append_right _ (List.mem_append_right _ (List.mem_append_left _ (List.mem_of_getElem? (l := tables_1_4) (i := 212) (by decide +kernel)))))) rfl
theorem wq_933 : Cond.code yX1_tighten cX1_tighten 6 (Option.some Jvm.ClassFile.FieldType.boolean) ∈ qtbl := wq_r (List.mem_append_right _ (List.mem_append_right _ (List.mem_append_right _ (List.mem_append_left _ (List.mem_of_getElem? (l := tables_1_4) (i := 213) (rfl)))))) rfl
theorem wq_934 : Cond.methodLink RX1 32 yX9_hasPerson ∈ qtbl := wq_r (List.mem_append_right _ (List.mem_append_right _ (List.mem_append_right _ (List.mem_append_left _ (List.mem_of_getElem? (l := tables_1_4) (i := 214) (by decide +kernel)))))) rfl
theorem wq_935 : Cond.methodLink RL 154 yX10_tyres ∈ qtbl := wq_r (List.mem_append_right _ (List.mem_append_right _ (List.mem_append_right _ (List.mem_append_left _ (List.mem_of_getElem? (l := tables_1_4) (i := 215) (by decide +kernel)))))) rfl
theorem wq_936 : Cond.instanceMethod yX10_tyres ∈ qtbl := wq_r (List.mem_append_right _ (List.mem_append_right _ (List.mem_append_right _ (List.mem_append_left _ (List.mem_of_getElem? (l := tables_1_4) (i := 216) (by decide +kernel)))))) rfl
theorem wq_937 : Cond.selects RX10 yX10_tyres yX10_tyres ∈ qtbl := wq_r (List.mem_append_right _ (List.mem_append_right _ (List.mem_append_right _ (List.mem_append_left _ (List.mem_of_getElem? (l := tables_1_4) (i := 217) (by decide +kernel)))))) rfl
theorem wq_938 : Cond.code yX10_tyres cX10_tyres 4 (Option.some Jvm.ClassFile.FieldType.int) ∈ qtbl := wq_r (List.mem_append_right _ (List.mem_append_right _ (List.mem_append_right _ (List.mem_append_left _ (List.mem_of_getElem? (l := tables_1_4) (i := 218) (rfl)))))) rfl
theorem wq_939 : Cond.methodLink RX10 359 yX10_milesInAll ∈ qtbl := wq_r (List.mem_append_right _ (List.mem_append_right _ (List.mem_append_right _ (List.mem_append_left _ (List.mem_of_getElem? (l := tables_1_4) (i := 219) (by decide +kernel)))))) rfl
theorem wq_941 : Cond.instanceMethod yX10_milesInAll ∈ qtbl := wq_r (List.mem_append_right _ (List.mem_append_right _ (List.mem_append_right _ (List.mem_append_left _ (List.mem_of_getElem? (l := tables_1_4) (i := 221) (by decide +kernel)))))) rfl
theorem wq_942 : Cond.code yX10_milesInAll cX10_milesInAll 5 (Option.some Jvm.ClassFile.FieldType.int) ∈ qtbl := wq_r (List.mem_append_right _ (List.mem_append_right _ (List.mem_append_right _ (List.mem_append_left _ (List.mem_of_getElem? (l := tables_1_4) (i := 222) (rfl)))))) rfl
theorem wq_943 : Cond.methodLink RL 158 yX10_butts ∈ qtbl := wq_r (List.mem_append_right _ (List.mem_append_right _ (List.mem_append_right _ (List.mem_append_left _ (List.mem_of_getElem? (l := tables_1_4) (i := 223) (by decide +kernel)))))) rfl
theorem wq_944 : Cond.instanceMethod yX10_butts ∈ qtbl := wq_r (List.mem_append_right _ (List.mem_append_right _ (List.mem_append_right _ (List.mem_append_left _ (List.mem_of_getElem? (l := tables_1_4) (i := 224) (by decide +kernel)))))) rfl
theorem wq_945 : Cond.selects RX10 yX10_butts yX10_butts ∈ qtbl := wq_r (List.mem_append_right _ (List.mem_append_right _ (List.mem_append_right _ (List.mem_append_left _ (List.mem_of_getElem? (l := tables_1_4) (i := 225) (by decide +kernel)))))) rfl
theorem wq_946 : Cond.code yX10_butts cX10_butts 2 (Option.some Jvm.ClassFile.FieldType.int) ∈ qtbl := wq_r (List.mem_append_right _ (List.mem_append_right _ (List.mem_append_right _ (List.mem_append_left _ (List.mem_of_getElem? (l := tables_1_4) (i := 226) (rfl)))))) rfl
theorem wq_947 : Cond.methodLink RX10 362 yX0_fill ∈ qtbl := wq_r (List.mem_append_right _ (List.mem_append_right _ (List.mem_append_right _ (List.mem_append_left _ (List.mem_of_getElem? (l := tables_1_4) (i := 227) (by decide +kernel)))))) rfl
theorem wq_948 : Cond.instanceMethod yX0_fill ∈ qtbl := wq_r (List.mem_append_right _ (List.mem_append_right _ (List.mem_append_right _ (List.mem_append_left _ (List.mem_of_getElem? (l := tables_1_4) (i := 228) (by decide +kernel)))))) rfl
theorem wq_949 : Cond.selects RX0 yX0_fill yX0_fill ∈ qtbl := wq_r (List.mem_append_right _ (List.mem_append_right _ (List.mem_append_right _ (List.mem_append_left _ (List.mem_of_getElem? (l := tables_1_4) (i := 229) (by decide +kernel)))))) rfl
theorem wq_950 : Cond.code yX0_fill cX0_fill 3 (Option.some Jvm.ClassFile.FieldType.boolean) ∈ qtbl := wq_r (List.mem_append_right _ (List.mem_append_right _ (List.mem_append_right _ (List.mem_append_left _ (List.mem_of_getElem? (l := tables_1_4) (i := 230) (rfl)))))) rfl
theorem wq_951 : Cond.methodLink RX10 365 yX0_pour ∈ qtbl := wq_r (List.mem_append_right _ (List.mem_append_right _ (List.mem_append_right _ (List.mem_append_left _ (List.mem_of_getElem? (l := tables_1_4) (i := 231) (by decide +kernel)))))) rfl
theorem wq_952 : Cond.instanceMethod yX0_pour ∈ qtbl := wq_r (List.mem_append_right _ (List.mem_append_right _ (List.mem_append_right _ (List.mem_append_left _ (List.mem_of_getElem? (l := tables_1_4) (i := 232) (by decide +kernel)))))) rfl
theorem wq_953 : Cond.selects RX0 yX0_pour yX0_pour ∈ qtbl := wq_r (List.mem_append_right _ (List.mem_append_right _ (List.mem_append_right _ (List.mem_append_left _ (List.mem_of_getElem? (l := tables_1_4) (i := 233) (by decide +kernel)))))) rfl
theorem wq_954 : Cond.code yX0_pour cX0_pour 6 (Option.some Jvm.ClassFile.FieldType.int) ∈ qtbl := wq_r (List.mem_append_right _ (List.mem_append_right _ (List.mem_append_right _ (List.mem_append_left _ (List.mem_of_getElem? (l := tables_1_4) (i := 234) (rfl)))))) rfl
theorem wq_955 : Cond.methodLink RX0 30 yJ7_fill_53178 ∈ qtbl := wq_r (List.mem_append_right _ (List.mem_append_right _ (List.mem_append_right _ (List.mem_append_left _ (List.mem_of_getElem? (l := tables_1_4) (i := 235) (by decide +kernel)))))) rfl
theorem wq_956 : Cond.methodLink RX0 40 yX0_reach ∈ qtbl := wq_r (List.mem_append_right _ (List.mem_append_right _ (List.mem_append_right _ (List.mem_append_left _ (List.mem_of_getElem? (l := tables_1_4) (i := 236) (by decide +kernel)))))) rfl
theorem wq_958 : Cond.instanceMethod yX0_reach ∈ qtbl := wq_r (List.mem_append_right _ (List.mem_append_right _ (List.mem_append_right _ (List.mem_append_left _ (List.mem_of_getElem? (l := tables_1_4) (i := 238) (by decide +kernel)))))) rfl
theorem wq_959 : Cond.code yX0_reach cX0_reach 4 (Option.none : Option Jvm.ClassFile.FieldType) ∈ qtbl := wq_r (List.mem_append_right _ (List.mem_append_right _ (List.mem_append_right _ (List.mem_append_left _ (List.mem_of_getElem? (l := tables_1_4) (i := 239) (rfl)))))) rfl
theorem wq_960 : Cond.methodLink RX0 43 yX0_setNow ∈ qtbl := wq_r (List.mem_append_right _ (List.mem_append_right _ (List.mem_append_right _ (List.mem_append_right _ (List.mem_append_left _ (List.mem_of_getElem? (l := tables_1_5) (i := 0) (by decide +kernel))))))) rfl
theorem wq_962 : Cond.instanceMethod yX0_setNow ∈ qtbl := wq_r (List.mem_append_right _ (List.mem_append_right _ (List.mem_append_right _ (List.mem_append_right _ (List.mem_append_left _ (List.mem_of_getElem? (l := tables_1_5) (i := 2) (by decide +kernel))))))) rfl
theorem wq_963 : Cond.code yX0_setNow cX0_setNow 2 (Option.none : Option Jvm.ClassFile.FieldType) ∈ qtbl := wq_r (List.mem_append_right _ (List.mem_append_right _ (List.mem_append_right _ (List.mem_append_right _ (List.mem_append_left _ (List.mem_of_getElem? (l := tables_1_5) (i := 3) (rfl))))))) rfl
theorem wq_964 : Cond.methodLink RX0 47 yX0_pourOne ∈ qtbl := wq_r (List.mem_append_right _ (List.mem_append_right _ (List.mem_append_right _ (List.mem_append_right _ (List.mem_append_left _ (List.mem_of_getElem? (l := tables_1_5) (i := 4) (by decide +kernel))))))) rfl
theorem wq_966 : Cond.instanceMethod yX0_pourOne ∈ qtbl := wq_r (List.mem_append_right _ (List.mem_append_right _ (List.mem_append_right _ (List.mem_append_right _ (List.mem_append_left _ (List.mem_of_getElem? (l := tables_1_5) (i := 6) (by decide +kernel))))))) rfl
theorem wq_967 : Cond.code yX0_pourOne cX0_pourOne 5 (Option.none : Option Jvm.ClassFile.FieldType) ∈ qtbl := wq_r (List.mem_append_right _ (List.mem_append_right _ (List.mem_append_right _ (List.mem_append_right _ (List.mem_append_left _ (List.mem_of_getElem? (l := tables_1_5) (i := 7) (rfl))))))) rfl
theorem wq_968 : Cond.methodLink RX0 51 Lib.Math.min.name ∈ qtbl := wq_r (List.mem_append_right _ (List.mem_append_right _ (List.mem_append_right _ (List.mem_append_right _ (List.mem_append_left _ (List.mem_of_getElem? (l := tables_1_5) (i := 8) (by decide +kernel))))))) rfl
theorem wq_969 : Cond.methodLink RX0 57 arraycopyName ∈ qtbl := wq_r (List.mem_append_right _ (List.mem_append_right _ (List.mem_append_right _ (List.mem_append_right _ (List.mem_append_left _ (List.mem_of_getElem? (l := tables_1_5) (i := 9) (by decide +kernel))))))) rfl
theorem wq_970 : Cond.methodLink RL 178 yX10_howOld ∈ qtbl := wq_r (List.mem_append_right _ (List.mem_append_right _ (List.mem_append_right _ (List.mem_append_right _ (List.mem_append_left _ (List.mem_of_getElem? (l := tables_1_5) (i := 10) (by decide +kernel))))))) rfl
theorem wq_971 : Cond.instanceMethod yX10_howOld ∈ qtbl := wq_r (List.mem_append_right _ (List.mem_append_right _ (List.mem_append_right _ (List.mem_append_right _ (List.mem_append_left _ (List.mem_of_getElem? (l := tables_1_5) (i := 11) (by decide +kernel))))))) rfl
theorem wq_972 : Cond.selects RX10 yX10_howOld yX10_howOld ∈ qtbl := wq_r (List.mem_append_right _ (List.mem_append_right _ (List.mem_append_right _ (List.mem_append_right _ (List.mem_append_left _ (List.mem_of_getElem? (l := tables_1_5) (i := 12) (by decide +kernel))))))) rfl
theorem wq_973 : Cond.code yX10_howOld cX10_howOld 9 (Option.some Jvm.ClassFile.FieldType.long) ∈ qtbl := wq_r (List.mem_append_right _ (List.mem_append_right _ (List.mem_append_right _ (List.mem_append_right _ (List.mem_append_left _ (List.mem_of_getElem? (l := tables_1_5) (i := 13) (rfl))))))) rfl
theorem wq_974 : Cond.constantLong RX10 368 (-1 : Int64) ∈ qtbl := wq_r (List.mem_append_right _ (List.mem_append_right _ (List.mem_append_right _ (List.mem_append_right _ (List.mem_append_left _ (List.mem_of_getElem? (l := tables_1_5) (i := 14) (by decide +kernel))))))) rfl
theorem wq_975 : Cond.methodLink RX10 370 yJ7_fill_d0a16 ∈ qtbl := wq_r (List.mem_append_right _ (List.mem_append_right _ (List.mem_append_right _ (List.mem_append_right _ (List.mem_append_left _ (List.mem_of_getElem? (l := tables_1_5) (i := 15) (by decide +kernel))))))) rfl
theorem wq_976 : Cond.static yJ7_fill_d0a16 ∈ qtbl := wq_r (List.mem_append_right _ (List.mem_append_right _ (List.mem_append_right _ (List.mem_append_right _ (List.mem_append_left _ (List.mem_of_getElem? (l := tables_1_5) (i := 16) (by decide +kernel))))))) rfl
theorem wq_977 : Cond.code yJ7_fill_d0a16 cJ7_fill_d0a16 5 (Option.none : Option Jvm.ClassFile.FieldType) ∈ qtbl := wq_r (List.mem_append_right _ (List.mem_append_right _ (List.mem_append_right _ (List.mem_append_right _ (List.mem_append_left _ (List.mem_of_getElem? (l := tables_1_5) (i := 17) (rfl))))))) rfl
theorem wq_978 : Cond.methodLink RL 162 yX10_plain ∈ qtbl := wq_r (List.mem_append_right _ (List.mem_append_right _ (List.mem_append_right _ (List.mem_append_right _ (List.mem_append_left _ (List.mem_of_getElem? (l := tables_1_5) (i := 18) (by decide +kernel))))))) rfl
theorem wq_979 : Cond.instanceMethod yX10_plain ∈ qtbl := wq_r (List.mem_append_right _ (List.mem_append_right _ (List.mem_append_right _ (List.mem_append_right _ (List.mem_append_left _ (List.mem_of_getElem? (l := tables_1_5) (i := 19) (by decide +kernel))))))) rfl
theorem wq_980 : Cond.selects RX10 yX10_plain yX10_plain ∈ qtbl := wq_r (List.mem_append_right _ (List.mem_append_right _ (List.mem_append_right _ (List.mem_append_right _ (List.mem_append_left _ (List.mem_of_getElem? (l := tables_1_5) (i := 20) (by decide +kernel))))))) rfl
theorem wq_981 : Cond.code yX10_plain cX10_plain 4 (Option.some Jvm.ClassFile.FieldType.int) ∈ qtbl := wq_r (List.mem_append_right _ (List.mem_append_right _ (List.mem_append_right _ (List.mem_append_right _ (List.mem_append_left _ (List.mem_of_getElem? (l := tables_1_5) (i := 21) (rfl))))))) rfl
theorem wq_982 : Cond.methodLink RX10 373 yX9_hasLine ∈ qtbl := wq_r (List.mem_append_right _ (List.mem_append_right _ (List.mem_append_right _ (List.mem_append_right _ (List.mem_append_left _ (List.mem_of_getElem? (l := tables_1_5) (i := 22) (by decide +kernel))))))) rfl
theorem wq_983 : Cond.methodLink RL 166 yX10_remarkIs ∈ qtbl := wq_r (List.mem_append_right _ (List.mem_append_right _ (List.mem_append_right _ (List.mem_append_right _ (List.mem_append_left _ (List.mem_of_getElem? (l := tables_1_5) (i := 23) (by decide +kernel))))))) rfl
theorem wq_984 : Cond.instanceMethod yX10_remarkIs ∈ qtbl := wq_r (List.mem_append_right _ (List.mem_append_right _ (List.mem_append_right _ (List.mem_append_right _ (List.mem_append_left _ (List.mem_of_getElem? (l := tables_1_5) (i := 24) (by decide +kernel))))))) rfl
theorem wq_985 : Cond.selects RX10 yX10_remarkIs yX10_remarkIs ∈ qtbl := wq_r (List.mem_append_right _ (List.mem_append_right _ (List.mem_append_right _ (List.mem_append_right _ (List.mem_append_left _ (List.mem_of_getElem? (l := tables_1_5) (i := 25) (by decide +kernel))))))) rfl
theorem wq_986 : Cond.code yX10_remarkIs cX10_remarkIs 4 (Option.some Jvm.ClassFile.FieldType.int) ∈ qtbl := wq_r (List.mem_append_right _ (List.mem_append_right _ (List.mem_append_right _ (List.mem_append_right _ (List.mem_append_left _ (List.mem_of_getElem? (l := tables_1_5) (i := 26) (rfl))))))) rfl
theorem wq_987 : Cond.classLink RL 10 RX11 ∈ qtbl := wq_r (List.mem_append_right _ (List.mem_append_right _ (List.mem_append_right _ (List.mem_append_right _ (List.mem_append_left _ (List.mem_of_getElem? (l := tables_1_5) (i := 27) (by decide +kernel))))))) rfl
theorem wq_988 : Cond.instantiable RX11 63 ∈ qtbl := wq_r (List.mem_append_right _ (List.mem_append_right _ (List.mem_append_right _ (List.mem_append_right _ (List.mem_append_left _ (List.mem_of_getElem? (l := tables_1_5) (i := 28) (by decide +kernel))))))) rfl
theorem wq_989 : Cond.methodLink RL 12 yX11_init ∈ qtbl := wq_r (List.mem_append_right _ (List.mem_append_right _ (List.mem_append_right _ (List.mem_append_right _ (List.mem_append_left _ (List.mem_of_getElem? (l := tables_1_5) (i := 29) (by decide +kernel))))))) rfl
theorem wq_990 : Cond.instanceMethod yX11_init ∈ qtbl := wq_r (List.mem_append_right _ (List.mem_append_right _ (List.mem_append_right _ (List.mem_append_right _ (List.mem_append_left _ (List.mem_of_getElem? (l := tables_1_5) (i := 30) (by decide +kernel))))))) rfl
theorem wq_991 : Cond.code yX11_init cX11_init 3 (Option.none : Option Jvm.ClassFile.FieldType) ∈ qtbl := wq_r (List.mem_append_right _ (List.mem_append_right _ (List.mem_append_right _ (List.mem_append_right _ (List.mem_append_left _ (List.mem_of_getElem? (l := tables_1_5) (i := 31) (rfl))))))) rfl
theorem wq_992 : Cond.methodLink RX11 1 objectInit ∈ qtbl := wq_r (List.mem_append_right _ (List.mem_append_right _ (List.mem_append_right _ (List.mem_append_right _ (List.mem_append_left _ (List.mem_of_getElem? (l := tables_1_5) (i := 32) (by decide +kernel))))))) rfl
theorem wq_993 : Cond.fieldLink RX11 7 "UncleAgesModel" "low" "[I" ∈ qtbl := wq_r (List.mem_append_right _ (List.mem_append_right _ (List.mem_append_right _ (List.mem_append_right _ (List.mem_append_left _ (List.mem_of_getElem? (l := tables_1_5) (i := 33) (by decide +kernel))))))) rfl
theorem wq_994 : Cond.fieldLink RX11 13 "UncleAgesModel" "high" "[I" ∈ qtbl := wq_r (List.mem_append_right _ (List.mem_append_right _ (List.mem_append_right _ (List.mem_append_right _ (List.mem_append_left _ (List.mem_of_getElem? (l := tables_1_5) (i := 34) (by decide +kernel))))))) rfl
theorem wq_995 : Cond.fieldLink RX11 16 "UncleAgesModel" "deadFrom" "[I" ∈ qtbl := wq_r (List.mem_append_right _ (List.mem_append_right _ (List.mem_append_right _ (List.mem_append_right _ (List.mem_append_left _ (List.mem_of_getElem? (l := tables_1_5) (i := 35) (by decide +kernel))))))) rfl
theorem wq_996 : Cond.fieldLink RX11 19 "UncleAgesModel" "olderBy" "[I" ∈ qtbl := wq_r (List.mem_append_right _ (List.mem_append_right _ (List.mem_append_right _ (List.mem_append_right _ (List.mem_append_left _ (List.mem_of_getElem? (l := tables_1_5) (i := 36) (by decide +kernel))))))) rfl
theorem wq_997 : Cond.fieldLink RX11 141 "UncleAgesModel" "people" "I" ∈ qtbl := wq_r (List.mem_append_right _ (List.mem_append_right _ (List.mem_append_right _ (List.mem_append_right _ (List.mem_append_left _ (List.mem_of_getElem? (l := tables_1_5) (i := 37) (by decide +kernel))))))) rfl
theorem wq_998 : Cond.fieldLink RX11 156 "UncleAgesModel" "year" "I" ∈ qtbl := wq_r (List.mem_append_right _ (List.mem_append_right _ (List.mem_append_right _ (List.mem_append_right _ (List.mem_append_left _ (List.mem_of_getElem? (l := tables_1_5) (i := 38) (by decide +kernel))))))) rfl
theorem wq_999 : Cond.fieldLink RX11 149 "UncleAgesModel" "told" "I" ∈ qtbl := wq_r (List.mem_append_right _ (List.mem_append_right _ (List.mem_append_right _ (List.mem_append_right _ (List.mem_append_left _ (List.mem_of_getElem? (l := tables_1_5) (i := 39) (by decide +kernel))))))) rfl
theorem wq_1000 : Cond.fieldLink RX11 22 "UncleAgesModel" "timesOf" "[I" ∈ qtbl := wq_r (List.mem_append_right _ (List.mem_append_right _ (List.mem_append_right _ (List.mem_append_right _ (List.mem_append_left _ (List.mem_of_getElem? (l := tables_1_5) (i := 40) (by decide +kernel))))))) rfl
theorem wq_1001 : Cond.fieldLink RX11 25 "UncleAgesModel" "rawOf" "[I" ∈ qtbl := wq_r (List.mem_append_right _ (List.mem_append_right _ (List.mem_append_right _ (List.mem_append_right _ (List.mem_append_left _ (List.mem_of_getElem? (l := tables_1_5) (i := 41) (by decide +kernel))))))) rfl
theorem wq_1002 : Cond.fieldLink RX11 28 "UncleAgesModel" "plainOf" "[I" ∈ qtbl := wq_r (List.mem_append_right _ (List.mem_append_right _ (List.mem_append_right _ (List.mem_append_right _ (List.mem_append_left _ (List.mem_of_getElem? (l := tables_1_5) (i := 42) (by decide +kernel))))))) rfl
theorem wq_1003 : Cond.fieldLink RX11 31 "UncleAgesModel" "signOf" "[I" ∈ qtbl := wq_r (List.mem_append_right _ (List.mem_append_right _ (List.mem_append_right _ (List.mem_append_right _ (List.mem_append_left _ (List.mem_of_getElem? (l := tables_1_5) (i := 43) (by decide +kernel))))))) rfl
theorem wq_1004 : Cond.fieldLink RX11 34 "UncleAgesModel" "restOf" "[I" ∈ qtbl := wq_r (List.mem_append_right _ (List.mem_append_right _ (List.mem_append_right _ (List.mem_append_right _ (List.mem_append_left _ (List.mem_of_getElem? (l := tables_1_5) (i := 44) (by decide +kernel))))))) rfl
theorem wq_1005 : Cond.fieldLink RX11 37 "UncleAgesModel" "yearOf" "[I" ∈ qtbl := wq_r (List.mem_append_right _ (List.mem_append_right _ (List.mem_append_right _ (List.mem_append_right _ (List.mem_append_left _ (List.mem_of_getElem? (l := tables_1_5) (i := 45) (by decide +kernel))))))) rfl
theorem wq_1006 : Cond.fieldLink RX11 40 "UncleAgesModel" "whoOf" "[I" ∈ qtbl := wq_r (List.mem_append_right _ (List.mem_append_right _ (List.mem_append_right _ (List.mem_append_right _ (List.mem_append_left _ (List.mem_of_getElem? (l := tables_1_5) (i := 46) (by decide +kernel))))))) rfl
theorem wq_1007 : Cond.fieldLink RX11 43 "UncleAgesModel" "tape" "[B" ∈ qtbl := wq_r (List.mem_append_right _ (List.mem_append_right _ (List.mem_append_right _ (List.mem_append_right _ (List.mem_append_left _ (List.mem_of_getElem? (l := tables_1_5) (i := 47) (by decide +kernel))))))) rfl
theorem wq_1008 : Cond.fieldLink RX11 159 "UncleAgesModel" "taped" "I" ∈ qtbl := wq_r (List.mem_append_right _ (List.mem_append_right _ (List.mem_append_right _ (List.mem_append_right _ (List.mem_append_left _ (List.mem_of_getElem? (l := tables_1_5) (i := 48) (by decide +kernel))))))) rfl
theorem wq_1009 : Cond.fieldLink RX11 166 "UncleAgesModel" "place0" "I" ∈ qtbl := wq_r (List.mem_append_right _ (List.mem_append_right _ (List.mem_append_right _ (List.mem_append_right _ (List.mem_append_left _ (List.mem_of_getElem? (l := tables_1_5) (i := 49) (by decide +kernel))))))) rfl
theorem wq_1010 : Cond.fieldLink RX11 169 "UncleAgesModel" "length0" "I" ∈ qtbl := wq_r (List.mem_append_right _ (List.mem_append_right _ (List.mem_append_right _ (List.mem_append_right _ (List.mem_append_left _ (List.mem_of_getElem? (l := tables_1_5) (i := 50) (by decide +kernel))))))) rfl
theorem wq_1011 : Cond.fieldLink RX11 176 "UncleAgesModel" "fault" "I" ∈ qtbl := wq_r (List.mem_append_right _ (List.mem_append_right _ (List.mem_append_right _ (List.mem_append_right _ (List.mem_append_left _ (List.mem_of_getElem? (l := tables_1_5) (i := 51) (by decide +kernel))))))) rfl
theorem wq_1012 : Cond.fieldLink RX11 185 "UncleAgesModel" "number0" "I" ∈ qtbl := wq_r (List.mem_append_right _ (List.mem_append_right _ (List.mem_append_right _ (List.mem_append_right _ (List.mem_append_left _ (List.mem_of_getElem? (l := tables_1_5) (i := 52) (by decide +kernel))))))) rfl
theorem wq_1013 : Cond.fieldLink RX11 47 "UncleAgesModel" "sum" "[I" ∈ qtbl := wq_r (List.mem_append_right _ (List.mem_append_right _ (List.mem_append_right _ (List.mem_append_right _ (List.mem_append_left _ (List.mem_of_getElem? (l := tables_1_5) (i := 53) (by decide +kernel))))))) rfl
theorem wq_1014 : Cond.fieldLink RX11 50 "UncleAgesModel" "term" "[I" ∈ qtbl := wq_r (List.mem_append_right _ (List.mem_append_right _ (List.mem_append_right _ (List.mem_append_right _ (List.mem_append_left _ (List.mem_of_getElem? (l := tables_1_5) (i := 54) (by decide +kernel))))))) rfl
theorem wq_1015 : Cond.fieldLink RX11 53 "UncleAgesModel" "part" "[I" ∈ qtbl := wq_r (List.mem_append_right _ (List.mem_append_right _ (List.mem_append_right _ (List.mem_append_right _ (List.mem_append_left _ (List.mem_of_getElem? (l := tables_1_5) (i := 55) (by decide +kernel))))))) rfl
theorem wq_1016 : Cond.fieldLink RX11 56 "UncleAgesModel" "sumHas" "[I" ∈ qtbl := wq_r (List.mem_append_right _ (List.mem_append_right _ (List.mem_append_right _ (List.mem_append_right _ (List.mem_append_left _ (List.mem_of_getElem? (l := tables_1_5) (i := 56) (by decide +kernel))))))) rfl
theorem wq_1017 : Cond.fieldLink RX11 59 "UncleAgesModel" "termHas" "[I" ∈ qtbl := wq_r (List.mem_append_right _ (List.mem_append_right _ (List.mem_append_right _ (List.mem_append_right _ (List.mem_append_left _ (List.mem_of_getElem? (l := tables_1_5) (i := 57) (by decide +kernel))))))) rfl
theorem wq_1018 : Cond.fieldLink RX11 62 "UncleAgesModel" "addsOf" "[I" ∈ qtbl := wq_r (List.mem_append_right _ (List.mem_append_right _ (List.mem_append_right _ (List.mem_append_right _ (List.mem_append_left _ (List.mem_of_getElem? (l := tables_1_5) (i := 58) (by decide +kernel))))))) rfl
theorem wq_1019 : Cond.fieldLink RX11 65 "UncleAgesModel" "starAt" "[I" ∈ qtbl := wq_r (List.mem_append_right _ (List.mem_append_right _ (List.mem_append_right _ (List.mem_append_right _ (List.mem_append_left _ (List.mem_of_getElem? (l := tables_1_5) (i := 59) (by decide +kernel))))))) rfl
theorem wq_1020 : Cond.fieldLink RX11 68 "UncleAgesModel" "firstOf" "[I" ∈ qtbl := wq_r (List.mem_append_right _ (List.mem_append_right _ (List.mem_append_right _ (List.mem_append_right _ (List.mem_append_left _ (List.mem_of_getElem? (l := tables_1_5) (i := 60) (by decide +kernel))))))) rfl
theorem wq_1021 : Cond.fieldLink RX11 71 "UncleAgesModel" "secondOf" "[I" ∈ qtbl := wq_r (List.mem_append_right _ (List.mem_append_right _ (List.mem_append_right _ (List.mem_append_right _ (List.mem_append_left _ (List.mem_of_getElem? (l := tables_1_5) (i := 61) (by decide +kernel))))))) rfl
theorem wq_1022 : Cond.fieldLink RX11 191 "UncleAgesModel" "frame" "I" ∈ qtbl := wq_r (List.mem_append_right _ (List.mem_append_right _ (List.mem_append_right _ (List.mem_append_right _ (List.mem_append_left _ (List.mem_of_getElem? (l := tables_1_5) (i := 62) (by decide +kernel))))))) rfl
theorem wq_1023 : Cond.fieldLink RX11 188 "UncleAgesModel" "partHas" "I" ∈ qtbl := wq_r (List.mem_append_right _ (List.mem_append_right _ (List.mem_append_right _ (List.mem_append_right _ (List.mem_append_left _ (List.mem_of_getElem? (l := tables_1_5) (i := 63) (by decide +kernel))))))) rfl
theorem wq_1024 : Cond.fieldLink RX11 194 "UncleAgesModel" "isNext" "Z" ∈ qtbl := wq_r (List.mem_append_right _ (List.mem_append_right _ (List.mem_append_right _ (List.mem_append_right _ (List.mem_append_left _ (List.mem_of_getElem? (l := tables_1_5) (i := 64) (by decide +kernel))))))) rfl
theorem wq_1025 : Cond.fieldLink RX11 74 "UncleAgesModel" "newTimes" "[I" ∈ qtbl := wq_r (List.mem_append_right _ (List.mem_append_right _ (List.mem_append_right _ (List.mem_append_right _ (List.mem_append_left _ (List.mem_of_getElem? (l := tables_1_5) (i := 65) (by decide +kernel))))))) rfl
theorem wq_1026 : Cond.fieldLink RX11 234 "UncleAgesModel" "newSign" "I" ∈ qtbl := wq_r (List.mem_append_right _ (List.mem_append_right _ (List.mem_append_right _ (List.mem_append_right _ (List.mem_append_left _ (List.mem_of_getElem? (l := tables_1_5) (i := 66) (by decide +kernel))))))) rfl
theorem wq_1027 : Cond.fieldLink RX11 237 "UncleAgesModel" "newRest" "I" ∈ qtbl := wq_r (List.mem_append_right _ (List.mem_append_right _ (List.mem_append_right _ (List.mem_append_right _ (List.mem_append_left _ (List.mem_of_getElem? (l := tables_1_5) (i := 67) (by decide +kernel))))))) rfl
theorem wq_1028 : Cond.fieldLink RX11 77 "UncleAgesModel" "age" "[I" ∈ qtbl := wq_r (List.mem_append_right _ (List.mem_append_right _ (List.mem_append_right _ (List.mem_append_right _ (List.mem_append_left _ (List.mem_of_getElem? (l := tables_1_5) (i := 68) (by decide +kernel))))))) rfl
theorem wq_1029 : Cond.fieldLink RX11 80 "UncleAgesModel" "rowsBy" "[I" ∈ qtbl := wq_r (List.mem_append_right _ (List.mem_append_right _ (List.mem_append_right _ (List.mem_append_right _ (List.mem_append_left _ (List.mem_of_getElem? (l := tables_1_5) (i := 69) (by decide +kernel))))))) rfl
theorem wq_1030 : Cond.fieldLink RX11 83 "UncleAgesModel" "rowsAged" "[I" ∈ qtbl := wq_r (List.mem_append_right _ (List.mem_append_right _ (List.mem_append_right _ (List.mem_append_right _ (List.mem_append_left _ (List.mem_of_getElem? (l := tables_1_5) (i := 70) (by decide +kernel))))))) rfl
theorem wq_1031 : Cond.fieldLink RX11 86 "UncleAgesModel" "listed" "[B" ∈ qtbl := wq_r (List.mem_append_right _ (List.mem_append_right _ (List.mem_append_right _ (List.mem_append_right _ (List.mem_append_left _ (List.mem_of_getElem? (l := tables_1_5) (i := 71) (by decide +kernel))))))) rfl
theorem wq_1032 : Cond.fieldLink RX11 89 "UncleAgesModel" "heard" "[I" ∈ qtbl := wq_r (List.mem_append_right _ (List.mem_append_right _ (List.mem_append_right _ (List.mem_append_right _ (List.mem_append_left _ (List.mem_of_getElem? (l := tables_1_5) (i := 72) (by decide +kernel))))))) rfl
theorem wq_1033 : Cond.fieldLink RX11 311 "UncleAgesModel" "listMany" "I" ∈ qtbl := wq_r (List.mem_append_right _ (List.mem_append_right _ (List.mem_append_right _ (List.mem_append_right _ (List.mem_append_left _ (List.mem_of_getElem? (l := tables_1_5) (i := 73) (by decide +kernel))))))) rfl
theorem wq_1034 : Cond.fieldLink RX11 92 "UncleAgesModel" "staysIn" "[Z" ∈ qtbl := wq_r (List.mem_append_right _ (List.mem_append_right _ (List.mem_append_right _ (List.mem_append_right _ (List.mem_append_left _ (List.mem_of_getElem? (l := tables_1_5) (i := 74) (by decide +kernel))))))) rfl
theorem wq_1035 : Cond.fieldLink RX11 336 "UncleAgesModel" "signs" "I" ∈ qtbl := wq_r (List.mem_append_right _ (List.mem_append_right _ (List.mem_append_right _ (List.mem_append_right _ (List.mem_append_left _ (List.mem_of_getElem? (l := tables_1_5) (i := 75) (by decide +kernel))))))) rfl
theorem wq_1036 : Cond.fieldLink RX11 339 "UncleAgesModel" "sort" "I" ∈ qtbl := wq_r (List.mem_append_right _ (List.mem_append_right _ (List.mem_append_right _ (List.mem_append_right _ (List.mem_append_left _ (List.mem_of_getElem? (l := tables_1_5) (i := 76) (by decide +kernel))))))) rfl
theorem wq_1037 : Cond.fieldLink RX11 342 "UncleAgesModel" "firstOne" "I" ∈ qtbl := wq_r (List.mem_append_right _ (List.mem_append_right _ (List.mem_append_right _ (List.mem_append_right _ (List.mem_append_left _ (List.mem_of_getElem? (l := tables_1_5) (i := 77) (by decide +kernel))))))) rfl
theorem wq_1038 : Cond.fieldLink RX11 345 "UncleAgesModel" "secondOne" "I" ∈ qtbl := wq_r (List.mem_append_right _ (List.mem_append_right _ (List.mem_append_right _ (List.mem_append_right _ (List.mem_append_left _ (List.mem_of_getElem? (l := tables_1_5) (i := 78) (by decide +kernel))))))) rfl
theorem wq_1039 : Cond.fieldLink RX11 348 "UncleAgesModel" "numberNow" "I" ∈ qtbl := wq_r (List.mem_append_right _ (List.mem_append_right _ (List.mem_append_right _ (List.mem_append_right _ (List.mem_append_left _ (List.mem_of_getElem? (l := tables_1_5) (i := 79) (by decide +kernel))))))) rfl
theorem wq_1040 : Cond.fieldLink RX11 96 "UncleAgesModel" "agesTold" "[I" ∈ qtbl := wq_r (List.mem_append_right _ (List.mem_append_right _ (List.mem_append_right _ (List.mem_append_right _ (List.mem_append_left _ (List.mem_of_getElem? (l := tables_1_5) (i := 80) (by decide +kernel))))))) rfl
theorem wq_1041 : Cond.fieldLink RX11 99 "UncleAgesModel" "placeOf" "[I" ∈ qtbl := wq_r (List.mem_append_right _ (List.mem_append_right _ (List.mem_append_right _ (List.mem_append_right _ (List.mem_append_left _ (List.mem_of_getElem? (l := tables_1_5) (i := 81) (by decide +kernel))))))) rfl
theorem wq_1042 : Cond.fieldLink RX11 102 "UncleAgesModel" "placeBest" "[I" ∈ qtbl := wq_r (List.mem_append_right _ (List.mem_append_right _ (List.mem_append_right _ (List.mem_append_right _ (List.mem_append_left _ (List.mem_of_getElem? (l := tables_1_5) (i := 82) (by decide +kernel))))))) rfl
theorem wq_1043 : Cond.fieldLink RX11 105 "UncleAgesModel" "theOnes" "[I" ∈ qtbl := wq_r (List.mem_append_right _ (List.mem_append_right _ (List.mem_append_right _ (List.mem_append_right _ (List.mem_append_left _ (List.mem_of_getElem? (l := tables_1_5) (i := 83) (by decide +kernel))))))) rfl
theorem wq_1044 : Cond.fieldLink RX11 108 "UncleAgesModel" "leastAge" "[I" ∈ qtbl := wq_r (List.mem_append_right _ (List.mem_append_right _ (List.mem_append_right _ (List.mem_append_right _ (List.mem_append_left _ (List.mem_of_getElem? (l := tables_1_5) (i := 84) (by decide +kernel))))))) rfl
theorem wq_1045 : Cond.fieldLink RX11 111 "UncleAgesModel" "mostAge" "[I" ∈ qtbl := wq_r (List.mem_append_right _ (List.mem_append_right _ (List.mem_append_right _ (List.mem_append_right _ (List.mem_append_left _ (List.mem_of_getElem? (l := tables_1_5) (i := 85) (by decide +kernel))))))) rfl
theorem wq_1046 : Cond.fieldLink RX11 114 "UncleAgesModel" "sizes" "[I" ∈ qtbl := wq_r (List.mem_append_right _ (List.mem_append_right _ (List.mem_append_right _ (List.mem_append_right _ (List.mem_append_left _ (List.mem_of_getElem? (l := tables_1_5) (i := 86) (by decide +kernel))))))) rfl
theorem wq_1047 : Cond.fieldLink RX11 117 "UncleAgesModel" "fullOf" "[I" ∈ qtbl := wq_r (List.mem_append_right _ (List.mem_append_right _ (List.mem_append_right _ (List.mem_append_right _ (List.mem_append_left _ (List.mem_of_getElem? (l := tables_1_5) (i := 87) (by decide +kernel))))))) rfl
theorem wq_1048 : Cond.fieldLink RX11 120 "UncleAgesModel" "queue" "[I" ∈ qtbl := wq_r (List.mem_append_right _ (List.mem_append_right _ (List.mem_append_right _ (List.mem_append_right _ (List.mem_append_left _ (List.mem_of_getElem? (l := tables_1_5) (i := 88) (by decide +kernel))))))) rfl
theorem wq_1049 : Cond.fieldLink RX11 123 "UncleAgesModel" "timesTo" "[I" ∈ qtbl := wq_r (List.mem_append_right _ (List.mem_append_right _ (List.mem_append_right _ (List.mem_append_right _ (List.mem_append_left _ (List.mem_of_getElem? (l := tables_1_5) (i := 89) (by decide +kernel))))))) rfl
theorem wq_1050 : Cond.fieldLink RX11 389 "UncleAgesModel" "queued" "I" ∈ qtbl := wq_r (List.mem_append_right _ (List.mem_append_right _ (List.mem_append_right _ (List.mem_append_right _ (List.mem_append_left _ (List.mem_of_getElem? (l := tables_1_5) (i := 90) (by decide +kernel))))))) rfl
theorem wq_1051 : Cond.fieldLink RX11 126 "UncleAgesModel" "waysTo" "[J" ∈ qtbl := wq_r (List.mem_append_right _ (List.mem_append_right _ (List.mem_append_right _ (List.mem_append_right _ (List.mem_append_left _ (List.mem_of_getElem? (l := tables_1_5) (i := 91) (by decide +kernel))))))) rfl
theorem wq_1052 : Cond.fieldLink RX11 130 "UncleAgesModel" "keptRow" "[I" ∈ qtbl := wq_r (List.mem_append_right _ (List.mem_append_right _ (List.mem_append_right _ (List.mem_append_right _ (List.mem_append_left _ (List.mem_of_getElem? (l := tables_1_5) (i := 92) (by decide +kernel))))))) rfl
theorem wq_1053 : Cond.fieldLink RX11 416 "UncleAgesModel" "isKept" "Z" ∈ qtbl := wq_r (List.mem_append_right _ (List.mem_append_right _ (List.mem_append_right _ (List.mem_append_right _ (List.mem_append_left _ (List.mem_of_getElem? (l := tables_1_5) (i := 93) (by decide +kernel))))))) rfl
theorem wq_1054 : Cond.fieldLink RX11 405 "UncleAgesModel" "keptAt" "I" ∈ qtbl := wq_r (List.mem_append_right _ (List.mem_append_right _ (List.mem_append_right _ (List.mem_append_right _ (List.mem_append_left _ (List.mem_of_getElem? (l := tables_1_5) (i := 94) (by decide +kernel))))))) rfl
theorem wq_1182 : Cond.arrayClass Jvm.ClassFile.FieldType.byte ∈ qtbl := wq_r (List.mem_append_right _ (List.mem_append_right _ (List.mem_append_right _ (List.mem_append_right _ (List.mem_append_left _ (List.mem_of_getElem? (l := tables_1_5) (i := 222) (by decide +kernel))))))) rfl
theorem wq_1183 : Cond.methodLink RL 17 yX11_person ∈ qtbl := wq_r (List.mem_append_right _ (List.mem_append_right _ (List.mem_append_right _ (List.mem_append_right _ (List.mem_append_left _ (List.mem_of_getElem? (l := tables_1_5) (i := 223) (by decide +kernel))))))) rfl
theorem wq_1184 : Cond.instanceMethod yX11_person ∈ qtbl := wq_r (List.mem_append_right _ (List.mem_append_right _ (List.mem_append_right _ (List.mem_append_right _ (List.mem_append_left _ (List.mem_of_getElem? (l := tables_1_5) (i := 224) (by decide +kernel))))))) rfl
theorem wq_1185 : Cond.selects RX11 yX11_person yX11_person ∈ qtbl := wq_r (List.mem_append_right _ (List.mem_append_right _ (List.mem_append_right _ (List.mem_append_right _ (List.mem_append_left _ (List.mem_of_getElem? (l := tables_1_5) (i := 225) (by decide +kernel))))))) rfl
theorem wq_1186 : Cond.code yX11_person cX11_person 4 (Option.some Jvm.ClassFile.FieldType.boolean) ∈ qtbl := wq_r (List.mem_append_right _ (List.mem_append_right _ (List.mem_append_right _ (List.mem_append_right _ (List.mem_append_left _ (List.mem_of_getElem? (l := tables_1_5) (i := 226) (rfl))))))) rfl
theorem wq_1187 : Cond.methodLink RX11 137 yX11_in ∈ qtbl := wq_r (List.mem_append_right _ (List.mem_append_right _ (List.mem_append_right _ (List.mem_append_right _ (List.mem_append_left _ (List.mem_of_getElem? (l := tables_1_5) (i := 227) (by decide +kernel))))))) rfl
theorem wq_1188 : Cond.static yX11_in ∈ qtbl := wq_r (List.mem_append_right _ (List.mem_append_right _ (List.mem_append_right _ (List.mem_append_right _ (List.mem_append_left _ (List.mem_of_getElem? (l := tables_1_5) (i := 228) (by decide +kernel))))))) rfl
theorem wq_1189 : Cond.code yX11_in cX11_in 3 (Option.some Jvm.ClassFile.FieldType.boolean) ∈ qtbl := wq_r (List.mem_append_right _ (List.mem_append_right _ (List.mem_append_right _ (List.mem_append_right _ (List.mem_append_left _ (List.mem_of_getElem? (l := tables_1_5) (i := 229) (rfl))))))) rfl
theorem wq_1190 : Cond.methodLink RL 22 yX11_dies ∈ qtbl := wq_r (List.mem_append_right _ (List.mem_append_right _ (List.mem_append_right _ (List.mem_append_right _ (List.mem_append_left _ (List.mem_of_getElem? (l := tables_1_5) (i := 230) (by decide +kernel))))))) rfl
theorem wq_1191 : Cond.instanceMethod yX11_dies ∈ qtbl := wq_r (List.mem_append_right _ (List.mem_append_right _ (List.mem_append_right _ (List.mem_append_right _ (List.mem_append_left _ (List.mem_of_getElem? (l := tables_1_5) (i := 231) (by decide +kernel))))))) rfl
theorem wq_1192 : Cond.selects RX11 yX11_dies yX11_dies ∈ qtbl := wq_r (List.mem_append_right _ (List.mem_append_right _ (List.mem_append_right _ (List.mem_append_right _ (List.mem_append_left _ (List.mem_of_getElem? (l := tables_1_5) (i := 232) (by decide +kernel))))))) rfl
theorem wq_1193 : Cond.code yX11_dies cX11_dies 3 (Option.some Jvm.ClassFile.FieldType.boolean) ∈ qtbl := wq_r (List.mem_append_right _ (List.mem_append_right _ (List.mem_append_right _ (List.mem_append_right _ (List.mem_append_left _ (List.mem_of_getElem? (l := tables_1_5) (i := 233) (rfl))))))) rfl
theorem wq_1194 : Cond.methodLink RX11 145 yX11_isPerson ∈ qtbl := wq_r (List.mem_append_right _ (List.mem_append_right _ (List.mem_append_right _ (List.mem_append_right _ (List.mem_append_left _ (List.mem_of_getElem? (l := tables_1_5) (i := 234) (by decide +kernel))))))) rfl
theorem wq_1196 : Cond.instanceMethod yX11_isPerson ∈ qtbl := wq_r (List.mem_append_right _ (List.mem_append_right _ (List.mem_append_right _ (List.mem_append_right _ (List.mem_append_left _ (List.mem_of_getElem? (l := tables_1_5) (i := 236) (by decide +kernel))))))) rfl
theorem wq_1197 : Cond.code yX11_isPerson cX11_isPerson 2 (Option.some Jvm.ClassFile.FieldType.boolean) ∈ qtbl := wq_r (List.mem_append_right _ (List.mem_append_right _ (List.mem_append_right _ (List.mem_append_right _ (List.mem_append_left _ (List.mem_of_getElem? (l := tables_1_5) (i := 237) (rfl))))))) rfl
theorem wq_1198 : Cond.methodLink RX11 133 yX11_has ∈ qtbl := wq_r (List.mem_append_right _ (List.mem_append_right _ (List.mem_append_right _ (List.mem_append_right _ (List.mem_append_left _ (List.mem_of_getElem? (l := tables_1_5) (i := 238) (by decide +kernel))))))) rfl
theorem wq_1199 : Cond.static yX11_has ∈ qtbl := wq_r (List.mem_append_right _ (List.mem_append_right _ (List.mem_append_right _ (List.mem_append_right _ (List.mem_append_left _ (List.mem_of_getElem? (l := tables_1_5) (i := 239) (by decide +kernel))))))) rfl
theorem wq_1200 : Cond.code yX11_has cX11_has 2 (Option.some Jvm.ClassFile.FieldType.boolean) ∈ qtbl := wq_r (List.mem_append_right _ (List.mem_append_right _ (List.mem_append_right _ (List.mem_append_right _ (List.mem_append_right _ (List.mem_append_left _ (List.mem_of_getElem? (l := tables_1_6) (i := 0) (rfl)))))))) rfl
theorem wq_1201 : Cond.methodLink RL 27 yX11_years ∈ qtbl := wq_r (List.mem_append_right _ (List.mem_append_right _ (List.mem_append_right _ (List.mem_append_right _ (List.mem_append_right _ (List.mem_append_left _ (List.mem_of_getElem? (l := tables_1_6) (i := 1) (by decide +kernel)))))))) rfl
theorem wq_1202 : Cond.instanceMethod yX11_years ∈ qtbl := wq_r (List.mem_append_right _ (List.mem_append_right _ (List.mem_append_right _ (List.mem_append_right _ (List.mem_append_right _ (List.mem_append_left _ (List.mem_of_getElem? (l := tables_1_6) (i := 2) (by decide +kernel)))))))) rfl
theorem wq_1203 : Cond.selects RX11 yX11_years yX11_years ∈ qtbl := wq_r (List.mem_append_right _ (List.mem_append_right _ (List.mem_append_right _ (List.mem_append_right _ (List.mem_append_right _ (List.mem_append_left _ (List.mem_of_getElem? (l := tables_1_6) (i := 3) (by decide +kernel)))))))) rfl
theorem wq_1204 : Cond.code yX11_years cX11_years 2 (Option.some Jvm.ClassFile.FieldType.int) ∈ qtbl := wq_r (List.mem_append_right _ (List.mem_append_right _ (List.mem_append_right _ (List.mem_append_right _ (List.mem_append_right _ (List.mem_append_left _ (List.mem_of_getElem? (l := tables_1_6) (i := 4) (rfl)))))))) rfl
theorem wq_1205 : Cond.methodLink RL 32 yX11_feed ∈ qtbl := wq_r (List.mem_append_right _ (List.mem_append_right _ (List.mem_append_right _ (List.mem_append_right _ (List.mem_append_right _ (List.mem_append_left _ (List.mem_of_getElem? (l := tables_1_6) (i := 5) (by decide +kernel)))))))) rfl
theorem wq_1206 : Cond.instanceMethod yX11_feed ∈ qtbl := wq_r (List.mem_append_right _ (List.mem_append_right _ (List.mem_append_right _ (List.mem_append_right _ (List.mem_append_right _ (List.mem_append_left _ (List.mem_of_getElem? (l := tables_1_6) (i := 6) (by decide +kernel)))))))) rfl
theorem wq_1207 : Cond.selects RX11 yX11_feed yX11_feed ∈ qtbl := wq_r (List.mem_append_right _ (List.mem_append_right _ (List.mem_append_right _ (List.mem_append_right _ (List.mem_append_right _ (List.mem_append_left _ (List.mem_of_getElem? (l := tables_1_6) (i := 7) (by decide +kernel)))))))) rfl
theorem wq_1208 : Cond.code yX11_feed cX11_feed 6 (Option.some Jvm.ClassFile.FieldType.int) ∈ qtbl := wq_r (List.mem_append_right _ (List.mem_append_right _ (List.mem_append_right _ (List.mem_append_right _ (List.mem_append_right _ (List.mem_append_left _ (List.mem_of_getElem? (l := tables_1_6) (i := 8) (rfl)))))))) rfl
theorem wq_1209 : Cond.methodLink RX11 162 yX11_types ∈ qtbl := wq_r (List.mem_append_right _ (List.mem_append_right _ (List.mem_append_right _ (List.mem_append_right _ (List.mem_append_right _ (List.mem_append_left _ (List.mem_of_getElem? (l := tables_1_6) (i := 9) (by decide +kernel)))))))) rfl
theorem wq_1211 : Cond.instanceMethod yX11_types ∈ qtbl := wq_r (List.mem_append_right _ (List.mem_append_right _ (List.mem_append_right _ (List.mem_append_right _ (List.mem_append_right _ (List.mem_append_left _ (List.mem_of_getElem? (l := tables_1_6) (i := 11) (by decide +kernel)))))))) rfl
theorem wq_1212 : Cond.code yX11_types cX11_types 3 (Option.none : Option Jvm.ClassFile.FieldType) ∈ qtbl := wq_r (List.mem_append_right _ (List.mem_append_right _ (List.mem_append_right _ (List.mem_append_right _ (List.mem_append_right _ (List.mem_append_left _ (List.mem_of_getElem? (l := tables_1_6) (i := 12) (rfl)))))))) rfl
theorem wq_1213 : Cond.methodLink RL 37 yX11_remark ∈ qtbl := wq_r (List.mem_append_right _ (List.mem_append_right _ (List.mem_append_right _ (List.mem_append_right _ (List.mem_append_right _ (List.mem_append_left _ (List.mem_of_getElem? (l := tables_1_6) (i := 13) (by decide +kernel)))))))) rfl
theorem wq_1214 : Cond.instanceMethod yX11_remark ∈ qtbl := wq_r (List.mem_append_right _ (List.mem_append_right _ (List.mem_append_right _ (List.mem_append_right _ (List.mem_append_right _ (List.mem_append_left _ (List.mem_of_getElem? (l := tables_1_6) (i := 14) (by decide +kernel)))))))) rfl
theorem wq_1215 : Cond.selects RX11 yX11_remark yX11_remark ∈ qtbl := wq_r (List.mem_append_right _ (List.mem_append_right _ (List.mem_append_right _ (List.mem_append_right _ (List.mem_append_right _ (List.mem_append_left _ (List.mem_of_getElem? (l := tables_1_6) (i := 15) (by decide +kernel)))))))) rfl
theorem wq_1216 : Cond.code yX11_remark cX11_remark 3 (Option.some Jvm.ClassFile.FieldType.int) ∈ qtbl := wq_r (List.mem_append_right _ (List.mem_append_right _ (List.mem_append_right _ (List.mem_append_right _ (List.mem_append_right _ (List.mem_append_left _ (List.mem_of_getElem? (l := tables_1_6) (i := 16) (rfl)))))))) rfl
theorem wq_1217 : Cond.methodLink RX11 259 yX11_textOf ∈ qtbl := wq_r (List.mem_append_right _ (List.mem_append_right _ (List.mem_append_right _ (List.mem_append_right _ (List.mem_append_right _ (List.mem_append_left _ (List.mem_of_getElem? (l := tables_1_6) (i := 17) (by decide +kernel)))))))) rfl
theorem wq_1219 : Cond.instanceMethod yX11_textOf ∈ qtbl := wq_r (List.mem_append_right _ (List.mem_append_right _ (List.mem_append_right _ (List.mem_append_right _ (List.mem_append_right _ (List.mem_append_left _ (List.mem_of_getElem? (l := tables_1_6) (i := 19) (by decide +kernel)))))))) rfl
theorem wq_1220 : Cond.code yX11_textOf cX11_textOf 7 (Option.some Jvm.ClassFile.FieldType.int) ∈ qtbl := wq_r (List.mem_append_right _ (List.mem_append_right _ (List.mem_append_right _ (List.mem_append_right _ (List.mem_append_right _ (List.mem_append_left _ (List.mem_of_getElem? (l := tables_1_6) (i := 20) (rfl)))))))) rfl
theorem wq_1221 : Cond.methodLink RX11 246 yX11_readsText ∈ qtbl := wq_r (List.mem_append_right _ (List.mem_append_right _ (List.mem_append_right _ (List.mem_append_right _ (List.mem_append_right _ (List.mem_append_left _ (List.mem_of_getElem? (l := tables_1_6) (i := 21) (by decide +kernel)))))))) rfl
theorem wq_1223 : Cond.instanceMethod yX11_readsText ∈ qtbl := wq_r (List.mem_append_right _ (List.mem_append_right _ (List.mem_append_right _ (List.mem_append_right _ (List.mem_append_right _ (List.mem_append_left _ (List.mem_of_getElem? (l := tables_1_6) (i := 23) (by decide +kernel)))))))) rfl
theorem wq_1224 : Cond.code yX11_readsText cX11_readsText 4 (Option.some Jvm.ClassFile.FieldType.boolean) ∈ qtbl := wq_r (List.mem_append_right _ (List.mem_append_right _ (List.mem_append_right _ (List.mem_append_right _ (List.mem_append_right _ (List.mem_append_left _ (List.mem_of_getElem? (l := tables_1_6) (i := 24) (rfl)))))))) rfl
theorem wq_1225 : Cond.methodLink RX11 240 yX11_readsSide ∈ qtbl := wq_r (List.mem_append_right _ (List.mem_append_right _ (List.mem_append_right _ (List.mem_append_right _ (List.mem_append_right _ (List.mem_append_left _ (List.mem_of_getElem? (l := tables_1_6) (i := 25) (by decide +kernel)))))))) rfl
theorem wq_1227 : Cond.instanceMethod yX11_readsSide ∈ qtbl := wq_r (List.mem_append_right _ (List.mem_append_right _ (List.mem_append_right _ (List.mem_append_right _ (List.mem_append_right _ (List.mem_append_left _ (List.mem_of_getElem? (l := tables_1_6) (i := 27) (by decide +kernel)))))))) rfl
theorem wq_1228 : Cond.code yX11_readsSide cX11_readsSide 3 (Option.some Jvm.ClassFile.FieldType.boolean) ∈ qtbl := wq_r (List.mem_append_right _ (List.mem_append_right _ (List.mem_append_right _ (List.mem_append_right _ (List.mem_append_right _ (List.mem_append_left _ (List.mem_of_getElem? (l := tables_1_6) (i := 28) (rfl)))))))) rfl
theorem wq_1229 : Cond.methodLink RX11 205 yX11_opensFrame ∈ qtbl := wq_r (List.mem_append_right _ (List.mem_append_right _ (List.mem_append_right _ (List.mem_append_right _ (List.mem_append_right _ (List.mem_append_left _ (List.mem_of_getElem? (l := tables_1_6) (i := 29) (by decide +kernel)))))))) rfl
theorem wq_1231 : Cond.instanceMethod yX11_opensFrame ∈ qtbl := wq_r (List.mem_append_right _ (List.mem_append_right _ (List.mem_append_right _ (List.mem_append_right _ (List.mem_append_right _ (List.mem_append_left _ (List.mem_of_getElem? (l := tables_1_6) (i := 31) (by decide +kernel)))))))) rfl
theorem wq_1232 : Cond.code yX11_opensFrame cX11_opensFrame 4 (Option.none : Option Jvm.ClassFile.FieldType) ∈ qtbl := wq_r (List.mem_append_right _ (List.mem_append_right _ (List.mem_append_right _ (List.mem_append_right _ (List.mem_append_right _ (List.mem_append_left _ (List.mem_of_getElem? (l := tables_1_6) (i := 32) (rfl)))))))) rfl
theorem wq_1233 : Cond.methodLink RX11 179 yX11_here ∈ qtbl := wq_r (List.mem_append_right _ (List.mem_append_right _ (List.mem_append_right _ (List.mem_append_right _ (List.mem_append_right _ (List.mem_append_left _ (List.mem_of_getElem? (l := tables_1_6) (i := 33) (by decide +kernel)))))))) rfl
theorem wq_1235 : Cond.instanceMethod yX11_here ∈ qtbl := wq_r (List.mem_append_right _ (List.mem_append_right _ (List.mem_append_right _ (List.mem_append_right _ (List.mem_append_right _ (List.mem_append_left _ (List.mem_of_getElem? (l := tables_1_6) (i := 35) (by decide +kernel)))))))) rfl
theorem wq_1236 : Cond.code yX11_here cX11_here 1 (Option.some Jvm.ClassFile.FieldType.int) ∈ qtbl := wq_r (List.mem_append_right _ (List.mem_append_right _ (List.mem_append_right _ (List.mem_append_right _ (List.mem_append_right _ (List.mem_append_left _ (List.mem_of_getElem? (l := tables_1_6) (i := 36) (rfl)))))))) rfl
theorem wq_1237 : Cond.methodLink RX11 172 yX11_octet ∈ qtbl := wq_r (List.mem_append_right _ (List.mem_append_right _ (List.mem_append_right _ (List.mem_append_right _ (List.mem_append_right _ (List.mem_append_left _ (List.mem_of_getElem? (l := tables_1_6) (i := 37) (by decide +kernel)))))))) rfl
theorem wq_1239 : Cond.instanceMethod yX11_octet ∈ qtbl := wq_r (List.mem_append_right _ (List.mem_append_right _ (List.mem_append_right _ (List.mem_append_right _ (List.mem_append_right _ (List.mem_append_left _ (List.mem_of_getElem? (l := tables_1_6) (i := 39) (by decide +kernel)))))))) rfl
theorem wq_1240 : Cond.code yX11_octet cX11_octet 2 (Option.some Jvm.ClassFile.FieldType.int) ∈ qtbl := wq_r (List.mem_append_right _ (List.mem_append_right _ (List.mem_append_right _ (List.mem_append_right _ (List.mem_append_right _ (List.mem_append_left _ (List.mem_of_getElem? (l := tables_1_6) (i := 40) (rfl)))))))) rfl
theorem wq_1241 : Cond.methodLink RX11 225 yX11_readsPart ∈ qtbl := wq_r (List.mem_append_right _ (List.mem_append_right _ (List.mem_append_right _ (List.mem_append_right _ (List.mem_append_right _ (List.mem_append_left _ (List.mem_of_getElem? (l := tables_1_6) (i := 41) (by decide +kernel)))))))) rfl
theorem wq_1243 : Cond.instanceMethod yX11_readsPart ∈ qtbl := wq_r (List.mem_append_right _ (List.mem_append_right _ (List.mem_append_right _ (List.mem_append_right _ (List.mem_append_right _ (List.mem_append_left _ (List.mem_of_getElem? (l := tables_1_6) (i := 43) (by decide +kernel)))))))) rfl
theorem wq_1244 : Cond.code yX11_readsPart cX11_readsPart 3 (Option.some Jvm.ClassFile.FieldType.boolean) ∈ qtbl := wq_r (List.mem_append_right _ (List.mem_append_right _ (List.mem_append_right _ (List.mem_append_right _ (List.mem_append_right _ (List.mem_append_left _ (List.mem_of_getElem? (l := tables_1_6) (i := 44) (rfl)))))))) rfl
theorem wq_1245 : Cond.methodLink RX11 213 yX11_opensAnother ∈ qtbl := wq_r (List.mem_append_right _ (List.mem_append_right _ (List.mem_append_right _ (List.mem_append_right _ (List.mem_append_right _ (List.mem_append_left _ (List.mem_of_getElem? (l := tables_1_6) (i := 45) (by decide +kernel)))))))) rfl
theorem wq_1247 : Cond.instanceMethod yX11_opensAnother ∈ qtbl := wq_r (List.mem_append_right _ (List.mem_append_right _ (List.mem_append_right _ (List.mem_append_right _ (List.mem_append_right _ (List.mem_append_left _ (List.mem_of_getElem? (l := tables_1_6) (i := 47) (by decide +kernel)))))))) rfl
theorem wq_1248 : Cond.code yX11_opensAnother cX11_opensAnother 4 (Option.some Jvm.ClassFile.FieldType.boolean) ∈ qtbl := wq_r (List.mem_append_right _ (List.mem_append_right _ (List.mem_append_right _ (List.mem_append_right _ (List.mem_append_right _ (List.mem_append_left _ (List.mem_of_getElem? (l := tables_1_6) (i := 48) (rfl)))))))) rfl
theorem wq_1249 : Cond.methodLink RX11 182 yX11_wrongAt ∈ qtbl := wq_r (List.mem_append_right _ (List.mem_append_right _ (List.mem_append_right _ (List.mem_append_right _ (List.mem_append_right _ (List.mem_append_left _ (List.mem_of_getElem? (l := tables_1_6) (i := 49) (by decide +kernel)))))))) rfl
theorem wq_1251 : Cond.instanceMethod yX11_wrongAt ∈ qtbl := wq_r (List.mem_append_right _ (List.mem_append_right _ (List.mem_append_right _ (List.mem_append_right _ (List.mem_append_right _ (List.mem_append_left _ (List.mem_of_getElem? (l := tables_1_6) (i := 51) (by decide +kernel)))))))) rfl
theorem wq_1252 : Cond.code yX11_wrongAt cX11_wrongAt 3 (Option.some Jvm.ClassFile.FieldType.boolean) ∈ qtbl := wq_r (List.mem_append_right _ (List.mem_append_right _ (List.mem_append_right _ (List.mem_append_right _ (List.mem_append_right _ (List.mem_append_left _ (List.mem_of_getElem? (l := tables_1_6) (i := 52) (rfl)))))))) rfl
theorem wq_1253 : Cond.methodLink RX11 198 yX11_readsPerson ∈ qtbl := wq_r (List.mem_append_right _ (List.mem_append_right _ (List.mem_append_right _ (List.mem_append_right _ (List.mem_append_right _ (List.mem_append_left _ (List.mem_of_getElem? (l := tables_1_6) (i := 53) (by decide +kernel)))))))) rfl
theorem wq_1255 : Cond.instanceMethod yX11_readsPerson ∈ qtbl := wq_r (List.mem_append_right _ (List.mem_append_right _ (List.mem_append_right _ (List.mem_append_right _ (List.mem_append_right _ (List.mem_append_left _ (List.mem_of_getElem? (l := tables_1_6) (i := 55) (by decide +kernel)))))))) rfl
theorem wq_1256 : Cond.code yX11_readsPerson cX11_readsPerson 2 (Option.some Jvm.ClassFile.FieldType.boolean) ∈ qtbl := wq_r (List.mem_append_right _ (List.mem_append_right _ (List.mem_append_right _ (List.mem_append_right _ (List.mem_append_right _ (List.mem_append_left _ (List.mem_of_getElem? (l := tables_1_6) (i := 56) (rfl)))))))) rfl
theorem wq_1257 : Cond.methodLink RX11 202 yX11_takes ∈ qtbl := wq_r (List.mem_append_right _ (List.mem_append_right _ (List.mem_append_right _ (List.mem_append_right _ (List.mem_append_right _ (List.mem_append_left _ (List.mem_of_getElem? (l := tables_1_6) (i := 57) (by decide +kernel)))))))) rfl
theorem wq_1259 : Cond.instanceMethod yX11_takes ∈ qtbl := wq_r (List.mem_append_right _ (List.mem_append_right _ (List.mem_append_right _ (List.mem_append_right _ (List.mem_append_right _ (List.mem_append_left _ (List.mem_of_getElem? (l := tables_1_6) (i := 59) (by decide +kernel)))))))) rfl
theorem wq_1260 : Cond.code yX11_takes cX11_takes 2 (Option.some Jvm.ClassFile.FieldType.boolean) ∈ qtbl := wq_r (List.mem_append_right _ (List.mem_append_right _ (List.mem_append_right _ (List.mem_append_right _ (List.mem_append_right _ (List.mem_append_left _ (List.mem_of_getElem? (l := tables_1_6) (i := 60) (rfl)))))))) rfl
theorem wq_1261 : Cond.methodLink RX11 216 yX11_clearsPart ∈ qtbl := wq_r (List.mem_append_right _ (List.mem_append_right _ (List.mem_append_right _ (List.mem_append_right _ (List.mem_append_right _ (List.mem_append_left _ (List.mem_of_getElem? (l := tables_1_6) (i := 61) (by decide +kernel)))))))) rfl
theorem wq_1263 : Cond.instanceMethod yX11_clearsPart ∈ qtbl := wq_r (List.mem_append_right _ (List.mem_append_right _ (List.mem_append_right _ (List.mem_append_right _ (List.mem_append_right _ (List.mem_append_left _ (List.mem_of_getElem? (l := tables_1_6) (i := 63) (by decide +kernel)))))))) rfl
theorem wq_1264 : Cond.code yX11_clearsPart cX11_clearsPart 2 (Option.none : Option Jvm.ClassFile.FieldType) ∈ qtbl := wq_r (List.mem_append_right _ (List.mem_append_right _ (List.mem_append_right _ (List.mem_append_right _ (List.mem_append_right _ (List.mem_append_left _ (List.mem_of_getElem? (l := tables_1_6) (i := 64) (rfl)))))))) rfl
theorem wq_1265 : Cond.methodLink RX11 219 yX11_readsNumber ∈ qtbl := wq_r (List.mem_append_right _ (List.mem_append_right _ (List.mem_append_right _ (List.mem_append_right _ (List.mem_append_right _ (List.mem_append_left _ (List.mem_of_getElem? (l := tables_1_6) (i := 65) (by decide +kernel)))))))) rfl
theorem wq_1267 : Cond.instanceMethod yX11_readsNumber ∈ qtbl := wq_r (List.mem_append_right _ (List.mem_append_right _ (List.mem_append_right _ (List.mem_append_right _ (List.mem_append_right _ (List.mem_append_left _ (List.mem_of_getElem? (l := tables_1_6) (i := 67) (by decide +kernel)))))))) rfl
theorem wq_1268 : Cond.code yX11_readsNumber cX11_readsNumber 2 (Option.some Jvm.ClassFile.FieldType.boolean) ∈ qtbl := wq_r (List.mem_append_right _ (List.mem_append_right _ (List.mem_append_right _ (List.mem_append_right _ (List.mem_append_right _ (List.mem_append_left _ (List.mem_of_getElem? (l := tables_1_6) (i := 68) (rfl)))))))) rfl
theorem wq_1269 : Cond.methodLink RX11 222 yX11_endsPart ∈ qtbl := wq_r (List.mem_append_right _ (List.mem_append_right _ (List.mem_append_right _ (List.mem_append_right _ (List.mem_append_right _ (List.mem_append_left _ (List.mem_of_getElem? (l := tables_1_6) (i := 69) (by decide +kernel)))))))) rfl
theorem wq_1271 : Cond.instanceMethod yX11_endsPart ∈ qtbl := wq_r (List.mem_append_right _ (List.mem_append_right _ (List.mem_append_right _ (List.mem_append_right _ (List.mem_append_right _ (List.mem_append_left _ (List.mem_of_getElem? (l := tables_1_6) (i := 71) (by decide +kernel)))))))) rfl
theorem wq_1272 : Cond.code yX11_endsPart cX11_endsPart 4 (Option.some Jvm.ClassFile.FieldType.boolean) ∈ qtbl := wq_r (List.mem_append_right _ (List.mem_append_right _ (List.mem_append_right _ (List.mem_append_right _ (List.mem_append_right _ (List.mem_append_left _ (List.mem_of_getElem? (l := tables_1_6) (i := 72) (rfl)))))))) rfl
theorem wq_1273 : Cond.methodLink RX11 209 yX11_max ∈ qtbl := wq_r (List.mem_append_right _ (List.mem_append_right _ (List.mem_append_right _ (List.mem_append_right _ (List.mem_append_right _ (List.mem_append_left _ (List.mem_of_getElem? (l := tables_1_6) (i := 73) (by decide +kernel)))))))) rfl
theorem wq_1274 : Cond.static yX11_max ∈ qtbl := wq_r (List.mem_append_right _ (List.mem_append_right _ (List.mem_append_right _ (List.mem_append_right _ (List.mem_append_right _ (List.mem_append_left _ (List.mem_of_getElem? (l := tables_1_6) (i := 74) (by decide +kernel)))))))) rfl
theorem wq_1275 : Cond.code yX11_max cX11_max 2 (Option.some Jvm.ClassFile.FieldType.int) ∈ qtbl := wq_r (List.mem_append_right _ (List.mem_append_right _ (List.mem_append_right _ (List.mem_append_right _ (List.mem_append_right _ (List.mem_append_left _ (List.mem_of_getElem? (l := tables_1_6) (i := 75) (rfl)))))))) rfl
theorem wq_1276 : Cond.methodLink RX11 228 yX11_endsTerm ∈ qtbl := wq_r (List.mem_append_right _ (List.mem_append_right _ (List.mem_append_right _ (List.mem_append_right _ (List.mem_append_right _ (List.mem_append_left _ (List.mem_of_getElem? (l := tables_1_6) (i := 76) (by decide +kernel)))))))) rfl
theorem wq_1278 : Cond.instanceMethod yX11_endsTerm ∈ qtbl := wq_r (List.mem_append_right _ (List.mem_append_right _ (List.mem_append_right _ (List.mem_append_right _ (List.mem_append_right _ (List.mem_append_left _ (List.mem_of_getElem? (l := tables_1_6) (i := 78) (by decide +kernel)))))))) rfl
theorem wq_1279 : Cond.code yX11_endsTerm cX11_endsTerm 3 (Option.none : Option Jvm.ClassFile.FieldType) ∈ qtbl := wq_r (List.mem_append_right _ (List.mem_append_right _ (List.mem_append_right _ (List.mem_append_right _ (List.mem_append_right _ (List.mem_append_left _ (List.mem_of_getElem? (l := tables_1_6) (i := 79) (rfl)))))))) rfl
theorem wq_1280 : Cond.methodLink RX11 231 yX11_endsFrame ∈ qtbl := wq_r (List.mem_append_right _ (List.mem_append_right _ (List.mem_append_right _ (List.mem_append_right _ (List.mem_append_right _ (List.mem_append_left _ (List.mem_of_getElem? (l := tables_1_6) (i := 80) (by decide +kernel)))))))) rfl
theorem wq_1282 : Cond.instanceMethod yX11_endsFrame ∈ qtbl := wq_r (List.mem_append_right _ (List.mem_append_right _ (List.mem_append_right _ (List.mem_append_right _ (List.mem_append_right _ (List.mem_append_left _ (List.mem_of_getElem? (l := tables_1_6) (i := 82) (by decide +kernel)))))))) rfl
theorem wq_1283 : Cond.code yX11_endsFrame cX11_endsFrame 2 (Option.some Jvm.ClassFile.FieldType.boolean) ∈ qtbl := wq_r (List.mem_append_right _ (List.mem_append_right _ (List.mem_append_right _ (List.mem_append_right _ (List.mem_append_right _ (List.mem_append_left _ (List.mem_of_getElem? (l := tables_1_6) (i := 83) (rfl)))))))) rfl
theorem wq_1284 : Cond.methodLink RX11 243 yX11_readsRight ∈ qtbl := wq_r (List.mem_append_right _ (List.mem_append_right _ (List.mem_append_right _ (List.mem_append_right _ (List.mem_append_right _ (List.mem_append_left _ (List.mem_of_getElem? (l := tables_1_6) (i := 84) (by decide +kernel)))))))) rfl
theorem wq_1286 : Cond.instanceMethod yX11_readsRight ∈ qtbl := wq_r (List.mem_append_right _ (List.mem_append_right _ (List.mem_append_right _ (List.mem_append_right _ (List.mem_append_right _ (List.mem_append_left _ (List.mem_of_getElem? (l := tables_1_6) (i := 86) (by decide +kernel)))))))) rfl
theorem wq_1287 : Cond.code yX11_readsRight cX11_readsRight 3 (Option.some Jvm.ClassFile.FieldType.boolean) ∈ qtbl := wq_r (List.mem_append_right _ (List.mem_append_right _ (List.mem_append_right _ (List.mem_append_right _ (List.mem_append_right _ (List.mem_append_left _ (List.mem_of_getElem? (l := tables_1_6) (i := 87) (rfl)))))))) rfl
theorem wq_1288 : Cond.methodLink RX11 250 yX11_whoStands ∈ qtbl := wq_r (List.mem_append_right _ (List.mem_append_right _ (List.mem_append_right _ (List.mem_append_right _ (List.mem_append_right _ (List.mem_append_left _ (List.mem_of_getElem? (l := tables_1_6) (i := 88) (by decide +kernel)))))))) rfl
theorem wq_1290 : Cond.instanceMethod yX11_whoStands ∈ qtbl := wq_r (List.mem_append_right _ (List.mem_append_right _ (List.mem_append_right _ (List.mem_append_right _ (List.mem_append_right _ (List.mem_append_left _ (List.mem_of_getElem? (l := tables_1_6) (i := 90) (by decide +kernel)))))))) rfl
theorem wq_1291 : Cond.code yX11_whoStands cX11_whoStands 3 (Option.some Jvm.ClassFile.FieldType.int) ∈ qtbl := wq_r (List.mem_append_right _ (List.mem_append_right _ (List.mem_append_right _ (List.mem_append_right _ (List.mem_append_right _ (List.mem_append_left _ (List.mem_of_getElem? (l := tables_1_6) (i := 91) (rfl)))))))) rfl
theorem wq_1292 : Cond.methodLink RX11 253 yX11_sinceOf ∈ qtbl := wq_r (List.mem_append_right _ (List.mem_append_right _ (List.mem_append_right _ (List.mem_append_right _ (List.mem_append_right _ (List.mem_append_left _ (List.mem_of_getElem? (l := tables_1_6) (i := 92) (by decide +kernel)))))))) rfl
theorem wq_1294 : Cond.instanceMethod yX11_sinceOf ∈ qtbl := wq_r (List.mem_append_right _ (List.mem_append_right _ (List.mem_append_right _ (List.mem_append_right _ (List.mem_append_right _ (List.mem_append_left _ (List.mem_of_getElem? (l := tables_1_6) (i := 94) (by decide +kernel)))))))) rfl
theorem wq_1295 : Cond.code yX11_sinceOf cX11_sinceOf 2 (Option.some Jvm.ClassFile.FieldType.int) ∈ qtbl := wq_r (List.mem_append_right _ (List.mem_append_right _ (List.mem_append_right _ (List.mem_append_right _ (List.mem_append_right _ (List.mem_append_left _ (List.mem_of_getElem? (l := tables_1_6) (i := 95) (rfl)))))))) rfl
theorem wq_1296 : Cond.methodLink RX11 256 yX11_bits ∈ qtbl := wq_r (List.mem_append_right _ (List.mem_append_right _ (List.mem_append_right _ (List.mem_append_right _ (List.mem_append_right _ (List.mem_append_left _ (List.mem_of_getElem? (l := tables_1_6) (i := 96) (by decide +kernel)))))))) rfl
theorem wq_1297 : Cond.static yX11_bits ∈ qtbl := wq_r (List.mem_append_right _ (List.mem_append_right _ (List.mem_append_right _ (List.mem_append_right _ (List.mem_append_right _ (List.mem_append_left _ (List.mem_of_getElem? (l := tables_1_6) (i := 97) (by decide +kernel)))))))) rfl
theorem wq_1298 : Cond.code yX11_bits cX11_bits 3 (Option.some Jvm.ClassFile.FieldType.int) ∈ qtbl := wq_r (List.mem_append_right _ (List.mem_append_right _ (List.mem_append_right _ (List.mem_append_right _ (List.mem_append_right _ (List.mem_append_left _ (List.mem_of_getElem? (l := tables_1_6) (i := 98) (rfl)))))))) rfl
theorem wq_1299 : Cond.methodLink RL 41 yX11_form ∈ qtbl := wq_r (List.mem_append_right _ (List.mem_append_right _ (List.mem_append_right _ (List.mem_append_right _ (List.mem_append_right _ (List.mem_append_left _ (List.mem_of_getElem? (l := tables_1_6) (i := 99) (by decide +kernel)))))))) rfl
theorem wq_1300 : Cond.instanceMethod yX11_form ∈ qtbl := wq_r (List.mem_append_right _ (List.mem_append_right _ (List.mem_append_right _ (List.mem_append_right _ (List.mem_append_right _ (List.mem_append_left _ (List.mem_of_getElem? (l := tables_1_6) (i := 100) (by decide +kernel)))))))) rfl
theorem wq_1301 : Cond.selects RX11 yX11_form yX11_form ∈ qtbl := wq_r (List.mem_append_right _ (List.mem_append_right _ (List.mem_append_right _ (List.mem_append_right _ (List.mem_append_right _ (List.mem_append_left _ (List.mem_of_getElem? (l := tables_1_6) (i := 101) (by decide +kernel)))))))) rfl
theorem wq_1302 : Cond.code yX11_form cX11_form 3 (Option.some Jvm.ClassFile.FieldType.int) ∈ qtbl := wq_r (List.mem_append_right _ (List.mem_append_right _ (List.mem_append_right _ (List.mem_append_right _ (List.mem_append_right _ (List.mem_append_left _ (List.mem_of_getElem? (l := tables_1_6) (i := 102) (rfl)))))))) rfl
theorem wq_1303 : Cond.methodLink RL 46 yX11_takeBack ∈ qtbl := wq_r (List.mem_append_right _ (List.mem_append_right _ (List.mem_append_right _ (List.mem_append_right _ (List.mem_append_right _ (List.mem_append_left _ (List.mem_of_getElem? (l := tables_1_6) (i := 103) (by decide +kernel)))))))) rfl
theorem wq_1304 : Cond.instanceMethod yX11_takeBack ∈ qtbl := wq_r (List.mem_append_right _ (List.mem_append_right _ (List.mem_append_right _ (List.mem_append_right _ (List.mem_append_right _ (List.mem_append_left _ (List.mem_of_getElem? (l := tables_1_6) (i := 104) (by decide +kernel)))))))) rfl
theorem wq_1305 : Cond.selects RX11 yX11_takeBack yX11_takeBack ∈ qtbl := wq_r (List.mem_append_right _ (List.mem_append_right _ (List.mem_append_right _ (List.mem_append_right _ (List.mem_append_right _ (List.mem_append_left _ (List.mem_of_getElem? (l := tables_1_6) (i := 105) (by decide +kernel)))))))) rfl
theorem wq_1306 : Cond.code yX11_takeBack cX11_takeBack 2 (Option.some Jvm.ClassFile.FieldType.boolean) ∈ qtbl := wq_r (List.mem_append_right _ (List.mem_append_right _ (List.mem_append_right _ (List.mem_append_right _ (List.mem_append_right _ (List.mem_append_left _ (List.mem_of_getElem? (l := tables_1_6) (i := 106) (rfl)))))))) rfl
theorem wq_1307 : Cond.methodLink RX11 263 yX11_isRemark ∈ qtbl := wq_r (List.mem_append_right _ (List.mem_append_right _ (List.mem_append_right _ (List.mem_append_right _ (List.mem_append_right _ (List.mem_append_left _ (List.mem_of_getElem? (l := tables_1_6) (i := 107) (by decide +kernel)))))))) rfl
theorem wq_1309 : Cond.instanceMethod yX11_isRemark ∈ qtbl := wq_r (List.mem_append_right _ (List.mem_append_right _ (List.mem_append_right _ (List.mem_append_right _ (List.mem_append_right _ (List.mem_append_left _ (List.mem_of_getElem? (l := tables_1_6) (i := 109) (by decide +kernel)))))))) rfl
theorem wq_1310 : Cond.code yX11_isRemark cX11_isRemark 2 (Option.some Jvm.ClassFile.FieldType.boolean) ∈ qtbl := wq_r (List.mem_append_right _ (List.mem_append_right _ (List.mem_append_right _ (List.mem_append_right _ (List.mem_append_right _ (List.mem_append_left _ (List.mem_of_getElem? (l := tables_1_6) (i := 110) (rfl)))))))) rfl
theorem wq_1311 : Cond.methodLink RL 51 yX11_rows ∈ qtbl := wq_r (List.mem_append_right _ (List.mem_append_right _ (List.mem_append_right _ (List.mem_append_right _ (List.mem_append_right _ (List.mem_append_left _ (List.mem_of_getElem? (l := tables_1_6) (i := 111) (by decide +kernel)))))))) rfl
theorem wq_1312 : Cond.instanceMethod yX11_rows ∈ qtbl := wq_r (List.mem_append_right _ (List.mem_append_right _ (List.mem_append_right _ (List.mem_append_right _ (List.mem_append_right _ (List.mem_append_left _ (List.mem_of_getElem? (l := tables_1_6) (i := 112) (by decide +kernel)))))))) rfl
theorem wq_1313 : Cond.selects RX11 yX11_rows yX11_rows ∈ qtbl := wq_r (List.mem_append_right _ (List.mem_append_right _ (List.mem_append_right _ (List.mem_append_right _ (List.mem_append_right _ (List.mem_append_left _ (List.mem_of_getElem? (l := tables_1_6) (i := 113) (by decide +kernel)))))))) rfl
theorem wq_1314 : Cond.code yX11_rows cX11_rows 1 (Option.some Jvm.ClassFile.FieldType.int) ∈ qtbl := wq_r (List.mem_append_right _ (List.mem_append_right _ (List.mem_append_right _ (List.mem_append_right _ (List.mem_append_right _ (List.mem_append_left _ (List.mem_of_getElem? (l := tables_1_6) (i := 114) (rfl)))))))) rfl
theorem wq_1315 : Cond.methodLink RX11 267 yX11_rowMany ∈ qtbl := wq_r (List.mem_append_right _ (List.mem_append_right _ (List.mem_append_right _ (List.mem_append_right _ (List.mem_append_right _ (List.mem_append_left _ (List.mem_of_getElem? (l := tables_1_6) (i := 115) (by decide +kernel)))))))) rfl
theorem wq_1317 : Cond.instanceMethod yX11_rowMany ∈ qtbl := wq_r (List.mem_append_right _ (List.mem_append_right _ (List.mem_append_right _ (List.mem_append_right _ (List.mem_append_right _ (List.mem_append_left _ (List.mem_of_getElem? (l := tables_1_6) (i := 117) (by decide +kernel)))))))) rfl
theorem wq_1318 : Cond.code yX11_rowMany cX11_rowMany 3 (Option.some Jvm.ClassFile.FieldType.int) ∈ qtbl := wq_r (List.mem_append_right _ (List.mem_append_right _ (List.mem_append_right _ (List.mem_append_right _ (List.mem_append_right _ (List.mem_append_left _ (List.mem_of_getElem? (l := tables_1_6) (i := 118) (rfl)))))))) rfl
theorem wq_1319 : Cond.constant RX11 266 (200000 : Int32) ∈ qtbl := wq_r (List.mem_append_right _ (List.mem_append_right _ (List.mem_append_right _ (List.mem_append_right _ (List.mem_append_right _ (List.mem_append_left _ (List.mem_of_getElem? (l := tables_1_6) (i := 119) (by decide +kernel)))))))) rfl
theorem wq_1320 : Cond.methodLink RL 55 yX11_fit ∈ qtbl := wq_r (List.mem_append_right _ (List.mem_append_right _ (List.mem_append_right _ (List.mem_append_right _ (List.mem_append_right _ (List.mem_append_left _ (List.mem_of_getElem? (l := tables_1_6) (i := 120) (by decide +kernel)))))))) rfl
theorem wq_1321 : Cond.instanceMethod yX11_fit ∈ qtbl := wq_r (List.mem_append_right _ (List.mem_append_right _ (List.mem_append_right _ (List.mem_append_right _ (List.mem_append_right _ (List.mem_append_left _ (List.mem_of_getElem? (l := tables_1_6) (i := 121) (by decide +kernel)))))))) rfl
theorem wq_1322 : Cond.selects RX11 yX11_fit yX11_fit ∈ qtbl := wq_r (List.mem_append_right _ (List.mem_append_right _ (List.mem_append_right _ (List.mem_append_right _ (List.mem_append_right _ (List.mem_append_left _ (List.mem_of_getElem? (l := tables_1_6) (i := 122) (by decide +kernel)))))))) rfl
theorem wq_1323 : Cond.code yX11_fit cX11_fit 5 (Option.some Jvm.ClassFile.FieldType.int) ∈ qtbl := wq_r (List.mem_append_right _ (List.mem_append_right _ (List.mem_append_right _ (List.mem_append_right _ (List.mem_append_right _ (List.mem_append_left _ (List.mem_of_getElem? (l := tables_1_6) (i := 123) (rfl)))))))) rfl
theorem wq_1324 : Cond.methodLink RX11 285 yX11_areRemarks ∈ qtbl := wq_r (List.mem_append_right _ (List.mem_append_right _ (List.mem_append_right _ (List.mem_append_right _ (List.mem_append_right _ (List.mem_append_left _ (List.mem_of_getElem? (l := tables_1_6) (i := 124) (by decide +kernel)))))))) rfl
theorem wq_1326 : Cond.instanceMethod yX11_areRemarks ∈ qtbl := wq_r (List.mem_append_right _ (List.mem_append_right _ (List.mem_append_right _ (List.mem_append_right _ (List.mem_append_right _ (List.mem_append_left _ (List.mem_of_getElem? (l := tables_1_6) (i := 126) (by decide +kernel)))))))) rfl
theorem wq_1327 : Cond.code yX11_areRemarks cX11_areRemarks 2 (Option.some Jvm.ClassFile.FieldType.boolean) ∈ qtbl := wq_r (List.mem_append_right _ (List.mem_append_right _ (List.mem_append_right _ (List.mem_append_right _ (List.mem_append_right _ (List.mem_append_left _ (List.mem_of_getElem? (l := tables_1_6) (i := 127) (rfl)))))))) rfl
theorem wq_1328 : Cond.methodLink RX11 152 yX11_toldRemarks ∈ qtbl := wq_r (List.mem_append_right _ (List.mem_append_right _ (List.mem_append_right _ (List.mem_append_right _ (List.mem_append_right _ (List.mem_append_left _ (List.mem_of_getElem? (l := tables_1_6) (i := 128) (by decide +kernel)))))))) rfl
theorem wq_1330 : Cond.instanceMethod yX11_toldRemarks ∈ qtbl := wq_r (List.mem_append_right _ (List.mem_append_right _ (List.mem_append_right _ (List.mem_append_right _ (List.mem_append_right _ (List.mem_append_left _ (List.mem_of_getElem? (l := tables_1_6) (i := 130) (by decide +kernel)))))))) rfl
theorem wq_1331 : Cond.code yX11_toldRemarks cX11_toldRemarks 1 (Option.some Jvm.ClassFile.FieldType.int) ∈ qtbl := wq_r (List.mem_append_right _ (List.mem_append_right _ (List.mem_append_right _ (List.mem_append_right _ (List.mem_append_right _ (List.mem_append_left _ (List.mem_of_getElem? (l := tables_1_6) (i := 131) (rfl)))))))) rfl
theorem wq_1332 : Cond.methodLink RX11 288 yX11_findsRow ∈ qtbl := wq_r (List.mem_append_right _ (List.mem_append_right _ (List.mem_append_right _ (List.mem_append_right _ (List.mem_append_right _ (List.mem_append_left _ (List.mem_of_getElem? (l := tables_1_6) (i := 132) (by decide +kernel)))))))) rfl
theorem wq_1334 : Cond.instanceMethod yX11_findsRow ∈ qtbl := wq_r (List.mem_append_right _ (List.mem_append_right _ (List.mem_append_right _ (List.mem_append_right _ (List.mem_append_right _ (List.mem_append_left _ (List.mem_of_getElem? (l := tables_1_6) (i := 134) (by decide +kernel)))))))) rfl
theorem wq_1335 : Cond.code yX11_findsRow cX11_findsRow 3 (Option.some Jvm.ClassFile.FieldType.boolean) ∈ qtbl := wq_r (List.mem_append_right _ (List.mem_append_right _ (List.mem_append_right _ (List.mem_append_right _ (List.mem_append_right _ (List.mem_append_left _ (List.mem_of_getElem? (l := tables_1_6) (i := 135) (rfl)))))))) rfl
theorem wq_1336 : Cond.methodLink RX11 276 yX11_firstRow ∈ qtbl := wq_r (List.mem_append_right _ (List.mem_append_right _ (List.mem_append_right _ (List.mem_append_right _ (List.mem_append_right _ (List.mem_append_left _ (List.mem_of_getElem? (l := tables_1_6) (i := 136) (by decide +kernel)))))))) rfl
theorem wq_1338 : Cond.instanceMethod yX11_firstRow ∈ qtbl := wq_r (List.mem_append_right _ (List.mem_append_right _ (List.mem_append_right _ (List.mem_append_right _ (List.mem_append_right _ (List.mem_append_left _ (List.mem_of_getElem? (l := tables_1_6) (i := 138) (by decide +kernel)))))))) rfl
theorem wq_1339 : Cond.code yX11_firstRow cX11_firstRow 2 (Option.none : Option Jvm.ClassFile.FieldType) ∈ qtbl := wq_r (List.mem_append_right _ (List.mem_append_right _ (List.mem_append_right _ (List.mem_append_right _ (List.mem_append_right _ (List.mem_append_left _ (List.mem_of_getElem? (l := tables_1_6) (i := 139) (rfl)))))))) rfl
theorem wq_1340 : Cond.methodLink RX11 282 yX11_fitsAll ∈ qtbl := wq_r (List.mem_append_right _ (List.mem_append_right _ (List.mem_append_right _ (List.mem_append_right _ (List.mem_append_right _ (List.mem_append_left _ (List.mem_of_getElem? (l := tables_1_6) (i := 140) (by decide +kernel)))))))) rfl
theorem wq_1342 : Cond.instanceMethod yX11_fitsAll ∈ qtbl := wq_r (List.mem_append_right _ (List.mem_append_right _ (List.mem_append_right _ (List.mem_append_right _ (List.mem_append_right _ (List.mem_append_left _ (List.mem_of_getElem? (l := tables_1_6) (i := 142) (by decide +kernel)))))))) rfl
theorem wq_1343 : Cond.code yX11_fitsAll cX11_fitsAll 3 (Option.some Jvm.ClassFile.FieldType.boolean) ∈ qtbl := wq_r (List.mem_append_right _ (List.mem_append_right _ (List.mem_append_right _ (List.mem_append_right _ (List.mem_append_right _ (List.mem_append_left _ (List.mem_of_getElem? (l := tables_1_6) (i := 143) (rfl)))))))) rfl
theorem wq_1344 : Cond.methodLink RX11 270 yX11_valueOf ∈ qtbl := wq_r (List.mem_append_right _ (List.mem_append_right _ (List.mem_append_right _ (List.mem_append_right _ (List.mem_append_right _ (List.mem_append_left _ (List.mem_of_getElem? (l := tables_1_6) (i := 144) (by decide +kernel)))))))) rfl
theorem wq_1346 : Cond.instanceMethod yX11_valueOf ∈ qtbl := wq_r (List.mem_append_right _ (List.mem_append_right _ (List.mem_append_right _ (List.mem_append_right _ (List.mem_append_right _ (List.mem_append_left _ (List.mem_of_getElem? (l := tables_1_6) (i := 146) (by decide +kernel)))))))) rfl
theorem wq_1347 : Cond.code yX11_valueOf cX11_valueOf 4 (Option.some Jvm.ClassFile.FieldType.int) ∈ qtbl := wq_r (List.mem_append_right _ (List.mem_append_right _ (List.mem_append_right _ (List.mem_append_right _ (List.mem_append_right _ (List.mem_append_left _ (List.mem_of_getElem? (l := tables_1_6) (i := 147) (rfl)))))))) rfl
theorem wq_1348 : Cond.methodLink RX11 273 yX11_isSo ∈ qtbl := wq_r (List.mem_append_right _ (List.mem_append_right _ (List.mem_append_right _ (List.mem_append_right _ (List.mem_append_right _ (List.mem_append_left _ (List.mem_of_getElem? (l := tables_1_6) (i := 148) (by decide +kernel)))))))) rfl
theorem wq_1350 : Cond.instanceMethod yX11_isSo ∈ qtbl := wq_r (List.mem_append_right _ (List.mem_append_right _ (List.mem_append_right _ (List.mem_append_right _ (List.mem_append_right _ (List.mem_append_left _ (List.mem_of_getElem? (l := tables_1_6) (i := 150) (by decide +kernel)))))))) rfl
theorem wq_1351 : Cond.code yX11_isSo cX11_isSo 3 (Option.some Jvm.ClassFile.FieldType.boolean) ∈ qtbl := wq_r (List.mem_append_right _ (List.mem_append_right _ (List.mem_append_right _ (List.mem_append_right _ (List.mem_append_right _ (List.mem_append_left _ (List.mem_of_getElem? (l := tables_1_6) (i := 151) (rfl)))))))) rfl
theorem wq_1352 : Cond.methodLink RX11 279 yX11_nextRow ∈ qtbl := wq_r (List.mem_append_right _ (List.mem_append_right _ (List.mem_append_right _ (List.mem_append_right _ (List.mem_append_right _ (List.mem_append_left _ (List.mem_of_getElem? (l := tables_1_6) (i := 152) (by decide +kernel)))))))) rfl
theorem wq_1354 : Cond.instanceMethod yX11_nextRow ∈ qtbl := wq_r (List.mem_append_right _ (List.mem_append_right _ (List.mem_append_right _ (List.mem_append_right _ (List.mem_append_right _ (List.mem_append_left _ (List.mem_of_getElem? (l := tables_1_6) (i := 154) (by decide +kernel)))))))) rfl
theorem wq_1355 : Cond.code yX11_nextRow cX11_nextRow 2 (Option.some Jvm.ClassFile.FieldType.boolean) ∈ qtbl := wq_r (List.mem_append_right _ (List.mem_append_right _ (List.mem_append_right _ (List.mem_append_right _ (List.mem_append_right _ (List.mem_append_left _ (List.mem_of_getElem? (l := tables_1_6) (i := 155) (rfl)))))))) rfl
theorem wq_1356 : Cond.methodLink RX11 291 yX11_counts ∈ qtbl := wq_r (List.mem_append_right _ (List.mem_append_right _ (List.mem_append_right _ (List.mem_append_right _ (List.mem_append_right _ (List.mem_append_left _ (List.mem_of_getElem? (l := tables_1_6) (i := 156) (by decide +kernel)))))))) rfl
theorem wq_1358 : Cond.instanceMethod yX11_counts ∈ qtbl := wq_r (List.mem_append_right _ (List.mem_append_right _ (List.mem_append_right _ (List.mem_append_right _ (List.mem_append_right _ (List.mem_append_left _ (List.mem_of_getElem? (l := tables_1_6) (i := 158) (by decide +kernel)))))))) rfl
theorem wq_1359 : Cond.code yX11_counts cX11_counts 4 (Option.none : Option Jvm.ClassFile.FieldType) ∈ qtbl := wq_r (List.mem_append_right _ (List.mem_append_right _ (List.mem_append_right _ (List.mem_append_right _ (List.mem_append_right _ (List.mem_append_left _ (List.mem_of_getElem? (l := tables_1_6) (i := 159) (rfl)))))))) rfl
theorem wq_1360 : Cond.methodLink RX11 294 yX11_fitting ∈ qtbl := wq_r (List.mem_append_right _ (List.mem_append_right _ (List.mem_append_right _ (List.mem_append_right _ (List.mem_append_right _ (List.mem_append_left _ (List.mem_of_getElem? (l := tables_1_6) (i := 160) (by decide +kernel)))))))) rfl
theorem wq_1362 : Cond.instanceMethod yX11_fitting ∈ qtbl := wq_r (List.mem_append_right _ (List.mem_append_right _ (List.mem_append_right _ (List.mem_append_right _ (List.mem_append_right _ (List.mem_append_left _ (List.mem_of_getElem? (l := tables_1_6) (i := 162) (by decide +kernel)))))))) rfl
theorem wq_1363 : Cond.code yX11_fitting cX11_fitting 4 (Option.some Jvm.ClassFile.FieldType.int) ∈ qtbl := wq_r (List.mem_append_right _ (List.mem_append_right _ (List.mem_append_right _ (List.mem_append_right _ (List.mem_append_right _ (List.mem_append_left _ (List.mem_of_getElem? (l := tables_1_6) (i := 163) (rfl)))))))) rfl
theorem wq_1364 : Cond.methodLink RL 60 yX11_ageIs ∈ qtbl := wq_r (List.mem_append_right _ (List.mem_append_right _ (List.mem_append_right _ (List.mem_append_right _ (List.mem_append_right _ (List.mem_append_left _ (List.mem_of_getElem? (l := tables_1_6) (i := 164) (by decide +kernel)))))))) rfl
theorem wq_1365 : Cond.instanceMethod yX11_ageIs ∈ qtbl := wq_r (List.mem_append_right _ (List.mem_append_right _ (List.mem_append_right _ (List.mem_append_right _ (List.mem_append_right _ (List.mem_append_left _ (List.mem_of_getElem? (l := tables_1_6) (i := 165) (by decide +kernel)))))))) rfl
theorem wq_1366 : Cond.selects RX11 yX11_ageIs yX11_ageIs ∈ qtbl := wq_r (List.mem_append_right _ (List.mem_append_right _ (List.mem_append_right _ (List.mem_append_right _ (List.mem_append_right _ (List.mem_append_left _ (List.mem_of_getElem? (l := tables_1_6) (i := 166) (by decide +kernel)))))))) rfl
theorem wq_1367 : Cond.code yX11_ageIs cX11_ageIs 8 (Option.some Jvm.ClassFile.FieldType.int) ∈ qtbl := wq_r (List.mem_append_right _ (List.mem_append_right _ (List.mem_append_right _ (List.mem_append_right _ (List.mem_append_right _ (List.mem_append_left _ (List.mem_of_getElem? (l := tables_1_6) (i := 167) (rfl)))))))) rfl
theorem wq_1368 : Cond.methodLink RX11 297 yX11_laysAges ∈ qtbl := wq_r (List.mem_append_right _ (List.mem_append_right _ (List.mem_append_right _ (List.mem_append_right _ (List.mem_append_right _ (List.mem_append_left _ (List.mem_of_getElem? (l := tables_1_6) (i := 168) (by decide +kernel)))))))) rfl
theorem wq_1370 : Cond.instanceMethod yX11_laysAges ∈ qtbl := wq_r (List.mem_append_right _ (List.mem_append_right _ (List.mem_append_right _ (List.mem_append_right _ (List.mem_append_right _ (List.mem_append_left _ (List.mem_of_getElem? (l := tables_1_6) (i := 170) (by decide +kernel)))))))) rfl
theorem wq_1371 : Cond.code yX11_laysAges cX11_laysAges 4 (Option.none : Option Jvm.ClassFile.FieldType) ∈ qtbl := wq_r (List.mem_append_right _ (List.mem_append_right _ (List.mem_append_right _ (List.mem_append_right _ (List.mem_append_right _ (List.mem_append_left _ (List.mem_of_getElem? (l := tables_1_6) (i := 171) (rfl)))))))) rfl
theorem wq_1372 : Cond.methodLink RL 64 yX11_aged ∈ qtbl := wq_r (List.mem_append_right _ (List.mem_append_right _ (List.mem_append_right _ (List.mem_append_right _ (List.mem_append_right _ (List.mem_append_left _ (List.mem_of_getElem? (l := tables_1_6) (i := 172) (by decide +kernel)))))))) rfl
theorem wq_1373 : Cond.instanceMethod yX11_aged ∈ qtbl := wq_r (List.mem_append_right _ (List.mem_append_right _ (List.mem_append_right _ (List.mem_append_right _ (List.mem_append_right _ (List.mem_append_left _ (List.mem_of_getElem? (l := tables_1_6) (i := 173) (by decide +kernel)))))))) rfl
theorem wq_1374 : Cond.selects RX11 yX11_aged yX11_aged ∈ qtbl := wq_r (List.mem_append_right _ (List.mem_append_right _ (List.mem_append_right _ (List.mem_append_right _ (List.mem_append_right _ (List.mem_append_left _ (List.mem_of_getElem? (l := tables_1_6) (i := 174) (by decide +kernel)))))))) rfl
theorem wq_1375 : Cond.code yX11_aged cX11_aged 4 (Option.some Jvm.ClassFile.FieldType.int) ∈ qtbl := wq_r (List.mem_append_right _ (List.mem_append_right _ (List.mem_append_right _ (List.mem_append_right _ (List.mem_append_right _ (List.mem_append_left _ (List.mem_of_getElem? (l := tables_1_6) (i := 175) (rfl)))))))) rfl
theorem wq_1376 : Cond.methodLink RL 141 yX11_middle ∈ qtbl := wq_r (List.mem_append_right _ (List.mem_append_right _ (List.mem_append_right _ (List.mem_append_right _ (List.mem_append_right _ (List.mem_append_left _ (List.mem_of_getElem? (l := tables_1_6) (i := 176) (by decide +kernel)))))))) rfl
theorem wq_1377 : Cond.instanceMethod yX11_middle ∈ qtbl := wq_r (List.mem_append_right _ (List.mem_append_right _ (List.mem_append_right _ (List.mem_append_right _ (List.mem_append_right _ (List.mem_append_left _ (List.mem_of_getElem? (l := tables_1_6) (i := 177) (by decide +kernel)))))))) rfl
theorem wq_1378 : Cond.selects RX11 yX11_middle yX11_middle ∈ qtbl := wq_r (List.mem_append_right _ (List.mem_append_right _ (List.mem_append_right _ (List.mem_append_right _ (List.mem_append_right _ (List.mem_append_left _ (List.mem_of_getElem? (l := tables_1_6) (i := 178) (by decide +kernel)))))))) rfl
theorem wq_1379 : Cond.code yX11_middle cX11_middle 6 (Option.some Jvm.ClassFile.FieldType.int) ∈ qtbl := wq_r (List.mem_append_right _ (List.mem_append_right _ (List.mem_append_right _ (List.mem_append_right _ (List.mem_append_right _ (List.mem_append_left _ (List.mem_of_getElem? (l := tables_1_6) (i := 179) (rfl)))))))) rfl
theorem wq_1380 : Cond.methodLink RL 145 yX11_apart ∈ qtbl := wq_r (List.mem_append_right _ (List.mem_append_right _ (List.mem_append_right _ (List.mem_append_right _ (List.mem_append_right _ (List.mem_append_left _ (List.mem_of_getElem? (l := tables_1_6) (i := 180) (by decide +kernel)))))))) rfl
theorem wq_1381 : Cond.instanceMethod yX11_apart ∈ qtbl := wq_r (List.mem_append_right _ (List.mem_append_right _ (List.mem_append_right _ (List.mem_append_right _ (List.mem_append_right _ (List.mem_append_left _ (List.mem_of_getElem? (l := tables_1_6) (i := 181) (by decide +kernel)))))))) rfl
theorem wq_1382 : Cond.selects RX11 yX11_apart yX11_apart ∈ qtbl := wq_r (List.mem_append_right _ (List.mem_append_right _ (List.mem_append_right _ (List.mem_append_right _ (List.mem_append_right _ (List.mem_append_left _ (List.mem_of_getElem? (l := tables_1_6) (i := 182) (by decide +kernel)))))))) rfl
theorem wq_1383 : Cond.code yX11_apart cX11_apart 10 (Option.some Jvm.ClassFile.FieldType.int) ∈ qtbl := wq_r (List.mem_append_right _ (List.mem_append_right _ (List.mem_append_right _ (List.mem_append_right _ (List.mem_append_right _ (List.mem_append_left _ (List.mem_of_getElem? (l := tables_1_6) (i := 183) (rfl)))))))) rfl
theorem wq_1384 : Cond.methodLink RX11 300 yX11_areTwo ∈ qtbl := wq_r (List.mem_append_right _ (List.mem_append_right _ (List.mem_append_right _ (List.mem_append_right _ (List.mem_append_right _ (List.mem_append_left _ (List.mem_of_getElem? (l := tables_1_6) (i := 184) (by decide +kernel)))))))) rfl
theorem wq_1386 : Cond.instanceMethod yX11_areTwo ∈ qtbl := wq_r (List.mem_append_right _ (List.mem_append_right _ (List.mem_append_right _ (List.mem_append_right _ (List.mem_append_right _ (List.mem_append_left _ (List.mem_of_getElem? (l := tables_1_6) (i := 186) (by decide +kernel)))))))) rfl
theorem wq_1387 : Cond.code yX11_areTwo cX11_areTwo 3 (Option.some Jvm.ClassFile.FieldType.boolean) ∈ qtbl := wq_r (List.mem_append_right _ (List.mem_append_right _ (List.mem_append_right _ (List.mem_append_right _ (List.mem_append_right _ (List.mem_append_left _ (List.mem_of_getElem? (l := tables_1_6) (i := 187) (rfl)))))))) rfl
theorem wq_1388 : Cond.constant RX11 303 (100000000 : Int32) ∈ qtbl := wq_r (List.mem_append_right _ (List.mem_append_right _ (List.mem_append_right _ (List.mem_append_right _ (List.mem_append_right _ (List.mem_append_left _ (List.mem_of_getElem? (l := tables_1_6) (i := 188) (by decide +kernel)))))))) rfl
theorem wq_1389 : Cond.constant RX11 304 (-100000000 : Int32) ∈ qtbl := wq_r (List.mem_append_right _ (List.mem_append_right _ (List.mem_append_right _ (List.mem_append_right _ (List.mem_append_right _ (List.mem_append_left _ (List.mem_of_getElem? (l := tables_1_6) (i := 189) (by decide +kernel)))))))) rfl
theorem wq_1390 : Cond.methodLink RX11 305 yX11_min ∈ qtbl := wq_r (List.mem_append_right _ (List.mem_append_right _ (List.mem_append_right _ (List.mem_append_right _ (List.mem_append_right _ (List.mem_append_left _ (List.mem_of_getElem? (l := tables_1_6) (i := 190) (by decide +kernel)))))))) rfl
theorem wq_1391 : Cond.static yX11_min ∈ qtbl := wq_r (List.mem_append_right _ (List.mem_append_right _ (List.mem_append_right _ (List.mem_append_right _ (List.mem_append_right _ (List.mem_append_left _ (List.mem_of_getElem? (l := tables_1_6) (i := 191) (by decide +kernel)))))))) rfl
theorem wq_1392 : Cond.code yX11_min cX11_min 2 (Option.some Jvm.ClassFile.FieldType.int) ∈ qtbl := wq_r (List.mem_append_right _ (List.mem_append_right _ (List.mem_append_right _ (List.mem_append_right _ (List.mem_append_right _ (List.mem_append_left _ (List.mem_of_getElem? (l := tables_1_6) (i := 192) (rfl)))))))) rfl
theorem wq_1393 : Cond.methodLink RL 68 yX11_follows ∈ qtbl := wq_r (List.mem_append_right _ (List.mem_append_right _ (List.mem_append_right _ (List.mem_append_right _ (List.mem_append_right _ (List.mem_append_left _ (List.mem_of_getElem? (l := tables_1_6) (i := 193) (by decide +kernel)))))))) rfl
theorem wq_1394 : Cond.instanceMethod yX11_follows ∈ qtbl := wq_r (List.mem_append_right _ (List.mem_append_right _ (List.mem_append_right _ (List.mem_append_right _ (List.mem_append_right _ (List.mem_append_left _ (List.mem_of_getElem? (l := tables_1_6) (i := 194) (by decide +kernel)))))))) rfl
theorem wq_1395 : Cond.selects RX11 yX11_follows yX11_follows ∈ qtbl := wq_r (List.mem_append_right _ (List.mem_append_right _ (List.mem_append_right _ (List.mem_append_right _ (List.mem_append_right _ (List.mem_append_left _ (List.mem_of_getElem? (l := tables_1_6) (i := 195) (by decide +kernel)))))))) rfl
theorem wq_1396 : Cond.code yX11_follows cX11_follows 7 (Option.some Jvm.ClassFile.FieldType.int) ∈ qtbl := wq_r (List.mem_append_right _ (List.mem_append_right _ (List.mem_append_right _ (List.mem_append_right _ (List.mem_append_right _ (List.mem_append_left _ (List.mem_of_getElem? (l := tables_1_6) (i := 196) (rfl)))))))) rfl
theorem wq_1397 : Cond.methodLink RL 72 yX11_clash ∈ qtbl := wq_r (List.mem_append_right _ (List.mem_append_right _ (List.mem_append_right _ (List.mem_append_right _ (List.mem_append_right _ (List.mem_append_left _ (List.mem_of_getElem? (l := tables_1_6) (i := 197) (by decide +kernel)))))))) rfl
theorem wq_1398 : Cond.instanceMethod yX11_clash ∈ qtbl := wq_r (List.mem_append_right _ (List.mem_append_right _ (List.mem_append_right _ (List.mem_append_right _ (List.mem_append_right _ (List.mem_append_left _ (List.mem_of_getElem? (l := tables_1_6) (i := 198) (by decide +kernel)))))))) rfl
theorem wq_1399 : Cond.selects RX11 yX11_clash yX11_clash ∈ qtbl := wq_r (List.mem_append_right _ (List.mem_append_right _ (List.mem_append_right _ (List.mem_append_right _ (List.mem_append_right _ (List.mem_append_left _ (List.mem_of_getElem? (l := tables_1_6) (i := 199) (by decide +kernel)))))))) rfl
theorem wq_1400 : Cond.code yX11_clash cX11_clash 5 (Option.some Jvm.ClassFile.FieldType.int) ∈ qtbl := wq_r (List.mem_append_right _ (List.mem_append_right _ (List.mem_append_right _ (List.mem_append_right _ (List.mem_append_right _ (List.mem_append_left _ (List.mem_of_getElem? (l := tables_1_6) (i := 200) (rfl)))))))) rfl
theorem wq_1401 : Cond.methodLink RL 76 yX11_needless ∈ qtbl := wq_r (List.mem_append_right _ (List.mem_append_right _ (List.mem_append_right _ (List.mem_append_right _ (List.mem_append_right _ (List.mem_append_left _ (List.mem_of_getElem? (l := tables_1_6) (i := 201) (by decide +kernel)))))))) rfl
theorem wq_1402 : Cond.instanceMethod yX11_needless ∈ qtbl := wq_r (List.mem_append_right _ (List.mem_append_right _ (List.mem_append_right _ (List.mem_append_right _ (List.mem_append_right _ (List.mem_append_left _ (List.mem_of_getElem? (l := tables_1_6) (i := 202) (by decide +kernel)))))))) rfl
theorem wq_1403 : Cond.selects RX11 yX11_needless yX11_needless ∈ qtbl := wq_r (List.mem_append_right _ (List.mem_append_right _ (List.mem_append_right _ (List.mem_append_right _ (List.mem_append_right _ (List.mem_append_left _ (List.mem_of_getElem? (l := tables_1_6) (i := 203) (by decide +kernel)))))))) rfl
theorem wq_1404 : Cond.code yX11_needless cX11_needless 5 (Option.some Jvm.ClassFile.FieldType.int) ∈ qtbl := wq_r (List.mem_append_right _ (List.mem_append_right _ (List.mem_append_right _ (List.mem_append_right _ (List.mem_append_right _ (List.mem_append_left _ (List.mem_of_getElem? (l := tables_1_6) (i := 204) (rfl)))))))) rfl
theorem wq_1405 : Cond.methodLink RL 80 yX11_settles ∈ qtbl := wq_r (List.mem_append_right _ (List.mem_append_right _ (List.mem_append_right _ (List.mem_append_right _ (List.mem_append_right _ (List.mem_append_left _ (List.mem_of_getElem? (l := tables_1_6) (i := 205) (by decide +kernel)))))))) rfl
theorem wq_1406 : Cond.instanceMethod yX11_settles ∈ qtbl := wq_r (List.mem_append_right _ (List.mem_append_right _ (List.mem_append_right _ (List.mem_append_right _ (List.mem_append_right _ (List.mem_append_left _ (List.mem_of_getElem? (l := tables_1_6) (i := 206) (by decide +kernel)))))))) rfl
theorem wq_1407 : Cond.selects RX11 yX11_settles yX11_settles ∈ qtbl := wq_r (List.mem_append_right _ (List.mem_append_right _ (List.mem_append_right _ (List.mem_append_right _ (List.mem_append_right _ (List.mem_append_left _ (List.mem_of_getElem? (l := tables_1_6) (i := 207) (by decide +kernel)))))))) rfl
theorem wq_1408 : Cond.code yX11_settles cX11_settles 3 (Option.some Jvm.ClassFile.FieldType.int) ∈ qtbl := wq_r (List.mem_append_right _ (List.mem_append_right _ (List.mem_append_right _ (List.mem_append_right _ (List.mem_append_right _ (List.mem_append_left _ (List.mem_of_getElem? (l := tables_1_6) (i := 208) (rfl)))))))) rfl
theorem wq_1409 : Cond.methodLink RL 84 yX11_fewest ∈ qtbl := wq_r (List.mem_append_right _ (List.mem_append_right _ (List.mem_append_right _ (List.mem_append_right _ (List.mem_append_right _ (List.mem_append_left _ (List.mem_of_getElem? (l := tables_1_6) (i := 209) (by decide +kernel)))))))) rfl
theorem wq_1410 : Cond.instanceMethod yX11_fewest ∈ qtbl := wq_r (List.mem_append_right _ (List.mem_append_right _ (List.mem_append_right _ (List.mem_append_right _ (List.mem_append_right _ (List.mem_append_left _ (List.mem_of_getElem? (l := tables_1_6) (i := 210) (by decide +kernel)))))))) rfl
theorem wq_1411 : Cond.selects RX11 yX11_fewest yX11_fewest ∈ qtbl := wq_r (List.mem_append_right _ (List.mem_append_right _ (List.mem_append_right _ (List.mem_append_right _ (List.mem_append_right _ (List.mem_append_left _ (List.mem_of_getElem? (l := tables_1_6) (i := 211) (by decide +kernel)))))))) rfl
theorem wq_1412 : Cond.code yX11_fewest cX11_fewest 6 (Option.some Jvm.ClassFile.FieldType.int) ∈ qtbl := wq_r (List.mem_append_right _ (List.mem_append_right _ (List.mem_append_right _ (List.mem_append_right _ (List.mem_append_right _ (List.mem_append_left _ (List.mem_of_getElem? (l := tables_1_6) (i := 212) (rfl)))))))) rfl
theorem wq_1413 : Cond.methodLink RL 88 yX11_offByAYear ∈ qtbl := wq_r (List.mem_append_right _ (List.mem_append_right _ (List.mem_append_right _ (List.mem_append_right _ (List.mem_append_right _ (List.mem_append_left _ (List.mem_of_getElem? (l := tables_1_6) (i := 213) (by decide +kernel)))))))) rfl
theorem wq_1414 : Cond.instanceMethod yX11_offByAYear ∈ qtbl := wq_r (List.mem_append_right _ (List.mem_append_right _ (List.mem_append_right _ (List.mem_append_right _ (List.mem_append_right _ (List.mem_append_left _ (List.mem_of_getElem? (l := tables_1_6) (i := 214) (by decide +kernel)))))))) rfl
theorem wq_1415 : Cond.selects RX11 yX11_offByAYear yX11_offByAYear ∈ qtbl := wq_r (List.mem_append_right _ (List.mem_append_right _ (List.mem_append_right _ (List.mem_append_right _ (List.mem_append_right _ (List.mem_append_left _ (List.mem_of_getElem? (l := tables_1_6) (i := 215) (by decide +kernel)))))))) rfl
theorem wq_1416 : Cond.code yX11_offByAYear cX11_offByAYear 7 (Option.some Jvm.ClassFile.FieldType.int) ∈ qtbl := wq_r (List.mem_append_right _ (List.mem_append_right _ (List.mem_append_right _ (List.mem_append_right _ (List.mem_append_right _ (List.mem_append_left _ (List.mem_of_getElem? (l := tables_1_6) (i := 216) (rfl)))))))) rfl
theorem wq_1417 : Cond.methodLink RX11 308 yX11_offIn ∈ qtbl := wq_r (List.mem_append_right _ (List.mem_append_right _ (List.mem_append_right _ (List.mem_append_right _ (List.mem_append_right _ (List.mem_append_left _ (List.mem_of_getElem? (l := tables_1_6) (i := 217) (by decide +kernel)))))))) rfl
theorem wq_1419 : Cond.instanceMethod yX11_offIn ∈ qtbl := wq_r (List.mem_append_right _ (List.mem_append_right _ (List.mem_append_right _ (List.mem_append_right _ (List.mem_append_right _ (List.mem_append_left _ (List.mem_of_getElem? (l := tables_1_6) (i := 219) (by decide +kernel)))))))) rfl
theorem wq_1420 : Cond.code yX11_offIn cX11_offIn 5 (Option.some Jvm.ClassFile.FieldType.int) ∈ qtbl := wq_r (List.mem_append_right _ (List.mem_append_right _ (List.mem_append_right _ (List.mem_append_right _ (List.mem_append_right _ (List.mem_append_left _ (List.mem_of_getElem? (l := tables_1_6) (i := 220) (rfl)))))))) rfl
theorem wq_1421 : Cond.methodLink RL 125 yX11_asks ∈ qtbl := wq_r (List.mem_append_right _ (List.mem_append_right _ (List.mem_append_right _ (List.mem_append_right _ (List.mem_append_right _ (List.mem_append_left _ (List.mem_of_getElem? (l := tables_1_6) (i := 221) (by decide +kernel)))))))) rfl
theorem wq_1422 : Cond.instanceMethod yX11_asks ∈ qtbl := wq_r (List.mem_append_right _ (List.mem_append_right _ (List.mem_append_right _ (List.mem_append_right _ (List.mem_append_right _ (List.mem_append_left _ (List.mem_of_getElem? (l := tables_1_6) (i := 222) (by decide +kernel)))))))) rfl
theorem wq_1423 : Cond.selects RX11 yX11_asks yX11_asks ∈ qtbl := wq_r (List.mem_append_right _ (List.mem_append_right _ (List.mem_append_right _ (List.mem_append_right _ (List.mem_append_right _ (List.mem_append_left _ (List.mem_of_getElem? (l := tables_1_6) (i := 223) (by decide +kernel)))))))) rfl
theorem wq_1424 : Cond.code yX11_asks cX11_asks 9 (Option.some Jvm.ClassFile.FieldType.int) ∈ qtbl := wq_r (List.mem_append_right _ (List.mem_append_right _ (List.mem_append_right _ (List.mem_append_right _ (List.mem_append_right _ (List.mem_append_left _ (List.mem_of_getElem? (l := tables_1_6) (i := 224) (rfl)))))))) rfl
theorem wq_1425 : Cond.methodLink RL 129 yX11_unlike ∈ qtbl := wq_r (List.mem_append_right _ (List.mem_append_right _ (List.mem_append_right _ (List.mem_append_right _ (List.mem_append_right _ (List.mem_append_left _ (List.mem_of_getElem? (l := tables_1_6) (i := 225) (by decide +kernel)))))))) rfl
theorem wq_1426 : Cond.instanceMethod yX11_unlike ∈ qtbl := wq_r (List.mem_append_right _ (List.mem_append_right _ (List.mem_append_right _ (List.mem_append_right _ (List.mem_append_right _ (List.mem_append_left _ (List.mem_of_getElem? (l := tables_1_6) (i := 226) (by decide +kernel)))))))) rfl
theorem wq_1427 : Cond.selects RX11 yX11_unlike yX11_unlike ∈ qtbl := wq_r (List.mem_append_right _ (List.mem_append_right _ (List.mem_append_right _ (List.mem_append_right _ (List.mem_append_right _ (List.mem_append_left _ (List.mem_of_getElem? (l := tables_1_6) (i := 227) (by decide +kernel)))))))) rfl
theorem wq_1428 : Cond.code yX11_unlike cX11_unlike 3 (Option.some Jvm.ClassFile.FieldType.int) ∈ qtbl := wq_r (List.mem_append_right _ (List.mem_append_right _ (List.mem_append_right _ (List.mem_append_right _ (List.mem_append_right _ (List.mem_append_left _ (List.mem_of_getElem? (l := tables_1_6) (i := 228) (rfl)))))))) rfl
theorem wq_1429 : Cond.methodLink RL 92 yX11_known ∈ qtbl := wq_r (List.mem_append_right _ (List.mem_append_right _ (List.mem_append_right _ (List.mem_append_right _ (List.mem_append_right _ (List.mem_append_left _ (List.mem_of_getElem? (l := tables_1_6) (i := 229) (by decide +kernel)))))))) rfl
theorem wq_1430 : Cond.instanceMethod yX11_known ∈ qtbl := wq_r (List.mem_append_right _ (List.mem_append_right _ (List.mem_append_right _ (List.mem_append_right _ (List.mem_append_right _ (List.mem_append_left _ (List.mem_of_getElem? (l := tables_1_6) (i := 230) (by decide +kernel)))))))) rfl
theorem wq_1431 : Cond.selects RX11 yX11_known yX11_known ∈ qtbl := wq_r (List.mem_append_right _ (List.mem_append_right _ (List.mem_append_right _ (List.mem_append_right _ (List.mem_append_right _ (List.mem_append_left _ (List.mem_of_getElem? (l := tables_1_6) (i := 231) (by decide +kernel)))))))) rfl
theorem wq_1432 : Cond.code yX11_known cX11_known 5 (Option.some Jvm.ClassFile.FieldType.int) ∈ qtbl := wq_r (List.mem_append_right _ (List.mem_append_right _ (List.mem_append_right _ (List.mem_append_right _ (List.mem_append_right _ (List.mem_append_left _ (List.mem_of_getElem? (l := tables_1_6) (i := 232) (rfl)))))))) rfl
theorem wq_1433 : Cond.methodLink RX11 317 yX11_isForm ∈ qtbl := wq_r (List.mem_append_right _ (List.mem_append_right _ (List.mem_append_right _ (List.mem_append_right _ (List.mem_append_right _ (List.mem_append_left _ (List.mem_of_getElem? (l := tables_1_6) (i := 233) (by decide +kernel)))))))) rfl
theorem wq_1435 : Cond.instanceMethod yX11_isForm ∈ qtbl := wq_r (List.mem_append_right _ (List.mem_append_right _ (List.mem_append_right _ (List.mem_append_right _ (List.mem_append_right _ (List.mem_append_left _ (List.mem_of_getElem? (l := tables_1_6) (i := 235) (by decide +kernel)))))))) rfl
theorem wq_1436 : Cond.code yX11_isForm cX11_isForm 2 (Option.some Jvm.ClassFile.FieldType.boolean) ∈ qtbl := wq_r (List.mem_append_right _ (List.mem_append_right _ (List.mem_append_right _ (List.mem_append_right _ (List.mem_append_right _ (List.mem_append_left _ (List.mem_of_getElem? (l := tables_1_6) (i := 236) (rfl)))))))) rfl
theorem wq_1437 : Cond.methodLink RX11 320 yX11_lists ∈ qtbl := wq_r (List.mem_append_right _ (List.mem_append_right _ (List.mem_append_right _ (List.mem_append_right _ (List.mem_append_right _ (List.mem_append_left _ (List.mem_of_getElem? (l := tables_1_6) (i := 237) (by decide +kernel)))))))) rfl
theorem wq_1439 : Cond.instanceMethod yX11_lists ∈ qtbl := wq_r (List.mem_append_right _ (List.mem_append_right _ (List.mem_append_right _ (List.mem_append_right _ (List.mem_append_right _ (List.mem_append_left _ (List.mem_of_getElem? (l := tables_1_6) (i := 239) (by decide +kernel)))))))) rfl
theorem wq_1440 : Cond.code yX11_lists cX11_lists 4 (Option.some Jvm.ClassFile.FieldType.boolean) ∈ qtbl := wq_r (List.mem_append_right _ (List.mem_append_right _ (List.mem_append_right _ (List.mem_append_right _ (List.mem_append_right _ (List.mem_append_right _ (List.mem_of_getElem? (l := tables_1_7) (i := 0) (rfl)))))))) rfl
theorem wq_1441 : Cond.methodLink RX11 323 yX11_hears ∈ qtbl := wq_r (List.mem_append_right _ (List.mem_append_right _ (List.mem_append_right _ (List.mem_append_right _ (List.mem_append_right _ (List.mem_append_right _ (List.mem_of_getElem? (l := tables_1_7) (i := 1) (by decide +kernel)))))))) rfl
theorem wq_1443 : Cond.instanceMethod yX11_hears ∈ qtbl := wq_r (List.mem_append_right _ (List.mem_append_right _ (List.mem_append_right _ (List.mem_append_right _ (List.mem_append_right _ (List.mem_append_right _ (List.mem_of_getElem? (l := tables_1_7) (i := 3) (by decide +kernel)))))))) rfl
theorem wq_1444 : Cond.code yX11_hears cX11_hears 3 (Option.none : Option Jvm.ClassFile.FieldType) ∈ qtbl := wq_r (List.mem_append_right _ (List.mem_append_right _ (List.mem_append_right _ (List.mem_append_right _ (List.mem_append_right _ (List.mem_append_right _ (List.mem_of_getElem? (l := tables_1_7) (i := 4) (rfl)))))))) rfl
theorem wq_1445 : Cond.methodLink RX11 314 yX11_takesRow ∈ qtbl := wq_r (List.mem_append_right _ (List.mem_append_right _ (List.mem_append_right _ (List.mem_append_right _ (List.mem_append_right _ (List.mem_append_right _ (List.mem_of_getElem? (l := tables_1_7) (i := 5) (by decide +kernel)))))))) rfl
theorem wq_1447 : Cond.instanceMethod yX11_takesRow ∈ qtbl := wq_r (List.mem_append_right _ (List.mem_append_right _ (List.mem_append_right _ (List.mem_append_right _ (List.mem_append_right _ (List.mem_append_right _ (List.mem_of_getElem? (l := tables_1_7) (i := 7) (by decide +kernel)))))))) rfl
theorem wq_1448 : Cond.code yX11_takesRow cX11_takesRow 3 (Option.none : Option Jvm.ClassFile.FieldType) ∈ qtbl := wq_r (List.mem_append_right _ (List.mem_append_right _ (List.mem_append_right _ (List.mem_append_right _ (List.mem_append_right _ (List.mem_append_right _ (List.mem_of_getElem? (l := tables_1_7) (i := 8) (rfl)))))))) rfl
theorem wq_1449 : Cond.methodLink RX11 326 yX11_alikeTo ∈ qtbl := wq_r (List.mem_append_right _ (List.mem_append_right _ (List.mem_append_right _ (List.mem_append_right _ (List.mem_append_right _ (List.mem_append_right _ (List.mem_of_getElem? (l := tables_1_7) (i := 9) (by decide +kernel)))))))) rfl
theorem wq_1451 : Cond.instanceMethod yX11_alikeTo ∈ qtbl := wq_r (List.mem_append_right _ (List.mem_append_right _ (List.mem_append_right _ (List.mem_append_right _ (List.mem_append_right _ (List.mem_append_right _ (List.mem_of_getElem? (l := tables_1_7) (i := 11) (by decide +kernel)))))))) rfl
theorem wq_1452 : Cond.code yX11_alikeTo cX11_alikeTo 4 (Option.some Jvm.ClassFile.FieldType.int) ∈ qtbl := wq_r (List.mem_append_right _ (List.mem_append_right _ (List.mem_append_right _ (List.mem_append_right _ (List.mem_append_right _ (List.mem_append_right _ (List.mem_of_getElem? (l := tables_1_7) (i := 12) (rfl)))))))) rfl
theorem wq_1453 : Cond.methodLink RL 96 yX11_sayings ∈ qtbl := wq_r (List.mem_append_right _ (List.mem_append_right _ (List.mem_append_right _ (List.mem_append_right _ (List.mem_append_right _ (List.mem_append_right _ (List.mem_of_getElem? (l := tables_1_7) (i := 13) (by decide +kernel)))))))) rfl
theorem wq_1454 : Cond.instanceMethod yX11_sayings ∈ qtbl := wq_r (List.mem_append_right _ (List.mem_append_right _ (List.mem_append_right _ (List.mem_append_right _ (List.mem_append_right _ (List.mem_append_right _ (List.mem_of_getElem? (l := tables_1_7) (i := 14) (by decide +kernel)))))))) rfl
theorem wq_1455 : Cond.selects RX11 yX11_sayings yX11_sayings ∈ qtbl := wq_r (List.mem_append_right _ (List.mem_append_right _ (List.mem_append_right _ (List.mem_append_right _ (List.mem_append_right _ (List.mem_append_right _ (List.mem_of_getElem? (l := tables_1_7) (i := 15) (by decide +kernel)))))))) rfl
theorem wq_1456 : Cond.code yX11_sayings cX11_sayings 6 (Option.some Jvm.ClassFile.FieldType.int) ∈ qtbl := wq_r (List.mem_append_right _ (List.mem_append_right _ (List.mem_append_right _ (List.mem_append_right _ (List.mem_append_right _ (List.mem_append_right _ (List.mem_of_getElem? (l := tables_1_7) (i := 16) (rfl)))))))) rfl
theorem wq_1457 : Cond.methodLink RX11 329 yX11_readsSayings ∈ qtbl := wq_r (List.mem_append_right _ (List.mem_append_right _ (List.mem_append_right _ (List.mem_append_right _ (List.mem_append_right _ (List.mem_append_right _ (List.mem_of_getElem? (l := tables_1_7) (i := 17) (by decide +kernel)))))))) rfl
theorem wq_1459 : Cond.instanceMethod yX11_readsSayings ∈ qtbl := wq_r (List.mem_append_right _ (List.mem_append_right _ (List.mem_append_right _ (List.mem_append_right _ (List.mem_append_right _ (List.mem_append_right _ (List.mem_of_getElem? (l := tables_1_7) (i := 19) (by decide +kernel)))))))) rfl
theorem wq_1460 : Cond.code yX11_readsSayings cX11_readsSayings 4 (Option.some Jvm.ClassFile.FieldType.boolean) ∈ qtbl := wq_r (List.mem_append_right _ (List.mem_append_right _ (List.mem_append_right _ (List.mem_append_right _ (List.mem_append_right _ (List.mem_append_right _ (List.mem_of_getElem? (l := tables_1_7) (i := 20) (rfl)))))))) rfl
theorem wq_1461 : Cond.methodLink RX11 332 yX11_says ∈ qtbl := wq_r (List.mem_append_right _ (List.mem_append_right _ (List.mem_append_right _ (List.mem_append_right _ (List.mem_append_right _ (List.mem_append_right _ (List.mem_of_getElem? (l := tables_1_7) (i := 21) (by decide +kernel)))))))) rfl
theorem wq_1463 : Cond.instanceMethod yX11_says ∈ qtbl := wq_r (List.mem_append_right _ (List.mem_append_right _ (List.mem_append_right _ (List.mem_append_right _ (List.mem_append_right _ (List.mem_append_right _ (List.mem_of_getElem? (l := tables_1_7) (i := 23) (by decide +kernel)))))))) rfl
theorem wq_1464 : Cond.code yX11_says cX11_says 6 (Option.none : Option Jvm.ClassFile.FieldType) ∈ qtbl := wq_r (List.mem_append_right _ (List.mem_append_right _ (List.mem_append_right _ (List.mem_append_right _ (List.mem_append_right _ (List.mem_append_right _ (List.mem_of_getElem? (l := tables_1_7) (i := 24) (rfl)))))))) rfl
theorem wq_1465 : Cond.methodLink RL 137 yX11_often ∈ qtbl := wq_r (List.mem_append_right _ (List.mem_append_right _ (List.mem_append_right _ (List.mem_append_right _ (List.mem_append_right _ (List.mem_append_right _ (List.mem_of_getElem? (l := tables_1_7) (i := 25) (by decide +kernel)))))))) rfl
theorem wq_1466 : Cond.instanceMethod yX11_often ∈ qtbl := wq_r (List.mem_append_right _ (List.mem_append_right _ (List.mem_append_right _ (List.mem_append_right _ (List.mem_append_right _ (List.mem_append_right _ (List.mem_of_getElem? (l := tables_1_7) (i := 26) (by decide +kernel)))))))) rfl
theorem wq_1467 : Cond.selects RX11 yX11_often yX11_often ∈ qtbl := wq_r (List.mem_append_right _ (List.mem_append_right _ (List.mem_append_right _ (List.mem_append_right _ (List.mem_append_right _ (List.mem_append_right _ (List.mem_of_getElem? (l := tables_1_7) (i := 27) (by decide +kernel)))))))) rfl
theorem wq_1468 : Cond.code yX11_often cX11_often 10 (Option.some Jvm.ClassFile.FieldType.int) ∈ qtbl := wq_r (List.mem_append_right _ (List.mem_append_right _ (List.mem_append_right _ (List.mem_append_right _ (List.mem_append_right _ (List.mem_append_right _ (List.mem_of_getElem? (l := tables_1_7) (i := 28) (rfl)))))))) rfl
theorem wq_1469 : Cond.methodLink RL 133 yX11_shortest ∈ qtbl := wq_r (List.mem_append_right _ (List.mem_append_right _ (List.mem_append_right _ (List.mem_append_right _ (List.mem_append_right _ (List.mem_append_right _ (List.mem_of_getElem? (l := tables_1_7) (i := 29) (by decide +kernel)))))))) rfl
theorem wq_1470 : Cond.instanceMethod yX11_shortest ∈ qtbl := wq_r (List.mem_append_right _ (List.mem_append_right _ (List.mem_append_right _ (List.mem_append_right _ (List.mem_append_right _ (List.mem_append_right _ (List.mem_of_getElem? (l := tables_1_7) (i := 30) (by decide +kernel)))))))) rfl
theorem wq_1471 : Cond.selects RX11 yX11_shortest yX11_shortest ∈ qtbl := wq_r (List.mem_append_right _ (List.mem_append_right _ (List.mem_append_right _ (List.mem_append_right _ (List.mem_append_right _ (List.mem_append_right _ (List.mem_of_getElem? (l := tables_1_7) (i := 31) (by decide +kernel)))))))) rfl
theorem wq_1472 : Cond.code yX11_shortest cX11_shortest 6 (Option.some Jvm.ClassFile.FieldType.int) ∈ qtbl := wq_r (List.mem_append_right _ (List.mem_append_right _ (List.mem_append_right _ (List.mem_append_right _ (List.mem_append_right _ (List.mem_append_right _ (List.mem_of_getElem? (l := tables_1_7) (i := 32) (rfl)))))))) rfl
theorem wq_1473 : Cond.methodLink RX11 351 yX11_ageNow ∈ qtbl := wq_r (List.mem_append_right _ (List.mem_append_right _ (List.mem_append_right _ (List.mem_append_right _ (List.mem_append_right _ (List.mem_append_right _ (List.mem_of_getElem? (l := tables_1_7) (i := 33) (by decide +kernel)))))))) rfl
theorem wq_1475 : Cond.instanceMethod yX11_ageNow ∈ qtbl := wq_r (List.mem_append_right _ (List.mem_append_right _ (List.mem_append_right _ (List.mem_append_right _ (List.mem_append_right _ (List.mem_append_right _ (List.mem_of_getElem? (l := tables_1_7) (i := 35) (by decide +kernel)))))))) rfl
theorem wq_1476 : Cond.code yX11_ageNow cX11_ageNow 3 (Option.some Jvm.ClassFile.FieldType.int) ∈ qtbl := wq_r (List.mem_append_right _ (List.mem_append_right _ (List.mem_append_right _ (List.mem_append_right _ (List.mem_append_right _ (List.mem_append_right _ (List.mem_of_getElem? (l := tables_1_7) (i := 36) (rfl)))))))) rfl
theorem wq_1477 : Cond.methodLink RX11 354 yX11_rowsWith ∈ qtbl := wq_r (List.mem_append_right _ (List.mem_append_right _ (List.mem_append_right _ (List.mem_append_right _ (List.mem_append_right _ (List.mem_append_right _ (List.mem_of_getElem? (l := tables_1_7) (i := 37) (by decide +kernel)))))))) rfl
theorem wq_1479 : Cond.instanceMethod yX11_rowsWith ∈ qtbl := wq_r (List.mem_append_right _ (List.mem_append_right _ (List.mem_append_right _ (List.mem_append_right _ (List.mem_append_right _ (List.mem_append_right _ (List.mem_of_getElem? (l := tables_1_7) (i := 39) (by decide +kernel)))))))) rfl
theorem wq_1480 : Cond.code yX11_rowsWith cX11_rowsWith 8 (Option.some Jvm.ClassFile.FieldType.int) ∈ qtbl := wq_r (List.mem_append_right _ (List.mem_append_right _ (List.mem_append_right _ (List.mem_append_right _ (List.mem_append_right _ (List.mem_append_right _ (List.mem_of_getElem? (l := tables_1_7) (i := 40) (rfl)))))))) rfl
theorem wq_1481 : Cond.methodLink RX11 358 yX11_digitsOf ∈ qtbl := wq_r (List.mem_append_right _ (List.mem_append_right _ (List.mem_append_right _ (List.mem_append_right _ (List.mem_append_right _ (List.mem_append_right _ (List.mem_of_getElem? (l := tables_1_7) (i := 41) (by decide +kernel)))))))) rfl
theorem wq_1482 : Cond.static yX11_digitsOf ∈ qtbl := wq_r (List.mem_append_right _ (List.mem_append_right _ (List.mem_append_right _ (List.mem_append_right _ (List.mem_append_right _ (List.mem_append_right _ (List.mem_of_getElem? (l := tables_1_7) (i := 42) (by decide +kernel)))))))) rfl
theorem wq_1483 : Cond.code yX11_digitsOf cX11_digitsOf 1 (Option.some Jvm.ClassFile.FieldType.int) ∈ qtbl := wq_r (List.mem_append_right _ (List.mem_append_right _ (List.mem_append_right _ (List.mem_append_right _ (List.mem_append_right _ (List.mem_append_right _ (List.mem_of_getElem? (l := tables_1_7) (i := 43) (rfl)))))))) rfl
theorem wq_1484 : Cond.methodLink RX11 361 yX11_mayBe ∈ qtbl := wq_r (List.mem_append_right _ (List.mem_append_right _ (List.mem_append_right _ (List.mem_append_right _ (List.mem_append_right _ (List.mem_append_right _ (List.mem_of_getElem? (l := tables_1_7) (i := 44) (by decide +kernel)))))))) rfl
theorem wq_1486 : Cond.instanceMethod yX11_mayBe ∈ qtbl := wq_r (List.mem_append_right _ (List.mem_append_right _ (List.mem_append_right _ (List.mem_append_right _ (List.mem_append_right _ (List.mem_append_right _ (List.mem_of_getElem? (l := tables_1_7) (i := 46) (by decide +kernel)))))))) rfl
theorem wq_1487 : Cond.code yX11_mayBe cX11_mayBe 6 (Option.none : Option Jvm.ClassFile.FieldType) ∈ qtbl := wq_r (List.mem_append_right _ (List.mem_append_right _ (List.mem_append_right _ (List.mem_append_right _ (List.mem_append_right _ (List.mem_append_right _ (List.mem_of_getElem? (l := tables_1_7) (i := 47) (rfl)))))))) rfl
theorem wq_1488 : Cond.methodLink RX11 365 yX11_triesTwo ∈ qtbl := wq_r (List.mem_append_right _ (List.mem_append_right _ (List.mem_append_right _ (List.mem_append_right _ (List.mem_append_right _ (List.mem_append_right _ (List.mem_of_getElem? (l := tables_1_7) (i := 48) (by decide +kernel)))))))) rfl
theorem wq_1490 : Cond.instanceMethod yX11_triesTwo ∈ qtbl := wq_r (List.mem_append_right _ (List.mem_append_right _ (List.mem_append_right _ (List.mem_append_right _ (List.mem_append_right _ (List.mem_append_right _ (List.mem_of_getElem? (l := tables_1_7) (i := 50) (by decide +kernel)))))))) rfl
theorem wq_1491 : Cond.code yX11_triesTwo cX11_triesTwo 5 (Option.none : Option Jvm.ClassFile.FieldType) ∈ qtbl := wq_r (List.mem_append_right _ (List.mem_append_right _ (List.mem_append_right _ (List.mem_append_right _ (List.mem_append_right _ (List.mem_append_right _ (List.mem_of_getElem? (l := tables_1_7) (i := 51) (rfl)))))))) rfl
theorem wq_1492 : Cond.methodLink RL 100 yX11_isTrue ∈ qtbl := wq_r (List.mem_append_right _ (List.mem_append_right _ (List.mem_append_right _ (List.mem_append_right _ (List.mem_append_right _ (List.mem_append_right _ (List.mem_of_getElem? (l := tables_1_7) (i := 52) (by decide +kernel)))))))) rfl
theorem wq_1493 : Cond.instanceMethod yX11_isTrue ∈ qtbl := wq_r (List.mem_append_right _ (List.mem_append_right _ (List.mem_append_right _ (List.mem_append_right _ (List.mem_append_right _ (List.mem_append_right _ (List.mem_of_getElem? (l := tables_1_7) (i := 53) (by decide +kernel)))))))) rfl
theorem wq_1494 : Cond.selects RX11 yX11_isTrue yX11_isTrue ∈ qtbl := wq_r (List.mem_append_right _ (List.mem_append_right _ (List.mem_append_right _ (List.mem_append_right _ (List.mem_append_right _ (List.mem_append_right _ (List.mem_of_getElem? (l := tables_1_7) (i := 54) (by decide +kernel)))))))) rfl
theorem wq_1495 : Cond.code yX11_isTrue cX11_isTrue 10 (Option.some Jvm.ClassFile.FieldType.int) ∈ qtbl := wq_r (List.mem_append_right _ (List.mem_append_right _ (List.mem_append_right _ (List.mem_append_right _ (List.mem_append_right _ (List.mem_append_right _ (List.mem_of_getElem? (l := tables_1_7) (i := 55) (rfl)))))))) rfl
theorem wq_1496 : Cond.methodLink RL 104 yX11_together ∈ qtbl := wq_r (List.mem_append_right _ (List.mem_append_right _ (List.mem_append_right _ (List.mem_append_right _ (List.mem_append_right _ (List.mem_append_right _ (List.mem_of_getElem? (l := tables_1_7) (i := 56) (by decide +kernel)))))))) rfl
theorem wq_1497 : Cond.instanceMethod yX11_together ∈ qtbl := wq_r (List.mem_append_right _ (List.mem_append_right _ (List.mem_append_right _ (List.mem_append_right _ (List.mem_append_right _ (List.mem_append_right _ (List.mem_of_getElem? (l := tables_1_7) (i := 57) (by decide +kernel)))))))) rfl
theorem wq_1498 : Cond.selects RX11 yX11_together yX11_together ∈ qtbl := wq_r (List.mem_append_right _ (List.mem_append_right _ (List.mem_append_right _ (List.mem_append_right _ (List.mem_append_right _ (List.mem_append_right _ (List.mem_of_getElem? (l := tables_1_7) (i := 58) (by decide +kernel)))))))) rfl
theorem wq_1499 : Cond.code yX11_together cX11_together 6 (Option.some Jvm.ClassFile.FieldType.int) ∈ qtbl := wq_r (List.mem_append_right _ (List.mem_append_right _ (List.mem_append_right _ (List.mem_append_right _ (List.mem_append_right _ (List.mem_append_right _ (List.mem_of_getElem? (l := tables_1_7) (i := 59) (rfl)))))))) rfl
theorem wq_1500 : Cond.methodLink RL 109 yX11_turned ∈ qtbl := wq_r (List.mem_append_right _ (List.mem_append_right _ (List.mem_append_right _ (List.mem_append_right _ (List.mem_append_right _ (List.mem_append_right _ (List.mem_of_getElem? (l := tables_1_7) (i := 60) (by decide +kernel)))))))) rfl
theorem wq_1501 : Cond.instanceMethod yX11_turned ∈ qtbl := wq_r (List.mem_append_right _ (List.mem_append_right _ (List.mem_append_right _ (List.mem_append_right _ (List.mem_append_right _ (List.mem_append_right _ (List.mem_of_getElem? (l := tables_1_7) (i := 61) (by decide +kernel)))))))) rfl
theorem wq_1502 : Cond.selects RX11 yX11_turned yX11_turned ∈ qtbl := wq_r (List.mem_append_right _ (List.mem_append_right _ (List.mem_append_right _ (List.mem_append_right _ (List.mem_append_right _ (List.mem_append_right _ (List.mem_of_getElem? (l := tables_1_7) (i := 62) (by decide +kernel)))))))) rfl
theorem wq_1503 : Cond.code yX11_turned cX11_turned 8 (Option.some Jvm.ClassFile.FieldType.int) ∈ qtbl := wq_r (List.mem_append_right _ (List.mem_append_right _ (List.mem_append_right _ (List.mem_append_right _ (List.mem_append_right _ (List.mem_append_right _ (List.mem_of_getElem? (l := tables_1_7) (i := 63) (rfl)))))))) rfl
theorem wq_1504 : Cond.methodLink RX11 368 yX11_areTurned ∈ qtbl := wq_r (List.mem_append_right _ (List.mem_append_right _ (List.mem_append_right _ (List.mem_append_right _ (List.mem_append_right _ (List.mem_append_right _ (List.mem_of_getElem? (l := tables_1_7) (i := 64) (by decide +kernel)))))))) rfl
theorem wq_1505 : Cond.static yX11_areTurned ∈ qtbl := wq_r (List.mem_append_right _ (List.mem_append_right _ (List.mem_append_right _ (List.mem_append_right _ (List.mem_append_right _ (List.mem_append_right _ (List.mem_of_getElem? (l := tables_1_7) (i := 65) (by decide +kernel)))))))) rfl
theorem wq_1506 : Cond.code yX11_areTurned cX11_areTurned 2 (Option.some Jvm.ClassFile.FieldType.boolean) ∈ qtbl := wq_r (List.mem_append_right _ (List.mem_append_right _ (List.mem_append_right _ (List.mem_append_right _ (List.mem_append_right _ (List.mem_append_right _ (List.mem_of_getElem? (l := tables_1_7) (i := 66) (rfl)))))))) rfl
theorem wq_1507 : Cond.methodLink RL 113 yX11_squares ∈ qtbl := wq_r (List.mem_append_right _ (List.mem_append_right _ (List.mem_append_right _ (List.mem_append_right _ (List.mem_append_right _ (List.mem_append_right _ (List.mem_of_getElem? (l := tables_1_7) (i := 67) (by decide +kernel)))))))) rfl
theorem wq_1508 : Cond.instanceMethod yX11_squares ∈ qtbl := wq_r (List.mem_append_right _ (List.mem_append_right _ (List.mem_append_right _ (List.mem_append_right _ (List.mem_append_right _ (List.mem_append_right _ (List.mem_of_getElem? (l := tables_1_7) (i := 68) (by decide +kernel)))))))) rfl
theorem wq_1509 : Cond.selects RX11 yX11_squares yX11_squares ∈ qtbl := wq_r (List.mem_append_right _ (List.mem_append_right _ (List.mem_append_right _ (List.mem_append_right _ (List.mem_append_right _ (List.mem_append_right _ (List.mem_of_getElem? (l := tables_1_7) (i := 69) (by decide +kernel)))))))) rfl
theorem wq_1510 : Cond.code yX11_squares cX11_squares 5 (Option.some Jvm.ClassFile.FieldType.int) ∈ qtbl := wq_r (List.mem_append_right _ (List.mem_append_right _ (List.mem_append_right _ (List.mem_append_right _ (List.mem_append_right _ (List.mem_append_right _ (List.mem_of_getElem? (l := tables_1_7) (i := 70) (rfl)))))))) rfl
theorem wq_1511 : Cond.methodLink RX11 371 yX11_squaresIn ∈ qtbl := wq_r (List.mem_append_right _ (List.mem_append_right _ (List.mem_append_right _ (List.mem_append_right _ (List.mem_append_right _ (List.mem_append_right _ (List.mem_of_getElem? (l := tables_1_7) (i := 71) (by decide +kernel)))))))) rfl
theorem wq_1513 : Cond.instanceMethod yX11_squaresIn ∈ qtbl := wq_r (List.mem_append_right _ (List.mem_append_right _ (List.mem_append_right _ (List.mem_append_right _ (List.mem_append_right _ (List.mem_append_right _ (List.mem_of_getElem? (l := tables_1_7) (i := 73) (by decide +kernel)))))))) rfl
theorem wq_1514 : Cond.code yX11_squaresIn cX11_squaresIn 5 (Option.some Jvm.ClassFile.FieldType.int) ∈ qtbl := wq_r (List.mem_append_right _ (List.mem_append_right _ (List.mem_append_right _ (List.mem_append_right _ (List.mem_append_right _ (List.mem_append_right _ (List.mem_of_getElem? (l := tables_1_7) (i := 74) (rfl)))))))) rfl
theorem wq_1515 : Cond.methodLink RL 117 yX11_when ∈ qtbl := wq_r (List.mem_append_right _ (List.mem_append_right _ (List.mem_append_right _ (List.mem_append_right _ (List.mem_append_right _ (List.mem_append_right _ (List.mem_of_getElem? (l := tables_1_7) (i := 75) (by decide +kernel)))))))) rfl
theorem wq_1516 : Cond.instanceMethod yX11_when ∈ qtbl := wq_r (List.mem_append_right _ (List.mem_append_right _ (List.mem_append_right _ (List.mem_append_right _ (List.mem_append_right _ (List.mem_append_right _ (List.mem_of_getElem? (l := tables_1_7) (i := 76) (by decide +kernel)))))))) rfl
theorem wq_1517 : Cond.selects RX11 yX11_when yX11_when ∈ qtbl := wq_r (List.mem_append_right _ (List.mem_append_right _ (List.mem_append_right _ (List.mem_append_right _ (List.mem_append_right _ (List.mem_append_right _ (List.mem_of_getElem? (l := tables_1_7) (i := 77) (by decide +kernel)))))))) rfl
theorem wq_1518 : Cond.code yX11_when cX11_when 5 (Option.some Jvm.ClassFile.FieldType.int) ∈ qtbl := wq_r (List.mem_append_right _ (List.mem_append_right _ (List.mem_append_right _ (List.mem_append_right _ (List.mem_append_right _ (List.mem_append_right _ (List.mem_of_getElem? (l := tables_1_7) (i := 78) (rfl)))))))) rfl
theorem wq_1519 : Cond.methodLink RL 173 yX11_worth ∈ qtbl := wq_r (List.mem_append_right _ (List.mem_append_right _ (List.mem_append_right _ (List.mem_append_right _ (List.mem_append_right _ (List.mem_append_right _ (List.mem_of_getElem? (l := tables_1_7) (i := 79) (by decide +kernel)))))))) rfl
theorem wq_1520 : Cond.instanceMethod yX11_worth ∈ qtbl := wq_r (List.mem_append_right _ (List.mem_append_right _ (List.mem_append_right _ (List.mem_append_right _ (List.mem_append_right _ (List.mem_append_right _ (List.mem_of_getElem? (l := tables_1_7) (i := 80) (by decide +kernel)))))))) rfl
theorem wq_1521 : Cond.selects RX11 yX11_worth yX11_worth ∈ qtbl := wq_r (List.mem_append_right _ (List.mem_append_right _ (List.mem_append_right _ (List.mem_append_right _ (List.mem_append_right _ (List.mem_append_right _ (List.mem_of_getElem? (l := tables_1_7) (i := 81) (by decide +kernel)))))))) rfl
theorem wq_1522 : Cond.code yX11_worth cX11_worth 3 (Option.some Jvm.ClassFile.FieldType.int) ∈ qtbl := wq_r (List.mem_append_right _ (List.mem_append_right _ (List.mem_append_right _ (List.mem_append_right _ (List.mem_append_right _ (List.mem_append_right _ (List.mem_of_getElem? (l := tables_1_7) (i := 82) (rfl)))))))) rfl
theorem wq_1523 : Cond.methodLink RL 177 yX11_between ∈ qtbl := wq_r (List.mem_append_right _ (List.mem_append_right _ (List.mem_append_right _ (List.mem_append_right _ (List.mem_append_right _ (List.mem_append_right _ (List.mem_of_getElem? (l := tables_1_7) (i := 83) (by decide +kernel)))))))) rfl
theorem wq_1524 : Cond.instanceMethod yX11_between ∈ qtbl := wq_r (List.mem_append_right _ (List.mem_append_right _ (List.mem_append_right _ (List.mem_append_right _ (List.mem_append_right _ (List.mem_append_right _ (List.mem_of_getElem? (l := tables_1_7) (i := 84) (by decide +kernel)))))))) rfl
theorem wq_1525 : Cond.selects RX11 yX11_between yX11_between ∈ qtbl := wq_r (List.mem_append_right _ (List.mem_append_right _ (List.mem_append_right _ (List.mem_append_right _ (List.mem_append_right _ (List.mem_append_right _ (List.mem_of_getElem? (l := tables_1_7) (i := 85) (by decide +kernel)))))))) rfl
theorem wq_1526 : Cond.code yX11_between cX11_between 8 (Option.some Jvm.ClassFile.FieldType.int) ∈ qtbl := wq_r (List.mem_append_right _ (List.mem_append_right _ (List.mem_append_right _ (List.mem_append_right _ (List.mem_append_right _ (List.mem_append_right _ (List.mem_of_getElem? (l := tables_1_7) (i := 86) (rfl)))))))) rfl
theorem wq_1527 : Cond.methodLink RL 121 yX11_whoIsWho ∈ qtbl := wq_r (List.mem_append_right _ (List.mem_append_right _ (List.mem_append_right _ (List.mem_append_right _ (List.mem_append_right _ (List.mem_append_right _ (List.mem_of_getElem? (l := tables_1_7) (i := 87) (by decide +kernel)))))))) rfl
theorem wq_1528 : Cond.instanceMethod yX11_whoIsWho ∈ qtbl := wq_r (List.mem_append_right _ (List.mem_append_right _ (List.mem_append_right _ (List.mem_append_right _ (List.mem_append_right _ (List.mem_append_right _ (List.mem_of_getElem? (l := tables_1_7) (i := 88) (by decide +kernel)))))))) rfl
theorem wq_1529 : Cond.selects RX11 yX11_whoIsWho yX11_whoIsWho ∈ qtbl := wq_r (List.mem_append_right _ (List.mem_append_right _ (List.mem_append_right _ (List.mem_append_right _ (List.mem_append_right _ (List.mem_append_right _ (List.mem_of_getElem? (l := tables_1_7) (i := 89) (by decide +kernel)))))))) rfl
theorem wq_1530 : Cond.code yX11_whoIsWho cX11_whoIsWho 12 (Option.some Jvm.ClassFile.FieldType.int) ∈ qtbl := wq_r (List.mem_append_right _ (List.mem_append_right _ (List.mem_append_right _ (List.mem_append_right _ (List.mem_append_right _ (List.mem_append_right _ (List.mem_of_getElem? (l := tables_1_7) (i := 90) (rfl)))))))) rfl
theorem wq_1531 : Cond.methodLink RX11 377 yX11_readsPlaces ∈ qtbl := wq_r (List.mem_append_right _ (List.mem_append_right _ (List.mem_append_right _ (List.mem_append_right _ (List.mem_append_right _ (List.mem_append_right _ (List.mem_of_getElem? (l := tables_1_7) (i := 91) (by decide +kernel)))))))) rfl
theorem wq_1533 : Cond.instanceMethod yX11_readsPlaces ∈ qtbl := wq_r (List.mem_append_right _ (List.mem_append_right _ (List.mem_append_right _ (List.mem_append_right _ (List.mem_append_right _ (List.mem_append_right _ (List.mem_of_getElem? (l := tables_1_7) (i := 93) (by decide +kernel)))))))) rfl
theorem wq_1534 : Cond.code yX11_readsPlaces cX11_readsPlaces 6 (Option.some Jvm.ClassFile.FieldType.boolean) ∈ qtbl := wq_r (List.mem_append_right _ (List.mem_append_right _ (List.mem_append_right _ (List.mem_append_right _ (List.mem_append_right _ (List.mem_append_right _ (List.mem_of_getElem? (l := tables_1_7) (i := 94) (rfl)))))))) rfl
theorem wq_1535 : Cond.methodLink RX11 380 yX11_holdAllAsTold ∈ qtbl := wq_r (List.mem_append_right _ (List.mem_append_right _ (List.mem_append_right _ (List.mem_append_right _ (List.mem_append_right _ (List.mem_append_right _ (List.mem_of_getElem? (l := tables_1_7) (i := 95) (by decide +kernel)))))))) rfl
theorem wq_1537 : Cond.instanceMethod yX11_holdAllAsTold ∈ qtbl := wq_r (List.mem_append_right _ (List.mem_append_right _ (List.mem_append_right _ (List.mem_append_right _ (List.mem_append_right _ (List.mem_append_right _ (List.mem_of_getElem? (l := tables_1_7) (i := 97) (by decide +kernel)))))))) rfl
theorem wq_1538 : Cond.code yX11_holdAllAsTold cX11_holdAllAsTold 4 (Option.some Jvm.ClassFile.FieldType.boolean) ∈ qtbl := wq_r (List.mem_append_right _ (List.mem_append_right _ (List.mem_append_right _ (List.mem_append_right _ (List.mem_append_right _ (List.mem_append_right _ (List.mem_of_getElem? (l := tables_1_7) (i := 98) (rfl)))))))) rfl
theorem wq_1539 : Cond.methodLink RX11 374 yX11_holdsAsTold ∈ qtbl := wq_r (List.mem_append_right _ (List.mem_append_right _ (List.mem_append_right _ (List.mem_append_right _ (List.mem_append_right _ (List.mem_append_right _ (List.mem_of_getElem? (l := tables_1_7) (i := 99) (by decide +kernel)))))))) rfl
theorem wq_1541 : Cond.instanceMethod yX11_holdsAsTold ∈ qtbl := wq_r (List.mem_append_right _ (List.mem_append_right _ (List.mem_append_right _ (List.mem_append_right _ (List.mem_append_right _ (List.mem_append_right _ (List.mem_of_getElem? (l := tables_1_7) (i := 101) (by decide +kernel)))))))) rfl
theorem wq_1542 : Cond.code yX11_holdsAsTold cX11_holdsAsTold 5 (Option.some Jvm.ClassFile.FieldType.boolean) ∈ qtbl := wq_r (List.mem_append_right _ (List.mem_append_right _ (List.mem_append_right _ (List.mem_append_right _ (List.mem_append_right _ (List.mem_append_right _ (List.mem_of_getElem? (l := tables_1_7) (i := 102) (rfl)))))))) rfl
theorem wq_1543 : Cond.methodLink RL 149 yX11_parent ∈ qtbl := wq_r (List.mem_append_right _ (List.mem_append_right _ (List.mem_append_right _ (List.mem_append_right _ (List.mem_append_right _ (List.mem_append_right _ (List.mem_of_getElem? (l := tables_1_7) (i := 103) (by decide +kernel)))))))) rfl
theorem wq_1544 : Cond.instanceMethod yX11_parent ∈ qtbl := wq_r (List.mem_append_right _ (List.mem_append_right _ (List.mem_append_right _ (List.mem_append_right _ (List.mem_append_right _ (List.mem_append_right _ (List.mem_of_getElem? (l := tables_1_7) (i := 104) (by decide +kernel)))))))) rfl
theorem wq_1545 : Cond.selects RX11 yX11_parent yX11_parent ∈ qtbl := wq_r (List.mem_append_right _ (List.mem_append_right _ (List.mem_append_right _ (List.mem_append_right _ (List.mem_append_right _ (List.mem_append_right _ (List.mem_of_getElem? (l := tables_1_7) (i := 105) (by decide +kernel)))))))) rfl
theorem wq_1546 : Cond.code yX11_parent cX11_parent 4 (Option.some Jvm.ClassFile.FieldType.boolean) ∈ qtbl := wq_r (List.mem_append_right _ (List.mem_append_right _ (List.mem_append_right _ (List.mem_append_right _ (List.mem_append_right _ (List.mem_append_right _ (List.mem_of_getElem? (l := tables_1_7) (i := 106) (rfl)))))))) rfl
theorem wq_1547 : Cond.methodLink RL 153 yX11_tree ∈ qtbl := wq_r (List.mem_append_right _ (List.mem_append_right _ (List.mem_append_right _ (List.mem_append_right _ (List.mem_append_right _ (List.mem_append_right _ (List.mem_of_getElem? (l := tables_1_7) (i := 107) (by decide +kernel)))))))) rfl
theorem wq_1548 : Cond.instanceMethod yX11_tree ∈ qtbl := wq_r (List.mem_append_right _ (List.mem_append_right _ (List.mem_append_right _ (List.mem_append_right _ (List.mem_append_right _ (List.mem_append_right _ (List.mem_of_getElem? (l := tables_1_7) (i := 108) (by decide +kernel)))))))) rfl
theorem wq_1549 : Cond.selects RX11 yX11_tree yX11_tree ∈ qtbl := wq_r (List.mem_append_right _ (List.mem_append_right _ (List.mem_append_right _ (List.mem_append_right _ (List.mem_append_right _ (List.mem_append_right _ (List.mem_of_getElem? (l := tables_1_7) (i := 109) (by decide +kernel)))))))) rfl
theorem wq_1550 : Cond.code yX11_tree cX11_tree 3 (Option.some Jvm.ClassFile.FieldType.int) ∈ qtbl := wq_r (List.mem_append_right _ (List.mem_append_right _ (List.mem_append_right _ (List.mem_append_right _ (List.mem_append_right _ (List.mem_append_right _ (List.mem_of_getElem? (l := tables_1_7) (i := 110) (rfl)))))))) rfl
theorem wq_1551 : Cond.methodLink RX11 383 yX11_laysTree ∈ qtbl := wq_r (List.mem_append_right _ (List.mem_append_right _ (List.mem_append_right _ (List.mem_append_right _ (List.mem_append_right _ (List.mem_append_right _ (List.mem_of_getElem? (l := tables_1_7) (i := 111) (by decide +kernel)))))))) rfl
theorem wq_1553 : Cond.instanceMethod yX11_laysTree ∈ qtbl := wq_r (List.mem_append_right _ (List.mem_append_right _ (List.mem_append_right _ (List.mem_append_right _ (List.mem_append_right _ (List.mem_append_right _ (List.mem_of_getElem? (l := tables_1_7) (i := 113) (by decide +kernel)))))))) rfl
theorem wq_1554 : Cond.code yX11_laysTree cX11_laysTree 5 (Option.some Jvm.ClassFile.FieldType.boolean) ∈ qtbl := wq_r (List.mem_append_right _ (List.mem_append_right _ (List.mem_append_right _ (List.mem_append_right _ (List.mem_append_right _ (List.mem_append_right _ (List.mem_of_getElem? (l := tables_1_7) (i := 114) (rfl)))))))) rfl
theorem wq_1555 : Cond.methodLink RL 157 yX11_tyres ∈ qtbl := wq_r (List.mem_append_right _ (List.mem_append_right _ (List.mem_append_right _ (List.mem_append_right _ (List.mem_append_right _ (List.mem_append_right _ (List.mem_of_getElem? (l := tables_1_7) (i := 115) (by decide +kernel)))))))) rfl
theorem wq_1556 : Cond.instanceMethod yX11_tyres ∈ qtbl := wq_r (List.mem_append_right _ (List.mem_append_right _ (List.mem_append_right _ (List.mem_append_right _ (List.mem_append_right _ (List.mem_append_right _ (List.mem_of_getElem? (l := tables_1_7) (i := 116) (by decide +kernel)))))))) rfl
theorem wq_1557 : Cond.selects RX11 yX11_tyres yX11_tyres ∈ qtbl := wq_r (List.mem_append_right _ (List.mem_append_right _ (List.mem_append_right _ (List.mem_append_right _ (List.mem_append_right _ (List.mem_append_right _ (List.mem_of_getElem? (l := tables_1_7) (i := 117) (by decide +kernel)))))))) rfl
theorem wq_1558 : Cond.code yX11_tyres cX11_tyres 5 (Option.some Jvm.ClassFile.FieldType.int) ∈ qtbl := wq_r (List.mem_append_right _ (List.mem_append_right _ (List.mem_append_right _ (List.mem_append_right _ (List.mem_append_right _ (List.mem_append_right _ (List.mem_of_getElem? (l := tables_1_7) (i := 118) (rfl)))))))) rfl
theorem wq_1559 : Cond.methodLink RX11 386 yX11_lasting ∈ qtbl := wq_r (List.mem_append_right _ (List.mem_append_right _ (List.mem_append_right _ (List.mem_append_right _ (List.mem_append_right _ (List.mem_append_right _ (List.mem_of_getElem? (l := tables_1_7) (i := 119) (by decide +kernel)))))))) rfl
theorem wq_1561 : Cond.instanceMethod yX11_lasting ∈ qtbl := wq_r (List.mem_append_right _ (List.mem_append_right _ (List.mem_append_right _ (List.mem_append_right _ (List.mem_append_right _ (List.mem_append_right _ (List.mem_of_getElem? (l := tables_1_7) (i := 121) (by decide +kernel)))))))) rfl
theorem wq_1562 : Cond.code yX11_lasting cX11_lasting 5 (Option.some Jvm.ClassFile.FieldType.int) ∈ qtbl := wq_r (List.mem_append_right _ (List.mem_append_right _ (List.mem_append_right _ (List.mem_append_right _ (List.mem_append_right _ (List.mem_append_right _ (List.mem_of_getElem? (l := tables_1_7) (i := 122) (rfl)))))))) rfl
theorem wq_1563 : Cond.methodLink RL 161 yX11_butts ∈ qtbl := wq_r (List.mem_append_right _ (List.mem_append_right _ (List.mem_append_right _ (List.mem_append_right _ (List.mem_append_right _ (List.mem_append_right _ (List.mem_of_getElem? (l := tables_1_7) (i := 123) (by decide +kernel)))))))) rfl
theorem wq_1564 : Cond.instanceMethod yX11_butts ∈ qtbl := wq_r (List.mem_append_right _ (List.mem_append_right _ (List.mem_append_right _ (List.mem_append_right _ (List.mem_append_right _ (List.mem_append_right _ (List.mem_of_getElem? (l := tables_1_7) (i := 124) (by decide +kernel)))))))) rfl
theorem wq_1565 : Cond.selects RX11 yX11_butts yX11_butts ∈ qtbl := wq_r (List.mem_append_right _ (List.mem_append_right _ (List.mem_append_right _ (List.mem_append_right _ (List.mem_append_right _ (List.mem_append_right _ (List.mem_of_getElem? (l := tables_1_7) (i := 125) (by decide +kernel)))))))) rfl
theorem wq_1566 : Cond.code yX11_butts cX11_butts 6 (Option.some Jvm.ClassFile.FieldType.int) ∈ qtbl := wq_r (List.mem_append_right _ (List.mem_append_right _ (List.mem_append_right _ (List.mem_append_right _ (List.mem_append_right _ (List.mem_append_right _ (List.mem_of_getElem? (l := tables_1_7) (i := 126) (rfl)))))))) rfl
theorem wq_1567 : Cond.methodLink RX11 392 yX11_stateOf ∈ qtbl := wq_r (List.mem_append_right _ (List.mem_append_right _ (List.mem_append_right _ (List.mem_append_right _ (List.mem_append_right _ (List.mem_append_right _ (List.mem_of_getElem? (l := tables_1_7) (i := 127) (by decide +kernel)))))))) rfl
theorem wq_1568 : Cond.static yX11_stateOf ∈ qtbl := wq_r (List.mem_append_right _ (List.mem_append_right _ (List.mem_append_right _ (List.mem_append_right _ (List.mem_append_right _ (List.mem_append_right _ (List.mem_of_getElem? (l := tables_1_7) (i := 128) (by decide +kernel)))))))) rfl
theorem wq_1569 : Cond.code yX11_stateOf cX11_stateOf 3 (Option.some Jvm.ClassFile.FieldType.int) ∈ qtbl := wq_r (List.mem_append_right _ (List.mem_append_right _ (List.mem_append_right _ (List.mem_append_right _ (List.mem_append_right _ (List.mem_append_right _ (List.mem_of_getElem? (l := tables_1_7) (i := 129) (rfl)))))))) rfl
theorem wq_1570 : Cond.methodLink RX11 396 yX11_reaches ∈ qtbl := wq_r (List.mem_append_right _ (List.mem_append_right _ (List.mem_append_right _ (List.mem_append_right _ (List.mem_append_right _ (List.mem_append_right _ (List.mem_of_getElem? (l := tables_1_7) (i := 130) (by decide +kernel)))))))) rfl
theorem wq_1572 : Cond.instanceMethod yX11_reaches ∈ qtbl := wq_r (List.mem_append_right _ (List.mem_append_right _ (List.mem_append_right _ (List.mem_append_right _ (List.mem_append_right _ (List.mem_append_right _ (List.mem_of_getElem? (l := tables_1_7) (i := 132) (by decide +kernel)))))))) rfl
theorem wq_1573 : Cond.code yX11_reaches cX11_reaches 3 (Option.none : Option Jvm.ClassFile.FieldType) ∈ qtbl := wq_r (List.mem_append_right _ (List.mem_append_right _ (List.mem_append_right _ (List.mem_append_right _ (List.mem_append_right _ (List.mem_append_right _ (List.mem_of_getElem? (l := tables_1_7) (i := 133) (rfl)))))))) rfl
theorem wq_1574 : Cond.methodLink RX11 399 yX11_pours ∈ qtbl := wq_r (List.mem_append_right _ (List.mem_append_right _ (List.mem_append_right _ (List.mem_append_right _ (List.mem_append_right _ (List.mem_append_right _ (List.mem_of_getElem? (l := tables_1_7) (i := 134) (by decide +kernel)))))))) rfl
theorem wq_1576 : Cond.instanceMethod yX11_pours ∈ qtbl := wq_r (List.mem_append_right _ (List.mem_append_right _ (List.mem_append_right _ (List.mem_append_right _ (List.mem_append_right _ (List.mem_append_right _ (List.mem_of_getElem? (l := tables_1_7) (i := 136) (by decide +kernel)))))))) rfl
theorem wq_1577 : Cond.code yX11_pours cX11_pours 5 (Option.none : Option Jvm.ClassFile.FieldType) ∈ qtbl := wq_r (List.mem_append_right _ (List.mem_append_right _ (List.mem_append_right _ (List.mem_append_right _ (List.mem_append_right _ (List.mem_append_right _ (List.mem_of_getElem? (l := tables_1_7) (i := 137) (rfl)))))))) rfl
theorem wq_1578 : Cond.methodLink RL 182 yX11_howOld ∈ qtbl := wq_r (List.mem_append_right _ (List.mem_append_right _ (List.mem_append_right _ (List.mem_append_right _ (List.mem_append_right _ (List.mem_append_right _ (List.mem_of_getElem? (l := tables_1_7) (i := 138) (by decide +kernel)))))))) rfl
theorem wq_1579 : Cond.instanceMethod yX11_howOld ∈ qtbl := wq_r (List.mem_append_right _ (List.mem_append_right _ (List.mem_append_right _ (List.mem_append_right _ (List.mem_append_right _ (List.mem_append_right _ (List.mem_of_getElem? (l := tables_1_7) (i := 139) (by decide +kernel)))))))) rfl
theorem wq_1580 : Cond.selects RX11 yX11_howOld yX11_howOld ∈ qtbl := wq_r (List.mem_append_right _ (List.mem_append_right _ (List.mem_append_right _ (List.mem_append_right _ (List.mem_append_right _ (List.mem_append_right _ (List.mem_of_getElem? (l := tables_1_7) (i := 140) (by decide +kernel)))))))) rfl
theorem wq_1581 : Cond.code yX11_howOld cX11_howOld 8 (Option.some Jvm.ClassFile.FieldType.long) ∈ qtbl := wq_r (List.mem_append_right _ (List.mem_append_right _ (List.mem_append_right _ (List.mem_append_right _ (List.mem_append_right _ (List.mem_append_right _ (List.mem_of_getElem? (l := tables_1_7) (i := 141) (rfl)))))))) rfl
theorem wq_1582 : Cond.constantLong RX11 403 (-1 : Int64) ∈ qtbl := wq_r (List.mem_append_right _ (List.mem_append_right _ (List.mem_append_right _ (List.mem_append_right _ (List.mem_append_right _ (List.mem_append_right _ (List.mem_of_getElem? (l := tables_1_7) (i := 142) (by decide +kernel)))))))) rfl
theorem wq_1583 : Cond.methodLink RL 165 yX11_plain ∈ qtbl := wq_r (List.mem_append_right _ (List.mem_append_right _ (List.mem_append_right _ (List.mem_append_right _ (List.mem_append_right _ (List.mem_append_right _ (List.mem_of_getElem? (l := tables_1_7) (i := 143) (by decide +kernel)))))))) rfl
theorem wq_1584 : Cond.instanceMethod yX11_plain ∈ qtbl := wq_r (List.mem_append_right _ (List.mem_append_right _ (List.mem_append_right _ (List.mem_append_right _ (List.mem_append_right _ (List.mem_append_right _ (List.mem_of_getElem? (l := tables_1_7) (i := 144) (by decide +kernel)))))))) rfl
theorem wq_1585 : Cond.selects RX11 yX11_plain yX11_plain ∈ qtbl := wq_r (List.mem_append_right _ (List.mem_append_right _ (List.mem_append_right _ (List.mem_append_right _ (List.mem_append_right _ (List.mem_append_right _ (List.mem_of_getElem? (l := tables_1_7) (i := 145) (by decide +kernel)))))))) rfl
theorem wq_1586 : Cond.code yX11_plain cX11_plain 3 (Option.some Jvm.ClassFile.FieldType.int) ∈ qtbl := wq_r (List.mem_append_right _ (List.mem_append_right _ (List.mem_append_right _ (List.mem_append_right _ (List.mem_append_right _ (List.mem_append_right _ (List.mem_of_getElem? (l := tables_1_7) (i := 146) (rfl)))))))) rfl
theorem wq_1587 : Cond.methodLink RL 169 yX11_remarkIs ∈ qtbl := wq_r (List.mem_append_right _ (List.mem_append_right _ (List.mem_append_right _ (List.mem_append_right _ (List.mem_append_right _ (List.mem_append_right _ (List.mem_of_getElem? (l := tables_1_7) (i := 147) (by decide +kernel)))))))) rfl
theorem wq_1588 : Cond.instanceMethod yX11_remarkIs ∈ qtbl := wq_r (List.mem_append_right _ (List.mem_append_right _ (List.mem_append_right _ (List.mem_append_right _ (List.mem_append_right _ (List.mem_append_right _ (List.mem_of_getElem? (l := tables_1_7) (i := 148) (by decide +kernel)))))))) rfl
theorem wq_1589 : Cond.selects RX11 yX11_remarkIs yX11_remarkIs ∈ qtbl := wq_r (List.mem_append_right _ (List.mem_append_right _ (List.mem_append_right _ (List.mem_append_right _ (List.mem_append_right _ (List.mem_append_right _ (List.mem_of_getElem? (l := tables_1_7) (i := 149) (by decide +kernel)))))))) rfl
theorem wq_1590 : Cond.code yX11_remarkIs cX11_remarkIs 3 (Option.some Jvm.ClassFile.FieldType.int) ∈ qtbl := wq_r (List.mem_append_right _ (List.mem_append_right _ (List.mem_append_right _ (List.mem_append_right _ (List.mem_append_right _ (List.mem_append_right _ (List.mem_of_getElem? (l := tables_1_7) (i := 150) (rfl)))))))) rfl
theorem wq_1591 : Cond.methodLink RL 186 yX11_keep ∈ qtbl := wq_r (List.mem_append_right _ (List.mem_append_right _ (List.mem_append_right _ (List.mem_append_right _ (List.mem_append_right _ (List.mem_append_right _ (List.mem_of_getElem? (l := tables_1_7) (i := 151) (by decide +kernel)))))))) rfl
theorem wq_1592 : Cond.instanceMethod yX11_keep ∈ qtbl := wq_r (List.mem_append_right _ (List.mem_append_right _ (List.mem_append_right _ (List.mem_append_right _ (List.mem_append_right _ (List.mem_append_right _ (List.mem_of_getElem? (l := tables_1_7) (i := 152) (by decide +kernel)))))))) rfl
theorem wq_1593 : Cond.selects RX11 yX11_keep yX11_keep ∈ qtbl := wq_r (List.mem_append_right _ (List.mem_append_right _ (List.mem_append_right _ (List.mem_append_right _ (List.mem_append_right _ (List.mem_append_right _ (List.mem_of_getElem? (l := tables_1_7) (i := 153) (by decide +kernel)))))))) rfl
theorem wq_1594 : Cond.code yX11_keep cX11_keep 1 (Option.some Jvm.ClassFile.FieldType.int) ∈ qtbl := wq_r (List.mem_append_right _ (List.mem_append_right _ (List.mem_append_right _ (List.mem_append_right _ (List.mem_append_right _ (List.mem_append_right _ (List.mem_of_getElem? (l := tables_1_7) (i := 154) (rfl)))))))) rfl
theorem wq_1595 : Cond.methodLink RX11 419 yX11_moves ∈ qtbl := wq_r (List.mem_append_right _ (List.mem_append_right _ (List.mem_append_right _ (List.mem_append_right _ (List.mem_append_right _ (List.mem_append_right _ (List.mem_of_getElem? (l := tables_1_7) (i := 155) (by decide +kernel)))))))) rfl
theorem wq_1597 : Cond.instanceMethod yX11_moves ∈ qtbl := wq_r (List.mem_append_right _ (List.mem_append_right _ (List.mem_append_right _ (List.mem_append_right _ (List.mem_append_right _ (List.mem_append_right _ (List.mem_of_getElem? (l := tables_1_7) (i := 157) (by decide +kernel)))))))) rfl
theorem wq_1598 : Cond.code yX11_moves cX11_moves 2 (Option.none : Option Jvm.ClassFile.FieldType) ∈ qtbl := wq_r (List.mem_append_right _ (List.mem_append_right _ (List.mem_append_right _ (List.mem_append_right _ (List.mem_append_right _ (List.mem_append_right _ (List.mem_of_getElem? (l := tables_1_7) (i := 158) (rfl)))))))) rfl
theorem wq_1599 : Cond.methodLink RX11 408 yX11_moved ∈ qtbl := wq_r (List.mem_append_right _ (List.mem_append_right _ (List.mem_append_right _ (List.mem_append_right _ (List.mem_append_right _ (List.mem_append_right _ (List.mem_of_getElem? (l := tables_1_7) (i := 159) (by decide +kernel)))))))) rfl
theorem wq_1601 : Cond.instanceMethod yX11_moved ∈ qtbl := wq_r (List.mem_append_right _ (List.mem_append_right _ (List.mem_append_right _ (List.mem_append_right _ (List.mem_append_right _ (List.mem_append_right _ (List.mem_of_getElem? (l := tables_1_7) (i := 161) (by decide +kernel)))))))) rfl
theorem wq_1602 : Cond.code yX11_moved cX11_moved 4 (Option.some Jvm.ClassFile.FieldType.int) ∈ qtbl := wq_r (List.mem_append_right _ (List.mem_append_right _ (List.mem_append_right _ (List.mem_append_right _ (List.mem_append_right _ (List.mem_append_right _ (List.mem_of_getElem? (l := tables_1_7) (i := 162) (rfl)))))))) rfl
theorem wq_1603 : Cond.methodLink RX11 412 yX11_movesAll ∈ qtbl := wq_r (List.mem_append_right _ (List.mem_append_right _ (List.mem_append_right _ (List.mem_append_right _ (List.mem_append_right _ (List.mem_append_right _ (List.mem_of_getElem? (l := tables_1_7) (i := 163) (by decide +kernel)))))))) rfl
theorem wq_1605 : Cond.instanceMethod yX11_movesAll ∈ qtbl := wq_r (List.mem_append_right _ (List.mem_append_right _ (List.mem_append_right _ (List.mem_append_right _ (List.mem_append_right _ (List.mem_append_right _ (List.mem_of_getElem? (l := tables_1_7) (i := 165) (by decide +kernel)))))))) rfl
theorem wq_1606 : Cond.code yX11_movesAll cX11_movesAll 4 (Option.none : Option Jvm.ClassFile.FieldType) ∈ qtbl := wq_r (List.mem_append_right _ (List.mem_append_right _ (List.mem_append_right _ (List.mem_append_right _ (List.mem_append_right _ (List.mem_append_right _ (List.mem_of_getElem? (l := tables_1_7) (i := 166) (rfl)))))))) rfl
theorem wq_1607 : Cond.methodLink RL 191 yX11_undo ∈ qtbl := wq_r (List.mem_append_right _ (List.mem_append_right _ (List.mem_append_right _ (List.mem_append_right _ (List.mem_append_right _ (List.mem_append_right _ (List.mem_of_getElem? (l := tables_1_7) (i := 167) (by decide +kernel)))))))) rfl
theorem wq_1608 : Cond.instanceMethod yX11_undo ∈ qtbl := wq_r (List.mem_append_right _ (List.mem_append_right _ (List.mem_append_right _ (List.mem_append_right _ (List.mem_append_right _ (List.mem_append_right _ (List.mem_of_getElem? (l := tables_1_7) (i := 168) (by decide +kernel)))))))) rfl
theorem wq_1609 : Cond.selects RX11 yX11_undo yX11_undo ∈ qtbl := wq_r (List.mem_append_right _ (List.mem_append_right _ (List.mem_append_right _ (List.mem_append_right _ (List.mem_append_right _ (List.mem_append_right _ (List.mem_of_getElem? (l := tables_1_7) (i := 169) (by decide +kernel)))))))) rfl
theorem wq_1610 : Cond.code yX11_undo cX11_undo 1 (Option.some Jvm.ClassFile.FieldType.boolean) ∈ qtbl := wq_r (List.mem_append_right _ (List.mem_append_right _ (List.mem_append_right _ (List.mem_append_right _ (List.mem_append_right _ (List.mem_append_right _ (List.mem_of_getElem? (l := tables_1_7) (i := 170) (rfl)))))))) rfl
theorem wq_1611 : Cond.methodLink RL 195 yX11_check ∈ qtbl := wq_r (List.mem_append_right _ (List.mem_append_right _ (List.mem_append_right _ (List.mem_append_right _ (List.mem_append_right _ (List.mem_append_right _ (List.mem_of_getElem? (l := tables_1_7) (i := 171) (by decide +kernel)))))))) rfl
theorem wq_1612 : Cond.instanceMethod yX11_check ∈ qtbl := wq_r (List.mem_append_right _ (List.mem_append_right _ (List.mem_append_right _ (List.mem_append_right _ (List.mem_append_right _ (List.mem_append_right _ (List.mem_of_getElem? (l := tables_1_7) (i := 172) (by decide +kernel)))))))) rfl
theorem wq_1613 : Cond.selects RX11 yX11_check yX11_check ∈ qtbl := wq_r (List.mem_append_right _ (List.mem_append_right _ (List.mem_append_right _ (List.mem_append_right _ (List.mem_append_right _ (List.mem_append_right _ (List.mem_of_getElem? (l := tables_1_7) (i := 173) (by decide +kernel)))))))) rfl
theorem wq_1614 : Cond.code yX11_check cX11_check 3 (Option.some Jvm.ClassFile.FieldType.int) ∈ qtbl := wq_r (List.mem_append_right _ (List.mem_append_right _ (List.mem_append_right _ (List.mem_append_right _ (List.mem_append_right _ (List.mem_append_right _ (List.mem_of_getElem? (l := tables_1_7) (i := 174) (rfl)))))))) rfl
theorem wq_1615 : Cond.methodLink RL 199 yX11_count ∈ qtbl := wq_r (List.mem_append_right _ (List.mem_append_right _ (List.mem_append_right _ (List.mem_append_right _ (List.mem_append_right _ (List.mem_append_right _ (List.mem_of_getElem? (l := tables_1_7) (i := 175) (by decide +kernel)))))))) rfl
theorem wq_1616 : Cond.instanceMethod yX11_count ∈ qtbl := wq_r (List.mem_append_right _ (List.mem_append_right _ (List.mem_append_right _ (List.mem_append_right _ (List.mem_append_right _ (List.mem_append_right _ (List.mem_of_getElem? (l := tables_1_7) (i := 176) (by decide +kernel)))))))) rfl
theorem wq_1617 : Cond.selects RX11 yX11_count yX11_count ∈ qtbl := wq_r (List.mem_append_right _ (List.mem_append_right _ (List.mem_append_right _ (List.mem_append_right _ (List.mem_append_right _ (List.mem_append_right _ (List.mem_of_getElem? (l := tables_1_7) (i := 177) (by decide +kernel)))))))) rfl
theorem wq_1618 : Cond.code yX11_count cX11_count 2 (Option.some Jvm.ClassFile.FieldType.int) ∈ qtbl := wq_r (List.mem_append_right _ (List.mem_append_right _ (List.mem_append_right _ (List.mem_append_right _ (List.mem_append_right _ (List.mem_append_right _ (List.mem_of_getElem? (l := tables_1_7) (i := 178) (rfl)))))))) rfl
theorem wS_yX10_putBytes : Cond.selects yX10_putBytes.cls yX10_putBytes yX10_putBytes ∈ qtbl := wq_l (w := (yX10_putBytes, 15)) (List.mem_append_left _ (List.mem_of_getElem? (l := lw_privs_1) (i := 0) (by decide +kernel)))
theorem wS_yX10_isText : Cond.selects yX10_isText.cls yX10_isText yX10_isText ∈ qtbl := wq_l (w := (yX10_isText, 15)) (List.mem_append_left _ (List.mem_of_getElem? (l := lw_privs_1) (i := 1) (by decide +kernel)))
theorem wS_yX10_tell : Cond.selects yX10_tell.cls yX10_tell yX10_tell ∈ qtbl := wq_l (w := (yX10_tell, 15)) (List.mem_append_left _ (List.mem_of_getElem? (l := lw_privs_1) (i := 2) (by decide +kernel)))
theorem wS_yX6_readSide : Cond.selects yX6_readSide.cls yX6_readSide yX6_readSide ∈ qtbl := wq_l (w := (yX6_readSide, 15)) (List.mem_append_left _ (List.mem_of_getElem? (l := lw_privs_1) (i := 3) (by decide +kernel)))
theorem wS_yX6_fail : Cond.selects yX6_fail.cls yX6_fail yX6_fail ∈ qtbl := wq_l (w := (yX6_fail, 15)) (List.mem_append_left _ (List.mem_of_getElem? (l := lw_privs_1) (i := 4) (by decide +kernel)))
theorem wS_yX6_readTerm : Cond.selects yX6_readTerm.cls yX6_readTerm yX6_readTerm ∈ qtbl := wq_l (w := (yX6_readTerm, 15)) (List.mem_append_left _ (List.mem_of_getElem? (l := lw_privs_1) (i := 5) (by decide +kernel)))
theorem wS_yX6_readFactor : Cond.selects yX6_readFactor.cls yX6_readFactor yX6_readFactor ∈ qtbl := wq_l (w := (yX6_readFactor, 15)) (List.mem_append_left _ (List.mem_of_getElem? (l := lw_privs_1) (i := 6) (by decide +kernel)))
theorem wS_yX6_peek : Cond.selects yX6_peek.cls yX6_peek yX6_peek ∈ qtbl := wq_l (w := (yX6_peek, 15)) (List.mem_append_left _ (List.mem_of_getElem? (l := lw_privs_1) (i := 7) (by decide +kernel)))
theorem wS_yX6_readPerson : Cond.selects yX6_readPerson.cls yX6_readPerson yX6_readPerson ∈ qtbl := wq_l (w := (yX6_readPerson, 15)) (List.mem_append_left _ (List.mem_of_getElem? (l := lw_privs_1) (i := 8) (by decide +kernel)))
theorem wS_yX6_readLetter : Cond.selects yX6_readLetter.cls yX6_readLetter yX6_readLetter ∈ qtbl := wq_l (w := (yX6_readLetter, 15)) (List.mem_append_left _ (List.mem_of_getElem? (l := lw_privs_1) (i := 9) (by decide +kernel)))
theorem wS_yX6_open : Cond.selects yX6_open.cls yX6_open yX6_open ∈ qtbl := wq_l (w := (yX6_open, 15)) (List.mem_append_left _ (List.mem_of_getElem? (l := lw_privs_1) (i := 10) (by decide +kernel)))
theorem wS_yX6_pass : Cond.selects yX6_pass.cls yX6_pass yX6_pass ∈ qtbl := wq_l (w := (yX6_pass, 15)) (List.mem_append_left _ (List.mem_of_getElem? (l := lw_privs_1) (i := 11) (by decide +kernel)))
theorem wS_yX6_readNumber : Cond.selects yX6_readNumber.cls yX6_readNumber yX6_readNumber ∈ qtbl := wq_l (w := (yX6_readNumber, 15)) (List.mem_append_left _ (List.mem_of_getElem? (l := lw_privs_1) (i := 12) (by decide +kernel)))
theorem wS_yX6_readSecondHalf : Cond.selects yX6_readSecondHalf.cls yX6_readSecondHalf yX6_readSecondHalf ∈ qtbl := wq_l (w := (yX6_readSecondHalf, 15)) (List.mem_append_left _ (List.mem_of_getElem? (l := lw_privs_1) (i := 13) (by decide +kernel)))
theorem wS_yX6_readDivisor : Cond.selects yX6_readDivisor.cls yX6_readDivisor yX6_readDivisor ∈ qtbl := wq_l (w := (yX6_readDivisor, 15)) (List.mem_append_left _ (List.mem_of_getElem? (l := lw_privs_1) (i := 14) (by decide +kernel)))
theorem wS_yX10_countOfPerson : Cond.selects yX10_countOfPerson.cls yX10_countOfPerson yX10_countOfPerson ∈ qtbl := wq_l (w := (yX10_countOfPerson, 15)) (List.mem_append_left _ (List.mem_of_getElem? (l := lw_privs_1) (i := 15) (by decide +kernel)))
theorem wS_yX10_areRemarks : Cond.selects yX10_areRemarks.cls yX10_areRemarks yX10_areRemarks ∈ qtbl := wq_l (w := (yX10_areRemarks, 15)) (List.mem_append_right _ (List.mem_append_left _ (List.mem_of_getElem? (l := lw_privs_2) (i := 0) (by decide +kernel))))
theorem wS_yX7_step : Cond.selects yX7_step.cls yX7_step yX7_step ∈ qtbl := wq_l (w := (yX7_step, 7)) (List.mem_append_right _ (List.mem_append_left _ (List.mem_of_getElem? (l := lw_privs_2) (i := 1) (by decide +kernel))))
theorem wS_yX7_grow : Cond.selects yX7_grow.cls yX7_grow yX7_grow ∈ qtbl := wq_l (w := (yX7_grow, 7)) (List.mem_append_right _ (List.mem_append_left _ (List.mem_of_getElem? (l := lw_privs_2) (i := 2) (by decide +kernel))))
theorem wS_yX7_allHold : Cond.selects yX7_allHold.cls yX7_allHold yX7_allHold ∈ qtbl := wq_l (w := (yX7_allHold, 7)) (List.mem_append_right _ (List.mem_append_left _ (List.mem_of_getElem? (l := lw_privs_2) (i := 3) (by decide +kernel))))
theorem wS_yX3_countAll : Cond.selects yX3_countAll.cls yX3_countAll yX3_countAll ∈ qtbl := wq_l (w := (yX3_countAll, 2)) (List.mem_append_right _ (List.mem_append_left _ (List.mem_of_getElem? (l := lw_privs_2) (i := 4) (by decide +kernel))))
theorem wS_yX10_countAges : Cond.selects yX10_countAges.cls yX10_countAges yX10_countAges ∈ qtbl := wq_l (w := (yX10_countAges, 15)) (List.mem_append_right _ (List.mem_append_left _ (List.mem_of_getElem? (l := lw_privs_2) (i := 5) (by decide +kernel))))
theorem wS_yX10_unlikeAges : Cond.selects yX10_unlikeAges.cls yX10_unlikeAges yX10_unlikeAges ∈ qtbl := wq_l (w := (yX10_unlikeAges, 15)) (List.mem_append_right _ (List.mem_append_left _ (List.mem_of_getElem? (l := lw_privs_2) (i := 6) (by decide +kernel))))
theorem wS_yX10_ageAt : Cond.selects yX10_ageAt.cls yX10_ageAt yX10_ageAt ∈ qtbl := wq_l (w := (yX10_ageAt, 15)) (List.mem_append_right _ (List.mem_append_left _ (List.mem_of_getElem? (l := lw_privs_2) (i := 7) (by decide +kernel))))
theorem wS_yX10_isOther : Cond.selects yX10_isOther.cls yX10_isOther yX10_isOther ∈ qtbl := wq_l (w := (yX10_isOther, 15)) (List.mem_append_right _ (List.mem_append_left _ (List.mem_of_getElem? (l := lw_privs_2) (i := 8) (by decide +kernel))))
theorem wS_yX2_sortHeard : Cond.selects yX2_sortHeard.cls yX2_sortHeard yX2_sortHeard ∈ qtbl := wq_l (w := (yX2_sortHeard, 7)) (List.mem_append_right _ (List.mem_append_left _ (List.mem_of_getElem? (l := lw_privs_2) (i := 9) (by decide +kernel))))
theorem wS_yX2_toldAt : Cond.selects yX2_toldAt.cls yX2_toldAt yX2_toldAt ∈ qtbl := wq_l (w := (yX2_toldAt, 7)) (List.mem_append_right _ (List.mem_append_left _ (List.mem_of_getElem? (l := lw_privs_2) (i := 10) (by decide +kernel))))
theorem wS_yX2_rowAt : Cond.selects yX2_rowAt.cls yX2_rowAt yX2_rowAt ∈ qtbl := wq_l (w := (yX2_rowAt, 7)) (List.mem_append_right _ (List.mem_append_left _ (List.mem_of_getElem? (l := lw_privs_2) (i := 11) (by decide +kernel))))
theorem wS_yX10_faultOfSayings : Cond.selects yX10_faultOfSayings.cls yX10_faultOfSayings yX10_faultOfSayings ∈ qtbl := wq_l (w := (yX10_faultOfSayings, 15)) (List.mem_append_right _ (List.mem_append_left _ (List.mem_of_getElem? (l := lw_privs_2) (i := 12) (by decide +kernel))))
theorem wS_yX10_nearestTrue : Cond.selects yX10_nearestTrue.cls yX10_nearestTrue yX10_nearestTrue ∈ qtbl := wq_l (w := (yX10_nearestTrue, 15)) (List.mem_append_right _ (List.mem_append_left _ (List.mem_of_getElem? (l := lw_privs_2) (i := 13) (by decide +kernel))))
theorem wS_yX10_yearsTrue : Cond.selects yX10_yearsTrue.cls yX10_yearsTrue yX10_yearsTrue ∈ qtbl := wq_l (w := (yX10_yearsTrue, 15)) (List.mem_append_right _ (List.mem_append_left _ (List.mem_of_getElem? (l := lw_privs_2) (i := 14) (by decide +kernel))))
theorem wS_yX10_squaresIn : Cond.selects yX10_squaresIn.cls yX10_squaresIn yX10_squaresIn ∈ qtbl := wq_l (w := (yX10_squaresIn, 15)) (List.mem_append_right _ (List.mem_append_left _ (List.mem_of_getElem? (l := lw_privs_2) (i := 15) (by decide +kernel))))
theorem wS_yX8_offer : Cond.selects yX8_offer.cls yX8_offer yX8_offer ∈ qtbl := wq_l (w := (yX8_offer, 6)) (List.mem_append_right _ (List.mem_append_right _ (List.mem_append_left _ (List.mem_of_getElem? (l := lw_privs_3) (i := 0) (by decide +kernel)))))
theorem wS_yX8_offerPairs : Cond.selects yX8_offerPairs.cls yX8_offerPairs yX8_offerPairs ∈ qtbl := wq_l (w := (yX8_offerPairs, 6)) (List.mem_append_right _ (List.mem_append_right _ (List.mem_append_left _ (List.mem_of_getElem? (l := lw_privs_3) (i := 1) (by decide +kernel)))))
theorem wS_yX10_hasAgeAbove : Cond.selects yX10_hasAgeAbove.cls yX10_hasAgeAbove yX10_hasAgeAbove ∈ qtbl := wq_l (w := (yX10_hasAgeAbove, 15)) (List.mem_append_right _ (List.mem_append_right _ (List.mem_append_left _ (List.mem_of_getElem? (l := lw_privs_3) (i := 2) (by decide +kernel)))))
theorem wS_yX10_standAlone : Cond.selects yX10_standAlone.cls yX10_standAlone yX10_standAlone ∈ qtbl := wq_l (w := (yX10_standAlone, 15)) (List.mem_append_right _ (List.mem_append_right _ (List.mem_append_left _ (List.mem_of_getElem? (l := lw_privs_3) (i := 3) (by decide +kernel)))))
theorem wS_yX4_give : Cond.selects yX4_give.cls yX4_give yX4_give ∈ qtbl := wq_l (w := (yX4_give, 4)) (List.mem_append_right _ (List.mem_append_right _ (List.mem_append_left _ (List.mem_of_getElem? (l := lw_privs_3) (i := 4) (by decide +kernel)))))
theorem wS_yX4_allHold : Cond.selects yX4_allHold.cls yX4_allHold yX4_allHold ∈ qtbl := wq_l (w := (yX4_allHold, 4)) (List.mem_append_right _ (List.mem_append_right _ (List.mem_append_left _ (List.mem_of_getElem? (l := lw_privs_3) (i := 5) (by decide +kernel)))))
theorem wS_yX4_noteWay : Cond.selects yX4_noteWay.cls yX4_noteWay yX4_noteWay ∈ qtbl := wq_l (w := (yX4_noteWay, 4)) (List.mem_append_right _ (List.mem_append_right _ (List.mem_append_left _ (List.mem_of_getElem? (l := lw_privs_3) (i := 6) (by decide +kernel)))))
theorem wS_yX4_nextOrder : Cond.selects yX4_nextOrder.cls yX4_nextOrder yX4_nextOrder ∈ qtbl := wq_l (w := (yX4_nextOrder, 4)) (List.mem_append_right _ (List.mem_append_right _ (List.mem_append_left _ (List.mem_of_getElem? (l := lw_privs_3) (i := 7) (by decide +kernel)))))
theorem wS_yX4_swap : Cond.selects yX4_swap.cls yX4_swap yX4_swap ∈ qtbl := wq_l (w := (yX4_swap, 4)) (List.mem_append_right _ (List.mem_append_right _ (List.mem_append_left _ (List.mem_of_getElem? (l := lw_privs_3) (i := 8) (by decide +kernel)))))
theorem wS_yX1_tighten : Cond.selects yX1_tighten.cls yX1_tighten yX1_tighten ∈ qtbl := wq_l (w := (yX1_tighten, 2)) (List.mem_append_right _ (List.mem_append_right _ (List.mem_append_left _ (List.mem_of_getElem? (l := lw_privs_3) (i := 9) (by decide +kernel)))))
theorem wS_yX10_milesInAll : Cond.selects yX10_milesInAll.cls yX10_milesInAll yX10_milesInAll ∈ qtbl := wq_l (w := (yX10_milesInAll, 15)) (List.mem_append_right _ (List.mem_append_right _ (List.mem_append_left _ (List.mem_of_getElem? (l := lw_privs_3) (i := 10) (by decide +kernel)))))
theorem wS_yX0_reach : Cond.selects yX0_reach.cls yX0_reach yX0_reach ∈ qtbl := wq_l (w := (yX0_reach, 7)) (List.mem_append_right _ (List.mem_append_right _ (List.mem_append_left _ (List.mem_of_getElem? (l := lw_privs_3) (i := 11) (by decide +kernel)))))
theorem wS_yX0_setNow : Cond.selects yX0_setNow.cls yX0_setNow yX0_setNow ∈ qtbl := wq_l (w := (yX0_setNow, 7)) (List.mem_append_right _ (List.mem_append_right _ (List.mem_append_left _ (List.mem_of_getElem? (l := lw_privs_3) (i := 12) (by decide +kernel)))))
theorem wS_yX0_pourOne : Cond.selects yX0_pourOne.cls yX0_pourOne yX0_pourOne ∈ qtbl := wq_l (w := (yX0_pourOne, 7)) (List.mem_append_right _ (List.mem_append_right _ (List.mem_append_left _ (List.mem_of_getElem? (l := lw_privs_3) (i := 13) (by decide +kernel)))))
theorem wS_yX11_isPerson : Cond.selects yX11_isPerson.cls yX11_isPerson yX11_isPerson ∈ qtbl := wq_l (w := (yX11_isPerson, 63)) (List.mem_append_right _ (List.mem_append_right _ (List.mem_append_left _ (List.mem_of_getElem? (l := lw_privs_3) (i := 14) (by decide +kernel)))))
theorem wS_yX11_types : Cond.selects yX11_types.cls yX11_types yX11_types ∈ qtbl := wq_l (w := (yX11_types, 63)) (List.mem_append_right _ (List.mem_append_right _ (List.mem_append_left _ (List.mem_of_getElem? (l := lw_privs_3) (i := 15) (by decide +kernel)))))
theorem wS_yX11_textOf : Cond.selects yX11_textOf.cls yX11_textOf yX11_textOf ∈ qtbl := wq_l (w := (yX11_textOf, 63)) (List.mem_append_right _ (List.mem_append_right _ (List.mem_append_right _ (List.mem_append_left _ (List.mem_of_getElem? (l := lw_privs_4) (i := 0) (by decide +kernel))))))
theorem wS_yX11_readsText : Cond.selects yX11_readsText.cls yX11_readsText yX11_readsText ∈ qtbl := wq_l (w := (yX11_readsText, 63)) (List.mem_append_right _ (List.mem_append_right _ (List.mem_append_right _ (List.mem_append_left _ (List.mem_of_getElem? (l := lw_privs_4) (i := 1) (by decide +kernel))))))
theorem wS_yX11_readsSide : Cond.selects yX11_readsSide.cls yX11_readsSide yX11_readsSide ∈ qtbl := wq_l (w := (yX11_readsSide, 63)) (List.mem_append_right _ (List.mem_append_right _ (List.mem_append_right _ (List.mem_append_left _ (List.mem_of_getElem? (l := lw_privs_4) (i := 2) (by decide +kernel))))))
theorem wS_yX11_opensFrame : Cond.selects yX11_opensFrame.cls yX11_opensFrame yX11_opensFrame ∈ qtbl := wq_l (w := (yX11_opensFrame, 63)) (List.mem_append_right _ (List.mem_append_right _ (List.mem_append_right _ (List.mem_append_left _ (List.mem_of_getElem? (l := lw_privs_4) (i := 3) (by decide +kernel))))))
theorem wS_yX11_here : Cond.selects yX11_here.cls yX11_here yX11_here ∈ qtbl := wq_l (w := (yX11_here, 63)) (List.mem_append_right _ (List.mem_append_right _ (List.mem_append_right _ (List.mem_append_left _ (List.mem_of_getElem? (l := lw_privs_4) (i := 4) (by decide +kernel))))))
theorem wS_yX11_octet : Cond.selects yX11_octet.cls yX11_octet yX11_octet ∈ qtbl := wq_l (w := (yX11_octet, 63)) (List.mem_append_right _ (List.mem_append_right _ (List.mem_append_right _ (List.mem_append_left _ (List.mem_of_getElem? (l := lw_privs_4) (i := 5) (by decide +kernel))))))
theorem wS_yX11_readsPart : Cond.selects yX11_readsPart.cls yX11_readsPart yX11_readsPart ∈ qtbl := wq_l (w := (yX11_readsPart, 63)) (List.mem_append_right _ (List.mem_append_right _ (List.mem_append_right _ (List.mem_append_left _ (List.mem_of_getElem? (l := lw_privs_4) (i := 6) (by decide +kernel))))))
theorem wS_yX11_opensAnother : Cond.selects yX11_opensAnother.cls yX11_opensAnother yX11_opensAnother ∈ qtbl := wq_l (w := (yX11_opensAnother, 63)) (List.mem_append_right _ (List.mem_append_right _ (List.mem_append_right _ (List.mem_append_left _ (List.mem_of_getElem? (l := lw_privs_4) (i := 7) (by decide +kernel))))))
theorem wS_yX11_wrongAt : Cond.selects yX11_wrongAt.cls yX11_wrongAt yX11_wrongAt ∈ qtbl := wq_l (w := (yX11_wrongAt, 63)) (List.mem_append_right _ (List.mem_append_right _ (List.mem_append_right _ (List.mem_append_left _ (List.mem_of_getElem? (l := lw_privs_4) (i := 8) (by decide +kernel))))))
theorem wS_yX11_readsPerson : Cond.selects yX11_readsPerson.cls yX11_readsPerson yX11_readsPerson ∈ qtbl := wq_l (w := (yX11_readsPerson, 63)) (List.mem_append_right _ (List.mem_append_right _ (List.mem_append_right _ (List.mem_append_left _ (List.mem_of_getElem? (l := lw_privs_4) (i := 9) (by decide +kernel))))))
theorem wS_yX11_takes : Cond.selects yX11_takes.cls yX11_takes yX11_takes ∈ qtbl := wq_l (w := (yX11_takes, 63)) (List.mem_append_right _ (List.mem_append_right _ (List.mem_append_right _ (List.mem_append_left _ (List.mem_of_getElem? (l := lw_privs_4) (i := 10) (by decide +kernel))))))
theorem wS_yX11_clearsPart : Cond.selects yX11_clearsPart.cls yX11_clearsPart yX11_clearsPart ∈ qtbl := wq_l (w := (yX11_clearsPart, 63)) (List.mem_append_right _ (List.mem_append_right _ (List.mem_append_right _ (List.mem_append_left _ (List.mem_of_getElem? (l := lw_privs_4) (i := 11) (by decide +kernel))))))
theorem wS_yX11_readsNumber : Cond.selects yX11_readsNumber.cls yX11_readsNumber yX11_readsNumber ∈ qtbl := wq_l (w := (yX11_readsNumber, 63)) (List.mem_append_right _ (List.mem_append_right _ (List.mem_append_right _ (List.mem_append_left _ (List.mem_of_getElem? (l := lw_privs_4) (i := 12) (by decide +kernel))))))
theorem wS_yX11_endsPart : Cond.selects yX11_endsPart.cls yX11_endsPart yX11_endsPart ∈ qtbl := wq_l (w := (yX11_endsPart, 63)) (List.mem_append_right _ (List.mem_append_right _ (List.mem_append_right _ (List.mem_append_left _ (List.mem_of_getElem? (l := lw_privs_4) (i := 13) (by decide +kernel))))))
theorem wS_yX11_endsTerm : Cond.selects yX11_endsTerm.cls yX11_endsTerm yX11_endsTerm ∈ qtbl := wq_l (w := (yX11_endsTerm, 63)) (List.mem_append_right _ (List.mem_append_right _ (List.mem_append_right _ (List.mem_append_left _ (List.mem_of_getElem? (l := lw_privs_4) (i := 14) (by decide +kernel))))))
theorem wS_yX11_endsFrame : Cond.selects yX11_endsFrame.cls yX11_endsFrame yX11_endsFrame ∈ qtbl := wq_l (w := (yX11_endsFrame, 63)) (List.mem_append_right _ (List.mem_append_right _ (List.mem_append_right _ (List.mem_append_left _ (List.mem_of_getElem? (l := lw_privs_4) (i := 15) (by decide +kernel))))))
theorem wS_yX11_readsRight : Cond.selects yX11_readsRight.cls yX11_readsRight yX11_readsRight ∈ qtbl := wq_l (w := (yX11_readsRight, 63)) (List.mem_append_right _ (List.mem_append_right _ (List.mem_append_right _ (List.mem_append_right _ (List.mem_append_left _ (List.mem_of_getElem? (l := lw_privs_5) (i := 0) (by decide +kernel)))))))
theorem wS_yX11_whoStands : Cond.selects yX11_whoStands.cls yX11_whoStands yX11_whoStands ∈ qtbl := wq_l (w := (yX11_whoStands, 63)) (List.mem_append_right _ (List.mem_append_right _ (List.mem_append_right _ (List.mem_append_right _ (List.mem_append_left _ (List.mem_of_getElem? (l := lw_privs_5) (i := 1) (by decide +kernel)))))))
theorem wS_yX11_sinceOf : Cond.selects yX11_sinceOf.cls yX11_sinceOf yX11_sinceOf ∈ qtbl := wq_l (w := (yX11_sinceOf, 63)) (List.mem_append_right _ (List.mem_append_right _ (List.mem_append_right _ (List.mem_append_right _ (List.mem_append_left _ (List.mem_of_getElem? (l := lw_privs_5) (i := 2) (by decide +kernel)))))))
theorem wS_yX11_isRemark : Cond.selects yX11_isRemark.cls yX11_isRemark yX11_isRemark ∈ qtbl := wq_l (w := (yX11_isRemark, 63)) (List.mem_append_right _ (List.mem_append_right _ (List.mem_append_right _ (List.mem_append_right _ (List.mem_append_left _ (List.mem_of_getElem? (l := lw_privs_5) (i := 3) (by decide +kernel)))))))
theorem wS_yX11_rowMany : Cond.selects yX11_rowMany.cls yX11_rowMany yX11_rowMany ∈ qtbl := wq_l (w := (yX11_rowMany, 63)) (List.mem_append_right _ (List.mem_append_right _ (List.mem_append_right _ (List.mem_append_right _ (List.mem_append_left _ (List.mem_of_getElem? (l := lw_privs_5) (i := 4) (by decide +kernel)))))))
theorem wS_yX11_areRemarks : Cond.selects yX11_areRemarks.cls yX11_areRemarks yX11_areRemarks ∈ qtbl := wq_l (w := (yX11_areRemarks, 63)) (List.mem_append_right _ (List.mem_append_right _ (List.mem_append_right _ (List.mem_append_right _ (List.mem_append_left _ (List.mem_of_getElem? (l := lw_privs_5) (i := 5) (by decide +kernel)))))))
theorem wS_yX11_toldRemarks : Cond.selects yX11_toldRemarks.cls yX11_toldRemarks yX11_toldRemarks ∈ qtbl := wq_l (w := (yX11_toldRemarks, 63)) (List.mem_append_right _ (List.mem_append_right _ (List.mem_append_right _ (List.mem_append_right _ (List.mem_append_left _ (List.mem_of_getElem? (l := lw_privs_5) (i := 6) (by decide +kernel)))))))
theorem wS_yX11_findsRow : Cond.selects yX11_findsRow.cls yX11_findsRow yX11_findsRow ∈ qtbl := wq_l (w := (yX11_findsRow, 63)) (List.mem_append_right _ (List.mem_append_right _ (List.mem_append_right _ (List.mem_append_right _ (List.mem_append_left _ (List.mem_of_getElem? (l := lw_privs_5) (i := 7) (by decide +kernel)))))))
theorem wS_yX11_firstRow : Cond.selects yX11_firstRow.cls yX11_firstRow yX11_firstRow ∈ qtbl := wq_l (w := (yX11_firstRow, 63)) (List.mem_append_right _ (List.mem_append_right _ (List.mem_append_right _ (List.mem_append_right _ (List.mem_append_left _ (List.mem_of_getElem? (l := lw_privs_5) (i := 8) (by decide +kernel)))))))
theorem wS_yX11_fitsAll : Cond.selects yX11_fitsAll.cls yX11_fitsAll yX11_fitsAll ∈ qtbl := wq_l (w := (yX11_fitsAll, 63)) (List.mem_append_right _ (List.mem_append_right _ (List.mem_append_right _ (List.mem_append_right _ (List.mem_append_left _ (List.mem_of_getElem? (l := lw_privs_5) (i := 9) (by decide +kernel)))))))
theorem wS_yX11_valueOf : Cond.selects yX11_valueOf.cls yX11_valueOf yX11_valueOf ∈ qtbl := wq_l (w := (yX11_valueOf, 63)) (List.mem_append_right _ (List.mem_append_right _ (List.mem_append_right _ (List.mem_append_right _ (List.mem_append_left _ (List.mem_of_getElem? (l := lw_privs_5) (i := 10) (by decide +kernel)))))))
theorem wS_yX11_isSo : Cond.selects yX11_isSo.cls yX11_isSo yX11_isSo ∈ qtbl := wq_l (w := (yX11_isSo, 63)) (List.mem_append_right _ (List.mem_append_right _ (List.mem_append_right _ (List.mem_append_right _ (List.mem_append_left _ (List.mem_of_getElem? (l := lw_privs_5) (i := 11) (by decide +kernel)))))))
theorem wS_yX11_nextRow : Cond.selects yX11_nextRow.cls yX11_nextRow yX11_nextRow ∈ qtbl := wq_l (w := (yX11_nextRow, 63)) (List.mem_append_right _ (List.mem_append_right _ (List.mem_append_right _ (List.mem_append_right _ (List.mem_append_left _ (List.mem_of_getElem? (l := lw_privs_5) (i := 12) (by decide +kernel)))))))
theorem wS_yX11_counts : Cond.selects yX11_counts.cls yX11_counts yX11_counts ∈ qtbl := wq_l (w := (yX11_counts, 63)) (List.mem_append_right _ (List.mem_append_right _ (List.mem_append_right _ (List.mem_append_right _ (List.mem_append_left _ (List.mem_of_getElem? (l := lw_privs_5) (i := 13) (by decide +kernel)))))))
theorem wS_yX11_fitting : Cond.selects yX11_fitting.cls yX11_fitting yX11_fitting ∈ qtbl := wq_l (w := (yX11_fitting, 63)) (List.mem_append_right _ (List.mem_append_right _ (List.mem_append_right _ (List.mem_append_right _ (List.mem_append_left _ (List.mem_of_getElem? (l := lw_privs_5) (i := 14) (by decide +kernel)))))))
theorem wS_yX11_laysAges : Cond.selects yX11_laysAges.cls yX11_laysAges yX11_laysAges ∈ qtbl := wq_l (w := (yX11_laysAges, 63)) (List.mem_append_right _ (List.mem_append_right _ (List.mem_append_right _ (List.mem_append_right _ (List.mem_append_left _ (List.mem_of_getElem? (l := lw_privs_5) (i := 15) (by decide +kernel)))))))
theorem wS_yX11_areTwo : Cond.selects yX11_areTwo.cls yX11_areTwo yX11_areTwo ∈ qtbl := wq_l (w := (yX11_areTwo, 63)) (List.mem_append_right _ (List.mem_append_right _ (List.mem_append_right _ (List.mem_append_right _ (List.mem_append_right _ (List.mem_append_left _ (List.mem_of_getElem? (l := lw_privs_6) (i := 0) (by decide +kernel))))))))
theorem wS_yX11_offIn : Cond.selects yX11_offIn.cls yX11_offIn yX11_offIn ∈ qtbl := wq_l (w := (yX11_offIn, 63)) (List.mem_append_right _ (List.mem_append_right _ (List.mem_append_right _ (List.mem_append_right _ (List.mem_append_right _ (List.mem_append_left _ (List.mem_of_getElem? (l := lw_privs_6) (i := 1) (by decide +kernel))))))))
theorem wS_yX11_isForm : Cond.selects yX11_isForm.cls yX11_isForm yX11_isForm ∈ qtbl := wq_l (w := (yX11_isForm, 63)) (List.mem_append_right _ (List.mem_append_right _ (List.mem_append_right _ (List.mem_append_right _ (List.mem_append_right _ (List.mem_append_left _ (List.mem_of_getElem? (l := lw_privs_6) (i := 2) (by decide +kernel))))))))
theorem wS_yX11_lists : Cond.selects yX11_lists.cls yX11_lists yX11_lists ∈ qtbl := wq_l (w := (yX11_lists, 63)) (List.mem_append_right _ (List.mem_append_right _ (List.mem_append_right _ (List.mem_append_right _ (List.mem_append_right _ (List.mem_append_left _ (List.mem_of_getElem? (l := lw_privs_6) (i := 3) (by decide +kernel))))))))
theorem wS_yX11_hears : Cond.selects yX11_hears.cls yX11_hears yX11_hears ∈ qtbl := wq_l (w := (yX11_hears, 63)) (List.mem_append_right _ (List.mem_append_right _ (List.mem_append_right _ (List.mem_append_right _ (List.mem_append_right _ (List.mem_append_left _ (List.mem_of_getElem? (l := lw_privs_6) (i := 4) (by decide +kernel))))))))
theorem wS_yX11_takesRow : Cond.selects yX11_takesRow.cls yX11_takesRow yX11_takesRow ∈ qtbl := wq_l (w := (yX11_takesRow, 63)) (List.mem_append_right _ (List.mem_append_right _ (List.mem_append_right _ (List.mem_append_right _ (List.mem_append_right _ (List.mem_append_left _ (List.mem_of_getElem? (l := lw_privs_6) (i := 5) (by decide +kernel))))))))
theorem wS_yX11_alikeTo : Cond.selects yX11_alikeTo.cls yX11_alikeTo yX11_alikeTo ∈ qtbl := wq_l (w := (yX11_alikeTo, 63)) (List.mem_append_right _ (List.mem_append_right _ (List.mem_append_right _ (List.mem_append_right _ (List.mem_append_right _ (List.mem_append_left _ (List.mem_of_getElem? (l := lw_privs_6) (i := 6) (by decide +kernel))))))))
theorem wS_yX11_readsSayings : Cond.selects yX11_readsSayings.cls yX11_readsSayings yX11_readsSayings ∈ qtbl := wq_l (w := (yX11_readsSayings, 63)) (List.mem_append_right _ (List.mem_append_right _ (List.mem_append_right _ (List.mem_append_right _ (List.mem_append_right _ (List.mem_append_left _ (List.mem_of_getElem? (l := lw_privs_6) (i := 7) (by decide +kernel))))))))
theorem wS_yX11_says : Cond.selects yX11_says.cls yX11_says yX11_says ∈ qtbl := wq_l (w := (yX11_says, 63)) (List.mem_append_right _ (List.mem_append_right _ (List.mem_append_right _ (List.mem_append_right _ (List.mem_append_right _ (List.mem_append_left _ (List.mem_of_getElem? (l := lw_privs_6) (i := 8) (by decide +kernel))))))))
theorem wS_yX11_ageNow : Cond.selects yX11_ageNow.cls yX11_ageNow yX11_ageNow ∈ qtbl := wq_l (w := (yX11_ageNow, 63)) (List.mem_append_right _ (List.mem_append_right _ (List.mem_append_right _ (List.mem_append_right _ (List.mem_append_right _ (List.mem_append_left _ (List.mem_of_getElem? (l := lw_privs_6) (i := 9) (by decide +kernel))))))))
theorem wS_yX11_rowsWith : Cond.selects yX11_rowsWith.cls yX11_rowsWith yX11_rowsWith ∈ qtbl := wq_l (w := (yX11_rowsWith, 63)) (List.mem_append_right _ (List.mem_append_right _ (List.mem_append_right _ (List.mem_append_right _ (List.mem_append_right _ (List.mem_append_left _ (List.mem_of_getElem? (l := lw_privs_6) (i := 10) (by decide +kernel))))))))
theorem wS_yX11_mayBe : Cond.selects yX11_mayBe.cls yX11_mayBe yX11_mayBe ∈ qtbl := wq_l (w := (yX11_mayBe, 63)) (List.mem_append_right _ (List.mem_append_right _ (List.mem_append_right _ (List.mem_append_right _ (List.mem_append_right _ (List.mem_append_left _ (List.mem_of_getElem? (l := lw_privs_6) (i := 11) (by decide +kernel))))))))
theorem wS_yX11_triesTwo : Cond.selects yX11_triesTwo.cls yX11_triesTwo yX11_triesTwo ∈ qtbl := wq_l (w := (yX11_triesTwo, 63)) (List.mem_append_right _ (List.mem_append_right _ (List.mem_append_right _ (List.mem_append_right _ (List.mem_append_right _ (List.mem_append_left _ (List.mem_of_getElem? (l := lw_privs_6) (i := 12) (by decide +kernel))))))))
theorem wS_yX11_squaresIn : Cond.selects yX11_squaresIn.cls yX11_squaresIn yX11_squaresIn ∈ qtbl := wq_l (w := (yX11_squaresIn, 63)) (List.mem_append_right _ (List.mem_append_right _ (List.mem_append_right _ (List.mem_append_right _ (List.mem_append_right _ (List.mem_append_left _ (List.mem_of_getElem? (l := lw_privs_6) (i := 13) (by decide +kernel))))))))
theorem wS_yX11_readsPlaces : Cond.selects yX11_readsPlaces.cls yX11_readsPlaces yX11_readsPlaces ∈ qtbl := wq_l (w := (yX11_readsPlaces, 63)) (List.mem_append_right _ (List.mem_append_right _ (List.mem_append_right _ (List.mem_append_right _ (List.mem_append_right _ (List.mem_append_left _ (List.mem_of_getElem? (l := lw_privs_6) (i := 14) (by decide +kernel))))))))
theorem wS_yX11_holdAllAsTold : Cond.selects yX11_holdAllAsTold.cls yX11_holdAllAsTold yX11_holdAllAsTold ∈ qtbl := wq_l (w := (yX11_holdAllAsTold, 63)) (List.mem_append_right _ (List.mem_append_right _ (List.mem_append_right _ (List.mem_append_right _ (List.mem_append_right _ (List.mem_append_left _ (List.mem_of_getElem? (l := lw_privs_6) (i := 15) (by decide +kernel))))))))
theorem wS_yX11_holdsAsTold : Cond.selects yX11_holdsAsTold.cls yX11_holdsAsTold yX11_holdsAsTold ∈ qtbl := wq_l (w := (yX11_holdsAsTold, 63)) (List.mem_append_right _ (List.mem_append_right _ (List.mem_append_right _ (List.mem_append_right _ (List.mem_append_right _ (List.mem_append_right _ (List.mem_of_getElem? (l := lw_privs_7) (i := 0) (by decide +kernel))))))))
theorem wS_yX11_laysTree : Cond.selects yX11_laysTree.cls yX11_laysTree yX11_laysTree ∈ qtbl := wq_l (w := (yX11_laysTree, 63)) (List.mem_append_right _ (List.mem_append_right _ (List.mem_append_right _ (List.mem_append_right _ (List.mem_append_right _ (List.mem_append_right _ (List.mem_of_getElem? (l := lw_privs_7) (i := 1) (by decide +kernel))))))))
theorem wS_yX11_lasting : Cond.selects yX11_lasting.cls yX11_lasting yX11_lasting ∈ qtbl := wq_l (w := (yX11_lasting, 63)) (List.mem_append_right _ (List.mem_append_right _ (List.mem_append_right _ (List.mem_append_right _ (List.mem_append_right _ (List.mem_append_right _ (List.mem_of_getElem? (l := lw_privs_7) (i := 2) (by decide +kernel))))))))
theorem wS_yX11_reaches : Cond.selects yX11_reaches.cls yX11_reaches yX11_reaches ∈ qtbl := wq_l (w := (yX11_reaches, 63)) (List.mem_append_right _ (List.mem_append_right _ (List.mem_append_right _ (List.mem_append_right _ (List.mem_append_right _ (List.mem_append_right _ (List.mem_of_getElem? (l := lw_privs_7) (i := 3) (by decide +kernel))))))))
theorem wS_yX11_pours : Cond.selects yX11_pours.cls yX11_pours yX11_pours ∈ qtbl := wq_l (w := (yX11_pours, 63)) (List.mem_append_right _ (List.mem_append_right _ (List.mem_append_right _ (List.mem_append_right _ (List.mem_append_right _ (List.mem_append_right _ (List.mem_of_getElem? (l := lw_privs_7) (i := 4) (by decide +kernel))))))))
theorem wS_yX11_moves : Cond.selects yX11_moves.cls yX11_moves yX11_moves ∈ qtbl := wq_l (w := (yX11_moves, 63)) (List.mem_append_right _ (List.mem_append_right _ (List.mem_append_right _ (List.mem_append_right _ (List.mem_append_right _ (List.mem_append_right _ (List.mem_of_getElem? (l := lw_privs_7) (i := 5) (by decide +kernel))))))))
theorem wS_yX11_moved : Cond.selects yX11_moved.cls yX11_moved yX11_moved ∈ qtbl := wq_l (w := (yX11_moved, 63)) (List.mem_append_right _ (List.mem_append_right _ (List.mem_append_right _ (List.mem_append_right _ (List.mem_append_right _ (List.mem_append_right _ (List.mem_of_getElem? (l := lw_privs_7) (i := 6) (by decide +kernel))))))))
theorem wS_yX11_movesAll : Cond.selects yX11_movesAll.cls yX11_movesAll yX11_movesAll ∈ qtbl := wq_l (w := (yX11_movesAll, 63)) (List.mem_append_right _ (List.mem_append_right _ (List.mem_append_right _ (List.mem_append_right _ (List.mem_append_right _ (List.mem_append_right _ (List.mem_of_getElem? (l := lw_privs_7) (i := 7) (by decide +kernel))))))))
