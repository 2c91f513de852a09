/-! ===== BEGIN printed: names, fields, word lists, decode rows ===== -/
def RX0 : String := "SharedChoices$Beginnings"
def TX0 : u_T := fun k => match k with
  | 0 => ("SharedChoices$Beginnings", "alternatives", "[J", true)
  | 1 => ("SharedChoices$Beginnings", "lengths", "[I", true)
  | _ => ("SharedChoices$Beginnings", "size", "I", false)
def tyX0 : Nat → FieldType := fun k => match k with
  | 0 => .array .long
  | 1 => .array .int
  | _ => .int
abbrev wsX00 : List Cond := u_ws RX0 TX0 3
theorem nmX0 : ∀ a, a < 3 → ∀ b, b < 3 → a ≠ b → (TX0 a).2.1 ≠ (TX0 b).2.1 := by decide +kernel
theorem tyX0_ok : ∀ k, k < 3 → parseFieldDescriptor (TX0 k).2.2.1 = some (tyX0 k) := by decide +kernel
abbrev cX0_init : ByteArray := prog_2_method_1_code
def yX0_init : MethodName := ⟨RX0, "<init>", "()V"⟩
abbrev cX0_isEmpty : ByteArray := prog_2_method_2_code
def yX0_isEmpty : MethodName := ⟨RX0, "isEmpty", "()Z"⟩
abbrev cX0_forget : ByteArray := prog_2_method_3_code
def yX0_forget : MethodName := ⟨RX0, "forget", "()V"⟩
abbrev cX0_put : ByteArray := prog_2_method_4_code
def yX0_put : MethodName := ⟨RX0, "put", "(JI)V"⟩
abbrev cX0_lastAlternatives : ByteArray := prog_2_method_5_code
def yX0_lastAlternatives : MethodName := ⟨RX0, "lastAlternatives", "()J"⟩
abbrev cX0_lastLength : ByteArray := prog_2_method_6_code
def yX0_lastLength : MethodName := ⟨RX0, "lastLength", "()I"⟩
abbrev cX0_dropLast : ByteArray := prog_2_method_7_code
def yX0_dropLast : MethodName := ⟨RX0, "dropLast", "()V"⟩
abbrev cX0_takeAllOf : ByteArray := prog_2_method_8_code
def yX0_takeAllOf : MethodName := ⟨RX0, "takeAllOf", "(LSharedChoices$Beginnings;)V"⟩
def RX1 : String := "SharedChoices$Latest"
def TX1 : u_T := fun k => match k with
  | 0 => ("SharedChoices$Latest", "tokens", "LSharedChoices$Tokens;", true)
  | 1 => ("SharedChoices$Latest", "alternatives", "J", false)
  | 2 => ("SharedChoices$Latest", "decisions", "I", false)
  | _ => ("SharedChoices$Latest", "labour", "I", false)
def tyX1 : Nat → FieldType := fun k => match k with
  | 0 => .object "SharedChoices$Tokens"
  | 1 => .long
  | 2 => .int
  | _ => .int
abbrev wsX10 : List Cond := u_ws RX1 TX1 4
theorem nmX1 : ∀ a, a < 4 → ∀ b, b < 4 → a ≠ b → (TX1 a).2.1 ≠ (TX1 b).2.1 := by decide +kernel
theorem tyX1_ok : ∀ k, k < 4 → parseFieldDescriptor (TX1 k).2.2.1 = some (tyX1 k) := by decide +kernel
abbrev cX1_init : ByteArray := prog_3_method_1_code
def yX1_init : MethodName := ⟨RX1, "<init>", "()V"⟩
abbrev cX1_tokens : ByteArray := prog_3_method_2_code
def yX1_tokens : MethodName := ⟨RX1, "tokens", "()LSharedChoices$Tokens;"⟩
abbrev cX1_decisions : ByteArray := prog_3_method_3_code
def yX1_decisions : MethodName := ⟨RX1, "decisions", "()I"⟩
abbrev cX1_labour : ByteArray := prog_3_method_4_code
def yX1_labour : MethodName := ⟨RX1, "labour", "()I"⟩
abbrev cX1_alternativeAt : ByteArray := prog_3_method_5_code
def yX1_alternativeAt : MethodName := ⟨RX1, "alternativeAt", "(I)I"⟩
abbrev cX1_forget : ByteArray := prog_3_method_6_code
def yX1_forget : MethodName := ⟨RX1, "forget", "()V"⟩
abbrev cX1_keep : ByteArray := prog_3_method_7_code
def yX1_keep : MethodName := ⟨RX1, "keep", "(JLSharedChoices$Work;)V"⟩
def RX2 : String := "SharedChoices$Nodes"
def TX2 : u_T := fun k => match k with
  | 0 => ("SharedChoices$Nodes", "sorts", "[I", true)
  | 1 => ("SharedChoices$Nodes", "firsts", "[I", true)
  | 2 => ("SharedChoices$Nodes", "seconds", "[I", true)
  | 3 => ("SharedChoices$Nodes", "thirds", "[I", true)
  | 4 => ("SharedChoices$Nodes", "numbers", "[J", true)
  | _ => ("SharedChoices$Nodes", "size", "I", false)
def tyX2 : Nat → FieldType := fun k => match k with
  | 0 => .array .int
  | 1 => .array .int
  | 2 => .array .int
  | 3 => .array .int
  | 4 => .array .long
  | _ => .int
abbrev wsX20 : List Cond := u_ws RX2 TX2 6
theorem nmX2 : ∀ a, a < 6 → ∀ b, b < 6 → a ≠ b → (TX2 a).2.1 ≠ (TX2 b).2.1 := by decide +kernel
theorem tyX2_ok : ∀ k, k < 6 → parseFieldDescriptor (TX2 k).2.2.1 = some (tyX2 k) := by decide +kernel
abbrev cX2_init : ByteArray := prog_4_method_1_code
def yX2_init : MethodName := ⟨RX2, "<init>", "()V"⟩
abbrev cX2_size : ByteArray := prog_4_method_2_code
def yX2_size : MethodName := ⟨RX2, "size", "()I"⟩
abbrev cX2_has : ByteArray := prog_4_method_3_code
def yX2_has : MethodName := ⟨RX2, "has", "(I)Z"⟩
abbrev cX2_add : ByteArray := prog_4_method_4_code
def yX2_add : MethodName := ⟨RX2, "add", "(IIII)I"⟩
abbrev cX2_addNumber : ByteArray := prog_4_method_5_code
def yX2_addNumber : MethodName := ⟨RX2, "addNumber", "(J)I"⟩
abbrev cX2_sortOf : ByteArray := prog_4_method_6_code
def yX2_sortOf : MethodName := ⟨RX2, "sortOf", "(I)I"⟩
abbrev cX2_firstOf : ByteArray := prog_4_method_7_code
def yX2_firstOf : MethodName := ⟨RX2, "firstOf", "(I)I"⟩
abbrev cX2_secondOf : ByteArray := prog_4_method_8_code
def yX2_secondOf : MethodName := ⟨RX2, "secondOf", "(I)I"⟩
abbrev cX2_thirdOf : ByteArray := prog_4_method_9_code
def yX2_thirdOf : MethodName := ⟨RX2, "thirdOf", "(I)I"⟩
abbrev cX2_numberOf : ByteArray := prog_4_method_10_code
def yX2_numberOf : MethodName := ⟨RX2, "numberOf", "(I)J"⟩
abbrev cX2_forget : ByteArray := prog_4_method_11_code
def yX2_forget : MethodName := ⟨RX2, "forget", "()V"⟩
def RX3 : String := "SharedChoices$Search"
def TX3 : u_T := fun k => match k with
  | 0 => ("SharedChoices$Search", "work", "LSharedChoices$Work;", true)
  | 1 => ("SharedChoices$Search", "latest", "LSharedChoices$Latest;", true)
  | 2 => ("SharedChoices$Search", "pending", "LSharedChoices$Beginnings;", true)
  | 3 => ("SharedChoices$Search", "later", "LSharedChoices$Beginnings;", true)
  | 4 => ("SharedChoices$Search", "there", "Z", false)
  | 5 => ("SharedChoices$Search", "spent", "Z", false)
  | 6 => ("SharedChoices$Search", "goal", "I", false)
  | 7 => ("SharedChoices$Search", "mode", "I", false)
  | 8 => ("SharedChoices$Search", "bound", "I", false)
  | 9 => ("SharedChoices$Search", "windowEnd", "I", false)
  | 10 => ("SharedChoices$Search", "places", "I", false)
  | 11 => ("SharedChoices$Search", "values", "I", false)
  | 12 => ("SharedChoices$Search", "failed", "I", false)
  | 13 => ("SharedChoices$Search", "givenUp", "I", false)
  | _ => ("SharedChoices$Search", "cut", "I", false)
def tyX3 : Nat → FieldType := fun k => match k with
  | 0 => .object "SharedChoices$Work"
  | 1 => .object "SharedChoices$Latest"
  | 2 => .object "SharedChoices$Beginnings"
  | 3 => .object "SharedChoices$Beginnings"
  | 4 => .boolean
  | 5 => .boolean
  | 6 => .int
  | 7 => .int
  | 8 => .int
  | 9 => .int
  | 10 => .int
  | 11 => .int
  | 12 => .int
  | 13 => .int
  | _ => .int
abbrev wsX30 : List Cond := u_ws RX3 TX3 15
theorem nmX3 : ∀ a, a < 15 → ∀ b, b < 15 → a ≠ b → (TX3 a).2.1 ≠ (TX3 b).2.1 := by decide +kernel
theorem tyX3_ok : ∀ k, k < 15 → parseFieldDescriptor (TX3 k).2.2.1 = some (tyX3 k) := by decide +kernel
abbrev cX3_init : ByteArray := prog_5_method_1_code
def yX3_init : MethodName := ⟨RX3, "<init>", "(LSharedChoices$Nodes;)V"⟩
abbrev cX3_isThere : ByteArray := prog_5_method_2_code
def yX3_isThere : MethodName := ⟨RX3, "isThere", "()Z"⟩
abbrev cX3_latest : ByteArray := prog_5_method_3_code
def yX3_latest : MethodName := ⟨RX3, "latest", "()LSharedChoices$Latest;"⟩
abbrev cX3_places : ByteArray := prog_5_method_4_code
def yX3_places : MethodName := ⟨RX3, "places", "()I"⟩
abbrev cX3_values : ByteArray := prog_5_method_5_code
def yX3_values : MethodName := ⟨RX3, "values", "()I"⟩
abbrev cX3_failed : ByteArray := prog_5_method_6_code
def yX3_failed : MethodName := ⟨RX3, "failed", "()I"⟩
abbrev cX3_givenUp : ByteArray := prog_5_method_7_code
def yX3_givenUp : MethodName := ⟨RX3, "givenUp", "()I"⟩
abbrev cX3_cut : ByteArray := prog_5_method_8_code
def yX3_cut : MethodName := ⟨RX3, "cut", "()I"⟩
abbrev cX3_forget : ByteArray := prog_5_method_9_code
def yX3_forget : MethodName := ⟨RX3, "forget", "()V"⟩
abbrev cX3_begin : ByteArray := prog_5_method_10_code
def yX3_begin : MethodName := ⟨RX3, "begin", "(III)V"⟩
abbrev cX3_goOn : ByteArray := prog_5_method_11_code
def yX3_goOn : MethodName := ⟨RX3, "goOn", "()I"⟩
abbrev cX3_openNextWindow : ByteArray := prog_5_method_12_code
def yX3_openNextWindow : MethodName := ⟨RX3, "openNextWindow", "()V"⟩
abbrev cX3_comesToValue : ByteArray := prog_5_method_13_code
def yX3_comesToValue : MethodName := ⟨RX3, "comesToValue", "()Z"⟩
abbrev cX3_mostDecisions : ByteArray := prog_5_method_14_code
def yX3_mostDecisions : MethodName := ⟨RX3, "mostDecisions", "()I"⟩
abbrev cX3_putOtherAlternatives : ByteArray := prog_5_method_15_code
def yX3_putOtherAlternatives : MethodName := ⟨RX3, "putOtherAlternatives", "(JI)V"⟩
abbrev cX3_endsAsValue : ByteArray := prog_5_method_16_code
def yX3_endsAsValue : MethodName := ⟨RX3, "endsAsValue", "(IJ)Z"⟩
abbrev cX3_stopAtDecision : ByteArray := prog_5_method_17_code
def yX3_stopAtDecision : MethodName := ⟨RX3, "stopAtDecision", "(JI)V"⟩
def RX4 : String := "SharedChoices$Tokens"
def TX4 : u_T := fun k => match k with
  | 0 => ("SharedChoices$Tokens", "limit", "I", true)
  | 1 => ("SharedChoices$Tokens", "kinds", "[I", false)
  | 2 => ("SharedChoices$Tokens", "numbers", "[J", false)
  | _ => ("SharedChoices$Tokens", "size", "I", false)
def tyX4 : Nat → FieldType := fun k => match k with
  | 0 => .int
  | 1 => .array .int
  | 2 => .array .long
  | _ => .int
abbrev wsX40 : List Cond := u_ws RX4 TX4 4
theorem nmX4 : ∀ a, a < 4 → ∀ b, b < 4 → a ≠ b → (TX4 a).2.1 ≠ (TX4 b).2.1 := by decide +kernel
theorem tyX4_ok : ∀ k, k < 4 → parseFieldDescriptor (TX4 k).2.2.1 = some (tyX4 k) := by decide +kernel
abbrev cX4_init : ByteArray := prog_6_method_1_code
def yX4_init : MethodName := ⟨RX4, "<init>", "(I)V"⟩
abbrev cX4_size : ByteArray := prog_6_method_2_code
def yX4_size : MethodName := ⟨RX4, "size", "()I"⟩
abbrev cX4_has : ByteArray := prog_6_method_3_code
def yX4_has : MethodName := ⟨RX4, "has", "(I)Z"⟩
abbrev cX4_kindAt : ByteArray := prog_6_method_4_code
def yX4_kindAt : MethodName := ⟨RX4, "kindAt", "(I)I"⟩
abbrev cX4_numberAt : ByteArray := prog_6_method_5_code
def yX4_numberAt : MethodName := ⟨RX4, "numberAt", "(I)J"⟩
abbrev cX4_putNumber : ByteArray := prog_6_method_6_code
def yX4_putNumber : MethodName := ⟨RX4, "putNumber", "(IJ)V"⟩
abbrev cX4_add : ByteArray := prog_6_method_7_code
def yX4_add : MethodName := ⟨RX4, "add", "(IJ)Z"⟩
abbrev cX4_addFrom : ByteArray := prog_6_method_8_code
def yX4_addFrom : MethodName := ⟨RX4, "addFrom", "(LSharedChoices$Tokens;II)Z"⟩
abbrev cX4_cutTo : ByteArray := prog_6_method_9_code
def yX4_cutTo : MethodName := ⟨RX4, "cutTo", "(I)V"⟩
abbrev cX4_makeRoom : ByteArray := prog_6_method_10_code
def yX4_makeRoom : MethodName := ⟨RX4, "makeRoom", "(I)Z"⟩
def RX5 : String := "SharedChoices$Way"
def TX5 : u_T := fun k => match k with
  | 0 => ("SharedChoices$Way", "around", "LSharedChoices$Way;", true)
  | 1 => ("SharedChoices$Way", "inner", "LSharedChoices$Way;", false)
  | 2 => ("SharedChoices$Way", "firstInside", "I", false)
  | 3 => ("SharedChoices$Way", "kinds", "[I", true)
  | 4 => ("SharedChoices$Way", "numbers", "[J", true)
  | 5 => ("SharedChoices$Way", "lengths", "[I", true)
  | 6 => ("SharedChoices$Way", "alternatives", "J", false)
  | 7 => ("SharedChoices$Way", "decisions", "I", false)
  | 8 => ("SharedChoices$Way", "mostDecisions", "I", false)
  | 9 => ("SharedChoices$Way", "tokens", "LSharedChoices$Tokens;", true)
  | 10 => ("SharedChoices$Way", "valueStart", "I", false)
  | _ => ("SharedChoices$Way", "listed", "I", false)
def tyX5 : Nat → FieldType := fun k => match k with
  | 0 => .object "SharedChoices$Way"
  | 1 => .object "SharedChoices$Way"
  | 2 => .int
  | 3 => .array .int
  | 4 => .array .long
  | 5 => .array .int
  | 6 => .long
  | 7 => .int
  | 8 => .int
  | 9 => .object "SharedChoices$Tokens"
  | 10 => .int
  | _ => .int
abbrev wsX50 : List Cond := u_ws RX5 TX5 12
theorem nmX5 : ∀ a, a < 12 → ∀ b, b < 12 → a ≠ b → (TX5 a).2.1 ≠ (TX5 b).2.1 := by decide +kernel
theorem tyX5_ok : ∀ k, k < 12 → parseFieldDescriptor (TX5 k).2.2.1 = some (tyX5 k) := by decide +kernel
abbrev cX5_init : ByteArray := prog_7_method_1_code
def yX5_init : MethodName := ⟨RX5, "<init>", "(LSharedChoices$Way;)V"⟩
abbrev cX5_around : ByteArray := prog_7_method_2_code
def yX5_around : MethodName := ⟨RX5, "around", "()LSharedChoices$Way;"⟩
abbrev cX5_inner : ByteArray := prog_7_method_3_code
def yX5_inner : MethodName := ⟨RX5, "inner", "()LSharedChoices$Way;"⟩
abbrev cX5_nest : ByteArray := prog_7_method_4_code
def yX5_nest : MethodName := ⟨RX5, "nest", "(I)V"⟩
abbrev cX5_tokens : ByteArray := prog_7_method_5_code
def yX5_tokens : MethodName := ⟨RX5, "tokens", "()LSharedChoices$Tokens;"⟩
abbrev cX5_decisions : ByteArray := prog_7_method_6_code
def yX5_decisions : MethodName := ⟨RX5, "decisions", "()I"⟩
abbrev cX5_isInside : ByteArray := prog_7_method_8_code
def yX5_isInside : MethodName := ⟨RX5, "isInside", "(I)Z"⟩
abbrev cX5_beginOfSearch : ByteArray := prog_7_method_9_code
def yX5_beginOfSearch : MethodName := ⟨RX5, "beginOfSearch", "(JI)V"⟩
abbrev cX5_beginOfSet : ByteArray := prog_7_method_10_code
def yX5_beginOfSet : MethodName := ⟨RX5, "beginOfSet", "(I)V"⟩
abbrev cX5_begin : ByteArray := prog_7_method_11_code
def yX5_begin : MethodName := ⟨RX5, "begin", "()V"⟩
abbrev cX5_listValue : ByteArray := prog_7_method_12_code
def yX5_listValue : MethodName := ⟨RX5, "listValue", "()V"⟩
abbrev cX5_dropValue : ByteArray := prog_7_method_13_code
def yX5_dropValue : MethodName := ⟨RX5, "dropValue", "()V"⟩
abbrev cX5_turn : ByteArray := prog_7_method_14_code
def yX5_turn : MethodName := ⟨RX5, "turn", "()Z"⟩
abbrev cX5_decide : ByteArray := prog_7_method_15_code
def yX5_decide : MethodName := ⟨RX5, "decide", "()I"⟩
abbrev cX5_hasValue : ByteArray := prog_7_method_16_code
def yX5_hasValue : MethodName := ⟨RX5, "hasValue", "(I)Z"⟩
abbrev cX5_kindOf : ByteArray := prog_7_method_17_code
def yX5_kindOf : MethodName := ⟨RX5, "kindOf", "(I)I"⟩
abbrev cX5_numberOf : ByteArray := prog_7_method_18_code
def yX5_numberOf : MethodName := ⟨RX5, "numberOf", "(I)J"⟩
abbrev cX5_lengthOf : ByteArray := prog_7_method_19_code
def yX5_lengthOf : MethodName := ⟨RX5, "lengthOf", "(I)I"⟩
abbrev cX5_keep : ByteArray := prog_7_method_20_code
def yX5_keep : MethodName := ⟨RX5, "keep", "(IIJI)V"⟩
abbrev cX5_tell : ByteArray := prog_7_method_21_code
def yX5_tell : MethodName := ⟨RX5, "tell", "(IJ)Z"⟩
abbrev cX5_tellAll : ByteArray := prog_7_method_22_code
def yX5_tellAll : MethodName := ⟨RX5, "tellAll", "(LSharedChoices$Tokens;II)Z"⟩
def RX6 : String := "SharedChoices$Work"
def TX6 : u_T := fun k => match k with
  | 0 => ("SharedChoices$Work", "nodes", "LSharedChoices$Nodes;", true)
  | 1 => ("SharedChoices$Work", "outermost", "LSharedChoices$Way;", true)
  | 2 => ("SharedChoices$Work", "current", "LSharedChoices$Way;", false)
  | 3 => ("SharedChoices$Work", "labour", "I", false)
  | 4 => ("SharedChoices$Work", "lists", "LSharedChoices$Tokens;", true)
  | 5 => ("SharedChoices$Work", "gotKind", "I", false)
  | 6 => ("SharedChoices$Work", "got", "J", false)
  | 7 => ("SharedChoices$Work", "gotLength", "I", false)
  | 8 => ("SharedChoices$Work", "neededNode", "I", false)
  | _ => ("SharedChoices$Work", "neededIn", "LSharedChoices$Way;", false)
def tyX6 : Nat → FieldType := fun k => match k with
  | 0 => .object "SharedChoices$Nodes"
  | 1 => .object "SharedChoices$Way"
  | 2 => .object "SharedChoices$Way"
  | 3 => .int
  | 4 => .object "SharedChoices$Tokens"
  | 5 => .int
  | 6 => .long
  | 7 => .int
  | 8 => .int
  | _ => .object "SharedChoices$Way"
abbrev wsX60 : List Cond := u_ws RX6 TX6 10
theorem nmX6 : ∀ a, a < 10 → ∀ b, b < 10 → a ≠ b → (TX6 a).2.1 ≠ (TX6 b).2.1 := by decide +kernel
theorem tyX6_ok : ∀ k, k < 10 → parseFieldDescriptor (TX6 k).2.2.1 = some (tyX6 k) := by decide +kernel
abbrev cX6_init : ByteArray := prog_8_method_1_code
def yX6_init : MethodName := ⟨RX6, "<init>", "(LSharedChoices$Nodes;)V"⟩
abbrev cX6_labour : ByteArray := prog_8_method_2_code
def yX6_labour : MethodName := ⟨RX6, "labour", "()I"⟩
abbrev cX6_decisions : ByteArray := prog_8_method_3_code
def yX6_decisions : MethodName := ⟨RX6, "decisions", "()I"⟩
abbrev cX6_tokens : ByteArray := prog_8_method_4_code
def yX6_tokens : MethodName := ⟨RX6, "tokens", "()LSharedChoices$Tokens;"⟩
abbrev cX6_goWay : ByteArray := prog_8_method_5_code
def yX6_goWay : MethodName := ⟨RX6, "goWay", "(IJI)I"⟩
abbrev cX6_tellInFull : ByteArray := prog_8_method_6_code
def yX6_tellInFull : MethodName := ⟨RX6, "tellInFull", "(II)I"⟩
abbrev cX6_valueOf : ByteArray := prog_8_method_7_code
def yX6_valueOf : MethodName := ⟨RX6, "valueOf", "(II)I"⟩
abbrev cX6_homeOf : ByteArray := prog_8_method_8_code
def yX6_homeOf : MethodName := ⟨RX6, "homeOf", "(I)LSharedChoices$Way;"⟩
abbrev cX6_take : ByteArray := prog_8_method_9_code
def yX6_take : MethodName := ⟨RX6, "take", "(IJI)I"⟩
abbrev cX6_takeNumber : ByteArray := prog_8_method_10_code
def yX6_takeNumber : MethodName := ⟨RX6, "takeNumber", "(J)I"⟩
abbrev cX6_workOut : ByteArray := prog_8_method_11_code
def yX6_workOut : MethodName := ⟨RX6, "workOut", "(I)I"⟩
abbrev cX6_workChoice : ByteArray := prog_8_method_12_code
def yX6_workChoice : MethodName := ⟨RX6, "workChoice", "(I)I"⟩
abbrev cX6_workPart : ByteArray := prog_8_method_13_code
def yX6_workPart : MethodName := ⟨RX6, "workPart", "(IZ)I"⟩
abbrev cX6_workOp : ByteArray := prog_8_method_14_code
def yX6_workOp : MethodName := ⟨RX6, "workOp", "(I)I"⟩
abbrev cX6_reckon : ByteArray := prog_8_method_15_code
def yX6_reckon : MethodName := ⟨RX6, "reckon", "(IJJ)I"⟩
abbrev cX6_workWhen : ByteArray := prog_8_method_16_code
def yX6_workWhen : MethodName := ⟨RX6, "workWhen", "(I)I"⟩
abbrev cX6_workFold : ByteArray := prog_8_method_17_code
def yX6_workFold : MethodName := ⟨RX6, "workFold", "(I)I"⟩
abbrev cX6_foldNumbers : ByteArray := prog_8_method_18_code
def yX6_foldNumbers : MethodName := ⟨RX6, "foldNumbers", "(III)I"⟩
abbrev cX6_workSet : ByteArray := prog_8_method_19_code
def yX6_workSet : MethodName := ⟨RX6, "workSet", "(I)I"⟩
abbrev cX6_goWaysOfSet : ByteArray := prog_8_method_20_code
def yX6_goWaysOfSet : MethodName := ⟨RX6, "goWaysOfSet", "(ILSharedChoices$Way;I)I"⟩
abbrev cX6_takeList : ByteArray := prog_8_method_21_code
def yX6_takeList : MethodName := ⟨RX6, "takeList", "(LSharedChoices$Tokens;)I"⟩
def RX7 : String := "SharedChoices"
def TX7 : u_T := fun k => match k with
  | 0 => ("SharedChoices", "nodes", "LSharedChoices$Nodes;", true)
  | _ => ("SharedChoices", "search", "LSharedChoices$Search;", true)
def tyX7 : Nat → FieldType := fun k => match k with
  | 0 => .object "SharedChoices$Nodes"
  | _ => .object "SharedChoices$Search"
abbrev wsX70 : List Cond := u_ws RX7 TX7 2
theorem nmX7 : ∀ a, a < 2 → ∀ b, b < 2 → a ≠ b → (TX7 a).2.1 ≠ (TX7 b).2.1 := by decide +kernel
theorem tyX7_ok : ∀ k, k < 2 → parseFieldDescriptor (TX7 k).2.2.1 = some (tyX7 k) := by decide +kernel
abbrev cX7_init : ByteArray := prog_1_method_1_code
def yX7_init : MethodName := ⟨RX7, "<init>", "()V"⟩
abbrev cX7_number : ByteArray := prog_1_method_2_code
def yX7_number : MethodName := ⟨RX7, "number", "(J)I"⟩
abbrev cX7_choice : ByteArray := prog_1_method_3_code
def yX7_choice : MethodName := ⟨RX7, "choice", "(II)I"⟩
abbrev cX7_fail : ByteArray := prog_1_method_4_code
def yX7_fail : MethodName := ⟨RX7, "fail", "()I"⟩
abbrev cX7_pair : ByteArray := prog_1_method_5_code
def yX7_pair : MethodName := ⟨RX7, "pair", "(II)I"⟩
abbrev cX7_part : ByteArray := prog_1_method_6_code
def yX7_part : MethodName := ⟨RX7, "part", "(IZ)I"⟩
abbrev cX7_op : ByteArray := prog_1_method_7_code
def yX7_op : MethodName := ⟨RX7, "op", "(III)I"⟩
abbrev cX7_when : ByteArray := prog_1_method_8_code
def yX7_when : MethodName := ⟨RX7, "when", "(III)I"⟩
abbrev cX7_set : ByteArray := prog_1_method_9_code
def yX7_set : MethodName := ⟨RX7, "set", "(II)I"⟩
abbrev cX7_fold : ByteArray := prog_1_method_10_code
def yX7_fold : MethodName := ⟨RX7, "fold", "(II)I"⟩
abbrev cX7_clear : ByteArray := prog_1_method_11_code
def yX7_clear : MethodName := ⟨RX7, "clear", "()I"⟩
abbrev cX7_node : ByteArray := prog_1_method_12_code
def yX7_node : MethodName := ⟨RX7, "node", "(II)I"⟩
abbrev cX7_ask : ByteArray := prog_1_method_13_code
def yX7_ask : MethodName := ⟨RX7, "ask", "(III)V"⟩
abbrev cX7_next : ByteArray := prog_1_method_14_code
def yX7_next : MethodName := ⟨RX7, "next", "()I"⟩
abbrev cX7_decision : ByteArray := prog_1_method_15_code
def yX7_decision : MethodName := ⟨RX7, "decision", "(I)I"⟩
abbrev cX7_token : ByteArray := prog_1_method_16_code
def yX7_token : MethodName := ⟨RX7, "token", "(II)J"⟩
abbrev cX7_count : ByteArray := prog_1_method_17_code
def yX7_count : MethodName := ⟨RX7, "count", "(I)I"⟩
abbrev cX7_demand : ByteArray := prog_1_method_18_code
def yX7_demand : MethodName := ⟨RX7, "demand", "(Z)V"⟩
def RX8 : String := "SharedChoicesModel"
def TX8 : u_T := fun k => match k with
  | 0 => ("SharedChoicesModel", "thrown", "I", false)
  | 1 => ("SharedChoicesModel", "nodes", "I", false)
  | 2 => ("SharedChoicesModel", "sorts", "[I", true)
  | 3 => ("SharedChoicesModel", "words", "[J", true)
  | 4 => ("SharedChoicesModel", "ones", "[I", true)
  | 5 => ("SharedChoicesModel", "others", "[I", true)
  | 6 => ("SharedChoicesModel", "thirds", "[I", true)
  | 7 => ("SharedChoicesModel", "level", "I", false)
  | 8 => ("SharedChoicesModel", "inside", "[I", true)
  | 9 => ("SharedChoicesModel", "kinds", "[I", true)
  | 10 => ("SharedChoicesModel", "numbers", "[J", true)
  | 11 => ("SharedChoicesModel", "firsts", "[I", true)
  | 12 => ("SharedChoicesModel", "seconds", "[I", true)
  | 13 => ("SharedChoicesModel", "heapKinds", "[I", false)
  | 14 => ("SharedChoicesModel", "heap", "[J", false)
  | 15 => ("SharedChoicesModel", "heapTop", "I", false)
  | 16 => ("SharedChoicesModel", "alternatives", "[I", true)
  | 17 => ("SharedChoicesModel", "told", "[I", true)
  | 18 => ("SharedChoicesModel", "come", "[I", true)
  | 19 => ("SharedChoicesModel", "fullKinds", "[I", true)
  | 20 => ("SharedChoicesModel", "full", "[J", true)
  | 21 => ("SharedChoicesModel", "fullMany", "[I", true)
  | 22 => ("SharedChoicesModel", "listKinds", "[I", true)
  | 23 => ("SharedChoicesModel", "list", "[J", true)
  | 24 => ("SharedChoicesModel", "listMany", "[I", true)
  | 25 => ("SharedChoicesModel", "labour", "I", false)
  | 26 => ("SharedChoicesModel", "stop", "I", false)
  | 27 => ("SharedChoicesModel", "wanted", "I", false)
  | 28 => ("SharedChoicesModel", "wantedLevel", "I", false)
  | 29 => ("SharedChoicesModel", "searches", "Z", false)
  | 30 => ("SharedChoicesModel", "spent", "Z", false)
  | 31 => ("SharedChoicesModel", "goal", "I", false)
  | 32 => ("SharedChoicesModel", "mode", "I", false)
  | 33 => ("SharedChoicesModel", "bound", "I", false)
  | 34 => ("SharedChoicesModel", "window", "I", false)
  | 35 => ("SharedChoicesModel", "openRow", "[I", true)
  | 36 => ("SharedChoicesModel", "openSize", "[I", true)
  | 37 => ("SharedChoicesModel", "open", "I", false)
  | 38 => ("SharedChoicesModel", "laterRow", "[I", true)
  | 39 => ("SharedChoicesModel", "laterSize", "[I", true)
  | 40 => ("SharedChoicesModel", "later", "I", false)
  | 41 => ("SharedChoicesModel", "laterGone", "I", false)
  | 42 => ("SharedChoicesModel", "places", "I", false)
  | 43 => ("SharedChoicesModel", "values", "I", false)
  | 44 => ("SharedChoicesModel", "failures", "I", false)
  | 45 => ("SharedChoicesModel", "lost", "I", false)
  | 46 => ("SharedChoicesModel", "cuts", "I", false)
  | 47 => ("SharedChoicesModel", "valueLabour", "I", false)
  | 48 => ("SharedChoicesModel", "valueDecisions", "I", false)
  | 49 => ("SharedChoicesModel", "valueRow", "[I", true)
  | 50 => ("SharedChoicesModel", "valueTokens", "I", false)
  | 51 => ("SharedChoicesModel", "valueKinds", "[I", true)
  | _ => ("SharedChoicesModel", "valueNumbers", "[J", true)
def tyX8 : Nat → FieldType := fun k => match k with
  | 0 => .int
  | 1 => .int
  | 2 => .array .int
  | 3 => .array .long
  | 4 => .array .int
  | 5 => .array .int
  | 6 => .array .int
  | 7 => .int
  | 8 => .array .int
  | 9 => .array .int
  | 10 => .array .long
  | 11 => .array .int
  | 12 => .array .int
  | 13 => .array .int
  | 14 => .array .long
  | 15 => .int
  | 16 => .array .int
  | 17 => .array .int
  | 18 => .array .int
  | 19 => .array .int
  | 20 => .array .long
  | 21 => .array .int
  | 22 => .array .int
  | 23 => .array .long
  | 24 => .array .int
  | 25 => .int
  | 26 => .int
  | 27 => .int
  | 28 => .int
  | 29 => .boolean
  | 30 => .boolean
  | 31 => .int
  | 32 => .int
  | 33 => .int
  | 34 => .int
  | 35 => .array .int
  | 36 => .array .int
  | 37 => .int
  | 38 => .array .int
  | 39 => .array .int
  | 40 => .int
  | 41 => .int
  | 42 => .int
  | 43 => .int
  | 44 => .int
  | 45 => .int
  | 46 => .int
  | 47 => .int
  | 48 => .int
  | 49 => .array .int
  | 50 => .int
  | 51 => .array .int
  | _ => .array .long
abbrev wsX80 : List Cond := u_ws RX8 TX8 53
theorem nmX8 : ∀ a, a < 53 → ∀ b, b < 53 → a ≠ b → (TX8 a).2.1 ≠ (TX8 b).2.1 := by decide +kernel
theorem tyX8_ok : ∀ k, k < 53 → parseFieldDescriptor (TX8 k).2.2.1 = some (tyX8 k) := by decide +kernel
abbrev cX8_init : ByteArray := prog_10_method_1_code
def yX8_init : MethodName := ⟨RX8, "<init>", "()V"⟩
abbrev cX8_thrown : ByteArray := prog_10_method_2_code
def yX8_thrown : MethodName := ⟨RX8, "thrown", "()I"⟩
abbrev cX8_isNode : ByteArray := prog_10_method_3_code
def yX8_isNode : MethodName := ⟨RX8, "isNode", "(I)Z"⟩
abbrev cX8_make : ByteArray := prog_10_method_4_code
def yX8_make : MethodName := ⟨RX8, "make", "(IJIII)I"⟩
abbrev cX8_refused : ByteArray := prog_10_method_5_code
def yX8_refused : MethodName := ⟨RX8, "refused", "(Z)Z"⟩
abbrev cX8_number : ByteArray := prog_10_method_6_code
def yX8_number : MethodName := ⟨RX8, "number", "(J)I"⟩
abbrev cX8_choice : ByteArray := prog_10_method_7_code
def yX8_choice : MethodName := ⟨RX8, "choice", "(II)I"⟩
abbrev cX8_fail : ByteArray := prog_10_method_8_code
def yX8_fail : MethodName := ⟨RX8, "fail", "()I"⟩
abbrev cX8_pair : ByteArray := prog_10_method_9_code
def yX8_pair : MethodName := ⟨RX8, "pair", "(II)I"⟩
abbrev cX8_part : ByteArray := prog_10_method_10_code
def yX8_part : MethodName := ⟨RX8, "part", "(IZ)I"⟩
abbrev cX8_op : ByteArray := prog_10_method_11_code
def yX8_op : MethodName := ⟨RX8, "op", "(III)I"⟩
abbrev cX8_when : ByteArray := prog_10_method_12_code
def yX8_when : MethodName := ⟨RX8, "when", "(III)I"⟩
abbrev cX8_set : ByteArray := prog_10_method_13_code
def yX8_set : MethodName := ⟨RX8, "set", "(II)I"⟩
abbrev cX8_fold : ByteArray := prog_10_method_14_code
def yX8_fold : MethodName := ⟨RX8, "fold", "(II)I"⟩
abbrev cX8_clear : ByteArray := prog_10_method_15_code
def yX8_clear : MethodName := ⟨RX8, "clear", "()I"⟩
abbrev cX8_node : ByteArray := prog_10_method_16_code
def yX8_node : MethodName := ⟨RX8, "node", "(II)I"⟩
abbrev cX8_levelOf : ByteArray := prog_10_method_17_code
def yX8_levelOf : MethodName := ⟨RX8, "levelOf", "(I)I"⟩
abbrev cX8_cellOf : ByteArray := prog_10_method_18_code
def yX8_cellOf : MethodName := ⟨RX8, "cellOf", "(I)I"⟩
abbrev cX8_beginWay : ByteArray := prog_10_method_19_code
def yX8_beginWay : MethodName := ⟨RX8, "beginWay", "()V"⟩
abbrev cX8_need : ByteArray := prog_10_method_20_code
def yX8_need : MethodName := ⟨RX8, "need", "(I)V"⟩
abbrev cX8_workOut : ByteArray := prog_10_method_21_code
def yX8_workOut : MethodName := ⟨RX8, "workOut", "(I)V"⟩
abbrev cX8_tell : ByteArray := prog_10_method_22_code
def yX8_tell : MethodName := ⟨RX8, "tell", "(IJ)V"⟩
abbrev cX8_needAs : ByteArray := prog_10_method_23_code
def yX8_needAs : MethodName := ⟨RX8, "needAs", "(II)V"⟩
abbrev cX8_take : ByteArray := prog_10_method_24_code
def yX8_take : MethodName := ⟨RX8, "take", "(II)V"⟩
abbrev cX8_choose : ByteArray := prog_10_method_25_code
def yX8_choose : MethodName := ⟨RX8, "choose", "(II)V"⟩
abbrev cX8_reckon : ByteArray := prog_10_method_26_code
def yX8_reckon : MethodName := ⟨RX8, "reckon", "(II)V"⟩
abbrev cX8_foldUp : ByteArray := prog_10_method_27_code
def yX8_foldUp : MethodName := ⟨RX8, "foldUp", "(II)V"⟩
abbrev cX8_token : ByteArray := prog_10_method_28_code
def yX8_token : MethodName := ⟨RX8, "token", "(IJ)V"⟩
abbrev cX8_tellFull : ByteArray := prog_10_method_29_code
def yX8_tellFull : MethodName := ⟨RX8, "tellFull", "(I)V"⟩
abbrev cX8_behind : ByteArray := prog_10_method_30_code
def yX8_behind : MethodName := ⟨RX8, "behind", "(I)I"⟩
abbrev cX8_goAll : ByteArray := prog_10_method_31_code
def yX8_goAll : MethodName := ⟨RX8, "goAll", "(II)V"⟩
abbrev cX8_collect : ByteArray := prog_10_method_32_code
def yX8_collect : MethodName := ⟨RX8, "collect", "()V"⟩
abbrev cX8_nextWay : ByteArray := prog_10_method_33_code
def yX8_nextWay : MethodName := ⟨RX8, "nextWay", "()Z"⟩
abbrev cX8_keep : ByteArray := prog_10_method_34_code
def yX8_keep : MethodName := ⟨RX8, "keep", "(IJ)V"⟩
abbrev cX8_lay : ByteArray := prog_10_method_35_code
def yX8_lay : MethodName := ⟨RX8, "lay", "(IJ)V"⟩
abbrev cX8_forget : ByteArray := prog_10_method_36_code
def yX8_forget : MethodName := ⟨RX8, "forget", "()V"⟩
abbrev cX8_ask : ByteArray := prog_10_method_37_code
def yX8_ask : MethodName := ⟨RX8, "ask", "(III)V"⟩
abbrev cX8_go : ByteArray := prog_10_method_38_code
def yX8_go : MethodName := ⟨RX8, "go", "(I)V"⟩
abbrev cX8_next : ByteArray := prog_10_method_39_code
def yX8_next : MethodName := ⟨RX8, "next", "()I"⟩
abbrev cX8_fetch : ByteArray := prog_10_method_40_code
def yX8_fetch : MethodName := ⟨RX8, "fetch", "()I"⟩
abbrev cX8_decide : ByteArray := prog_10_method_41_code
def yX8_decide : MethodName := ⟨RX8, "decide", "(I)V"⟩
abbrev cX8_copy : ByteArray := prog_10_method_42_code
def yX8_copy : MethodName := ⟨RX8, "copy", "([IIII)V"⟩
abbrev cX8_ends : ByteArray := prog_10_method_43_code
def yX8_ends : MethodName := ⟨RX8, "ends", "(I)Z"⟩
abbrev cX8_decision : ByteArray := prog_10_method_44_code
def yX8_decision : MethodName := ⟨RX8, "decision", "(I)I"⟩
abbrev cX8_token_ : ByteArray := prog_10_method_45_code
def yX8_token_ : MethodName := ⟨RX8, "token", "(II)J"⟩
abbrev cX8_count : ByteArray := prog_10_method_46_code
def yX8_count : MethodName := ⟨RX8, "count", "(I)I"⟩
def RJx8e188 : String := "java/lang/Cloneable"
def TJx8e188 : u_T := fun k => match k with
  | _ => ("", "", "", false)
def tyJx8e188 : Nat → FieldType := fun k => match k with
  | _ => .int
abbrev wsJx8e1880 : List Cond := u_ws RJx8e188 TJx8e188 0
theorem nmJx8e188 : ∀ a, a < 0 → ∀ b, b < 0 → a ≠ b → (TJx8e188 a).2.1 ≠ (TJx8e188 b).2.1 := by decide +kernel
theorem tyJx8e188_ok : ∀ k, k < 0 → parseFieldDescriptor (TJx8e188 k).2.2.1 = some (tyJx8e188 k) := by decide +kernel
def RJ9 : String := "java/lang/Math"
def TJ9 : u_T := fun k => match k with
  | _ => ("", "", "", false)
def tyJ9 : Nat → FieldType := fun k => match k with
  | _ => .int
abbrev wsJ90 : List Cond := u_ws RJ9 TJ9 0
theorem nmJ9 : ∀ a, a < 0 → ∀ b, b < 0 → a ≠ b → (TJ9 a).2.1 ≠ (TJ9 b).2.1 := by decide +kernel
theorem tyJ9_ok : ∀ k, k < 0 → parseFieldDescriptor (TJ9 k).2.2.1 = some (tyJ9 k) := by decide +kernel
abbrev cJ9_max_7cf53 : ByteArray := prog_15_method_65_code
def yJ9_max_7cf53 : MethodName := ⟨RJ9, "max", "(II)I"⟩
abbrev cJ9_min_7cf53 : ByteArray := prog_15_method_69_code
def yJ9_min_7cf53 : MethodName := ⟨RJ9, "min", "(II)I"⟩
abbrev cJ9_min_f86c9 : ByteArray := prog_15_method_70_code
def yJ9_min_f86c9 : MethodName := ⟨RJ9, "min", "(JJ)J"⟩
def RJ0 : String := "java/lang/String"
def TJ0 : u_T := fun k => match k with
  | _ => ("", "", "", false)
def tyJ0 : Nat → FieldType := fun k => match k with
  | _ => .int
abbrev wsJ00 : List Cond := u_ws RJ0 TJ0 0
theorem nmJ0 : ∀ a, a < 0 → ∀ b, b < 0 → a ≠ b → (TJ0 a).2.1 ≠ (TJ0 b).2.1 := by decide +kernel
theorem tyJ0_ok : ∀ k, k < 0 → parseFieldDescriptor (TJ0 k).2.2.1 = some (tyJ0 k) := by decide +kernel
def RJ10 : String := "java/lang/System"
def TJ10 : u_T := fun k => match k with
  | _ => ("", "", "", false)
def tyJ10 : Nat → FieldType := fun k => match k with
  | _ => .int
abbrev wsJ100 : List Cond := u_ws RJ10 TJ10 0
theorem nmJ10 : ∀ a, a < 0 → ∀ b, b < 0 → a ≠ b → (TJ10 a).2.1 ≠ (TJ10 b).2.1 := by decide +kernel
theorem tyJ10_ok : ∀ k, k < 0 → parseFieldDescriptor (TJ10 k).2.2.1 = some (tyJ10 k) := by decide +kernel
def RJ7 : String := "java/util/Arrays"
def TJ7 : u_T := fun k => match k with
  | _ => ("", "", "", false)
def tyJ7 : Nat → FieldType := fun k => match k with
  | _ => .int
abbrev wsJ70 : List Cond := u_ws RJ7 TJ7 0
theorem nmJ7 : ∀ a, a < 0 → ∀ b, b < 0 → a ≠ b → (TJ7 a).2.1 ≠ (TJ7 b).2.1 := by decide +kernel
theorem tyJ7_ok : ∀ k, k < 0 → parseFieldDescriptor (TJ7 k).2.2.1 = some (tyJ7 k) := by decide +kernel
abbrev cJ7_fill_53178 : ByteArray := prog_20_method_103_code
def yJ7_fill_53178 : MethodName := ⟨RJ7, "fill", "([II)V"⟩
abbrev cJ7_copyOf_59c91 : ByteArray := prog_20_method_123_code
def yJ7_copyOf_59c91 : MethodName := ⟨RJ7, "copyOf", "([II)[I"⟩
abbrev cJ7_copyOf_c38d5 : ByteArray := prog_20_method_124_code
def yJ7_copyOf_c38d5 : MethodName := ⟨RJ7, "copyOf", "([JI)[J"⟩
def RL : String := "SharedChoicesLaw"
abbrev cL_choice : ByteArray := method_3_code
def yL_choice : MethodName := ⟨RL, "choice", "(LSharedChoices;II[J)I"⟩
abbrev cL_pair : ByteArray := method_4_code
def yL_pair : MethodName := ⟨RL, "pair", "(LSharedChoices;II[J)I"⟩
abbrev cL_part : ByteArray := method_5_code
def yL_part : MethodName := ⟨RL, "part", "(LSharedChoices;IZ[J)I"⟩
abbrev cL_op : ByteArray := method_6_code
def yL_op : MethodName := ⟨RL, "op", "(LSharedChoices;III[J)I"⟩
abbrev cL_when : ByteArray := method_7_code
def yL_when : MethodName := ⟨RL, "when", "(LSharedChoices;III[J)I"⟩
abbrev cL_set : ByteArray := method_8_code
def yL_set : MethodName := ⟨RL, "set", "(LSharedChoices;II[J)I"⟩
abbrev cL_fold : ByteArray := method_9_code
def yL_fold : MethodName := ⟨RL, "fold", "(LSharedChoices;II[J)I"⟩
abbrev cL_node : ByteArray := method_10_code
def yL_node : MethodName := ⟨RL, "node", "(LSharedChoices;II[J)I"⟩
abbrev cL_ask : ByteArray := method_11_code
def yL_ask : MethodName := ⟨RL, "ask", "(LSharedChoices;III)I"⟩
abbrev cL_next : ByteArray := method_12_code
def yL_next : MethodName := ⟨RL, "next", "(LSharedChoices;[J)I"⟩
abbrev cL_token : ByteArray := method_13_code
def yL_token : MethodName := ⟨RL, "token", "(LSharedChoices;II[J)I"⟩
abbrev cL_law : ByteArray := code
def yL_law : MethodName := ⟨RL, "law", "([I)Z"⟩
def wsL_law0_r1 : List Cond := [Cond.classLink RL 8 RX7, Cond.instantiable RX7 2, Cond.initialized RX7, Cond.classLink RL 55 RX8, Cond.instantiable RX8 53, Cond.initialized RX8, Cond.arrayClass .long, Cond.constantLong RL 58 (4294967295), Cond.methodLink RL 54 yX7_init, Cond.instanceMethod yX7_init, Cond.code yX7_init cX7_init 2 none, Cond.methodLink RX7 1 objectInit, Cond.instanceMethod objectInit, Cond.code objectInit ⟨#[0xb1]⟩ 1 none, Cond.classLink RX7 7 RX2, Cond.instantiable RX2 6, Cond.initialized RX2, Cond.fieldLink RX7 10 "SharedChoices" "nodes" "LSharedChoices$Nodes;", Cond.classLink RX7 16 RX3, Cond.instantiable RX3 15, Cond.initialized RX3, Cond.fieldLink RX7 21 "SharedChoices" "search" "LSharedChoices$Search;", Cond.instanceMethod yX2_init, Cond.code yX2_init cX2_init 1 none]
def wsL_law0_r2 : List Cond := [Cond.methodLink RX2 3 objectInit, Cond.arrayClass .int, Cond.fieldLink RX2 9 "SharedChoices$Nodes" "sorts" "[I", Cond.fieldLink RX2 15 "SharedChoices$Nodes" "firsts" "[I", Cond.fieldLink RX2 18 "SharedChoices$Nodes" "seconds" "[I", Cond.fieldLink RX2 21 "SharedChoices$Nodes" "thirds" "[I", Cond.fieldLink RX2 24 "SharedChoices$Nodes" "numbers" "[J", Cond.methodLink RX7 18 yX3_init, Cond.instanceMethod yX3_init, Cond.code yX3_init cX3_init 2 none, Cond.methodLink RX3 3 objectInit, Cond.classLink RX3 9 RX1, Cond.instantiable RX1 4, Cond.initialized RX1, Cond.fieldLink RX3 12 "SharedChoices$Search" "latest" "LSharedChoices$Latest;", Cond.classLink RX3 18 RX0, Cond.instantiable RX0 3, Cond.initialized RX0, Cond.fieldLink RX3 21 "SharedChoices$Search" "pending" "LSharedChoices$Beginnings;", Cond.fieldLink RX3 25 "SharedChoices$Search" "later" "LSharedChoices$Beginnings;", Cond.fieldLink RX3 28 "SharedChoices$Search" "bound" "I", Cond.classLink RX3 32 RX6, Cond.instantiable RX6 10, Cond.initialized RX6]
def wsL_law0_r3 : List Cond := [Cond.fieldLink RX3 37 "SharedChoices$Search" "work" "LSharedChoices$Work;", Cond.instanceMethod yX1_init, Cond.code yX1_init cX1_init 1 none, Cond.methodLink RX1 3 objectInit, Cond.classLink RX1 9 RX4, Cond.instantiable RX4 4, Cond.initialized RX4, Cond.fieldLink RX1 14 "SharedChoices$Latest" "tokens" "LSharedChoices$Tokens;", Cond.methodLink RX1 11 yX4_init, Cond.instanceMethod yX4_init, Cond.code yX4_init cX4_init 2 none, Cond.methodLink RX4 3 objectInit, Cond.fieldLink RX4 11 "SharedChoices$Tokens" "kinds" "[I", Cond.fieldLink RX4 15 "SharedChoices$Tokens" "numbers" "[J", Cond.fieldLink RX4 19 "SharedChoices$Tokens" "limit" "I", Cond.instanceMethod yX0_init, Cond.code yX0_init cX0_init 1 none, Cond.methodLink RX0 3 objectInit, Cond.fieldLink RX0 9 "SharedChoices$Beginnings" "alternatives" "[J", Cond.fieldLink RX0 15 "SharedChoices$Beginnings" "lengths" "[I", Cond.methodLink RX3 34 yX6_init, Cond.instanceMethod yX6_init, Cond.code yX6_init cX6_init 2 none, Cond.methodLink RX6 3 objectInit]
def wsL_law0_r4 : List Cond := [Cond.classLink RX6 9 RX5, Cond.instantiable RX5 12, Cond.initialized RX5, Cond.fieldLink RX6 14 "SharedChoices$Work" "outermost" "LSharedChoices$Way;", Cond.fieldLink RX6 20 "SharedChoices$Work" "current" "LSharedChoices$Way;", Cond.classLink RX6 23 RX4, Cond.constant RX6 25 (36000), Cond.fieldLink RX6 29 "SharedChoices$Work" "lists" "LSharedChoices$Tokens;", Cond.fieldLink RX6 33 "SharedChoices$Work" "neededIn" "LSharedChoices$Way;", Cond.fieldLink RX6 36 "SharedChoices$Work" "nodes" "LSharedChoices$Nodes;", Cond.methodLink RX6 11 yX5_init, Cond.instanceMethod yX5_init, Cond.code yX5_init cX5_init 2 none, Cond.methodLink RX5 3 objectInit, Cond.fieldLink RX5 9 "SharedChoices$Way" "kinds" "[I", Cond.fieldLink RX5 15 "SharedChoices$Way" "numbers" "[J", Cond.fieldLink RX5 19 "SharedChoices$Way" "lengths" "[I", Cond.classLink RX5 22 RX4, Cond.fieldLink RX5 27 "SharedChoices$Way" "tokens" "LSharedChoices$Tokens;", Cond.fieldLink RX5 31 "SharedChoices$Way" "around" "LSharedChoices$Way;", Cond.methodLink RX5 24 yX4_init, Cond.methodLink RX6 26 yX4_init, Cond.methodLink RX6 40 yX5_nest, Cond.instanceMethod yX5_nest]
def wsL_law0_r5 : List Cond := [Cond.selects RX5 yX5_nest yX5_nest, Cond.code yX5_nest cX5_nest 4 none, Cond.classLink RX5 10 RX5, Cond.fieldLink RX5 35 "SharedChoices$Way" "inner" "LSharedChoices$Way;", Cond.methodLink RX5 38 yX5_init, Cond.methodLink RL 57 yX8_init, Cond.instanceMethod yX8_init, Cond.code yX8_init cX8_init 1 none, Cond.methodLink RX8 1 objectInit, Cond.fieldLink RX8 9 "SharedChoicesModel" "sorts" "[I", Cond.fieldLink RX8 13 "SharedChoicesModel" "words" "[J", Cond.fieldLink RX8 17 "SharedChoicesModel" "ones" "[I", Cond.fieldLink RX8 20 "SharedChoicesModel" "others" "[I", Cond.fieldLink RX8 23 "SharedChoicesModel" "thirds" "[I", Cond.fieldLink RX8 26 "SharedChoicesModel" "inside" "[I", Cond.fieldLink RX8 29 "SharedChoicesModel" "kinds" "[I", Cond.fieldLink RX8 32 "SharedChoicesModel" "numbers" "[J", Cond.fieldLink RX8 35 "SharedChoicesModel" "firsts" "[I", Cond.fieldLink RX8 38 "SharedChoicesModel" "seconds" "[I", Cond.fieldLink RX8 41 "SharedChoicesModel" "heapKinds" "[I", Cond.fieldLink RX8 44 "SharedChoicesModel" "heap" "[J", Cond.fieldLink RX8 47 "SharedChoicesModel" "alternatives" "[I", Cond.fieldLink RX8 50 "SharedChoicesModel" "told" "[I", Cond.fieldLink RX8 53 "SharedChoicesModel" "come" "[I"]
def wsL_law0_r6 : List Cond := [Cond.fieldLink RX8 56 "SharedChoicesModel" "fullKinds" "[I", Cond.fieldLink RX8 59 "SharedChoicesModel" "full" "[J", Cond.fieldLink RX8 62 "SharedChoicesModel" "fullMany" "[I", Cond.fieldLink RX8 65 "SharedChoicesModel" "listKinds" "[I", Cond.fieldLink RX8 68 "SharedChoicesModel" "list" "[J", Cond.fieldLink RX8 71 "SharedChoicesModel" "listMany" "[I", Cond.constant RX8 74 (65536), Cond.fieldLink RX8 75 "SharedChoicesModel" "openRow" "[I", Cond.fieldLink RX8 78 "SharedChoicesModel" "openSize" "[I", Cond.constant RX8 81 (131072), Cond.fieldLink RX8 82 "SharedChoicesModel" "laterRow" "[I", Cond.fieldLink RX8 85 "SharedChoicesModel" "laterSize" "[I", Cond.fieldLink RX8 88 "SharedChoicesModel" "valueRow" "[I", Cond.fieldLink RX8 91 "SharedChoicesModel" "valueKinds" "[I", Cond.fieldLink RX8 94 "SharedChoicesModel" "valueNumbers" "[J", Cond.methodLink RL 60 yX7_number, Cond.instanceMethod yX7_number, Cond.selects RX7 yX7_number yX7_number, Cond.code yX7_number cX7_number 3 (some .int), Cond.methodLink RX7 25 yX2_addNumber, Cond.instanceMethod yX2_addNumber, Cond.selects RX2 yX2_addNumber yX2_addNumber, Cond.code yX2_addNumber cX2_addNumber 4 (some .int), Cond.methodLink RX2 32 yX2_add]
def wsL_law0_r7 : List Cond := [Cond.instanceMethod yX2_add, Cond.selects RX2 yX2_add yX2_add, Cond.code yX2_add cX2_add 6 (some .int), Cond.fieldLink RX2 28 "SharedChoices$Nodes" "size" "I", Cond.methodLink RL 64 yX8_number, Cond.instanceMethod yX8_number, Cond.selects RX8 yX8_number yX8_number, Cond.code yX8_number cX8_number 3 (some .int), Cond.fieldLink RX8 97 "SharedChoicesModel" "thrown" "I", Cond.methodLink RX8 104 yX8_make, Cond.instanceMethod yX8_make, Cond.selects RX8 yX8_make yX8_make, Cond.code yX8_make cX8_make 7 (some .int), Cond.fieldLink RX8 101 "SharedChoicesModel" "nodes" "I", Cond.methodLink RL 65 yL_choice, Cond.static yL_choice, Cond.initialized RL, Cond.codeWith yL_choice cL_choice 5 (some .int) [(0, 10, 13, 13)], Cond.classLink RL 13 "java/lang/IllegalArgumentException", Cond.methodLink RL 7 yX7_choice, Cond.instanceMethod yX7_choice, Cond.selects RX7 yX7_choice yX7_choice, Cond.code yX7_choice cX7_choice 3 (some .int), Cond.methodLink RX7 29 yX2_has]
def wsL_law0_r8 : List Cond := [Cond.instanceMethod yX2_has, Cond.selects RX2 yX2_has yX2_has, Cond.code yX2_has cX2_has 2 (some .boolean), Cond.methodLink RX7 33 yX7_demand, Cond.static yX7_demand, Cond.code yX7_demand cX7_demand 1 none, Cond.classLink RX7 132 "java/lang/IllegalArgumentException", Cond.initialized "java/lang/IllegalArgumentException", Cond.methodLink RX7 37 yX2_add, Cond.methodLink RL 70 yX8_choice, Cond.instanceMethod yX8_choice, Cond.selects RX8 yX8_choice yX8_choice, Cond.code yX8_choice cX8_choice 3 (some .int), Cond.methodLink RX8 108 yX8_isNode, Cond.instanceMethod yX8_isNode, Cond.selects RX8 yX8_isNode yX8_isNode, Cond.code yX8_isNode cX8_isNode 2 (some .boolean), Cond.methodLink RX8 112 yX8_refused, Cond.instanceMethod yX8_refused, Cond.selects RX8 yX8_refused yX8_refused, Cond.code yX8_refused cX8_refused 2 (some .boolean), Cond.methodLink RL 71 yX8_thrown, Cond.instanceMethod yX8_thrown, Cond.selects RX8 yX8_thrown yX8_thrown]
def wsL_law0_r9 : List Cond := [Cond.code yX8_thrown cX8_thrown 1 (some .int), Cond.methodLink RL 74 yX7_fail, Cond.instanceMethod yX7_fail, Cond.selects RX7 yX7_fail yX7_fail, Cond.code yX7_fail cX7_fail 1 (some .int), Cond.methodLink RL 77 yX8_fail, Cond.instanceMethod yX8_fail, Cond.selects RX8 yX8_fail yX8_fail, Cond.code yX8_fail cX8_fail 1 (some .int), Cond.methodLink RL 78 yL_pair, Cond.static yL_pair, Cond.codeWith yL_pair cL_pair 5 (some .int) [(0, 10, 13, 13)], Cond.methodLink RL 15 yX7_pair, Cond.instanceMethod yX7_pair, Cond.selects RX7 yX7_pair yX7_pair, Cond.code yX7_pair cX7_pair 3 (some .int), Cond.methodLink RL 80 yX8_pair, Cond.instanceMethod yX8_pair, Cond.selects RX8 yX8_pair yX8_pair, Cond.code yX8_pair cX8_pair 3 (some .int), Cond.methodLink RL 81 yL_part, Cond.static yL_part, Cond.codeWith yL_part cL_part 5 (some .int) [(0, 10, 13, 13)], Cond.methodLink RL 18 yX7_part]
def wsL_law0_r10 : List Cond := [Cond.instanceMethod yX7_part, Cond.selects RX7 yX7_part yX7_part, Cond.code yX7_part cX7_part 3 (some .int), Cond.methodLink RL 84 yX8_part, Cond.instanceMethod yX8_part, Cond.selects RX8 yX8_part yX8_part, Cond.code yX8_part cX8_part 3 (some .int), Cond.methodLink RL 85 yL_op, Cond.static yL_op, Cond.codeWith yL_op cL_op 6 (some .int) [(0, 12, 15, 13)], Cond.methodLink RL 22 yX7_op, Cond.instanceMethod yX7_op, Cond.selects RX7 yX7_op yX7_op, Cond.code yX7_op cX7_op 4 (some .int), Cond.methodLink RL 88 yX8_op, Cond.instanceMethod yX8_op, Cond.selects RX8 yX8_op yX8_op, Cond.code yX8_op cX8_op 4 (some .int), Cond.methodLink RL 89 yL_when, Cond.static yL_when, Cond.codeWith yL_when cL_when 6 (some .int) [(0, 12, 15, 13)], Cond.methodLink RL 26 yX7_when, Cond.instanceMethod yX7_when, Cond.selects RX7 yX7_when yX7_when]
def wsL_law0_r11 : List Cond := [Cond.code yX7_when cX7_when 4 (some .int), Cond.methodLink RL 91 yX8_when, Cond.instanceMethod yX8_when, Cond.selects RX8 yX8_when yX8_when, Cond.code yX8_when cX8_when 4 (some .int), Cond.methodLink RL 92 yL_set, Cond.static yL_set, Cond.codeWith yL_set cL_set 5 (some .int) [(0, 10, 13, 13)], Cond.methodLink RL 29 yX7_set, Cond.instanceMethod yX7_set, Cond.selects RX7 yX7_set yX7_set, Cond.code yX7_set cX7_set 3 (some .int), Cond.methodLink RX7 41 yX2_size, Cond.instanceMethod yX2_size, Cond.selects RX2 yX2_size yX2_size, Cond.code yX2_size cX2_size 1 (some .int), Cond.methodLink RL 94 yX8_set, Cond.instanceMethod yX8_set, Cond.selects RX8 yX8_set yX8_set, Cond.code yX8_set cX8_set 3 (some .int), Cond.methodLink RL 95 yL_fold, Cond.static yL_fold, Cond.codeWith yL_fold cL_fold 5 (some .int) [(0, 10, 13, 13)], Cond.methodLink RL 32 yX7_fold]
def wsL_law0_r12 : List Cond := [Cond.instanceMethod yX7_fold, Cond.selects RX7 yX7_fold yX7_fold, Cond.code yX7_fold cX7_fold 3 (some .int), Cond.methodLink RL 97 yX8_fold, Cond.instanceMethod yX8_fold, Cond.selects RX8 yX8_fold yX8_fold, Cond.code yX8_fold cX8_fold 3 (some .int), Cond.methodLink RL 98 yX7_clear, Cond.instanceMethod yX7_clear, Cond.selects RX7 yX7_clear yX7_clear, Cond.code yX7_clear cX7_clear 2 (some .int), Cond.methodLink RX7 45 yX2_forget, Cond.instanceMethod yX2_forget, Cond.selects RX2 yX2_forget yX2_forget, Cond.code yX2_forget cX2_forget 1 none, Cond.methodLink RX7 48 yX3_forget, Cond.instanceMethod yX3_forget, Cond.selects RX3 yX3_forget yX3_forget, Cond.code yX3_forget cX3_forget 1 none, Cond.fieldLink RX3 41 "SharedChoices$Search" "there" "Z", Cond.fieldLink RX3 60 "SharedChoices$Search" "spent" "Z", Cond.fieldLink RX3 45 "SharedChoices$Search" "places" "I", Cond.fieldLink RX3 48 "SharedChoices$Search" "values" "I", Cond.fieldLink RX3 51 "SharedChoices$Search" "failed" "I"]
def wsL_law0_r13 : List Cond := [Cond.fieldLink RX3 54 "SharedChoices$Search" "givenUp" "I", Cond.fieldLink RX3 57 "SharedChoices$Search" "cut" "I", Cond.methodLink RX3 63 yX0_forget, Cond.instanceMethod yX0_forget, Cond.selects RX0 yX0_forget yX0_forget, Cond.code yX0_forget cX0_forget 1 none, Cond.fieldLink RX0 19 "SharedChoices$Beginnings" "size" "I", Cond.methodLink RX3 66 yX1_forget, Cond.instanceMethod yX1_forget, Cond.selects RX1 yX1_forget yX1_forget, Cond.code yX1_forget cX1_forget 1 none, Cond.fieldLink RX1 27 "SharedChoices$Latest" "alternatives" "J", Cond.fieldLink RX1 20 "SharedChoices$Latest" "decisions" "I", Cond.fieldLink RX1 24 "SharedChoices$Latest" "labour" "I", Cond.methodLink RX1 31 yX4_cutTo, Cond.instanceMethod yX4_cutTo, Cond.selects RX4 yX4_cutTo yX4_cutTo, Cond.code yX4_cutTo cX4_cutTo 2 none, Cond.fieldLink RX4 23 "SharedChoices$Tokens" "size" "I", Cond.methodLink RL 101 yX8_clear, Cond.instanceMethod yX8_clear, Cond.selects RX8 yX8_clear yX8_clear, Cond.code yX8_clear cX8_clear 2 (some .int), Cond.methodLink RX8 116 yX8_forget]
def wsL_law0_r14 : List Cond := [Cond.instanceMethod yX8_forget, Cond.selects RX8 yX8_forget yX8_forget, Cond.code yX8_forget cX8_forget 1 none, Cond.fieldLink RX8 203 "SharedChoicesModel" "searches" "Z", Cond.fieldLink RX8 207 "SharedChoicesModel" "spent" "Z", Cond.fieldLink RX8 210 "SharedChoicesModel" "window" "I", Cond.fieldLink RX8 213 "SharedChoicesModel" "open" "I", Cond.fieldLink RX8 216 "SharedChoicesModel" "later" "I", Cond.fieldLink RX8 219 "SharedChoicesModel" "laterGone" "I", Cond.fieldLink RX8 222 "SharedChoicesModel" "places" "I", Cond.fieldLink RX8 225 "SharedChoicesModel" "values" "I", Cond.fieldLink RX8 228 "SharedChoicesModel" "failures" "I", Cond.fieldLink RX8 231 "SharedChoicesModel" "lost" "I", Cond.fieldLink RX8 234 "SharedChoicesModel" "cuts" "I", Cond.fieldLink RX8 237 "SharedChoicesModel" "valueLabour" "I", Cond.fieldLink RX8 240 "SharedChoicesModel" "valueDecisions" "I", Cond.fieldLink RX8 243 "SharedChoicesModel" "valueTokens" "I", Cond.methodLink RL 102 yL_node, Cond.static yL_node, Cond.codeWith yL_node cL_node 5 (some .int) [(0, 10, 13, 38)], Cond.classLink RL 38 "java/util/NoSuchElementException", Cond.methodLink RL 35 yX7_node, Cond.instanceMethod yX7_node, Cond.selects RX7 yX7_node yX7_node]
def wsL_law0_r15 : List Cond := [Cond.code yX7_node cX7_node 3 (some .int), Cond.classLink RX7 49 "java/util/NoSuchElementException", Cond.initialized "java/util/NoSuchElementException", Cond.methodLink RX7 56 yX2_sortOf, Cond.instanceMethod yX2_sortOf, Cond.selects RX2 yX2_sortOf yX2_sortOf, Cond.code yX2_sortOf cX2_sortOf 2 (some .int), Cond.methodLink RX2 36 yX2_has, Cond.methodLink RX7 60 yX2_firstOf, Cond.instanceMethod yX2_firstOf, Cond.selects RX2 yX2_firstOf yX2_firstOf, Cond.code yX2_firstOf cX2_firstOf 2 (some .int), Cond.methodLink RX7 63 yX2_secondOf, Cond.instanceMethod yX2_secondOf, Cond.selects RX2 yX2_secondOf yX2_secondOf, Cond.code yX2_secondOf cX2_secondOf 2 (some .int), Cond.methodLink RX7 66 yX2_thirdOf, Cond.instanceMethod yX2_thirdOf, Cond.selects RX2 yX2_thirdOf yX2_thirdOf, Cond.code yX2_thirdOf cX2_thirdOf 2 (some .int), Cond.methodLink RL 104 yX8_node, Cond.instanceMethod yX8_node, Cond.selects RX8 yX8_node yX8_node, Cond.code yX8_node cX8_node 3 (some .int)]
def wsL_law0_r16 : List Cond := [Cond.methodLink RL 105 yL_ask, Cond.static yL_ask, Cond.codeWith yL_ask cL_ask 5 (some .int) [(0, 7, 10, 13)], Cond.methodLink RL 40 yX7_ask, Cond.instanceMethod yX7_ask, Cond.selects RX7 yX7_ask yX7_ask, Cond.code yX7_ask cX7_ask 4 none, Cond.methodLink RX7 69 yX3_begin, Cond.instanceMethod yX3_begin, Cond.selects RX3 yX3_begin yX3_begin, Cond.code yX3_begin cX3_begin 4 none, Cond.fieldLink RX3 68 "SharedChoices$Search" "goal" "I", Cond.fieldLink RX3 71 "SharedChoices$Search" "mode" "I", Cond.fieldLink RX3 74 "SharedChoices$Search" "windowEnd" "I", Cond.methodLink RX3 67 yX3_forget, Cond.methodLink RX3 77 yX0_put, Cond.instanceMethod yX0_put, Cond.selects RX0 yX0_put yX0_put, Cond.code yX0_put cX0_put 4 none, Cond.methodLink RL 108 yX8_ask, Cond.instanceMethod yX8_ask, Cond.selects RX8 yX8_ask yX8_ask, Cond.code yX8_ask cX8_ask 4 none, Cond.fieldLink RX8 246 "SharedChoicesModel" "goal" "I"]
def wsL_law0_r17 : List Cond := [Cond.fieldLink RX8 249 "SharedChoicesModel" "mode" "I", Cond.fieldLink RX8 252 "SharedChoicesModel" "bound" "I", Cond.methodLink RL 109 yL_next, Cond.static yL_next, Cond.codeWith yL_next cL_next 3 (some .int) [(0, 8, 11, 48)], Cond.classLink RL 48 "java/lang/IllegalStateException", Cond.methodLink RL 44 yX7_next, Cond.instanceMethod yX7_next, Cond.selects RX7 yX7_next yX7_next, Cond.code yX7_next cX7_next 1 (some .int), Cond.classLink RX7 77 "java/lang/IllegalStateException", Cond.initialized "java/lang/IllegalStateException", Cond.methodLink RX7 73 yX3_isThere, Cond.instanceMethod yX3_isThere, Cond.selects RX3 yX3_isThere yX3_isThere, Cond.code yX3_isThere cX3_isThere 1 (some .boolean), Cond.methodLink RX7 82 yX3_goOn, Cond.instanceMethod yX3_goOn, Cond.selects RX3 yX3_goOn yX3_goOn, Cond.code yX3_goOn cX3_goOn 2 (some .int), Cond.methodLink RX3 81 yX0_isEmpty, Cond.instanceMethod yX0_isEmpty, Cond.selects RX0 yX0_isEmpty yX0_isEmpty, Cond.code yX0_isEmpty cX0_isEmpty 1 (some .boolean)]
def wsL_law0_r18 : List Cond := [Cond.methodLink RX3 85 yX3_openNextWindow, Cond.instanceMethod yX3_openNextWindow, Cond.selects RX3 yX3_openNextWindow yX3_openNextWindow, Cond.code yX3_openNextWindow cX3_openNextWindow 1 none, Cond.methodLink RX3 91 yX0_takeAllOf, Cond.instanceMethod yX0_takeAllOf, Cond.selects RX0 yX0_takeAllOf yX0_takeAllOf, Cond.code yX0_takeAllOf cX0_takeAllOf 3 none, Cond.methodLink RX0 23 yX0_lastAlternatives, Cond.instanceMethod yX0_lastAlternatives, Cond.selects RX0 yX0_lastAlternatives yX0_lastAlternatives, Cond.code yX0_lastAlternatives cX0_lastAlternatives 1 (some .long), Cond.methodLink RX0 27 yX0_lastLength, Cond.instanceMethod yX0_lastLength, Cond.selects RX0 yX0_lastLength yX0_lastLength, Cond.code yX0_lastLength cX0_lastLength 1 (some .int), Cond.methodLink RX0 31 yX0_put, Cond.methodLink RX0 35 yX0_dropLast, Cond.instanceMethod yX0_dropLast, Cond.selects RX0 yX0_dropLast yX0_dropLast, Cond.code yX0_dropLast cX0_dropLast 1 none, Cond.methodLink RX3 88 yX3_comesToValue, Cond.instanceMethod yX3_comesToValue, Cond.selects RX3 yX3_comesToValue yX3_comesToValue]
def wsL_law0_r19 : List Cond := [Cond.code yX3_comesToValue cX3_comesToValue 7 (some .boolean), Cond.methodLink RX3 109 Lib.Math.min.name, Cond.static Lib.Math.min.name, Cond.initialized "java/lang/Math", Cond.code Lib.Math.min.name Lib.Math.min.code 2 (some .int), Cond.methodLink RX3 95 yX0_lastAlternatives, Cond.methodLink RX3 99 yX0_lastLength, Cond.methodLink RX3 103 yX0_dropLast, Cond.methodLink RX3 106 yX3_mostDecisions, Cond.instanceMethod yX3_mostDecisions, Cond.selects RX3 yX3_mostDecisions yX3_mostDecisions, Cond.code yX3_mostDecisions cX3_mostDecisions 1 (some .int), Cond.methodLink RX3 115 yX6_goWay, Cond.instanceMethod yX6_goWay, Cond.selects RX6 yX6_goWay yX6_goWay, Cond.code yX6_goWay cX6_goWay 5 (some .int), Cond.fieldLink RX6 43 "SharedChoices$Work" "labour" "I", Cond.methodLink RX6 55 yX4_cutTo, Cond.methodLink RX6 58 yX5_beginOfSearch, Cond.instanceMethod yX5_beginOfSearch, Cond.selects RX5 yX5_beginOfSearch yX5_beginOfSearch, Cond.code yX5_beginOfSearch cX5_beginOfSearch 4 none, Cond.fieldLink RX5 48 "SharedChoices$Way" "firstInside" "I", Cond.fieldLink RX5 51 "SharedChoices$Way" "alternatives" "J"]
def wsL_law0_r20 : List Cond := [Cond.fieldLink RX5 55 "SharedChoices$Way" "mostDecisions" "I", Cond.methodLink RX5 58 yX4_cutTo, Cond.methodLink RX5 61 yX5_begin, Cond.instanceMethod yX5_begin, Cond.selects RX5 yX5_begin yX5_begin, Cond.code yX5_begin cX5_begin 1 none, Cond.fieldLink RX5 41 "SharedChoices$Way" "decisions" "I", Cond.fieldLink RX5 72 "SharedChoices$Way" "valueStart" "I", Cond.methodLink RX5 68 yX4_size, Cond.instanceMethod yX4_size, Cond.selects RX4 yX4_size yX4_size, Cond.code yX4_size cX4_size 1 (some .int), Cond.methodLink RX5 75 yJ7_fill_53178, Cond.static yJ7_fill_53178, Cond.initialized RJ7, Cond.code yJ7_fill_53178 cJ7_fill_53178 4 none, Cond.methodLink RX6 62 yX6_tellInFull, Cond.instanceMethod yX6_tellInFull, Cond.selects RX6 yX6_tellInFull yX6_tellInFull, Cond.code yX6_tellInFull cX6_tellInFull 5 (some .int), Cond.fieldLink RX6 69 "SharedChoices$Work" "gotKind" "I", Cond.fieldLink RX6 72 "SharedChoices$Work" "got" "J", Cond.fieldLink RX6 80 "SharedChoices$Work" "gotLength" "I", Cond.constantLong RX6 87 (2)]
def wsL_law0_r21 : List Cond := [Cond.methodLink RX6 66 yX6_valueOf, Cond.instanceMethod yX6_valueOf, Cond.selects RX6 yX6_valueOf yX6_valueOf, Cond.methodLink RX6 76 yX5_tell, Cond.instanceMethod yX5_tell, Cond.selects RX5 yX5_tell yX5_tell, Cond.code yX5_tell cX5_tell 4 (some .boolean), Cond.methodLink RX5 64 yX4_add, Cond.instanceMethod yX4_add, Cond.selects RX4 yX4_add yX4_add, Cond.code yX4_add cX4_add 4 (some .boolean), Cond.methodLink RX4 30 yX4_makeRoom, Cond.instanceMethod yX4_makeRoom, Cond.selects RX4 yX4_makeRoom yX4_makeRoom, Cond.code yX4_makeRoom cX4_makeRoom 4 (some .boolean), Cond.methodLink RX4 39 Lib.Math.min.name, Cond.methodLink RX4 45 Lib.Math.max.name, Cond.static Lib.Math.max.name, Cond.code Lib.Math.max.name Lib.Math.max.code 2 (some .int), Cond.methodLink RX4 48 yJ7_copyOf_59c91, Cond.static yJ7_copyOf_59c91, Cond.code yJ7_copyOf_59c91 cJ7_copyOf_59c91 3 (some (.array .int)), Cond.methodLink RJ7 316 ⟨"[I", "clone", "()Ljava/lang/Object;"⟩, Cond.sameMethod "[I" "java/lang/Object" "clone" "()Ljava/lang/Object;"]
def wsL_law0_r22 : List Cond := [Cond.native ⟨"java/lang/Object", "clone", "()Ljava/lang/Object;"⟩, Cond.instanceMethod ⟨"java/lang/Object", "clone", "()Ljava/lang/Object;"⟩, Cond.selects "[I" ⟨"[I", "clone", "()Ljava/lang/Object;"⟩ ⟨"java/lang/Object", "clone", "()Ljava/lang/Object;"⟩, Cond.classLink RJ7 317 "[I", Cond.methodLink RJ7 304 Lib.Math.min.name, Cond.methodLink RJ7 150 arraycopyName, Cond.native arraycopyName, Cond.static arraycopyName, Cond.initialized "java/lang/System", Cond.methodLink RX4 54 yJ7_copyOf_c38d5, Cond.static yJ7_copyOf_c38d5, Cond.code yJ7_copyOf_c38d5 cJ7_copyOf_c38d5 3 (some (.array .long)), Cond.methodLink RJ7 319 ⟨"[J", "clone", "()Ljava/lang/Object;"⟩, Cond.sameMethod "[J" "java/lang/Object" "clone" "()Ljava/lang/Object;", Cond.selects "[J" ⟨"[J", "clone", "()Ljava/lang/Object;"⟩ ⟨"java/lang/Object", "clone", "()Ljava/lang/Object;"⟩, Cond.classLink RJ7 320 "[J", Cond.methodLink RX6 83 yX5_tellAll, Cond.instanceMethod yX5_tellAll, Cond.selects RX5 yX5_tellAll yX5_tellAll, Cond.code yX5_tellAll cX5_tellAll 4 (some .boolean), Cond.methodLink RX5 89 yX4_addFrom, Cond.instanceMethod yX4_addFrom, Cond.selects RX4 yX4_addFrom yX4_addFrom, Cond.code yX4_addFrom cX4_addFrom 4 (some .boolean)]
def wsL_law0_r23 : List Cond := [Cond.methodLink RX4 33 arraycopyName, Cond.methodLink RX6 89 yX2_firstOf, Cond.methodLink RX6 95 yX2_secondOf, Cond.code yX6_goWaysOfSet cX6_goWaysOfSet 6 (some .int), Cond.methodLink RX6 208 yX5_beginOfSet, Cond.instanceMethod yX5_beginOfSet, Cond.selects RX5 yX5_beginOfSet yX5_beginOfSet, Cond.code yX5_beginOfSet cX5_beginOfSet 2 none, Cond.fieldLink RX5 45 "SharedChoices$Way" "listed" "I", Cond.methodLink RX6 51 yX5_tokens, Cond.instanceMethod yX5_tokens, Cond.selects RX5 yX5_tokens yX5_tokens, Cond.code yX5_tokens cX5_tokens 1 (some (.object "SharedChoices$Tokens")), Cond.methodLink RX6 197 yX4_size, Cond.methodLink RX6 211 yX5_listValue, Cond.instanceMethod yX5_listValue, Cond.selects RX5 yX5_listValue yX5_listValue, Cond.code yX5_listValue cX5_listValue 1 none, Cond.methodLink RX5 81 yX4_putNumber, Cond.instanceMethod yX4_putNumber, Cond.selects RX4 yX4_putNumber yX4_putNumber, Cond.code yX4_putNumber cX4_putNumber 4 none, Cond.methodLink RX4 26 yX4_has, Cond.instanceMethod yX4_has]
def wsL_law0_r24 : List Cond := [Cond.selects RX4 yX4_has yX4_has, Cond.code yX4_has cX4_has 2 (some .boolean), Cond.methodLink RX6 214 yX5_dropValue, Cond.instanceMethod yX5_dropValue, Cond.selects RX5 yX5_dropValue yX5_dropValue, Cond.code yX5_dropValue cX5_dropValue 1 none, Cond.methodLink RX6 217 yX5_turn, Cond.instanceMethod yX5_turn, Cond.selects RX5 yX5_turn yX5_turn, Cond.code yX5_turn cX5_turn 4 (some .boolean), Cond.code yX6_valueOf cX6_valueOf 4 (some .int), Cond.fieldLink RX6 120 "SharedChoices$Work" "neededNode" "I", Cond.methodLink RX6 98 yX6_homeOf, Cond.instanceMethod yX6_homeOf, Cond.selects RX6 yX6_homeOf yX6_homeOf, Cond.code yX6_homeOf cX6_homeOf 3 (some (.object "SharedChoices$Way")), Cond.methodLink RX6 126 yX5_isInside, Cond.instanceMethod yX5_isInside, Cond.selects RX5 yX5_isInside yX5_isInside, Cond.code yX5_isInside cX5_isInside 2 (some .boolean), Cond.methodLink RX6 129 yX5_around, Cond.instanceMethod yX5_around, Cond.selects RX5 yX5_around yX5_around, Cond.code yX5_around cX5_around 1 (some (.object "SharedChoices$Way"))]
def wsL_law0_r25 : List Cond := [Cond.methodLink RX6 102 yX5_hasValue, Cond.instanceMethod yX5_hasValue, Cond.selects RX5 yX5_hasValue yX5_hasValue, Cond.code yX5_hasValue cX5_hasValue 2 (some .boolean), Cond.methodLink RX6 106 yX5_kindOf, Cond.instanceMethod yX5_kindOf, Cond.selects RX5 yX5_kindOf yX5_kindOf, Cond.code yX5_kindOf cX5_kindOf 2 (some .int), Cond.methodLink RX5 85 yX5_hasValue, Cond.methodLink RX6 109 yX5_numberOf, Cond.instanceMethod yX5_numberOf, Cond.selects RX5 yX5_numberOf yX5_numberOf, Cond.code yX5_numberOf cX5_numberOf 2 (some .long), Cond.methodLink RX6 113 yX5_lengthOf, Cond.instanceMethod yX5_lengthOf, Cond.selects RX5 yX5_lengthOf yX5_lengthOf, Cond.code yX5_lengthOf cX5_lengthOf 2 (some .int), Cond.methodLink RX6 116 yX6_take, Cond.instanceMethod yX6_take, Cond.selects RX6 yX6_take yX6_take, Cond.code yX6_take cX6_take 5 (some .int), Cond.methodLink RX6 123 yX6_workOut, Cond.instanceMethod yX6_workOut, Cond.selects RX6 yX6_workOut yX6_workOut]
def wsL_law0_r26 : List Cond := [Cond.code yX6_workChoice cX6_workChoice 3 (some .int), Cond.methodLink RX6 164 yX5_decide, Cond.instanceMethod yX5_decide, Cond.selects RX5 yX5_decide yX5_decide, Cond.code yX5_decide cX5_decide 2 (some .int), Cond.code yX6_workFold cX6_workFold 5 (some .int), Cond.methodLink RX6 174 yX4_numberAt, Cond.instanceMethod yX4_numberAt, Cond.selects RX4 yX4_numberAt yX4_numberAt, Cond.code yX4_numberAt cX4_numberAt 2 (some .long), Cond.methodLink RX6 137 yX6_takeNumber, Cond.instanceMethod yX6_takeNumber, Cond.selects RX6 yX6_takeNumber yX6_takeNumber, Cond.code yX6_takeNumber cX6_takeNumber 3 (some .int), Cond.methodLink RX6 177 yX6_foldNumbers, Cond.instanceMethod yX6_foldNumbers, Cond.selects RX6 yX6_foldNumbers yX6_foldNumbers, Cond.code yX6_foldNumbers cX6_foldNumbers 9 (some .int), Cond.constantLong RX6 183 (9223372036854775807), Cond.methodLink RX6 188 Lib.MathLoose.min_long.x, Cond.static Lib.MathLoose.min_long.x, Cond.code Lib.MathLoose.min_long.x Lib.MathLoose.min_long.code 4 (some .long), Cond.methodLink RX6 185 yX4_kindAt, Cond.instanceMethod yX4_kindAt]
def wsL_law0_r27 : List Cond := [Cond.selects RX4 yX4_kindAt yX4_kindAt, Cond.code yX4_kindAt cX4_kindAt 2 (some .int), Cond.code yX6_workOp cX6_workOp 5 (some .int), Cond.methodLink RX6 167 yX2_thirdOf, Cond.methodLink RX6 170 yX6_reckon, Cond.instanceMethod yX6_reckon, Cond.selects RX6 yX6_reckon yX6_reckon, Cond.code yX6_reckon cX6_reckon 6 (some .int), Cond.code yX6_workOut cX6_workOut 3 (some .int), Cond.methodLink RX6 133 yX2_sortOf, Cond.methodLink RX6 136 yX2_numberOf, Cond.instanceMethod yX2_numberOf, Cond.selects RX2 yX2_numberOf yX2_numberOf, Cond.code yX2_numberOf cX2_numberOf 2 (some .long), Cond.methodLink RX6 141 yX6_workChoice, Cond.instanceMethod yX6_workChoice, Cond.selects RX6 yX6_workChoice yX6_workChoice, Cond.methodLink RX6 144 yX6_workPart, Cond.instanceMethod yX6_workPart, Cond.selects RX6 yX6_workPart yX6_workPart, Cond.methodLink RX6 148 yX6_workOp, Cond.instanceMethod yX6_workOp, Cond.selects RX6 yX6_workOp yX6_workOp, Cond.methodLink RX6 151 yX6_workWhen]
def wsL_law0_r28 : List Cond := [Cond.instanceMethod yX6_workWhen, Cond.selects RX6 yX6_workWhen yX6_workWhen, Cond.methodLink RX6 154 yX6_workSet, Cond.instanceMethod yX6_workSet, Cond.selects RX6 yX6_workSet yX6_workSet, Cond.methodLink RX6 157 yX6_workFold, Cond.instanceMethod yX6_workFold, Cond.selects RX6 yX6_workFold yX6_workFold, Cond.methodLink RX6 160 yX5_keep, Cond.instanceMethod yX5_keep, Cond.selects RX5 yX5_keep yX5_keep, Cond.code yX5_keep cX5_keep 6 none, Cond.code yX6_workPart cX6_workPart 5 (some .int), Cond.code yX6_workSet cX6_workSet 7 (some .int), Cond.methodLink RX6 194 yX5_inner, Cond.instanceMethod yX5_inner, Cond.selects RX5 yX5_inner yX5_inner, Cond.code yX5_inner cX5_inner 1 (some (.object "SharedChoices$Way")), Cond.methodLink RX6 200 yX6_goWaysOfSet, Cond.instanceMethod yX6_goWaysOfSet, Cond.selects RX6 yX6_goWaysOfSet yX6_goWaysOfSet, Cond.methodLink RX6 204 yX6_takeList, Cond.instanceMethod yX6_takeList, Cond.selects RX6 yX6_takeList yX6_takeList]
def wsL_law0_r29 : List Cond := [Cond.code yX6_takeList cX6_takeList 4 (some .int), Cond.methodLink RX6 221 yX4_addFrom, Cond.code yX6_workWhen cX6_workWhen 3 (some .int), Cond.methodLink RX3 119 yX6_decisions, Cond.instanceMethod yX6_decisions, Cond.selects RX6 yX6_decisions yX6_decisions, Cond.code yX6_decisions cX6_decisions 1 (some .int), Cond.methodLink RX6 47 yX5_decisions, Cond.instanceMethod yX5_decisions, Cond.selects RX5 yX5_decisions yX5_decisions, Cond.code yX5_decisions cX5_decisions 1 (some .int), Cond.methodLink RX3 122 yX3_putOtherAlternatives, Cond.instanceMethod yX3_putOtherAlternatives, Cond.selects RX3 yX3_putOtherAlternatives yX3_putOtherAlternatives, Cond.code yX3_putOtherAlternatives cX3_putOtherAlternatives 5 none, Cond.methodLink RX3 125 yX3_endsAsValue, Cond.instanceMethod yX3_endsAsValue, Cond.selects RX3 yX3_endsAsValue yX3_endsAsValue, Cond.code yX3_endsAsValue cX3_endsAsValue 4 (some .boolean), Cond.methodLink RX3 129 yX1_keep, Cond.instanceMethod yX1_keep, Cond.selects RX1 yX1_keep yX1_keep, Cond.code yX1_keep cX1_keep 5 none, Cond.methodLink RX1 34 yX6_tokens]
def wsL_law0_r30 : List Cond := [Cond.instanceMethod yX6_tokens, Cond.selects RX6 yX6_tokens yX6_tokens, Cond.code yX6_tokens cX6_tokens 1 (some (.object "SharedChoices$Tokens")), Cond.methodLink RX1 39 yX4_size, Cond.methodLink RX1 43 yX4_addFrom, Cond.methodLink RX1 47 yX6_decisions, Cond.methodLink RX1 49 yX6_labour, Cond.instanceMethod yX6_labour, Cond.selects RX6 yX6_labour yX6_labour, Cond.code yX6_labour cX6_labour 1 (some .int), Cond.methodLink RX3 133 yX3_stopAtDecision, Cond.instanceMethod yX3_stopAtDecision, Cond.selects RX3 yX3_stopAtDecision yX3_stopAtDecision, Cond.code yX3_stopAtDecision cX3_stopAtDecision 4 none, Cond.methodLink RL 112 yX8_next, Cond.instanceMethod yX8_next, Cond.selects RX8 yX8_next yX8_next, Cond.code yX8_next cX8_next 2 (some .int), Cond.fieldLink RX8 126 "SharedChoicesModel" "stop" "I", Cond.methodLink RX8 255 yX8_fetch, Cond.instanceMethod yX8_fetch, Cond.selects RX8 yX8_fetch yX8_fetch, Cond.code yX8_fetch cX8_fetch 3 (some .int), Cond.methodLink RX8 259 yX8_go]
def wsL_law0_r31 : List Cond := [Cond.instanceMethod yX8_go, Cond.selects RX8 yX8_go yX8_go, Cond.code yX8_go cX8_go 2 none, Cond.fieldLink RX8 119 "SharedChoicesModel" "level" "I", Cond.fieldLink RX8 135 "SharedChoicesModel" "labour" "I", Cond.fieldLink RX8 184 "SharedChoicesModel" "heapTop" "I", Cond.methodLink RX8 187 yX8_beginWay, Cond.instanceMethod yX8_beginWay, Cond.selects RX8 yX8_beginWay yX8_beginWay, Cond.code yX8_beginWay cX8_beginWay 2 none, Cond.methodLink RX8 179 yX8_tellFull, Cond.instanceMethod yX8_tellFull, Cond.selects RX8 yX8_tellFull yX8_tellFull, Cond.code yX8_tellFull cX8_tellFull 6 none, Cond.constantLong RX8 177 (2), Cond.methodLink RX8 168 yX8_need, Cond.instanceMethod yX8_need, Cond.selects RX8 yX8_need yX8_need, Cond.methodLink RX8 153 yX8_cellOf, Cond.instanceMethod yX8_cellOf, Cond.selects RX8 yX8_cellOf yX8_cellOf, Cond.code yX8_cellOf cX8_cellOf 2 (some .int), Cond.methodLink RX8 122 yX8_levelOf, Cond.instanceMethod yX8_levelOf]
def wsL_law0_r32 : List Cond := [Cond.selects RX8 yX8_levelOf yX8_levelOf, Cond.code yX8_levelOf cX8_levelOf 3 (some .int), Cond.methodLink RX8 171 yX8_token, Cond.instanceMethod yX8_token, Cond.selects RX8 yX8_token yX8_token, Cond.code yX8_token cX8_token 5 none, Cond.methodLink RX8 174 yX8_behind, Cond.instanceMethod yX8_behind, Cond.selects RX8 yX8_behind yX8_behind, Cond.code yX8_behind cX8_behind 5 (some .int), Cond.constantLong RX8 182 (-1), Cond.code yX8_choose cX8_choose 4 none, Cond.methodLink RX8 156 yX8_take, Cond.instanceMethod yX8_take, Cond.selects RX8 yX8_take yX8_take, Cond.code yX8_foldUp cX8_foldUp 10 none, Cond.methodLink RX8 150 yX8_needAs, Cond.instanceMethod yX8_needAs, Cond.selects RX8 yX8_needAs yX8_needAs, Cond.methodLink RX8 142 yX8_tell, Cond.instanceMethod yX8_tell, Cond.selects RX8 yX8_tell yX8_tell, Cond.code yX8_tell cX8_tell 4 none, Cond.code yX8_goAll cX8_goAll 8 none]
def wsL_law0_r33 : List Cond := [Cond.fieldLink RX8 132 "SharedChoicesModel" "wantedLevel" "I", Cond.fieldLink RX8 129 "SharedChoicesModel" "wanted" "I", Cond.methodLink RX8 190 yX8_collect, Cond.instanceMethod yX8_collect, Cond.selects RX8 yX8_collect yX8_collect, Cond.code yX8_collect cX8_collect 2 none, Cond.methodLink RX8 193 yX8_nextWay, Cond.instanceMethod yX8_nextWay, Cond.selects RX8 yX8_nextWay yX8_nextWay, Cond.code yX8_nextWay cX8_nextWay 2 (some .boolean), Cond.methodLink RX8 197 yX8_keep, Cond.instanceMethod yX8_keep, Cond.selects RX8 yX8_keep yX8_keep, Cond.code yX8_keep cX8_keep 6 none, Cond.methodLink RX8 200 yX8_lay, Cond.instanceMethod yX8_lay, Cond.selects RX8 yX8_lay yX8_lay, Cond.code yX8_lay cX8_lay 7 none, Cond.code yX8_need cX8_need 3 none, Cond.methodLink RX8 138 yX8_workOut, Cond.instanceMethod yX8_workOut, Cond.selects RX8 yX8_workOut yX8_workOut, Cond.code yX8_needAs cX8_needAs 3 none, Cond.code yX8_reckon cX8_reckon 7 none]
def wsL_law0_r34 : List Cond := [Cond.code yX8_take cX8_take 4 none, Cond.code yX8_workOut cX8_workOut 3 none, Cond.methodLink RX8 146 yX8_choose, Cond.instanceMethod yX8_choose, Cond.selects RX8 yX8_choose yX8_choose, Cond.methodLink RX8 159 yX8_reckon, Cond.instanceMethod yX8_reckon, Cond.selects RX8 yX8_reckon yX8_reckon, Cond.methodLink RX8 162 yX8_goAll, Cond.instanceMethod yX8_goAll, Cond.selects RX8 yX8_goAll yX8_goAll, Cond.methodLink RX8 165 yX8_foldUp, Cond.instanceMethod yX8_foldUp, Cond.selects RX8 yX8_foldUp yX8_foldUp, Cond.methodLink RX8 262 yX8_decide, Cond.instanceMethod yX8_decide, Cond.selects RX8 yX8_decide yX8_decide, Cond.code yX8_decide cX8_decide 5 none, Cond.methodLink RX8 268 yX8_copy, Cond.instanceMethod yX8_copy, Cond.selects RX8 yX8_copy yX8_copy, Cond.code yX8_copy cX8_copy 6 none, Cond.methodLink RX8 265 yX8_ends, Cond.instanceMethod yX8_ends]
def wsL_law0_r35 : List Cond := [Cond.selects RX8 yX8_ends yX8_ends, Cond.code yX8_ends cX8_ends 3 (some .boolean), Cond.methodLink RL 113 yX7_decision, Cond.instanceMethod yX7_decision, Cond.selects RX7 yX7_decision yX7_decision, Cond.code yX7_decision cX7_decision 2 (some .int), Cond.methodLink RX7 85 yX3_latest, Cond.instanceMethod yX3_latest, Cond.selects RX3 yX3_latest yX3_latest, Cond.code yX3_latest cX3_latest 1 (some (.object "SharedChoices$Latest")), Cond.methodLink RX7 89 yX1_alternativeAt, Cond.instanceMethod yX1_alternativeAt, Cond.selects RX1 yX1_alternativeAt yX1_alternativeAt, Cond.code yX1_alternativeAt cX1_alternativeAt 2 (some .int), Cond.methodLink RL 117 yX8_decision, Cond.instanceMethod yX8_decision, Cond.selects RX8 yX8_decision yX8_decision, Cond.code yX8_decision cX8_decision 2 (some .int), Cond.methodLink RL 118 yL_token, Cond.static yL_token, Cond.codeWith yL_token cL_token 5 (some .int) [(0, 9, 12, 38)], Cond.methodLink RL 50 yX7_token, Cond.instanceMethod yX7_token, Cond.selects RX7 yX7_token yX7_token]
def wsL_law0_r36 : List Cond := [Cond.code yX7_token cX7_token 4 (some .long), Cond.methodLink RX7 94 yX1_tokens, Cond.instanceMethod yX1_tokens, Cond.selects RX1 yX1_tokens yX1_tokens, Cond.code yX1_tokens cX1_tokens 1 (some (.object "SharedChoices$Tokens")), Cond.methodLink RX7 98 yX4_has, Cond.methodLink RX7 103 yX4_kindAt, Cond.methodLink RX7 106 yX4_numberAt, Cond.methodLink RL 120 yX8_token_, Cond.instanceMethod yX8_token_, Cond.selects RX8 yX8_token_ yX8_token_, Cond.code yX8_token_ cX8_token_ 3 (some .long), Cond.methodLink RL 121 yX7_count, Cond.instanceMethod yX7_count, Cond.selects RX7 yX7_count yX7_count, Cond.code yX7_count cX7_count 2 (some .int), Cond.methodLink RX7 110 yX3_places, Cond.instanceMethod yX3_places, Cond.selects RX3 yX3_places yX3_places, Cond.code yX3_places cX3_places 1 (some .int), Cond.methodLink RX7 113 yX3_values, Cond.instanceMethod yX3_values, Cond.selects RX3 yX3_values yX3_values, Cond.code yX3_values cX3_values 1 (some .int)]
def wsL_law0_r37 : List Cond := [Cond.methodLink RX7 116 yX3_failed, Cond.instanceMethod yX3_failed, Cond.selects RX3 yX3_failed yX3_failed, Cond.code yX3_failed cX3_failed 1 (some .int), Cond.methodLink RX7 119 yX3_givenUp, Cond.instanceMethod yX3_givenUp, Cond.selects RX3 yX3_givenUp yX3_givenUp, Cond.code yX3_givenUp cX3_givenUp 1 (some .int), Cond.methodLink RX7 122 yX3_cut, Cond.instanceMethod yX3_cut, Cond.selects RX3 yX3_cut yX3_cut, Cond.code yX3_cut cX3_cut 1 (some .int), Cond.methodLink RX7 125 yX1_labour, Cond.instanceMethod yX1_labour, Cond.selects RX1 yX1_labour yX1_labour, Cond.code yX1_labour cX1_labour 1 (some .int), Cond.methodLink RX7 128 yX1_decisions, Cond.instanceMethod yX1_decisions, Cond.selects RX1 yX1_decisions yX1_decisions, Cond.code yX1_decisions cX1_decisions 1 (some .int), Cond.methodLink RX7 131 yX4_size, Cond.methodLink RL 124 yX8_count, Cond.instanceMethod yX8_count, Cond.selects RX8 yX8_count yX8_count]
def wsL_law0_r38 : List Cond := [Cond.code yX8_count cX8_count 2 (some .int)]
def wsL_law0 : List Cond := (wsL_law0_r1 ++ (wsL_law0_r2 ++ (wsL_law0_r3 ++ (wsL_law0_r4 ++ (wsL_law0_r5 ++ (wsL_law0_r6 ++ (wsL_law0_r7 ++ (wsL_law0_r8 ++ (wsL_law0_r9 ++ (wsL_law0_r10 ++ (wsL_law0_r11 ++ (wsL_law0_r12 ++ (wsL_law0_r13 ++ (wsL_law0_r14 ++ (wsL_law0_r15 ++ (wsL_law0_r16 ++ (wsL_law0_r17 ++ (wsL_law0_r18 ++ (wsL_law0_r19 ++ (wsL_law0_r20 ++ (wsL_law0_r21 ++ (wsL_law0_r22 ++ (wsL_law0_r23 ++ (wsL_law0_r24 ++ (wsL_law0_r25 ++ (wsL_law0_r26 ++ (wsL_law0_r27 ++ (wsL_law0_r28 ++ (wsL_law0_r29 ++ (wsL_law0_r30 ++ (wsL_law0_r31 ++ (wsL_law0_r32 ++ (wsL_law0_r33 ++ (wsL_law0_r34 ++ (wsL_law0_r35 ++ (wsL_law0_r36 ++ (wsL_law0_r37 ++ wsL_law0_r38))))))))))))))))))))))))))))))))))))) ++ wsX70 ++ wsX80 ++ wsX20 ++ wsX30 ++ wsX10 ++ wsX00 ++ wsX60 ++ wsX40 ++ wsX50 ++ ([] : List Cond)
abbrev vwCl : List vw_C := [(RX0, TX0, 3), (RX1, TX1, 4), (RX2, TX2, 6), (RX3, TX3, 15), (RX4, TX4, 4), (RX5, TX5, 12), (RX6, TX6, 10), (RX7, TX7, 2), (RX8, TX8, 53)]
set_option maxRecDepth 20000 in
theorem gi_wsL_law0_r1 : GoodIn lw_tbl wsL_law0_r1 := goodIn_of _ (by decide +kernel)
set_option maxRecDepth 20000 in
theorem gi_wsL_law0_r2 : GoodIn lw_tbl wsL_law0_r2 := goodIn_of _ (by decide +kernel)
set_option maxRecDepth 20000 in
theorem gi_wsL_law0_r3 : GoodIn lw_tbl wsL_law0_r3 := goodIn_of _ (by decide +kernel)
set_option maxRecDepth 20000 in
theorem gi_wsL_law0_r4 : GoodIn lw_tbl wsL_law0_r4 := goodIn_of _ (by decide +kernel)
set_option maxRecDepth 20000 in
theorem gi_wsL_law0_r5 : GoodIn lw_tbl wsL_law0_r5 := goodIn_of _ (by decide +kernel)
set_option maxRecDepth 20000 in
theorem gi_wsL_law0_r6 : GoodIn lw_tbl wsL_law0_r6 := goodIn_of _ (by decide +kernel)
set_option maxRecDepth 20000 in
theorem gi_wsL_law0_r7 : GoodIn lw_tbl wsL_law0_r7 := goodIn_of _ (by decide +kernel)
set_option maxRecDepth 20000 in
theorem gi_wsL_law0_r8 : GoodIn lw_tbl wsL_law0_r8 := goodIn_of _ (by decide +kernel)
set_option maxRecDepth 20000 in
theorem gi_wsL_law0_r9 : GoodIn lw_tbl wsL_law0_r9 := goodIn_of _ (by decide +kernel)
set_option maxRecDepth 20000 in
theorem gi_wsL_law0_r10 : GoodIn lw_tbl wsL_law0_r10 := goodIn_of _ (by decide +kernel)
set_option maxRecDepth 20000 in
theorem gi_wsL_law0_r11 : GoodIn lw_tbl wsL_law0_r11 := goodIn_of _ (by decide +kernel)
set_option maxRecDepth 20000 in
theorem gi_wsL_law0_r12 : GoodIn lw_tbl wsL_law0_r12 := goodIn_of _ (by decide +kernel)
set_option maxRecDepth 20000 in
theorem gi_wsL_law0_r13 : GoodIn lw_tbl wsL_law0_r13 := goodIn_of _ (by decide +kernel)
set_option maxRecDepth 20000 in
theorem gi_wsL_law0_r14 : GoodIn lw_tbl wsL_law0_r14 := goodIn_of _ (by decide +kernel)
set_option maxRecDepth 20000 in
theorem gi_wsL_law0_r15 : GoodIn lw_tbl wsL_law0_r15 := goodIn_of _ (by decide +kernel)
set_option maxRecDepth 20000 in
theorem gi_wsL_law0_r16 : GoodIn lw_tbl wsL_law0_r16 := goodIn_of _ (by decide +kernel)
set_option maxRecDepth 20000 in
theorem gi_wsL_law0_r17 : GoodIn lw_tbl wsL_law0_r17 := goodIn_of _ (by decide +kernel)
set_option maxRecDepth 20000 in
theorem gi_wsL_law0_r18 : GoodIn lw_tbl wsL_law0_r18 := goodIn_of _ (by decide +kernel)
set_option maxRecDepth 20000 in
theorem gi_wsL_law0_r19 : GoodIn lw_tbl wsL_law0_r19 := goodIn_of _ (by decide +kernel)
set_option maxRecDepth 20000 in
theorem gi_wsL_law0_r20 : GoodIn lw_tbl wsL_law0_r20 := goodIn_of _ (by decide +kernel)
set_option maxRecDepth 20000 in
theorem gi_wsL_law0_r21 : GoodIn lw_tbl wsL_law0_r21 := goodIn_of _ (by decide +kernel)
set_option maxRecDepth 20000 in
theorem gi_wsL_law0_r22 : GoodIn lw_tbl wsL_law0_r22 := goodIn_of _ (by decide +kernel)
set_option maxRecDepth 20000 in
theorem gi_wsL_law0_r23 : GoodIn lw_tbl wsL_law0_r23 := goodIn_of _ (by decide +kernel)
set_option maxRecDepth 20000 in
theorem gi_wsL_law0_r24 : GoodIn lw_tbl wsL_law0_r24 := goodIn_of _ (by decide +kernel)
set_option maxRecDepth 20000 in
theorem gi_wsL_law0_r25 : GoodIn lw_tbl wsL_law0_r25 := goodIn_of _ (by decide +kernel)
set_option maxRecDepth 20000 in
theorem gi_wsL_law0_r26 : GoodIn lw_tbl wsL_law0_r26 := goodIn_of _ (by decide +kernel)
set_option maxRecDepth 20000 in
theorem gi_wsL_law0_r27 : GoodIn lw_tbl wsL_law0_r27 := goodIn_of _ (by decide +kernel)
set_option maxRecDepth 20000 in
theorem gi_wsL_law0_r28 : GoodIn lw_tbl wsL_law0_r28 := goodIn_of _ (by decide +kernel)
set_option maxRecDepth 20000 in
theorem gi_wsL_law0_r29 : GoodIn lw_tbl wsL_law0_r29 := goodIn_of _ (by decide +kernel)
set_option maxRecDepth 20000 in
theorem gi_wsL_law0_r30 : GoodIn lw_tbl wsL_law0_r30 := goodIn_of _ (by decide +kernel)
set_option maxRecDepth 20000 in
theorem gi_wsL_law0_r31 : GoodIn lw_tbl wsL_law0_r31 := goodIn_of _ (by decide +kernel)
set_option maxRecDepth 20000 in
theorem gi_wsL_law0_r32 : GoodIn lw_tbl wsL_law0_r32 := goodIn_of _ (by decide +kernel)
set_option maxRecDepth 20000 in
theorem gi_wsL_law0_r33 : GoodIn lw_tbl wsL_law0_r33 := goodIn_of _ (by decide +kernel)
set_option maxRecDepth 20000 in
theorem gi_wsL_law0_r34 : GoodIn lw_tbl wsL_law0_r34 := goodIn_of _ (by decide +kernel)
set_option maxRecDepth 20000 in
theorem gi_wsL_law0_r35 : GoodIn lw_tbl wsL_law0_r35 := goodIn_of _ (by decide +kernel)
set_option maxRecDepth 20000 in
theorem gi_wsL_law0_r36 : GoodIn lw_tbl wsL_law0_r36 := goodIn_of _ (by decide +kernel)
set_option maxRecDepth 20000 in
theorem gi_wsL_law0_r37 : GoodIn lw_tbl wsL_law0_r37 := goodIn_of _ (by decide +kernel)
set_option maxRecDepth 20000 in
theorem gi_wsL_law0_r38 : GoodIn lw_tbl wsL_law0_r38 := goodIn_of _ (by decide +kernel)
set_option maxRecDepth 20000 in
theorem gi_wsX70 : GoodIn lw_tbl wsX70 := goodIn_of _ (by decide +kernel)
set_option maxRecDepth 20000 in
theorem gi_wsX80 : GoodIn lw_tbl wsX80 := goodIn_of _ (by decide +kernel)
set_option maxRecDepth 20000 in
theorem gi_wsX20 : GoodIn lw_tbl wsX20 := goodIn_of _ (by decide +kernel)
set_option maxRecDepth 20000 in
theorem gi_wsX30 : GoodIn lw_tbl wsX30 := goodIn_of _ (by decide +kernel)
set_option maxRecDepth 20000 in
theorem gi_wsX10 : GoodIn lw_tbl wsX10 := goodIn_of _ (by decide +kernel)
set_option maxRecDepth 20000 in
theorem gi_wsX00 : GoodIn lw_tbl wsX00 := goodIn_of _ (by decide +kernel)
set_option maxRecDepth 20000 in
theorem gi_wsX60 : GoodIn lw_tbl wsX60 := goodIn_of _ (by decide +kernel)
set_option maxRecDepth 20000 in
theorem gi_wsX40 : GoodIn lw_tbl wsX40 := goodIn_of _ (by decide +kernel)
set_option maxRecDepth 20000 in
theorem gi_wsX50 : GoodIn lw_tbl wsX50 := goodIn_of _ (by decide +kernel)
theorem gi_law0 : GoodIn lw_tbl wsL_law0 := goodIn_app (goodIn_app (goodIn_app (goodIn_app (goodIn_app (goodIn_app (goodIn_app (goodIn_app (goodIn_app (goodIn_app (goodIn_app gi_wsL_law0_r1 (goodIn_app gi_wsL_law0_r2 (goodIn_app gi_wsL_law0_r3 (goodIn_app gi_wsL_law0_r4 (goodIn_app gi_wsL_law0_r5 (goodIn_app gi_wsL_law0_r6 (goodIn_app gi_wsL_law0_r7 (goodIn_app gi_wsL_law0_r8 (goodIn_app gi_wsL_law0_r9 (goodIn_app gi_wsL_law0_r10 (goodIn_app gi_wsL_law0_r11 (goodIn_app gi_wsL_law0_r12 (goodIn_app gi_wsL_law0_r13 (goodIn_app gi_wsL_law0_r14 (goodIn_app gi_wsL_law0_r15 (goodIn_app gi_wsL_law0_r16 (goodIn_app gi_wsL_law0_r17 (goodIn_app gi_wsL_law0_r18 (goodIn_app gi_wsL_law0_r19 (goodIn_app gi_wsL_law0_r20 (goodIn_app gi_wsL_law0_r21 (goodIn_app gi_wsL_law0_r22 (goodIn_app gi_wsL_law0_r23 (goodIn_app gi_wsL_law0_r24 (goodIn_app gi_wsL_law0_r25 (goodIn_app gi_wsL_law0_r26 (goodIn_app gi_wsL_law0_r27 (goodIn_app gi_wsL_law0_r28 (goodIn_app gi_wsL_law0_r29 (goodIn_app gi_wsL_law0_r30 (goodIn_app gi_wsL_law0_r31 (goodIn_app gi_wsL_law0_r32 (goodIn_app gi_wsL_law0_r33 (goodIn_app gi_wsL_law0_r34 (goodIn_app gi_wsL_law0_r35 (goodIn_app gi_wsL_law0_r36 (goodIn_app gi_wsL_law0_r37 (gi_wsL_law0_r38)))))))))))))))))))))))))))))))))))))) gi_wsX70) gi_wsX80) gi_wsX20) gi_wsX30) gi_wsX10) gi_wsX00) gi_wsX60) gi_wsX40) gi_wsX50) (fun _ h => absurd h List.not_mem_nil)
theorem in_wsX70 : ∀ w ∈ wsX70, w ∈ wsL_law0 := fun _ h => List.mem_append_left _ (List.mem_append_left _ (List.mem_append_left _ (List.mem_append_left _ (List.mem_append_left _ (List.mem_append_left _ (List.mem_append_left _ (List.mem_append_left _ (List.mem_append_left _ (List.mem_append_right _ h)))))))))
theorem in_wsX80 : ∀ w ∈ wsX80, w ∈ wsL_law0 := fun _ h => List.mem_append_left _ (List.mem_append_left _ (List.mem_append_left _ (List.mem_append_left _ (List.mem_append_left _ (List.mem_append_left _ (List.mem_append_left _ (List.mem_append_left _ (List.mem_append_right _ h))))))))
theorem in_wsX20 : ∀ w ∈ wsX20, w ∈ wsL_law0 := fun _ h => List.mem_append_left _ (List.mem_append_left _ (List.mem_append_left _ (List.mem_append_left _ (List.mem_append_left _ (List.mem_append_left _ (List.mem_append_left _ (List.mem_append_right _ h)))))))
theorem in_wsX30 : ∀ w ∈ wsX30, w ∈ wsL_law0 := fun _ h => List.mem_append_left _ (List.mem_append_left _ (List.mem_append_left _ (List.mem_append_left _ (List.mem_append_left _ (List.mem_append_left _ (List.mem_append_right _ h))))))
theorem in_wsX10 : ∀ w ∈ wsX10, w ∈ wsL_law0 := fun _ h => List.mem_append_left _ (List.mem_append_left _ (List.mem_append_left _ (List.mem_append_left _ (List.mem_append_left _ (List.mem_append_right _ h)))))
theorem in_wsX00 : ∀ w ∈ wsX00, w ∈ wsL_law0 := fun _ h => List.mem_append_left _ (List.mem_append_left _ (List.mem_append_left _ (List.mem_append_left _ (List.mem_append_right _ h))))
theorem in_wsX60 : ∀ w ∈ wsX60, w ∈ wsL_law0 := fun _ h => List.mem_append_left _ (List.mem_append_left _ (List.mem_append_left _ (List.mem_append_right _ h)))
theorem in_wsX40 : ∀ w ∈ wsX40, w ∈ wsL_law0 := fun _ h => List.mem_append_left _ (List.mem_append_left _ (List.mem_append_right _ h))
theorem in_wsX50 : ∀ w ∈ wsX50, w ∈ wsL_law0 := fun _ h => List.mem_append_left _ (List.mem_append_right _ h)
