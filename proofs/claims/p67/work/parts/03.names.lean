/-! ===== BEGIN printed: names, fields, word lists, decode rows ===== -/
def RX0 : String := "ParetoDesk$Choices"
def TX0 : u_T := fun k => match k with
  | 0 => ("ParetoDesk$Choices", "weight", "[I", true)
  | 1 => ("ParetoDesk$Choices", "gain", "[I", true)
  | 2 => ("ParetoDesk$Choices", "joy", "[I", true)
  | 3 => ("ParetoDesk$Choices", "barred", "[I", true)
  | 4 => ("ParetoDesk$Choices", "needed", "[I", true)
  | 5 => ("ParetoDesk$Choices", "sets", "I", false)
  | 6 => ("ParetoDesk$Choices", "limit", "I", false)
  | 7 => ("ParetoDesk$Choices", "mustSet", "I", false)
  | _ => ("ParetoDesk$Choices", "neverSet", "I", false)
def tyX0 : Nat → FieldType := fun k => match k with
  | 0 => .array .int
  | 1 => .array .int
  | 2 => .array .int
  | 3 => .array .int
  | 4 => .array .int
  | 5 => .int
  | 6 => .int
  | 7 => .int
  | _ => .int
abbrev wsX00 : List Cond := u_ws RX0 TX0 9
theorem nmX0 : ∀ a, a < 9 → ∀ b, b < 9 → a ≠ b → (TX0 a).2.1 ≠ (TX0 b).2.1 := by decide +kernel
theorem tyX0_ok : ∀ k, k < 9 → parseFieldDescriptor (TX0 k).2.2.1 = some (tyX0 k) := by decide +kernel
abbrev cX0_init : ByteArray := prog_2_method_1_code
def yX0_init : MethodName := ⟨RX0, "<init>", "()V"⟩
abbrev cX0_build : ByteArray := prog_2_method_2_code
def yX0_build : MethodName := ⟨RX0, "build", "(LParetoDesk$Setup;)V"⟩
abbrev cX0_reason : ByteArray := prog_2_method_3_code
def yX0_reason : MethodName := ⟨RX0, "reason", "(II)I"⟩
abbrev cX0_reasonBesideWeight : ByteArray := prog_2_method_4_code
def yX0_reasonBesideWeight : MethodName := ⟨RX0, "reasonBesideWeight", "(I)I"⟩
def RX1 : String := "ParetoDesk$Climber"
def TX1 : u_T := fun k => match k with
  | 0 => ("ParetoDesk$Climber", "at", "I", false)
  | 1 => ("ParetoDesk$Climber", "steps", "I", false)
  | 2 => ("ParetoDesk$Climber", "bestSet", "I", false)
  | _ => ("ParetoDesk$Climber", "bestValue", "I", false)
def tyX1 : Nat → FieldType := fun k => match k with
  | 0 => .int
  | 1 => .int
  | 2 => .int
  | _ => .int
abbrev wsX10 : List Cond := u_ws RX1 TX1 4
theorem nmX1 : ∀ a, a < 4 → ∀ b, b < 4 → a ≠ b → (TX1 a).2.1 ≠ (TX1 b).2.1 := by decide +kernel
theorem tyX1_ok : ∀ k, k < 4 → parseFieldDescriptor (TX1 k).2.2.1 = some (tyX1 k) := by decide +kernel
abbrev cX1_init : ByteArray := prog_3_method_1_code
def yX1_init : MethodName := ⟨RX1, "<init>", "()V"⟩
def RX2 : String := "ParetoDesk$Frontier"
def TX2 : u_T := fun k => match k with
  | 0 => ("ParetoDesk$Frontier", "gain", "[I", true)
  | 1 => ("ParetoDesk$Frontier", "joy", "[I", true)
  | 2 => ("ParetoDesk$Frontier", "choice", "[I", true)
  | 3 => ("ParetoDesk$Frontier", "times", "[I", true)
  | 4 => ("ParetoDesk$Frontier", "light", "[I", true)
  | 5 => ("ParetoDesk$Frontier", "mark", "[I", true)
  | 6 => ("ParetoDesk$Frontier", "vertexPoint", "[I", true)
  | 7 => ("ParetoDesk$Frontier", "pointAt", "[I", true)
  | 8 => ("ParetoDesk$Frontier", "reached", "[Z", true)
  | 9 => ("ParetoDesk$Frontier", "size", "I", false)
  | 10 => ("ParetoDesk$Frontier", "vertexCount", "I", false)
  | 11 => ("ParetoDesk$Frontier", "allowedCount", "I", false)
  | _ => ("ParetoDesk$Frontier", "areaBelow", "I", false)
def tyX2 : Nat → FieldType := fun k => match k with
  | 0 => .array .int
  | 1 => .array .int
  | 2 => .array .int
  | 3 => .array .int
  | 4 => .array .int
  | 5 => .array .int
  | 6 => .array .int
  | 7 => .array .int
  | 8 => .array .boolean
  | 9 => .int
  | 10 => .int
  | 11 => .int
  | _ => .int
abbrev wsX20 : List Cond := u_ws RX2 TX2 13
theorem nmX2 : ∀ a, a < 13 → ∀ b, b < 13 → a ≠ b → (TX2 a).2.1 ≠ (TX2 b).2.1 := by decide +kernel
theorem tyX2_ok : ∀ k, k < 13 → parseFieldDescriptor (TX2 k).2.2.1 = some (tyX2 k) := by decide +kernel
abbrev cX2_init : ByteArray := prog_4_method_1_code
def yX2_init : MethodName := ⟨RX2, "<init>", "()V"⟩
abbrev cX2_build : ByteArray := prog_4_method_2_code
def yX2_build : MethodName := ⟨RX2, "build", "(LParetoDesk$Choices;ILParetoDesk$Stairs;)V"⟩
abbrev cX2_readPoints : ByteArray := prog_4_method_3_code
def yX2_readPoints : MethodName := ⟨RX2, "readPoints", "(LParetoDesk$Stairs;)V"⟩
abbrev cX2_readChoices : ByteArray := prog_4_method_4_code
def yX2_readChoices : MethodName := ⟨RX2, "readChoices", "(LParetoDesk$Choices;I)V"⟩
abbrev cX2_findVertices : ByteArray := prog_4_method_5_code
def yX2_findVertices : MethodName := ⟨RX2, "findVertices", "()V"⟩
abbrev cX2_heightOver : ByteArray := prog_4_method_6_code
def yX2_heightOver : MethodName := ⟨RX2, "heightOver", "(III)I"⟩
abbrev cX2_markSupported : ByteArray := prog_4_method_7_code
def yX2_markSupported : MethodName := ⟨RX2, "markSupported", "()V"⟩
abbrev cX2_gainWon : ByteArray := prog_4_method_8_code
def yX2_gainWon : MethodName := ⟨RX2, "gainWon", "(II)I"⟩
abbrev cX2_joyLost : ByteArray := prog_4_method_9_code
def yX2_joyLost : MethodName := ⟨RX2, "joyLost", "(II)I"⟩
abbrev cX2_pointWithPair : ByteArray := prog_4_method_11_code
def yX2_pointWithPair : MethodName := ⟨RX2, "pointWithPair", "(II)I"⟩
abbrev cX2_beats : ByteArray := prog_4_method_12_code
def yX2_beats : MethodName := ⟨RX2, "beats", "(III)Z"⟩
def RX3 : String := "ParetoDesk$Layers"
def TX3 : u_T := fun k => match k with
  | 0 => ("ParetoDesk$Layers", "layer", "[I", true)
  | 1 => ("ParetoDesk$Layers", "size", "[I", true)
  | 2 => ("ParetoDesk$Layers", "count", "I", false)
  | 3 => ("ParetoDesk$Layers", "topJoy", "[I", true)
  | 4 => ("ParetoDesk$Layers", "firstOfJoy", "[I", true)
  | 5 => ("ParetoDesk$Layers", "nextOfJoy", "[I", true)
  | 6 => ("ParetoDesk$Layers", "firstOfGain", "[I", true)
  | _ => ("ParetoDesk$Layers", "nextOfGain", "[I", true)
def tyX3 : Nat → FieldType := fun k => match k with
  | 0 => .array .int
  | 1 => .array .int
  | 2 => .int
  | 3 => .array .int
  | 4 => .array .int
  | 5 => .array .int
  | 6 => .array .int
  | _ => .array .int
abbrev wsX30 : List Cond := u_ws RX3 TX3 8
theorem nmX3 : ∀ a, a < 8 → ∀ b, b < 8 → a ≠ b → (TX3 a).2.1 ≠ (TX3 b).2.1 := by decide +kernel
theorem tyX3_ok : ∀ k, k < 8 → parseFieldDescriptor (TX3 k).2.2.1 = some (tyX3 k) := by decide +kernel
abbrev cX3_init : ByteArray := prog_5_method_1_code
def yX3_init : MethodName := ⟨RX3, "<init>", "()V"⟩
abbrev cX3_build : ByteArray := prog_5_method_2_code
def yX3_build : MethodName := ⟨RX3, "build", "(LParetoDesk$Choices;I)V"⟩
abbrev cX3_sortByJoy : ByteArray := prog_5_method_3_code
def yX3_sortByJoy : MethodName := ⟨RX3, "sortByJoy", "(LParetoDesk$Choices;I)V"⟩
abbrev cX3_sortByGain : ByteArray := prog_5_method_4_code
def yX3_sortByGain : MethodName := ⟨RX3, "sortByGain", "(LParetoDesk$Choices;)V"⟩
abbrev cX3_putAhead : ByteArray := prog_5_method_5_code
def yX3_putAhead : MethodName := ⟨RX3, "putAhead", "(II[I[I)V"⟩
abbrev cX3_placeGain : ByteArray := prog_5_method_6_code
def yX3_placeGain : MethodName := ⟨RX3, "placeGain", "(LParetoDesk$Choices;I)V"⟩
abbrev cX3_placePair : ByteArray := prog_5_method_7_code
def yX3_placePair : MethodName := ⟨RX3, "placePair", "(I)I"⟩
abbrev cX3_firstLayerBelow : ByteArray := prog_5_method_8_code
def yX3_firstLayerBelow : MethodName := ⟨RX3, "firstLayerBelow", "(I)I"⟩
def RX4 : String := "ParetoDesk$Output"
def TX4 : u_T := fun k => match k with
  | 0 => ("ParetoDesk$Output", "bytes", "[B", true)
  | _ => ("ParetoDesk$Output", "length", "I", false)
def tyX4 : Nat → FieldType := fun k => match k with
  | 0 => .array .byte
  | _ => .int
abbrev wsX40 : List Cond := u_ws RX4 TX4 2
theorem nmX4 : ∀ a, a < 2 → ∀ b, b < 2 → a ≠ b → (TX4 a).2.1 ≠ (TX4 b).2.1 := by decide +kernel
theorem tyX4_ok : ∀ k, k < 2 → parseFieldDescriptor (TX4 k).2.2.1 = some (tyX4 k) := by decide +kernel
abbrev cX4_init : ByteArray := prog_6_method_1_code
def yX4_init : MethodName := ⟨RX4, "<init>", "()V"⟩
def RX5 : String := "ParetoDesk$Parser"
def TX5 : u_T := fun k => match k with
  | 0 => ("ParetoDesk$Parser", "draft", "LParetoDesk$Setup;", true)
  | 1 => ("ParetoDesk$Parser", "code", "I", false)
  | 2 => ("ParetoDesk$Parser", "place", "I", false)
  | 3 => ("ParetoDesk$Parser", "text", "[B", true)
  | 4 => ("ParetoDesk$Parser", "length", "I", false)
  | 5 => ("ParetoDesk$Parser", "kind", "I", false)
  | 6 => ("ParetoDesk$Parser", "start", "I", false)
  | 7 => ("ParetoDesk$Parser", "next", "I", false)
  | _ => ("ParetoDesk$Parser", "value", "I", false)
def tyX5 : Nat → FieldType := fun k => match k with
  | 0 => .object "ParetoDesk$Setup"
  | 1 => .int
  | 2 => .int
  | 3 => .array .byte
  | 4 => .int
  | 5 => .int
  | 6 => .int
  | 7 => .int
  | _ => .int
abbrev wsX50 : List Cond := u_ws RX5 TX5 9
theorem nmX5 : ∀ a, a < 9 → ∀ b, b < 9 → a ≠ b → (TX5 a).2.1 ≠ (TX5 b).2.1 := by decide +kernel
theorem tyX5_ok : ∀ k, k < 9 → parseFieldDescriptor (TX5 k).2.2.1 = some (tyX5 k) := by decide +kernel
abbrev cX5_init : ByteArray := prog_7_method_1_code
def yX5_init : MethodName := ⟨RX5, "<init>", "()V"⟩
abbrev cX5_parse : ByteArray := prog_7_method_2_code
def yX5_parse : MethodName := ⟨RX5, "parse", "([BI)Z"⟩
abbrev cX5_fail : ByteArray := prog_7_method_3_code
def yX5_fail : MethodName := ⟨RX5, "fail", "(I)Z"⟩
abbrev cX5_advance : ByteArray := prog_7_method_4_code
def yX5_advance : MethodName := ⟨RX5, "advance", "()V"⟩
abbrev cX5_isLetter : ByteArray := prog_7_method_5_code
def yX5_isLetter : MethodName := ⟨RX5, "isLetter", "(B)Z"⟩
abbrev cX5_isDigit : ByteArray := prog_7_method_6_code
def yX5_isDigit : MethodName := ⟨RX5, "isDigit", "(B)Z"⟩
abbrev cX5_isWord : ByteArray := prog_7_method_7_code
def yX5_isWord : MethodName := ⟨RX5, "isWord", "(Ljava/lang/String;)Z"⟩
abbrev cX5_passWord : ByteArray := prog_7_method_8_code
def yX5_passWord : MethodName := ⟨RX5, "passWord", "(Ljava/lang/String;)Z"⟩
abbrev cX5_passEnd : ByteArray := prog_7_method_9_code
def yX5_passEnd : MethodName := ⟨RX5, "passEnd", "()Z"⟩
abbrev cX5_checkNumber : ByteArray := prog_7_method_10_code
def yX5_checkNumber : MethodName := ⟨RX5, "checkNumber", "(I)Z"⟩
abbrev cX5_passNumber : ByteArray := prog_7_method_11_code
def yX5_passNumber : MethodName := ⟨RX5, "passNumber", "(I)I"⟩
abbrev cX5_readFrame : ByteArray := prog_7_method_12_code
def yX5_readFrame : MethodName := ⟨RX5, "readFrame", "()Z"⟩
abbrev cX5_readStatement : ByteArray := prog_7_method_13_code
def yX5_readStatement : MethodName := ⟨RX5, "readStatement", "()Z"⟩
abbrev cX5_readItem : ByteArray := prog_7_method_14_code
def yX5_readItem : MethodName := ⟨RX5, "readItem", "()Z"⟩
abbrev cX5_readPair : ByteArray := prog_7_method_15_code
def yX5_readPair : MethodName := ⟨RX5, "readPair", "(Z)Z"⟩
abbrev cX5_readSingle : ByteArray := prog_7_method_16_code
def yX5_readSingle : MethodName := ⟨RX5, "readSingle", "(Z)Z"⟩
def RX6 : String := "ParetoDesk$Past"
def TX6 : u_T := fun k => match k with
  | 0 => ("ParetoDesk$Past", "setups", "[LParetoDesk$Setup;", true)
  | _ => ("ParetoDesk$Past", "count", "I", false)
def tyX6 : Nat → FieldType := fun k => match k with
  | 0 => .array (.object "ParetoDesk$Setup")
  | _ => .int
abbrev wsX60 : List Cond := u_ws RX6 TX6 2
theorem nmX6 : ∀ a, a < 2 → ∀ b, b < 2 → a ≠ b → (TX6 a).2.1 ≠ (TX6 b).2.1 := by decide +kernel
theorem tyX6_ok : ∀ k, k < 2 → parseFieldDescriptor (TX6 k).2.2.1 = some (tyX6 k) := by decide +kernel
abbrev cX6_init : ByteArray := prog_8_method_1_code
def yX6_init : MethodName := ⟨RX6, "<init>", "()V"⟩
abbrev cX6_push : ByteArray := prog_8_method_2_code
def yX6_push : MethodName := ⟨RX6, "push", "(LParetoDesk$Setup;)V"⟩
abbrev cX6_forgetOldest : ByteArray := prog_8_method_3_code
def yX6_forgetOldest : MethodName := ⟨RX6, "forgetOldest", "()V"⟩
def RX7 : String := "ParetoDesk$Search"
def TX7 : u_T := fun k => match k with
  | 0 => ("ParetoDesk$Search", "from", "[I", true)
  | 1 => ("ParetoDesk$Search", "to", "[I", true)
  | 2 => ("ParetoDesk$Search", "found", "[I", true)
  | _ => ("ParetoDesk$Search", "count", "I", false)
def tyX7 : Nat → FieldType := fun k => match k with
  | 0 => .array .int
  | 1 => .array .int
  | 2 => .array .int
  | _ => .int
abbrev wsX70 : List Cond := u_ws RX7 TX7 4
theorem nmX7 : ∀ a, a < 4 → ∀ b, b < 4 → a ≠ b → (TX7 a).2.1 ≠ (TX7 b).2.1 := by decide +kernel
theorem tyX7_ok : ∀ k, k < 4 → parseFieldDescriptor (TX7 k).2.2.1 = some (tyX7 k) := by decide +kernel
abbrev cX7_init : ByteArray := prog_9_method_1_code
def yX7_init : MethodName := ⟨RX7, "<init>", "()V"⟩
def RX8 : String := "ParetoDesk$Setup"
def TX8 : u_T := fun k => match k with
  | 0 => ("ParetoDesk$Setup", "items", "I", false)
  | 1 => ("ParetoDesk$Setup", "capacity", "I", false)
  | 2 => ("ParetoDesk$Setup", "limit", "I", false)
  | 3 => ("ParetoDesk$Setup", "mustSet", "I", false)
  | 4 => ("ParetoDesk$Setup", "neverSet", "I", false)
  | 5 => ("ParetoDesk$Setup", "hand", "I", false)
  | 6 => ("ParetoDesk$Setup", "weight", "[I", true)
  | 7 => ("ParetoDesk$Setup", "gain", "[I", true)
  | 8 => ("ParetoDesk$Setup", "joy", "[I", true)
  | 9 => ("ParetoDesk$Setup", "bars", "[I", true)
  | _ => ("ParetoDesk$Setup", "needs", "[I", true)
def tyX8 : Nat → FieldType := fun k => match k with
  | 0 => .int
  | 1 => .int
  | 2 => .int
  | 3 => .int
  | 4 => .int
  | 5 => .int
  | 6 => .array .int
  | 7 => .array .int
  | 8 => .array .int
  | 9 => .array .int
  | _ => .array .int
abbrev wsX80 : List Cond := u_ws RX8 TX8 11
theorem nmX8 : ∀ a, a < 11 → ∀ b, b < 11 → a ≠ b → (TX8 a).2.1 ≠ (TX8 b).2.1 := by decide +kernel
theorem tyX8_ok : ∀ k, k < 11 → parseFieldDescriptor (TX8 k).2.2.1 = some (tyX8 k) := by decide +kernel
abbrev cX8_init : ByteArray := prog_10_method_1_code
def yX8_init : MethodName := ⟨RX8, "<init>", "()V"⟩
abbrev cX8_hasItem : ByteArray := prog_10_method_2_code
def yX8_hasItem : MethodName := ⟨RX8, "hasItem", "(I)Z"⟩
abbrev cX8_everyItem : ByteArray := prog_10_method_3_code
def yX8_everyItem : MethodName := ⟨RX8, "everyItem", "()I"⟩
abbrev cX8_countBits : ByteArray := prog_10_method_4_code
def yX8_countBits : MethodName := ⟨RX8, "countBits", "([I)I"⟩
abbrev cX8_copyFrom : ByteArray := prog_10_method_5_code
def yX8_copyFrom : MethodName := ⟨RX8, "copyFrom", "(LParetoDesk$Setup;)V"⟩
abbrev cX8_clear : ByteArray := prog_10_method_6_code
def yX8_clear : MethodName := ⟨RX8, "clear", "()V"⟩
abbrev cX8_addLast : ByteArray := prog_10_method_7_code
def yX8_addLast : MethodName := ⟨RX8, "addLast", "(III)V"⟩
def RX9 : String := "ParetoDesk$Stairs"
def TX9 : u_T := fun k => match k with
  | 0 => ("ParetoDesk$Stairs", "joyAt", "[I", true)
  | _ => ("ParetoDesk$Stairs", "allowedCount", "I", false)
def tyX9 : Nat → FieldType := fun k => match k with
  | 0 => .array .int
  | _ => .int
abbrev wsX90 : List Cond := u_ws RX9 TX9 2
theorem nmX9 : ∀ a, a < 2 → ∀ b, b < 2 → a ≠ b → (TX9 a).2.1 ≠ (TX9 b).2.1 := by decide +kernel
theorem tyX9_ok : ∀ k, k < 2 → parseFieldDescriptor (TX9 k).2.2.1 = some (tyX9 k) := by decide +kernel
abbrev cX9_init : ByteArray := prog_11_method_1_code
def yX9_init : MethodName := ⟨RX9, "<init>", "()V"⟩
abbrev cX9_build : ByteArray := prog_11_method_2_code
def yX9_build : MethodName := ⟨RX9, "build", "(LParetoDesk$Choices;II)V"⟩
abbrev cX9_keepGreatest : ByteArray := prog_11_method_3_code
def yX9_keepGreatest : MethodName := ⟨RX9, "keepGreatest", "(II)V"⟩
abbrev cX9_dropBeaten : ByteArray := prog_11_method_4_code
def yX9_dropBeaten : MethodName := ⟨RX9, "dropBeaten", "()V"⟩
abbrev cX9_areaBelow : ByteArray := prog_11_method_6_code
def yX9_areaBelow : MethodName := ⟨RX9, "areaBelow", "()I"⟩
def RX10 : String := "ParetoDesk"
def TX10 : u_T := fun k => match k with
  | 0 => ("ParetoDesk", "input", "[B", true)
  | 1 => ("ParetoDesk", "inputLength", "I", false)
  | 2 => ("ParetoDesk", "parser", "LParetoDesk$Parser;", true)
  | 3 => ("ParetoDesk", "parseCode", "I", false)
  | 4 => ("ParetoDesk", "parsePosition", "I", false)
  | 5 => ("ParetoDesk", "now", "LParetoDesk$Setup;", true)
  | 6 => ("ParetoDesk", "past", "LParetoDesk$Past;", true)
  | 7 => ("ParetoDesk", "slots", "[LParetoDesk$Setup;", true)
  | 8 => ("ParetoDesk", "slotUsed", "[Z", true)
  | 9 => ("ParetoDesk", "output", "LParetoDesk$Output;", true)
  | 10 => ("ParetoDesk", "choices", "LParetoDesk$Choices;", true)
  | 11 => ("ParetoDesk", "stairs", "LParetoDesk$Stairs;", true)
  | 12 => ("ParetoDesk", "frontier", "LParetoDesk$Frontier;", true)
  | 13 => ("ParetoDesk", "search", "LParetoDesk$Search;", true)
  | 14 => ("ParetoDesk", "layering", "LParetoDesk$Layers;", true)
  | 15 => ("ParetoDesk", "climber", "LParetoDesk$Climber;", true)
  | 16 => ("ParetoDesk", "frontierFresh", "Z", false)
  | 17 => ("ParetoDesk", "searchFresh", "Z", false)
  | _ => ("ParetoDesk", "layersFresh", "Z", false)
def tyX10 : Nat → FieldType := fun k => match k with
  | 0 => .array .byte
  | 1 => .int
  | 2 => .object "ParetoDesk$Parser"
  | 3 => .int
  | 4 => .int
  | 5 => .object "ParetoDesk$Setup"
  | 6 => .object "ParetoDesk$Past"
  | 7 => .array (.object "ParetoDesk$Setup")
  | 8 => .array .boolean
  | 9 => .object "ParetoDesk$Output"
  | 10 => .object "ParetoDesk$Choices"
  | 11 => .object "ParetoDesk$Stairs"
  | 12 => .object "ParetoDesk$Frontier"
  | 13 => .object "ParetoDesk$Search"
  | 14 => .object "ParetoDesk$Layers"
  | 15 => .object "ParetoDesk$Climber"
  | 16 => .boolean
  | 17 => .boolean
  | _ => .boolean
abbrev wsX100 : List Cond := u_ws RX10 TX10 19
theorem nmX10 : ∀ a, a < 19 → ∀ b, b < 19 → a ≠ b → (TX10 a).2.1 ≠ (TX10 b).2.1 := by decide +kernel
theorem tyX10_ok : ∀ k, k < 19 → parseFieldDescriptor (TX10 k).2.2.1 = some (tyX10 k) := by decide +kernel
abbrev cX10_init : ByteArray := prog_1_method_1_code
def yX10_init : MethodName := ⟨RX10, "<init>", "()V"⟩
abbrev cX10_append : ByteArray := prog_1_method_2_code
def yX10_append : MethodName := ⟨RX10, "append", "(IIIII)I"⟩
abbrev cX10_putInput : ByteArray := prog_1_method_3_code
def yX10_putInput : MethodName := ⟨RX10, "putInput", "(I)V"⟩
abbrev cX10_truncate : ByteArray := prog_1_method_4_code
def yX10_truncate : MethodName := ⟨RX10, "truncate", "(I)V"⟩
abbrev cX10_load : ByteArray := prog_1_method_5_code
def yX10_load : MethodName := ⟨RX10, "load", "()I"⟩
abbrev cX10_errorCode : ByteArray := prog_1_method_6_code
def yX10_errorCode : MethodName := ⟨RX10, "errorCode", "()I"⟩
abbrev cX10_errorPosition : ByteArray := prog_1_method_7_code
def yX10_errorPosition : MethodName := ⟨RX10, "errorPosition", "()I"⟩
abbrev cX10_property : ByteArray := prog_1_method_8_code
def yX10_property : MethodName := ⟨RX10, "property", "(I)I"⟩
abbrev cX10_item : ByteArray := prog_1_method_9_code
def yX10_item : MethodName := ⟨RX10, "item", "(II)I"⟩
abbrev cX10_refusal : ByteArray := prog_1_method_10_code
def yX10_refusal : MethodName := ⟨RX10, "refusal", "(I)I"⟩
abbrev cX10_sum : ByteArray := prog_1_method_11_code
def yX10_sum : MethodName := ⟨RX10, "sum", "(II)I"⟩
abbrev cX10_allowed : ByteArray := prog_1_method_12_code
def yX10_allowed : MethodName := ⟨RX10, "allowed", "()I"⟩
abbrev cX10_points : ByteArray := prog_1_method_13_code
def yX10_points : MethodName := ⟨RX10, "points", "()I"⟩
abbrev cX10_point : ByteArray := prog_1_method_14_code
def yX10_point : MethodName := ⟨RX10, "point", "(II)I"⟩
abbrev cX10_lightest : ByteArray := prog_1_method_15_code
def yX10_lightest : MethodName := ⟨RX10, "lightest", "(I)I"⟩
abbrev cX10_pointOf : ByteArray := prog_1_method_16_code
def yX10_pointOf : MethodName := ⟨RX10, "pointOf", "(I)I"⟩
abbrev cX10_beatenBy : ByteArray := prog_1_method_17_code
def yX10_beatenBy : MethodName := ⟨RX10, "beatenBy", "(I)I"⟩
abbrev cX10_beating : ByteArray := prog_1_method_18_code
def yX10_beating : MethodName := ⟨RX10, "beating", "(II)I"⟩
abbrev cX10_joyFor : ByteArray := prog_1_method_19_code
def yX10_joyFor : MethodName := ⟨RX10, "joyFor", "(I)I"⟩
abbrev cX10_gainFor : ByteArray := prog_1_method_20_code
def yX10_gainFor : MethodName := ⟨RX10, "gainFor", "(I)I"⟩
abbrev cX10_area : ByteArray := prog_1_method_30_code
def yX10_area : MethodName := ⟨RX10, "area", "()I"⟩
abbrev cX10_layers : ByteArray := prog_1_method_41_code
def yX10_layers : MethodName := ⟨RX10, "layers", "()I"⟩
abbrev cX10_layerSize : ByteArray := prog_1_method_42_code
def yX10_layerSize : MethodName := ⟨RX10, "layerSize", "(I)I"⟩
abbrev cX10_layerOf : ByteArray := prog_1_method_43_code
def yX10_layerOf : MethodName := ⟨RX10, "layerOf", "(I)I"⟩
abbrev cX10_share : ByteArray := prog_1_method_45_code
def yX10_share : MethodName := ⟨RX10, "share", "()D"⟩
abbrev cX10_setCapacity : ByteArray := prog_1_method_49_code
def yX10_setCapacity : MethodName := ⟨RX10, "setCapacity", "(I)I"⟩
abbrev cX10_markChanged : ByteArray := prog_1_method_68_code
def yX10_markChanged : MethodName := ⟨RX10, "markChanged", "()V"⟩
abbrev cX10_refreshFrontier : ByteArray := prog_1_method_69_code
def yX10_refreshFrontier : MethodName := ⟨RX10, "refreshFrontier", "()V"⟩
abbrev cX10_refreshLayers : ByteArray := prog_1_method_71_code
def yX10_refreshLayers : MethodName := ⟨RX10, "refreshLayers", "()V"⟩
abbrev cX10_requireItem : ByteArray := prog_1_method_72_code
def yX10_requireItem : MethodName := ⟨RX10, "requireItem", "(I)V"⟩
abbrev cX10_requireSet : ByteArray := prog_1_method_74_code
def yX10_requireSet : MethodName := ⟨RX10, "requireSet", "(I)V"⟩
abbrev cX10_requirePoint : ByteArray := prog_1_method_76_code
def yX10_requirePoint : MethodName := ⟨RX10, "requirePoint", "(I)V"⟩
abbrev cX10_requireWhat : ByteArray := prog_1_method_78_code
def yX10_requireWhat : MethodName := ⟨RX10, "requireWhat", "(II)V"⟩
abbrev cX10_requireCapacity : ByteArray := prog_1_method_80_code
def yX10_requireCapacity : MethodName := ⟨RX10, "requireCapacity", "(I)V"⟩
abbrev cX10_hasBit : ByteArray := prog_1_method_82_code
def yX10_hasBit : MethodName := ⟨RX10, "hasBit", "(II)Z"⟩
abbrev cX10_withBit : ByteArray := prog_1_method_83_code
def yX10_withBit : MethodName := ⟨RX10, "withBit", "(IIZ)I"⟩
def RX11 : String := "ParetoDeskModel"
def TX11 : u_T := fun k => match k with
  | _ => ("", "", "", false)
def tyX11 : Nat → FieldType := fun k => match k with
  | _ => .int
abbrev wsX110 : List Cond := u_ws RX11 TX11 0
theorem nmX11 : ∀ a, a < 0 → ∀ b, b < 0 → a ≠ b → (TX11 a).2.1 ≠ (TX11 b).2.1 := by decide +kernel
theorem tyX11_ok : ∀ k, k < 0 → parseFieldDescriptor (TX11 k).2.2.1 = some (tyX11 k) := by decide +kernel
def RJx145de : String := "java/io/Serializable"
def TJx145de : u_T := fun k => match k with
  | _ => ("", "", "", false)
def tyJx145de : Nat → FieldType := fun k => match k with
  | _ => .int
abbrev wsJx145de0 : List Cond := u_ws RJx145de TJx145de 0
theorem nmJx145de : ∀ a, a < 0 → ∀ b, b < 0 → a ≠ b → (TJx145de a).2.1 ≠ (TJx145de b).2.1 := by decide +kernel
theorem tyJx145de_ok : ∀ k, k < 0 → parseFieldDescriptor (TJx145de k).2.2.1 = some (tyJx145de k) := by decide +kernel
def RJ5 : String := "java/lang/AbstractStringBuilder"
def TJ5 : u_T := fun k => match k with
  | _ => ("", "", "", false)
def tyJ5 : Nat → FieldType := fun k => match k with
  | _ => .int
abbrev wsJ50 : List Cond := u_ws RJ5 TJ5 0
theorem nmJ5 : ∀ a, a < 0 → ∀ b, b < 0 → a ≠ b → (TJ5 a).2.1 ≠ (TJ5 b).2.1 := by decide +kernel
theorem tyJ5_ok : ∀ k, k < 0 → parseFieldDescriptor (TJ5 k).2.2.1 = some (tyJ5 k) := by decide +kernel
abbrev cJ5_init_a7421 : ByteArray := prog_14_method_3_code
def yJ5_init_a7421 : MethodName := ⟨RJ5, "<init>", "(Ljava/lang/String;)V"⟩
abbrev cJ5_length_8abf5 : ByteArray := prog_14_method_6_code
def yJ5_length_8abf5 : MethodName := ⟨RJ5, "length", "()I"⟩
abbrev cJ5_ensureCapacityInternal_d00df : ByteArray := prog_14_method_9_code
def yJ5_ensureCapacityInternal_d00df : MethodName := ⟨RJ5, "ensureCapacityInternal", "(I)V"⟩
abbrev cJ5_newCapacity_0f7a4 : ByteArray := prog_14_method_10_code
def yJ5_newCapacity_0f7a4 : MethodName := ⟨RJ5, "newCapacity", "(I)I"⟩
abbrev cJ5_inflate_da8c8 : ByteArray := prog_14_method_11_code
def yJ5_inflate_da8c8 : MethodName := ⟨RJ5, "inflate", "()V"⟩
abbrev cJ5_append_cf1ce : ByteArray := prog_14_method_22_code
def yJ5_append_cf1ce : MethodName := ⟨RJ5, "append", "(Ljava/lang/String;)Ljava/lang/AbstractStringBuilder;"⟩
abbrev cJ5_appendNull_278bc : ByteArray := prog_14_method_26_code
def yJ5_appendNull_278bc : MethodName := ⟨RJ5, "appendNull", "()Ljava/lang/AbstractStringBuilder;"⟩
abbrev cJ5_append_c97b9 : ByteArray := prog_14_method_32_code
def yJ5_append_c97b9 : MethodName := ⟨RJ5, "append", "(I)Ljava/lang/AbstractStringBuilder;"⟩
abbrev cJ5_getValue_6d5f1 : ByteArray := prog_14_method_64_code
def yJ5_getValue_6d5f1 : MethodName := ⟨RJ5, "getValue", "()[B"⟩
abbrev cJ5_isLatin1_aae02 : ByteArray := prog_14_method_68_code
def yJ5_isLatin1_aae02 : MethodName := ⟨RJ5, "isLatin1", "()Z"⟩
abbrev cJ5_inflateIfNeededFor_a7421 : ByteArray := prog_14_method_71_code
def yJ5_inflateIfNeededFor_a7421 : MethodName := ⟨RJ5, "inflateIfNeededFor", "(Ljava/lang/String;)V"⟩
abbrev cJ5_putStringAt_47b60 : ByteArray := prog_14_method_73_code
def yJ5_putStringAt_47b60 : MethodName := ⟨RJ5, "putStringAt", "(ILjava/lang/String;)V"⟩
def RJx2cfe8 : String := "java/lang/Appendable"
def TJx2cfe8 : u_T := fun k => match k with
  | _ => ("", "", "", false)
def tyJx2cfe8 : Nat → FieldType := fun k => match k with
  | _ => .int
abbrev wsJx2cfe80 : List Cond := u_ws RJx2cfe8 TJx2cfe8 0
theorem nmJx2cfe8 : ∀ a, a < 0 → ∀ b, b < 0 → a ≠ b → (TJx2cfe8 a).2.1 ≠ (TJx2cfe8 b).2.1 := by decide +kernel
theorem tyJx2cfe8_ok : ∀ k, k < 0 → parseFieldDescriptor (TJx2cfe8 k).2.2.1 = some (tyJx2cfe8 k) := by decide +kernel
def RJx9f9b0 : String := "java/lang/CharSequence"
def TJx9f9b0 : u_T := fun k => match k with
  | _ => ("", "", "", false)
def tyJx9f9b0 : Nat → FieldType := fun k => match k with
  | _ => .int
abbrev wsJx9f9b00 : List Cond := u_ws RJx9f9b0 TJx9f9b0 0
theorem nmJx9f9b0 : ∀ a, a < 0 → ∀ b, b < 0 → a ≠ b → (TJx9f9b0 a).2.1 ≠ (TJx9f9b0 b).2.1 := by decide +kernel
theorem tyJx9f9b0_ok : ∀ k, k < 0 → parseFieldDescriptor (TJx9f9b0 k).2.2.1 = some (tyJx9f9b0 k) := by decide +kernel
def RJx8e188 : String := "java/lang/Cloneable"
def TJx8e188 : u_T := fun k => match k with
  | _ => ("", "", "", false)
def tyJx8e188 : Nat → FieldType := fun k => match k with
  | _ => .int
abbrev wsJx8e1880 : List Cond := u_ws RJx8e188 TJx8e188 0
theorem nmJx8e188 : ∀ a, a < 0 → ∀ b, b < 0 → a ≠ b → (TJx8e188 a).2.1 ≠ (TJx8e188 b).2.1 := by decide +kernel
theorem tyJx8e188_ok : ∀ k, k < 0 → parseFieldDescriptor (TJx8e188 k).2.2.1 = some (tyJx8e188 k) := by decide +kernel
def RJxb160c : String := "java/lang/Comparable"
def TJxb160c : u_T := fun k => match k with
  | _ => ("", "", "", false)
def tyJxb160c : Nat → FieldType := fun k => match k with
  | _ => .int
abbrev wsJxb160c0 : List Cond := u_ws RJxb160c TJxb160c 0
theorem nmJxb160c : ∀ a, a < 0 → ∀ b, b < 0 → a ≠ b → (TJxb160c a).2.1 ≠ (TJxb160c b).2.1 := by decide +kernel
theorem tyJxb160c_ok : ∀ k, k < 0 → parseFieldDescriptor (TJxb160c k).2.2.1 = some (tyJxb160c k) := by decide +kernel
def RJ6 : String := "java/lang/Integer"
def TJ6 : u_T := fun k => match k with
  | _ => ("", "", "", false)
def tyJ6 : Nat → FieldType := fun k => match k with
  | _ => .int
abbrev wsJ60 : List Cond := u_ws RJ6 TJ6 0
theorem nmJ6 : ∀ a, a < 0 → ∀ b, b < 0 → a ≠ b → (TJ6 a).2.1 ≠ (TJ6 b).2.1 := by decide +kernel
theorem tyJ6_ok : ∀ k, k < 0 → parseFieldDescriptor (TJ6 k).2.2.1 = some (tyJ6 k) := by decide +kernel
abbrev cJ6_getChars_ba4f3 : ByteArray := prog_20_method_12_code
def yJ6_getChars_ba4f3 : MethodName := ⟨RJ6, "getChars", "(II[B)I"⟩
abbrev cJ6_stringSize_0f7a4 : ByteArray := prog_20_method_13_code
def yJ6_stringSize_0f7a4 : MethodName := ⟨RJ6, "stringSize", "(I)I"⟩
abbrev cJ6_bitCount_0f7a4 : ByteArray := prog_20_method_49_code
def yJ6_bitCount_0f7a4 : MethodName := ⟨RJ6, "bitCount", "(I)I"⟩
def RJ9 : String := "java/lang/Math"
def TJ9 : u_T := fun k => match k with
  | _ => ("", "", "", false)
def tyJ9 : Nat → FieldType := fun k => match k with
  | _ => .int
abbrev wsJ90 : List Cond := u_ws RJ9 TJ9 0
theorem nmJ9 : ∀ a, a < 0 → ∀ b, b < 0 → a ≠ b → (TJ9 a).2.1 ≠ (TJ9 b).2.1 := by decide +kernel
theorem tyJ9_ok : ∀ k, k < 0 → parseFieldDescriptor (TJ9 k).2.2.1 = some (tyJ9 k) := by decide +kernel
abbrev cJ9_max_7cf53 : ByteArray := prog_21_method_65_code
def yJ9_max_7cf53 : MethodName := ⟨RJ9, "max", "(II)I"⟩
abbrev cJ9_min_7cf53 : ByteArray := prog_21_method_69_code
def yJ9_min_7cf53 : MethodName := ⟨RJ9, "min", "(II)I"⟩
def RJxd2413 : String := "java/lang/Number"
def TJxd2413 : u_T := fun k => match k with
  | _ => ("", "", "", false)
def tyJxd2413 : Nat → FieldType := fun k => match k with
  | _ => .int
abbrev wsJxd24130 : List Cond := u_ws RJxd2413 TJxd2413 0
theorem nmJxd2413 : ∀ a, a < 0 → ∀ b, b < 0 → a ≠ b → (TJxd2413 a).2.1 ≠ (TJxd2413 b).2.1 := by decide +kernel
theorem tyJxd2413_ok : ∀ k, k < 0 → parseFieldDescriptor (TJxd2413 k).2.2.1 = some (tyJxd2413 k) := by decide +kernel
def RJ0 : String := "java/lang/String"
def TJ0 : u_T := fun k => match k with
  | 0 => ("java/lang/String", "value", "[B", true)
  | 1 => ("java/lang/String", "coder", "B", true)
  | 2 => ("java/lang/String", "hash", "I", false)
  | _ => ("java/lang/String", "hashIsZero", "Z", false)
def tyJ0 : Nat → FieldType := fun k => match k with
  | 0 => .array .byte
  | 1 => .byte
  | 2 => .int
  | _ => .boolean
abbrev wsJ00 : List Cond := u_ws RJ0 TJ0 4
theorem nmJ0 : ∀ a, a < 4 → ∀ b, b < 4 → a ≠ b → (TJ0 a).2.1 ≠ (TJ0 b).2.1 := by decide +kernel
theorem tyJ0_ok : ∀ k, k < 4 → parseFieldDescriptor (TJ0 k).2.2.1 = some (tyJ0 k) := by decide +kernel
abbrev cJ0_init_81219 : ByteArray := prog_24_method_53_code
def yJ0_init_81219 : MethodName := ⟨RJ0, "<init>", "(Ljava/lang/StringBuilder;)V"⟩
abbrev cJ0_length_8abf5 : ByteArray := prog_24_method_54_code
def yJ0_length_8abf5 : MethodName := ⟨RJ0, "length", "()I"⟩
abbrev cJ0_charAt_5068e : ByteArray := prog_24_method_56_code
def yJ0_charAt_5068e : MethodName := ⟨RJ0, "charAt", "(I)C"⟩
abbrev cJ0_getBytes_840e7 : ByteArray := prog_24_method_147_code
def yJ0_getBytes_840e7 : MethodName := ⟨RJ0, "getBytes", "([BIB)V"⟩
abbrev cJ0_init_db425 : ByteArray := prog_24_method_150_code
def yJ0_init_db425 : MethodName := ⟨RJ0, "<init>", "(Ljava/lang/AbstractStringBuilder;Ljava/lang/Void;)V"⟩
abbrev cJ0_coder_7d493 : ByteArray := prog_24_method_152_code
def yJ0_coder_7d493 : MethodName := ⟨RJ0, "coder", "()B"⟩
abbrev cJ0_isLatin1_aae02 : ByteArray := prog_24_method_154_code
def yJ0_isLatin1_aae02 : MethodName := ⟨RJ0, "isLatin1", "()Z"⟩
abbrev cJ0_checkIndex_df160 : ByteArray := prog_24_method_155_code
def yJ0_checkIndex_df160 : MethodName := ⟨RJ0, "checkIndex", "(II)V"⟩
abbrev cJ0_checkBoundsOffCount_cabcc : ByteArray := prog_24_method_157_code
def yJ0_checkBoundsOffCount_cabcc : MethodName := ⟨RJ0, "checkBoundsOffCount", "(III)I"⟩
abbrev cJ0_checkBoundsBeginEnd_23922 : ByteArray := prog_24_method_158_code
def yJ0_checkBoundsBeginEnd_23922 : MethodName := ⟨RJ0, "checkBoundsBeginEnd", "(III)V"⟩
def RJ4 : String := "java/lang/StringBuilder"
def TJ4 : u_T := fun k => match k with
  | 0 => ("java/lang/AbstractStringBuilder", "value", "[B", false)
  | 1 => ("java/lang/AbstractStringBuilder", "coder", "B", false)
  | 2 => ("java/lang/AbstractStringBuilder", "maybeLatin1", "Z", false)
  | _ => ("java/lang/AbstractStringBuilder", "count", "I", false)
def tyJ4 : Nat → FieldType := fun k => match k with
  | 0 => .array .byte
  | 1 => .byte
  | 2 => .boolean
  | _ => .int
abbrev wsJ40 : List Cond := u_ws RJ4 TJ4 4
theorem nmJ4 : ∀ a, a < 4 → ∀ b, b < 4 → a ≠ b → (TJ4 a).2.1 ≠ (TJ4 b).2.1 := by decide +kernel
theorem tyJ4_ok : ∀ k, k < 4 → parseFieldDescriptor (TJ4 k).2.2.1 = some (tyJ4 k) := by decide +kernel
abbrev cJ4_init_a7421 : ByteArray := prog_25_method_3_code
def yJ4_init_a7421 : MethodName := ⟨RJ4, "<init>", "(Ljava/lang/String;)V"⟩
abbrev cJ4_append_15ec4 : ByteArray := prog_25_method_7_code
def yJ4_append_15ec4 : MethodName := ⟨RJ4, "append", "(Ljava/lang/String;)Ljava/lang/StringBuilder;"⟩
abbrev cJ4_append_bf812 : ByteArray := prog_25_method_15_code
def yJ4_append_bf812 : MethodName := ⟨RJ4, "append", "(I)Ljava/lang/StringBuilder;"⟩
abbrev cJ4_toString_0e30d : ByteArray := prog_25_method_42_code
def yJ4_toString_0e30d : MethodName := ⟨RJ4, "toString", "()Ljava/lang/String;"⟩
abbrev cJ4_append_cf1ce : ByteArray := prog_25_method_80_code
def yJ4_append_cf1ce : MethodName := ⟨RJ4, "append", "(Ljava/lang/String;)Ljava/lang/AbstractStringBuilder;"⟩
abbrev cJ4_length_8abf5 : ByteArray := prog_25_method_93_code
def yJ4_length_8abf5 : MethodName := ⟨RJ4, "length", "()I"⟩
def RJ1 : String := "java/lang/StringLatin1"
def TJ1 : u_T := fun k => match k with
  | _ => ("", "", "", false)
def tyJ1 : Nat → FieldType := fun k => match k with
  | _ => .int
abbrev wsJ10 : List Cond := u_ws RJ1 TJ1 0
theorem nmJ1 : ∀ a, a < 0 → ∀ b, b < 0 → a ≠ b → (TJ1 a).2.1 ≠ (TJ1 b).2.1 := by decide +kernel
theorem tyJ1_ok : ∀ k, k < 0 → parseFieldDescriptor (TJ1 k).2.2.1 = some (tyJ1 k) := by decide +kernel
abbrev cJ1_charAt_3b067 : ByteArray := prog_26_method_2_code
def yJ1_charAt_3b067 : MethodName := ⟨RJ1, "charAt", "([BI)C"⟩
abbrev cJ1_inflate_0e8fd : ByteArray := prog_26_method_50_code
def yJ1_inflate_0e8fd : MethodName := ⟨RJ1, "inflate", "([BI[BII)V"⟩
def RJ2 : String := "java/lang/StringUTF16"
def TJ2 : u_T := fun k => match k with
  | _ => ("", "", "", false)
def tyJ2 : Nat → FieldType := fun k => match k with
  | _ => .int
abbrev wsJ20 : List Cond := u_ws RJ2 TJ2 0
theorem nmJ2 : ∀ a, a < 0 → ∀ b, b < 0 → a ≠ b → (TJ2 a).2.1 ≠ (TJ2 b).2.1 := by decide +kernel
theorem tyJ2_ok : ∀ k, k < 0 → parseFieldDescriptor (TJ2 k).2.2.1 = some (tyJ2 k) := by decide +kernel
abbrev cJ2_newBytesFor_77867 : ByteArray := prog_27_method_2_code
def yJ2_newBytesFor_77867 : MethodName := ⟨RJ2, "newBytesFor", "(I)[B"⟩
abbrev cJ2_newBytesLength_0f7a4 : ByteArray := prog_27_method_3_code
def yJ2_newBytesLength_0f7a4 : MethodName := ⟨RJ2, "newBytesLength", "(I)I"⟩
abbrev cJ2_putChar_b72d1 : ByteArray := prog_27_method_4_code
def yJ2_putChar_b72d1 : MethodName := ⟨RJ2, "putChar", "([BII)V"⟩
abbrev cJ2_getChar_3b067 : ByteArray := prog_27_method_5_code
def yJ2_getChar_3b067 : MethodName := ⟨RJ2, "getChar", "([BI)C"⟩
abbrev cJ2_length_9d52b : ByteArray := prog_27_method_6_code
def yJ2_length_9d52b : MethodName := ⟨RJ2, "length", "([B)I"⟩
abbrev cJ2_coderFromArrayLen_85cad : ByteArray := prog_27_method_15_code
def yJ2_coderFromArrayLen_85cad : MethodName := ⟨RJ2, "coderFromArrayLen", "([BI)B"⟩
abbrev cJ2_compress_39247 : ByteArray := prog_27_method_17_code
def yJ2_compress_39247 : MethodName := ⟨RJ2, "compress", "([BII)[B"⟩
abbrev cJ2_compress_5af95 : ByteArray := prog_27_method_22_code
def yJ2_compress_5af95 : MethodName := ⟨RJ2, "compress", "([BI[BII)I"⟩
abbrev cJ2_getChars_46870 : ByteArray := prog_27_method_77_code
def yJ2_getChars_46870 : MethodName := ⟨RJ2, "getChars", "(III[B)I"⟩
abbrev cJ2_putCharsAt_cd4e5 : ByteArray := prog_27_method_81_code
def yJ2_putCharsAt_cd4e5 : MethodName := ⟨RJ2, "putCharsAt", "([BICCCC)I"⟩
abbrev cJ2_charAt_3b067 : ByteArray := prog_27_method_83_code
def yJ2_charAt_3b067 : MethodName := ⟨RJ2, "charAt", "([BI)C"⟩
abbrev cJ2_inflate_0e8fd : ByteArray := prog_27_method_86_code
def yJ2_inflate_0e8fd : MethodName := ⟨RJ2, "inflate", "([BI[BII)V"⟩
abbrev cJ2_getChars_ba4f3 : ByteArray := prog_27_method_89_code
def yJ2_getChars_ba4f3 : MethodName := ⟨RJ2, "getChars", "(II[B)I"⟩
abbrev cJ2_checkIndex_2214a : ByteArray := prog_27_method_91_code
def yJ2_checkIndex_2214a : MethodName := ⟨RJ2, "checkIndex", "(I[B)V"⟩
abbrev cJ2_checkBoundsBeginEnd_d044e : ByteArray := prog_27_method_93_code
def yJ2_checkBoundsBeginEnd_d044e : MethodName := ⟨RJ2, "checkBoundsBeginEnd", "(II[B)V"⟩
abbrev cJ2_checkBoundsOffCount_d044e : ByteArray := prog_27_method_94_code
def yJ2_checkBoundsOffCount_d044e : MethodName := ⟨RJ2, "checkBoundsOffCount", "(II[B)V"⟩
def RJ10 : String := "java/lang/System"
def TJ10 : u_T := fun k => match k with
  | _ => ("", "", "", false)
def tyJ10 : Nat → FieldType := fun k => match k with
  | _ => .int
abbrev wsJ100 : List Cond := u_ws RJ10 TJ10 0
theorem nmJ10 : ∀ a, a < 0 → ∀ b, b < 0 → a ≠ b → (TJ10 a).2.1 ≠ (TJ10 b).2.1 := by decide +kernel
theorem tyJ10_ok : ∀ k, k < 0 → parseFieldDescriptor (TJ10 k).2.2.1 = some (tyJ10 k) := by decide +kernel
def RJxfd54e : String := "java/lang/constant/Constable"
def TJxfd54e : u_T := fun k => match k with
  | _ => ("", "", "", false)
def tyJxfd54e : Nat → FieldType := fun k => match k with
  | _ => .int
abbrev wsJxfd54e0 : List Cond := u_ws RJxfd54e TJxfd54e 0
theorem nmJxfd54e : ∀ a, a < 0 → ∀ b, b < 0 → a ≠ b → (TJxfd54e a).2.1 ≠ (TJxfd54e b).2.1 := by decide +kernel
theorem tyJxfd54e_ok : ∀ k, k < 0 → parseFieldDescriptor (TJxfd54e k).2.2.1 = some (tyJxfd54e k) := by decide +kernel
def RJx3cf43 : String := "java/lang/constant/ConstantDesc"
def TJx3cf43 : u_T := fun k => match k with
  | _ => ("", "", "", false)
def tyJx3cf43 : Nat → FieldType := fun k => match k with
  | _ => .int
abbrev wsJx3cf430 : List Cond := u_ws RJx3cf43 TJx3cf43 0
theorem nmJx3cf43 : ∀ a, a < 0 → ∀ b, b < 0 → a ≠ b → (TJx3cf43 a).2.1 ≠ (TJx3cf43 b).2.1 := by decide +kernel
theorem tyJx3cf43_ok : ∀ k, k < 0 → parseFieldDescriptor (TJx3cf43 k).2.2.1 = some (tyJx3cf43 k) := by decide +kernel
def RJ7 : String := "java/util/Arrays"
def TJ7 : u_T := fun k => match k with
  | _ => ("", "", "", false)
def tyJ7 : Nat → FieldType := fun k => match k with
  | _ => .int
abbrev wsJ70 : List Cond := u_ws RJ7 TJ7 0
theorem nmJ7 : ∀ a, a < 0 → ∀ b, b < 0 → a ≠ b → (TJ7 a).2.1 ≠ (TJ7 b).2.1 := by decide +kernel
theorem tyJ7_ok : ∀ k, k < 0 → parseFieldDescriptor (TJ7 k).2.2.1 = some (tyJ7 k) := by decide +kernel
abbrev cJ7_fill_53178 : ByteArray := prog_30_method_103_code
def yJ7_fill_53178 : MethodName := ⟨RJ7, "fill", "([II)V"⟩
abbrev cJ7_copyOf_9075b : ByteArray := prog_30_method_121_code
def yJ7_copyOf_9075b : MethodName := ⟨RJ7, "copyOf", "([BI)[B"⟩
abbrev cJ7_checkLength_df160 : ByteArray := prog_30_method_131_code
def yJ7_checkLength_df160 : MethodName := ⟨RJ7, "checkLength", "(II)V"⟩
abbrev cJ7_copyOfRange_39247 : ByteArray := prog_30_method_132_code
def yJ7_copyOfRange_39247 : MethodName := ⟨RJ7, "copyOfRange", "([BII)[B"⟩
abbrev cJ7_copyOfRangeByte_39247 : ByteArray := prog_30_method_133_code
def yJ7_copyOfRangeByte_39247 : MethodName := ⟨RJ7, "copyOfRangeByte", "([BII)[B"⟩
def RJ8 : String := "jdk/internal/util/ArraysSupport"
def TJ8 : u_T := fun k => match k with
  | _ => ("", "", "", false)
def tyJ8 : Nat → FieldType := fun k => match k with
  | _ => .int
abbrev wsJ80 : List Cond := u_ws RJ8 TJ8 0
theorem nmJ8 : ∀ a, a < 0 → ∀ b, b < 0 → a ≠ b → (TJ8 a).2.1 ≠ (TJ8 b).2.1 := by decide +kernel
theorem tyJ8_ok : ∀ k, k < 0 → parseFieldDescriptor (TJ8 k).2.2.1 = some (tyJ8 k) := by decide +kernel
abbrev cJ8_newLength_cabcc : ByteArray := prog_31_method_27_code
def yJ8_newLength_cabcc : MethodName := ⟨RJ8, "newLength", "(III)I"⟩
abbrev cJ8_hugeLength_7cf53 : ByteArray := prog_31_method_28_code
def yJ8_hugeLength_7cf53 : MethodName := ⟨RJ8, "hugeLength", "(II)I"⟩
def RJ3 : String := "jdk/internal/util/Preconditions"
def TJ3 : u_T := fun k => match k with
  | _ => ("", "", "", false)
def tyJ3 : Nat → FieldType := fun k => match k with
  | _ => .int
abbrev wsJ30 : List Cond := u_ws RJ3 TJ3 0
theorem nmJ3 : ∀ a, a < 0 → ∀ b, b < 0 → a ≠ b → (TJ3 a).2.1 ≠ (TJ3 b).2.1 := by decide +kernel
theorem tyJ3_ok : ∀ k, k < 0 → parseFieldDescriptor (TJ3 k).2.2.1 = some (tyJ3 k) := by decide +kernel
abbrev cJ3_checkIndex_8e157 : ByteArray := prog_32_method_11_code
def yJ3_checkIndex_8e157 : MethodName := ⟨RJ3, "checkIndex", "(IILjava/util/function/BiFunction;)I"⟩
abbrev cJ3_checkFromToIndex_8c36e : ByteArray := prog_32_method_12_code
def yJ3_checkFromToIndex_8c36e : MethodName := ⟨RJ3, "checkFromToIndex", "(IIILjava/util/function/BiFunction;)I"⟩
abbrev cJ3_checkFromIndexSize_8c36e : ByteArray := prog_32_method_13_code
def yJ3_checkFromIndexSize_8c36e : MethodName := ⟨RJ3, "checkFromIndexSize", "(IIILjava/util/function/BiFunction;)I"⟩
def RL : String := "ParetoDeskLaw"
abbrev cL_draw : ByteArray := method_2_code
def yL_draw : MethodName := ⟨RL, "draw", "([III)I"⟩
abbrev cL_four : ByteArray := method_3_code
def yL_four : MethodName := ⟨RL, "four", "(Ljava/lang/String;I)I"⟩
abbrev cL_feed : ByteArray := method_4_code
def yL_feed : MethodName := ⟨RL, "feed", "(LParetoDesk;Ljava/lang/String;)V"⟩
abbrev cL_load : ByteArray := method_5_code
def yL_load : MethodName := ⟨RL, "load", "(LParetoDesk;[I)Z"⟩
abbrev cL_sum : ByteArray := method_6_code
def yL_sum : MethodName := ⟨RL, "sum", "(LParetoDesk;II)I"⟩
abbrev cL_refusal : ByteArray := method_7_code
def yL_refusal : MethodName := ⟨RL, "refusal", "(LParetoDesk;I)I"⟩
abbrev cL_beats : ByteArray := method_8_code
def yL_beats : MethodName := ⟨RL, "beats", "(IIII)Z"⟩
abbrev cL_points : ByteArray := method_10_code
def yL_points : MethodName := ⟨RL, "points", "(LParetoDesk;)Z"⟩
abbrev cL_layers : ByteArray := method_11_code
def yL_layers : MethodName := ⟨RL, "layers", "(LParetoDesk;[I[II)Z"⟩
abbrev cL_asks : ByteArray := method_12_code
def yL_asks : MethodName := ⟨RL, "asks", "(LParetoDesk;I)Z"⟩
abbrev cL_law : ByteArray := code
def yL_law : MethodName := ⟨RL, "law", "([I)Z"⟩
abbrev vwCl : List vw_C := [(RX0, TX0, 9), (RX1, TX1, 4), (RX2, TX2, 13), (RX3, TX3, 8), (RX4, TX4, 2), (RX5, TX5, 9), (RX6, TX6, 2), (RX7, TX7, 4), (RX8, TX8, 11), (RX9, TX9, 2), (RX10, TX10, 19), (RJ0, TJ0, 4), (RJ4, TJ4, 4)]
