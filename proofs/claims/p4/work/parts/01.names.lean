/-! names of all classes and methods (laid by wip/names.py, wip/namesout.py out of the Statement) -/
def RX0 : String := "PatternMatcher$Node"
def TX0 : u_T := fun k => match k with
  | 0 => ("PatternMatcher$Node", "number", "I", true)
  | 1 => ("PatternMatcher$Node", "kind", "I", false)
  | 2 => ("PatternMatcher$Node", "next", "I", false)
  | 3 => ("PatternMatcher$Node", "other", "I", false)
  | 4 => ("PatternMatcher$Node", "group", "I", false)
  | 5 => ("PatternMatcher$Node", "slot", "I", false)
  | 6 => ("PatternMatcher$Node", "least", "I", false)
  | 7 => ("PatternMatcher$Node", "most", "I", false)
  | 8 => ("PatternMatcher$Node", "lazy", "Z", false)
  | 9 => ("PatternMatcher$Node", "behind", "Z", false)
  | 10 => ("PatternMatcher$Node", "negative", "Z", false)
  | 11 => ("PatternMatcher$Node", "low", "J", false)
  | _ => ("PatternMatcher$Node", "high", "J", false)
def tyX0 : Nat → FieldType := fun k => match k with
  | 0 => .int
  | 1 => .int
  | 2 => .int
  | 3 => .int
  | 4 => .int
  | 5 => .int
  | 6 => .int
  | 7 => .int
  | 8 => .boolean
  | 9 => .boolean
  | 10 => .boolean
  | 11 => .long
  | _ => .long
theorem nmX0 : ∀ a, a < 13 → ∀ b, b < 13 → a ≠ b → (TX0 a).2.1 ≠ (TX0 b).2.1 := by decide +kernel
theorem tyX0_ok : ∀ k, k < 13 → parseFieldDescriptor (TX0 k).2.2.1 = some (tyX0 k) := by decide +kernel
def RX1 : String := "PatternMatcher$Program"
def TX1 : u_T := fun k => match k with
  | 0 => ("PatternMatcher$Program", "nodes", "[LPatternMatcher$Node;", true)
  | 1 => ("PatternMatcher$Program", "count", "I", false)
  | 2 => ("PatternMatcher$Program", "first", "I", false)
  | 3 => ("PatternMatcher$Program", "groups", "I", false)
  | _ => ("PatternMatcher$Program", "asked", "J", false)
def tyX1 : Nat → FieldType := fun k => match k with
  | 0 => .array (.object "PatternMatcher$Node")
  | 1 => .int
  | 2 => .int
  | 3 => .int
  | _ => .long
theorem nmX1 : ∀ a, a < 5 → ∀ b, b < 5 → a ≠ b → (TX1 a).2.1 ≠ (TX1 b).2.1 := by decide +kernel
theorem tyX1_ok : ∀ k, k < 5 → parseFieldDescriptor (TX1 k).2.2.1 = some (tyX1 k) := by decide +kernel
def RX2 : String := "PatternMatcher$Reader"
def TX2 : u_T := fun k => match k with
  | 0 => ("PatternMatcher$Reader", "row", "LPatternMatcher$Row;", true)
  | 1 => ("PatternMatcher$Reader", "program", "LPatternMatcher$Program;", true)
  | 2 => ("PatternMatcher$Reader", "at", "I", false)
  | 3 => ("PatternMatcher$Reader", "bad", "Z", false)
  | 4 => ("PatternMatcher$Reader", "behinds", "I", false)
  | 5 => ("PatternMatcher$Reader", "tail", "I", false)
  | 6 => ("PatternMatcher$Reader", "low", "J", false)
  | 7 => ("PatternMatcher$Reader", "high", "J", false)
  | 8 => ("PatternMatcher$Reader", "least", "I", false)
  | _ => ("PatternMatcher$Reader", "most", "I", false)
def tyX2 : Nat → FieldType := fun k => match k with
  | 0 => .object "PatternMatcher$Row"
  | 1 => .object "PatternMatcher$Program"
  | 2 => .int
  | 3 => .boolean
  | 4 => .int
  | 5 => .int
  | 6 => .long
  | 7 => .long
  | 8 => .int
  | _ => .int
theorem nmX2 : ∀ a, a < 10 → ∀ b, b < 10 → a ≠ b → (TX2 a).2.1 ≠ (TX2 b).2.1 := by decide +kernel
theorem tyX2_ok : ∀ k, k < 10 → parseFieldDescriptor (TX2 k).2.2.1 = some (tyX2 k) := by decide +kernel
def RX3 : String := "PatternMatcher$Row"
def TX3 : u_T := fun k => match k with
  | 0 => ("PatternMatcher$Row", "characters", "[C", true)
  | _ => ("PatternMatcher$Row", "count", "I", false)
def tyX3 : Nat → FieldType := fun k => match k with
  | 0 => .array .char
  | _ => .int
theorem nmX3 : ∀ a, a < 2 → ∀ b, b < 2 → a ≠ b → (TX3 a).2.1 ≠ (TX3 b).2.1 := by decide +kernel
theorem tyX3_ok : ∀ k, k < 2 → parseFieldDescriptor (TX3 k).2.2.1 = some (tyX3 k) := by decide +kernel
def RX4 : String := "PatternMatcher$Search"
def TX4 : u_T := fun k => match k with
  | 0 => ("PatternMatcher$Search", "waitingAt", "[I", true)
  | 1 => ("PatternMatcher$Search", "waitingSpans", "[J", true)
  | 2 => ("PatternMatcher$Search", "waiting", "I", false)
  | 3 => ("PatternMatcher$Search", "seenWhere", "[J", true)
  | 4 => ("PatternMatcher$Search", "seenSpans", "[J", true)
  | 5 => ("PatternMatcher$Search", "open", "[I", true)
  | 6 => ("PatternMatcher$Search", "searches", "I", false)
  | 7 => ("PatternMatcher$Search", "text", "LPatternMatcher$Row;", true)
  | 8 => ("PatternMatcher$Search", "program", "LPatternMatcher$Program;", false)
  | 9 => ("PatternMatcher$Search", "node", "I", false)
  | 10 => ("PatternMatcher$Search", "place", "I", false)
  | 11 => ("PatternMatcher$Search", "loops", "I", false)
  | _ => ("PatternMatcher$Search", "spans", "J", false)
def tyX4 : Nat → FieldType := fun k => match k with
  | 0 => .array .int
  | 1 => .array .long
  | 2 => .int
  | 3 => .array .long
  | 4 => .array .long
  | 5 => .array .int
  | 6 => .int
  | 7 => .object "PatternMatcher$Row"
  | 8 => .object "PatternMatcher$Program"
  | 9 => .int
  | 10 => .int
  | 11 => .int
  | _ => .long
theorem nmX4 : ∀ a, a < 13 → ∀ b, b < 13 → a ≠ b → (TX4 a).2.1 ≠ (TX4 b).2.1 := by decide +kernel
theorem tyX4_ok : ∀ k, k < 13 → parseFieldDescriptor (TX4 k).2.2.1 = some (tyX4 k) := by decide +kernel
def RX5 : String := "PatternMatcher"
def TX5 : u_T := fun k => match k with
  | 0 => ("PatternMatcher", "search", "LPatternMatcher$Search;", true)
  | 1 => ("PatternMatcher", "text", "LPatternMatcher$Row;", true)
  | 2 => ("PatternMatcher", "rows", "[LPatternMatcher$Row;", true)
  | 3 => ("PatternMatcher", "spare", "LPatternMatcher$Program;", false)
  | 4 => ("PatternMatcher", "compiled", "Z", false)
  | 5 => ("PatternMatcher", "matched", "Z", false)
  | 6 => ("PatternMatcher", "matchFrom", "I", false)
  | 7 => ("PatternMatcher", "matchTo", "I", false)
  | 8 => ("PatternMatcher", "matchSpans", "J", false)
  | 9 => ("PatternMatcher", "made", "LPatternMatcher$Row;", true)
  | 10 => ("PatternMatcher", "pieceFrom", "[I", true)
  | 11 => ("PatternMatcher", "pieceTo", "[I", true)
  | _ => ("PatternMatcher", "pieces", "I", false)
def tyX5 : Nat → FieldType := fun k => match k with
  | 0 => .object "PatternMatcher$Search"
  | 1 => .object "PatternMatcher$Row"
  | 2 => .array (.object "PatternMatcher$Row")
  | 3 => .object "PatternMatcher$Program"
  | 4 => .boolean
  | 5 => .boolean
  | 6 => .int
  | 7 => .int
  | 8 => .long
  | 9 => .object "PatternMatcher$Row"
  | 10 => .array .int
  | 11 => .array .int
  | _ => .int
theorem nmX5 : ∀ a, a < 13 → ∀ b, b < 13 → a ≠ b → (TX5 a).2.1 ≠ (TX5 b).2.1 := by decide +kernel
theorem tyX5_ok : ∀ k, k < 13 → parseFieldDescriptor (TX5 k).2.2.1 = some (tyX5 k) := by decide +kernel
def RX6 : String := "PatternMatcherModel"
def TX6 : u_T := fun k => match k with
  | 0 => ("PatternMatcherModel", "code", "I", false)
  | 1 => ("PatternMatcherModel", "row", "[I", true)
  | 2 => ("PatternMatcherModel", "length", "[I", true)
  | 3 => ("PatternMatcherModel", "base", "I", false)
  | 4 => ("PatternMatcherModel", "used", "I", false)
  | 5 => ("PatternMatcherModel", "groups", "I", false)
  | 6 => ("PatternMatcherModel", "open", "I", false)
  | 7 => ("PatternMatcherModel", "compiled", "Z", false)
  | 8 => ("PatternMatcherModel", "type", "[I", true)
  | 9 => ("PatternMatcherModel", "a", "[I", true)
  | 10 => ("PatternMatcherModel", "b", "[I", true)
  | 11 => ("PatternMatcherModel", "mode", "[I", true)
  | 12 => ("PatternMatcherModel", "kid", "[I", true)
  | 13 => ("PatternMatcherModel", "sibling", "[I", true)
  | 14 => ("PatternMatcherModel", "low", "[J", true)
  | 15 => ("PatternMatcherModel", "high", "[J", true)
  | 16 => ("PatternMatcherModel", "depth", "I", false)
  | 17 => ("PatternMatcherModel", "at", "I", false)
  | 18 => ("PatternMatcherModel", "bracket", "[I", true)
  | 19 => ("PatternMatcherModel", "choice", "[I", true)
  | 20 => ("PatternMatcherModel", "sequence", "[I", true)
  | 21 => ("PatternMatcherModel", "tail", "[I", true)
  | 22 => ("PatternMatcherModel", "behind", "[Z", true)
  | 23 => ("PatternMatcherModel", "place", "I", false)
  | 24 => ("PatternMatcherModel", "node", "I", false)
  | 25 => ("PatternMatcherModel", "next", "I", false)
  | 26 => ("PatternMatcherModel", "linked", "I", false)
  | 27 => ("PatternMatcherModel", "ways", "I", false)
  | 28 => ("PatternMatcherModel", "whole", "I", false)
  | 29 => ("PatternMatcherModel", "alive", "Z", false)
  | 30 => ("PatternMatcherModel", "span", "[I", true)
  | 31 => ("PatternMatcherModel", "linkKind", "[I", true)
  | 32 => ("PatternMatcherModel", "linkA", "[I", true)
  | 33 => ("PatternMatcherModel", "linkB", "[I", true)
  | 34 => ("PatternMatcherModel", "linkTo", "[I", true)
  | 35 => ("PatternMatcherModel", "wayNode", "[I", true)
  | 36 => ("PatternMatcherModel", "wayCount", "[I", true)
  | 37 => ("PatternMatcherModel", "wayPlace", "[I", true)
  | 38 => ("PatternMatcherModel", "wayNext", "[I", true)
  | 39 => ("PatternMatcherModel", "wayLinked", "[I", true)
  | 40 => ("PatternMatcherModel", "waySpan", "[I", true)
  | 41 => ("PatternMatcherModel", "matched", "Z", false)
  | 42 => ("PatternMatcherModel", "match", "[I", true)
  | 43 => ("PatternMatcherModel", "made", "I", false)
  | 44 => ("PatternMatcherModel", "result", "[I", true)
  | 45 => ("PatternMatcherModel", "pieces", "I", false)
  | 46 => ("PatternMatcherModel", "pieceFrom", "[I", true)
  | _ => ("PatternMatcherModel", "pieceTo", "[I", true)
def tyX6 : Nat → FieldType := fun k => match k with
  | 0 => .int
  | 1 => .array .int
  | 2 => .array .int
  | 3 => .int
  | 4 => .int
  | 5 => .int
  | 6 => .int
  | 7 => .boolean
  | 8 => .array .int
  | 9 => .array .int
  | 10 => .array .int
  | 11 => .array .int
  | 12 => .array .int
  | 13 => .array .int
  | 14 => .array .long
  | 15 => .array .long
  | 16 => .int
  | 17 => .int
  | 18 => .array .int
  | 19 => .array .int
  | 20 => .array .int
  | 21 => .array .int
  | 22 => .array .boolean
  | 23 => .int
  | 24 => .int
  | 25 => .int
  | 26 => .int
  | 27 => .int
  | 28 => .int
  | 29 => .boolean
  | 30 => .array .int
  | 31 => .array .int
  | 32 => .array .int
  | 33 => .array .int
  | 34 => .array .int
  | 35 => .array .int
  | 36 => .array .int
  | 37 => .array .int
  | 38 => .array .int
  | 39 => .array .int
  | 40 => .array .int
  | 41 => .boolean
  | 42 => .array .int
  | 43 => .int
  | 44 => .array .int
  | 45 => .int
  | 46 => .array .int
  | _ => .array .int
theorem nmX6 : ∀ a, a < 48 → ∀ b, b < 48 → a ≠ b → (TX6 a).2.1 ≠ (TX6 b).2.1 := by decide +kernel
theorem tyX6_ok : ∀ k, k < 48 → parseFieldDescriptor (TX6 k).2.2.1 = some (tyX6 k) := by decide +kernel
def RL : String := "PatternMatcherLaw"
abbrev vwCl : List vw_C := [(RX0, TX0, 13), (RX1, TX1, 5), (RX2, TX2, 10), (RX3, TX3, 2), (RX4, TX4, 13), (RX5, TX5, 13), (RX6, TX6, 48)]
abbrev cX5_init : ByteArray := prog_1_method_1_code
def yX5_init : MethodName := ⟨RX5, "<init>", "()V"⟩
abbrev cX4_init : ByteArray := prog_6_method_1_code
def yX4_init : MethodName := ⟨RX4, "<init>", "()V"⟩
abbrev cX3_init : ByteArray := prog_5_method_1_code
def yX3_init : MethodName := ⟨RX3, "<init>", "(I)V"⟩
abbrev cX1_init : ByteArray := prog_3_method_1_code
def yX1_init : MethodName := ⟨RX1, "<init>", "()V"⟩
abbrev cX0_init : ByteArray := prog_2_method_1_code
def yX0_init : MethodName := ⟨RX0, "<init>", "(I)V"⟩
abbrev cX5_type : ByteArray := prog_1_method_2_code
def yX5_type : MethodName := ⟨RX5, "type", "(IC)Z"⟩
abbrev cX5_isRow : ByteArray := prog_1_method_15_code
def yX5_isRow : MethodName := ⟨RX5, "isRow", "(I)Z"⟩
abbrev cX3_add : ByteArray := prog_5_method_2_code
def yX3_add : MethodName := ⟨RX3, "add", "(C)Z"⟩
abbrev cX5_forgetMatchIfText : ByteArray := prog_1_method_16_code
def yX5_forgetMatchIfText : MethodName := ⟨RX5, "forgetMatchIfText", "(I)V"⟩
abbrev cX5_clear : ByteArray := prog_1_method_3_code
def yX5_clear : MethodName := ⟨RX5, "clear", "(I)Z"⟩
abbrev cX3_empty : ByteArray := prog_5_method_3_code
def yX3_empty : MethodName := ⟨RX3, "empty", "()V"⟩
abbrev cX5_length : ByteArray := prog_1_method_14_code
def yX5_length : MethodName := ⟨RX5, "length", "(I)I"⟩
abbrev cX3_size : ByteArray := prog_5_method_4_code
def yX3_size : MethodName := ⟨RX3, "size", "()I"⟩
abbrev cL_compile : ByteArray := method_3_code
def yL_compile : MethodName := ⟨RL, "compile", "(LPatternMatcher;[J)I"⟩
abbrev cX5_compile : ByteArray := prog_1_method_4_code
def yX5_compile : MethodName := ⟨RX5, "compile", "()I"⟩
abbrev cX2_init : ByteArray := prog_4_method_1_code
def yX2_init : MethodName := ⟨RX2, "<init>", "(LPatternMatcher$Row;LPatternMatcher$Program;)V"⟩
abbrev cX2_readPattern : ByteArray := prog_4_method_2_code
def yX2_readPattern : MethodName := ⟨RX2, "readPattern", "()Z"⟩
abbrev cX1_restart : ByteArray := prog_3_method_2_code
def yX1_restart : MethodName := ⟨RX1, "restart", "()V"⟩
abbrev cX2_add : ByteArray := prog_4_method_27_code
def yX2_add : MethodName := ⟨RX2, "add", "(I)I"⟩
abbrev cX1_add : ByteArray := prog_3_method_3_code
def yX1_add : MethodName := ⟨RX1, "add", "(I)I"⟩
abbrev cX2_choice : ByteArray := prog_4_method_3_code
def yX2_choice : MethodName := ⟨RX2, "choice", "(II)I"⟩
abbrev cX2_sequence : ByteArray := prog_4_method_4_code
def yX2_sequence : MethodName := ⟨RX2, "sequence", "(II)I"⟩
abbrev cX2_isSequenceOver : ByteArray := prog_4_method_5_code
def yX2_isSequenceOver : MethodName := ⟨RX2, "isSequenceOver", "()Z"⟩
abbrev cX3_at : ByteArray := prog_5_method_5_code
def yX3_at : MethodName := ⟨RX3, "at", "(I)C"⟩
abbrev cX1_node : ByteArray := prog_3_method_4_code
def yX1_node : MethodName := ⟨RX1, "node", "(I)LPatternMatcher$Node;"⟩
abbrev cX2_onePiece : ByteArray := prog_4_method_6_code
def yX2_onePiece : MethodName := ⟨RX2, "onePiece", "(I)I"⟩
abbrev cX2_atom : ByteArray := prog_4_method_10_code
def yX2_atom : MethodName := ⟨RX2, "atom", "(I)I"⟩
abbrev cX2_bracket : ByteArray := prog_4_method_18_code
def yX2_bracket : MethodName := ⟨RX2, "bracket", "(I)I"⟩
abbrev cX2_refuse : ByteArray := prog_4_method_30_code
def yX2_refuse : MethodName := ⟨RX2, "refuse", "()I"⟩
abbrev cX2_take : ByteArray := prog_4_method_28_code
def yX2_take : MethodName := ⟨RX2, "take", "(C)Z"⟩
abbrev cX2_group : ByteArray := prog_4_method_19_code
def yX2_group : MethodName := ⟨RX2, "group", "(I)I"⟩
abbrev cX2_closedChoice : ByteArray := prog_4_method_22_code
def yX2_closedChoice : MethodName := ⟨RX2, "closedChoice", "(II)I"⟩
abbrev cX2_expect : ByteArray := prog_4_method_29_code
def yX2_expect : MethodName := ⟨RX2, "expect", "(C)V"⟩
abbrev cX2_together : ByteArray := prog_4_method_20_code
def yX2_together : MethodName := ⟨RX2, "together", "(I)I"⟩
abbrev cX2_withBody : ByteArray := prog_4_method_23_code
def yX2_withBody : MethodName := ⟨RX2, "withBody", "(II)I"⟩
abbrev cX2_single : ByteArray := prog_4_method_26_code
def yX2_single : MethodName := ⟨RX2, "single", "(I)I"⟩
abbrev cX2_look : ByteArray := prog_4_method_21_code
def yX2_look : MethodName := ⟨RX2, "look", "(I)I"⟩
abbrev cX2_items : ByteArray := prog_4_method_13_code
def yX2_items : MethodName := ⟨RX2, "items", "()I"⟩
abbrev cX2_item : ByteArray := prog_4_method_14_code
def yX2_item : MethodName := ⟨RX2, "item", "()V"⟩
abbrev cX2_escapedItem : ByteArray := prog_4_method_15_code
def yX2_escapedItem : MethodName := ⟨RX2, "escapedItem", "()V"⟩
abbrev cX2_addItem : ByteArray := prog_4_method_17_code
def yX2_addItem : MethodName := ⟨RX2, "addItem", "(I)V"⟩
abbrev cX2_isItem : ByteArray := prog_4_method_16_code
def yX2_isItem : MethodName := ⟨RX2, "isItem", "(C)Z"⟩
abbrev cX2_set : ByteArray := prog_4_method_25_code
def yX2_set : MethodName := ⟨RX2, "set", "(JJ)I"⟩
abbrev cX2_escaped : ByteArray := prog_4_method_11_code
def yX2_escaped : MethodName := ⟨RX2, "escaped", "()I"⟩
abbrev cX2_backReference : ByteArray := prog_4_method_12_code
def yX2_backReference : MethodName := ⟨RX2, "backReference", "(I)I"⟩
abbrev cX2_character : ByteArray := prog_4_method_24_code
def yX2_character : MethodName := ⟨RX2, "character", "(C)I"⟩
abbrev cX2_readLoop : ByteArray := prog_4_method_7_code
def yX2_readLoop : MethodName := ⟨RX2, "readLoop", "()Z"⟩
abbrev cX2_readCounts : ByteArray := prog_4_method_8_code
def yX2_readCounts : MethodName := ⟨RX2, "readCounts", "()V"⟩
abbrev cX2_count : ByteArray := prog_4_method_9_code
def yX2_count : MethodName := ⟨RX2, "count", "()I"⟩
abbrev cL_matches : ByteArray := method_4_code
def yL_matches : MethodName := ⟨RL, "matches", "(LPatternMatcher;[J)I"⟩
abbrev cX5_matches : ByteArray := prog_1_method_5_code
def yX5_matches : MethodName := ⟨RX5, "matches", "()Z"⟩
abbrev cX5_match : ByteArray := prog_1_method_17_code
def yX5_match : MethodName := ⟨RX5, "match", "(III)Z"⟩
abbrev cX4_openSearch : ByteArray := prog_6_method_2_code
def yX4_openSearch : MethodName := ⟨RX4, "openSearch", "(I)V"⟩
abbrev cX4_firstWay : ByteArray := prog_6_method_3_code
def yX4_firstWay : MethodName := ⟨RX4, "firstWay", "(II)Z"⟩
abbrev cX4_run : ByteArray := prog_6_method_4_code
def yX4_run : MethodName := ⟨RX4, "run", "(III)Z"⟩
abbrev cX4_takeWaiting : ByteArray := prog_6_method_15_code
def yX4_takeWaiting : MethodName := ⟨RX4, "takeWaiting", "()V"⟩
abbrev cX4_step : ByteArray := prog_6_method_5_code
def yX4_step : MethodName := ⟨RX4, "step", "(LPatternMatcher$Node;I)Z"⟩
abbrev cX4_takeCharacter : ByteArray := prog_6_method_6_code
def yX4_takeCharacter : MethodName := ⟨RX4, "takeCharacter", "(LPatternMatcher$Node;)Z"⟩
abbrev cX5_isIn : ByteArray := prog_1_method_28_code
def yX5_isIn : MethodName := ⟨RX5, "isIn", "(CJJ)Z"⟩
abbrev cX4_moveTo : ByteArray := prog_6_method_8_code
def yX4_moveTo : MethodName := ⟨RX4, "moveTo", "(I)V"⟩
abbrev cX4_isEdge : ByteArray := prog_6_method_9_code
def yX4_isEdge : MethodName := ⟨RX4, "isEdge", "()Z"⟩
abbrev cX4_isWord : ByteArray := prog_6_method_10_code
def yX4_isWord : MethodName := ⟨RX4, "isWord", "(C)Z"⟩
abbrev cX4_takeSpanAgain : ByteArray := prog_6_method_7_code
def yX4_takeSpanAgain : MethodName := ⟨RX4, "takeSpanAgain", "(I)Z"⟩
abbrev cX5_spanPlace : ByteArray := prog_1_method_29_code
def yX5_spanPlace : MethodName := ⟨RX5, "spanPlace", "(JII)I"⟩
abbrev cX5_spanOpened : ByteArray := prog_1_method_30_code
def yX5_spanOpened : MethodName := ⟨RX5, "spanOpened", "(JII)J"⟩
abbrev cX5_spanClosed : ByteArray := prog_1_method_31_code
def yX5_spanClosed : MethodName := ⟨RX5, "spanClosed", "(JII)J"⟩
abbrev cX4_letWait : ByteArray := prog_6_method_14_code
def yX4_letWait : MethodName := ⟨RX4, "letWait", "(II)Z"⟩
abbrev cX4_packed : ByteArray := prog_6_method_18_code
def yX4_packed : MethodName := ⟨RX4, "packed", "(II)I"⟩
abbrev cX4_withLoop : ByteArray := prog_6_method_12_code
def yX4_withLoop : MethodName := ⟨RX4, "withLoop", "(II)I"⟩
abbrev cX4_wasHere : ByteArray := prog_6_method_16_code
def yX4_wasHere : MethodName := ⟨RX4, "wasHere", "(LPatternMatcher$Node;I)Z"⟩
abbrev cX4_isOver : ByteArray := prog_6_method_17_code
def yX4_isOver : MethodName := ⟨RX4, "isOver", "(II)Z"⟩
abbrev cX4_loop : ByteArray := prog_6_method_11_code
def yX4_loop : MethodName := ⟨RX4, "loop", "(LPatternMatcher$Node;)Z"⟩
abbrev cX4_goTo : ByteArray := prog_6_method_13_code
def yX4_goTo : MethodName := ⟨RX4, "goTo", "(II)Z"⟩
abbrev cX4_look : ByteArray := prog_6_method_19_code
def yX4_look : MethodName := ⟨RX4, "look", "(LPatternMatcher$Node;I)Z"⟩
abbrev cX4_lookBehind : ByteArray := prog_6_method_20_code
def yX4_lookBehind : MethodName := ⟨RX4, "lookBehind", "(II)Z"⟩
abbrev cX4_atomic : ByteArray := prog_6_method_21_code
def yX4_atomic : MethodName := ⟨RX4, "atomic", "(LPatternMatcher$Node;I)Z"⟩
abbrev cL_looking : ByteArray := method_5_code
def yL_looking : MethodName := ⟨RL, "looking", "(LPatternMatcher;[J)I"⟩
abbrev cX5_looking : ByteArray := prog_1_method_6_code
def yX5_looking : MethodName := ⟨RX5, "looking", "()Z"⟩
abbrev cL_find : ByteArray := method_6_code
def yL_find : MethodName := ⟨RL, "find", "(LPatternMatcher;I[J)I"⟩
abbrev cX5_find : ByteArray := prog_1_method_7_code
def yX5_find : MethodName := ⟨RX5, "find", "(I)I"⟩
abbrev cL_start : ByteArray := method_7_code
def yL_start : MethodName := ⟨RL, "start", "(LPatternMatcher;I[J)I"⟩
abbrev cX5_start : ByteArray := prog_1_method_8_code
def yX5_start : MethodName := ⟨RX5, "start", "(I)I"⟩
abbrev cX5_isGroup : ByteArray := prog_1_method_19_code
def yX5_isGroup : MethodName := ⟨RX5, "isGroup", "(I)Z"⟩
abbrev cX5_groupFrom : ByteArray := prog_1_method_20_code
def yX5_groupFrom : MethodName := ⟨RX5, "groupFrom", "(I)I"⟩
abbrev cL_end : ByteArray := method_8_code
def yL_end : MethodName := ⟨RL, "end", "(LPatternMatcher;I[J)I"⟩
abbrev cX5_end : ByteArray := prog_1_method_9_code
def yX5_end : MethodName := ⟨RX5, "end", "(I)I"⟩
abbrev cX5_groupTo : ByteArray := prog_1_method_21_code
def yX5_groupTo : MethodName := ⟨RX5, "groupTo", "(I)I"⟩
abbrev cL_replace : ByteArray := method_9_code
def yL_replace : MethodName := ⟨RL, "replace", "(LPatternMatcher;[J)I"⟩
abbrev cX5_replace : ByteArray := prog_1_method_10_code
def yX5_replace : MethodName := ⟨RX5, "replace", "()I"⟩
abbrev cX5_templateFault : ByteArray := prog_1_method_22_code
def yX5_templateFault : MethodName := ⟨RX5, "templateFault", "()I"⟩
abbrev cX5_isDigit : ByteArray := prog_1_method_27_code
def yX5_isDigit : MethodName := ⟨RX5, "isDigit", "(C)Z"⟩
abbrev cX5_makeFromText : ByteArray := prog_1_method_24_code
def yX5_makeFromText : MethodName := ⟨RX5, "makeFromText", "(II)V"⟩
abbrev cX5_makeFromTemplate : ByteArray := prog_1_method_23_code
def yX5_makeFromTemplate : MethodName := ⟨RX5, "makeFromTemplate", "()V"⟩
abbrev cX5_placeAfterMatch : ByteArray := prog_1_method_18_code
def yX5_placeAfterMatch : MethodName := ⟨RX5, "placeAfterMatch", "()I"⟩
abbrev cL_replaced : ByteArray := method_10_code
def yL_replaced : MethodName := ⟨RL, "replaced", "(LPatternMatcher;I[J)I"⟩
abbrev cX5_replaced : ByteArray := prog_1_method_11_code
def yX5_replaced : MethodName := ⟨RX5, "replaced", "(I)C"⟩
abbrev cL_split : ByteArray := method_11_code
def yL_split : MethodName := ⟨RL, "split", "(LPatternMatcher;[J)I"⟩
abbrev cX5_split : ByteArray := prog_1_method_12_code
def yX5_split : MethodName := ⟨RX5, "split", "()I"⟩
abbrev cX5_addPiece : ByteArray := prog_1_method_25_code
def yX5_addPiece : MethodName := ⟨RX5, "addPiece", "(II)V"⟩
abbrev cX5_dropEmptyPiecesAtEnd : ByteArray := prog_1_method_26_code
def yX5_dropEmptyPiecesAtEnd : MethodName := ⟨RX5, "dropEmptyPiecesAtEnd", "()V"⟩
abbrev cL_piece : ByteArray := method_12_code
def yL_piece : MethodName := ⟨RL, "piece", "(LPatternMatcher;II[J)I"⟩
abbrev cX5_piece : ByteArray := prog_1_method_13_code
def yX5_piece : MethodName := ⟨RX5, "piece", "(II)I"⟩
abbrev cX6_init : ByteArray := prog_8_method_1_code
def yX6_init : MethodName := ⟨RX6, "<init>", "()V"⟩
abbrev cX6_thrown : ByteArray := prog_8_method_2_code
def yX6_thrown : MethodName := ⟨RX6, "thrown", "()I"⟩
abbrev cX6_type : ByteArray := prog_8_method_5_code
def yX6_type : MethodName := ⟨RX6, "type", "(IC)Z"⟩
abbrev cX6_room : ByteArray := prog_8_method_4_code
def yX6_room : MethodName := ⟨RX6, "room", "(I)I"⟩
abbrev cX6_clear : ByteArray := prog_8_method_6_code
def yX6_clear : MethodName := ⟨RX6, "clear", "(I)Z"⟩
abbrev cX6_length : ByteArray := prog_8_method_7_code
def yX6_length : MethodName := ⟨RX6, "length", "(I)I"⟩
abbrev cX6_compile : ByteArray := prog_8_method_30_code
def yX6_compile : MethodName := ⟨RX6, "compile", "()I"⟩
abbrev cX6_read : ByteArray := prog_8_method_18_code
def yX6_read : MethodName := ⟨RX6, "read", "()Z"⟩
abbrev cX6_newChoice : ByteArray := prog_8_method_11_code
def yX6_newChoice : MethodName := ⟨RX6, "newChoice", "(IZ)V"⟩
abbrev cX6_create : ByteArray := prog_8_method_9_code
def yX6_create : MethodName := ⟨RX6, "create", "(I)I"⟩
abbrev cX6_newSequence : ByteArray := prog_8_method_10_code
def yX6_newSequence : MethodName := ⟨RX6, "newSequence", "()V"⟩
abbrev cX6_peek : ByteArray := prog_8_method_8_code
def yX6_peek : MethodName := ⟨RX6, "peek", "(I)I"⟩
abbrev cX6_bar : ByteArray := prog_8_method_19_code
def yX6_bar : MethodName := ⟨RX6, "bar", "()Z"⟩
abbrev cX6_bracket : ByteArray := prog_8_method_20_code
def yX6_bracket : MethodName := ⟨RX6, "bracket", "()Z"⟩
abbrev cX6_close : ByteArray := prog_8_method_21_code
def yX6_close : MethodName := ⟨RX6, "close", "()Z"⟩
abbrev cX6_loop : ByteArray := prog_8_method_28_code
def yX6_loop : MethodName := ⟨RX6, "loop", "(I)Z"⟩
abbrev cX6_append : ByteArray := prog_8_method_12_code
def yX6_append : MethodName := ⟨RX6, "append", "(I)V"⟩
abbrev cX6_bounds : ByteArray := prog_8_method_29_code
def yX6_bounds : MethodName := ⟨RX6, "bounds", "(I)Z"⟩
abbrev cX6_isFour : ByteArray := prog_8_method_27_code
def yX6_isFour : MethodName := ⟨RX6, "isFour", "(I)Z"⟩
abbrev cX6_atom : ByteArray := prog_8_method_22_code
def yX6_atom : MethodName := ⟨RX6, "atom", "(I)I"⟩
abbrev cX6_escape : ByteArray := prog_8_method_23_code
def yX6_escape : MethodName := ⟨RX6, "escape", "()I"⟩
abbrev cX6_isSpecial : ByteArray := prog_8_method_13_code
def yX6_isSpecial : MethodName := ⟨RX6, "isSpecial", "(I)Z"⟩
abbrev cX6_includeKind : ByteArray := prog_8_method_16_code
def yX6_includeKind : MethodName := ⟨RX6, "includeKind", "(II)V"⟩
abbrev cX6_isWord : ByteArray := prog_8_method_14_code
def yX6_isWord : MethodName := ⟨RX6, "isWord", "(I)Z"⟩
abbrev cX6_include : ByteArray := prog_8_method_15_code
def yX6_include : MethodName := ⟨RX6, "include", "(II)V"⟩
abbrev cX6_items : ByteArray := prog_8_method_25_code
def yX6_items : MethodName := ⟨RX6, "items", "()I"⟩
abbrev cX6_item : ByteArray := prog_8_method_26_code
def yX6_item : MethodName := ⟨RX6, "item", "(I)Z"⟩
abbrev cX6_isBarred : ByteArray := prog_8_method_24_code
def yX6_isBarred : MethodName := ⟨RX6, "isBarred", "(I)Z"⟩
abbrev cX6_fail : ByteArray := prog_8_method_3_code
def yX6_fail : MethodName := ⟨RX6, "fail", "(I)I"⟩
abbrev cX6_matches : ByteArray := prog_8_method_53_code
def yX6_matches : MethodName := ⟨RX6, "matches", "()Z"⟩
abbrev cX6_run : ByteArray := prog_8_method_35_code
def yX6_run : MethodName := ⟨RX6, "run", "(IZ)Z"⟩
abbrev cX6_link : ByteArray := prog_8_method_31_code
def yX6_link : MethodName := ⟨RX6, "link", "(IIII)I"⟩
abbrev cX6_goOn : ByteArray := prog_8_method_49_code
def yX6_goOn : MethodName := ⟨RX6, "goOn", "()Z"⟩
abbrev cX6_keep : ByteArray := prog_8_method_50_code
def yX6_keep : MethodName := ⟨RX6, "keep", "(I)Z"⟩
abbrev cX6_pieces : ByteArray := prog_8_method_40_code
def yX6_pieces : MethodName := ⟨RX6, "pieces", "(I)Z"⟩
abbrev cX6_turn : ByteArray := prog_8_method_48_code
def yX6_turn : MethodName := ⟨RX6, "turn", "(III)Z"⟩
abbrev cX6_goThrough : ByteArray := prog_8_method_47_code
def yX6_goThrough : MethodName := ⟨RX6, "goThrough", "(II)V"⟩
abbrev cX6_otherWay : ByteArray := prog_8_method_32_code
def yX6_otherWay : MethodName := ⟨RX6, "otherWay", "(IIII)V"⟩
abbrev cX6_enter : ByteArray := prog_8_method_37_code
def yX6_enter : MethodName := ⟨RX6, "enter", "(I)Z"⟩
abbrev cX6_into : ByteArray := prog_8_method_38_code
def yX6_into : MethodName := ⟨RX6, "into", "(II)Z"⟩
abbrev cX6_begin : ByteArray := prog_8_method_39_code
def yX6_begin : MethodName := ⟨RX6, "begin", "(I)Z"⟩
abbrev cX6_one : ByteArray := prog_8_method_41_code
def yX6_one : MethodName := ⟨RX6, "one", "(I)Z"⟩
abbrev cX6_character : ByteArray := prog_8_method_33_code
def yX6_character : MethodName := ⟨RX6, "character", "(I)I"⟩
abbrev cX6_includes : ByteArray := prog_8_method_17_code
def yX6_includes : MethodName := ⟨RX6, "includes", "(II)Z"⟩
abbrev cX6_isWordAt : ByteArray := prog_8_method_34_code
def yX6_isWordAt : MethodName := ⟨RX6, "isWordAt", "(I)Z"⟩
abbrev cX6_again : ByteArray := prog_8_method_42_code
def yX6_again : MethodName := ⟨RX6, "again", "(I)Z"⟩
abbrev cX6_beginLoop : ByteArray := prog_8_method_46_code
def yX6_beginLoop : MethodName := ⟨RX6, "beginLoop", "(I)Z"⟩
abbrev cX6_notAhead : ByteArray := prog_8_method_43_code
def yX6_notAhead : MethodName := ⟨RX6, "notAhead", "(I)Z"⟩
abbrev cX6_look : ByteArray := prog_8_method_44_code
def yX6_look : MethodName := ⟨RX6, "look", "(I)Z"⟩
abbrev cX6_before : ByteArray := prog_8_method_45_code
def yX6_before : MethodName := ⟨RX6, "before", "(II)V"⟩
abbrev cX6_back : ByteArray := prog_8_method_36_code
def yX6_back : MethodName := ⟨RX6, "back", "()V"⟩
abbrev cX6_note : ByteArray := prog_8_method_52_code
def yX6_note : MethodName := ⟨RX6, "note", "(Z)V"⟩
abbrev cX6_looking : ByteArray := prog_8_method_54_code
def yX6_looking : MethodName := ⟨RX6, "looking", "()Z"⟩
abbrev cX6_find : ByteArray := prog_8_method_55_code
def yX6_find : MethodName := ⟨RX6, "find", "(I)I"⟩
abbrev cX6_search : ByteArray := prog_8_method_51_code
def yX6_search : MethodName := ⟨RX6, "search", "(I)Z"⟩
abbrev cX6_start : ByteArray := prog_8_method_57_code
def yX6_start : MethodName := ⟨RX6, "start", "(I)I"⟩
abbrev cX6_spanOf : ByteArray := prog_8_method_56_code
def yX6_spanOf : MethodName := ⟨RX6, "spanOf", "(II)I"⟩
abbrev cX6_end : ByteArray := prog_8_method_58_code
def yX6_end : MethodName := ⟨RX6, "end", "(I)I"⟩
abbrev cX6_replace : ByteArray := prog_8_method_64_code
def yX6_replace : MethodName := ⟨RX6, "replace", "()I"⟩
abbrev cX6_faultOfTemplate : ByteArray := prog_8_method_62_code
def yX6_faultOfTemplate : MethodName := ⟨RX6, "faultOfTemplate", "()I"⟩
abbrev cX6_putText : ByteArray := prog_8_method_61_code
def yX6_putText : MethodName := ⟨RX6, "putText", "(II)V"⟩
abbrev cX6_put : ByteArray := prog_8_method_60_code
def yX6_put : MethodName := ⟨RX6, "put", "(I)V"⟩
abbrev cX6_putTemplate : ByteArray := prog_8_method_63_code
def yX6_putTemplate : MethodName := ⟨RX6, "putTemplate", "()V"⟩
abbrev cX6_behindMatch : ByteArray := prog_8_method_59_code
def yX6_behindMatch : MethodName := ⟨RX6, "behindMatch", "()I"⟩
abbrev cX6_replaced : ByteArray := prog_8_method_65_code
def yX6_replaced : MethodName := ⟨RX6, "replaced", "(I)C"⟩
abbrev cX6_split : ByteArray := prog_8_method_66_code
def yX6_split : MethodName := ⟨RX6, "split", "()I"⟩
abbrev cX6_piece : ByteArray := prog_8_method_67_code
def yX6_piece : MethodName := ⟨RX6, "piece", "(II)I"⟩
abbrev cL_law : ByteArray := code
def yL_law : MethodName := ⟨RL, "law", "([I)Z"⟩
/-! the words: one list for all methods -/
def aW : List Cond := lw_tbl.filter goodWord
theorem aw_good {w : Cond} (h : w ∈ aW) : goodWord w = true := (List.mem_filter.mp h).2
theorem aw_t {w : Cond} (h : w ∈ tables_1) (g : goodWord w = true) : w ∈ aW := List.mem_filter.mpr ⟨List.mem_append_right _ h, g⟩
theorem aw_s {y : MethodName} {n : Nat} (h : (y, n) ∈ lw_privs) : Cond.selects y.cls y y ∈ aW := List.mem_filter.mpr ⟨List.mem_append_left _ (List.mem_map.mpr ⟨(y, n), h, rfl⟩), rfl⟩
theorem ti_1 {w : Cond} (h : w ∈ tables_1_1) : w ∈ tables_1 := List.mem_append_left _ h
theorem ti_2 {w : Cond} (h : w ∈ tables_1_2) : w ∈ tables_1 := List.mem_append_right _ (List.mem_append_left _ h)
theorem ti_3 {w : Cond} (h : w ∈ tables_1_3) : w ∈ tables_1 := List.mem_append_right _ (List.mem_append_right _ (List.mem_append_left _ h))
theorem ti_4 {w : Cond} (h : w ∈ tables_1_4) : w ∈ tables_1 := List.mem_append_right _ (List.mem_append_right _ (List.mem_append_right _ (List.mem_append_left _ h)))
theorem ti_5 {w : Cond} (h : w ∈ tables_1_5) : w ∈ tables_1 := List.mem_append_right _ (List.mem_append_right _ (List.mem_append_right _ (List.mem_append_right _ (List.mem_append_left _ h))))
theorem ti_6 {w : Cond} (h : w ∈ tables_1_6) : w ∈ tables_1 := List.mem_append_right _ (List.mem_append_right _ (List.mem_append_right _ (List.mem_append_right _ (List.mem_append_right _ (h)))))
def nwK : Cond → Bool
  | .fieldLinkNest .. => true
  | .methodLinkNest .. => true
  | _ => false
def nxW : List Cond := tables_1.filter nwK
theorem w_0 : Cond.initialized RL ∈ aW := aw_t (ti_1 (List.mem_of_getElem? (i := 0) rfl)) rfl
theorem w_1 : Cond.initialized RX5 ∈ aW := aw_t (ti_1 (List.mem_of_getElem? (i := 1) rfl)) rfl
theorem w_2 : Cond.initialized RX4 ∈ aW := aw_t (ti_1 (List.mem_of_getElem? (i := 2) rfl)) rfl
theorem w_3 : Cond.initialized RX3 ∈ aW := aw_t (ti_1 (List.mem_of_getElem? (i := 3) rfl)) rfl
theorem w_4 : Cond.initialized RX1 ∈ aW := aw_t (ti_1 (List.mem_of_getElem? (i := 4) rfl)) rfl
theorem w_5 : Cond.initialized RX0 ∈ aW := aw_t (ti_1 (List.mem_of_getElem? (i := 5) rfl)) rfl
theorem w_6 : Cond.initialized RX6 ∈ aW := aw_t (ti_1 (List.mem_of_getElem? (i := 6) rfl)) rfl
theorem w_7 : Cond.initialized RX2 ∈ aW := aw_t (ti_1 (List.mem_of_getElem? (i := 7) rfl)) rfl
theorem w_8 : Cond.initialized "java/lang/String" ∈ aW := aw_t (ti_1 (List.mem_of_getElem? (i := 8) rfl)) rfl
theorem w_9 : Cond.initialized "java/lang/StringLatin1" ∈ aW := aw_t (ti_1 (List.mem_of_getElem? (i := 9) rfl)) rfl
theorem w_10 : Cond.initialized "java/lang/Math" ∈ aW := aw_t (ti_1 (List.mem_of_getElem? (i := 10) rfl)) rfl
theorem w_11 : Cond.initialized "java/lang/StringUTF16" ∈ aW := aw_t (ti_1 (List.mem_of_getElem? (i := 11) rfl)) rfl
theorem w_12 : Cond.initialized "jdk/internal/util/Preconditions" ∈ aW := aw_t (ti_1 (List.mem_of_getElem? (i := 12) rfl)) rfl
theorem w_13 : Cond.initialized "java/lang/Character" ∈ aW := aw_t (ti_1 (List.mem_of_getElem? (i := 13) rfl)) rfl
theorem w_14 : Cond.initialized "java/lang/Throwable" ∈ aW := aw_t (ti_1 (List.mem_of_getElem? (i := 14) rfl)) rfl
theorem w_15 : Cond.initialized "java/lang/Exception" ∈ aW := aw_t (ti_1 (List.mem_of_getElem? (i := 15) rfl)) rfl
theorem w_16 : Cond.initialized "java/lang/RuntimeException" ∈ aW := aw_t (ti_1 (List.mem_of_getElem? (i := 16) rfl)) rfl
theorem w_17 : Cond.initialized "java/lang/IllegalArgumentException" ∈ aW := aw_t (ti_1 (List.mem_of_getElem? (i := 17) rfl)) rfl
theorem w_18 : Cond.initialized "java/lang/IllegalStateException" ∈ aW := aw_t (ti_1 (List.mem_of_getElem? (i := 18) rfl)) rfl
theorem w_19 : Cond.initialized "java/lang/IndexOutOfBoundsException" ∈ aW := aw_t (ti_1 (List.mem_of_getElem? (i := 19) rfl)) rfl
theorem w_20 : Cond.classLink RL 8 RX5 ∈ aW := aw_t (ti_1 (List.mem_of_getElem? (i := 20) rfl)) rfl
theorem w_21 : Cond.instantiable RX5 13 ∈ aW := aw_t (ti_1 (List.mem_of_getElem? (i := 21) rfl)) rfl
theorem w_22 : Cond.methodLink RL 50 yX5_init ∈ aW := aw_t (ti_1 (List.mem_of_getElem? (i := 22) rfl)) rfl
theorem w_23 : Cond.instanceMethod yX5_init ∈ aW := aw_t (ti_1 (List.mem_of_getElem? (i := 23) rfl)) rfl
theorem w_24 : Cond.code yX5_init cX5_init 1 none ∈ aW := aw_t (ti_1 (List.mem_of_getElem? (i := 24) rfl)) rfl
theorem w_25 : Cond.methodLink RX5 3 objectInit ∈ aW := aw_t (ti_1 (List.mem_of_getElem? (i := 25) rfl)) rfl
theorem w_26 : Cond.instanceMethod objectInit ∈ aW := aw_t (ti_1 (List.mem_of_getElem? (i := 26) rfl)) rfl
theorem w_27 : Cond.code objectInit ⟨#[0xb1]⟩ 1 none ∈ aW := aw_t (ti_1 (List.mem_of_getElem? (i := 27) rfl)) rfl
theorem w_28 : Cond.classLink RX5 9 RX4 ∈ aW := aw_t (ti_1 (List.mem_of_getElem? (i := 28) rfl)) rfl
theorem w_29 : Cond.instantiable RX4 13 ∈ aW := aw_t (ti_1 (List.mem_of_getElem? (i := 29) rfl)) rfl
theorem w_30 : Cond.methodLink RX5 11 yX4_init ∈ aW := aw_t (ti_1 (List.mem_of_getElem? (i := 30) rfl)) rfl
theorem w_31 : Cond.instanceMethod yX4_init ∈ aW := aw_t (ti_1 (List.mem_of_getElem? (i := 31) rfl)) rfl
theorem w_32 : Cond.code yX4_init cX4_init 1 none ∈ aW := aw_t (ti_1 (List.mem_of_getElem? (i := 32) rfl)) rfl
theorem w_33 : Cond.methodLink RX4 3 objectInit ∈ aW := aw_t (ti_1 (List.mem_of_getElem? (i := 33) rfl)) rfl
theorem w_34 : Cond.classLink RX4 9 RX3 ∈ aW := aw_t (ti_1 (List.mem_of_getElem? (i := 34) rfl)) rfl
theorem w_35 : Cond.instantiable RX3 2 ∈ aW := aw_t (ti_1 (List.mem_of_getElem? (i := 35) rfl)) rfl
theorem w_36 : Cond.methodLink RX4 11 yX3_init ∈ aW := aw_t (ti_1 (List.mem_of_getElem? (i := 36) rfl)) rfl
theorem w_37 : Cond.instanceMethod yX3_init ∈ aW := aw_t (ti_1 (List.mem_of_getElem? (i := 37) rfl)) rfl
theorem w_38 : Cond.code yX3_init cX3_init 2 none ∈ aW := aw_t (ti_1 (List.mem_of_getElem? (i := 38) rfl)) rfl
theorem w_39 : Cond.methodLink RX3 3 objectInit ∈ aW := aw_t (ti_1 (List.mem_of_getElem? (i := 39) rfl)) rfl
theorem w_40 : Cond.fieldLink RX3 9 "PatternMatcher$Row" "characters" "[C" ∈ aW := aw_t (ti_1 (List.mem_of_getElem? (i := 40) rfl)) rfl
theorem w_41 : Cond.fieldLink RX3 15 "PatternMatcher$Row" "count" "I" ∈ aW := aw_t (ti_1 (List.mem_of_getElem? (i := 41) rfl)) rfl
theorem w_42 : Cond.laysFinal RX3 "PatternMatcher$Row" "characters" "[C" ∈ aW := aw_t (ti_1 (List.mem_of_getElem? (i := 42) rfl)) rfl
theorem w_44 : Cond.lays RX3 "PatternMatcher$Row" "count" "I" ∈ aW := aw_t (ti_1 (List.mem_of_getElem? (i := 44) rfl)) rfl
theorem w_47 : Cond.arrayClass .char ∈ aW := aw_t (ti_1 (List.mem_of_getElem? (i := 47) rfl)) rfl
theorem w_48 : Cond.classLink RX4 20 RX1 ∈ aW := aw_t (ti_1 (List.mem_of_getElem? (i := 48) rfl)) rfl
theorem w_49 : Cond.instantiable RX1 5 ∈ aW := aw_t (ti_1 (List.mem_of_getElem? (i := 49) rfl)) rfl
theorem w_50 : Cond.methodLink RX4 22 yX1_init ∈ aW := aw_t (ti_1 (List.mem_of_getElem? (i := 50) rfl)) rfl
theorem w_51 : Cond.instanceMethod yX1_init ∈ aW := aw_t (ti_1 (List.mem_of_getElem? (i := 51) rfl)) rfl
theorem w_52 : Cond.code yX1_init cX1_init 2 none ∈ aW := aw_t (ti_1 (List.mem_of_getElem? (i := 52) rfl)) rfl
theorem w_53 : Cond.methodLink RX1 3 objectInit ∈ aW := aw_t (ti_1 (List.mem_of_getElem? (i := 53) rfl)) rfl
theorem w_54 : Cond.classLink RX1 9 RX0 ∈ aW := aw_t (ti_1 (List.mem_of_getElem? (i := 54) rfl)) rfl
theorem w_56 : Cond.instantiable RX0 13 ∈ aW := aw_t (ti_1 (List.mem_of_getElem? (i := 56) rfl)) rfl
theorem w_57 : Cond.methodLink RX1 17 yX0_init ∈ aW := aw_t (ti_1 (List.mem_of_getElem? (i := 57) rfl)) rfl
theorem w_58 : Cond.instanceMethod yX0_init ∈ aW := aw_t (ti_1 (List.mem_of_getElem? (i := 58) rfl)) rfl
theorem w_59 : Cond.code yX0_init cX0_init 2 none ∈ aW := aw_t (ti_1 (List.mem_of_getElem? (i := 59) rfl)) rfl
theorem w_60 : Cond.methodLink RX0 1 objectInit ∈ aW := aw_t (ti_1 (List.mem_of_getElem? (i := 60) rfl)) rfl
theorem w_61 : Cond.fieldLink RX0 7 "PatternMatcher$Node" "number" "I" ∈ aW := aw_t (ti_1 (List.mem_of_getElem? (i := 61) rfl)) rfl
theorem w_62 : Cond.fieldLinkNest RX1 43 "PatternMatcher$Node" "number" "I" "PatternMatcher" ∈ nxW := List.mem_filter.mpr ⟨ti_1 (List.mem_of_getElem? (i := 62) rfl), rfl⟩
theorem w_63 : Cond.fieldLinkNest RX4 191 "PatternMatcher$Node" "number" "I" "PatternMatcher" ∈ nxW := List.mem_filter.mpr ⟨ti_1 (List.mem_of_getElem? (i := 63) rfl), rfl⟩
theorem w_64 : Cond.fieldLinkNest RX1 34 "PatternMatcher$Node" "kind" "I" "PatternMatcher" ∈ nxW := List.mem_filter.mpr ⟨ti_1 (List.mem_of_getElem? (i := 64) rfl), rfl⟩
theorem w_65 : Cond.fieldLinkNest RX4 80 "PatternMatcher$Node" "kind" "I" "PatternMatcher" ∈ nxW := List.mem_filter.mpr ⟨ti_1 (List.mem_of_getElem? (i := 65) rfl), rfl⟩
theorem w_66 : Cond.fieldLinkNest RX1 37 "PatternMatcher$Node" "next" "I" "PatternMatcher" ∈ nxW := List.mem_filter.mpr ⟨ti_1 (List.mem_of_getElem? (i := 66) rfl), rfl⟩
theorem w_67 : Cond.fieldLinkNest RX2 71 "PatternMatcher$Node" "next" "I" "PatternMatcher" ∈ nxW := List.mem_filter.mpr ⟨ti_1 (List.mem_of_getElem? (i := 67) rfl), rfl⟩
theorem w_68 : Cond.fieldLinkNest RX4 89 "PatternMatcher$Node" "next" "I" "PatternMatcher" ∈ nxW := List.mem_filter.mpr ⟨ti_1 (List.mem_of_getElem? (i := 68) rfl), rfl⟩
theorem w_69 : Cond.fieldLinkNest RX1 40 "PatternMatcher$Node" "other" "I" "PatternMatcher" ∈ nxW := List.mem_filter.mpr ⟨ti_1 (List.mem_of_getElem? (i := 69) rfl), rfl⟩
theorem w_70 : Cond.fieldLinkNest RX2 59 "PatternMatcher$Node" "other" "I" "PatternMatcher" ∈ nxW := List.mem_filter.mpr ⟨ti_1 (List.mem_of_getElem? (i := 70) rfl), rfl⟩
theorem w_71 : Cond.fieldLinkNest RX4 118 "PatternMatcher$Node" "other" "I" "PatternMatcher" ∈ nxW := List.mem_filter.mpr ⟨ti_1 (List.mem_of_getElem? (i := 71) rfl), rfl⟩
theorem w_72 : Cond.fieldLinkNest RX4 104 "PatternMatcher$Node" "group" "I" "PatternMatcher" ∈ nxW := List.mem_filter.mpr ⟨ti_1 (List.mem_of_getElem? (i := 72) rfl), rfl⟩
theorem w_73 : Cond.fieldLinkNest RX2 165 "PatternMatcher$Node" "group" "I" "PatternMatcher" ∈ nxW := List.mem_filter.mpr ⟨ti_1 (List.mem_of_getElem? (i := 73) rfl), rfl⟩
theorem w_74 : Cond.fieldLinkNest RX4 125 "PatternMatcher$Node" "slot" "I" "PatternMatcher" ∈ nxW := List.mem_filter.mpr ⟨ti_1 (List.mem_of_getElem? (i := 74) rfl), rfl⟩
theorem w_75 : Cond.fieldLinkNest RX2 83 "PatternMatcher$Node" "slot" "I" "PatternMatcher" ∈ nxW := List.mem_filter.mpr ⟨ti_1 (List.mem_of_getElem? (i := 75) rfl), rfl⟩
theorem w_76 : Cond.fieldLinkNest RX2 89 "PatternMatcher$Node" "least" "I" "PatternMatcher" ∈ nxW := List.mem_filter.mpr ⟨ti_1 (List.mem_of_getElem? (i := 76) rfl), rfl⟩
theorem w_77 : Cond.fieldLinkNest RX4 177 "PatternMatcher$Node" "least" "I" "PatternMatcher" ∈ nxW := List.mem_filter.mpr ⟨ti_1 (List.mem_of_getElem? (i := 77) rfl), rfl⟩
theorem w_78 : Cond.fieldLinkNest RX2 93 "PatternMatcher$Node" "most" "I" "PatternMatcher" ∈ nxW := List.mem_filter.mpr ⟨ti_1 (List.mem_of_getElem? (i := 78) rfl), rfl⟩
theorem w_79 : Cond.fieldLinkNest RX4 174 "PatternMatcher$Node" "most" "I" "PatternMatcher" ∈ nxW := List.mem_filter.mpr ⟨ti_1 (List.mem_of_getElem? (i := 79) rfl), rfl⟩
theorem w_80 : Cond.fieldLinkNest RX2 98 "PatternMatcher$Node" "lazy" "Z" "PatternMatcher" ∈ nxW := List.mem_filter.mpr ⟨ti_1 (List.mem_of_getElem? (i := 80) rfl), rfl⟩
theorem w_81 : Cond.fieldLinkNest RX4 183 "PatternMatcher$Node" "lazy" "Z" "PatternMatcher" ∈ nxW := List.mem_filter.mpr ⟨ti_1 (List.mem_of_getElem? (i := 81) rfl), rfl⟩
theorem w_82 : Cond.fieldLinkNest RX4 207 "PatternMatcher$Node" "behind" "Z" "PatternMatcher" ∈ nxW := List.mem_filter.mpr ⟨ti_1 (List.mem_of_getElem? (i := 82) rfl), rfl⟩
theorem w_83 : Cond.fieldLinkNest RX2 200 "PatternMatcher$Node" "behind" "Z" "PatternMatcher" ∈ nxW := List.mem_filter.mpr ⟨ti_1 (List.mem_of_getElem? (i := 83) rfl), rfl⟩
theorem w_84 : Cond.fieldLinkNest RX4 213 "PatternMatcher$Node" "negative" "Z" "PatternMatcher" ∈ nxW := List.mem_filter.mpr ⟨ti_1 (List.mem_of_getElem? (i := 84) rfl), rfl⟩
theorem w_85 : Cond.fieldLinkNest RX2 203 "PatternMatcher$Node" "negative" "Z" "PatternMatcher" ∈ nxW := List.mem_filter.mpr ⟨ti_1 (List.mem_of_getElem? (i := 85) rfl), rfl⟩
theorem w_86 : Cond.fieldLinkNest RX4 148 "PatternMatcher$Node" "low" "J" "PatternMatcher" ∈ nxW := List.mem_filter.mpr ⟨ti_1 (List.mem_of_getElem? (i := 86) rfl), rfl⟩
theorem w_87 : Cond.fieldLinkNest RX2 206 "PatternMatcher$Node" "low" "J" "PatternMatcher" ∈ nxW := List.mem_filter.mpr ⟨ti_1 (List.mem_of_getElem? (i := 87) rfl), rfl⟩
theorem w_88 : Cond.fieldLinkNest RX4 151 "PatternMatcher$Node" "high" "J" "PatternMatcher" ∈ nxW := List.mem_filter.mpr ⟨ti_1 (List.mem_of_getElem? (i := 88) rfl), rfl⟩
theorem w_89 : Cond.fieldLinkNest RX2 207 "PatternMatcher$Node" "high" "J" "PatternMatcher" ∈ nxW := List.mem_filter.mpr ⟨ti_1 (List.mem_of_getElem? (i := 89) rfl), rfl⟩
theorem w_90 : Cond.laysFinal RX0 "PatternMatcher$Node" "number" "I" ∈ aW := aw_t (ti_1 (List.mem_of_getElem? (i := 90) rfl)) rfl
theorem w_92 : Cond.lays RX0 "PatternMatcher$Node" "kind" "I" ∈ aW := aw_t (ti_1 (List.mem_of_getElem? (i := 92) rfl)) rfl
theorem w_94 : Cond.lays RX0 "PatternMatcher$Node" "next" "I" ∈ aW := aw_t (ti_1 (List.mem_of_getElem? (i := 94) rfl)) rfl
theorem w_96 : Cond.lays RX0 "PatternMatcher$Node" "other" "I" ∈ aW := aw_t (ti_1 (List.mem_of_getElem? (i := 96) rfl)) rfl
theorem w_98 : Cond.lays RX0 "PatternMatcher$Node" "group" "I" ∈ aW := aw_t (ti_1 (List.mem_of_getElem? (i := 98) rfl)) rfl
theorem w_100 : Cond.lays RX0 "PatternMatcher$Node" "slot" "I" ∈ aW := aw_t (ti_1 (List.mem_of_getElem? (i := 100) rfl)) rfl
theorem w_102 : Cond.lays RX0 "PatternMatcher$Node" "least" "I" ∈ aW := aw_t (ti_1 (List.mem_of_getElem? (i := 102) rfl)) rfl
theorem w_104 : Cond.lays RX0 "PatternMatcher$Node" "most" "I" ∈ aW := aw_t (ti_1 (List.mem_of_getElem? (i := 104) rfl)) rfl
theorem w_106 : Cond.lays RX0 "PatternMatcher$Node" "lazy" "Z" ∈ aW := aw_t (ti_1 (List.mem_of_getElem? (i := 106) rfl)) rfl
theorem w_108 : Cond.lays RX0 "PatternMatcher$Node" "behind" "Z" ∈ aW := aw_t (ti_1 (List.mem_of_getElem? (i := 108) rfl)) rfl
theorem w_110 : Cond.lays RX0 "PatternMatcher$Node" "negative" "Z" ∈ aW := aw_t (ti_1 (List.mem_of_getElem? (i := 110) rfl)) rfl
theorem w_112 : Cond.lays RX0 "PatternMatcher$Node" "low" "J" ∈ aW := aw_t (ti_1 (List.mem_of_getElem? (i := 112) rfl)) rfl
theorem w_114 : Cond.lays RX0 "PatternMatcher$Node" "high" "J" ∈ aW := aw_t (ti_1 (List.mem_of_getElem? (i := 114) rfl)) rfl
theorem w_117 : Cond.fieldLink RX1 11 "PatternMatcher$Program" "nodes" "[LPatternMatcher$Node;" ∈ aW := aw_t (ti_1 (List.mem_of_getElem? (i := 117) rfl)) rfl
theorem w_118 : Cond.fieldLink RX1 20 "PatternMatcher$Program" "count" "I" ∈ aW := aw_t (ti_1 (List.mem_of_getElem? (i := 118) rfl)) rfl
theorem w_119 : Cond.fieldLink RX1 24 "PatternMatcher$Program" "first" "I" ∈ aW := aw_t (ti_1 (List.mem_of_getElem? (i := 119) rfl)) rfl
theorem w_120 : Cond.fieldLinkNest RX2 32 "PatternMatcher$Program" "first" "I" "PatternMatcher" ∈ nxW := List.mem_filter.mpr ⟨ti_1 (List.mem_of_getElem? (i := 120) rfl), rfl⟩
theorem w_121 : Cond.fieldLinkNest RX4 60 "PatternMatcher$Program" "first" "I" "PatternMatcher" ∈ nxW := List.mem_filter.mpr ⟨ti_1 (List.mem_of_getElem? (i := 121) rfl), rfl⟩
theorem w_122 : Cond.fieldLink RX1 27 "PatternMatcher$Program" "groups" "I" ∈ aW := aw_t (ti_1 (List.mem_of_getElem? (i := 122) rfl)) rfl
theorem w_123 : Cond.fieldLinkNest RX5 83 "PatternMatcher$Program" "groups" "I" "PatternMatcher" ∈ nxW := List.mem_filter.mpr ⟨ti_1 (List.mem_of_getElem? (i := 123) rfl), rfl⟩
theorem w_124 : Cond.fieldLinkNest RX2 156 "PatternMatcher$Program" "groups" "I" "PatternMatcher" ∈ nxW := List.mem_filter.mpr ⟨ti_1 (List.mem_of_getElem? (i := 124) rfl), rfl⟩
theorem w_125 : Cond.fieldLink RX1 30 "PatternMatcher$Program" "asked" "J" ∈ aW := aw_t (ti_1 (List.mem_of_getElem? (i := 125) rfl)) rfl
theorem w_126 : Cond.fieldLinkNest RX2 159 "PatternMatcher$Program" "asked" "J" "PatternMatcher" ∈ nxW := List.mem_filter.mpr ⟨ti_1 (List.mem_of_getElem? (i := 126) rfl), rfl⟩
theorem w_127 : Cond.fieldLinkNest RX4 194 "PatternMatcher$Program" "asked" "J" "PatternMatcher" ∈ nxW := List.mem_filter.mpr ⟨ti_1 (List.mem_of_getElem? (i := 127) rfl), rfl⟩
theorem w_128 : Cond.laysFinal RX1 "PatternMatcher$Program" "nodes" "[LPatternMatcher$Node;" ∈ aW := aw_t (ti_1 (List.mem_of_getElem? (i := 128) rfl)) rfl
theorem w_130 : Cond.lays RX1 "PatternMatcher$Program" "count" "I" ∈ aW := aw_t (ti_1 (List.mem_of_getElem? (i := 130) rfl)) rfl
theorem w_132 : Cond.lays RX1 "PatternMatcher$Program" "first" "I" ∈ aW := aw_t (ti_1 (List.mem_of_getElem? (i := 132) rfl)) rfl
theorem w_134 : Cond.lays RX1 "PatternMatcher$Program" "groups" "I" ∈ aW := aw_t (ti_1 (List.mem_of_getElem? (i := 134) rfl)) rfl
theorem w_136 : Cond.lays RX1 "PatternMatcher$Program" "asked" "J" ∈ aW := aw_t (ti_1 (List.mem_of_getElem? (i := 136) rfl)) rfl
theorem w_139 : Cond.fieldLink RX4 27 "PatternMatcher$Search" "waitingAt" "[I" ∈ aW := aw_t (ti_1 (List.mem_of_getElem? (i := 139) rfl)) rfl
theorem w_140 : Cond.fieldLink RX4 31 "PatternMatcher$Search" "waitingSpans" "[J" ∈ aW := aw_t (ti_1 (List.mem_of_getElem? (i := 140) rfl)) rfl
theorem w_141 : Cond.fieldLink RX4 48 "PatternMatcher$Search" "waiting" "I" ∈ aW := aw_t (ti_1 (List.mem_of_getElem? (i := 141) rfl)) rfl
theorem w_142 : Cond.fieldLink RX4 35 "PatternMatcher$Search" "seenWhere" "[J" ∈ aW := aw_t (ti_1 (List.mem_of_getElem? (i := 142) rfl)) rfl
theorem w_143 : Cond.fieldLink RX4 38 "PatternMatcher$Search" "seenSpans" "[J" ∈ aW := aw_t (ti_1 (List.mem_of_getElem? (i := 143) rfl)) rfl
theorem w_144 : Cond.fieldLink RX4 41 "PatternMatcher$Search" "open" "[I" ∈ aW := aw_t (ti_1 (List.mem_of_getElem? (i := 144) rfl)) rfl
theorem w_145 : Cond.fieldLink RX4 44 "PatternMatcher$Search" "searches" "I" ∈ aW := aw_t (ti_1 (List.mem_of_getElem? (i := 145) rfl)) rfl
theorem w_146 : Cond.fieldLink RX4 14 "PatternMatcher$Search" "text" "LPatternMatcher$Row;" ∈ aW := aw_t (ti_1 (List.mem_of_getElem? (i := 146) rfl)) rfl
theorem w_147 : Cond.fieldLinkNest RX5 16 "PatternMatcher$Search" "text" "LPatternMatcher$Row;" "PatternMatcher" ∈ nxW := List.mem_filter.mpr ⟨ti_1 (List.mem_of_getElem? (i := 147) rfl), rfl⟩
theorem w_148 : Cond.fieldLink RX4 23 "PatternMatcher$Search" "program" "LPatternMatcher$Program;" ∈ aW := aw_t (ti_1 (List.mem_of_getElem? (i := 148) rfl)) rfl
theorem w_149 : Cond.fieldLinkNest RX5 73 "PatternMatcher$Search" "program" "LPatternMatcher$Program;" "PatternMatcher" ∈ nxW := List.mem_filter.mpr ⟨ti_1 (List.mem_of_getElem? (i := 149) rfl), rfl⟩
theorem w_150 : Cond.fieldLink RX4 67 "PatternMatcher$Search" "node" "I" ∈ aW := aw_t (ti_1 (List.mem_of_getElem? (i := 150) rfl)) rfl
theorem w_151 : Cond.fieldLink RX4 51 "PatternMatcher$Search" "place" "I" ∈ aW := aw_t (ti_1 (List.mem_of_getElem? (i := 151) rfl)) rfl
theorem w_152 : Cond.fieldLinkNest RX5 150 "PatternMatcher$Search" "place" "I" "PatternMatcher" ∈ nxW := List.mem_filter.mpr ⟨ti_1 (List.mem_of_getElem? (i := 152) rfl), rfl⟩
theorem w_153 : Cond.fieldLink RX4 70 "PatternMatcher$Search" "loops" "I" ∈ aW := aw_t (ti_1 (List.mem_of_getElem? (i := 153) rfl)) rfl
theorem w_154 : Cond.fieldLink RX4 56 "PatternMatcher$Search" "spans" "J" ∈ aW := aw_t (ti_1 (List.mem_of_getElem? (i := 154) rfl)) rfl
theorem w_155 : Cond.fieldLinkNest RX5 153 "PatternMatcher$Search" "spans" "J" "PatternMatcher" ∈ nxW := List.mem_filter.mpr ⟨ti_1 (List.mem_of_getElem? (i := 155) rfl), rfl⟩
theorem w_156 : Cond.laysFinal RX4 "PatternMatcher$Search" "waitingAt" "[I" ∈ aW := aw_t (ti_1 (List.mem_of_getElem? (i := 156) rfl)) rfl
theorem w_158 : Cond.laysFinal RX4 "PatternMatcher$Search" "waitingSpans" "[J" ∈ aW := aw_t (ti_1 (List.mem_of_getElem? (i := 158) rfl)) rfl
theorem w_160 : Cond.lays RX4 "PatternMatcher$Search" "waiting" "I" ∈ aW := aw_t (ti_1 (List.mem_of_getElem? (i := 160) rfl)) rfl
theorem w_162 : Cond.laysFinal RX4 "PatternMatcher$Search" "seenWhere" "[J" ∈ aW := aw_t (ti_1 (List.mem_of_getElem? (i := 162) rfl)) rfl
theorem w_164 : Cond.laysFinal RX4 "PatternMatcher$Search" "seenSpans" "[J" ∈ aW := aw_t (ti_1 (List.mem_of_getElem? (i := 164) rfl)) rfl
theorem w_166 : Cond.laysFinal RX4 "PatternMatcher$Search" "open" "[I" ∈ aW := aw_t (ti_1 (List.mem_of_getElem? (i := 166) rfl)) rfl
theorem w_168 : Cond.lays RX4 "PatternMatcher$Search" "searches" "I" ∈ aW := aw_t (ti_1 (List.mem_of_getElem? (i := 168) rfl)) rfl
theorem w_170 : Cond.laysFinal RX4 "PatternMatcher$Search" "text" "LPatternMatcher$Row;" ∈ aW := aw_t (ti_1 (List.mem_of_getElem? (i := 170) rfl)) rfl
theorem w_172 : Cond.lays RX4 "PatternMatcher$Search" "program" "LPatternMatcher$Program;" ∈ aW := aw_t (ti_1 (List.mem_of_getElem? (i := 172) rfl)) rfl
theorem w_174 : Cond.lays RX4 "PatternMatcher$Search" "node" "I" ∈ aW := aw_t (ti_1 (List.mem_of_getElem? (i := 174) rfl)) rfl
theorem w_176 : Cond.lays RX4 "PatternMatcher$Search" "place" "I" ∈ aW := aw_t (ti_1 (List.mem_of_getElem? (i := 176) rfl)) rfl
theorem w_178 : Cond.lays RX4 "PatternMatcher$Search" "loops" "I" ∈ aW := aw_t (ti_1 (List.mem_of_getElem? (i := 178) rfl)) rfl
theorem w_180 : Cond.lays RX4 "PatternMatcher$Search" "spans" "J" ∈ aW := aw_t (ti_1 (List.mem_of_getElem? (i := 180) rfl)) rfl
theorem w_183 : Cond.arrayClass .int ∈ aW := aw_t (ti_1 (List.mem_of_getElem? (i := 183) rfl)) rfl
theorem w_184 : Cond.arrayClass .long ∈ aW := aw_t (ti_1 (List.mem_of_getElem? (i := 184) rfl)) rfl
theorem w_185 : Cond.classLink RX5 21 RX3 ∈ aW := aw_t (ti_1 (List.mem_of_getElem? (i := 185) rfl)) rfl
theorem w_187 : Cond.methodLink RX5 23 yX3_init ∈ aW := aw_t (ti_1 (List.mem_of_getElem? (i := 187) rfl)) rfl
theorem w_188 : Cond.classLink RX5 30 RX1 ∈ aW := aw_t (ti_1 (List.mem_of_getElem? (i := 188) rfl)) rfl
theorem w_189 : Cond.methodLink RX5 32 yX1_init ∈ aW := aw_t (ti_1 (List.mem_of_getElem? (i := 189) rfl)) rfl
theorem w_190 : Cond.fieldLink RX5 12 "PatternMatcher" "search" "LPatternMatcher$Search;" ∈ aW := aw_t (ti_1 (List.mem_of_getElem? (i := 190) rfl)) rfl
theorem w_191 : Cond.fieldLink RX5 20 "PatternMatcher" "text" "LPatternMatcher$Row;" ∈ aW := aw_t (ti_1 (List.mem_of_getElem? (i := 191) rfl)) rfl
theorem w_192 : Cond.fieldLink RX5 26 "PatternMatcher" "rows" "[LPatternMatcher$Row;" ∈ aW := aw_t (ti_1 (List.mem_of_getElem? (i := 192) rfl)) rfl
theorem w_193 : Cond.fieldLink RX5 33 "PatternMatcher" "spare" "LPatternMatcher$Program;" ∈ aW := aw_t (ti_1 (List.mem_of_getElem? (i := 193) rfl)) rfl
theorem w_194 : Cond.fieldLink RX5 76 "PatternMatcher" "compiled" "Z" ∈ aW := aw_t (ti_1 (List.mem_of_getElem? (i := 194) rfl)) rfl
theorem w_195 : Cond.fieldLink RX5 80 "PatternMatcher" "matched" "Z" ∈ aW := aw_t (ti_1 (List.mem_of_getElem? (i := 195) rfl)) rfl
theorem w_196 : Cond.fieldLink RX5 101 "PatternMatcher" "matchFrom" "I" ∈ aW := aw_t (ti_1 (List.mem_of_getElem? (i := 196) rfl)) rfl
theorem w_197 : Cond.fieldLink RX5 124 "PatternMatcher" "matchTo" "I" ∈ aW := aw_t (ti_1 (List.mem_of_getElem? (i := 197) rfl)) rfl
theorem w_198 : Cond.fieldLink RX5 157 "PatternMatcher" "matchSpans" "J" ∈ aW := aw_t (ti_1 (List.mem_of_getElem? (i := 198) rfl)) rfl
theorem w_199 : Cond.fieldLink RX5 37 "PatternMatcher" "made" "LPatternMatcher$Row;" ∈ aW := aw_t (ti_1 (List.mem_of_getElem? (i := 199) rfl)) rfl
theorem w_200 : Cond.fieldLink RX5 40 "PatternMatcher" "pieceFrom" "[I" ∈ aW := aw_t (ti_1 (List.mem_of_getElem? (i := 200) rfl)) rfl
theorem w_201 : Cond.fieldLink RX5 44 "PatternMatcher" "pieceTo" "[I" ∈ aW := aw_t (ti_1 (List.mem_of_getElem? (i := 201) rfl)) rfl
theorem w_202 : Cond.fieldLink RX5 134 "PatternMatcher" "pieces" "I" ∈ aW := aw_t (ti_1 (List.mem_of_getElem? (i := 202) rfl)) rfl
theorem w_203 : Cond.laysFinal RX5 "PatternMatcher" "search" "LPatternMatcher$Search;" ∈ aW := aw_t (ti_1 (List.mem_of_getElem? (i := 203) rfl)) rfl
theorem w_205 : Cond.laysFinal RX5 "PatternMatcher" "text" "LPatternMatcher$Row;" ∈ aW := aw_t (ti_1 (List.mem_of_getElem? (i := 205) rfl)) rfl
theorem w_207 : Cond.laysFinal RX5 "PatternMatcher" "rows" "[LPatternMatcher$Row;" ∈ aW := aw_t (ti_1 (List.mem_of_getElem? (i := 207) rfl)) rfl
theorem w_209 : Cond.lays RX5 "PatternMatcher" "spare" "LPatternMatcher$Program;" ∈ aW := aw_t (ti_1 (List.mem_of_getElem? (i := 209) rfl)) rfl
theorem w_211 : Cond.lays RX5 "PatternMatcher" "compiled" "Z" ∈ aW := aw_t (ti_1 (List.mem_of_getElem? (i := 211) rfl)) rfl
theorem w_213 : Cond.lays RX5 "PatternMatcher" "matched" "Z" ∈ aW := aw_t (ti_1 (List.mem_of_getElem? (i := 213) rfl)) rfl
theorem w_215 : Cond.lays RX5 "PatternMatcher" "matchFrom" "I" ∈ aW := aw_t (ti_1 (List.mem_of_getElem? (i := 215) rfl)) rfl
theorem w_217 : Cond.lays RX5 "PatternMatcher" "matchTo" "I" ∈ aW := aw_t (ti_1 (List.mem_of_getElem? (i := 217) rfl)) rfl
theorem w_219 : Cond.lays RX5 "PatternMatcher" "matchSpans" "J" ∈ aW := aw_t (ti_1 (List.mem_of_getElem? (i := 219) rfl)) rfl
theorem w_221 : Cond.laysFinal RX5 "PatternMatcher" "made" "LPatternMatcher$Row;" ∈ aW := aw_t (ti_1 (List.mem_of_getElem? (i := 221) rfl)) rfl
theorem w_223 : Cond.laysFinal RX5 "PatternMatcher" "pieceFrom" "[I" ∈ aW := aw_t (ti_1 (List.mem_of_getElem? (i := 223) rfl)) rfl
theorem w_225 : Cond.laysFinal RX5 "PatternMatcher" "pieceTo" "[I" ∈ aW := aw_t (ti_1 (List.mem_of_getElem? (i := 225) rfl)) rfl
theorem w_227 : Cond.lays RX5 "PatternMatcher" "pieces" "I" ∈ aW := aw_t (ti_1 (List.mem_of_getElem? (i := 227) rfl)) rfl
theorem w_230 : Cond.methodLink RL 54 yX5_type ∈ aW := aw_t (ti_1 (List.mem_of_getElem? (i := 230) rfl)) rfl
theorem w_231 : Cond.instanceMethod yX5_type ∈ aW := aw_t (ti_1 (List.mem_of_getElem? (i := 231) rfl)) rfl
theorem w_232 : Cond.selects RX5 yX5_type yX5_type ∈ aW := aw_t (ti_1 (List.mem_of_getElem? (i := 232) rfl)) rfl
theorem w_233 : Cond.code yX5_type cX5_type 3 (some .boolean) ∈ aW := aw_t (ti_1 (List.mem_of_getElem? (i := 233) rfl)) rfl
theorem w_234 : Cond.methodLink RX5 47 yX5_isRow ∈ aW := aw_t (ti_1 (List.mem_of_getElem? (i := 234) rfl)) rfl
theorem w_235 : Cond.static yX5_isRow ∈ aW := aw_t (ti_1 (List.mem_of_getElem? (i := 235) rfl)) rfl
theorem w_236 : Cond.code yX5_isRow cX5_isRow 1 (some .boolean) ∈ aW := aw_t (ti_1 (List.mem_of_getElem? (i := 236) rfl)) rfl
theorem w_237 : Cond.methodLink RX5 51 yX3_add ∈ aW := aw_t (ti_1 (List.mem_of_getElem? (i := 237) rfl)) rfl
theorem w_238 : Cond.instanceMethod yX3_add ∈ aW := aw_t (ti_1 (List.mem_of_getElem? (i := 238) rfl)) rfl
theorem w_239 : Cond.selects RX3 yX3_add yX3_add ∈ aW := aw_t (ti_1 (List.mem_of_getElem? (i := 239) rfl)) rfl
theorem w_240 : Cond.code yX3_add cX3_add 2 (some .boolean) ∈ aW := aw_t (ti_2 (List.mem_of_getElem? (i := 0) rfl)) rfl
theorem w_241 : Cond.methodLink RX5 55 yX5_forgetMatchIfText ∈ aW := aw_t (ti_2 (List.mem_of_getElem? (i := 1) rfl)) rfl
theorem w_243 : Cond.instanceMethod yX5_forgetMatchIfText ∈ aW := aw_t (ti_2 (List.mem_of_getElem? (i := 3) rfl)) rfl
theorem w_244 : Cond.code yX5_forgetMatchIfText cX5_forgetMatchIfText 2 none ∈ aW := aw_t (ti_2 (List.mem_of_getElem? (i := 4) rfl)) rfl
theorem w_245 : Cond.methodLink RL 59 yX5_clear ∈ aW := aw_t (ti_2 (List.mem_of_getElem? (i := 5) rfl)) rfl
theorem w_246 : Cond.instanceMethod yX5_clear ∈ aW := aw_t (ti_2 (List.mem_of_getElem? (i := 6) rfl)) rfl
theorem w_247 : Cond.selects RX5 yX5_clear yX5_clear ∈ aW := aw_t (ti_2 (List.mem_of_getElem? (i := 7) rfl)) rfl
theorem w_248 : Cond.code yX5_clear cX5_clear 2 (some .boolean) ∈ aW := aw_t (ti_2 (List.mem_of_getElem? (i := 8) rfl)) rfl
theorem w_249 : Cond.methodLink RX5 58 yX3_empty ∈ aW := aw_t (ti_2 (List.mem_of_getElem? (i := 9) rfl)) rfl
theorem w_250 : Cond.instanceMethod yX3_empty ∈ aW := aw_t (ti_2 (List.mem_of_getElem? (i := 10) rfl)) rfl
theorem w_251 : Cond.selects RX3 yX3_empty yX3_empty ∈ aW := aw_t (ti_2 (List.mem_of_getElem? (i := 11) rfl)) rfl
theorem w_252 : Cond.code yX3_empty cX3_empty 1 none ∈ aW := aw_t (ti_2 (List.mem_of_getElem? (i := 12) rfl)) rfl
theorem w_253 : Cond.methodLink RL 102 yX5_length ∈ aW := aw_t (ti_2 (List.mem_of_getElem? (i := 13) rfl)) rfl
theorem w_254 : Cond.instanceMethod yX5_length ∈ aW := aw_t (ti_2 (List.mem_of_getElem? (i := 14) rfl)) rfl
theorem w_255 : Cond.selects RX5 yX5_length yX5_length ∈ aW := aw_t (ti_2 (List.mem_of_getElem? (i := 15) rfl)) rfl
theorem w_256 : Cond.code yX5_length cX5_length 2 (some .int) ∈ aW := aw_t (ti_2 (List.mem_of_getElem? (i := 16) rfl)) rfl
theorem w_257 : Cond.methodLink RX5 90 yX3_size ∈ aW := aw_t (ti_2 (List.mem_of_getElem? (i := 17) rfl)) rfl
theorem w_258 : Cond.instanceMethod yX3_size ∈ aW := aw_t (ti_2 (List.mem_of_getElem? (i := 18) rfl)) rfl
theorem w_259 : Cond.selects RX3 yX3_size yX3_size ∈ aW := aw_t (ti_2 (List.mem_of_getElem? (i := 19) rfl)) rfl
theorem w_260 : Cond.code yX3_size cX3_size 1 (some .int) ∈ aW := aw_t (ti_2 (List.mem_of_getElem? (i := 20) rfl)) rfl
theorem w_261 : Cond.methodLink RL 64 yL_compile ∈ aW := aw_t (ti_2 (List.mem_of_getElem? (i := 21) rfl)) rfl
theorem w_262 : Cond.static yL_compile ∈ aW := aw_t (ti_2 (List.mem_of_getElem? (i := 22) rfl)) rfl
theorem w_263 : Cond.codeWith yL_compile cL_compile 3 (some .int) [(0, 8, 11, 13)] ∈ aW := aw_t (ti_2 (List.mem_of_getElem? (i := 23) rfl)) rfl
theorem w_264 : Cond.classLink RL 13 "java/lang/IllegalArgumentException" ∈ aW := aw_t (ti_2 (List.mem_of_getElem? (i := 24) rfl)) rfl
theorem w_265 : Cond.methodLink RL 7 yX5_compile ∈ aW := aw_t (ti_2 (List.mem_of_getElem? (i := 25) rfl)) rfl
theorem w_266 : Cond.instanceMethod yX5_compile ∈ aW := aw_t (ti_2 (List.mem_of_getElem? (i := 26) rfl)) rfl
theorem w_267 : Cond.selects RX5 yX5_compile yX5_compile ∈ aW := aw_t (ti_2 (List.mem_of_getElem? (i := 27) rfl)) rfl
theorem w_268 : Cond.code yX5_compile cX5_compile 2 (some .int) ∈ aW := aw_t (ti_2 (List.mem_of_getElem? (i := 28) rfl)) rfl
theorem w_269 : Cond.classLink RX5 61 RX2 ∈ aW := aw_t (ti_2 (List.mem_of_getElem? (i := 29) rfl)) rfl
theorem w_270 : Cond.instantiable RX2 10 ∈ aW := aw_t (ti_2 (List.mem_of_getElem? (i := 30) rfl)) rfl
theorem w_271 : Cond.methodLink RX5 63 yX2_init ∈ aW := aw_t (ti_2 (List.mem_of_getElem? (i := 31) rfl)) rfl
theorem w_272 : Cond.instanceMethod yX2_init ∈ aW := aw_t (ti_2 (List.mem_of_getElem? (i := 32) rfl)) rfl
theorem w_273 : Cond.code yX2_init cX2_init 3 none ∈ aW := aw_t (ti_2 (List.mem_of_getElem? (i := 33) rfl)) rfl
theorem w_274 : Cond.methodLink RX2 3 objectInit ∈ aW := aw_t (ti_2 (List.mem_of_getElem? (i := 34) rfl)) rfl
theorem w_275 : Cond.fieldLink RX2 9 "PatternMatcher$Reader" "row" "LPatternMatcher$Row;" ∈ aW := aw_t (ti_2 (List.mem_of_getElem? (i := 35) rfl)) rfl
theorem w_276 : Cond.fieldLink RX2 15 "PatternMatcher$Reader" "program" "LPatternMatcher$Program;" ∈ aW := aw_t (ti_2 (List.mem_of_getElem? (i := 36) rfl)) rfl
theorem w_277 : Cond.fieldLink RX2 40 "PatternMatcher$Reader" "at" "I" ∈ aW := aw_t (ti_2 (List.mem_of_getElem? (i := 37) rfl)) rfl
theorem w_278 : Cond.fieldLink RX2 36 "PatternMatcher$Reader" "bad" "Z" ∈ aW := aw_t (ti_2 (List.mem_of_getElem? (i := 38) rfl)) rfl
theorem w_279 : Cond.fieldLink RX2 107 "PatternMatcher$Reader" "behinds" "I" ∈ aW := aw_t (ti_2 (List.mem_of_getElem? (i := 39) rfl)) rfl
theorem w_280 : Cond.fieldLink RX2 74 "PatternMatcher$Reader" "tail" "I" ∈ aW := aw_t (ti_2 (List.mem_of_getElem? (i := 40) rfl)) rfl
theorem w_281 : Cond.fieldLink RX2 168 "PatternMatcher$Reader" "low" "J" ∈ aW := aw_t (ti_2 (List.mem_of_getElem? (i := 41) rfl)) rfl
theorem w_282 : Cond.fieldLink RX2 171 "PatternMatcher$Reader" "high" "J" ∈ aW := aw_t (ti_2 (List.mem_of_getElem? (i := 42) rfl)) rfl
theorem w_283 : Cond.fieldLink RX2 86 "PatternMatcher$Reader" "least" "I" ∈ aW := aw_t (ti_2 (List.mem_of_getElem? (i := 43) rfl)) rfl
theorem w_284 : Cond.fieldLink RX2 90 "PatternMatcher$Reader" "most" "I" ∈ aW := aw_t (ti_2 (List.mem_of_getElem? (i := 44) rfl)) rfl
theorem w_285 : Cond.laysFinal RX2 "PatternMatcher$Reader" "row" "LPatternMatcher$Row;" ∈ aW := aw_t (ti_2 (List.mem_of_getElem? (i := 45) rfl)) rfl
theorem w_287 : Cond.laysFinal RX2 "PatternMatcher$Reader" "program" "LPatternMatcher$Program;" ∈ aW := aw_t (ti_2 (List.mem_of_getElem? (i := 47) rfl)) rfl
theorem w_289 : Cond.lays RX2 "PatternMatcher$Reader" "at" "I" ∈ aW := aw_t (ti_2 (List.mem_of_getElem? (i := 49) rfl)) rfl
theorem w_291 : Cond.lays RX2 "PatternMatcher$Reader" "bad" "Z" ∈ aW := aw_t (ti_2 (List.mem_of_getElem? (i := 51) rfl)) rfl
theorem w_293 : Cond.lays RX2 "PatternMatcher$Reader" "behinds" "I" ∈ aW := aw_t (ti_2 (List.mem_of_getElem? (i := 53) rfl)) rfl
theorem w_295 : Cond.lays RX2 "PatternMatcher$Reader" "tail" "I" ∈ aW := aw_t (ti_2 (List.mem_of_getElem? (i := 55) rfl)) rfl
theorem w_297 : Cond.lays RX2 "PatternMatcher$Reader" "low" "J" ∈ aW := aw_t (ti_2 (List.mem_of_getElem? (i := 57) rfl)) rfl
theorem w_299 : Cond.lays RX2 "PatternMatcher$Reader" "high" "J" ∈ aW := aw_t (ti_2 (List.mem_of_getElem? (i := 59) rfl)) rfl
theorem w_301 : Cond.lays RX2 "PatternMatcher$Reader" "least" "I" ∈ aW := aw_t (ti_2 (List.mem_of_getElem? (i := 61) rfl)) rfl
theorem w_303 : Cond.lays RX2 "PatternMatcher$Reader" "most" "I" ∈ aW := aw_t (ti_2 (List.mem_of_getElem? (i := 63) rfl)) rfl
theorem w_306 : Cond.methodLink RX5 66 yX2_readPattern ∈ aW := aw_t (ti_2 (List.mem_of_getElem? (i := 66) rfl)) rfl
theorem w_307 : Cond.instanceMethod yX2_readPattern ∈ aW := aw_t (ti_2 (List.mem_of_getElem? (i := 67) rfl)) rfl
theorem w_308 : Cond.selects RX2 yX2_readPattern yX2_readPattern ∈ aW := aw_t (ti_2 (List.mem_of_getElem? (i := 68) rfl)) rfl
theorem w_309 : Cond.code yX2_readPattern cX2_readPattern 1 (some .boolean) ∈ aW := aw_t (ti_2 (List.mem_of_getElem? (i := 69) rfl)) rfl
theorem w_310 : Cond.methodLink RX2 19 yX1_restart ∈ aW := aw_t (ti_2 (List.mem_of_getElem? (i := 70) rfl)) rfl
theorem w_311 : Cond.instanceMethod yX1_restart ∈ aW := aw_t (ti_2 (List.mem_of_getElem? (i := 71) rfl)) rfl
theorem w_312 : Cond.selects RX1 yX1_restart yX1_restart ∈ aW := aw_t (ti_2 (List.mem_of_getElem? (i := 72) rfl)) rfl
theorem w_313 : Cond.code yX1_restart cX1_restart 1 none ∈ aW := aw_t (ti_2 (List.mem_of_getElem? (i := 73) rfl)) rfl
theorem w_314 : Cond.methodLink RX2 24 yX2_add ∈ aW := aw_t (ti_2 (List.mem_of_getElem? (i := 74) rfl)) rfl
theorem w_316 : Cond.instanceMethod yX2_add ∈ aW := aw_t (ti_2 (List.mem_of_getElem? (i := 76) rfl)) rfl
theorem w_317 : Cond.code yX2_add cX2_add 3 (some .int) ∈ aW := aw_t (ti_2 (List.mem_of_getElem? (i := 77) rfl)) rfl
theorem w_318 : Cond.methodLink RX2 208 yX1_add ∈ aW := aw_t (ti_2 (List.mem_of_getElem? (i := 78) rfl)) rfl
theorem w_319 : Cond.instanceMethod yX1_add ∈ aW := aw_t (ti_2 (List.mem_of_getElem? (i := 79) rfl)) rfl
theorem w_320 : Cond.selects RX1 yX1_add yX1_add ∈ aW := aw_t (ti_2 (List.mem_of_getElem? (i := 80) rfl)) rfl
theorem w_321 : Cond.code yX1_add cX1_add 3 (some .int) ∈ aW := aw_t (ti_2 (List.mem_of_getElem? (i := 81) rfl)) rfl
theorem w_322 : Cond.methodLink RX2 28 yX2_choice ∈ aW := aw_t (ti_2 (List.mem_of_getElem? (i := 82) rfl)) rfl
theorem w_324 : Cond.instanceMethod yX2_choice ∈ aW := aw_t (ti_2 (List.mem_of_getElem? (i := 84) rfl)) rfl
theorem w_325 : Cond.code yX2_choice cX2_choice 7 (some .int) ∈ aW := aw_t (ti_2 (List.mem_of_getElem? (i := 85) rfl)) rfl
theorem w_326 : Cond.methodLink RX2 49 yX2_sequence ∈ aW := aw_t (ti_2 (List.mem_of_getElem? (i := 86) rfl)) rfl
theorem w_328 : Cond.instanceMethod yX2_sequence ∈ aW := aw_t (ti_2 (List.mem_of_getElem? (i := 88) rfl)) rfl
theorem w_329 : Cond.code yX2_sequence cX2_sequence 6 (some .int) ∈ aW := aw_t (ti_2 (List.mem_of_getElem? (i := 89) rfl)) rfl
theorem w_330 : Cond.methodLink RX2 64 yX2_isSequenceOver ∈ aW := aw_t (ti_2 (List.mem_of_getElem? (i := 90) rfl)) rfl
theorem w_332 : Cond.instanceMethod yX2_isSequenceOver ∈ aW := aw_t (ti_2 (List.mem_of_getElem? (i := 92) rfl)) rfl
theorem w_333 : Cond.code yX2_isSequenceOver cX2_isSequenceOver 1 (some .boolean) ∈ aW := aw_t (ti_2 (List.mem_of_getElem? (i := 93) rfl)) rfl
theorem w_334 : Cond.methodLink RX2 43 yX3_size ∈ aW := aw_t (ti_2 (List.mem_of_getElem? (i := 94) rfl)) rfl
theorem w_335 : Cond.methodLink RX2 52 yX3_at ∈ aW := aw_t (ti_2 (List.mem_of_getElem? (i := 95) rfl)) rfl
theorem w_336 : Cond.instanceMethod yX3_at ∈ aW := aw_t (ti_2 (List.mem_of_getElem? (i := 96) rfl)) rfl
theorem w_337 : Cond.selects RX3 yX3_at yX3_at ∈ aW := aw_t (ti_2 (List.mem_of_getElem? (i := 97) rfl)) rfl
theorem w_338 : Cond.code yX3_at cX3_at 2 (some .char) ∈ aW := aw_t (ti_2 (List.mem_of_getElem? (i := 98) rfl)) rfl
theorem w_339 : Cond.methodLink RX2 55 yX1_node ∈ aW := aw_t (ti_2 (List.mem_of_getElem? (i := 99) rfl)) rfl
theorem w_340 : Cond.instanceMethod yX1_node ∈ aW := aw_t (ti_2 (List.mem_of_getElem? (i := 100) rfl)) rfl
theorem w_341 : Cond.selects RX1 yX1_node yX1_node ∈ aW := aw_t (ti_2 (List.mem_of_getElem? (i := 101) rfl)) rfl
theorem w_342 : Cond.code yX1_node cX1_node 2 (some (.object "PatternMatcher$Node")) ∈ aW := aw_t (ti_2 (List.mem_of_getElem? (i := 102) rfl)) rfl
theorem w_343 : Cond.methodLink RX2 68 yX2_onePiece ∈ aW := aw_t (ti_2 (List.mem_of_getElem? (i := 103) rfl)) rfl
theorem w_345 : Cond.instanceMethod yX2_onePiece ∈ aW := aw_t (ti_2 (List.mem_of_getElem? (i := 105) rfl)) rfl
theorem w_346 : Cond.code yX2_onePiece cX2_onePiece 6 (some .int) ∈ aW := aw_t (ti_2 (List.mem_of_getElem? (i := 106) rfl)) rfl
theorem w_347 : Cond.methodLink RX2 77 yX2_atom ∈ aW := aw_t (ti_2 (List.mem_of_getElem? (i := 107) rfl)) rfl
theorem w_349 : Cond.instanceMethod yX2_atom ∈ aW := aw_t (ti_2 (List.mem_of_getElem? (i := 109) rfl)) rfl
theorem w_350 : Cond.code yX2_atom cX2_atom 3 (some .int) ∈ aW := aw_t (ti_2 (List.mem_of_getElem? (i := 110) rfl)) rfl
theorem w_351 : Cond.methodLink RX2 117 yX2_bracket ∈ aW := aw_t (ti_2 (List.mem_of_getElem? (i := 111) rfl)) rfl
theorem w_353 : Cond.instanceMethod yX2_bracket ∈ aW := aw_t (ti_2 (List.mem_of_getElem? (i := 113) rfl)) rfl
theorem w_354 : Cond.code yX2_bracket cX2_bracket 2 (some .int) ∈ aW := aw_t (ti_2 (List.mem_of_getElem? (i := 114) rfl)) rfl
theorem w_355 : Cond.methodLink RX2 142 yX2_refuse ∈ aW := aw_t (ti_2 (List.mem_of_getElem? (i := 115) rfl)) rfl
theorem w_357 : Cond.instanceMethod yX2_refuse ∈ aW := aw_t (ti_2 (List.mem_of_getElem? (i := 117) rfl)) rfl
theorem w_358 : Cond.code yX2_refuse cX2_refuse 1 (some .int) ∈ aW := aw_t (ti_2 (List.mem_of_getElem? (i := 118) rfl)) rfl
theorem w_359 : Cond.methodLink RX2 94 yX2_take ∈ aW := aw_t (ti_2 (List.mem_of_getElem? (i := 119) rfl)) rfl
theorem w_361 : Cond.instanceMethod yX2_take ∈ aW := aw_t (ti_2 (List.mem_of_getElem? (i := 121) rfl)) rfl
theorem w_362 : Cond.code yX2_take cX2_take 3 (some .boolean) ∈ aW := aw_t (ti_2 (List.mem_of_getElem? (i := 122) rfl)) rfl
theorem w_363 : Cond.methodLink RX2 189 yX2_group ∈ aW := aw_t (ti_2 (List.mem_of_getElem? (i := 123) rfl)) rfl
theorem w_365 : Cond.instanceMethod yX2_group ∈ aW := aw_t (ti_2 (List.mem_of_getElem? (i := 125) rfl)) rfl
theorem w_366 : Cond.code yX2_group cX2_group 4 (some .int) ∈ aW := aw_t (ti_2 (List.mem_of_getElem? (i := 126) rfl)) rfl
theorem w_367 : Cond.methodLink RX2 194 yX2_closedChoice ∈ aW := aw_t (ti_2 (List.mem_of_getElem? (i := 127) rfl)) rfl
theorem w_369 : Cond.instanceMethod yX2_closedChoice ∈ aW := aw_t (ti_2 (List.mem_of_getElem? (i := 129) rfl)) rfl
theorem w_370 : Cond.code yX2_closedChoice cX2_closedChoice 4 (some .int) ∈ aW := aw_t (ti_2 (List.mem_of_getElem? (i := 130) rfl)) rfl
theorem w_371 : Cond.methodLink RX2 113 yX2_expect ∈ aW := aw_t (ti_2 (List.mem_of_getElem? (i := 131) rfl)) rfl
theorem w_373 : Cond.instanceMethod yX2_expect ∈ aW := aw_t (ti_2 (List.mem_of_getElem? (i := 133) rfl)) rfl
theorem w_374 : Cond.code yX2_expect cX2_expect 2 none ∈ aW := aw_t (ti_2 (List.mem_of_getElem? (i := 134) rfl)) rfl
theorem w_375 : Cond.methodLink RX2 191 yX2_together ∈ aW := aw_t (ti_2 (List.mem_of_getElem? (i := 135) rfl)) rfl
theorem w_377 : Cond.instanceMethod yX2_together ∈ aW := aw_t (ti_2 (List.mem_of_getElem? (i := 137) rfl)) rfl
theorem w_378 : Cond.code yX2_together cX2_together 4 (some .int) ∈ aW := aw_t (ti_2 (List.mem_of_getElem? (i := 138) rfl)) rfl
theorem w_379 : Cond.methodLink RX2 101 yX2_withBody ∈ aW := aw_t (ti_2 (List.mem_of_getElem? (i := 139) rfl)) rfl
theorem w_381 : Cond.instanceMethod yX2_withBody ∈ aW := aw_t (ti_2 (List.mem_of_getElem? (i := 141) rfl)) rfl
theorem w_382 : Cond.code yX2_withBody cX2_withBody 4 (some .int) ∈ aW := aw_t (ti_2 (List.mem_of_getElem? (i := 142) rfl)) rfl
theorem w_383 : Cond.methodLink RX2 132 yX2_single ∈ aW := aw_t (ti_2 (List.mem_of_getElem? (i := 143) rfl)) rfl
theorem w_385 : Cond.instanceMethod yX2_single ∈ aW := aw_t (ti_2 (List.mem_of_getElem? (i := 145) rfl)) rfl
theorem w_386 : Cond.code yX2_single cX2_single 2 (some .int) ∈ aW := aw_t (ti_2 (List.mem_of_getElem? (i := 146) rfl)) rfl
theorem w_387 : Cond.methodLink RX2 197 yX2_look ∈ aW := aw_t (ti_2 (List.mem_of_getElem? (i := 147) rfl)) rfl
theorem w_389 : Cond.instanceMethod yX2_look ∈ aW := aw_t (ti_2 (List.mem_of_getElem? (i := 149) rfl)) rfl
theorem w_390 : Cond.code yX2_look cX2_look 5 (some .int) ∈ aW := aw_t (ti_2 (List.mem_of_getElem? (i := 150) rfl)) rfl
theorem w_391 : Cond.methodLink RX2 120 yX2_items ∈ aW := aw_t (ti_2 (List.mem_of_getElem? (i := 151) rfl)) rfl
theorem w_393 : Cond.instanceMethod yX2_items ∈ aW := aw_t (ti_2 (List.mem_of_getElem? (i := 153) rfl)) rfl
theorem w_394 : Cond.code yX2_items cX2_items 3 (some .int) ∈ aW := aw_t (ti_2 (List.mem_of_getElem? (i := 154) rfl)) rfl
theorem w_395 : Cond.methodLink RX2 174 yX2_item ∈ aW := aw_t (ti_2 (List.mem_of_getElem? (i := 155) rfl)) rfl
theorem w_397 : Cond.instanceMethod yX2_item ∈ aW := aw_t (ti_2 (List.mem_of_getElem? (i := 157) rfl)) rfl
theorem w_398 : Cond.code yX2_item cX2_item 4 none ∈ aW := aw_t (ti_2 (List.mem_of_getElem? (i := 158) rfl)) rfl
theorem w_399 : Cond.methodLink RX2 177 yX2_escapedItem ∈ aW := aw_t (ti_2 (List.mem_of_getElem? (i := 159) rfl)) rfl
theorem w_401 : Cond.instanceMethod yX2_escapedItem ∈ aW := aw_t (ti_2 (List.mem_of_getElem? (i := 161) rfl)) rfl
theorem w_402 : Cond.code yX2_escapedItem cX2_escapedItem 2 none ∈ aW := aw_t (ti_2 (List.mem_of_getElem? (i := 162) rfl)) rfl
theorem w_403 : Cond.constantLong RX2 149 287948901175001088 ∈ aW := aw_t (ti_2 (List.mem_of_getElem? (i := 163) rfl)) rfl
theorem w_404 : Cond.constantLong RX2 151 576460745995190270 ∈ aW := aw_t (ti_2 (List.mem_of_getElem? (i := 164) rfl)) rfl
theorem w_406 : Cond.methodLink RX2 137 ⟨"java/lang/String", "indexOf", "(I)I"⟩ ∈ aW := aw_t (ti_2 (List.mem_of_getElem? (i := 166) rfl)) rfl
theorem w_407 : Cond.instanceMethod ⟨"java/lang/String", "indexOf", "(I)I"⟩ ∈ aW := aw_t (ti_2 (List.mem_of_getElem? (i := 167) rfl)) rfl
theorem w_408 : Cond.selects "java/lang/String" ⟨"java/lang/String", "indexOf", "(I)I"⟩ ⟨"java/lang/String", "indexOf", "(I)I"⟩ ∈ aW := aw_t (ti_2 (List.mem_of_getElem? (i := 168) rfl)) rfl
theorem w_409 : Cond.code ⟨"java/lang/String", "indexOf", "(I)I"⟩ prog_16_method_79_code 2 (some .int) ∈ aW := aw_t (ti_2 (List.mem_of_getElem? (i := 169) rfl)) rfl
theorem w_410 : Cond.methodLink "java/lang/String" 633 ⟨"java/lang/String", "indexOf", "(II)I"⟩ ∈ aW := aw_t (ti_2 (List.mem_of_getElem? (i := 170) rfl)) rfl
theorem w_411 : Cond.instanceMethod ⟨"java/lang/String", "indexOf", "(II)I"⟩ ∈ aW := aw_t (ti_2 (List.mem_of_getElem? (i := 171) rfl)) rfl
theorem w_412 : Cond.selects "java/lang/String" ⟨"java/lang/String", "indexOf", "(II)I"⟩ ⟨"java/lang/String", "indexOf", "(II)I"⟩ ∈ aW := aw_t (ti_2 (List.mem_of_getElem? (i := 172) rfl)) rfl
theorem w_413 : Cond.code ⟨"java/lang/String", "indexOf", "(II)I"⟩ prog_16_method_80_code 3 (some .int) ∈ aW := aw_t (ti_2 (List.mem_of_getElem? (i := 173) rfl)) rfl
theorem w_414 : Cond.methodLink "java/lang/String" 492 ⟨"java/lang/String", "isLatin1", "()Z"⟩ ∈ aW := aw_t (ti_2 (List.mem_of_getElem? (i := 174) rfl)) rfl
theorem w_415 : Cond.instanceMethod ⟨"java/lang/String", "isLatin1", "()Z"⟩ ∈ aW := aw_t (ti_2 (List.mem_of_getElem? (i := 175) rfl)) rfl
theorem w_416 : Cond.selects "java/lang/String" ⟨"java/lang/String", "isLatin1", "()Z"⟩ ⟨"java/lang/String", "isLatin1", "()Z"⟩ ∈ aW := aw_t (ti_2 (List.mem_of_getElem? (i := 176) rfl)) rfl
theorem w_417 : Cond.code ⟨"java/lang/String", "isLatin1", "()Z"⟩ prog_16_method_154_code 1 (some .boolean) ∈ aW := aw_t (ti_2 (List.mem_of_getElem? (i := 177) rfl)) rfl
theorem w_418 : Cond.fieldLink "java/lang/String" 38 "java/lang/String" "COMPACT_STRINGS" "Z" ∈ aW := aw_t (ti_2 (List.mem_of_getElem? (i := 178) rfl)) rfl
theorem w_420 : Cond.methodLink "java/lang/String" 505 ⟨"java/lang/String", "length", "()I"⟩ ∈ aW := aw_t (ti_2 (List.mem_of_getElem? (i := 180) rfl)) rfl
theorem w_421 : Cond.instanceMethod ⟨"java/lang/String", "length", "()I"⟩ ∈ aW := aw_t (ti_2 (List.mem_of_getElem? (i := 181) rfl)) rfl
theorem w_422 : Cond.selects "java/lang/String" ⟨"java/lang/String", "length", "()I"⟩ ⟨"java/lang/String", "length", "()I"⟩ ∈ aW := aw_t (ti_2 (List.mem_of_getElem? (i := 182) rfl)) rfl
theorem w_423 : Cond.code ⟨"java/lang/String", "length", "()I"⟩ prog_16_method_54_code 1 (some .int) ∈ aW := aw_t (ti_2 (List.mem_of_getElem? (i := 183) rfl)) rfl
theorem w_424 : Cond.methodLink "java/lang/String" 335 ⟨"java/lang/String", "coder", "()B"⟩ ∈ aW := aw_t (ti_2 (List.mem_of_getElem? (i := 184) rfl)) rfl
theorem w_425 : Cond.instanceMethod ⟨"java/lang/String", "coder", "()B"⟩ ∈ aW := aw_t (ti_2 (List.mem_of_getElem? (i := 185) rfl)) rfl
theorem w_426 : Cond.selects "java/lang/String" ⟨"java/lang/String", "coder", "()B"⟩ ⟨"java/lang/String", "coder", "()B"⟩ ∈ aW := aw_t (ti_2 (List.mem_of_getElem? (i := 186) rfl)) rfl
theorem w_427 : Cond.code ⟨"java/lang/String", "coder", "()B"⟩ prog_16_method_152_code 1 (some .byte) ∈ aW := aw_t (ti_2 (List.mem_of_getElem? (i := 187) rfl)) rfl
theorem w_428 : Cond.methodLink "java/lang/String" 637 ⟨"java/lang/StringLatin1", "indexOf", "([BIII)I"⟩ ∈ aW := aw_t (ti_2 (List.mem_of_getElem? (i := 188) rfl)) rfl
theorem w_429 : Cond.static ⟨"java/lang/StringLatin1", "indexOf", "([BIII)I"⟩ ∈ aW := aw_t (ti_2 (List.mem_of_getElem? (i := 189) rfl)) rfl
theorem w_430 : Cond.code ⟨"java/lang/StringLatin1", "indexOf", "([BIII)I"⟩ prog_17_method_22_code 4 (some .int) ∈ aW := aw_t (ti_2 (List.mem_of_getElem? (i := 190) rfl)) rfl
theorem w_431 : Cond.methodLink "java/lang/StringLatin1" 88 ⟨"java/lang/StringLatin1", "canEncode", "(I)Z"⟩ ∈ aW := aw_t (ti_2 (List.mem_of_getElem? (i := 191) rfl)) rfl
theorem w_432 : Cond.static ⟨"java/lang/StringLatin1", "canEncode", "(I)Z"⟩ ∈ aW := aw_t (ti_2 (List.mem_of_getElem? (i := 192) rfl)) rfl
theorem w_433 : Cond.code ⟨"java/lang/StringLatin1", "canEncode", "(I)Z"⟩ prog_17_method_4_code 1 (some .boolean) ∈ aW := aw_t (ti_2 (List.mem_of_getElem? (i := 193) rfl)) rfl
theorem w_434 : Cond.methodLink "java/lang/StringLatin1" 92 ⟨"java/lang/Math", "max", "(II)I"⟩ ∈ aW := aw_t (ti_2 (List.mem_of_getElem? (i := 194) rfl)) rfl
theorem w_435 : Cond.static ⟨"java/lang/Math", "max", "(II)I"⟩ ∈ aW := aw_t (ti_2 (List.mem_of_getElem? (i := 195) rfl)) rfl
theorem w_436 : Cond.code ⟨"java/lang/Math", "max", "(II)I"⟩ prog_14_method_65_code 2 (some .int) ∈ aW := aw_t (ti_2 (List.mem_of_getElem? (i := 196) rfl)) rfl
theorem w_437 : Cond.methodLink "java/lang/StringLatin1" 38 ⟨"java/lang/Math", "min", "(II)I"⟩ ∈ aW := aw_t (ti_2 (List.mem_of_getElem? (i := 197) rfl)) rfl
theorem w_438 : Cond.static ⟨"java/lang/Math", "min", "(II)I"⟩ ∈ aW := aw_t (ti_2 (List.mem_of_getElem? (i := 198) rfl)) rfl
theorem w_439 : Cond.code ⟨"java/lang/Math", "min", "(II)I"⟩ prog_14_method_69_code 2 (some .int) ∈ aW := aw_t (ti_2 (List.mem_of_getElem? (i := 199) rfl)) rfl
theorem w_440 : Cond.methodLink "java/lang/StringLatin1" 95 ⟨"java/lang/StringLatin1", "indexOfChar", "([BIII)I"⟩ ∈ aW := aw_t (ti_2 (List.mem_of_getElem? (i := 200) rfl)) rfl
theorem w_441 : Cond.static ⟨"java/lang/StringLatin1", "indexOfChar", "([BIII)I"⟩ ∈ aW := aw_t (ti_2 (List.mem_of_getElem? (i := 201) rfl)) rfl
theorem w_442 : Cond.code ⟨"java/lang/StringLatin1", "indexOfChar", "([BIII)I"⟩ prog_17_method_23_code 6 (some .int) ∈ aW := aw_t (ti_2 (List.mem_of_getElem? (i := 202) rfl)) rfl
theorem w_443 : Cond.methodLink "java/lang/String" 640 ⟨"java/lang/StringUTF16", "indexOf", "([BIII)I"⟩ ∈ aW := aw_t (ti_2 (List.mem_of_getElem? (i := 203) rfl)) rfl
theorem w_444 : Cond.static ⟨"java/lang/StringUTF16", "indexOf", "([BIII)I"⟩ ∈ aW := aw_t (ti_2 (List.mem_of_getElem? (i := 204) rfl)) rfl
theorem w_445 : Cond.code ⟨"java/lang/StringUTF16", "indexOf", "([BIII)I"⟩ prog_18_method_40_code 4 (some .int) ∈ aW := aw_t (ti_2 (List.mem_of_getElem? (i := 205) rfl)) rfl
theorem w_446 : Cond.methodLink "java/lang/StringUTF16" 224 ⟨"java/lang/Math", "max", "(II)I"⟩ ∈ aW := aw_t (ti_2 (List.mem_of_getElem? (i := 206) rfl)) rfl
theorem w_447 : Cond.methodLink "java/lang/StringUTF16" 183 ⟨"java/lang/Math", "min", "(II)I"⟩ ∈ aW := aw_t (ti_2 (List.mem_of_getElem? (i := 207) rfl)) rfl
theorem w_448 : Cond.constant "java/lang/StringUTF16" 227 65536 ∈ aW := aw_t (ti_2 (List.mem_of_getElem? (i := 208) rfl)) rfl
theorem w_449 : Cond.methodLink "java/lang/StringUTF16" 228 ⟨"java/lang/StringUTF16", "indexOfChar", "([BIII)I"⟩ ∈ aW := aw_t (ti_2 (List.mem_of_getElem? (i := 209) rfl)) rfl
theorem w_450 : Cond.static ⟨"java/lang/StringUTF16", "indexOfChar", "([BIII)I"⟩ ∈ aW := aw_t (ti_2 (List.mem_of_getElem? (i := 210) rfl)) rfl
theorem w_451 : Cond.code ⟨"java/lang/StringUTF16", "indexOfChar", "([BIII)I"⟩ prog_18_method_47_code 4 (some .int) ∈ aW := aw_t (ti_2 (List.mem_of_getElem? (i := 211) rfl)) rfl
theorem w_452 : Cond.methodLink "java/lang/StringUTF16" 96 ⟨"java/lang/StringUTF16", "checkBoundsBeginEnd", "(II[B)V"⟩ ∈ aW := aw_t (ti_2 (List.mem_of_getElem? (i := 212) rfl)) rfl
theorem w_453 : Cond.static ⟨"java/lang/StringUTF16", "checkBoundsBeginEnd", "(II[B)V"⟩ ∈ aW := aw_t (ti_2 (List.mem_of_getElem? (i := 213) rfl)) rfl
theorem w_454 : Cond.code ⟨"java/lang/StringUTF16", "checkBoundsBeginEnd", "(II[B)V"⟩ prog_18_method_93_code 3 none ∈ aW := aw_t (ti_2 (List.mem_of_getElem? (i := 214) rfl)) rfl
theorem w_455 : Cond.methodLink "java/lang/StringUTF16" 48 ⟨"java/lang/StringUTF16", "length", "([B)I"⟩ ∈ aW := aw_t (ti_2 (List.mem_of_getElem? (i := 215) rfl)) rfl
theorem w_456 : Cond.static ⟨"java/lang/StringUTF16", "length", "([B)I"⟩ ∈ aW := aw_t (ti_2 (List.mem_of_getElem? (i := 216) rfl)) rfl
theorem w_457 : Cond.code ⟨"java/lang/StringUTF16", "length", "([B)I"⟩ prog_18_method_6_code 1 (some .int) ∈ aW := aw_t (ti_2 (List.mem_of_getElem? (i := 217) rfl)) rfl
theorem w_458 : Cond.methodLink "java/lang/StringUTF16" 241 ⟨"java/lang/String", "checkBoundsBeginEnd", "(III)V"⟩ ∈ aW := aw_t (ti_2 (List.mem_of_getElem? (i := 218) rfl)) rfl
theorem w_459 : Cond.static ⟨"java/lang/String", "checkBoundsBeginEnd", "(III)V"⟩ ∈ aW := aw_t (ti_2 (List.mem_of_getElem? (i := 219) rfl)) rfl
theorem w_460 : Cond.code ⟨"java/lang/String", "checkBoundsBeginEnd", "(III)V"⟩ prog_16_method_158_code 3 none ∈ aW := aw_t (ti_2 (List.mem_of_getElem? (i := 220) rfl)) rfl
theorem w_461 : Cond.fieldLink "java/lang/String" 1053 "jdk/internal/util/Preconditions" "SIOOBE_FORMATTER" "Ljava/util/function/BiFunction;" ∈ aW := aw_t (ti_2 (List.mem_of_getElem? (i := 221) rfl)) rfl
theorem w_463 : Cond.methodLink "java/lang/String" 1062 ⟨"jdk/internal/util/Preconditions", "checkFromToIndex", "(IIILjava/util/function/BiFunction;)I"⟩ ∈ aW := aw_t (ti_2 (List.mem_of_getElem? (i := 223) rfl)) rfl
theorem w_464 : Cond.static ⟨"jdk/internal/util/Preconditions", "checkFromToIndex", "(IIILjava/util/function/BiFunction;)I"⟩ ∈ aW := aw_t (ti_2 (List.mem_of_getElem? (i := 224) rfl)) rfl
theorem w_465 : Cond.code ⟨"jdk/internal/util/Preconditions", "checkFromToIndex", "(IIILjava/util/function/BiFunction;)I"⟩ prog_20_method_12_code 4 (some .int) ∈ aW := aw_t (ti_2 (List.mem_of_getElem? (i := 225) rfl)) rfl
theorem w_466 : Cond.methodLink "java/lang/StringUTF16" 244 ⟨"java/lang/StringUTF16", "indexOfCharUnsafe", "([BIII)I"⟩ ∈ aW := aw_t (ti_2 (List.mem_of_getElem? (i := 226) rfl)) rfl
theorem w_467 : Cond.static ⟨"java/lang/StringUTF16", "indexOfCharUnsafe", "([BIII)I"⟩ ∈ aW := aw_t (ti_2 (List.mem_of_getElem? (i := 227) rfl)) rfl
theorem w_468 : Cond.code ⟨"java/lang/StringUTF16", "indexOfCharUnsafe", "([BIII)I"⟩ prog_18_method_48_code 5 (some .int) ∈ aW := aw_t (ti_2 (List.mem_of_getElem? (i := 228) rfl)) rfl
theorem w_469 : Cond.methodLink "java/lang/StringUTF16" 71 ⟨"java/lang/StringUTF16", "getChar", "([BI)C"⟩ ∈ aW := aw_t (ti_2 (List.mem_of_getElem? (i := 229) rfl)) rfl
theorem w_470 : Cond.static ⟨"java/lang/StringUTF16", "getChar", "([BI)C"⟩ ∈ aW := aw_t (ti_2 (List.mem_of_getElem? (i := 230) rfl)) rfl
theorem w_471 : Cond.code ⟨"java/lang/StringUTF16", "getChar", "([BI)C"⟩ prog_18_method_5_code 2 (some .char) ∈ aW := aw_t (ti_2 (List.mem_of_getElem? (i := 231) rfl)) rfl
theorem w_472 : Cond.fieldLink "java/lang/StringUTF16" 44 "java/lang/StringUTF16" "$assertionsDisabled" "Z" ∈ aW := aw_t (ti_2 (List.mem_of_getElem? (i := 232) rfl)) rfl
theorem w_474 : Cond.fieldLink "java/lang/StringUTF16" 59 "java/lang/StringUTF16" "HI_BYTE_SHIFT" "I" ∈ aW := aw_t (ti_2 (List.mem_of_getElem? (i := 234) rfl)) rfl
theorem w_476 : Cond.fieldLink "java/lang/StringUTF16" 63 "java/lang/StringUTF16" "LO_BYTE_SHIFT" "I" ∈ aW := aw_t (ti_2 (List.mem_of_getElem? (i := 236) rfl)) rfl
theorem w_478 : Cond.methodLink "java/lang/StringUTF16" 232 ⟨"java/lang/StringUTF16", "indexOfSupplementary", "([BIII)I"⟩ ∈ aW := aw_t (ti_2 (List.mem_of_getElem? (i := 238) rfl)) rfl
theorem w_479 : Cond.static ⟨"java/lang/StringUTF16", "indexOfSupplementary", "([BIII)I"⟩ ∈ aW := aw_t (ti_2 (List.mem_of_getElem? (i := 239) rfl)) rfl
theorem w_480 : Cond.code ⟨"java/lang/StringUTF16", "indexOfSupplementary", "([BIII)I"⟩ prog_18_method_49_code 7 (some .int) ∈ aW := aw_t (ti_3 (List.mem_of_getElem? (i := 0) rfl)) rfl
theorem w_481 : Cond.methodLink "java/lang/StringUTF16" 164 ⟨"java/lang/Character", "isValidCodePoint", "(I)Z"⟩ ∈ aW := aw_t (ti_3 (List.mem_of_getElem? (i := 1) rfl)) rfl
theorem w_482 : Cond.static ⟨"java/lang/Character", "isValidCodePoint", "(I)Z"⟩ ∈ aW := aw_t (ti_3 (List.mem_of_getElem? (i := 2) rfl)) rfl
theorem w_483 : Cond.code ⟨"java/lang/Character", "isValidCodePoint", "(I)Z"⟩ prog_9_method_11_code 2 (some .boolean) ∈ aW := aw_t (ti_3 (List.mem_of_getElem? (i := 3) rfl)) rfl
theorem w_484 : Cond.methodLink "java/lang/StringUTF16" 157 ⟨"java/lang/Character", "highSurrogate", "(I)C"⟩ ∈ aW := aw_t (ti_3 (List.mem_of_getElem? (i := 4) rfl)) rfl
theorem w_485 : Cond.static ⟨"java/lang/Character", "highSurrogate", "(I)C"⟩ ∈ aW := aw_t (ti_3 (List.mem_of_getElem? (i := 5) rfl)) rfl
theorem w_486 : Cond.code ⟨"java/lang/Character", "highSurrogate", "(I)C"⟩ prog_9_method_28_code 1 (some .char) ∈ aW := aw_t (ti_3 (List.mem_of_getElem? (i := 6) rfl)) rfl
theorem w_487 : Cond.constant "java/lang/Character" 110 55232 ∈ aW := aw_t (ti_3 (List.mem_of_getElem? (i := 7) rfl)) rfl
theorem w_488 : Cond.methodLink "java/lang/StringUTF16" 161 ⟨"java/lang/Character", "lowSurrogate", "(I)C"⟩ ∈ aW := aw_t (ti_3 (List.mem_of_getElem? (i := 8) rfl)) rfl
theorem w_489 : Cond.static ⟨"java/lang/Character", "lowSurrogate", "(I)C"⟩ ∈ aW := aw_t (ti_3 (List.mem_of_getElem? (i := 9) rfl)) rfl
theorem w_490 : Cond.code ⟨"java/lang/Character", "lowSurrogate", "(I)C"⟩ prog_9_method_29_code 1 (some .char) ∈ aW := aw_t (ti_3 (List.mem_of_getElem? (i := 10) rfl)) rfl
theorem w_491 : Cond.constant "java/lang/Character" 76 56320 ∈ aW := aw_t (ti_3 (List.mem_of_getElem? (i := 11) rfl)) rfl
theorem w_492 : Cond.methodLink RX2 183 yX2_addItem ∈ aW := aw_t (ti_3 (List.mem_of_getElem? (i := 12) rfl)) rfl
theorem w_494 : Cond.instanceMethod yX2_addItem ∈ aW := aw_t (ti_3 (List.mem_of_getElem? (i := 14) rfl)) rfl
theorem w_495 : Cond.code yX2_addItem cX2_addItem 2 none ∈ aW := aw_t (ti_3 (List.mem_of_getElem? (i := 15) rfl)) rfl
theorem w_496 : Cond.methodLink RX2 180 yX2_isItem ∈ aW := aw_t (ti_3 (List.mem_of_getElem? (i := 16) rfl)) rfl
theorem w_497 : Cond.static yX2_isItem ∈ aW := aw_t (ti_3 (List.mem_of_getElem? (i := 17) rfl)) rfl
theorem w_498 : Cond.code yX2_isItem cX2_isItem 1 (some .boolean) ∈ aW := aw_t (ti_3 (List.mem_of_getElem? (i := 18) rfl)) rfl
theorem w_499 : Cond.constantLong RX2 126 (-1) ∈ aW := aw_t (ti_3 (List.mem_of_getElem? (i := 19) rfl)) rfl
theorem w_500 : Cond.methodLink RX2 128 yX2_set ∈ aW := aw_t (ti_3 (List.mem_of_getElem? (i := 20) rfl)) rfl
theorem w_502 : Cond.instanceMethod yX2_set ∈ aW := aw_t (ti_3 (List.mem_of_getElem? (i := 22) rfl)) rfl
theorem w_503 : Cond.code yX2_set cX2_set 5 (some .int) ∈ aW := aw_t (ti_3 (List.mem_of_getElem? (i := 23) rfl)) rfl
theorem w_504 : Cond.methodLink RX2 123 yX2_escaped ∈ aW := aw_t (ti_3 (List.mem_of_getElem? (i := 24) rfl)) rfl
theorem w_506 : Cond.instanceMethod yX2_escaped ∈ aW := aw_t (ti_3 (List.mem_of_getElem? (i := 26) rfl)) rfl
theorem w_507 : Cond.code yX2_escaped cX2_escaped 2 (some .int) ∈ aW := aw_t (ti_3 (List.mem_of_getElem? (i := 27) rfl)) rfl
theorem w_508 : Cond.methodLink RX2 153 yX2_backReference ∈ aW := aw_t (ti_3 (List.mem_of_getElem? (i := 28) rfl)) rfl
theorem w_510 : Cond.instanceMethod yX2_backReference ∈ aW := aw_t (ti_3 (List.mem_of_getElem? (i := 30) rfl)) rfl
theorem w_511 : Cond.code yX2_backReference cX2_backReference 3 (some .int) ∈ aW := aw_t (ti_3 (List.mem_of_getElem? (i := 31) rfl)) rfl
theorem w_512 : Cond.constantLong RX2 163 4095 ∈ aW := aw_t (ti_3 (List.mem_of_getElem? (i := 32) rfl)) rfl
theorem w_514 : Cond.methodLink RX2 145 yX2_character ∈ aW := aw_t (ti_3 (List.mem_of_getElem? (i := 34) rfl)) rfl
theorem w_516 : Cond.instanceMethod yX2_character ∈ aW := aw_t (ti_3 (List.mem_of_getElem? (i := 36) rfl)) rfl
theorem w_517 : Cond.code yX2_character cX2_character 2 (some .int) ∈ aW := aw_t (ti_3 (List.mem_of_getElem? (i := 37) rfl)) rfl
theorem w_518 : Cond.methodLink RX2 80 yX2_readLoop ∈ aW := aw_t (ti_3 (List.mem_of_getElem? (i := 38) rfl)) rfl
theorem w_520 : Cond.instanceMethod yX2_readLoop ∈ aW := aw_t (ti_3 (List.mem_of_getElem? (i := 40) rfl)) rfl
theorem w_521 : Cond.code yX2_readLoop cX2_readLoop 2 (some .boolean) ∈ aW := aw_t (ti_3 (List.mem_of_getElem? (i := 41) rfl)) rfl
theorem w_522 : Cond.methodLink RX2 104 yX2_readCounts ∈ aW := aw_t (ti_3 (List.mem_of_getElem? (i := 42) rfl)) rfl
theorem w_524 : Cond.instanceMethod yX2_readCounts ∈ aW := aw_t (ti_3 (List.mem_of_getElem? (i := 44) rfl)) rfl
theorem w_525 : Cond.code yX2_readCounts cX2_readCounts 1 none ∈ aW := aw_t (ti_3 (List.mem_of_getElem? (i := 45) rfl)) rfl
theorem w_526 : Cond.methodLink RX2 110 yX2_count ∈ aW := aw_t (ti_3 (List.mem_of_getElem? (i := 46) rfl)) rfl
theorem w_528 : Cond.instanceMethod yX2_count ∈ aW := aw_t (ti_3 (List.mem_of_getElem? (i := 48) rfl)) rfl
theorem w_529 : Cond.code yX2_count cX2_count 2 (some .int) ∈ aW := aw_t (ti_3 (List.mem_of_getElem? (i := 49) rfl)) rfl
theorem w_530 : Cond.classLink RX5 70 "java/lang/IllegalArgumentException" ∈ aW := aw_t (ti_3 (List.mem_of_getElem? (i := 50) rfl)) rfl
theorem w_531 : Cond.instantiable "java/lang/IllegalArgumentException" 6 ∈ aW := aw_t (ti_3 (List.mem_of_getElem? (i := 51) rfl)) rfl
theorem w_539 : Cond.selects "java/lang/IllegalArgumentException" ⟨"java/lang/Throwable", "fillInStackTrace", "(I)Ljava/lang/Throwable;"⟩ ⟨"java/lang/Throwable", "fillInStackTrace", "(I)Ljava/lang/Throwable;"⟩ ∈ aW := aw_t (ti_3 (List.mem_of_getElem? (i := 59) rfl)) rfl
theorem w_540 : Cond.selects "java/lang/IllegalArgumentException" ⟨"java/lang/Throwable", "fillInStackTrace", "()Ljava/lang/Throwable;"⟩ ⟨"java/lang/Throwable", "fillInStackTrace", "()Ljava/lang/Throwable;"⟩ ∈ aW := aw_t (ti_3 (List.mem_of_getElem? (i := 60) rfl)) rfl
theorem w_541 : Cond.lays "java/lang/IllegalArgumentException" "java/lang/Throwable" "cause" "Ljava/lang/Throwable;" ∈ aW := aw_t (ti_3 (List.mem_of_getElem? (i := 61) rfl)) rfl
theorem w_542 : Cond.lays "java/lang/Throwable" "java/lang/Throwable" "cause" "Ljava/lang/Throwable;" ∈ aW := aw_t (ti_3 (List.mem_of_getElem? (i := 62) rfl)) rfl
theorem w_543 : Cond.lays "java/lang/IllegalArgumentException" "java/lang/Throwable" "stackTrace" "[Ljava/lang/StackTraceElement;" ∈ aW := aw_t (ti_3 (List.mem_of_getElem? (i := 63) rfl)) rfl
theorem w_544 : Cond.lays "java/lang/Throwable" "java/lang/Throwable" "stackTrace" "[Ljava/lang/StackTraceElement;" ∈ aW := aw_t (ti_3 (List.mem_of_getElem? (i := 64) rfl)) rfl
theorem w_545 : Cond.lays "java/lang/IllegalArgumentException" "java/lang/Throwable" "suppressedExceptions" "Ljava/util/List;" ∈ aW := aw_t (ti_3 (List.mem_of_getElem? (i := 65) rfl)) rfl
theorem w_546 : Cond.lays "java/lang/Throwable" "java/lang/Throwable" "suppressedExceptions" "Ljava/util/List;" ∈ aW := aw_t (ti_3 (List.mem_of_getElem? (i := 66) rfl)) rfl
theorem w_547 : Cond.lays "java/lang/IllegalArgumentException" "java/lang/Throwable" "detailMessage" "Ljava/lang/String;" ∈ aW := aw_t (ti_3 (List.mem_of_getElem? (i := 67) rfl)) rfl
theorem w_548 : Cond.lays "java/lang/Throwable" "java/lang/Throwable" "detailMessage" "Ljava/lang/String;" ∈ aW := aw_t (ti_3 (List.mem_of_getElem? (i := 68) rfl)) rfl
theorem w_549 : Cond.lays "java/lang/IllegalArgumentException" "java/lang/Throwable" "backtrace" "Ljava/lang/Object;" ∈ aW := aw_t (ti_3 (List.mem_of_getElem? (i := 69) rfl)) rfl
theorem w_550 : Cond.lays "java/lang/Throwable" "java/lang/Throwable" "backtrace" "Ljava/lang/Object;" ∈ aW := aw_t (ti_3 (List.mem_of_getElem? (i := 70) rfl)) rfl
theorem w_551 : Cond.fieldLink "java/lang/Throwable" 198 "java/lang/Throwable" "backtrace" "Ljava/lang/Object;" ∈ aW := aw_t (ti_3 (List.mem_of_getElem? (i := 71) rfl)) rfl
theorem w_553 : Cond.instanceMethod ⟨"java/lang/Throwable", "<init>", "()V"⟩ ∈ aW := aw_t (ti_3 (List.mem_of_getElem? (i := 73) rfl)) rfl
theorem w_554 : Cond.code ⟨"java/lang/Throwable", "<init>", "()V"⟩ prog_19_method_1_code 1 none ∈ aW := aw_t (ti_3 (List.mem_of_getElem? (i := 74) rfl)) rfl
theorem w_555 : Cond.methodLink "java/lang/Throwable" 1 objectInit ∈ aW := aw_t (ti_3 (List.mem_of_getElem? (i := 75) rfl)) rfl
theorem w_556 : Cond.fieldLink "java/lang/Throwable" 13 "java/lang/Throwable" "UNASSIGNED_STACK" "[Ljava/lang/StackTraceElement;" ∈ aW := aw_t (ti_3 (List.mem_of_getElem? (i := 76) rfl)) rfl
theorem w_558 : Cond.fieldLink "java/lang/Throwable" 20 "java/lang/Throwable" "SUPPRESSED_SENTINEL" "Ljava/util/List;" ∈ aW := aw_t (ti_3 (List.mem_of_getElem? (i := 78) rfl)) rfl
theorem w_560 : Cond.methodLink "java/lang/Throwable" 27 ⟨"java/lang/Throwable", "fillInStackTrace", "()Ljava/lang/Throwable;"⟩ ∈ aW := aw_t (ti_3 (List.mem_of_getElem? (i := 80) rfl)) rfl
theorem w_561 : Cond.instanceMethod ⟨"java/lang/Throwable", "fillInStackTrace", "()Ljava/lang/Throwable;"⟩ ∈ aW := aw_t (ti_3 (List.mem_of_getElem? (i := 81) rfl)) rfl
theorem w_563 : Cond.selects "java/lang/IllegalStateException" ⟨"java/lang/Throwable", "fillInStackTrace", "()Ljava/lang/Throwable;"⟩ ⟨"java/lang/Throwable", "fillInStackTrace", "()Ljava/lang/Throwable;"⟩ ∈ aW := aw_t (ti_3 (List.mem_of_getElem? (i := 83) rfl)) rfl
theorem w_564 : Cond.selects "java/lang/IndexOutOfBoundsException" ⟨"java/lang/Throwable", "fillInStackTrace", "()Ljava/lang/Throwable;"⟩ ⟨"java/lang/Throwable", "fillInStackTrace", "()Ljava/lang/Throwable;"⟩ ∈ aW := aw_t (ti_3 (List.mem_of_getElem? (i := 84) rfl)) rfl
theorem w_566 : Cond.methodLink "java/lang/Throwable" 202 ⟨"java/lang/Throwable", "fillInStackTrace", "(I)Ljava/lang/Throwable;"⟩ ∈ aW := aw_t (ti_3 (List.mem_of_getElem? (i := 86) rfl)) rfl
theorem w_568 : Cond.instanceMethod ⟨"java/lang/Throwable", "fillInStackTrace", "(I)Ljava/lang/Throwable;"⟩ ∈ aW := aw_t (ti_3 (List.mem_of_getElem? (i := 88) rfl)) rfl
theorem w_569 : Cond.instantiable "java/lang/Throwable" 6 ∈ aW := aw_t (ti_3 (List.mem_of_getElem? (i := 89) rfl)) rfl
theorem w_571 : Cond.methodLink RX5 72 ⟨"java/lang/IllegalArgumentException", "<init>", "()V"⟩ ∈ aW := aw_t (ti_3 (List.mem_of_getElem? (i := 91) rfl)) rfl
theorem w_572 : Cond.instanceMethod ⟨"java/lang/IllegalArgumentException", "<init>", "()V"⟩ ∈ aW := aw_t (ti_3 (List.mem_of_getElem? (i := 92) rfl)) rfl
theorem w_573 : Cond.code ⟨"java/lang/IllegalArgumentException", "<init>", "()V"⟩ prog_11_method_1_code 1 none ∈ aW := aw_t (ti_3 (List.mem_of_getElem? (i := 93) rfl)) rfl
theorem w_574 : Cond.methodLink "java/lang/IllegalArgumentException" 1 ⟨"java/lang/RuntimeException", "<init>", "()V"⟩ ∈ aW := aw_t (ti_3 (List.mem_of_getElem? (i := 94) rfl)) rfl
theorem w_575 : Cond.instanceMethod ⟨"java/lang/RuntimeException", "<init>", "()V"⟩ ∈ aW := aw_t (ti_3 (List.mem_of_getElem? (i := 95) rfl)) rfl
theorem w_576 : Cond.code ⟨"java/lang/RuntimeException", "<init>", "()V"⟩ prog_15_method_1_code 1 none ∈ aW := aw_t (ti_3 (List.mem_of_getElem? (i := 96) rfl)) rfl
theorem w_577 : Cond.methodLink "java/lang/RuntimeException" 1 ⟨"java/lang/Exception", "<init>", "()V"⟩ ∈ aW := aw_t (ti_3 (List.mem_of_getElem? (i := 97) rfl)) rfl
theorem w_578 : Cond.instanceMethod ⟨"java/lang/Exception", "<init>", "()V"⟩ ∈ aW := aw_t (ti_3 (List.mem_of_getElem? (i := 98) rfl)) rfl
theorem w_579 : Cond.code ⟨"java/lang/Exception", "<init>", "()V"⟩ prog_10_method_1_code 1 none ∈ aW := aw_t (ti_3 (List.mem_of_getElem? (i := 99) rfl)) rfl
theorem w_580 : Cond.methodLink "java/lang/Exception" 1 ⟨"java/lang/Throwable", "<init>", "()V"⟩ ∈ aW := aw_t (ti_3 (List.mem_of_getElem? (i := 100) rfl)) rfl
theorem w_582 : Cond.fieldLink "java/lang/Throwable" 7 "java/lang/Throwable" "cause" "Ljava/lang/Throwable;" ∈ aW := aw_t (ti_3 (List.mem_of_getElem? (i := 102) rfl)) rfl
theorem w_583 : Cond.fieldLink "java/lang/Throwable" 17 "java/lang/Throwable" "stackTrace" "[Ljava/lang/StackTraceElement;" ∈ aW := aw_t (ti_3 (List.mem_of_getElem? (i := 103) rfl)) rfl
theorem w_584 : Cond.fieldLink "java/lang/Throwable" 24 "java/lang/Throwable" "suppressedExceptions" "Ljava/util/List;" ∈ aW := aw_t (ti_3 (List.mem_of_getElem? (i := 104) rfl)) rfl
theorem w_589 : Cond.lays "java/lang/IllegalArgumentException" "java/lang/Throwable" "depth" "I" ∈ aW := aw_t (ti_3 (List.mem_of_getElem? (i := 109) rfl)) rfl
theorem w_593 : Cond.arrayClass .byte ∈ aW := aw_t (ti_3 (List.mem_of_getElem? (i := 113) rfl)) rfl
theorem w_594 : Cond.methodLink RL 73 yL_matches ∈ aW := aw_t (ti_3 (List.mem_of_getElem? (i := 114) rfl)) rfl
theorem w_595 : Cond.static yL_matches ∈ aW := aw_t (ti_3 (List.mem_of_getElem? (i := 115) rfl)) rfl
theorem w_596 : Cond.codeWith yL_matches cL_matches 3 (some .int) [(0, 15, 18, 19)] ∈ aW := aw_t (ti_3 (List.mem_of_getElem? (i := 116) rfl)) rfl
theorem w_597 : Cond.classLink RL 19 "java/lang/IllegalStateException" ∈ aW := aw_t (ti_3 (List.mem_of_getElem? (i := 117) rfl)) rfl
theorem w_598 : Cond.methodLink RL 15 yX5_matches ∈ aW := aw_t (ti_3 (List.mem_of_getElem? (i := 118) rfl)) rfl
theorem w_599 : Cond.instanceMethod yX5_matches ∈ aW := aw_t (ti_3 (List.mem_of_getElem? (i := 119) rfl)) rfl
theorem w_600 : Cond.selects RX5 yX5_matches yX5_matches ∈ aW := aw_t (ti_3 (List.mem_of_getElem? (i := 120) rfl)) rfl
theorem w_601 : Cond.code yX5_matches cX5_matches 1 (some .boolean) ∈ aW := aw_t (ti_3 (List.mem_of_getElem? (i := 121) rfl)) rfl
theorem w_602 : Cond.classLink RX5 87 "java/lang/IllegalStateException" ∈ aW := aw_t (ti_3 (List.mem_of_getElem? (i := 122) rfl)) rfl
theorem w_603 : Cond.instantiable "java/lang/IllegalStateException" 6 ∈ aW := aw_t (ti_3 (List.mem_of_getElem? (i := 123) rfl)) rfl
theorem w_605 : Cond.selects "java/lang/IllegalStateException" ⟨"java/lang/Throwable", "fillInStackTrace", "(I)Ljava/lang/Throwable;"⟩ ⟨"java/lang/Throwable", "fillInStackTrace", "(I)Ljava/lang/Throwable;"⟩ ∈ aW := aw_t (ti_3 (List.mem_of_getElem? (i := 125) rfl)) rfl
theorem w_606 : Cond.lays "java/lang/IllegalStateException" "java/lang/Throwable" "cause" "Ljava/lang/Throwable;" ∈ aW := aw_t (ti_3 (List.mem_of_getElem? (i := 126) rfl)) rfl
theorem w_607 : Cond.lays "java/lang/IllegalStateException" "java/lang/Throwable" "stackTrace" "[Ljava/lang/StackTraceElement;" ∈ aW := aw_t (ti_3 (List.mem_of_getElem? (i := 127) rfl)) rfl
theorem w_608 : Cond.lays "java/lang/IllegalStateException" "java/lang/Throwable" "suppressedExceptions" "Ljava/util/List;" ∈ aW := aw_t (ti_3 (List.mem_of_getElem? (i := 128) rfl)) rfl
theorem w_609 : Cond.lays "java/lang/IllegalStateException" "java/lang/Throwable" "detailMessage" "Ljava/lang/String;" ∈ aW := aw_t (ti_3 (List.mem_of_getElem? (i := 129) rfl)) rfl
theorem w_610 : Cond.lays "java/lang/IllegalStateException" "java/lang/Throwable" "backtrace" "Ljava/lang/Object;" ∈ aW := aw_t (ti_3 (List.mem_of_getElem? (i := 130) rfl)) rfl
theorem w_611 : Cond.methodLink RX5 89 ⟨"java/lang/IllegalStateException", "<init>", "()V"⟩ ∈ aW := aw_t (ti_3 (List.mem_of_getElem? (i := 131) rfl)) rfl
theorem w_612 : Cond.instanceMethod ⟨"java/lang/IllegalStateException", "<init>", "()V"⟩ ∈ aW := aw_t (ti_3 (List.mem_of_getElem? (i := 132) rfl)) rfl
theorem w_613 : Cond.code ⟨"java/lang/IllegalStateException", "<init>", "()V"⟩ prog_12_method_1_code 1 none ∈ aW := aw_t (ti_3 (List.mem_of_getElem? (i := 133) rfl)) rfl
theorem w_614 : Cond.methodLink "java/lang/IllegalStateException" 1 ⟨"java/lang/RuntimeException", "<init>", "()V"⟩ ∈ aW := aw_t (ti_3 (List.mem_of_getElem? (i := 134) rfl)) rfl
theorem w_615 : Cond.lays "java/lang/IllegalStateException" "java/lang/Throwable" "depth" "I" ∈ aW := aw_t (ti_3 (List.mem_of_getElem? (i := 135) rfl)) rfl
theorem w_617 : Cond.methodLink RX5 94 yX5_match ∈ aW := aw_t (ti_3 (List.mem_of_getElem? (i := 137) rfl)) rfl
theorem w_619 : Cond.instanceMethod yX5_match ∈ aW := aw_t (ti_3 (List.mem_of_getElem? (i := 139) rfl)) rfl
theorem w_620 : Cond.code yX5_match cX5_match 5 (some .boolean) ∈ aW := aw_t (ti_3 (List.mem_of_getElem? (i := 140) rfl)) rfl
theorem w_621 : Cond.methodLink RX5 143 yX4_openSearch ∈ aW := aw_t (ti_3 (List.mem_of_getElem? (i := 141) rfl)) rfl
theorem w_622 : Cond.instanceMethod yX4_openSearch ∈ aW := aw_t (ti_3 (List.mem_of_getElem? (i := 142) rfl)) rfl
theorem w_623 : Cond.selects RX4 yX4_openSearch yX4_openSearch ∈ aW := aw_t (ti_3 (List.mem_of_getElem? (i := 143) rfl)) rfl
theorem w_624 : Cond.code yX4_openSearch cX4_openSearch 2 none ∈ aW := aw_t (ti_3 (List.mem_of_getElem? (i := 144) rfl)) rfl
theorem w_625 : Cond.methodLink RX5 146 yX4_firstWay ∈ aW := aw_t (ti_3 (List.mem_of_getElem? (i := 145) rfl)) rfl
theorem w_626 : Cond.instanceMethod yX4_firstWay ∈ aW := aw_t (ti_3 (List.mem_of_getElem? (i := 146) rfl)) rfl
theorem w_627 : Cond.selects RX4 yX4_firstWay yX4_firstWay ∈ aW := aw_t (ti_3 (List.mem_of_getElem? (i := 147) rfl)) rfl
theorem w_628 : Cond.code yX4_firstWay cX4_firstWay 3 (some .boolean) ∈ aW := aw_t (ti_3 (List.mem_of_getElem? (i := 148) rfl)) rfl
theorem w_629 : Cond.constantLong RX4 54 17527745802495 ∈ aW := aw_t (ti_3 (List.mem_of_getElem? (i := 149) rfl)) rfl
theorem w_630 : Cond.methodLink RX4 63 yX4_run ∈ aW := aw_t (ti_3 (List.mem_of_getElem? (i := 150) rfl)) rfl
theorem w_632 : Cond.instanceMethod yX4_run ∈ aW := aw_t (ti_3 (List.mem_of_getElem? (i := 152) rfl)) rfl
theorem w_633 : Cond.code yX4_run cX4_run 8 (some .boolean) ∈ aW := aw_t (ti_3 (List.mem_of_getElem? (i := 153) rfl)) rfl
theorem w_634 : Cond.constant RX4 73 10000000 ∈ aW := aw_t (ti_3 (List.mem_of_getElem? (i := 154) rfl)) rfl
theorem w_635 : Cond.methodLink RX4 74 yX4_takeWaiting ∈ aW := aw_t (ti_3 (List.mem_of_getElem? (i := 155) rfl)) rfl
theorem w_637 : Cond.instanceMethod yX4_takeWaiting ∈ aW := aw_t (ti_3 (List.mem_of_getElem? (i := 157) rfl)) rfl
theorem w_638 : Cond.code yX4_takeWaiting cX4_takeWaiting 2 none ∈ aW := aw_t (ti_3 (List.mem_of_getElem? (i := 158) rfl)) rfl
theorem w_639 : Cond.constant RX4 190 1048575 ∈ aW := aw_t (ti_3 (List.mem_of_getElem? (i := 159) rfl)) rfl
theorem w_640 : Cond.methodLink RX4 77 yX1_node ∈ aW := aw_t (ti_3 (List.mem_of_getElem? (i := 160) rfl)) rfl
theorem w_641 : Cond.methodLink RX4 85 yX4_step ∈ aW := aw_t (ti_3 (List.mem_of_getElem? (i := 161) rfl)) rfl
theorem w_643 : Cond.instanceMethod yX4_step ∈ aW := aw_t (ti_3 (List.mem_of_getElem? (i := 163) rfl)) rfl
theorem w_644 : Cond.code yX4_step cX4_step 3 (some .boolean) ∈ aW := aw_t (ti_3 (List.mem_of_getElem? (i := 164) rfl)) rfl
theorem w_645 : Cond.methodLink RX4 92 yX4_takeCharacter ∈ aW := aw_t (ti_3 (List.mem_of_getElem? (i := 165) rfl)) rfl
theorem w_647 : Cond.instanceMethod yX4_takeCharacter ∈ aW := aw_t (ti_3 (List.mem_of_getElem? (i := 167) rfl)) rfl
theorem w_648 : Cond.code yX4_takeCharacter cX4_takeCharacter 2 (some .boolean) ∈ aW := aw_t (ti_3 (List.mem_of_getElem? (i := 168) rfl)) rfl
theorem w_649 : Cond.methodLink RX4 96 yX3_size ∈ aW := aw_t (ti_3 (List.mem_of_getElem? (i := 169) rfl)) rfl
theorem w_650 : Cond.methodLink RX4 144 yX3_at ∈ aW := aw_t (ti_3 (List.mem_of_getElem? (i := 170) rfl)) rfl
theorem w_651 : Cond.methodLinkNest RX4 154 yX5_isIn "PatternMatcher" ∈ nxW := List.mem_filter.mpr ⟨ti_3 (List.mem_of_getElem? (i := 171) rfl), rfl⟩
theorem w_652 : Cond.static yX5_isIn ∈ aW := aw_t (ti_3 (List.mem_of_getElem? (i := 172) rfl)) rfl
theorem w_653 : Cond.code yX5_isIn cX5_isIn 7 (some .boolean) ∈ aW := aw_t (ti_3 (List.mem_of_getElem? (i := 173) rfl)) rfl
theorem w_654 : Cond.methodLink RX4 158 yX4_moveTo ∈ aW := aw_t (ti_3 (List.mem_of_getElem? (i := 174) rfl)) rfl
theorem w_656 : Cond.instanceMethod yX4_moveTo ∈ aW := aw_t (ti_3 (List.mem_of_getElem? (i := 176) rfl)) rfl
theorem w_657 : Cond.code yX4_moveTo cX4_moveTo 2 none ∈ aW := aw_t (ti_3 (List.mem_of_getElem? (i := 177) rfl)) rfl
theorem w_658 : Cond.constant RX4 165 559240 ∈ aW := aw_t (ti_3 (List.mem_of_getElem? (i := 178) rfl)) rfl
theorem w_659 : Cond.methodLink RX4 100 yX4_isEdge ∈ aW := aw_t (ti_3 (List.mem_of_getElem? (i := 179) rfl)) rfl
theorem w_661 : Cond.instanceMethod yX4_isEdge ∈ aW := aw_t (ti_3 (List.mem_of_getElem? (i := 181) rfl)) rfl
theorem w_662 : Cond.code yX4_isEdge cX4_isEdge 1 (some .boolean) ∈ aW := aw_t (ti_3 (List.mem_of_getElem? (i := 182) rfl)) rfl
theorem w_663 : Cond.methodLink RX4 166 yX4_isWord ∈ aW := aw_t (ti_3 (List.mem_of_getElem? (i := 183) rfl)) rfl
theorem w_664 : Cond.static yX4_isWord ∈ aW := aw_t (ti_3 (List.mem_of_getElem? (i := 184) rfl)) rfl
theorem w_665 : Cond.code yX4_isWord cX4_isWord 1 (some .boolean) ∈ aW := aw_t (ti_3 (List.mem_of_getElem? (i := 185) rfl)) rfl
theorem w_666 : Cond.constantLong RX4 170 287948901175001088 ∈ aW := aw_t (ti_3 (List.mem_of_getElem? (i := 186) rfl)) rfl
theorem w_667 : Cond.constantLong RX4 172 576460745995190270 ∈ aW := aw_t (ti_3 (List.mem_of_getElem? (i := 187) rfl)) rfl
theorem w_668 : Cond.methodLink RX4 107 yX4_takeSpanAgain ∈ aW := aw_t (ti_3 (List.mem_of_getElem? (i := 188) rfl)) rfl
theorem w_670 : Cond.instanceMethod yX4_takeSpanAgain ∈ aW := aw_t (ti_3 (List.mem_of_getElem? (i := 190) rfl)) rfl
theorem w_671 : Cond.code yX4_takeSpanAgain cX4_takeSpanAgain 5 (some .boolean) ∈ aW := aw_t (ti_3 (List.mem_of_getElem? (i := 191) rfl)) rfl
theorem w_672 : Cond.methodLinkNest RX4 161 yX5_spanPlace "PatternMatcher" ∈ nxW := List.mem_filter.mpr ⟨ti_3 (List.mem_of_getElem? (i := 192) rfl), rfl⟩
theorem w_673 : Cond.static yX5_spanPlace ∈ aW := aw_t (ti_3 (List.mem_of_getElem? (i := 193) rfl)) rfl
theorem w_674 : Cond.code yX5_spanPlace cX5_spanPlace 5 (some .int) ∈ aW := aw_t (ti_3 (List.mem_of_getElem? (i := 194) rfl)) rfl
theorem w_675 : Cond.methodLinkNest RX4 111 yX5_spanOpened "PatternMatcher" ∈ nxW := List.mem_filter.mpr ⟨ti_3 (List.mem_of_getElem? (i := 195) rfl), rfl⟩
theorem w_676 : Cond.static yX5_spanOpened ∈ aW := aw_t (ti_3 (List.mem_of_getElem? (i := 196) rfl)) rfl
theorem w_677 : Cond.code yX5_spanOpened cX5_spanOpened 5 (some .long) ∈ aW := aw_t (ti_3 (List.mem_of_getElem? (i := 197) rfl)) rfl
theorem w_678 : Cond.constantLong RX5 167 15 ∈ aW := aw_t (ti_3 (List.mem_of_getElem? (i := 198) rfl)) rfl
theorem w_679 : Cond.constantLong RX5 169 (-1) ∈ aW := aw_t (ti_3 (List.mem_of_getElem? (i := 199) rfl)) rfl
theorem w_680 : Cond.methodLinkNest RX4 115 yX5_spanClosed "PatternMatcher" ∈ nxW := List.mem_filter.mpr ⟨ti_3 (List.mem_of_getElem? (i := 200) rfl), rfl⟩
theorem w_681 : Cond.static yX5_spanClosed ∈ aW := aw_t (ti_3 (List.mem_of_getElem? (i := 201) rfl)) rfl
theorem w_682 : Cond.code yX5_spanClosed cX5_spanClosed 7 (some .long) ∈ aW := aw_t (ti_3 (List.mem_of_getElem? (i := 202) rfl)) rfl
theorem w_683 : Cond.methodLink RX5 160 yX5_spanPlace ∈ aW := aw_t (ti_3 (List.mem_of_getElem? (i := 203) rfl)) rfl
theorem w_684 : Cond.constantLong RX5 171 4095 ∈ aW := aw_t (ti_3 (List.mem_of_getElem? (i := 204) rfl)) rfl
theorem w_685 : Cond.methodLink RX4 121 yX4_letWait ∈ aW := aw_t (ti_3 (List.mem_of_getElem? (i := 205) rfl)) rfl
theorem w_687 : Cond.instanceMethod yX4_letWait ∈ aW := aw_t (ti_3 (List.mem_of_getElem? (i := 207) rfl)) rfl
theorem w_688 : Cond.code yX4_letWait cX4_letWait 3 (some .boolean) ∈ aW := aw_t (ti_3 (List.mem_of_getElem? (i := 208) rfl)) rfl
theorem w_689 : Cond.methodLink RX4 187 yX4_packed ∈ aW := aw_t (ti_3 (List.mem_of_getElem? (i := 209) rfl)) rfl
theorem w_691 : Cond.instanceMethod yX4_packed ∈ aW := aw_t (ti_3 (List.mem_of_getElem? (i := 211) rfl)) rfl
theorem w_692 : Cond.code yX4_packed cX4_packed 3 (some .int) ∈ aW := aw_t (ti_3 (List.mem_of_getElem? (i := 212) rfl)) rfl
theorem w_693 : Cond.methodLink RX4 128 yX4_withLoop ∈ aW := aw_t (ti_3 (List.mem_of_getElem? (i := 213) rfl)) rfl
theorem w_695 : Cond.instanceMethod yX4_withLoop ∈ aW := aw_t (ti_3 (List.mem_of_getElem? (i := 215) rfl)) rfl
theorem w_696 : Cond.code yX4_withLoop cX4_withLoop 4 (some .int) ∈ aW := aw_t (ti_3 (List.mem_of_getElem? (i := 216) rfl)) rfl
theorem w_697 : Cond.methodLink RX4 132 yX4_wasHere ∈ aW := aw_t (ti_3 (List.mem_of_getElem? (i := 217) rfl)) rfl
theorem w_699 : Cond.instanceMethod yX4_wasHere ∈ aW := aw_t (ti_3 (List.mem_of_getElem? (i := 219) rfl)) rfl
theorem w_700 : Cond.code yX4_wasHere cX4_wasHere 12 (some .boolean) ∈ aW := aw_t (ti_3 (List.mem_of_getElem? (i := 220) rfl)) rfl
theorem w_701 : Cond.constantLong RX4 197 31 ∈ aW := aw_t (ti_3 (List.mem_of_getElem? (i := 221) rfl)) rfl
theorem w_702 : Cond.constantLong RX4 199 (-7046029254386353131) ∈ aW := aw_t (ti_3 (List.mem_of_getElem? (i := 222) rfl)) rfl
theorem w_703 : Cond.methodLink RX4 201 yX4_isOver ∈ aW := aw_t (ti_3 (List.mem_of_getElem? (i := 223) rfl)) rfl
theorem w_705 : Cond.instanceMethod yX4_isOver ∈ aW := aw_t (ti_3 (List.mem_of_getElem? (i := 225) rfl)) rfl
theorem w_706 : Cond.code yX4_isOver cX4_isOver 4 (some .boolean) ∈ aW := aw_t (ti_3 (List.mem_of_getElem? (i := 226) rfl)) rfl
theorem w_707 : Cond.methodLink RX4 135 yX4_loop ∈ aW := aw_t (ti_3 (List.mem_of_getElem? (i := 227) rfl)) rfl
theorem w_709 : Cond.instanceMethod yX4_loop ∈ aW := aw_t (ti_3 (List.mem_of_getElem? (i := 229) rfl)) rfl
theorem w_710 : Cond.code yX4_loop cX4_loop 7 (some .boolean) ∈ aW := aw_t (ti_3 (List.mem_of_getElem? (i := 230) rfl)) rfl
theorem w_711 : Cond.methodLink RX4 180 yX4_goTo ∈ aW := aw_t (ti_3 (List.mem_of_getElem? (i := 231) rfl)) rfl
theorem w_713 : Cond.instanceMethod yX4_goTo ∈ aW := aw_t (ti_3 (List.mem_of_getElem? (i := 233) rfl)) rfl
theorem w_714 : Cond.code yX4_goTo cX4_goTo 3 (some .boolean) ∈ aW := aw_t (ti_3 (List.mem_of_getElem? (i := 234) rfl)) rfl
theorem w_715 : Cond.methodLink RX4 138 yX4_look ∈ aW := aw_t (ti_3 (List.mem_of_getElem? (i := 235) rfl)) rfl
theorem w_717 : Cond.instanceMethod yX4_look ∈ aW := aw_t (ti_3 (List.mem_of_getElem? (i := 237) rfl)) rfl
theorem w_718 : Cond.code yX4_look cX4_look 8 (some .boolean) ∈ aW := aw_t (ti_3 (List.mem_of_getElem? (i := 238) rfl)) rfl
theorem w_719 : Cond.methodLink RX4 204 yX4_openSearch ∈ aW := aw_t (ti_3 (List.mem_of_getElem? (i := 239) rfl)) rfl
theorem w_720 : Cond.methodLink RX4 210 yX4_lookBehind ∈ aW := aw_t (ti_4 (List.mem_of_getElem? (i := 0) rfl)) rfl
theorem w_722 : Cond.instanceMethod yX4_lookBehind ∈ aW := aw_t (ti_4 (List.mem_of_getElem? (i := 2) rfl)) rfl
theorem w_723 : Cond.code yX4_lookBehind cX4_lookBehind 7 (some .boolean) ∈ aW := aw_t (ti_4 (List.mem_of_getElem? (i := 3) rfl)) rfl
theorem w_724 : Cond.methodLink RX4 141 yX4_atomic ∈ aW := aw_t (ti_4 (List.mem_of_getElem? (i := 4) rfl)) rfl
theorem w_726 : Cond.instanceMethod yX4_atomic ∈ aW := aw_t (ti_4 (List.mem_of_getElem? (i := 6) rfl)) rfl
theorem w_727 : Cond.code yX4_atomic cX4_atomic 7 (some .boolean) ∈ aW := aw_t (ti_4 (List.mem_of_getElem? (i := 7) rfl)) rfl
theorem w_728 : Cond.methodLink RL 76 yL_looking ∈ aW := aw_t (ti_4 (List.mem_of_getElem? (i := 8) rfl)) rfl
theorem w_729 : Cond.static yL_looking ∈ aW := aw_t (ti_4 (List.mem_of_getElem? (i := 9) rfl)) rfl
theorem w_730 : Cond.codeWith yL_looking cL_looking 3 (some .int) [(0, 15, 18, 19)] ∈ aW := aw_t (ti_4 (List.mem_of_getElem? (i := 10) rfl)) rfl
theorem w_731 : Cond.methodLink RL 21 yX5_looking ∈ aW := aw_t (ti_4 (List.mem_of_getElem? (i := 11) rfl)) rfl
theorem w_732 : Cond.instanceMethod yX5_looking ∈ aW := aw_t (ti_4 (List.mem_of_getElem? (i := 12) rfl)) rfl
theorem w_733 : Cond.selects RX5 yX5_looking yX5_looking ∈ aW := aw_t (ti_4 (List.mem_of_getElem? (i := 13) rfl)) rfl
theorem w_734 : Cond.code yX5_looking cX5_looking 1 (some .boolean) ∈ aW := aw_t (ti_4 (List.mem_of_getElem? (i := 14) rfl)) rfl
theorem w_735 : Cond.methodLink RL 79 yL_find ∈ aW := aw_t (ti_4 (List.mem_of_getElem? (i := 15) rfl)) rfl
theorem w_736 : Cond.static yL_find ∈ aW := aw_t (ti_4 (List.mem_of_getElem? (i := 16) rfl)) rfl
theorem w_737 : Cond.codeWith yL_find cL_find 4 (some .int) [(0, 9, 12, 28), (0, 9, 15, 19)] ∈ aW := aw_t (ti_4 (List.mem_of_getElem? (i := 17) rfl)) rfl
theorem w_738 : Cond.classLink RL 28 "java/lang/IndexOutOfBoundsException" ∈ aW := aw_t (ti_4 (List.mem_of_getElem? (i := 18) rfl)) rfl
theorem w_739 : Cond.methodLink RL 24 yX5_find ∈ aW := aw_t (ti_4 (List.mem_of_getElem? (i := 19) rfl)) rfl
theorem w_740 : Cond.instanceMethod yX5_find ∈ aW := aw_t (ti_4 (List.mem_of_getElem? (i := 20) rfl)) rfl
theorem w_741 : Cond.selects RX5 yX5_find yX5_find ∈ aW := aw_t (ti_4 (List.mem_of_getElem? (i := 21) rfl)) rfl
theorem w_742 : Cond.code yX5_find cX5_find 2 (some .int) ∈ aW := aw_t (ti_4 (List.mem_of_getElem? (i := 22) rfl)) rfl
theorem w_743 : Cond.classLink RX5 98 "java/lang/IndexOutOfBoundsException" ∈ aW := aw_t (ti_4 (List.mem_of_getElem? (i := 23) rfl)) rfl
theorem w_744 : Cond.instantiable "java/lang/IndexOutOfBoundsException" 6 ∈ aW := aw_t (ti_4 (List.mem_of_getElem? (i := 24) rfl)) rfl
theorem w_746 : Cond.selects "java/lang/IndexOutOfBoundsException" ⟨"java/lang/Throwable", "fillInStackTrace", "(I)Ljava/lang/Throwable;"⟩ ⟨"java/lang/Throwable", "fillInStackTrace", "(I)Ljava/lang/Throwable;"⟩ ∈ aW := aw_t (ti_4 (List.mem_of_getElem? (i := 26) rfl)) rfl
theorem w_747 : Cond.lays "java/lang/IndexOutOfBoundsException" "java/lang/Throwable" "cause" "Ljava/lang/Throwable;" ∈ aW := aw_t (ti_4 (List.mem_of_getElem? (i := 27) rfl)) rfl
theorem w_748 : Cond.lays "java/lang/IndexOutOfBoundsException" "java/lang/Throwable" "stackTrace" "[Ljava/lang/StackTraceElement;" ∈ aW := aw_t (ti_4 (List.mem_of_getElem? (i := 28) rfl)) rfl
theorem w_749 : Cond.lays "java/lang/IndexOutOfBoundsException" "java/lang/Throwable" "suppressedExceptions" "Ljava/util/List;" ∈ aW := aw_t (ti_4 (List.mem_of_getElem? (i := 29) rfl)) rfl
theorem w_750 : Cond.lays "java/lang/IndexOutOfBoundsException" "java/lang/Throwable" "detailMessage" "Ljava/lang/String;" ∈ aW := aw_t (ti_4 (List.mem_of_getElem? (i := 30) rfl)) rfl
theorem w_751 : Cond.lays "java/lang/IndexOutOfBoundsException" "java/lang/Throwable" "backtrace" "Ljava/lang/Object;" ∈ aW := aw_t (ti_4 (List.mem_of_getElem? (i := 31) rfl)) rfl
theorem w_752 : Cond.methodLink RX5 100 ⟨"java/lang/IndexOutOfBoundsException", "<init>", "()V"⟩ ∈ aW := aw_t (ti_4 (List.mem_of_getElem? (i := 32) rfl)) rfl
theorem w_753 : Cond.instanceMethod ⟨"java/lang/IndexOutOfBoundsException", "<init>", "()V"⟩ ∈ aW := aw_t (ti_4 (List.mem_of_getElem? (i := 33) rfl)) rfl
theorem w_754 : Cond.code ⟨"java/lang/IndexOutOfBoundsException", "<init>", "()V"⟩ prog_13_method_1_code 1 none ∈ aW := aw_t (ti_4 (List.mem_of_getElem? (i := 34) rfl)) rfl
theorem w_755 : Cond.methodLink "java/lang/IndexOutOfBoundsException" 1 ⟨"java/lang/RuntimeException", "<init>", "()V"⟩ ∈ aW := aw_t (ti_4 (List.mem_of_getElem? (i := 35) rfl)) rfl
theorem w_756 : Cond.lays "java/lang/IndexOutOfBoundsException" "java/lang/Throwable" "depth" "I" ∈ aW := aw_t (ti_4 (List.mem_of_getElem? (i := 36) rfl)) rfl
theorem w_758 : Cond.methodLink RL 83 yL_start ∈ aW := aw_t (ti_4 (List.mem_of_getElem? (i := 38) rfl)) rfl
theorem w_759 : Cond.static yL_start ∈ aW := aw_t (ti_4 (List.mem_of_getElem? (i := 39) rfl)) rfl
theorem w_760 : Cond.codeWith yL_start cL_start 4 (some .int) [(0, 9, 12, 19), (0, 9, 15, 28)] ∈ aW := aw_t (ti_4 (List.mem_of_getElem? (i := 40) rfl)) rfl
theorem w_761 : Cond.methodLink RL 30 yX5_start ∈ aW := aw_t (ti_4 (List.mem_of_getElem? (i := 41) rfl)) rfl
theorem w_762 : Cond.instanceMethod yX5_start ∈ aW := aw_t (ti_4 (List.mem_of_getElem? (i := 42) rfl)) rfl
theorem w_763 : Cond.selects RX5 yX5_start yX5_start ∈ aW := aw_t (ti_4 (List.mem_of_getElem? (i := 43) rfl)) rfl
theorem w_764 : Cond.code yX5_start cX5_start 2 (some .int) ∈ aW := aw_t (ti_4 (List.mem_of_getElem? (i := 44) rfl)) rfl
theorem w_765 : Cond.methodLink RX5 104 yX5_isGroup ∈ aW := aw_t (ti_4 (List.mem_of_getElem? (i := 45) rfl)) rfl
theorem w_767 : Cond.instanceMethod yX5_isGroup ∈ aW := aw_t (ti_4 (List.mem_of_getElem? (i := 47) rfl)) rfl
theorem w_768 : Cond.code yX5_isGroup cX5_isGroup 2 (some .boolean) ∈ aW := aw_t (ti_4 (List.mem_of_getElem? (i := 48) rfl)) rfl
theorem w_769 : Cond.methodLink RX5 107 yX5_groupFrom ∈ aW := aw_t (ti_4 (List.mem_of_getElem? (i := 49) rfl)) rfl
theorem w_771 : Cond.instanceMethod yX5_groupFrom ∈ aW := aw_t (ti_4 (List.mem_of_getElem? (i := 51) rfl)) rfl
theorem w_772 : Cond.code yX5_groupFrom cX5_groupFrom 2 (some .int) ∈ aW := aw_t (ti_4 (List.mem_of_getElem? (i := 52) rfl)) rfl
theorem w_773 : Cond.methodLink RL 86 yL_end ∈ aW := aw_t (ti_4 (List.mem_of_getElem? (i := 53) rfl)) rfl
theorem w_774 : Cond.static yL_end ∈ aW := aw_t (ti_4 (List.mem_of_getElem? (i := 54) rfl)) rfl
theorem w_775 : Cond.codeWith yL_end cL_end 4 (some .int) [(0, 9, 12, 19), (0, 9, 15, 28)] ∈ aW := aw_t (ti_4 (List.mem_of_getElem? (i := 55) rfl)) rfl
theorem w_776 : Cond.methodLink RL 33 yX5_end ∈ aW := aw_t (ti_4 (List.mem_of_getElem? (i := 56) rfl)) rfl
theorem w_777 : Cond.instanceMethod yX5_end ∈ aW := aw_t (ti_4 (List.mem_of_getElem? (i := 57) rfl)) rfl
theorem w_778 : Cond.selects RX5 yX5_end yX5_end ∈ aW := aw_t (ti_4 (List.mem_of_getElem? (i := 58) rfl)) rfl
theorem w_779 : Cond.code yX5_end cX5_end 2 (some .int) ∈ aW := aw_t (ti_4 (List.mem_of_getElem? (i := 59) rfl)) rfl
theorem w_780 : Cond.methodLink RX5 111 yX5_groupTo ∈ aW := aw_t (ti_4 (List.mem_of_getElem? (i := 60) rfl)) rfl
theorem w_782 : Cond.instanceMethod yX5_groupTo ∈ aW := aw_t (ti_4 (List.mem_of_getElem? (i := 62) rfl)) rfl
theorem w_783 : Cond.code yX5_groupTo cX5_groupTo 2 (some .int) ∈ aW := aw_t (ti_4 (List.mem_of_getElem? (i := 63) rfl)) rfl
theorem w_784 : Cond.methodLink RL 89 yL_replace ∈ aW := aw_t (ti_4 (List.mem_of_getElem? (i := 64) rfl)) rfl
theorem w_785 : Cond.static yL_replace ∈ aW := aw_t (ti_4 (List.mem_of_getElem? (i := 65) rfl)) rfl
theorem w_786 : Cond.codeWith yL_replace cL_replace 3 (some .int) [(0, 8, 11, 19), (0, 8, 14, 13), (0, 8, 17, 28)] ∈ aW := aw_t (ti_4 (List.mem_of_getElem? (i := 66) rfl)) rfl
theorem w_787 : Cond.methodLink RL 36 yX5_replace ∈ aW := aw_t (ti_4 (List.mem_of_getElem? (i := 67) rfl)) rfl
theorem w_788 : Cond.instanceMethod yX5_replace ∈ aW := aw_t (ti_4 (List.mem_of_getElem? (i := 68) rfl)) rfl
theorem w_789 : Cond.selects RX5 yX5_replace yX5_replace ∈ aW := aw_t (ti_4 (List.mem_of_getElem? (i := 69) rfl)) rfl
theorem w_790 : Cond.code yX5_replace cX5_replace 5 (some .int) ∈ aW := aw_t (ti_4 (List.mem_of_getElem? (i := 70) rfl)) rfl
theorem w_791 : Cond.methodLink RX5 114 yX5_templateFault ∈ aW := aw_t (ti_4 (List.mem_of_getElem? (i := 71) rfl)) rfl
theorem w_793 : Cond.instanceMethod yX5_templateFault ∈ aW := aw_t (ti_4 (List.mem_of_getElem? (i := 73) rfl)) rfl
theorem w_794 : Cond.code yX5_templateFault cX5_templateFault 6 (some .int) ∈ aW := aw_t (ti_4 (List.mem_of_getElem? (i := 74) rfl)) rfl
theorem w_795 : Cond.methodLink RX5 130 yX3_at ∈ aW := aw_t (ti_4 (List.mem_of_getElem? (i := 75) rfl)) rfl
theorem w_796 : Cond.methodLink RX5 164 yX5_isDigit ∈ aW := aw_t (ti_4 (List.mem_of_getElem? (i := 76) rfl)) rfl
theorem w_797 : Cond.static yX5_isDigit ∈ aW := aw_t (ti_4 (List.mem_of_getElem? (i := 77) rfl)) rfl
theorem w_798 : Cond.code yX5_isDigit cX5_isDigit 1 (some .boolean) ∈ aW := aw_t (ti_4 (List.mem_of_getElem? (i := 78) rfl)) rfl
theorem w_799 : Cond.methodLink RX5 117 yX5_makeFromText ∈ aW := aw_t (ti_4 (List.mem_of_getElem? (i := 79) rfl)) rfl
theorem w_801 : Cond.instanceMethod yX5_makeFromText ∈ aW := aw_t (ti_4 (List.mem_of_getElem? (i := 81) rfl)) rfl
theorem w_802 : Cond.code yX5_makeFromText cX5_makeFromText 4 none ∈ aW := aw_t (ti_4 (List.mem_of_getElem? (i := 82) rfl)) rfl
theorem w_803 : Cond.methodLink RX5 121 yX5_makeFromTemplate ∈ aW := aw_t (ti_4 (List.mem_of_getElem? (i := 83) rfl)) rfl
theorem w_805 : Cond.instanceMethod yX5_makeFromTemplate ∈ aW := aw_t (ti_4 (List.mem_of_getElem? (i := 85) rfl)) rfl
theorem w_806 : Cond.code yX5_makeFromTemplate cX5_makeFromTemplate 5 none ∈ aW := aw_t (ti_4 (List.mem_of_getElem? (i := 86) rfl)) rfl
theorem w_807 : Cond.methodLink RX5 127 yX5_placeAfterMatch ∈ aW := aw_t (ti_4 (List.mem_of_getElem? (i := 87) rfl)) rfl
theorem w_809 : Cond.instanceMethod yX5_placeAfterMatch ∈ aW := aw_t (ti_4 (List.mem_of_getElem? (i := 89) rfl)) rfl
theorem w_810 : Cond.code yX5_placeAfterMatch cX5_placeAfterMatch 1 (some .int) ∈ aW := aw_t (ti_4 (List.mem_of_getElem? (i := 90) rfl)) rfl
theorem w_811 : Cond.methodLink RL 92 yL_replaced ∈ aW := aw_t (ti_4 (List.mem_of_getElem? (i := 91) rfl)) rfl
theorem w_812 : Cond.static yL_replaced ∈ aW := aw_t (ti_4 (List.mem_of_getElem? (i := 92) rfl)) rfl
theorem w_813 : Cond.codeWith yL_replaced cL_replaced 4 (some .int) [(0, 9, 12, 28)] ∈ aW := aw_t (ti_4 (List.mem_of_getElem? (i := 93) rfl)) rfl
theorem w_814 : Cond.methodLink RL 39 yX5_replaced ∈ aW := aw_t (ti_4 (List.mem_of_getElem? (i := 94) rfl)) rfl
theorem w_815 : Cond.instanceMethod yX5_replaced ∈ aW := aw_t (ti_4 (List.mem_of_getElem? (i := 95) rfl)) rfl
theorem w_816 : Cond.selects RX5 yX5_replaced yX5_replaced ∈ aW := aw_t (ti_4 (List.mem_of_getElem? (i := 96) rfl)) rfl
theorem w_817 : Cond.code yX5_replaced cX5_replaced 2 (some .char) ∈ aW := aw_t (ti_4 (List.mem_of_getElem? (i := 97) rfl)) rfl
theorem w_818 : Cond.methodLink RL 95 yL_split ∈ aW := aw_t (ti_4 (List.mem_of_getElem? (i := 98) rfl)) rfl
theorem w_819 : Cond.static yL_split ∈ aW := aw_t (ti_4 (List.mem_of_getElem? (i := 99) rfl)) rfl
theorem w_820 : Cond.codeWith yL_split cL_split 3 (some .int) [(0, 8, 11, 19)] ∈ aW := aw_t (ti_4 (List.mem_of_getElem? (i := 100) rfl)) rfl
theorem w_821 : Cond.methodLink RL 43 yX5_split ∈ aW := aw_t (ti_4 (List.mem_of_getElem? (i := 101) rfl)) rfl
theorem w_822 : Cond.instanceMethod yX5_split ∈ aW := aw_t (ti_4 (List.mem_of_getElem? (i := 102) rfl)) rfl
theorem w_823 : Cond.selects RX5 yX5_split yX5_split ∈ aW := aw_t (ti_4 (List.mem_of_getElem? (i := 103) rfl)) rfl
theorem w_824 : Cond.code yX5_split cX5_split 4 (some .int) ∈ aW := aw_t (ti_4 (List.mem_of_getElem? (i := 104) rfl)) rfl
theorem w_825 : Cond.methodLink RX5 137 yX5_addPiece ∈ aW := aw_t (ti_4 (List.mem_of_getElem? (i := 105) rfl)) rfl
theorem w_827 : Cond.instanceMethod yX5_addPiece ∈ aW := aw_t (ti_4 (List.mem_of_getElem? (i := 107) rfl)) rfl
theorem w_828 : Cond.code yX5_addPiece cX5_addPiece 3 none ∈ aW := aw_t (ti_4 (List.mem_of_getElem? (i := 108) rfl)) rfl
theorem w_829 : Cond.methodLink RX5 140 yX5_dropEmptyPiecesAtEnd ∈ aW := aw_t (ti_4 (List.mem_of_getElem? (i := 109) rfl)) rfl
theorem w_831 : Cond.instanceMethod yX5_dropEmptyPiecesAtEnd ∈ aW := aw_t (ti_4 (List.mem_of_getElem? (i := 111) rfl)) rfl
theorem w_832 : Cond.code yX5_dropEmptyPiecesAtEnd cX5_dropEmptyPiecesAtEnd 1 none ∈ aW := aw_t (ti_4 (List.mem_of_getElem? (i := 112) rfl)) rfl
theorem w_833 : Cond.methodLink RL 98 yL_piece ∈ aW := aw_t (ti_4 (List.mem_of_getElem? (i := 113) rfl)) rfl
theorem w_834 : Cond.static yL_piece ∈ aW := aw_t (ti_4 (List.mem_of_getElem? (i := 114) rfl)) rfl
theorem w_835 : Cond.codeWith yL_piece cL_piece 5 (some .int) [(0, 10, 13, 28)] ∈ aW := aw_t (ti_4 (List.mem_of_getElem? (i := 115) rfl)) rfl
theorem w_836 : Cond.methodLink RL 46 yX5_piece ∈ aW := aw_t (ti_4 (List.mem_of_getElem? (i := 116) rfl)) rfl
theorem w_837 : Cond.instanceMethod yX5_piece ∈ aW := aw_t (ti_4 (List.mem_of_getElem? (i := 117) rfl)) rfl
theorem w_838 : Cond.selects RX5 yX5_piece yX5_piece ∈ aW := aw_t (ti_4 (List.mem_of_getElem? (i := 118) rfl)) rfl
theorem w_839 : Cond.code yX5_piece cX5_piece 3 (some .int) ∈ aW := aw_t (ti_4 (List.mem_of_getElem? (i := 119) rfl)) rfl
theorem w_840 : Cond.classLink RL 51 RX6 ∈ aW := aw_t (ti_4 (List.mem_of_getElem? (i := 120) rfl)) rfl
theorem w_841 : Cond.instantiable RX6 48 ∈ aW := aw_t (ti_4 (List.mem_of_getElem? (i := 121) rfl)) rfl
theorem w_842 : Cond.methodLink RL 53 yX6_init ∈ aW := aw_t (ti_4 (List.mem_of_getElem? (i := 122) rfl)) rfl
theorem w_843 : Cond.instanceMethod yX6_init ∈ aW := aw_t (ti_4 (List.mem_of_getElem? (i := 123) rfl)) rfl
theorem w_844 : Cond.code yX6_init cX6_init 1 none ∈ aW := aw_t (ti_4 (List.mem_of_getElem? (i := 124) rfl)) rfl
theorem w_845 : Cond.methodLink RX6 1 objectInit ∈ aW := aw_t (ti_4 (List.mem_of_getElem? (i := 125) rfl)) rfl
theorem w_846 : Cond.fieldLink RX6 102 "PatternMatcherModel" "code" "I" ∈ aW := aw_t (ti_4 (List.mem_of_getElem? (i := 126) rfl)) rfl
theorem w_847 : Cond.fieldLink RX6 7 "PatternMatcherModel" "row" "[I" ∈ aW := aw_t (ti_4 (List.mem_of_getElem? (i := 127) rfl)) rfl
theorem w_848 : Cond.fieldLink RX6 13 "PatternMatcherModel" "length" "[I" ∈ aW := aw_t (ti_4 (List.mem_of_getElem? (i := 128) rfl)) rfl
theorem w_849 : Cond.fieldLink RX6 117 "PatternMatcherModel" "base" "I" ∈ aW := aw_t (ti_4 (List.mem_of_getElem? (i := 129) rfl)) rfl
theorem w_850 : Cond.fieldLink RX6 120 "PatternMatcherModel" "used" "I" ∈ aW := aw_t (ti_4 (List.mem_of_getElem? (i := 130) rfl)) rfl
theorem w_851 : Cond.fieldLink RX6 202 "PatternMatcherModel" "groups" "I" ∈ aW := aw_t (ti_4 (List.mem_of_getElem? (i := 131) rfl)) rfl
theorem w_852 : Cond.fieldLink RX6 140 "PatternMatcherModel" "open" "I" ∈ aW := aw_t (ti_4 (List.mem_of_getElem? (i := 132) rfl)) rfl
theorem w_853 : Cond.fieldLink RX6 205 "PatternMatcherModel" "compiled" "Z" ∈ aW := aw_t (ti_4 (List.mem_of_getElem? (i := 133) rfl)) rfl
theorem w_854 : Cond.fieldLink RX6 16 "PatternMatcherModel" "type" "[I" ∈ aW := aw_t (ti_4 (List.mem_of_getElem? (i := 134) rfl)) rfl
theorem w_855 : Cond.fieldLink RX6 19 "PatternMatcherModel" "a" "[I" ∈ aW := aw_t (ti_4 (List.mem_of_getElem? (i := 135) rfl)) rfl
theorem w_856 : Cond.fieldLink RX6 22 "PatternMatcherModel" "b" "[I" ∈ aW := aw_t (ti_4 (List.mem_of_getElem? (i := 136) rfl)) rfl
theorem w_857 : Cond.fieldLink RX6 25 "PatternMatcherModel" "mode" "[I" ∈ aW := aw_t (ti_4 (List.mem_of_getElem? (i := 137) rfl)) rfl
theorem w_858 : Cond.fieldLink RX6 28 "PatternMatcherModel" "kid" "[I" ∈ aW := aw_t (ti_4 (List.mem_of_getElem? (i := 138) rfl)) rfl
theorem w_859 : Cond.fieldLink RX6 31 "PatternMatcherModel" "sibling" "[I" ∈ aW := aw_t (ti_4 (List.mem_of_getElem? (i := 139) rfl)) rfl
theorem w_860 : Cond.fieldLink RX6 34 "PatternMatcherModel" "low" "[J" ∈ aW := aw_t (ti_4 (List.mem_of_getElem? (i := 140) rfl)) rfl
theorem w_861 : Cond.fieldLink RX6 38 "PatternMatcherModel" "high" "[J" ∈ aW := aw_t (ti_4 (List.mem_of_getElem? (i := 141) rfl)) rfl
theorem w_862 : Cond.fieldLink RX6 126 "PatternMatcherModel" "depth" "I" ∈ aW := aw_t (ti_4 (List.mem_of_getElem? (i := 142) rfl)) rfl
theorem w_863 : Cond.fieldLink RX6 114 "PatternMatcherModel" "at" "I" ∈ aW := aw_t (ti_4 (List.mem_of_getElem? (i := 143) rfl)) rfl
theorem w_864 : Cond.fieldLink RX6 41 "PatternMatcherModel" "bracket" "[I" ∈ aW := aw_t (ti_4 (List.mem_of_getElem? (i := 144) rfl)) rfl
theorem w_865 : Cond.fieldLink RX6 44 "PatternMatcherModel" "choice" "[I" ∈ aW := aw_t (ti_4 (List.mem_of_getElem? (i := 145) rfl)) rfl
theorem w_866 : Cond.fieldLink RX6 47 "PatternMatcherModel" "sequence" "[I" ∈ aW := aw_t (ti_4 (List.mem_of_getElem? (i := 146) rfl)) rfl
theorem w_867 : Cond.fieldLink RX6 50 "PatternMatcherModel" "tail" "[I" ∈ aW := aw_t (ti_4 (List.mem_of_getElem? (i := 147) rfl)) rfl
theorem w_868 : Cond.fieldLink RX6 53 "PatternMatcherModel" "behind" "[Z" ∈ aW := aw_t (ti_4 (List.mem_of_getElem? (i := 148) rfl)) rfl
theorem w_869 : Cond.fieldLink RX6 217 "PatternMatcherModel" "place" "I" ∈ aW := aw_t (ti_4 (List.mem_of_getElem? (i := 149) rfl)) rfl
theorem w_870 : Cond.fieldLink RX6 230 "PatternMatcherModel" "node" "I" ∈ aW := aw_t (ti_4 (List.mem_of_getElem? (i := 150) rfl)) rfl
theorem w_871 : Cond.fieldLink RX6 227 "PatternMatcherModel" "next" "I" ∈ aW := aw_t (ti_4 (List.mem_of_getElem? (i := 151) rfl)) rfl
theorem w_872 : Cond.fieldLink RX6 208 "PatternMatcherModel" "linked" "I" ∈ aW := aw_t (ti_4 (List.mem_of_getElem? (i := 152) rfl)) rfl
theorem w_873 : Cond.fieldLink RX6 211 "PatternMatcherModel" "ways" "I" ∈ aW := aw_t (ti_4 (List.mem_of_getElem? (i := 153) rfl)) rfl
theorem w_874 : Cond.fieldLink RX6 220 "PatternMatcherModel" "whole" "I" ∈ aW := aw_t (ti_4 (List.mem_of_getElem? (i := 154) rfl)) rfl
theorem w_875 : Cond.fieldLink RX6 233 "PatternMatcherModel" "alive" "Z" ∈ aW := aw_t (ti_4 (List.mem_of_getElem? (i := 155) rfl)) rfl
theorem w_876 : Cond.fieldLink RX6 57 "PatternMatcherModel" "span" "[I" ∈ aW := aw_t (ti_4 (List.mem_of_getElem? (i := 156) rfl)) rfl
theorem w_877 : Cond.fieldLink RX6 60 "PatternMatcherModel" "linkKind" "[I" ∈ aW := aw_t (ti_4 (List.mem_of_getElem? (i := 157) rfl)) rfl
theorem w_878 : Cond.fieldLink RX6 63 "PatternMatcherModel" "linkA" "[I" ∈ aW := aw_t (ti_4 (List.mem_of_getElem? (i := 158) rfl)) rfl
theorem w_879 : Cond.fieldLink RX6 66 "PatternMatcherModel" "linkB" "[I" ∈ aW := aw_t (ti_4 (List.mem_of_getElem? (i := 159) rfl)) rfl
theorem w_880 : Cond.fieldLink RX6 69 "PatternMatcherModel" "linkTo" "[I" ∈ aW := aw_t (ti_4 (List.mem_of_getElem? (i := 160) rfl)) rfl
theorem w_881 : Cond.fieldLink RX6 72 "PatternMatcherModel" "wayNode" "[I" ∈ aW := aw_t (ti_4 (List.mem_of_getElem? (i := 161) rfl)) rfl
theorem w_882 : Cond.fieldLink RX6 75 "PatternMatcherModel" "wayCount" "[I" ∈ aW := aw_t (ti_4 (List.mem_of_getElem? (i := 162) rfl)) rfl
theorem w_883 : Cond.fieldLink RX6 78 "PatternMatcherModel" "wayPlace" "[I" ∈ aW := aw_t (ti_4 (List.mem_of_getElem? (i := 163) rfl)) rfl
theorem w_884 : Cond.fieldLink RX6 81 "PatternMatcherModel" "wayNext" "[I" ∈ aW := aw_t (ti_4 (List.mem_of_getElem? (i := 164) rfl)) rfl
theorem w_885 : Cond.fieldLink RX6 84 "PatternMatcherModel" "wayLinked" "[I" ∈ aW := aw_t (ti_4 (List.mem_of_getElem? (i := 165) rfl)) rfl
theorem w_886 : Cond.fieldLink RX6 87 "PatternMatcherModel" "waySpan" "[I" ∈ aW := aw_t (ti_4 (List.mem_of_getElem? (i := 166) rfl)) rfl
theorem w_887 : Cond.fieldLink RX6 110 "PatternMatcherModel" "matched" "Z" ∈ aW := aw_t (ti_4 (List.mem_of_getElem? (i := 167) rfl)) rfl
theorem w_888 : Cond.fieldLink RX6 90 "PatternMatcherModel" "match" "[I" ∈ aW := aw_t (ti_4 (List.mem_of_getElem? (i := 168) rfl)) rfl
theorem w_889 : Cond.fieldLink RX6 308 "PatternMatcherModel" "made" "I" ∈ aW := aw_t (ti_4 (List.mem_of_getElem? (i := 169) rfl)) rfl
theorem w_890 : Cond.fieldLink RX6 93 "PatternMatcherModel" "result" "[I" ∈ aW := aw_t (ti_4 (List.mem_of_getElem? (i := 170) rfl)) rfl
theorem w_891 : Cond.fieldLink RX6 326 "PatternMatcherModel" "pieces" "I" ∈ aW := aw_t (ti_4 (List.mem_of_getElem? (i := 171) rfl)) rfl
theorem w_892 : Cond.fieldLink RX6 96 "PatternMatcherModel" "pieceFrom" "[I" ∈ aW := aw_t (ti_4 (List.mem_of_getElem? (i := 172) rfl)) rfl
theorem w_893 : Cond.fieldLink RX6 99 "PatternMatcherModel" "pieceTo" "[I" ∈ aW := aw_t (ti_4 (List.mem_of_getElem? (i := 173) rfl)) rfl
theorem w_894 : Cond.lays RX6 "PatternMatcherModel" "code" "I" ∈ aW := aw_t (ti_4 (List.mem_of_getElem? (i := 174) rfl)) rfl
theorem w_896 : Cond.laysFinal RX6 "PatternMatcherModel" "row" "[I" ∈ aW := aw_t (ti_4 (List.mem_of_getElem? (i := 176) rfl)) rfl
theorem w_898 : Cond.laysFinal RX6 "PatternMatcherModel" "length" "[I" ∈ aW := aw_t (ti_4 (List.mem_of_getElem? (i := 178) rfl)) rfl
theorem w_900 : Cond.lays RX6 "PatternMatcherModel" "base" "I" ∈ aW := aw_t (ti_4 (List.mem_of_getElem? (i := 180) rfl)) rfl
theorem w_902 : Cond.lays RX6 "PatternMatcherModel" "used" "I" ∈ aW := aw_t (ti_4 (List.mem_of_getElem? (i := 182) rfl)) rfl
theorem w_904 : Cond.lays RX6 "PatternMatcherModel" "groups" "I" ∈ aW := aw_t (ti_4 (List.mem_of_getElem? (i := 184) rfl)) rfl
theorem w_906 : Cond.lays RX6 "PatternMatcherModel" "open" "I" ∈ aW := aw_t (ti_4 (List.mem_of_getElem? (i := 186) rfl)) rfl
theorem w_908 : Cond.lays RX6 "PatternMatcherModel" "compiled" "Z" ∈ aW := aw_t (ti_4 (List.mem_of_getElem? (i := 188) rfl)) rfl
theorem w_910 : Cond.laysFinal RX6 "PatternMatcherModel" "type" "[I" ∈ aW := aw_t (ti_4 (List.mem_of_getElem? (i := 190) rfl)) rfl
theorem w_912 : Cond.laysFinal RX6 "PatternMatcherModel" "a" "[I" ∈ aW := aw_t (ti_4 (List.mem_of_getElem? (i := 192) rfl)) rfl
theorem w_914 : Cond.laysFinal RX6 "PatternMatcherModel" "b" "[I" ∈ aW := aw_t (ti_4 (List.mem_of_getElem? (i := 194) rfl)) rfl
theorem w_916 : Cond.laysFinal RX6 "PatternMatcherModel" "mode" "[I" ∈ aW := aw_t (ti_4 (List.mem_of_getElem? (i := 196) rfl)) rfl
theorem w_918 : Cond.laysFinal RX6 "PatternMatcherModel" "kid" "[I" ∈ aW := aw_t (ti_4 (List.mem_of_getElem? (i := 198) rfl)) rfl
theorem w_920 : Cond.laysFinal RX6 "PatternMatcherModel" "sibling" "[I" ∈ aW := aw_t (ti_4 (List.mem_of_getElem? (i := 200) rfl)) rfl
theorem w_922 : Cond.laysFinal RX6 "PatternMatcherModel" "low" "[J" ∈ aW := aw_t (ti_4 (List.mem_of_getElem? (i := 202) rfl)) rfl
theorem w_924 : Cond.laysFinal RX6 "PatternMatcherModel" "high" "[J" ∈ aW := aw_t (ti_4 (List.mem_of_getElem? (i := 204) rfl)) rfl
theorem w_926 : Cond.lays RX6 "PatternMatcherModel" "depth" "I" ∈ aW := aw_t (ti_4 (List.mem_of_getElem? (i := 206) rfl)) rfl
theorem w_928 : Cond.lays RX6 "PatternMatcherModel" "at" "I" ∈ aW := aw_t (ti_4 (List.mem_of_getElem? (i := 208) rfl)) rfl
theorem w_930 : Cond.laysFinal RX6 "PatternMatcherModel" "bracket" "[I" ∈ aW := aw_t (ti_4 (List.mem_of_getElem? (i := 210) rfl)) rfl
theorem w_932 : Cond.laysFinal RX6 "PatternMatcherModel" "choice" "[I" ∈ aW := aw_t (ti_4 (List.mem_of_getElem? (i := 212) rfl)) rfl
theorem w_934 : Cond.laysFinal RX6 "PatternMatcherModel" "sequence" "[I" ∈ aW := aw_t (ti_4 (List.mem_of_getElem? (i := 214) rfl)) rfl
theorem w_936 : Cond.laysFinal RX6 "PatternMatcherModel" "tail" "[I" ∈ aW := aw_t (ti_4 (List.mem_of_getElem? (i := 216) rfl)) rfl
theorem w_938 : Cond.laysFinal RX6 "PatternMatcherModel" "behind" "[Z" ∈ aW := aw_t (ti_4 (List.mem_of_getElem? (i := 218) rfl)) rfl
theorem w_940 : Cond.lays RX6 "PatternMatcherModel" "place" "I" ∈ aW := aw_t (ti_4 (List.mem_of_getElem? (i := 220) rfl)) rfl
theorem w_942 : Cond.lays RX6 "PatternMatcherModel" "node" "I" ∈ aW := aw_t (ti_4 (List.mem_of_getElem? (i := 222) rfl)) rfl
theorem w_944 : Cond.lays RX6 "PatternMatcherModel" "next" "I" ∈ aW := aw_t (ti_4 (List.mem_of_getElem? (i := 224) rfl)) rfl
theorem w_946 : Cond.lays RX6 "PatternMatcherModel" "linked" "I" ∈ aW := aw_t (ti_4 (List.mem_of_getElem? (i := 226) rfl)) rfl
theorem w_948 : Cond.lays RX6 "PatternMatcherModel" "ways" "I" ∈ aW := aw_t (ti_4 (List.mem_of_getElem? (i := 228) rfl)) rfl
theorem w_950 : Cond.lays RX6 "PatternMatcherModel" "whole" "I" ∈ aW := aw_t (ti_4 (List.mem_of_getElem? (i := 230) rfl)) rfl
theorem w_952 : Cond.lays RX6 "PatternMatcherModel" "alive" "Z" ∈ aW := aw_t (ti_4 (List.mem_of_getElem? (i := 232) rfl)) rfl
theorem w_954 : Cond.laysFinal RX6 "PatternMatcherModel" "span" "[I" ∈ aW := aw_t (ti_4 (List.mem_of_getElem? (i := 234) rfl)) rfl
theorem w_956 : Cond.laysFinal RX6 "PatternMatcherModel" "linkKind" "[I" ∈ aW := aw_t (ti_4 (List.mem_of_getElem? (i := 236) rfl)) rfl
theorem w_958 : Cond.laysFinal RX6 "PatternMatcherModel" "linkA" "[I" ∈ aW := aw_t (ti_4 (List.mem_of_getElem? (i := 238) rfl)) rfl
theorem w_960 : Cond.laysFinal RX6 "PatternMatcherModel" "linkB" "[I" ∈ aW := aw_t (ti_5 (List.mem_of_getElem? (i := 0) rfl)) rfl
theorem w_962 : Cond.laysFinal RX6 "PatternMatcherModel" "linkTo" "[I" ∈ aW := aw_t (ti_5 (List.mem_of_getElem? (i := 2) rfl)) rfl
theorem w_964 : Cond.laysFinal RX6 "PatternMatcherModel" "wayNode" "[I" ∈ aW := aw_t (ti_5 (List.mem_of_getElem? (i := 4) rfl)) rfl
theorem w_966 : Cond.laysFinal RX6 "PatternMatcherModel" "wayCount" "[I" ∈ aW := aw_t (ti_5 (List.mem_of_getElem? (i := 6) rfl)) rfl
theorem w_968 : Cond.laysFinal RX6 "PatternMatcherModel" "wayPlace" "[I" ∈ aW := aw_t (ti_5 (List.mem_of_getElem? (i := 8) rfl)) rfl
theorem w_970 : Cond.laysFinal RX6 "PatternMatcherModel" "wayNext" "[I" ∈ aW := aw_t (ti_5 (List.mem_of_getElem? (i := 10) rfl)) rfl
theorem w_972 : Cond.laysFinal RX6 "PatternMatcherModel" "wayLinked" "[I" ∈ aW := aw_t (ti_5 (List.mem_of_getElem? (i := 12) rfl)) rfl
theorem w_974 : Cond.laysFinal RX6 "PatternMatcherModel" "waySpan" "[I" ∈ aW := aw_t (ti_5 (List.mem_of_getElem? (i := 14) rfl)) rfl
theorem w_976 : Cond.lays RX6 "PatternMatcherModel" "matched" "Z" ∈ aW := aw_t (ti_5 (List.mem_of_getElem? (i := 16) rfl)) rfl
theorem w_978 : Cond.laysFinal RX6 "PatternMatcherModel" "match" "[I" ∈ aW := aw_t (ti_5 (List.mem_of_getElem? (i := 18) rfl)) rfl
theorem w_980 : Cond.lays RX6 "PatternMatcherModel" "made" "I" ∈ aW := aw_t (ti_5 (List.mem_of_getElem? (i := 20) rfl)) rfl
theorem w_982 : Cond.laysFinal RX6 "PatternMatcherModel" "result" "[I" ∈ aW := aw_t (ti_5 (List.mem_of_getElem? (i := 22) rfl)) rfl
theorem w_984 : Cond.lays RX6 "PatternMatcherModel" "pieces" "I" ∈ aW := aw_t (ti_5 (List.mem_of_getElem? (i := 24) rfl)) rfl
theorem w_986 : Cond.laysFinal RX6 "PatternMatcherModel" "pieceFrom" "[I" ∈ aW := aw_t (ti_5 (List.mem_of_getElem? (i := 26) rfl)) rfl
theorem w_988 : Cond.laysFinal RX6 "PatternMatcherModel" "pieceTo" "[I" ∈ aW := aw_t (ti_5 (List.mem_of_getElem? (i := 28) rfl)) rfl
theorem w_991 : Cond.arrayClass .boolean ∈ aW := aw_t (ti_5 (List.mem_of_getElem? (i := 31) rfl)) rfl
theorem w_992 : Cond.methodLink RL 70 yX6_thrown ∈ aW := aw_t (ti_5 (List.mem_of_getElem? (i := 32) rfl)) rfl
theorem w_993 : Cond.instanceMethod yX6_thrown ∈ aW := aw_t (ti_5 (List.mem_of_getElem? (i := 33) rfl)) rfl
theorem w_994 : Cond.selects RX6 yX6_thrown yX6_thrown ∈ aW := aw_t (ti_5 (List.mem_of_getElem? (i := 34) rfl)) rfl
theorem w_995 : Cond.code yX6_thrown cX6_thrown 1 (some .int) ∈ aW := aw_t (ti_5 (List.mem_of_getElem? (i := 35) rfl)) rfl
theorem w_996 : Cond.methodLink RL 58 yX6_type ∈ aW := aw_t (ti_5 (List.mem_of_getElem? (i := 36) rfl)) rfl
theorem w_997 : Cond.instanceMethod yX6_type ∈ aW := aw_t (ti_5 (List.mem_of_getElem? (i := 37) rfl)) rfl
theorem w_998 : Cond.selects RX6 yX6_type yX6_type ∈ aW := aw_t (ti_5 (List.mem_of_getElem? (i := 38) rfl)) rfl
theorem w_999 : Cond.code yX6_type cX6_type 3 (some .boolean) ∈ aW := aw_t (ti_5 (List.mem_of_getElem? (i := 39) rfl)) rfl
theorem w_1000 : Cond.methodLink RX6 106 yX6_room ∈ aW := aw_t (ti_5 (List.mem_of_getElem? (i := 40) rfl)) rfl
theorem w_1001 : Cond.static yX6_room ∈ aW := aw_t (ti_5 (List.mem_of_getElem? (i := 41) rfl)) rfl
theorem w_1002 : Cond.code yX6_room cX6_room 1 (some .int) ∈ aW := aw_t (ti_5 (List.mem_of_getElem? (i := 42) rfl)) rfl
theorem w_1003 : Cond.methodLink RL 63 yX6_clear ∈ aW := aw_t (ti_5 (List.mem_of_getElem? (i := 43) rfl)) rfl
theorem w_1004 : Cond.instanceMethod yX6_clear ∈ aW := aw_t (ti_5 (List.mem_of_getElem? (i := 44) rfl)) rfl
theorem w_1005 : Cond.selects RX6 yX6_clear yX6_clear ∈ aW := aw_t (ti_5 (List.mem_of_getElem? (i := 45) rfl)) rfl
theorem w_1006 : Cond.code yX6_clear cX6_clear 2 (some .boolean) ∈ aW := aw_t (ti_5 (List.mem_of_getElem? (i := 46) rfl)) rfl
theorem w_1007 : Cond.methodLink RL 105 yX6_length ∈ aW := aw_t (ti_5 (List.mem_of_getElem? (i := 47) rfl)) rfl
theorem w_1008 : Cond.instanceMethod yX6_length ∈ aW := aw_t (ti_5 (List.mem_of_getElem? (i := 48) rfl)) rfl
theorem w_1009 : Cond.selects RX6 yX6_length yX6_length ∈ aW := aw_t (ti_5 (List.mem_of_getElem? (i := 49) rfl)) rfl
theorem w_1010 : Cond.code yX6_length cX6_length 2 (some .int) ∈ aW := aw_t (ti_5 (List.mem_of_getElem? (i := 50) rfl)) rfl
theorem w_1011 : Cond.methodLink RL 69 yX6_compile ∈ aW := aw_t (ti_5 (List.mem_of_getElem? (i := 51) rfl)) rfl
theorem w_1012 : Cond.instanceMethod yX6_compile ∈ aW := aw_t (ti_5 (List.mem_of_getElem? (i := 52) rfl)) rfl
theorem w_1013 : Cond.selects RX6 yX6_compile yX6_compile ∈ aW := aw_t (ti_5 (List.mem_of_getElem? (i := 53) rfl)) rfl
theorem w_1014 : Cond.code yX6_compile cX6_compile 1 (some .int) ∈ aW := aw_t (ti_5 (List.mem_of_getElem? (i := 54) rfl)) rfl
theorem w_1015 : Cond.methodLink RX6 196 yX6_read ∈ aW := aw_t (ti_5 (List.mem_of_getElem? (i := 55) rfl)) rfl
theorem w_1017 : Cond.instanceMethod yX6_read ∈ aW := aw_t (ti_5 (List.mem_of_getElem? (i := 57) rfl)) rfl
theorem w_1018 : Cond.code yX6_read cX6_read 3 (some .boolean) ∈ aW := aw_t (ti_5 (List.mem_of_getElem? (i := 58) rfl)) rfl
theorem w_1019 : Cond.methodLink RX6 143 yX6_newChoice ∈ aW := aw_t (ti_5 (List.mem_of_getElem? (i := 59) rfl)) rfl
theorem w_1021 : Cond.instanceMethod yX6_newChoice ∈ aW := aw_t (ti_5 (List.mem_of_getElem? (i := 61) rfl)) rfl
theorem w_1022 : Cond.code yX6_newChoice cX6_newChoice 3 none ∈ aW := aw_t (ti_5 (List.mem_of_getElem? (i := 62) rfl)) rfl
theorem w_1023 : Cond.methodLink RX6 123 yX6_create ∈ aW := aw_t (ti_5 (List.mem_of_getElem? (i := 63) rfl)) rfl
theorem w_1025 : Cond.instanceMethod yX6_create ∈ aW := aw_t (ti_5 (List.mem_of_getElem? (i := 65) rfl)) rfl
theorem w_1026 : Cond.code yX6_create cX6_create 3 (some .int) ∈ aW := aw_t (ti_5 (List.mem_of_getElem? (i := 66) rfl)) rfl
theorem w_1027 : Cond.methodLink RX6 129 yX6_newSequence ∈ aW := aw_t (ti_5 (List.mem_of_getElem? (i := 67) rfl)) rfl
theorem w_1029 : Cond.instanceMethod yX6_newSequence ∈ aW := aw_t (ti_5 (List.mem_of_getElem? (i := 69) rfl)) rfl
theorem w_1030 : Cond.code yX6_newSequence cX6_newSequence 2 none ∈ aW := aw_t (ti_5 (List.mem_of_getElem? (i := 70) rfl)) rfl
theorem w_1031 : Cond.methodLink RX6 147 yX6_peek ∈ aW := aw_t (ti_5 (List.mem_of_getElem? (i := 71) rfl)) rfl
theorem w_1033 : Cond.instanceMethod yX6_peek ∈ aW := aw_t (ti_5 (List.mem_of_getElem? (i := 73) rfl)) rfl
theorem w_1034 : Cond.code yX6_peek cX6_peek 2 (some .int) ∈ aW := aw_t (ti_5 (List.mem_of_getElem? (i := 74) rfl)) rfl
theorem w_1035 : Cond.methodLink RX6 150 yX6_bar ∈ aW := aw_t (ti_5 (List.mem_of_getElem? (i := 75) rfl)) rfl
theorem w_1037 : Cond.instanceMethod yX6_bar ∈ aW := aw_t (ti_5 (List.mem_of_getElem? (i := 77) rfl)) rfl
theorem w_1038 : Cond.code yX6_bar cX6_bar 1 (some .boolean) ∈ aW := aw_t (ti_5 (List.mem_of_getElem? (i := 78) rfl)) rfl
theorem w_1039 : Cond.methodLink RX6 154 yX6_bracket ∈ aW := aw_t (ti_5 (List.mem_of_getElem? (i := 79) rfl)) rfl
theorem w_1041 : Cond.instanceMethod yX6_bracket ∈ aW := aw_t (ti_5 (List.mem_of_getElem? (i := 81) rfl)) rfl
theorem w_1042 : Cond.code yX6_bracket cX6_bracket 6 (some .boolean) ∈ aW := aw_t (ti_5 (List.mem_of_getElem? (i := 82) rfl)) rfl
theorem w_1043 : Cond.methodLink RX6 156 yX6_close ∈ aW := aw_t (ti_5 (List.mem_of_getElem? (i := 83) rfl)) rfl
theorem w_1045 : Cond.instanceMethod yX6_close ∈ aW := aw_t (ti_5 (List.mem_of_getElem? (i := 85) rfl)) rfl
theorem w_1046 : Cond.code yX6_close cX6_close 1 (some .boolean) ∈ aW := aw_t (ti_5 (List.mem_of_getElem? (i := 86) rfl)) rfl
theorem w_1047 : Cond.methodLink RX6 162 yX6_loop ∈ aW := aw_t (ti_5 (List.mem_of_getElem? (i := 87) rfl)) rfl
theorem w_1049 : Cond.instanceMethod yX6_loop ∈ aW := aw_t (ti_5 (List.mem_of_getElem? (i := 89) rfl)) rfl
theorem w_1050 : Cond.code yX6_loop cX6_loop 5 (some .boolean) ∈ aW := aw_t (ti_5 (List.mem_of_getElem? (i := 90) rfl)) rfl
theorem w_1051 : Cond.methodLink RX6 186 yX6_append ∈ aW := aw_t (ti_5 (List.mem_of_getElem? (i := 91) rfl)) rfl
theorem w_1053 : Cond.instanceMethod yX6_append ∈ aW := aw_t (ti_5 (List.mem_of_getElem? (i := 93) rfl)) rfl
theorem w_1054 : Cond.code yX6_append cX6_append 2 none ∈ aW := aw_t (ti_5 (List.mem_of_getElem? (i := 94) rfl)) rfl
theorem w_1055 : Cond.methodLink RX6 190 yX6_bounds ∈ aW := aw_t (ti_5 (List.mem_of_getElem? (i := 95) rfl)) rfl
theorem w_1057 : Cond.instanceMethod yX6_bounds ∈ aW := aw_t (ti_5 (List.mem_of_getElem? (i := 97) rfl)) rfl
theorem w_1058 : Cond.code yX6_bounds cX6_bounds 2 (some .boolean) ∈ aW := aw_t (ti_5 (List.mem_of_getElem? (i := 98) rfl)) rfl
theorem w_1059 : Cond.methodLink RX6 193 yX6_isFour ∈ aW := aw_t (ti_5 (List.mem_of_getElem? (i := 99) rfl)) rfl
theorem w_1060 : Cond.static yX6_isFour ∈ aW := aw_t (ti_5 (List.mem_of_getElem? (i := 100) rfl)) rfl
theorem w_1061 : Cond.code yX6_isFour cX6_isFour 1 (some .boolean) ∈ aW := aw_t (ti_5 (List.mem_of_getElem? (i := 101) rfl)) rfl
theorem w_1062 : Cond.methodLink RX6 159 yX6_atom ∈ aW := aw_t (ti_5 (List.mem_of_getElem? (i := 102) rfl)) rfl
theorem w_1064 : Cond.instanceMethod yX6_atom ∈ aW := aw_t (ti_5 (List.mem_of_getElem? (i := 104) rfl)) rfl
theorem w_1065 : Cond.code yX6_atom cX6_atom 3 (some .int) ∈ aW := aw_t (ti_5 (List.mem_of_getElem? (i := 105) rfl)) rfl
theorem w_1066 : Cond.methodLink RX6 165 yX6_escape ∈ aW := aw_t (ti_5 (List.mem_of_getElem? (i := 106) rfl)) rfl
theorem w_1068 : Cond.instanceMethod yX6_escape ∈ aW := aw_t (ti_5 (List.mem_of_getElem? (i := 108) rfl)) rfl
theorem w_1069 : Cond.code yX6_escape cX6_escape 3 (some .int) ∈ aW := aw_t (ti_5 (List.mem_of_getElem? (i := 109) rfl)) rfl
theorem w_1070 : Cond.methodLink RX6 172 yX6_isSpecial ∈ aW := aw_t (ti_5 (List.mem_of_getElem? (i := 110) rfl)) rfl
theorem w_1071 : Cond.static yX6_isSpecial ∈ aW := aw_t (ti_5 (List.mem_of_getElem? (i := 111) rfl)) rfl
theorem w_1072 : Cond.code yX6_isSpecial cX6_isSpecial 1 (some .boolean) ∈ aW := aw_t (ti_5 (List.mem_of_getElem? (i := 112) rfl)) rfl
theorem w_1073 : Cond.methodLink RX6 175 yX6_includeKind ∈ aW := aw_t (ti_5 (List.mem_of_getElem? (i := 113) rfl)) rfl
theorem w_1075 : Cond.instanceMethod yX6_includeKind ∈ aW := aw_t (ti_5 (List.mem_of_getElem? (i := 115) rfl)) rfl
theorem w_1076 : Cond.code yX6_includeKind cX6_includeKind 4 none ∈ aW := aw_t (ti_5 (List.mem_of_getElem? (i := 116) rfl)) rfl
theorem w_1077 : Cond.methodLink RX6 132 yX6_isWord ∈ aW := aw_t (ti_5 (List.mem_of_getElem? (i := 117) rfl)) rfl
theorem w_1078 : Cond.static yX6_isWord ∈ aW := aw_t (ti_5 (List.mem_of_getElem? (i := 118) rfl)) rfl
theorem w_1079 : Cond.code yX6_isWord cX6_isWord 1 (some .boolean) ∈ aW := aw_t (ti_5 (List.mem_of_getElem? (i := 119) rfl)) rfl
theorem w_1080 : Cond.methodLink RX6 136 yX6_include ∈ aW := aw_t (ti_5 (List.mem_of_getElem? (i := 120) rfl)) rfl
theorem w_1082 : Cond.instanceMethod yX6_include ∈ aW := aw_t (ti_5 (List.mem_of_getElem? (i := 122) rfl)) rfl
theorem w_1083 : Cond.code yX6_include cX6_include 3 none ∈ aW := aw_t (ti_5 (List.mem_of_getElem? (i := 123) rfl)) rfl
theorem w_1084 : Cond.methodLink RX6 169 yX6_items ∈ aW := aw_t (ti_5 (List.mem_of_getElem? (i := 124) rfl)) rfl
theorem w_1086 : Cond.instanceMethod yX6_items ∈ aW := aw_t (ti_5 (List.mem_of_getElem? (i := 126) rfl)) rfl
theorem w_1087 : Cond.code yX6_items cX6_items 4 (some .int) ∈ aW := aw_t (ti_5 (List.mem_of_getElem? (i := 127) rfl)) rfl
theorem w_1088 : Cond.methodLink RX6 178 yX6_item ∈ aW := aw_t (ti_5 (List.mem_of_getElem? (i := 128) rfl)) rfl
theorem w_1090 : Cond.instanceMethod yX6_item ∈ aW := aw_t (ti_5 (List.mem_of_getElem? (i := 130) rfl)) rfl
theorem w_1091 : Cond.code yX6_item cX6_item 5 (some .boolean) ∈ aW := aw_t (ti_5 (List.mem_of_getElem? (i := 131) rfl)) rfl
theorem w_1092 : Cond.methodLink RX6 183 yX6_isBarred ∈ aW := aw_t (ti_5 (List.mem_of_getElem? (i := 132) rfl)) rfl
theorem w_1093 : Cond.static yX6_isBarred ∈ aW := aw_t (ti_5 (List.mem_of_getElem? (i := 133) rfl)) rfl
theorem w_1094 : Cond.code yX6_isBarred cX6_isBarred 1 (some .boolean) ∈ aW := aw_t (ti_5 (List.mem_of_getElem? (i := 134) rfl)) rfl
theorem w_1095 : Cond.constantLong RX6 181 (-1) ∈ aW := aw_t (ti_5 (List.mem_of_getElem? (i := 135) rfl)) rfl
theorem w_1096 : Cond.methodLink RX6 199 yX6_fail ∈ aW := aw_t (ti_5 (List.mem_of_getElem? (i := 136) rfl)) rfl
theorem w_1098 : Cond.instanceMethod yX6_fail ∈ aW := aw_t (ti_5 (List.mem_of_getElem? (i := 138) rfl)) rfl
theorem w_1099 : Cond.code yX6_fail cX6_fail 2 (some .int) ∈ aW := aw_t (ti_5 (List.mem_of_getElem? (i := 139) rfl)) rfl
theorem w_1100 : Cond.methodLink RL 75 yX6_matches ∈ aW := aw_t (ti_5 (List.mem_of_getElem? (i := 140) rfl)) rfl
theorem w_1101 : Cond.instanceMethod yX6_matches ∈ aW := aw_t (ti_5 (List.mem_of_getElem? (i := 141) rfl)) rfl
theorem w_1102 : Cond.selects RX6 yX6_matches yX6_matches ∈ aW := aw_t (ti_5 (List.mem_of_getElem? (i := 142) rfl)) rfl
theorem w_1103 : Cond.code yX6_matches cX6_matches 1 (some .boolean) ∈ aW := aw_t (ti_5 (List.mem_of_getElem? (i := 143) rfl)) rfl
theorem w_1104 : Cond.methodLink RX6 293 yX6_run ∈ aW := aw_t (ti_5 (List.mem_of_getElem? (i := 144) rfl)) rfl
theorem w_1106 : Cond.instanceMethod yX6_run ∈ aW := aw_t (ti_5 (List.mem_of_getElem? (i := 146) rfl)) rfl
theorem w_1107 : Cond.code yX6_run cX6_run 4 (some .boolean) ∈ aW := aw_t (ti_5 (List.mem_of_getElem? (i := 147) rfl)) rfl
theorem w_1108 : Cond.methodLink RX6 223 yX6_link ∈ aW := aw_t (ti_5 (List.mem_of_getElem? (i := 148) rfl)) rfl
theorem w_1110 : Cond.instanceMethod yX6_link ∈ aW := aw_t (ti_5 (List.mem_of_getElem? (i := 150) rfl)) rfl
theorem w_1111 : Cond.code yX6_link cX6_link 5 (some .int) ∈ aW := aw_t (ti_5 (List.mem_of_getElem? (i := 151) rfl)) rfl
theorem w_1112 : Cond.methodLink RX6 236 yX6_goOn ∈ aW := aw_t (ti_5 (List.mem_of_getElem? (i := 152) rfl)) rfl
theorem w_1114 : Cond.instanceMethod yX6_goOn ∈ aW := aw_t (ti_5 (List.mem_of_getElem? (i := 154) rfl)) rfl
theorem w_1115 : Cond.code yX6_goOn cX6_goOn 2 (some .boolean) ∈ aW := aw_t (ti_5 (List.mem_of_getElem? (i := 155) rfl)) rfl
theorem w_1116 : Cond.methodLink RX6 290 yX6_keep ∈ aW := aw_t (ti_5 (List.mem_of_getElem? (i := 156) rfl)) rfl
theorem w_1118 : Cond.instanceMethod yX6_keep ∈ aW := aw_t (ti_5 (List.mem_of_getElem? (i := 158) rfl)) rfl
theorem w_1119 : Cond.code yX6_keep cX6_keep 2 (some .boolean) ∈ aW := aw_t (ti_5 (List.mem_of_getElem? (i := 159) rfl)) rfl
theorem w_1120 : Cond.methodLink RX6 280 yX6_pieces ∈ aW := aw_t (ti_5 (List.mem_of_getElem? (i := 160) rfl)) rfl
theorem w_1122 : Cond.instanceMethod yX6_pieces ∈ aW := aw_t (ti_5 (List.mem_of_getElem? (i := 162) rfl)) rfl
theorem w_1123 : Cond.code yX6_pieces cX6_pieces 2 (some .boolean) ∈ aW := aw_t (ti_5 (List.mem_of_getElem? (i := 163) rfl)) rfl
theorem w_1124 : Cond.methodLink RX6 286 yX6_turn ∈ aW := aw_t (ti_5 (List.mem_of_getElem? (i := 164) rfl)) rfl
theorem w_1126 : Cond.instanceMethod yX6_turn ∈ aW := aw_t (ti_5 (List.mem_of_getElem? (i := 166) rfl)) rfl
theorem w_1127 : Cond.code yX6_turn cX6_turn 5 (some .boolean) ∈ aW := aw_t (ti_5 (List.mem_of_getElem? (i := 167) rfl)) rfl
theorem w_1128 : Cond.methodLink RX6 245 yX6_goThrough ∈ aW := aw_t (ti_5 (List.mem_of_getElem? (i := 168) rfl)) rfl
theorem w_1130 : Cond.instanceMethod yX6_goThrough ∈ aW := aw_t (ti_5 (List.mem_of_getElem? (i := 170) rfl)) rfl
theorem w_1131 : Cond.code yX6_goThrough cX6_goThrough 3 none ∈ aW := aw_t (ti_5 (List.mem_of_getElem? (i := 171) rfl)) rfl
theorem w_1132 : Cond.methodLink RX6 276 yX6_otherWay ∈ aW := aw_t (ti_5 (List.mem_of_getElem? (i := 172) rfl)) rfl
theorem w_1134 : Cond.instanceMethod yX6_otherWay ∈ aW := aw_t (ti_5 (List.mem_of_getElem? (i := 174) rfl)) rfl
theorem w_1135 : Cond.code yX6_otherWay cX6_otherWay 6 none ∈ aW := aw_t (ti_5 (List.mem_of_getElem? (i := 175) rfl)) rfl
theorem w_1136 : Cond.methodLink RX6 239 yX6_enter ∈ aW := aw_t (ti_5 (List.mem_of_getElem? (i := 176) rfl)) rfl
theorem w_1138 : Cond.instanceMethod yX6_enter ∈ aW := aw_t (ti_5 (List.mem_of_getElem? (i := 178) rfl)) rfl
theorem w_1139 : Cond.code yX6_enter cX6_enter 2 (some .boolean) ∈ aW := aw_t (ti_5 (List.mem_of_getElem? (i := 179) rfl)) rfl
theorem w_1140 : Cond.methodLink RX6 251 yX6_into ∈ aW := aw_t (ti_5 (List.mem_of_getElem? (i := 180) rfl)) rfl
theorem w_1142 : Cond.instanceMethod yX6_into ∈ aW := aw_t (ti_5 (List.mem_of_getElem? (i := 182) rfl)) rfl
theorem w_1143 : Cond.code yX6_into cX6_into 3 (some .boolean) ∈ aW := aw_t (ti_5 (List.mem_of_getElem? (i := 183) rfl)) rfl
theorem w_1144 : Cond.methodLink RX6 255 yX6_begin ∈ aW := aw_t (ti_5 (List.mem_of_getElem? (i := 184) rfl)) rfl
theorem w_1146 : Cond.instanceMethod yX6_begin ∈ aW := aw_t (ti_5 (List.mem_of_getElem? (i := 186) rfl)) rfl
theorem w_1147 : Cond.code yX6_begin cX6_begin 2 (some .boolean) ∈ aW := aw_t (ti_5 (List.mem_of_getElem? (i := 187) rfl)) rfl
theorem w_1148 : Cond.methodLink RX6 258 yX6_one ∈ aW := aw_t (ti_5 (List.mem_of_getElem? (i := 188) rfl)) rfl
theorem w_1150 : Cond.instanceMethod yX6_one ∈ aW := aw_t (ti_5 (List.mem_of_getElem? (i := 190) rfl)) rfl
theorem w_1151 : Cond.code yX6_one cX6_one 3 (some .boolean) ∈ aW := aw_t (ti_5 (List.mem_of_getElem? (i := 191) rfl)) rfl
theorem w_1152 : Cond.methodLink RX6 214 yX6_character ∈ aW := aw_t (ti_5 (List.mem_of_getElem? (i := 192) rfl)) rfl
theorem w_1154 : Cond.instanceMethod yX6_character ∈ aW := aw_t (ti_5 (List.mem_of_getElem? (i := 194) rfl)) rfl
theorem w_1155 : Cond.code yX6_character cX6_character 2 (some .int) ∈ aW := aw_t (ti_5 (List.mem_of_getElem? (i := 195) rfl)) rfl
theorem w_1156 : Cond.methodLink RX6 283 yX6_includes ∈ aW := aw_t (ti_5 (List.mem_of_getElem? (i := 196) rfl)) rfl
theorem w_1158 : Cond.instanceMethod yX6_includes ∈ aW := aw_t (ti_5 (List.mem_of_getElem? (i := 198) rfl)) rfl
theorem w_1159 : Cond.code yX6_includes cX6_includes 3 (some .boolean) ∈ aW := aw_t (ti_5 (List.mem_of_getElem? (i := 199) rfl)) rfl
theorem w_1160 : Cond.methodLink RX6 261 yX6_isWordAt ∈ aW := aw_t (ti_5 (List.mem_of_getElem? (i := 200) rfl)) rfl
theorem w_1162 : Cond.instanceMethod yX6_isWordAt ∈ aW := aw_t (ti_5 (List.mem_of_getElem? (i := 202) rfl)) rfl
theorem w_1163 : Cond.code yX6_isWordAt cX6_isWordAt 2 (some .boolean) ∈ aW := aw_t (ti_5 (List.mem_of_getElem? (i := 203) rfl)) rfl
theorem w_1164 : Cond.methodLink RX6 264 yX6_again ∈ aW := aw_t (ti_5 (List.mem_of_getElem? (i := 204) rfl)) rfl
theorem w_1166 : Cond.instanceMethod yX6_again ∈ aW := aw_t (ti_5 (List.mem_of_getElem? (i := 206) rfl)) rfl
theorem w_1167 : Cond.code yX6_again cX6_again 5 (some .boolean) ∈ aW := aw_t (ti_5 (List.mem_of_getElem? (i := 207) rfl)) rfl
theorem w_1168 : Cond.methodLink RX6 267 yX6_beginLoop ∈ aW := aw_t (ti_5 (List.mem_of_getElem? (i := 208) rfl)) rfl
theorem w_1170 : Cond.instanceMethod yX6_beginLoop ∈ aW := aw_t (ti_5 (List.mem_of_getElem? (i := 210) rfl)) rfl
theorem w_1171 : Cond.code yX6_beginLoop cX6_beginLoop 2 (some .boolean) ∈ aW := aw_t (ti_5 (List.mem_of_getElem? (i := 211) rfl)) rfl
theorem w_1172 : Cond.methodLink RX6 270 yX6_notAhead ∈ aW := aw_t (ti_5 (List.mem_of_getElem? (i := 212) rfl)) rfl
theorem w_1174 : Cond.instanceMethod yX6_notAhead ∈ aW := aw_t (ti_5 (List.mem_of_getElem? (i := 214) rfl)) rfl
theorem w_1175 : Cond.code yX6_notAhead cX6_notAhead 3 (some .boolean) ∈ aW := aw_t (ti_5 (List.mem_of_getElem? (i := 215) rfl)) rfl
theorem w_1176 : Cond.methodLink RX6 273 yX6_look ∈ aW := aw_t (ti_5 (List.mem_of_getElem? (i := 216) rfl)) rfl
theorem w_1178 : Cond.instanceMethod yX6_look ∈ aW := aw_t (ti_5 (List.mem_of_getElem? (i := 218) rfl)) rfl
theorem w_1179 : Cond.code yX6_look cX6_look 3 (some .boolean) ∈ aW := aw_t (ti_5 (List.mem_of_getElem? (i := 219) rfl)) rfl
theorem w_1180 : Cond.methodLink RX6 248 yX6_before ∈ aW := aw_t (ti_5 (List.mem_of_getElem? (i := 220) rfl)) rfl
theorem w_1182 : Cond.instanceMethod yX6_before ∈ aW := aw_t (ti_5 (List.mem_of_getElem? (i := 222) rfl)) rfl
theorem w_1183 : Cond.code yX6_before cX6_before 3 none ∈ aW := aw_t (ti_5 (List.mem_of_getElem? (i := 223) rfl)) rfl
theorem w_1184 : Cond.methodLink RX6 242 yX6_back ∈ aW := aw_t (ti_5 (List.mem_of_getElem? (i := 224) rfl)) rfl
theorem w_1186 : Cond.instanceMethod yX6_back ∈ aW := aw_t (ti_5 (List.mem_of_getElem? (i := 226) rfl)) rfl
theorem w_1187 : Cond.code yX6_back cX6_back 2 none ∈ aW := aw_t (ti_5 (List.mem_of_getElem? (i := 227) rfl)) rfl
theorem w_1188 : Cond.methodLink RX6 297 yX6_note ∈ aW := aw_t (ti_5 (List.mem_of_getElem? (i := 228) rfl)) rfl
theorem w_1190 : Cond.instanceMethod yX6_note ∈ aW := aw_t (ti_5 (List.mem_of_getElem? (i := 230) rfl)) rfl
theorem w_1191 : Cond.code yX6_note cX6_note 3 none ∈ aW := aw_t (ti_5 (List.mem_of_getElem? (i := 231) rfl)) rfl
theorem w_1192 : Cond.methodLink RL 78 yX6_looking ∈ aW := aw_t (ti_5 (List.mem_of_getElem? (i := 232) rfl)) rfl
theorem w_1193 : Cond.instanceMethod yX6_looking ∈ aW := aw_t (ti_5 (List.mem_of_getElem? (i := 233) rfl)) rfl
theorem w_1194 : Cond.selects RX6 yX6_looking yX6_looking ∈ aW := aw_t (ti_5 (List.mem_of_getElem? (i := 234) rfl)) rfl
theorem w_1195 : Cond.code yX6_looking cX6_looking 1 (some .boolean) ∈ aW := aw_t (ti_5 (List.mem_of_getElem? (i := 235) rfl)) rfl
theorem w_1196 : Cond.methodLink RL 82 yX6_find ∈ aW := aw_t (ti_5 (List.mem_of_getElem? (i := 236) rfl)) rfl
theorem w_1197 : Cond.instanceMethod yX6_find ∈ aW := aw_t (ti_5 (List.mem_of_getElem? (i := 237) rfl)) rfl
theorem w_1198 : Cond.selects RX6 yX6_find yX6_find ∈ aW := aw_t (ti_5 (List.mem_of_getElem? (i := 238) rfl)) rfl
theorem w_1199 : Cond.code yX6_find cX6_find 2 (some .int) ∈ aW := aw_t (ti_5 (List.mem_of_getElem? (i := 239) rfl)) rfl
theorem w_1200 : Cond.methodLink RX6 301 yX6_search ∈ aW := aw_t (ti_6 (List.mem_of_getElem? (i := 0) rfl)) rfl
theorem w_1202 : Cond.instanceMethod yX6_search ∈ aW := aw_t (ti_6 (List.mem_of_getElem? (i := 2) rfl)) rfl
theorem w_1203 : Cond.code yX6_search cX6_search 3 (some .boolean) ∈ aW := aw_t (ti_6 (List.mem_of_getElem? (i := 3) rfl)) rfl
theorem w_1204 : Cond.methodLink RL 85 yX6_start ∈ aW := aw_t (ti_6 (List.mem_of_getElem? (i := 4) rfl)) rfl
theorem w_1205 : Cond.instanceMethod yX6_start ∈ aW := aw_t (ti_6 (List.mem_of_getElem? (i := 5) rfl)) rfl
theorem w_1206 : Cond.selects RX6 yX6_start yX6_start ∈ aW := aw_t (ti_6 (List.mem_of_getElem? (i := 6) rfl)) rfl
theorem w_1207 : Cond.code yX6_start cX6_start 2 (some .int) ∈ aW := aw_t (ti_6 (List.mem_of_getElem? (i := 7) rfl)) rfl
theorem w_1208 : Cond.methodLink RX6 304 yX6_spanOf ∈ aW := aw_t (ti_6 (List.mem_of_getElem? (i := 8) rfl)) rfl
theorem w_1210 : Cond.instanceMethod yX6_spanOf ∈ aW := aw_t (ti_6 (List.mem_of_getElem? (i := 10) rfl)) rfl
theorem w_1211 : Cond.code yX6_spanOf cX6_spanOf 3 (some .int) ∈ aW := aw_t (ti_6 (List.mem_of_getElem? (i := 11) rfl)) rfl
theorem w_1212 : Cond.methodLink RL 88 yX6_end ∈ aW := aw_t (ti_6 (List.mem_of_getElem? (i := 12) rfl)) rfl
theorem w_1213 : Cond.instanceMethod yX6_end ∈ aW := aw_t (ti_6 (List.mem_of_getElem? (i := 13) rfl)) rfl
theorem w_1214 : Cond.selects RX6 yX6_end yX6_end ∈ aW := aw_t (ti_6 (List.mem_of_getElem? (i := 14) rfl)) rfl
theorem w_1215 : Cond.code yX6_end cX6_end 2 (some .int) ∈ aW := aw_t (ti_6 (List.mem_of_getElem? (i := 15) rfl)) rfl
theorem w_1216 : Cond.methodLink RL 91 yX6_replace ∈ aW := aw_t (ti_6 (List.mem_of_getElem? (i := 16) rfl)) rfl
theorem w_1217 : Cond.instanceMethod yX6_replace ∈ aW := aw_t (ti_6 (List.mem_of_getElem? (i := 17) rfl)) rfl
theorem w_1218 : Cond.selects RX6 yX6_replace yX6_replace ∈ aW := aw_t (ti_6 (List.mem_of_getElem? (i := 18) rfl)) rfl
theorem w_1219 : Cond.code yX6_replace cX6_replace 3 (some .int) ∈ aW := aw_t (ti_6 (List.mem_of_getElem? (i := 19) rfl)) rfl
theorem w_1220 : Cond.methodLink RX6 317 yX6_faultOfTemplate ∈ aW := aw_t (ti_6 (List.mem_of_getElem? (i := 20) rfl)) rfl
theorem w_1222 : Cond.instanceMethod yX6_faultOfTemplate ∈ aW := aw_t (ti_6 (List.mem_of_getElem? (i := 22) rfl)) rfl
theorem w_1223 : Cond.code yX6_faultOfTemplate cX6_faultOfTemplate 5 (some .int) ∈ aW := aw_t (ti_6 (List.mem_of_getElem? (i := 23) rfl)) rfl
theorem w_1224 : Cond.methodLink RX6 314 yX6_putText ∈ aW := aw_t (ti_6 (List.mem_of_getElem? (i := 24) rfl)) rfl
theorem w_1226 : Cond.instanceMethod yX6_putText ∈ aW := aw_t (ti_6 (List.mem_of_getElem? (i := 26) rfl)) rfl
theorem w_1227 : Cond.code yX6_putText cX6_putText 4 none ∈ aW := aw_t (ti_6 (List.mem_of_getElem? (i := 27) rfl)) rfl
theorem w_1228 : Cond.methodLink RX6 311 yX6_put ∈ aW := aw_t (ti_6 (List.mem_of_getElem? (i := 28) rfl)) rfl
theorem w_1230 : Cond.instanceMethod yX6_put ∈ aW := aw_t (ti_6 (List.mem_of_getElem? (i := 30) rfl)) rfl
theorem w_1231 : Cond.code yX6_put cX6_put 2 none ∈ aW := aw_t (ti_6 (List.mem_of_getElem? (i := 31) rfl)) rfl
theorem w_1232 : Cond.methodLink RX6 320 yX6_putTemplate ∈ aW := aw_t (ti_6 (List.mem_of_getElem? (i := 32) rfl)) rfl
theorem w_1234 : Cond.instanceMethod yX6_putTemplate ∈ aW := aw_t (ti_6 (List.mem_of_getElem? (i := 34) rfl)) rfl
theorem w_1235 : Cond.code yX6_putTemplate cX6_putTemplate 4 none ∈ aW := aw_t (ti_6 (List.mem_of_getElem? (i := 35) rfl)) rfl
theorem w_1236 : Cond.methodLink RX6 323 yX6_behindMatch ∈ aW := aw_t (ti_6 (List.mem_of_getElem? (i := 36) rfl)) rfl
theorem w_1238 : Cond.instanceMethod yX6_behindMatch ∈ aW := aw_t (ti_6 (List.mem_of_getElem? (i := 38) rfl)) rfl
theorem w_1239 : Cond.code yX6_behindMatch cX6_behindMatch 1 (some .int) ∈ aW := aw_t (ti_6 (List.mem_of_getElem? (i := 39) rfl)) rfl
theorem w_1240 : Cond.methodLink RL 94 yX6_replaced ∈ aW := aw_t (ti_6 (List.mem_of_getElem? (i := 40) rfl)) rfl
theorem w_1241 : Cond.instanceMethod yX6_replaced ∈ aW := aw_t (ti_6 (List.mem_of_getElem? (i := 41) rfl)) rfl
theorem w_1242 : Cond.selects RX6 yX6_replaced yX6_replaced ∈ aW := aw_t (ti_6 (List.mem_of_getElem? (i := 42) rfl)) rfl
theorem w_1243 : Cond.code yX6_replaced cX6_replaced 2 (some .char) ∈ aW := aw_t (ti_6 (List.mem_of_getElem? (i := 43) rfl)) rfl
theorem w_1244 : Cond.methodLink RL 97 yX6_split ∈ aW := aw_t (ti_6 (List.mem_of_getElem? (i := 44) rfl)) rfl
theorem w_1245 : Cond.instanceMethod yX6_split ∈ aW := aw_t (ti_6 (List.mem_of_getElem? (i := 45) rfl)) rfl
theorem w_1246 : Cond.selects RX6 yX6_split yX6_split ∈ aW := aw_t (ti_6 (List.mem_of_getElem? (i := 46) rfl)) rfl
theorem w_1247 : Cond.code yX6_split cX6_split 4 (some .int) ∈ aW := aw_t (ti_6 (List.mem_of_getElem? (i := 47) rfl)) rfl
theorem w_1248 : Cond.methodLink RL 101 yX6_piece ∈ aW := aw_t (ti_6 (List.mem_of_getElem? (i := 48) rfl)) rfl
theorem w_1249 : Cond.instanceMethod yX6_piece ∈ aW := aw_t (ti_6 (List.mem_of_getElem? (i := 49) rfl)) rfl
theorem w_1250 : Cond.selects RX6 yX6_piece yX6_piece ∈ aW := aw_t (ti_6 (List.mem_of_getElem? (i := 50) rfl)) rfl
theorem w_1251 : Cond.code yX6_piece cX6_piece 3 (some .int) ∈ aW := aw_t (ti_6 (List.mem_of_getElem? (i := 51) rfl)) rfl
theorem w_1253 : Cond.fieldLink "java/lang/String" 15 "java/lang/String" "coder" "B" ∈ aW := aw_t (ti_6 (List.mem_of_getElem? (i := 53) rfl)) rfl
theorem w_1254 : Cond.fieldLink "java/lang/String" 9 "java/lang/String" "value" "[B" ∈ aW := aw_t (ti_6 (List.mem_of_getElem? (i := 54) rfl)) rfl
theorem pi_1 {q : MethodName × Nat} (h : q ∈ lw_privs_1) : q ∈ lw_privs := List.mem_append_left _ h
theorem pi_2 {q : MethodName × Nat} (h : q ∈ lw_privs_2) : q ∈ lw_privs := List.mem_append_right _ (List.mem_append_left _ h)
theorem pi_3 {q : MethodName × Nat} (h : q ∈ lw_privs_3) : q ∈ lw_privs := List.mem_append_right _ (List.mem_append_right _ (List.mem_append_left _ h))
theorem pi_4 {q : MethodName × Nat} (h : q ∈ lw_privs_4) : q ∈ lw_privs := List.mem_append_right _ (List.mem_append_right _ (List.mem_append_right _ (List.mem_append_left _ h)))
theorem pi_5 {q : MethodName × Nat} (h : q ∈ lw_privs_5) : q ∈ lw_privs := List.mem_append_right _ (List.mem_append_right _ (List.mem_append_right _ (List.mem_append_right _ (List.mem_append_left _ h))))
theorem pi_6 {q : MethodName × Nat} (h : q ∈ lw_privs_6) : q ∈ lw_privs := List.mem_append_right _ (List.mem_append_right _ (List.mem_append_right _ (List.mem_append_right _ (List.mem_append_right _ (List.mem_append_left _ h)))))
theorem pi_7 {q : MethodName × Nat} (h : q ∈ lw_privs_7) : q ∈ lw_privs := List.mem_append_right _ (List.mem_append_right _ (List.mem_append_right _ (List.mem_append_right _ (List.mem_append_right _ (List.mem_append_right _ (h))))))
theorem ws_X5_forgetMatchIfText : Cond.selects RX5 yX5_forgetMatchIfText yX5_forgetMatchIfText ∈ aW := aw_s (n := 13) (pi_1 (List.mem_of_getElem? (i := 0) rfl))
theorem ws_X2_add : Cond.selects RX2 yX2_add yX2_add ∈ aW := aw_s (n := 10) (pi_1 (List.mem_of_getElem? (i := 1) rfl))
theorem ws_X2_choice : Cond.selects RX2 yX2_choice yX2_choice ∈ aW := aw_s (n := 10) (pi_1 (List.mem_of_getElem? (i := 2) rfl))
theorem ws_X2_sequence : Cond.selects RX2 yX2_sequence yX2_sequence ∈ aW := aw_s (n := 10) (pi_1 (List.mem_of_getElem? (i := 3) rfl))
theorem ws_X2_isSequenceOver : Cond.selects RX2 yX2_isSequenceOver yX2_isSequenceOver ∈ aW := aw_s (n := 10) (pi_1 (List.mem_of_getElem? (i := 4) rfl))
theorem ws_X2_onePiece : Cond.selects RX2 yX2_onePiece yX2_onePiece ∈ aW := aw_s (n := 10) (pi_1 (List.mem_of_getElem? (i := 5) rfl))
theorem ws_X2_atom : Cond.selects RX2 yX2_atom yX2_atom ∈ aW := aw_s (n := 10) (pi_1 (List.mem_of_getElem? (i := 6) rfl))
theorem ws_X2_bracket : Cond.selects RX2 yX2_bracket yX2_bracket ∈ aW := aw_s (n := 10) (pi_1 (List.mem_of_getElem? (i := 7) rfl))
theorem ws_X2_refuse : Cond.selects RX2 yX2_refuse yX2_refuse ∈ aW := aw_s (n := 10) (pi_1 (List.mem_of_getElem? (i := 8) rfl))
theorem ws_X2_take : Cond.selects RX2 yX2_take yX2_take ∈ aW := aw_s (n := 10) (pi_1 (List.mem_of_getElem? (i := 9) rfl))
theorem ws_X2_group : Cond.selects RX2 yX2_group yX2_group ∈ aW := aw_s (n := 10) (pi_1 (List.mem_of_getElem? (i := 10) rfl))
theorem ws_X2_closedChoice : Cond.selects RX2 yX2_closedChoice yX2_closedChoice ∈ aW := aw_s (n := 10) (pi_1 (List.mem_of_getElem? (i := 11) rfl))
theorem ws_X2_expect : Cond.selects RX2 yX2_expect yX2_expect ∈ aW := aw_s (n := 10) (pi_1 (List.mem_of_getElem? (i := 12) rfl))
theorem ws_X2_together : Cond.selects RX2 yX2_together yX2_together ∈ aW := aw_s (n := 10) (pi_1 (List.mem_of_getElem? (i := 13) rfl))
theorem ws_X2_withBody : Cond.selects RX2 yX2_withBody yX2_withBody ∈ aW := aw_s (n := 10) (pi_1 (List.mem_of_getElem? (i := 14) rfl))
theorem ws_X2_single : Cond.selects RX2 yX2_single yX2_single ∈ aW := aw_s (n := 10) (pi_1 (List.mem_of_getElem? (i := 15) rfl))
theorem ws_X2_look : Cond.selects RX2 yX2_look yX2_look ∈ aW := aw_s (n := 10) (pi_2 (List.mem_of_getElem? (i := 0) rfl))
theorem ws_X2_items : Cond.selects RX2 yX2_items yX2_items ∈ aW := aw_s (n := 10) (pi_2 (List.mem_of_getElem? (i := 1) rfl))
theorem ws_X2_item : Cond.selects RX2 yX2_item yX2_item ∈ aW := aw_s (n := 10) (pi_2 (List.mem_of_getElem? (i := 2) rfl))
theorem ws_X2_escapedItem : Cond.selects RX2 yX2_escapedItem yX2_escapedItem ∈ aW := aw_s (n := 10) (pi_2 (List.mem_of_getElem? (i := 3) rfl))
theorem ws_X2_addItem : Cond.selects RX2 yX2_addItem yX2_addItem ∈ aW := aw_s (n := 10) (pi_2 (List.mem_of_getElem? (i := 4) rfl))
theorem ws_X2_set : Cond.selects RX2 yX2_set yX2_set ∈ aW := aw_s (n := 10) (pi_2 (List.mem_of_getElem? (i := 5) rfl))
theorem ws_X2_escaped : Cond.selects RX2 yX2_escaped yX2_escaped ∈ aW := aw_s (n := 10) (pi_2 (List.mem_of_getElem? (i := 6) rfl))
theorem ws_X2_backReference : Cond.selects RX2 yX2_backReference yX2_backReference ∈ aW := aw_s (n := 10) (pi_2 (List.mem_of_getElem? (i := 7) rfl))
theorem ws_X2_character : Cond.selects RX2 yX2_character yX2_character ∈ aW := aw_s (n := 10) (pi_2 (List.mem_of_getElem? (i := 8) rfl))
theorem ws_X2_readLoop : Cond.selects RX2 yX2_readLoop yX2_readLoop ∈ aW := aw_s (n := 10) (pi_2 (List.mem_of_getElem? (i := 9) rfl))
theorem ws_X2_readCounts : Cond.selects RX2 yX2_readCounts yX2_readCounts ∈ aW := aw_s (n := 10) (pi_2 (List.mem_of_getElem? (i := 10) rfl))
theorem ws_X2_count : Cond.selects RX2 yX2_count yX2_count ∈ aW := aw_s (n := 10) (pi_2 (List.mem_of_getElem? (i := 11) rfl))
theorem ws_X5_match : Cond.selects RX5 yX5_match yX5_match ∈ aW := aw_s (n := 13) (pi_2 (List.mem_of_getElem? (i := 13) rfl))
theorem ws_X4_run : Cond.selects RX4 yX4_run yX4_run ∈ aW := aw_s (n := 13) (pi_2 (List.mem_of_getElem? (i := 14) rfl))
theorem ws_X4_takeWaiting : Cond.selects RX4 yX4_takeWaiting yX4_takeWaiting ∈ aW := aw_s (n := 13) (pi_2 (List.mem_of_getElem? (i := 15) rfl))
theorem ws_X4_step : Cond.selects RX4 yX4_step yX4_step ∈ aW := aw_s (n := 13) (pi_3 (List.mem_of_getElem? (i := 0) rfl))
theorem ws_X4_takeCharacter : Cond.selects RX4 yX4_takeCharacter yX4_takeCharacter ∈ aW := aw_s (n := 13) (pi_3 (List.mem_of_getElem? (i := 1) rfl))
theorem ws_X4_moveTo : Cond.selects RX4 yX4_moveTo yX4_moveTo ∈ aW := aw_s (n := 13) (pi_3 (List.mem_of_getElem? (i := 2) rfl))
theorem ws_X4_isEdge : Cond.selects RX4 yX4_isEdge yX4_isEdge ∈ aW := aw_s (n := 13) (pi_3 (List.mem_of_getElem? (i := 3) rfl))
theorem ws_X4_takeSpanAgain : Cond.selects RX4 yX4_takeSpanAgain yX4_takeSpanAgain ∈ aW := aw_s (n := 13) (pi_3 (List.mem_of_getElem? (i := 4) rfl))
theorem ws_X4_letWait : Cond.selects RX4 yX4_letWait yX4_letWait ∈ aW := aw_s (n := 13) (pi_3 (List.mem_of_getElem? (i := 5) rfl))
theorem ws_X4_packed : Cond.selects RX4 yX4_packed yX4_packed ∈ aW := aw_s (n := 13) (pi_3 (List.mem_of_getElem? (i := 6) rfl))
theorem ws_X4_withLoop : Cond.selects RX4 yX4_withLoop yX4_withLoop ∈ aW := aw_s (n := 13) (pi_3 (List.mem_of_getElem? (i := 7) rfl))
theorem ws_X4_wasHere : Cond.selects RX4 yX4_wasHere yX4_wasHere ∈ aW := aw_s (n := 13) (pi_3 (List.mem_of_getElem? (i := 8) rfl))
theorem ws_X4_isOver : Cond.selects RX4 yX4_isOver yX4_isOver ∈ aW := aw_s (n := 13) (pi_3 (List.mem_of_getElem? (i := 9) rfl))
theorem ws_X4_loop : Cond.selects RX4 yX4_loop yX4_loop ∈ aW := aw_s (n := 13) (pi_3 (List.mem_of_getElem? (i := 10) rfl))
theorem ws_X4_goTo : Cond.selects RX4 yX4_goTo yX4_goTo ∈ aW := aw_s (n := 13) (pi_3 (List.mem_of_getElem? (i := 11) rfl))
theorem ws_X4_look : Cond.selects RX4 yX4_look yX4_look ∈ aW := aw_s (n := 13) (pi_3 (List.mem_of_getElem? (i := 12) rfl))
theorem ws_X4_lookBehind : Cond.selects RX4 yX4_lookBehind yX4_lookBehind ∈ aW := aw_s (n := 13) (pi_3 (List.mem_of_getElem? (i := 13) rfl))
theorem ws_X4_atomic : Cond.selects RX4 yX4_atomic yX4_atomic ∈ aW := aw_s (n := 13) (pi_3 (List.mem_of_getElem? (i := 14) rfl))
theorem ws_X5_isGroup : Cond.selects RX5 yX5_isGroup yX5_isGroup ∈ aW := aw_s (n := 13) (pi_3 (List.mem_of_getElem? (i := 15) rfl))
theorem ws_X5_groupFrom : Cond.selects RX5 yX5_groupFrom yX5_groupFrom ∈ aW := aw_s (n := 13) (pi_4 (List.mem_of_getElem? (i := 0) rfl))
theorem ws_X5_groupTo : Cond.selects RX5 yX5_groupTo yX5_groupTo ∈ aW := aw_s (n := 13) (pi_4 (List.mem_of_getElem? (i := 1) rfl))
theorem ws_X5_templateFault : Cond.selects RX5 yX5_templateFault yX5_templateFault ∈ aW := aw_s (n := 13) (pi_4 (List.mem_of_getElem? (i := 2) rfl))
theorem ws_X5_makeFromText : Cond.selects RX5 yX5_makeFromText yX5_makeFromText ∈ aW := aw_s (n := 13) (pi_4 (List.mem_of_getElem? (i := 3) rfl))
theorem ws_X5_makeFromTemplate : Cond.selects RX5 yX5_makeFromTemplate yX5_makeFromTemplate ∈ aW := aw_s (n := 13) (pi_4 (List.mem_of_getElem? (i := 4) rfl))
theorem ws_X5_placeAfterMatch : Cond.selects RX5 yX5_placeAfterMatch yX5_placeAfterMatch ∈ aW := aw_s (n := 13) (pi_4 (List.mem_of_getElem? (i := 5) rfl))
theorem ws_X5_addPiece : Cond.selects RX5 yX5_addPiece yX5_addPiece ∈ aW := aw_s (n := 13) (pi_4 (List.mem_of_getElem? (i := 6) rfl))
theorem ws_X5_dropEmptyPiecesAtEnd : Cond.selects RX5 yX5_dropEmptyPiecesAtEnd yX5_dropEmptyPiecesAtEnd ∈ aW := aw_s (n := 13) (pi_4 (List.mem_of_getElem? (i := 7) rfl))
theorem ws_X6_read : Cond.selects RX6 yX6_read yX6_read ∈ aW := aw_s (n := 48) (pi_4 (List.mem_of_getElem? (i := 8) rfl))
theorem ws_X6_newChoice : Cond.selects RX6 yX6_newChoice yX6_newChoice ∈ aW := aw_s (n := 48) (pi_4 (List.mem_of_getElem? (i := 9) rfl))
theorem ws_X6_create : Cond.selects RX6 yX6_create yX6_create ∈ aW := aw_s (n := 48) (pi_4 (List.mem_of_getElem? (i := 10) rfl))
theorem ws_X6_newSequence : Cond.selects RX6 yX6_newSequence yX6_newSequence ∈ aW := aw_s (n := 48) (pi_4 (List.mem_of_getElem? (i := 11) rfl))
theorem ws_X6_peek : Cond.selects RX6 yX6_peek yX6_peek ∈ aW := aw_s (n := 48) (pi_4 (List.mem_of_getElem? (i := 12) rfl))
theorem ws_X6_bar : Cond.selects RX6 yX6_bar yX6_bar ∈ aW := aw_s (n := 48) (pi_4 (List.mem_of_getElem? (i := 13) rfl))
theorem ws_X6_bracket : Cond.selects RX6 yX6_bracket yX6_bracket ∈ aW := aw_s (n := 48) (pi_4 (List.mem_of_getElem? (i := 14) rfl))
theorem ws_X6_close : Cond.selects RX6 yX6_close yX6_close ∈ aW := aw_s (n := 48) (pi_4 (List.mem_of_getElem? (i := 15) rfl))
theorem ws_X6_loop : Cond.selects RX6 yX6_loop yX6_loop ∈ aW := aw_s (n := 48) (pi_5 (List.mem_of_getElem? (i := 0) rfl))
theorem ws_X6_append : Cond.selects RX6 yX6_append yX6_append ∈ aW := aw_s (n := 48) (pi_5 (List.mem_of_getElem? (i := 1) rfl))
theorem ws_X6_bounds : Cond.selects RX6 yX6_bounds yX6_bounds ∈ aW := aw_s (n := 48) (pi_5 (List.mem_of_getElem? (i := 2) rfl))
theorem ws_X6_atom : Cond.selects RX6 yX6_atom yX6_atom ∈ aW := aw_s (n := 48) (pi_5 (List.mem_of_getElem? (i := 3) rfl))
theorem ws_X6_escape : Cond.selects RX6 yX6_escape yX6_escape ∈ aW := aw_s (n := 48) (pi_5 (List.mem_of_getElem? (i := 4) rfl))
theorem ws_X6_includeKind : Cond.selects RX6 yX6_includeKind yX6_includeKind ∈ aW := aw_s (n := 48) (pi_5 (List.mem_of_getElem? (i := 5) rfl))
theorem ws_X6_include : Cond.selects RX6 yX6_include yX6_include ∈ aW := aw_s (n := 48) (pi_5 (List.mem_of_getElem? (i := 6) rfl))
theorem ws_X6_items : Cond.selects RX6 yX6_items yX6_items ∈ aW := aw_s (n := 48) (pi_5 (List.mem_of_getElem? (i := 7) rfl))
theorem ws_X6_item : Cond.selects RX6 yX6_item yX6_item ∈ aW := aw_s (n := 48) (pi_5 (List.mem_of_getElem? (i := 8) rfl))
theorem ws_X6_fail : Cond.selects RX6 yX6_fail yX6_fail ∈ aW := aw_s (n := 48) (pi_5 (List.mem_of_getElem? (i := 9) rfl))
theorem ws_X6_run : Cond.selects RX6 yX6_run yX6_run ∈ aW := aw_s (n := 48) (pi_5 (List.mem_of_getElem? (i := 10) rfl))
theorem ws_X6_link : Cond.selects RX6 yX6_link yX6_link ∈ aW := aw_s (n := 48) (pi_5 (List.mem_of_getElem? (i := 11) rfl))
theorem ws_X6_goOn : Cond.selects RX6 yX6_goOn yX6_goOn ∈ aW := aw_s (n := 48) (pi_5 (List.mem_of_getElem? (i := 12) rfl))
theorem ws_X6_keep : Cond.selects RX6 yX6_keep yX6_keep ∈ aW := aw_s (n := 48) (pi_5 (List.mem_of_getElem? (i := 13) rfl))
theorem ws_X6_pieces : Cond.selects RX6 yX6_pieces yX6_pieces ∈ aW := aw_s (n := 48) (pi_5 (List.mem_of_getElem? (i := 14) rfl))
theorem ws_X6_turn : Cond.selects RX6 yX6_turn yX6_turn ∈ aW := aw_s (n := 48) (pi_5 (List.mem_of_getElem? (i := 15) rfl))
theorem ws_X6_goThrough : Cond.selects RX6 yX6_goThrough yX6_goThrough ∈ aW := aw_s (n := 48) (pi_6 (List.mem_of_getElem? (i := 0) rfl))
theorem ws_X6_otherWay : Cond.selects RX6 yX6_otherWay yX6_otherWay ∈ aW := aw_s (n := 48) (pi_6 (List.mem_of_getElem? (i := 1) rfl))
theorem ws_X6_enter : Cond.selects RX6 yX6_enter yX6_enter ∈ aW := aw_s (n := 48) (pi_6 (List.mem_of_getElem? (i := 2) rfl))
theorem ws_X6_into : Cond.selects RX6 yX6_into yX6_into ∈ aW := aw_s (n := 48) (pi_6 (List.mem_of_getElem? (i := 3) rfl))
theorem ws_X6_begin : Cond.selects RX6 yX6_begin yX6_begin ∈ aW := aw_s (n := 48) (pi_6 (List.mem_of_getElem? (i := 4) rfl))
theorem ws_X6_one : Cond.selects RX6 yX6_one yX6_one ∈ aW := aw_s (n := 48) (pi_6 (List.mem_of_getElem? (i := 5) rfl))
theorem ws_X6_character : Cond.selects RX6 yX6_character yX6_character ∈ aW := aw_s (n := 48) (pi_6 (List.mem_of_getElem? (i := 6) rfl))
theorem ws_X6_includes : Cond.selects RX6 yX6_includes yX6_includes ∈ aW := aw_s (n := 48) (pi_6 (List.mem_of_getElem? (i := 7) rfl))
theorem ws_X6_isWordAt : Cond.selects RX6 yX6_isWordAt yX6_isWordAt ∈ aW := aw_s (n := 48) (pi_6 (List.mem_of_getElem? (i := 8) rfl))
theorem ws_X6_again : Cond.selects RX6 yX6_again yX6_again ∈ aW := aw_s (n := 48) (pi_6 (List.mem_of_getElem? (i := 9) rfl))
theorem ws_X6_beginLoop : Cond.selects RX6 yX6_beginLoop yX6_beginLoop ∈ aW := aw_s (n := 48) (pi_6 (List.mem_of_getElem? (i := 10) rfl))
theorem ws_X6_notAhead : Cond.selects RX6 yX6_notAhead yX6_notAhead ∈ aW := aw_s (n := 48) (pi_6 (List.mem_of_getElem? (i := 11) rfl))
theorem ws_X6_look : Cond.selects RX6 yX6_look yX6_look ∈ aW := aw_s (n := 48) (pi_6 (List.mem_of_getElem? (i := 12) rfl))
theorem ws_X6_before : Cond.selects RX6 yX6_before yX6_before ∈ aW := aw_s (n := 48) (pi_6 (List.mem_of_getElem? (i := 13) rfl))
theorem ws_X6_back : Cond.selects RX6 yX6_back yX6_back ∈ aW := aw_s (n := 48) (pi_6 (List.mem_of_getElem? (i := 14) rfl))
theorem ws_X6_note : Cond.selects RX6 yX6_note yX6_note ∈ aW := aw_s (n := 48) (pi_6 (List.mem_of_getElem? (i := 15) rfl))
theorem ws_X6_search : Cond.selects RX6 yX6_search yX6_search ∈ aW := aw_s (n := 48) (pi_7 (List.mem_of_getElem? (i := 0) rfl))
theorem ws_X6_spanOf : Cond.selects RX6 yX6_spanOf yX6_spanOf ∈ aW := aw_s (n := 48) (pi_7 (List.mem_of_getElem? (i := 1) rfl))
theorem ws_X6_faultOfTemplate : Cond.selects RX6 yX6_faultOfTemplate yX6_faultOfTemplate ∈ aW := aw_s (n := 48) (pi_7 (List.mem_of_getElem? (i := 2) rfl))
theorem ws_X6_putText : Cond.selects RX6 yX6_putText yX6_putText ∈ aW := aw_s (n := 48) (pi_7 (List.mem_of_getElem? (i := 3) rfl))
theorem ws_X6_put : Cond.selects RX6 yX6_put yX6_put ∈ aW := aw_s (n := 48) (pi_7 (List.mem_of_getElem? (i := 4) rfl))
theorem ws_X6_putTemplate : Cond.selects RX6 yX6_putTemplate yX6_putTemplate ∈ aW := aw_s (n := 48) (pi_7 (List.mem_of_getElem? (i := 5) rfl))
theorem ws_X6_behindMatch : Cond.selects RX6 yX6_behindMatch yX6_behindMatch ∈ aW := aw_s (n := 48) (pi_7 (List.mem_of_getElem? (i := 6) rfl))
theorem inX0 : ∀ w ∈ u_ws RX0 TX0 13, w ∈ aW := by
  show ∀ w ∈ [u_lay RX0 TX0 0, u_lay RX0 TX0 1, u_lay RX0 TX0 2, u_lay RX0 TX0 3, u_lay RX0 TX0 4, u_lay RX0 TX0 5, u_lay RX0 TX0 6, u_lay RX0 TX0 7, u_lay RX0 TX0 8, u_lay RX0 TX0 9, u_lay RX0 TX0 10, u_lay RX0 TX0 11, u_lay RX0 TX0 12], w ∈ aW
  exact List.forall_mem_cons.mpr ⟨w_90, List.forall_mem_cons.mpr ⟨w_92, List.forall_mem_cons.mpr ⟨w_94, List.forall_mem_cons.mpr ⟨w_96, List.forall_mem_cons.mpr ⟨w_98, List.forall_mem_cons.mpr ⟨w_100, List.forall_mem_cons.mpr ⟨w_102, List.forall_mem_cons.mpr ⟨w_104, List.forall_mem_cons.mpr ⟨w_106, List.forall_mem_cons.mpr ⟨w_108, List.forall_mem_cons.mpr ⟨w_110, List.forall_mem_cons.mpr ⟨w_112, List.forall_mem_cons.mpr ⟨w_114, fun _ h => absurd h List.not_mem_nil⟩⟩⟩⟩⟩⟩⟩⟩⟩⟩⟩⟩⟩
theorem inX1 : ∀ w ∈ u_ws RX1 TX1 5, w ∈ aW := by
  show ∀ w ∈ [u_lay RX1 TX1 0, u_lay RX1 TX1 1, u_lay RX1 TX1 2, u_lay RX1 TX1 3, u_lay RX1 TX1 4], w ∈ aW
  exact List.forall_mem_cons.mpr ⟨w_128, List.forall_mem_cons.mpr ⟨w_130, List.forall_mem_cons.mpr ⟨w_132, List.forall_mem_cons.mpr ⟨w_134, List.forall_mem_cons.mpr ⟨w_136, fun _ h => absurd h List.not_mem_nil⟩⟩⟩⟩⟩
theorem inX2 : ∀ w ∈ u_ws RX2 TX2 10, w ∈ aW := by
  show ∀ w ∈ [u_lay RX2 TX2 0, u_lay RX2 TX2 1, u_lay RX2 TX2 2, u_lay RX2 TX2 3, u_lay RX2 TX2 4, u_lay RX2 TX2 5, u_lay RX2 TX2 6, u_lay RX2 TX2 7, u_lay RX2 TX2 8, u_lay RX2 TX2 9], w ∈ aW
  exact List.forall_mem_cons.mpr ⟨w_285, List.forall_mem_cons.mpr ⟨w_287, List.forall_mem_cons.mpr ⟨w_289, List.forall_mem_cons.mpr ⟨w_291, List.forall_mem_cons.mpr ⟨w_293, List.forall_mem_cons.mpr ⟨w_295, List.forall_mem_cons.mpr ⟨w_297, List.forall_mem_cons.mpr ⟨w_299, List.forall_mem_cons.mpr ⟨w_301, List.forall_mem_cons.mpr ⟨w_303, fun _ h => absurd h List.not_mem_nil⟩⟩⟩⟩⟩⟩⟩⟩⟩⟩
theorem inX3 : ∀ w ∈ u_ws RX3 TX3 2, w ∈ aW := by
  show ∀ w ∈ [u_lay RX3 TX3 0, u_lay RX3 TX3 1], w ∈ aW
  exact List.forall_mem_cons.mpr ⟨w_42, List.forall_mem_cons.mpr ⟨w_44, fun _ h => absurd h List.not_mem_nil⟩⟩
theorem inX4 : ∀ w ∈ u_ws RX4 TX4 13, w ∈ aW := by
  show ∀ w ∈ [u_lay RX4 TX4 0, u_lay RX4 TX4 1, u_lay RX4 TX4 2, u_lay RX4 TX4 3, u_lay RX4 TX4 4, u_lay RX4 TX4 5, u_lay RX4 TX4 6, u_lay RX4 TX4 7, u_lay RX4 TX4 8, u_lay RX4 TX4 9, u_lay RX4 TX4 10, u_lay RX4 TX4 11, u_lay RX4 TX4 12], w ∈ aW
  exact List.forall_mem_cons.mpr ⟨w_156, List.forall_mem_cons.mpr ⟨w_158, List.forall_mem_cons.mpr ⟨w_160, List.forall_mem_cons.mpr ⟨w_162, List.forall_mem_cons.mpr ⟨w_164, List.forall_mem_cons.mpr ⟨w_166, List.forall_mem_cons.mpr ⟨w_168, List.forall_mem_cons.mpr ⟨w_170, List.forall_mem_cons.mpr ⟨w_172, List.forall_mem_cons.mpr ⟨w_174, List.forall_mem_cons.mpr ⟨w_176, List.forall_mem_cons.mpr ⟨w_178, List.forall_mem_cons.mpr ⟨w_180, fun _ h => absurd h List.not_mem_nil⟩⟩⟩⟩⟩⟩⟩⟩⟩⟩⟩⟩⟩
theorem inX5 : ∀ w ∈ u_ws RX5 TX5 13, w ∈ aW := by
  show ∀ w ∈ [u_lay RX5 TX5 0, u_lay RX5 TX5 1, u_lay RX5 TX5 2, u_lay RX5 TX5 3, u_lay RX5 TX5 4, u_lay RX5 TX5 5, u_lay RX5 TX5 6, u_lay RX5 TX5 7, u_lay RX5 TX5 8, u_lay RX5 TX5 9, u_lay RX5 TX5 10, u_lay RX5 TX5 11, u_lay RX5 TX5 12], w ∈ aW
  exact List.forall_mem_cons.mpr ⟨w_203, List.forall_mem_cons.mpr ⟨w_205, List.forall_mem_cons.mpr ⟨w_207, List.forall_mem_cons.mpr ⟨w_209, List.forall_mem_cons.mpr ⟨w_211, List.forall_mem_cons.mpr ⟨w_213, List.forall_mem_cons.mpr ⟨w_215, List.forall_mem_cons.mpr ⟨w_217, List.forall_mem_cons.mpr ⟨w_219, List.forall_mem_cons.mpr ⟨w_221, List.forall_mem_cons.mpr ⟨w_223, List.forall_mem_cons.mpr ⟨w_225, List.forall_mem_cons.mpr ⟨w_227, fun _ h => absurd h List.not_mem_nil⟩⟩⟩⟩⟩⟩⟩⟩⟩⟩⟩⟩⟩
theorem inX6 : ∀ w ∈ u_ws RX6 TX6 48, w ∈ aW := by
  show ∀ w ∈ [u_lay RX6 TX6 0, u_lay RX6 TX6 1, u_lay RX6 TX6 2, u_lay RX6 TX6 3, u_lay RX6 TX6 4, u_lay RX6 TX6 5, u_lay RX6 TX6 6, u_lay RX6 TX6 7, u_lay RX6 TX6 8, u_lay RX6 TX6 9, u_lay RX6 TX6 10, u_lay RX6 TX6 11, u_lay RX6 TX6 12, u_lay RX6 TX6 13, u_lay RX6 TX6 14, u_lay RX6 TX6 15, u_lay RX6 TX6 16, u_lay RX6 TX6 17, u_lay RX6 TX6 18, u_lay RX6 TX6 19, u_lay RX6 TX6 20, u_lay RX6 TX6 21, u_lay RX6 TX6 22, u_lay RX6 TX6 23, u_lay RX6 TX6 24, u_lay RX6 TX6 25, u_lay RX6 TX6 26, u_lay RX6 TX6 27, u_lay RX6 TX6 28, u_lay RX6 TX6 29, u_lay RX6 TX6 30, u_lay RX6 TX6 31, u_lay RX6 TX6 32, u_lay RX6 TX6 33, u_lay RX6 TX6 34, u_lay RX6 TX6 35, u_lay RX6 TX6 36, u_lay RX6 TX6 37, u_lay RX6 TX6 38, u_lay RX6 TX6 39, u_lay RX6 TX6 40, u_lay RX6 TX6 41, u_lay RX6 TX6 42, u_lay RX6 TX6 43, u_lay RX6 TX6 44, u_lay RX6 TX6 45, u_lay RX6 TX6 46, u_lay RX6 TX6 47], w ∈ aW
  exact List.forall_mem_cons.mpr ⟨w_894, List.forall_mem_cons.mpr ⟨w_896, List.forall_mem_cons.mpr ⟨w_898, List.forall_mem_cons.mpr ⟨w_900, List.forall_mem_cons.mpr ⟨w_902, List.forall_mem_cons.mpr ⟨w_904, List.forall_mem_cons.mpr ⟨w_906, List.forall_mem_cons.mpr ⟨w_908, List.forall_mem_cons.mpr ⟨w_910, List.forall_mem_cons.mpr ⟨w_912, List.forall_mem_cons.mpr ⟨w_914, List.forall_mem_cons.mpr ⟨w_916, List.forall_mem_cons.mpr ⟨w_918, List.forall_mem_cons.mpr ⟨w_920, List.forall_mem_cons.mpr ⟨w_922, List.forall_mem_cons.mpr ⟨w_924, List.forall_mem_cons.mpr ⟨w_926, List.forall_mem_cons.mpr ⟨w_928, List.forall_mem_cons.mpr ⟨w_930, List.forall_mem_cons.mpr ⟨w_932, List.forall_mem_cons.mpr ⟨w_934, List.forall_mem_cons.mpr ⟨w_936, List.forall_mem_cons.mpr ⟨w_938, List.forall_mem_cons.mpr ⟨w_940, List.forall_mem_cons.mpr ⟨w_942, List.forall_mem_cons.mpr ⟨w_944, List.forall_mem_cons.mpr ⟨w_946, List.forall_mem_cons.mpr ⟨w_948, List.forall_mem_cons.mpr ⟨w_950, List.forall_mem_cons.mpr ⟨w_952, List.forall_mem_cons.mpr ⟨w_954, List.forall_mem_cons.mpr ⟨w_956, List.forall_mem_cons.mpr ⟨w_958, List.forall_mem_cons.mpr ⟨w_960, List.forall_mem_cons.mpr ⟨w_962, List.forall_mem_cons.mpr ⟨w_964, List.forall_mem_cons.mpr ⟨w_966, List.forall_mem_cons.mpr ⟨w_968, List.forall_mem_cons.mpr ⟨w_970, List.forall_mem_cons.mpr ⟨w_972, List.forall_mem_cons.mpr ⟨w_974, List.forall_mem_cons.mpr ⟨w_976, List.forall_mem_cons.mpr ⟨w_978, List.forall_mem_cons.mpr ⟨w_980, List.forall_mem_cons.mpr ⟨w_982, List.forall_mem_cons.mpr ⟨w_984, List.forall_mem_cons.mpr ⟨w_986, List.forall_mem_cons.mpr ⟨w_988, fun _ h => absurd h List.not_mem_nil⟩⟩⟩⟩⟩⟩⟩⟩⟩⟩⟩⟩⟩⟩⟩⟩⟩⟩⟩⟩⟩⟩⟩⟩⟩⟩⟩⟩⟩⟩⟩⟩⟩⟩⟩⟩⟩⟩⟩⟩⟩⟩⟩⟩⟩⟩⟩⟩
