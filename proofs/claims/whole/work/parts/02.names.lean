def RX0 : String := "SoupSand$Ground"
def TX0 : u_T := fun k => match k with
  | 0 => ("SoupSand$Ground", "top", "[I", true)
  | 1 => ("SoupSand$Ground", "water", "[I", true)
  | 2 => ("SoupSand$Ground", "layers", "[I", true)
  | 3 => ("SoupSand$Ground", "kind", "[I", true)
  | 4 => ("SoupSand$Ground", "thick", "[I", true)
  | 5 => ("SoupSand$Ground", "values", "[I", true)
  | 6 => ("SoupSand$Ground", "value", "[I", true)
  | _ => ("SoupSand$Ground", "weight", "[I", true)
def tyX0 : Nat → FieldType := fun k => match k with
  | 0 => .array .int
  | 1 => .array .int
  | 2 => .array .int
  | 3 => .array .int
  | 4 => .array .int
  | 5 => .array .int
  | 6 => .array .int
  | _ => .array .int
set_option maxRecDepth 100000 in
theorem nmX0 : ∀ a, a < 8 → ∀ b, b < 8 → a ≠ b → (TX0 a).2.1 ≠ (TX0 b).2.1 := by decide +kernel
set_option maxRecDepth 100000 in
theorem tyX0_ok : ∀ k, k < 8 → parseFieldDescriptor (TX0 k).2.2.1 = some (tyX0 k) := by decide +kernel
abbrev cX0_init : ByteArray := prog_2_method_1_code
abbrev cX0_hasColumn : ByteArray := prog_2_method_2_code
abbrev cX0_hasLayer : ByteArray := prog_2_method_3_code
abbrev cX0_hasValue : ByteArray := prog_2_method_4_code
abbrev cX0_addLayer : ByteArray := prog_2_method_5_code
abbrev cX0_addValue : ByteArray := prog_2_method_6_code
abbrev cX0_depthOf : ByteArray := prog_2_method_7_code
abbrev cX0_isWet : ByteArray := prog_2_method_8_code
abbrev cX0_holdOf : ByteArray := prog_2_method_9_code
abbrev cX0_choicesOf : ByteArray := prog_2_method_10_code
abbrev cX0_middleOf : ByteArray := prog_2_method_11_code
abbrev cX0_layerAt : ByteArray := prog_2_method_12_code
abbrev cX0_weightAbove : ByteArray := prog_2_method_13_code
def yX0_init : MethodName := ⟨RX0, "<init>", "()V"⟩
def yX0_hasColumn : MethodName := ⟨RX0, "hasColumn", "(I)Z"⟩
def yX0_hasLayer : MethodName := ⟨RX0, "hasLayer", "(II)Z"⟩
def yX0_hasValue : MethodName := ⟨RX0, "hasValue", "(III)Z"⟩
def yX0_addLayer : MethodName := ⟨RX0, "addLayer", "(IIII)I"⟩
def yX0_addValue : MethodName := ⟨RX0, "addValue", "(IIII)I"⟩
def yX0_depthOf : MethodName := ⟨RX0, "depthOf", "(II)I"⟩
def yX0_isWet : MethodName := ⟨RX0, "isWet", "(II)Z"⟩
def yX0_holdOf : MethodName := ⟨RX0, "holdOf", "(IILSoupSand$Rules;)I"⟩
def yX0_choicesOf : MethodName := ⟨RX0, "choicesOf", "(I)I"⟩
def yX0_middleOf : MethodName := ⟨RX0, "middleOf", "(II)I"⟩
def yX0_layerAt : MethodName := ⟨RX0, "layerAt", "(II)I"⟩
def yX0_weightAbove : MethodName := ⟨RX0, "weightAbove", "(IILSoupSand$Rules;)I"⟩
def RX1 : String := "SoupSand$Houses"
def TX1 : u_T := fun k => match k with
  | 0 => ("SoupSand$Houses", "column", "[I", true)
  | 1 => ("SoupSand$Houses", "width", "[I", true)
  | 2 => ("SoupSand$Houses", "worth", "[I", true)
  | _ => ("SoupSand$Houses", "count", "I", false)
def tyX1 : Nat → FieldType := fun k => match k with
  | 0 => .array .int
  | 1 => .array .int
  | 2 => .array .int
  | _ => .int
set_option maxRecDepth 100000 in
theorem nmX1 : ∀ a, a < 4 → ∀ b, b < 4 → a ≠ b → (TX1 a).2.1 ≠ (TX1 b).2.1 := by decide +kernel
set_option maxRecDepth 100000 in
theorem tyX1_ok : ∀ k, k < 4 → parseFieldDescriptor (TX1 k).2.2.1 = some (tyX1 k) := by decide +kernel
abbrev cX1_init : ByteArray := prog_3_method_1_code
abbrev cX1_hasHouse : ByteArray := prog_3_method_2_code
abbrev cX1_addHouse : ByteArray := prog_3_method_3_code
abbrev cX1_widestOn : ByteArray := prog_3_method_4_code
def yX1_init : MethodName := ⟨RX1, "<init>", "()V"⟩
def yX1_hasHouse : MethodName := ⟨RX1, "hasHouse", "(I)Z"⟩
def yX1_addHouse : MethodName := ⟨RX1, "addHouse", "(III)I"⟩
def yX1_widestOn : MethodName := ⟨RX1, "widestOn", "(I)I"⟩
def RX2 : String := "SoupSand$Reader"
def TX2 : u_T := fun k => match k with
  | 0 => ("SoupSand$Reader", "draft", "[I", true)
  | 1 => ("SoupSand$Reader", "length", "I", false)
  | 2 => ("SoupSand$Reader", "flaw", "I", false)
  | 3 => ("SoupSand$Reader", "flawAt", "I", false)
  | 4 => ("SoupSand$Reader", "text", "[I", true)
  | 5 => ("SoupSand$Reader", "at", "I", false)
  | _ => ("SoupSand$Reader", "clauses", "I", false)
def tyX2 : Nat → FieldType := fun k => match k with
  | 0 => .array .int
  | 1 => .int
  | 2 => .int
  | 3 => .int
  | 4 => .array .int
  | 5 => .int
  | _ => .int
set_option maxRecDepth 100000 in
theorem nmX2 : ∀ a, a < 7 → ∀ b, b < 7 → a ≠ b → (TX2 a).2.1 ≠ (TX2 b).2.1 := by decide +kernel
set_option maxRecDepth 100000 in
theorem tyX2_ok : ∀ k, k < 7 → parseFieldDescriptor (TX2 k).2.2.1 = some (tyX2 k) := by decide +kernel
abbrev cX2_init : ByteArray := prog_4_method_1_code
abbrev cX2_append : ByteArray := prog_4_method_2_code
abbrev cX2_parse : ByteArray := prog_4_method_3_code
abbrev cX2_fail : ByteArray := prog_4_method_4_code
abbrev cX2_skipBlanks : ByteArray := prog_4_method_5_code
abbrev cX2_isNext : ByteArray := prog_4_method_6_code
abbrev cX2_takeClause : ByteArray := prog_4_method_7_code
abbrev cX2_takeKind : ByteArray := prog_4_method_8_code
abbrev cX2_takeNumber : ByteArray := prog_4_method_9_code
abbrev cX2_takeWord : ByteArray := prog_4_method_10_code
abbrev cX2_isSpelt : ByteArray := prog_4_method_11_code
abbrev cX2_spelling : ByteArray := prog_4_method_12_code
def yX2_init : MethodName := ⟨RX2, "<init>", "()V"⟩
def yX2_append : MethodName := ⟨RX2, "append", "(IJ)V"⟩
def yX2_parse : MethodName := ⟨RX2, "parse", "()I"⟩
def yX2_fail : MethodName := ⟨RX2, "fail", "(II)V"⟩
def yX2_skipBlanks : MethodName := ⟨RX2, "skipBlanks", "()V"⟩
def yX2_isNext : MethodName := ⟨RX2, "isNext", "(I)Z"⟩
def yX2_takeClause : MethodName := ⟨RX2, "takeClause", "()V"⟩
def yX2_takeKind : MethodName := ⟨RX2, "takeKind", "()V"⟩
def yX2_takeNumber : MethodName := ⟨RX2, "takeNumber", "(II)I"⟩
def yX2_takeWord : MethodName := ⟨RX2, "takeWord", "()I"⟩
def yX2_isSpelt : MethodName := ⟨RX2, "isSpelt", "(IILjava/lang/String;)Z"⟩
def yX2_spelling : MethodName := ⟨RX2, "spelling", "(I)Ljava/lang/String;"⟩
def RX3 : String := "SoupSand$Rules"
def TX3 : u_T := fun k => match k with
  | _ => ("SoupSand$Rules", "slot", "[I", true)
def tyX3 : Nat → FieldType := fun k => match k with
  | _ => .array .int
set_option maxRecDepth 100000 in
theorem nmX3 : ∀ a, a < 1 → ∀ b, b < 1 → a ≠ b → (TX3 a).2.1 ≠ (TX3 b).2.1 := by decide +kernel
set_option maxRecDepth 100000 in
theorem tyX3_ok : ∀ k, k < 1 → parseFieldDescriptor (TX3 k).2.2.1 = some (tyX3 k) := by decide +kernel
abbrev cX3_init : ByteArray := prog_5_method_1_code
abbrev cX3_first : ByteArray := prog_5_method_2_code
abbrev cX3_lowest : ByteArray := prog_5_method_3_code
abbrev cX3_highest : ByteArray := prog_5_method_4_code
abbrev cX3_entry : ByteArray := prog_5_method_5_code
abbrev cX3_become : ByteArray := prog_5_method_6_code
abbrev cX3_dry : ByteArray := prog_5_method_7_code
abbrev cX3_unitWeight : ByteArray := prog_5_method_8_code
abbrev cX3_flow : ByteArray := prog_5_method_9_code
abbrev cX3_mark : ByteArray := prog_5_method_10_code
abbrev cX3_after : ByteArray := prog_5_method_11_code
def yX3_init : MethodName := ⟨RX3, "<init>", "()V"⟩
def yX3_first : MethodName := ⟨RX3, "first", "(I)I"⟩
def yX3_lowest : MethodName := ⟨RX3, "lowest", "(I)I"⟩
def yX3_highest : MethodName := ⟨RX3, "highest", "(I)I"⟩
def yX3_entry : MethodName := ⟨RX3, "entry", "(I)I"⟩
def yX3_become : MethodName := ⟨RX3, "become", "([I)V"⟩
def yX3_dry : MethodName := ⟨RX3, "dry", "()I"⟩
def yX3_unitWeight : MethodName := ⟨RX3, "unitWeight", "(Z)I"⟩
def yX3_flow : MethodName := ⟨RX3, "flow", "()I"⟩
def yX3_mark : MethodName := ⟨RX3, "mark", "()I"⟩
def yX3_after : MethodName := ⟨RX3, "after", "()I"⟩
def RX4 : String := "SoupSand$Shakes"
def TX4 : u_T := fun k => match k with
  | 0 => ("SoupSand$Shakes", "share", "[I", true)
  | 1 => ("SoupSand$Shakes", "beats", "[I", true)
  | 2 => ("SoupSand$Shakes", "strength", "[I", true)
  | _ => ("SoupSand$Shakes", "count", "I", false)
def tyX4 : Nat → FieldType := fun k => match k with
  | 0 => .array .int
  | 1 => .array .int
  | 2 => .array .int
  | _ => .int
set_option maxRecDepth 100000 in
theorem nmX4 : ∀ a, a < 4 → ∀ b, b < 4 → a ≠ b → (TX4 a).2.1 ≠ (TX4 b).2.1 := by decide +kernel
set_option maxRecDepth 100000 in
theorem tyX4_ok : ∀ k, k < 4 → parseFieldDescriptor (TX4 k).2.2.1 = some (tyX4 k) := by decide +kernel
abbrev cX4_init : ByteArray := prog_6_method_1_code
abbrev cX4_hasShake : ByteArray := prog_6_method_2_code
abbrev cX4_addShake : ByteArray := prog_6_method_3_code
abbrev cX4_addBeat : ByteArray := prog_6_method_4_code
def yX4_init : MethodName := ⟨RX4, "<init>", "()V"⟩
def yX4_hasShake : MethodName := ⟨RX4, "hasShake", "(I)Z"⟩
def yX4_addShake : MethodName := ⟨RX4, "addShake", "(I)I"⟩
def yX4_addBeat : MethodName := ⟨RX4, "addBeat", "(II)I"⟩
def RX5 : String := "SoupSand$Slips"
def TX5 : u_T := fun k => match k with
  | 0 => ("SoupSand$Slips", "grip", "[I", true)
  | 1 => ("SoupSand$Slips", "holds", "J", false)
  | 2 => ("SoupSand$Slips", "driven", "J", false)
  | 3 => ("SoupSand$Slips", "from", "I", false)
  | 4 => ("SoupSand$Slips", "to", "I", false)
  | 5 => ("SoupSand$Slips", "layer", "I", false)
  | 6 => ("SoupSand$Slips", "leastHolds", "J", false)
  | _ => ("SoupSand$Slips", "leastDriven", "J", false)
def tyX5 : Nat → FieldType := fun k => match k with
  | 0 => .array .int
  | 1 => .long
  | 2 => .long
  | 3 => .int
  | 4 => .int
  | 5 => .int
  | 6 => .long
  | _ => .long
set_option maxRecDepth 100000 in
theorem nmX5 : ∀ a, a < 8 → ∀ b, b < 8 → a ≠ b → (TX5 a).2.1 ≠ (TX5 b).2.1 := by decide +kernel
set_option maxRecDepth 100000 in
theorem tyX5_ok : ∀ k, k < 8 → parseFieldDescriptor (TX5 k).2.2.1 = some (tyX5 k) := by decide +kernel
abbrev cX5_init : ByteArray := prog_7_method_1_code
abbrev cX5_begin : ByteArray := prog_7_method_2_code
abbrev cX5_weigh : ByteArray := prog_7_method_3_code
abbrev cX5_findLeast : ByteArray := prog_7_method_4_code
abbrev cX5_findLeastBetween : ByteArray := prog_7_method_5_code
def yX5_init : MethodName := ⟨RX5, "<init>", "()V"⟩
def yX5_begin : MethodName := ⟨RX5, "begin", "(LSoupSand$Trial;III)V"⟩
def yX5_weigh : MethodName := ⟨RX5, "weigh", "(LSoupSand$Trial;III)Z"⟩
def yX5_findLeast : MethodName := ⟨RX5, "findLeast", "(LSoupSand$Trial;)V"⟩
def yX5_findLeastBetween : MethodName := ⟨RX5, "findLeastBetween", "(LSoupSand$Trial;II)V"⟩
def RX6 : String := "SoupSand$Survey"
def TX6 : u_T := fun k => match k with
  | 0 => ("SoupSand$Survey", "kept", "I", false)
  | 1 => ("SoupSand$Survey", "so", "I", false)
  | 2 => ("SoupSand$Survey", "weight", "J", false)
  | 3 => ("SoupSand$Survey", "weightSo", "J", false)
  | 4 => ("SoupSand$Survey", "least", "I", false)
  | 5 => ("SoupSand$Survey", "greatest", "I", false)
  | 6 => ("SoupSand$Survey", "leastSo", "I", false)
  | _ => ("SoupSand$Survey", "mark", "I", false)
def tyX6 : Nat → FieldType := fun k => match k with
  | 0 => .int
  | 1 => .int
  | 2 => .long
  | 3 => .long
  | 4 => .int
  | 5 => .int
  | 6 => .int
  | _ => .int
set_option maxRecDepth 100000 in
theorem nmX6 : ∀ a, a < 8 → ∀ b, b < 8 → a ≠ b → (TX6 a).2.1 ≠ (TX6 b).2.1 := by decide +kernel
set_option maxRecDepth 100000 in
theorem tyX6_ok : ∀ k, k < 8 → parseFieldDescriptor (TX6 k).2.2.1 = some (tyX6 k) := by decide +kernel
abbrev cX6_init : ByteArray := prog_8_method_1_code
abbrev cX6_begin : ByteArray := prog_8_method_2_code
abbrev cX6_add : ByteArray := prog_8_method_3_code
abbrev cX6_fraction : ByteArray := prog_8_method_4_code
def yX6_init : MethodName := ⟨RX6, "<init>", "()V"⟩
def yX6_begin : MethodName := ⟨RX6, "begin", "(I)V"⟩
def yX6_add : MethodName := ⟨RX6, "add", "(II)V"⟩
def yX6_fraction : MethodName := ⟨RX6, "fraction", "(I)J"⟩
def RX7 : String := "SoupSand$Tanks"
def TX7 : u_T := fun k => match k with
  | 0 => ("SoupSand$Tanks", "column", "[I", true)
  | 1 => ("SoupSand$Tanks", "layer", "[I", true)
  | 2 => ("SoupSand$Tanks", "weight", "[I", true)
  | 3 => ("SoupSand$Tanks", "size", "[I", true)
  | _ => ("SoupSand$Tanks", "count", "I", false)
def tyX7 : Nat → FieldType := fun k => match k with
  | 0 => .array .int
  | 1 => .array .int
  | 2 => .array .int
  | 3 => .array .int
  | _ => .int
set_option maxRecDepth 100000 in
theorem nmX7 : ∀ a, a < 5 → ∀ b, b < 5 → a ≠ b → (TX7 a).2.1 ≠ (TX7 b).2.1 := by decide +kernel
set_option maxRecDepth 100000 in
theorem tyX7_ok : ∀ k, k < 5 → parseFieldDescriptor (TX7 k).2.2.1 = some (tyX7 k) := by decide +kernel
abbrev cX7_init : ByteArray := prog_9_method_1_code
abbrev cX7_hasTank : ByteArray := prog_9_method_2_code
abbrev cX7_addTank : ByteArray := prog_9_method_3_code
def yX7_init : MethodName := ⟨RX7, "<init>", "()V"⟩
def yX7_hasTank : MethodName := ⟨RX7, "hasTank", "(I)Z"⟩
def yX7_addTank : MethodName := ⟨RX7, "addTank", "(IIII)I"⟩
def RX8 : String := "SoupSand$Trial"
def TX8 : u_T := fun k => match k with
  | 0 => ("SoupSand$Trial", "ground", "LSoupSand$Ground;", true)
  | 1 => ("SoupSand$Trial", "shakes", "LSoupSand$Shakes;", true)
  | 2 => ("SoupSand$Trial", "rules", "LSoupSand$Rules;", true)
  | 3 => ("SoupSand$Trial", "chosen", "[I", true)
  | 4 => ("SoupSand$Trial", "push", "[I", true)
  | 5 => ("SoupSand$Trial", "gone", "[I", true)
  | 6 => ("SoupSand$Trial", "hold", "[I", true)
  | 7 => ("SoupSand$Trial", "arriving", "[I", true)
  | 8 => ("SoupSand$Trial", "rising", "[I", true)
  | 9 => ("SoupSand$Trial", "column", "I", false)
  | 10 => ("SoupSand$Trial", "layers", "I", false)
  | 11 => ("SoupSand$Trial", "firstWet", "I", false)
  | 12 => ("SoupSand$Trial", "beats", "I", false)
  | 13 => ("SoupSand$Trial", "steps", "I", false)
  | 14 => ("SoupSand$Trial", "drainMore", "I", false)
  | 15 => ("SoupSand$Trial", "looseLess", "I", false)
  | _ => ("SoupSand$Trial", "stale", "I", false)
def tyX8 : Nat → FieldType := fun k => match k with
  | 0 => .object "SoupSand$Ground"
  | 1 => .object "SoupSand$Shakes"
  | 2 => .object "SoupSand$Rules"
  | 3 => .array .int
  | 4 => .array .int
  | 5 => .array .int
  | 6 => .array .int
  | 7 => .array .int
  | 8 => .array .int
  | 9 => .int
  | 10 => .int
  | 11 => .int
  | 12 => .int
  | 13 => .int
  | 14 => .int
  | 15 => .int
  | _ => .int
set_option maxRecDepth 100000 in
theorem nmX8 : ∀ a, a < 17 → ∀ b, b < 17 → a ≠ b → (TX8 a).2.1 ≠ (TX8 b).2.1 := by decide +kernel
set_option maxRecDepth 100000 in
theorem tyX8_ok : ∀ k, k < 17 → parseFieldDescriptor (TX8 k).2.2.1 = some (tyX8 k) := by decide +kernel
abbrev cX8_init : ByteArray := prog_10_method_1_code
abbrev cX8_begin : ByteArray := prog_10_method_2_code
abbrev cX8_under : ByteArray := prog_10_method_3_code
abbrev cX8_runFirst : ByteArray := prog_10_method_4_code
abbrev cX8_advance : ByteArray := prog_10_method_5_code
abbrev cX8_place : ByteArray := prog_10_method_6_code
abbrev cX8_valueAt : ByteArray := prog_10_method_7_code
abbrev cX8_weightNow : ByteArray := prog_10_method_8_code
abbrev cX8_play : ByteArray := prog_10_method_9_code
abbrev cX8_ruleOf : ByteArray := prog_10_method_10_code
abbrev cX8_playWet : ByteArray := prog_10_method_11_code
abbrev cX8_gain : ByteArray := prog_10_method_12_code
abbrev cX8_someGone : ByteArray := prog_10_method_13_code
abbrev cX8_partOf : ByteArray := prog_10_method_14_code
abbrev cX8_sinkOf : ByteArray := prog_10_method_15_code
abbrev cX8_greatestPart : ByteArray := prog_10_method_16_code
abbrev cX8_gripOf : ByteArray := prog_10_method_17_code
def yX8_init : MethodName := ⟨RX8, "<init>", "()V"⟩
def yX8_begin : MethodName := ⟨RX8, "begin", "(I)V"⟩
def yX8_under : MethodName := ⟨RX8, "under", "(III)V"⟩
def yX8_runFirst : MethodName := ⟨RX8, "runFirst", "(II)V"⟩
def yX8_advance : MethodName := ⟨RX8, "advance", "()V"⟩
def yX8_place : MethodName := ⟨RX8, "place", "()I"⟩
def yX8_valueAt : MethodName := ⟨RX8, "valueAt", "(I)I"⟩
def yX8_weightNow : MethodName := ⟨RX8, "weightNow", "()I"⟩
def yX8_play : MethodName := ⟨RX8, "play", "()V"⟩
def yX8_ruleOf : MethodName := ⟨RX8, "ruleOf", "(II)I"⟩
def yX8_playWet : MethodName := ⟨RX8, "playWet", "(I)V"⟩
def yX8_gain : MethodName := ⟨RX8, "gain", "(III)V"⟩
def yX8_someGone : MethodName := ⟨RX8, "someGone", "()Z"⟩
def yX8_partOf : MethodName := ⟨RX8, "partOf", "(II)I"⟩
def yX8_sinkOf : MethodName := ⟨RX8, "sinkOf", "(I)I"⟩
def yX8_greatestPart : MethodName := ⟨RX8, "greatestPart", "(I)I"⟩
def yX8_gripOf : MethodName := ⟨RX8, "gripOf", "(I)I"⟩
def RX9 : String := "SoupSand$Words"
def TX9 : u_T := fun k => match k with
  | 0 => ("SoupSand$Words", "column", "[I", true)
  | 1 => ("SoupSand$Words", "kind", "[I", true)
  | 2 => ("SoupSand$Words", "subject", "[I", true)
  | 3 => ("SoupSand$Words", "low", "[I", true)
  | 4 => ("SoupSand$Words", "high", "[I", true)
  | 5 => ("SoupSand$Words", "count", "I", false)
  | 6 => ("SoupSand$Words", "struck", "I", false)
  | 7 => ("SoupSand$Words", "choices", "[I", true)
  | 8 => ("SoupSand$Words", "against", "[I", true)
  | _ => ("SoupSand$Words", "looked", "I", false)
def tyX9 : Nat → FieldType := fun k => match k with
  | 0 => .array .int
  | 1 => .array .int
  | 2 => .array .int
  | 3 => .array .int
  | 4 => .array .int
  | 5 => .int
  | 6 => .int
  | 7 => .array .int
  | 8 => .array .int
  | _ => .int
set_option maxRecDepth 100000 in
theorem nmX9 : ∀ a, a < 10 → ∀ b, b < 10 → a ≠ b → (TX9 a).2.1 ≠ (TX9 b).2.1 := by decide +kernel
set_option maxRecDepth 100000 in
theorem tyX9_ok : ∀ k, k < 10 → parseFieldDescriptor (TX9 k).2.2.1 = some (tyX9 k) := by decide +kernel
abbrev cX9_init : ByteArray := prog_11_method_1_code
abbrev cX9_hasWord : ByteArray := prog_11_method_2_code
abbrev cX9_addWord : ByteArray := prog_11_method_3_code
abbrev cX9_setOf : ByteArray := prog_11_method_4_code
abbrev cX9_forget : ByteArray := prog_11_method_5_code
abbrev cX9_look : ByteArray := prog_11_method_6_code
abbrev cX9_lookBySounding : ByteArray := prog_11_method_7_code
abbrev cX9_lookByRuns : ByteArray := prog_11_method_8_code
abbrev cX9_keep : ByteArray := prog_11_method_9_code
abbrev cX9_countKept : ByteArray := prog_11_method_10_code
abbrev cX9_firstKept : ByteArray := prog_11_method_11_code
abbrev cX9_countAgainst : ByteArray := prog_11_method_12_code
abbrev cX9_fewestAgainst : ByteArray := prog_11_method_13_code
def yX9_init : MethodName := ⟨RX9, "<init>", "()V"⟩
def yX9_hasWord : MethodName := ⟨RX9, "hasWord", "(I)Z"⟩
def yX9_addWord : MethodName := ⟨RX9, "addWord", "(IIIII)I"⟩
def yX9_setOf : MethodName := ⟨RX9, "setOf", "(III)I"⟩
def yX9_forget : MethodName := ⟨RX9, "forget", "()V"⟩
def yX9_look : MethodName := ⟨RX9, "look", "(LSoupSand$Trial;I)V"⟩
def yX9_lookBySounding : MethodName := ⟨RX9, "lookBySounding", "(LSoupSand$Trial;II)V"⟩
def yX9_lookByRuns : MethodName := ⟨RX9, "lookByRuns", "(LSoupSand$Trial;III)V"⟩
def yX9_keep : MethodName := ⟨RX9, "keep", "(II)Z"⟩
def yX9_countKept : MethodName := ⟨RX9, "countKept", "(I)I"⟩
def yX9_firstKept : MethodName := ⟨RX9, "firstKept", "(I)I"⟩
def yX9_countAgainst : MethodName := ⟨RX9, "countAgainst", "(II)I"⟩
def yX9_fewestAgainst : MethodName := ⟨RX9, "fewestAgainst", "(I)I"⟩
def RX10 : String := "SoupSand$Works"
def TX10 : u_T := fun k => match k with
  | 0 => ("SoupSand$Works", "column", "[I", true)
  | 1 => ("SoupSand$Works", "kind", "[I", true)
  | 2 => ("SoupSand$Works", "amount", "[I", true)
  | 3 => ("SoupSand$Works", "price", "[I", true)
  | 4 => ("SoupSand$Works", "verdict", "[I", true)
  | _ => ("SoupSand$Works", "count", "I", false)
def tyX10 : Nat → FieldType := fun k => match k with
  | 0 => .array .int
  | 1 => .array .int
  | 2 => .array .int
  | 3 => .array .int
  | 4 => .array .int
  | _ => .int
set_option maxRecDepth 100000 in
theorem nmX10 : ∀ a, a < 6 → ∀ b, b < 6 → a ≠ b → (TX10 a).2.1 ≠ (TX10 b).2.1 := by decide +kernel
set_option maxRecDepth 100000 in
theorem tyX10_ok : ∀ k, k < 6 → parseFieldDescriptor (TX10 k).2.2.1 = some (tyX10 k) := by decide +kernel
abbrev cX10_init : ByteArray := prog_12_method_1_code
abbrev cX10_addWork : ByteArray := prog_12_method_2_code
abbrev cX10_forgetVerdicts : ByteArray := prog_12_method_3_code
abbrev cX10_holds : ByteArray := prog_12_method_4_code
abbrev cX10_setOn : ByteArray := prog_12_method_5_code
abbrev cX10_priceOf : ByteArray := prog_12_method_6_code
abbrev cX10_sumOn : ByteArray := prog_12_method_7_code
def yX10_init : MethodName := ⟨RX10, "<init>", "()V"⟩
def yX10_addWork : MethodName := ⟨RX10, "addWork", "(IIII)I"⟩
def yX10_forgetVerdicts : MethodName := ⟨RX10, "forgetVerdicts", "()V"⟩
def yX10_holds : MethodName := ⟨RX10, "holds", "(II)Z"⟩
def yX10_setOn : MethodName := ⟨RX10, "setOn", "(I)I"⟩
def yX10_priceOf : MethodName := ⟨RX10, "priceOf", "(I)I"⟩
def yX10_sumOn : MethodName := ⟨RX10, "sumOn", "(III)I"⟩
def RX11 : String := "SoupSand"
def TX11 : u_T := fun k => match k with
  | 0 => ("SoupSand", "trial", "LSoupSand$Trial;", true)
  | 1 => ("SoupSand", "ground", "LSoupSand$Ground;", true)
  | 2 => ("SoupSand", "shakes", "LSoupSand$Shakes;", true)
  | 3 => ("SoupSand", "rules", "LSoupSand$Rules;", true)
  | 4 => ("SoupSand", "words", "LSoupSand$Words;", true)
  | 5 => ("SoupSand", "houses", "LSoupSand$Houses;", true)
  | 6 => ("SoupSand", "tanks", "LSoupSand$Tanks;", true)
  | 7 => ("SoupSand", "works", "LSoupSand$Works;", true)
  | 8 => ("SoupSand", "survey", "LSoupSand$Survey;", true)
  | 9 => ("SoupSand", "slips", "LSoupSand$Slips;", true)
  | _ => ("SoupSand", "reader", "LSoupSand$Reader;", true)
def tyX11 : Nat → FieldType := fun k => match k with
  | 0 => .object "SoupSand$Trial"
  | 1 => .object "SoupSand$Ground"
  | 2 => .object "SoupSand$Shakes"
  | 3 => .object "SoupSand$Rules"
  | 4 => .object "SoupSand$Words"
  | 5 => .object "SoupSand$Houses"
  | 6 => .object "SoupSand$Tanks"
  | 7 => .object "SoupSand$Works"
  | 8 => .object "SoupSand$Survey"
  | 9 => .object "SoupSand$Slips"
  | _ => .object "SoupSand$Reader"
set_option maxRecDepth 100000 in
theorem nmX11 : ∀ a, a < 11 → ∀ b, b < 11 → a ≠ b → (TX11 a).2.1 ≠ (TX11 b).2.1 := by decide +kernel
set_option maxRecDepth 100000 in
theorem tyX11_ok : ∀ k, k < 11 → parseFieldDescriptor (TX11 k).2.2.1 = some (tyX11 k) := by decide +kernel
abbrev cX11_init : ByteArray := prog_1_method_1_code
abbrev cX11_column : ByteArray := prog_1_method_2_code
abbrev cX11_layer : ByteArray := prog_1_method_3_code
abbrev cX11_loose : ByteArray := prog_1_method_4_code
abbrev cX11_about : ByteArray := prog_1_method_5_code
abbrev cX11_shake : ByteArray := prog_1_method_6_code
abbrev cX11_beat : ByteArray := prog_1_method_7_code
abbrev cX11_count : ByteArray := prog_1_method_8_code
abbrev cX11_run : ByteArray := prog_1_method_9_code
abbrev cX11_choices : ByteArray := prog_1_method_10_code
abbrev cX11_keptWith : ByteArray := prog_1_method_11_code
abbrev cX11_odds : ByteArray := prog_1_method_12_code
abbrev cX11_step : ByteArray := prog_1_method_13_code
abbrev cX11_surveyLayer : ByteArray := prog_1_method_14_code
abbrev cX11_word : ByteArray := prog_1_method_15_code
abbrev cX11_strike : ByteArray := prog_1_method_16_code
abbrev cX11_bars : ByteArray := prog_1_method_17_code
abbrev cX11_toStrike : ByteArray := prog_1_method_18_code
abbrev cX11_house : ByteArray := prog_1_method_19_code
abbrev cX11_sink : ByteArray := prog_1_method_20_code
abbrev cX11_sunk : ByteArray := prog_1_method_21_code
abbrev cX11_led : ByteArray := prog_1_method_22_code
abbrev cX11_lean : ByteArray := prog_1_method_23_code
abbrev cX11_firstSink : ByteArray := prog_1_method_24_code
abbrev cX11_surveyHouse : ByteArray := prog_1_method_25_code
abbrev cX11_tank : ByteArray := prog_1_method_26_code
abbrev cX11_floats : ByteArray := prog_1_method_27_code
abbrev cX11_margin : ByteArray := prog_1_method_28_code
abbrev cX11_least : ByteArray := prog_1_method_29_code
abbrev cX11_work : ByteArray := prog_1_method_30_code
abbrev cX11_stands : ByteArray := prog_1_method_31_code
abbrev cX11_plan : ByteArray := prog_1_method_32_code
abbrev cX11_loss : ByteArray := prog_1_method_33_code
abbrev cX11_housesQuarrel : ByteArray := prog_1_method_34_code
abbrev cX11_allStand : ByteArray := prog_1_method_35_code
abbrev cX11_columnStands : ByteArray := prog_1_method_36_code
abbrev cX11_columnHolds : ByteArray := prog_1_method_37_code
abbrev cX11_feed : ByteArray := prog_1_method_38_code
abbrev cX11_read : ByteArray := prog_1_method_39_code
abbrev cX11_fault : ByteArray := prog_1_method_40_code
abbrev cX11_rule : ByteArray := prog_1_method_41_code
abbrev cX11_beyond : ByteArray := prog_1_method_42_code
abbrev cX11_sumOf : ByteArray := prog_1_method_43_code
abbrev cX11_leastTerms : ByteArray := prog_1_method_44_code
def yX11_init : MethodName := ⟨RX11, "<init>", "()V"⟩
def yX11_column : MethodName := ⟨RX11, "column", "(III)I"⟩
def yX11_layer : MethodName := ⟨RX11, "layer", "(IIII)I"⟩
def yX11_loose : MethodName := ⟨RX11, "loose", "(IIII)I"⟩
def yX11_about : MethodName := ⟨RX11, "about", "(III)I"⟩
def yX11_shake : MethodName := ⟨RX11, "shake", "(I)I"⟩
def yX11_beat : MethodName := ⟨RX11, "beat", "(II)I"⟩
def yX11_count : MethodName := ⟨RX11, "count", "(I)I"⟩
def yX11_run : MethodName := ⟨RX11, "run", "(IIII)I"⟩
def yX11_choices : MethodName := ⟨RX11, "choices", "(IIII)I"⟩
def yX11_keptWith : MethodName := ⟨RX11, "keptWith", "(III)I"⟩
def yX11_odds : MethodName := ⟨RX11, "odds", "(IIII)J"⟩
def yX11_step : MethodName := ⟨RX11, "step", "(IIII)I"⟩
def yX11_surveyLayer : MethodName := ⟨RX11, "surveyLayer", "(III)V"⟩
def yX11_word : MethodName := ⟨RX11, "word", "(IIIII)I"⟩
def yX11_strike : MethodName := ⟨RX11, "strike", "(IZ)I"⟩
def yX11_bars : MethodName := ⟨RX11, "bars", "(I)I"⟩
def yX11_toStrike : MethodName := ⟨RX11, "toStrike", "(I)I"⟩
def yX11_house : MethodName := ⟨RX11, "house", "(III)I"⟩
def yX11_sink : MethodName := ⟨RX11, "sink", "(III)I"⟩
def yX11_sunk : MethodName := ⟨RX11, "sunk", "(III)J"⟩
def yX11_led : MethodName := ⟨RX11, "led", "(III)I"⟩
def yX11_lean : MethodName := ⟨RX11, "lean", "(III)I"⟩
def yX11_firstSink : MethodName := ⟨RX11, "firstSink", "(II)I"⟩
def yX11_surveyHouse : MethodName := ⟨RX11, "surveyHouse", "(II)V"⟩
def yX11_tank : MethodName := ⟨RX11, "tank", "(IIII)I"⟩
def yX11_floats : MethodName := ⟨RX11, "floats", "(II)I"⟩
def yX11_margin : MethodName := ⟨RX11, "margin", "(IIIII)J"⟩
def yX11_least : MethodName := ⟨RX11, "least", "(II)J"⟩
def yX11_work : MethodName := ⟨RX11, "work", "(IIII)I"⟩
def yX11_stands : MethodName := ⟨RX11, "stands", "(I)I"⟩
def yX11_plan : MethodName := ⟨RX11, "plan", "(I)I"⟩
def yX11_loss : MethodName := ⟨RX11, "loss", "()J"⟩
def yX11_housesQuarrel : MethodName := ⟨RX11, "housesQuarrel", "()Z"⟩
def yX11_allStand : MethodName := ⟨RX11, "allStand", "(I)Z"⟩
def yX11_columnStands : MethodName := ⟨RX11, "columnStands", "(II)Z"⟩
def yX11_columnHolds : MethodName := ⟨RX11, "columnHolds", "(II)Z"⟩
def yX11_feed : MethodName := ⟨RX11, "feed", "(IJ)I"⟩
def yX11_read : MethodName := ⟨RX11, "read", "()I"⟩
def yX11_fault : MethodName := ⟨RX11, "fault", "()I"⟩
def yX11_rule : MethodName := ⟨RX11, "rule", "(I)I"⟩
def yX11_beyond : MethodName := ⟨RX11, "beyond", "(III)Z"⟩
def yX11_sumOf : MethodName := ⟨RX11, "sumOf", "([I)I"⟩
def yX11_leastTerms : MethodName := ⟨RX11, "leastTerms", "(JJI)J"⟩
def RX12 : String := "SoupSandModel"
def TX12 : u_T := fun k => match k with
  | 0 => ("SoupSandModel", "tops", "[I", true)
  | 1 => ("SoupSandModel", "waters", "[I", true)
  | 2 => ("SoupSandModel", "layers", "[I", true)
  | 3 => ("SoupSandModel", "kinds", "[I", true)
  | 4 => ("SoupSandModel", "thicks", "[I", true)
  | 5 => ("SoupSandModel", "valueMany", "[I", true)
  | 6 => ("SoupSandModel", "values", "[I", true)
  | 7 => ("SoupSandModel", "weights", "[I", true)
  | 8 => ("SoupSandModel", "shakes", "I", false)
  | 9 => ("SoupSandModel", "shares", "[I", true)
  | 10 => ("SoupSandModel", "beatMany", "[I", true)
  | 11 => ("SoupSandModel", "beats", "[I", true)
  | 12 => ("SoupSandModel", "rules", "[I", true)
  | 13 => ("SoupSandModel", "fresh", "[I", true)
  | 14 => ("SoupSandModel", "isFound", "[Z", true)
  | 15 => ("SoupSandModel", "keptMany", "[I", true)
  | 16 => ("SoupSandModel", "chosen", "[I", true)
  | 17 => ("SoupSandModel", "weight", "J", false)
  | 18 => ("SoupSandModel", "push", "[I", true)
  | 19 => ("SoupSandModel", "went", "[I", true)
  | 20 => ("SoupSandModel", "strong", "[I", true)
  | 21 => ("SoupSandModel", "loss", "[I", true)
  | 22 => ("SoupSandModel", "more", "I", false)
  | 23 => ("SoupSandModel", "less", "I", false)
  | 24 => ("SoupSandModel", "wets", "[Z", true)
  | 25 => ("SoupSandModel", "held", "[I", true)
  | 26 => ("SoupSandModel", "words", "I", false)
  | 27 => ("SoupSandModel", "wordColumn", "[I", true)
  | 28 => ("SoupSandModel", "wordKind", "[I", true)
  | 29 => ("SoupSandModel", "wordOf", "[I", true)
  | 30 => ("SoupSandModel", "wordLow", "[I", true)
  | 31 => ("SoupSandModel", "wordHigh", "[I", true)
  | 32 => ("SoupSandModel", "isStruck", "[Z", true)
  | 33 => ("SoupSandModel", "goes", "[I", true)
  | 34 => ("SoupSandModel", "kept", "[Z", true)
  | 35 => ("SoupSandModel", "some", "J", false)
  | 36 => ("SoupSandModel", "all", "J", false)
  | 37 => ("SoupSandModel", "least", "I", false)
  | 38 => ("SoupSandModel", "greatest", "I", false)
  | 39 => ("SoupSandModel", "houses", "I", false)
  | 40 => ("SoupSandModel", "houseColumn", "[I", true)
  | 41 => ("SoupSandModel", "widths", "[I", true)
  | 42 => ("SoupSandModel", "worths", "[I", true)
  | 43 => ("SoupSandModel", "tanks", "I", false)
  | 44 => ("SoupSandModel", "tankColumn", "[I", true)
  | 45 => ("SoupSandModel", "tankLayer", "[I", true)
  | 46 => ("SoupSandModel", "tankWeight", "[I", true)
  | 47 => ("SoupSandModel", "tankSize", "[I", true)
  | 48 => ("SoupSandModel", "holds", "J", false)
  | 49 => ("SoupSandModel", "driven", "J", false)
  | 50 => ("SoupSandModel", "works", "I", false)
  | 51 => ("SoupSandModel", "workColumn", "[I", true)
  | 52 => ("SoupSandModel", "workKind", "[I", true)
  | 53 => ("SoupSandModel", "workBy", "[I", true)
  | 54 => ("SoupSandModel", "prices", "[I", true)
  | 55 => ("SoupSandModel", "fellBy", "[I", true)
  | 56 => ("SoupSandModel", "fellIn", "[I", true)
  | 57 => ("SoupSandModel", "looked", "[I", true)
  | 58 => ("SoupSandModel", "sunkBy", "[J", true)
  | 59 => ("SoupSandModel", "text", "[I", true)
  | 60 => ("SoupSandModel", "texted", "I", false)
  | 61 => ("SoupSandModel", "faultPlace", "I", false)
  | 62 => ("SoupSandModel", "at0", "I", false)
  | 63 => ("SoupSandModel", "word", "J", false)
  | 64 => ("SoupSandModel", "wordEnd", "I", false)
  | _ => ("SoupSandModel", "number", "I", false)
def tyX12 : Nat → FieldType := fun k => match k with
  | 0 => .array .int
  | 1 => .array .int
  | 2 => .array .int
  | 3 => .array .int
  | 4 => .array .int
  | 5 => .array .int
  | 6 => .array .int
  | 7 => .array .int
  | 8 => .int
  | 9 => .array .int
  | 10 => .array .int
  | 11 => .array .int
  | 12 => .array .int
  | 13 => .array .int
  | 14 => .array .boolean
  | 15 => .array .int
  | 16 => .array .int
  | 17 => .long
  | 18 => .array .int
  | 19 => .array .int
  | 20 => .array .int
  | 21 => .array .int
  | 22 => .int
  | 23 => .int
  | 24 => .array .boolean
  | 25 => .array .int
  | 26 => .int
  | 27 => .array .int
  | 28 => .array .int
  | 29 => .array .int
  | 30 => .array .int
  | 31 => .array .int
  | 32 => .array .boolean
  | 33 => .array .int
  | 34 => .array .boolean
  | 35 => .long
  | 36 => .long
  | 37 => .int
  | 38 => .int
  | 39 => .int
  | 40 => .array .int
  | 41 => .array .int
  | 42 => .array .int
  | 43 => .int
  | 44 => .array .int
  | 45 => .array .int
  | 46 => .array .int
  | 47 => .array .int
  | 48 => .long
  | 49 => .long
  | 50 => .int
  | 51 => .array .int
  | 52 => .array .int
  | 53 => .array .int
  | 54 => .array .int
  | 55 => .array .int
  | 56 => .array .int
  | 57 => .array .int
  | 58 => .array .long
  | 59 => .array .int
  | 60 => .int
  | 61 => .int
  | 62 => .int
  | 63 => .long
  | 64 => .int
  | _ => .int
set_option maxRecDepth 100000 in
theorem nmX12 : ∀ a, a < 66 → ∀ b, b < 66 → a ≠ b → (TX12 a).2.1 ≠ (TX12 b).2.1 := by decide +kernel
set_option maxRecDepth 100000 in
theorem tyX12_ok : ∀ k, k < 66 → parseFieldDescriptor (TX12 k).2.2.1 = some (tyX12 k) := by decide +kernel
abbrev cX12_init : ByteArray := prog_14_method_1_code
abbrev cX12_first : ByteArray := prog_14_method_3_code
abbrev cX12_keep : ByteArray := prog_14_method_4_code
abbrev cX12_change : ByteArray := prog_14_method_5_code
abbrev cX12_in : ByteArray := prog_14_method_6_code
abbrev cX12_gcd : ByteArray := prog_14_method_7_code
abbrev cX12_isColumn : ByteArray := prog_14_method_8_code
abbrev cX12_isLayer : ByteArray := prog_14_method_9_code
abbrev cX12_isShake : ByteArray := prog_14_method_10_code
abbrev cX12_column : ByteArray := prog_14_method_11_code
abbrev cX12_layer : ByteArray := prog_14_method_12_code
abbrev cX12_loose : ByteArray := prog_14_method_13_code
abbrev cX12_depth : ByteArray := prog_14_method_14_code
abbrev cX12_isWet : ByteArray := prog_14_method_15_code
abbrev cX12_heavy : ByteArray := prog_14_method_16_code
abbrev cX12_hold : ByteArray := prog_14_method_17_code
abbrev cX12_about : ByteArray := prog_14_method_18_code
abbrev cX12_shake : ByteArray := prog_14_method_19_code
abbrev cX12_beat : ByteArray := prog_14_method_20_code
abbrev cX12_count : ByteArray := prog_14_method_21_code
abbrev cX12_manyChoices : ByteArray := prog_14_method_22_code
abbrev cX12_choose : ByteArray := prog_14_method_23_code
abbrev cX12_grow : ByteArray := prog_14_method_24_code
abbrev cX12_drain : ByteArray := prog_14_method_25_code
abbrev cX12_runOf : ByteArray := prog_14_method_26_code
abbrev cX12_plain : ByteArray := prog_14_method_27_code
abbrev cX12_run : ByteArray := prog_14_method_28_code
abbrev cX12_isWord : ByteArray := prog_14_method_29_code
abbrev cX12_word : ByteArray := prog_14_method_30_code
abbrev cX12_strike : ByteArray := prog_14_method_31_code
abbrev cX12_letsGo : ByteArray := prog_14_method_32_code
abbrev cX12_forget : ByteArray := prog_14_method_33_code
abbrev cX12_barsChoice : ByteArray := prog_14_method_34_code
abbrev cX12_barring : ByteArray := prog_14_method_35_code
abbrev cX12_bars : ByteArray := prog_14_method_36_code
abbrev cX12_bits : ByteArray := prog_14_method_37_code
abbrev cX12_toStrike : ByteArray := prog_14_method_38_code
abbrev cX12_findKept : ByteArray := prog_14_method_39_code
abbrev cX12_choices : ByteArray := prog_14_method_40_code
abbrev cX12_begin : ByteArray := prog_14_method_41_code
abbrev cX12_tell : ByteArray := prog_14_method_42_code
abbrev cX12_note : ByteArray := prog_14_method_43_code
abbrev cX12_share : ByteArray := prog_14_method_44_code
abbrev cX12_goThrough : ByteArray := prog_14_method_45_code
abbrev cX12_odds : ByteArray := prog_14_method_46_code
abbrev cX12_step : ByteArray := prog_14_method_47_code
abbrev cX12_isHouse : ByteArray := prog_14_method_48_code
abbrev cX12_house : ByteArray := prog_14_method_49_code
abbrev cX12_part : ByteArray := prog_14_method_50_code
abbrev cX12_sinkOf : ByteArray := prog_14_method_51_code
abbrev cX12_firstSink : ByteArray := prog_14_method_52_code
abbrev cX12_goHouse : ByteArray := prog_14_method_53_code
abbrev cX12_sink : ByteArray := prog_14_method_54_code
abbrev cX12_sunk : ByteArray := prog_14_method_55_code
abbrev cX12_led : ByteArray := prog_14_method_56_code
abbrev cX12_lean : ByteArray := prog_14_method_57_code
abbrev cX12_tank : ByteArray := prog_14_method_58_code
abbrev cX12_floats : ByteArray := prog_14_method_59_code
abbrev cX12_layerAt : ByteArray := prog_14_method_60_code
abbrev cX12_above : ByteArray := prog_14_method_61_code
abbrev cX12_middle : ByteArray := prog_14_method_62_code
abbrev cX12_findSlip : ByteArray := prog_14_method_63_code
abbrev cX12_margin : ByteArray := prog_14_method_64_code
abbrev cX12_least : ByteArray := prog_14_method_65_code
abbrev cX12_work : ByteArray := prog_14_method_66_code
abbrev cX12_hasHouse : ByteArray := prog_14_method_67_code
abbrev cX12_findAllKept : ByteArray := prog_14_method_68_code
abbrev cX12_isSafe : ByteArray := prog_14_method_69_code
abbrev cX12_columnStands : ByteArray := prog_14_method_70_code
abbrev cX12_lookAnew : ByteArray := prog_14_method_71_code
abbrev cX12_allStand : ByteArray := prog_14_method_72_code
abbrev cX12_stands : ByteArray := prog_14_method_73_code
abbrev cX12_priceOf : ByteArray := prog_14_method_74_code
abbrev cX12_plan : ByteArray := prog_14_method_75_code
abbrev cX12_goColumn : ByteArray := prog_14_method_76_code
abbrev cX12_loss : ByteArray := prog_14_method_77_code
abbrev cX12_feed : ByteArray := prog_14_method_78_code
abbrev cX12_here : ByteArray := prog_14_method_79_code
abbrev cX12_fails : ByteArray := prog_14_method_80_code
abbrev cX12_readWord : ByteArray := prog_14_method_81_code
abbrev cX12_code : ByteArray := prog_14_method_82_code
abbrev cX12_keyOf : ByteArray := prog_14_method_83_code
abbrev cX12_nameOf : ByteArray := prog_14_method_84_code
abbrev cX12_leastOf : ByteArray := prog_14_method_85_code
abbrev cX12_mostOf : ByteArray := prog_14_method_86_code
abbrev cX12_readNumber : ByteArray := prog_14_method_87_code
abbrev cX12_readRule : ByteArray := prog_14_method_88_code
abbrev cX12_readKind : ByteArray := prog_14_method_89_code
abbrev cX12_readClause : ByteArray := prog_14_method_90_code
abbrev cX12_read : ByteArray := prog_14_method_91_code
abbrev cX12_fault : ByteArray := prog_14_method_92_code
abbrev cX12_rule : ByteArray := prog_14_method_93_code
def yX12_init : MethodName := ⟨RX12, "<init>", "()V"⟩
def yX12_first : MethodName := ⟨RX12, "first", "()V"⟩
def yX12_keep : MethodName := ⟨RX12, "keep", "()V"⟩
def yX12_change : MethodName := ⟨RX12, "change", "()V"⟩
def yX12_in : MethodName := ⟨RX12, "in", "(JJJ)Z"⟩
def yX12_gcd : MethodName := ⟨RX12, "gcd", "(JJ)J"⟩
def yX12_isColumn : MethodName := ⟨RX12, "isColumn", "(I)Z"⟩
def yX12_isLayer : MethodName := ⟨RX12, "isLayer", "(II)Z"⟩
def yX12_isShake : MethodName := ⟨RX12, "isShake", "(I)Z"⟩
def yX12_column : MethodName := ⟨RX12, "column", "(III)I"⟩
def yX12_layer : MethodName := ⟨RX12, "layer", "(IIII)I"⟩
def yX12_loose : MethodName := ⟨RX12, "loose", "(IIII)I"⟩
def yX12_depth : MethodName := ⟨RX12, "depth", "(II)I"⟩
def yX12_isWet : MethodName := ⟨RX12, "isWet", "(II)Z"⟩
def yX12_heavy : MethodName := ⟨RX12, "heavy", "(II)I"⟩
def yX12_hold : MethodName := ⟨RX12, "hold", "(II)I"⟩
def yX12_about : MethodName := ⟨RX12, "about", "(III)I"⟩
def yX12_shake : MethodName := ⟨RX12, "shake", "(I)I"⟩
def yX12_beat : MethodName := ⟨RX12, "beat", "(II)I"⟩
def yX12_count : MethodName := ⟨RX12, "count", "(I)I"⟩
def yX12_manyChoices : MethodName := ⟨RX12, "manyChoices", "(I)I"⟩
def yX12_choose : MethodName := ⟨RX12, "choose", "(II)V"⟩
def yX12_grow : MethodName := ⟨RX12, "grow", "(III)V"⟩
def yX12_drain : MethodName := ⟨RX12, "drain", "(II)V"⟩
def yX12_runOf : MethodName := ⟨RX12, "runOf", "(II)V"⟩
def yX12_plain : MethodName := ⟨RX12, "plain", "()V"⟩
def yX12_run : MethodName := ⟨RX12, "run", "(IIII)I"⟩
def yX12_isWord : MethodName := ⟨RX12, "isWord", "(I)Z"⟩
def yX12_word : MethodName := ⟨RX12, "word", "(IIIII)I"⟩
def yX12_strike : MethodName := ⟨RX12, "strike", "(IZ)I"⟩
def yX12_letsGo : MethodName := ⟨RX12, "letsGo", "(I)Z"⟩
def yX12_forget : MethodName := ⟨RX12, "forget", "()V"⟩
def yX12_barsChoice : MethodName := ⟨RX12, "barsChoice", "(I)Z"⟩
def yX12_barring : MethodName := ⟨RX12, "barring", "(I)I"⟩
def yX12_bars : MethodName := ⟨RX12, "bars", "(I)I"⟩
def yX12_bits : MethodName := ⟨RX12, "bits", "(I)I"⟩
def yX12_toStrike : MethodName := ⟨RX12, "toStrike", "(I)I"⟩
def yX12_findKept : MethodName := ⟨RX12, "findKept", "(I)I"⟩
def yX12_choices : MethodName := ⟨RX12, "choices", "(IIII)I"⟩
def yX12_begin : MethodName := ⟨RX12, "begin", "()V"⟩
def yX12_tell : MethodName := ⟨RX12, "tell", "(Z)V"⟩
def yX12_note : MethodName := ⟨RX12, "note", "(I)V"⟩
def yX12_share : MethodName := ⟨RX12, "share", "(I)J"⟩
def yX12_goThrough : MethodName := ⟨RX12, "goThrough", "(III)Z"⟩
def yX12_odds : MethodName := ⟨RX12, "odds", "(IIII)J"⟩
def yX12_step : MethodName := ⟨RX12, "step", "(IIII)I"⟩
def yX12_isHouse : MethodName := ⟨RX12, "isHouse", "(I)Z"⟩
def yX12_house : MethodName := ⟨RX12, "house", "(III)I"⟩
def yX12_part : MethodName := ⟨RX12, "part", "(II)I"⟩
def yX12_sinkOf : MethodName := ⟨RX12, "sinkOf", "(I)I"⟩
def yX12_firstSink : MethodName := ⟨RX12, "firstSink", "(II)I"⟩
def yX12_goHouse : MethodName := ⟨RX12, "goHouse", "(II)Z"⟩
def yX12_sink : MethodName := ⟨RX12, "sink", "(III)I"⟩
def yX12_sunk : MethodName := ⟨RX12, "sunk", "(III)J"⟩
def yX12_led : MethodName := ⟨RX12, "led", "(III)I"⟩
def yX12_lean : MethodName := ⟨RX12, "lean", "(III)I"⟩
def yX12_tank : MethodName := ⟨RX12, "tank", "(IIII)I"⟩
def yX12_floats : MethodName := ⟨RX12, "floats", "(II)I"⟩
def yX12_layerAt : MethodName := ⟨RX12, "layerAt", "(II)I"⟩
def yX12_above : MethodName := ⟨RX12, "above", "(II)I"⟩
def yX12_middle : MethodName := ⟨RX12, "middle", "(II)I"⟩
def yX12_findSlip : MethodName := ⟨RX12, "findSlip", "(IIII)Z"⟩
def yX12_margin : MethodName := ⟨RX12, "margin", "(IIIII)J"⟩
def yX12_least : MethodName := ⟨RX12, "least", "(II)J"⟩
def yX12_work : MethodName := ⟨RX12, "work", "(IIII)I"⟩
def yX12_hasHouse : MethodName := ⟨RX12, "hasHouse", "(I)Z"⟩
def yX12_findAllKept : MethodName := ⟨RX12, "findAllKept", "()Z"⟩
def yX12_isSafe : MethodName := ⟨RX12, "isSafe", "(II)Z"⟩
def yX12_columnStands : MethodName := ⟨RX12, "columnStands", "(II)Z"⟩
def yX12_lookAnew : MethodName := ⟨RX12, "lookAnew", "()V"⟩
def yX12_allStand : MethodName := ⟨RX12, "allStand", "(I)Z"⟩
def yX12_stands : MethodName := ⟨RX12, "stands", "(I)I"⟩
def yX12_priceOf : MethodName := ⟨RX12, "priceOf", "(I)I"⟩
def yX12_plan : MethodName := ⟨RX12, "plan", "(I)I"⟩
def yX12_goColumn : MethodName := ⟨RX12, "goColumn", "(II)V"⟩
def yX12_loss : MethodName := ⟨RX12, "loss", "()J"⟩
def yX12_feed : MethodName := ⟨RX12, "feed", "(IJ)I"⟩
def yX12_here : MethodName := ⟨RX12, "here", "()I"⟩
def yX12_fails : MethodName := ⟨RX12, "fails", "(II)I"⟩
def yX12_readWord : MethodName := ⟨RX12, "readWord", "()V"⟩
def yX12_code : MethodName := ⟨RX12, "code", "(IIIIII)J"⟩
def yX12_keyOf : MethodName := ⟨RX12, "keyOf", "()I"⟩
def yX12_nameOf : MethodName := ⟨RX12, "nameOf", "()I"⟩
def yX12_leastOf : MethodName := ⟨RX12, "leastOf", "(I)I"⟩
def yX12_mostOf : MethodName := ⟨RX12, "mostOf", "(I)I"⟩
def yX12_readNumber : MethodName := ⟨RX12, "readNumber", "(II)I"⟩
def yX12_readRule : MethodName := ⟨RX12, "readRule", "(I)I"⟩
def yX12_readKind : MethodName := ⟨RX12, "readKind", "()I"⟩
def yX12_readClause : MethodName := ⟨RX12, "readClause", "(Z)I"⟩
def yX12_read : MethodName := ⟨RX12, "read", "()I"⟩
def yX12_fault : MethodName := ⟨RX12, "fault", "()I"⟩
def yX12_rule : MethodName := ⟨RX12, "rule", "(I)I"⟩
def RL : String := "SoupSandLaw"
abbrev cL_law : ByteArray := code
abbrev vwCl : List vw_C := [(RX0, TX0, 8), (RX1, TX1, 4), (RX2, TX2, 7), (RX3, TX3, 1), (RX4, TX4, 4), (RX5, TX5, 8), (RX6, TX6, 8), (RX7, TX7, 5), (RX8, TX8, 17), (RX9, TX9, 10), (RX10, TX10, 6), (RX11, TX11, 11), (RX12, TX12, 66)]
/-- the tables' words that stay good at every call -/
def lw_gd : List Cond := lw_tbl.filter goodWord
theorem gd_good {w : Cond} (h : w ∈ lw_gd) : (w.onTables && w.keeps) = true ∨ ∃ ty, w = .arrayClass ty := good_of_word (List.mem_filter.mp h).2
theorem gd_tbl {w : Cond} (h : w ∈ lw_gd) : w ∈ lw_tbl := (List.mem_filter.mp h).1
theorem gd_at {w : Cond} (i : Nat) (h : lw_tbl[i]? = some w) (g : goodWord w = true) : w ∈ lw_gd := List.mem_filter.mpr ⟨List.mem_of_getElem? h, g⟩
theorem gd_in {w : Cond} (h : w ∈ tables_1) (g : goodWord w = true) : w ∈ lw_gd := List.mem_filter.mpr ⟨List.mem_append_right _ h, g⟩
theorem gt_1 {w : Cond} (h : w ∈ tables_1_1) : w ∈ tables_1 := List.mem_append_left _ (h)
theorem gs_1 {w : Cond} (i : Nat) (h : tables_1_1[i]? = some w) (g : goodWord w = true) : w ∈ lw_gd := gd_in (gt_1 (List.mem_of_getElem? h)) g
theorem gt_2 {w : Cond} (h : w ∈ tables_1_2) : w ∈ tables_1 := List.mem_append_right _ (List.mem_append_left _ (h))
theorem gs_2 {w : Cond} (i : Nat) (h : tables_1_2[i]? = some w) (g : goodWord w = true) : w ∈ lw_gd := gd_in (gt_2 (List.mem_of_getElem? h)) g
theorem gt_3 {w : Cond} (h : w ∈ tables_1_3) : w ∈ tables_1 := List.mem_append_right _ (List.mem_append_right _ (List.mem_append_left _ (h)))
theorem gs_3 {w : Cond} (i : Nat) (h : tables_1_3[i]? = some w) (g : goodWord w = true) : w ∈ lw_gd := gd_in (gt_3 (List.mem_of_getElem? h)) g
theorem gt_4 {w : Cond} (h : w ∈ tables_1_4) : w ∈ tables_1 := List.mem_append_right _ (List.mem_append_right _ (List.mem_append_right _ (List.mem_append_left _ (h))))
theorem gs_4 {w : Cond} (i : Nat) (h : tables_1_4[i]? = some w) (g : goodWord w = true) : w ∈ lw_gd := gd_in (gt_4 (List.mem_of_getElem? h)) g
theorem gt_5 {w : Cond} (h : w ∈ tables_1_5) : w ∈ tables_1 := List.mem_append_right _ (List.mem_append_right _ (List.mem_append_right _ (List.mem_append_right _ (List.mem_append_left _ (h)))))
theorem gs_5 {w : Cond} (i : Nat) (h : tables_1_5[i]? = some w) (g : goodWord w = true) : w ∈ lw_gd := gd_in (gt_5 (List.mem_of_getElem? h)) g
theorem gt_6 {w : Cond} (h : w ∈ tables_1_6) : w ∈ tables_1 := List.mem_append_right _ (List.mem_append_right _ (List.mem_append_right _ (List.mem_append_right _ (List.mem_append_right _ (List.mem_append_left _ (h))))))
theorem gs_6 {w : Cond} (i : Nat) (h : tables_1_6[i]? = some w) (g : goodWord w = true) : w ∈ lw_gd := gd_in (gt_6 (List.mem_of_getElem? h)) g
theorem gt_7 {w : Cond} (h : w ∈ tables_1_7) : w ∈ tables_1 := List.mem_append_right _ (List.mem_append_right _ (List.mem_append_right _ (List.mem_append_right _ (List.mem_append_right _ (List.mem_append_right _ (h))))))
theorem gs_7 {w : Cond} (i : Nat) (h : tables_1_7[i]? = some w) (g : goodWord w = true) : w ∈ lw_gd := gd_in (gt_7 (List.mem_of_getElem? h)) g
set_option maxRecDepth 100000 in
theorem kl0_0 : u_lay RX0 TX0 0 ∈ lw_gd := gs_1 62 (by decide +kernel) (by decide +kernel)
set_option maxRecDepth 100000 in
theorem kl0_1 : u_lay RX0 TX0 1 ∈ lw_gd := gs_1 64 (by decide +kernel) (by decide +kernel)
set_option maxRecDepth 100000 in
theorem kl0_2 : u_lay RX0 TX0 2 ∈ lw_gd := gs_1 66 (by decide +kernel) (by decide +kernel)
set_option maxRecDepth 100000 in
theorem kl0_3 : u_lay RX0 TX0 3 ∈ lw_gd := gs_1 68 (by decide +kernel) (by decide +kernel)
set_option maxRecDepth 100000 in
theorem kl0_4 : u_lay RX0 TX0 4 ∈ lw_gd := gs_1 70 (by decide +kernel) (by decide +kernel)
set_option maxRecDepth 100000 in
theorem kl0_5 : u_lay RX0 TX0 5 ∈ lw_gd := gs_1 72 (by decide +kernel) (by decide +kernel)
set_option maxRecDepth 100000 in
theorem kl0_6 : u_lay RX0 TX0 6 ∈ lw_gd := gs_1 74 (by decide +kernel) (by decide +kernel)
set_option maxRecDepth 100000 in
theorem kl0_7 : u_lay RX0 TX0 7 ∈ lw_gd := gs_1 76 (by decide +kernel) (by decide +kernel)
theorem kl0 : ∀ w ∈ u_ws RX0 TX0 8, w ∈ lw_gd := by
  intro w h
  obtain ⟨k, hk, rfl⟩ := List.mem_map.mp h
  have hk := List.mem_range.mp hk
  match k, hk with
  | 0, _ => exact kl0_0
  | 1, _ => exact kl0_1
  | 2, _ => exact kl0_2
  | 3, _ => exact kl0_3
  | 4, _ => exact kl0_4
  | 5, _ => exact kl0_5
  | 6, _ => exact kl0_6
  | 7, _ => exact kl0_7
  | k + 8, hk => exact absurd hk (by omega)
set_option maxRecDepth 100000 in
theorem kN0 : Cond.initialized RX0 ∈ lw_gd := gs_1 3 (by decide +kernel) (by decide +kernel)
set_option maxRecDepth 100000 in
theorem kl1_0 : u_lay RX1 TX1 0 ∈ lw_gd := gs_2 2 (by decide +kernel) (by decide +kernel)
set_option maxRecDepth 100000 in
theorem kl1_1 : u_lay RX1 TX1 1 ∈ lw_gd := gs_2 4 (by decide +kernel) (by decide +kernel)
set_option maxRecDepth 100000 in
theorem kl1_2 : u_lay RX1 TX1 2 ∈ lw_gd := gs_2 6 (by decide +kernel) (by decide +kernel)
set_option maxRecDepth 100000 in
theorem kl1_3 : u_lay RX1 TX1 3 ∈ lw_gd := gs_2 8 (by decide +kernel) (by decide +kernel)
theorem kl1 : ∀ w ∈ u_ws RX1 TX1 4, w ∈ lw_gd := by
  intro w h
  obtain ⟨k, hk, rfl⟩ := List.mem_map.mp h
  have hk := List.mem_range.mp hk
  match k, hk with
  | 0, _ => exact kl1_0
  | 1, _ => exact kl1_1
  | 2, _ => exact kl1_2
  | 3, _ => exact kl1_3
  | k + 4, hk => exact absurd hk (by omega)
set_option maxRecDepth 100000 in
theorem kN1 : Cond.initialized RX1 ∈ lw_gd := gs_1 7 (by decide +kernel) (by decide +kernel)
set_option maxRecDepth 100000 in
theorem kl2_0 : u_lay RX2 TX2 0 ∈ lw_gd := gs_2 158 (by decide +kernel) (by decide +kernel)
set_option maxRecDepth 100000 in
theorem kl2_1 : u_lay RX2 TX2 1 ∈ lw_gd := gs_2 160 (by decide +kernel) (by decide +kernel)
set_option maxRecDepth 100000 in
theorem kl2_2 : u_lay RX2 TX2 2 ∈ lw_gd := gs_2 162 (by decide +kernel) (by decide +kernel)
set_option maxRecDepth 100000 in
theorem kl2_3 : u_lay RX2 TX2 3 ∈ lw_gd := gs_2 164 (by decide +kernel) (by decide +kernel)
set_option maxRecDepth 100000 in
theorem kl2_4 : u_lay RX2 TX2 4 ∈ lw_gd := gs_2 166 (by decide +kernel) (by decide +kernel)
set_option maxRecDepth 100000 in
theorem kl2_5 : u_lay RX2 TX2 5 ∈ lw_gd := gs_2 168 (by decide +kernel) (by decide +kernel)
set_option maxRecDepth 100000 in
theorem kl2_6 : u_lay RX2 TX2 6 ∈ lw_gd := gs_2 170 (by decide +kernel) (by decide +kernel)
theorem kl2 : ∀ w ∈ u_ws RX2 TX2 7, w ∈ lw_gd := by
  intro w h
  obtain ⟨k, hk, rfl⟩ := List.mem_map.mp h
  have hk := List.mem_range.mp hk
  match k, hk with
  | 0, _ => exact kl2_0
  | 1, _ => exact kl2_1
  | 2, _ => exact kl2_2
  | 3, _ => exact kl2_3
  | 4, _ => exact kl2_4
  | 5, _ => exact kl2_5
  | 6, _ => exact kl2_6
  | k + 7, hk => exact absurd hk (by omega)
set_option maxRecDepth 100000 in
theorem kN2 : Cond.initialized RX2 ∈ lw_gd := gs_1 12 (by decide +kernel) (by decide +kernel)
set_option maxRecDepth 100000 in
theorem kl3_0 : u_lay RX3 TX3 0 ∈ lw_gd := gs_1 122 (by decide +kernel) (by decide +kernel)
theorem kl3 : ∀ w ∈ u_ws RX3 TX3 1, w ∈ lw_gd := by
  intro w h
  obtain ⟨k, hk, rfl⟩ := List.mem_map.mp h
  have hk := List.mem_range.mp hk
  match k, hk with
  | 0, _ => exact kl3_0
  | k + 1, hk => exact absurd hk (by omega)
set_option maxRecDepth 100000 in
theorem kN3 : Cond.initialized RX3 ∈ lw_gd := gs_1 5 (by decide +kernel) (by decide +kernel)
set_option maxRecDepth 100000 in
theorem kl4_0 : u_lay RX4 TX4 0 ∈ lw_gd := gs_1 96 (by decide +kernel) (by decide +kernel)
set_option maxRecDepth 100000 in
theorem kl4_1 : u_lay RX4 TX4 1 ∈ lw_gd := gs_1 98 (by decide +kernel) (by decide +kernel)
set_option maxRecDepth 100000 in
theorem kl4_2 : u_lay RX4 TX4 2 ∈ lw_gd := gs_1 100 (by decide +kernel) (by decide +kernel)
set_option maxRecDepth 100000 in
theorem kl4_3 : u_lay RX4 TX4 3 ∈ lw_gd := gs_1 102 (by decide +kernel) (by decide +kernel)
theorem kl4 : ∀ w ∈ u_ws RX4 TX4 4, w ∈ lw_gd := by
  intro w h
  obtain ⟨k, hk, rfl⟩ := List.mem_map.mp h
  have hk := List.mem_range.mp hk
  match k, hk with
  | 0, _ => exact kl4_0
  | 1, _ => exact kl4_1
  | 2, _ => exact kl4_2
  | 3, _ => exact kl4_3
  | k + 4, hk => exact absurd hk (by omega)
set_option maxRecDepth 100000 in
theorem kN4 : Cond.initialized RX4 ∈ lw_gd := gs_1 4 (by decide +kernel) (by decide +kernel)
set_option maxRecDepth 100000 in
theorem kl5_0 : u_lay RX5 TX5 0 ∈ lw_gd := gs_2 124 (by decide +kernel) (by decide +kernel)
set_option maxRecDepth 100000 in
theorem kl5_1 : u_lay RX5 TX5 1 ∈ lw_gd := gs_2 126 (by decide +kernel) (by decide +kernel)
set_option maxRecDepth 100000 in
theorem kl5_2 : u_lay RX5 TX5 2 ∈ lw_gd := gs_2 128 (by decide +kernel) (by decide +kernel)
set_option maxRecDepth 100000 in
theorem kl5_3 : u_lay RX5 TX5 3 ∈ lw_gd := gs_2 130 (by decide +kernel) (by decide +kernel)
set_option maxRecDepth 100000 in
theorem kl5_4 : u_lay RX5 TX5 4 ∈ lw_gd := gs_2 132 (by decide +kernel) (by decide +kernel)
set_option maxRecDepth 100000 in
theorem kl5_5 : u_lay RX5 TX5 5 ∈ lw_gd := gs_2 134 (by decide +kernel) (by decide +kernel)
set_option maxRecDepth 100000 in
theorem kl5_6 : u_lay RX5 TX5 6 ∈ lw_gd := gs_2 136 (by decide +kernel) (by decide +kernel)
set_option maxRecDepth 100000 in
theorem kl5_7 : u_lay RX5 TX5 7 ∈ lw_gd := gs_2 138 (by decide +kernel) (by decide +kernel)
theorem kl5 : ∀ w ∈ u_ws RX5 TX5 8, w ∈ lw_gd := by
  intro w h
  obtain ⟨k, hk, rfl⟩ := List.mem_map.mp h
  have hk := List.mem_range.mp hk
  match k, hk with
  | 0, _ => exact kl5_0
  | 1, _ => exact kl5_1
  | 2, _ => exact kl5_2
  | 3, _ => exact kl5_3
  | 4, _ => exact kl5_4
  | 5, _ => exact kl5_5
  | 6, _ => exact kl5_6
  | 7, _ => exact kl5_7
  | k + 8, hk => exact absurd hk (by omega)
set_option maxRecDepth 100000 in
theorem kN5 : Cond.initialized RX5 ∈ lw_gd := gs_1 11 (by decide +kernel) (by decide +kernel)
set_option maxRecDepth 100000 in
theorem kl6_0 : u_lay RX6 TX6 0 ∈ lw_gd := gs_2 86 (by decide +kernel) (by decide +kernel)
set_option maxRecDepth 100000 in
theorem kl6_1 : u_lay RX6 TX6 1 ∈ lw_gd := gs_2 88 (by decide +kernel) (by decide +kernel)
set_option maxRecDepth 100000 in
theorem kl6_2 : u_lay RX6 TX6 2 ∈ lw_gd := gs_2 90 (by decide +kernel) (by decide +kernel)
set_option maxRecDepth 100000 in
theorem kl6_3 : u_lay RX6 TX6 3 ∈ lw_gd := gs_2 92 (by decide +kernel) (by decide +kernel)
set_option maxRecDepth 100000 in
theorem kl6_4 : u_lay RX6 TX6 4 ∈ lw_gd := gs_2 94 (by decide +kernel) (by decide +kernel)
set_option maxRecDepth 100000 in
theorem kl6_5 : u_lay RX6 TX6 5 ∈ lw_gd := gs_2 96 (by decide +kernel) (by decide +kernel)
set_option maxRecDepth 100000 in
theorem kl6_6 : u_lay RX6 TX6 6 ∈ lw_gd := gs_2 98 (by decide +kernel) (by decide +kernel)
set_option maxRecDepth 100000 in
theorem kl6_7 : u_lay RX6 TX6 7 ∈ lw_gd := gs_2 100 (by decide +kernel) (by decide +kernel)
theorem kl6 : ∀ w ∈ u_ws RX6 TX6 8, w ∈ lw_gd := by
  intro w h
  obtain ⟨k, hk, rfl⟩ := List.mem_map.mp h
  have hk := List.mem_range.mp hk
  match k, hk with
  | 0, _ => exact kl6_0
  | 1, _ => exact kl6_1
  | 2, _ => exact kl6_2
  | 3, _ => exact kl6_3
  | 4, _ => exact kl6_4
  | 5, _ => exact kl6_5
  | 6, _ => exact kl6_6
  | 7, _ => exact kl6_7
  | k + 8, hk => exact absurd hk (by omega)
set_option maxRecDepth 100000 in
theorem kN6 : Cond.initialized RX6 ∈ lw_gd := gs_1 10 (by decide +kernel) (by decide +kernel)
set_option maxRecDepth 100000 in
theorem kl7_0 : u_lay RX7 TX7 0 ∈ lw_gd := gs_2 27 (by decide +kernel) (by decide +kernel)
set_option maxRecDepth 100000 in
theorem kl7_1 : u_lay RX7 TX7 1 ∈ lw_gd := gs_2 29 (by decide +kernel) (by decide +kernel)
set_option maxRecDepth 100000 in
theorem kl7_2 : u_lay RX7 TX7 2 ∈ lw_gd := gs_2 31 (by decide +kernel) (by decide +kernel)
set_option maxRecDepth 100000 in
theorem kl7_3 : u_lay RX7 TX7 3 ∈ lw_gd := gs_2 33 (by decide +kernel) (by decide +kernel)
set_option maxRecDepth 100000 in
theorem kl7_4 : u_lay RX7 TX7 4 ∈ lw_gd := gs_2 35 (by decide +kernel) (by decide +kernel)
theorem kl7 : ∀ w ∈ u_ws RX7 TX7 5, w ∈ lw_gd := by
  intro w h
  obtain ⟨k, hk, rfl⟩ := List.mem_map.mp h
  have hk := List.mem_range.mp hk
  match k, hk with
  | 0, _ => exact kl7_0
  | 1, _ => exact kl7_1
  | 2, _ => exact kl7_2
  | 3, _ => exact kl7_3
  | 4, _ => exact kl7_4
  | k + 5, hk => exact absurd hk (by omega)
set_option maxRecDepth 100000 in
theorem kN7 : Cond.initialized RX7 ∈ lw_gd := gs_1 8 (by decide +kernel) (by decide +kernel)
set_option maxRecDepth 100000 in
theorem kl8_0 : u_lay RX8 TX8 0 ∈ lw_gd := gs_1 152 (by decide +kernel) (by decide +kernel)
set_option maxRecDepth 100000 in
theorem kl8_1 : u_lay RX8 TX8 1 ∈ lw_gd := gs_1 154 (by decide +kernel) (by decide +kernel)
set_option maxRecDepth 100000 in
theorem kl8_2 : u_lay RX8 TX8 2 ∈ lw_gd := gs_1 156 (by decide +kernel) (by decide +kernel)
set_option maxRecDepth 100000 in
theorem kl8_3 : u_lay RX8 TX8 3 ∈ lw_gd := gs_1 158 (by decide +kernel) (by decide +kernel)
set_option maxRecDepth 100000 in
theorem kl8_4 : u_lay RX8 TX8 4 ∈ lw_gd := gs_1 160 (by decide +kernel) (by decide +kernel)
set_option maxRecDepth 100000 in
theorem kl8_5 : u_lay RX8 TX8 5 ∈ lw_gd := gs_1 162 (by decide +kernel) (by decide +kernel)
set_option maxRecDepth 100000 in
theorem kl8_6 : u_lay RX8 TX8 6 ∈ lw_gd := gs_1 164 (by decide +kernel) (by decide +kernel)
set_option maxRecDepth 100000 in
theorem kl8_7 : u_lay RX8 TX8 7 ∈ lw_gd := gs_1 166 (by decide +kernel) (by decide +kernel)
set_option maxRecDepth 100000 in
theorem kl8_8 : u_lay RX8 TX8 8 ∈ lw_gd := gs_1 168 (by decide +kernel) (by decide +kernel)
set_option maxRecDepth 100000 in
theorem kl8_9 : u_lay RX8 TX8 9 ∈ lw_gd := gs_1 170 (by decide +kernel) (by decide +kernel)
set_option maxRecDepth 100000 in
theorem kl8_10 : u_lay RX8 TX8 10 ∈ lw_gd := gs_1 172 (by decide +kernel) (by decide +kernel)
set_option maxRecDepth 100000 in
theorem kl8_11 : u_lay RX8 TX8 11 ∈ lw_gd := gs_1 174 (by decide +kernel) (by decide +kernel)
set_option maxRecDepth 100000 in
theorem kl8_12 : u_lay RX8 TX8 12 ∈ lw_gd := gs_1 176 (by decide +kernel) (by decide +kernel)
set_option maxRecDepth 100000 in
theorem kl8_13 : u_lay RX8 TX8 13 ∈ lw_gd := gs_1 178 (by decide +kernel) (by decide +kernel)
set_option maxRecDepth 100000 in
theorem kl8_14 : u_lay RX8 TX8 14 ∈ lw_gd := gs_1 180 (by decide +kernel) (by decide +kernel)
set_option maxRecDepth 100000 in
theorem kl8_15 : u_lay RX8 TX8 15 ∈ lw_gd := gs_1 182 (by decide +kernel) (by decide +kernel)
set_option maxRecDepth 100000 in
theorem kl8_16 : u_lay RX8 TX8 16 ∈ lw_gd := gs_1 184 (by decide +kernel) (by decide +kernel)
theorem kl8 : ∀ w ∈ u_ws RX8 TX8 17, w ∈ lw_gd := by
  intro w h
  obtain ⟨k, hk, rfl⟩ := List.mem_map.mp h
  have hk := List.mem_range.mp hk
  match k, hk with
  | 0, _ => exact kl8_0
  | 1, _ => exact kl8_1
  | 2, _ => exact kl8_2
  | 3, _ => exact kl8_3
  | 4, _ => exact kl8_4
  | 5, _ => exact kl8_5
  | 6, _ => exact kl8_6
  | 7, _ => exact kl8_7
  | 8, _ => exact kl8_8
  | 9, _ => exact kl8_9
  | 10, _ => exact kl8_10
  | 11, _ => exact kl8_11
  | 12, _ => exact kl8_12
  | 13, _ => exact kl8_13
  | 14, _ => exact kl8_14
  | 15, _ => exact kl8_15
  | 16, _ => exact kl8_16
  | k + 17, hk => exact absurd hk (by omega)
set_option maxRecDepth 100000 in
theorem kN8 : Cond.initialized RX8 ∈ lw_gd := gs_1 2 (by decide +kernel) (by decide +kernel)
set_option maxRecDepth 100000 in
theorem kl9_0 : u_lay RX9 TX9 0 ∈ lw_gd := gs_1 207 (by decide +kernel) (by decide +kernel)
set_option maxRecDepth 100000 in
theorem kl9_1 : u_lay RX9 TX9 1 ∈ lw_gd := gs_1 209 (by decide +kernel) (by decide +kernel)
set_option maxRecDepth 100000 in
theorem kl9_2 : u_lay RX9 TX9 2 ∈ lw_gd := gs_1 211 (by decide +kernel) (by decide +kernel)
set_option maxRecDepth 100000 in
theorem kl9_3 : u_lay RX9 TX9 3 ∈ lw_gd := gs_1 213 (by decide +kernel) (by decide +kernel)
set_option maxRecDepth 100000 in
theorem kl9_4 : u_lay RX9 TX9 4 ∈ lw_gd := gs_1 215 (by decide +kernel) (by decide +kernel)
set_option maxRecDepth 100000 in
theorem kl9_5 : u_lay RX9 TX9 5 ∈ lw_gd := gs_1 217 (by decide +kernel) (by decide +kernel)
set_option maxRecDepth 100000 in
theorem kl9_6 : u_lay RX9 TX9 6 ∈ lw_gd := gs_1 219 (by decide +kernel) (by decide +kernel)
set_option maxRecDepth 100000 in
theorem kl9_7 : u_lay RX9 TX9 7 ∈ lw_gd := gs_1 221 (by decide +kernel) (by decide +kernel)
set_option maxRecDepth 100000 in
theorem kl9_8 : u_lay RX9 TX9 8 ∈ lw_gd := gs_1 223 (by decide +kernel) (by decide +kernel)
set_option maxRecDepth 100000 in
theorem kl9_9 : u_lay RX9 TX9 9 ∈ lw_gd := gs_1 225 (by decide +kernel) (by decide +kernel)
theorem kl9 : ∀ w ∈ u_ws RX9 TX9 10, w ∈ lw_gd := by
  intro w h
  obtain ⟨k, hk, rfl⟩ := List.mem_map.mp h
  have hk := List.mem_range.mp hk
  match k, hk with
  | 0, _ => exact kl9_0
  | 1, _ => exact kl9_1
  | 2, _ => exact kl9_2
  | 3, _ => exact kl9_3
  | 4, _ => exact kl9_4
  | 5, _ => exact kl9_5
  | 6, _ => exact kl9_6
  | 7, _ => exact kl9_7
  | 8, _ => exact kl9_8
  | 9, _ => exact kl9_9
  | k + 10, hk => exact absurd hk (by omega)
set_option maxRecDepth 100000 in
theorem kN9 : Cond.initialized RX9 ∈ lw_gd := gs_1 6 (by decide +kernel) (by decide +kernel)
set_option maxRecDepth 100000 in
theorem kl10_0 : u_lay RX10 TX10 0 ∈ lw_gd := gs_2 52 (by decide +kernel) (by decide +kernel)
set_option maxRecDepth 100000 in
theorem kl10_1 : u_lay RX10 TX10 1 ∈ lw_gd := gs_2 54 (by decide +kernel) (by decide +kernel)
set_option maxRecDepth 100000 in
theorem kl10_2 : u_lay RX10 TX10 2 ∈ lw_gd := gs_2 56 (by decide +kernel) (by decide +kernel)
set_option maxRecDepth 100000 in
theorem kl10_3 : u_lay RX10 TX10 3 ∈ lw_gd := gs_2 58 (by decide +kernel) (by decide +kernel)
set_option maxRecDepth 100000 in
theorem kl10_4 : u_lay RX10 TX10 4 ∈ lw_gd := gs_2 60 (by decide +kernel) (by decide +kernel)
set_option maxRecDepth 100000 in
theorem kl10_5 : u_lay RX10 TX10 5 ∈ lw_gd := gs_2 62 (by decide +kernel) (by decide +kernel)
theorem kl10 : ∀ w ∈ u_ws RX10 TX10 6, w ∈ lw_gd := by
  intro w h
  obtain ⟨k, hk, rfl⟩ := List.mem_map.mp h
  have hk := List.mem_range.mp hk
  match k, hk with
  | 0, _ => exact kl10_0
  | 1, _ => exact kl10_1
  | 2, _ => exact kl10_2
  | 3, _ => exact kl10_3
  | 4, _ => exact kl10_4
  | 5, _ => exact kl10_5
  | k + 6, hk => exact absurd hk (by omega)
set_option maxRecDepth 100000 in
theorem kN10 : Cond.initialized RX10 ∈ lw_gd := gs_1 9 (by decide +kernel) (by decide +kernel)
set_option maxRecDepth 100000 in
theorem kl11_0 : u_lay RX11 TX11 0 ∈ lw_gd := gs_2 184 (by decide +kernel) (by decide +kernel)
set_option maxRecDepth 100000 in
theorem kl11_1 : u_lay RX11 TX11 1 ∈ lw_gd := gs_2 186 (by decide +kernel) (by decide +kernel)
set_option maxRecDepth 100000 in
theorem kl11_2 : u_lay RX11 TX11 2 ∈ lw_gd := gs_2 188 (by decide +kernel) (by decide +kernel)
set_option maxRecDepth 100000 in
theorem kl11_3 : u_lay RX11 TX11 3 ∈ lw_gd := gs_2 190 (by decide +kernel) (by decide +kernel)
set_option maxRecDepth 100000 in
theorem kl11_4 : u_lay RX11 TX11 4 ∈ lw_gd := gs_2 192 (by decide +kernel) (by decide +kernel)
set_option maxRecDepth 100000 in
theorem kl11_5 : u_lay RX11 TX11 5 ∈ lw_gd := gs_2 194 (by decide +kernel) (by decide +kernel)
set_option maxRecDepth 100000 in
theorem kl11_6 : u_lay RX11 TX11 6 ∈ lw_gd := gs_2 196 (by decide +kernel) (by decide +kernel)
set_option maxRecDepth 100000 in
theorem kl11_7 : u_lay RX11 TX11 7 ∈ lw_gd := gs_2 198 (by decide +kernel) (by decide +kernel)
set_option maxRecDepth 100000 in
theorem kl11_8 : u_lay RX11 TX11 8 ∈ lw_gd := gs_2 200 (by decide +kernel) (by decide +kernel)
set_option maxRecDepth 100000 in
theorem kl11_9 : u_lay RX11 TX11 9 ∈ lw_gd := gs_2 202 (by decide +kernel) (by decide +kernel)
set_option maxRecDepth 100000 in
theorem kl11_10 : u_lay RX11 TX11 10 ∈ lw_gd := gs_2 204 (by decide +kernel) (by decide +kernel)
theorem kl11 : ∀ w ∈ u_ws RX11 TX11 11, w ∈ lw_gd := by
  intro w h
  obtain ⟨k, hk, rfl⟩ := List.mem_map.mp h
  have hk := List.mem_range.mp hk
  match k, hk with
  | 0, _ => exact kl11_0
  | 1, _ => exact kl11_1
  | 2, _ => exact kl11_2
  | 3, _ => exact kl11_3
  | 4, _ => exact kl11_4
  | 5, _ => exact kl11_5
  | 6, _ => exact kl11_6
  | 7, _ => exact kl11_7
  | 8, _ => exact kl11_8
  | 9, _ => exact kl11_9
  | 10, _ => exact kl11_10
  | k + 11, hk => exact absurd hk (by omega)
set_option maxRecDepth 100000 in
theorem kN11 : Cond.initialized RX11 ∈ lw_gd := gs_1 1 (by decide +kernel) (by decide +kernel)
set_option maxRecDepth 100000 in
theorem kl12_0 : u_lay RX12 TX12 0 ∈ lw_gd := gs_5 185 (by decide +kernel) (by decide +kernel)
set_option maxRecDepth 100000 in
theorem kl12_1 : u_lay RX12 TX12 1 ∈ lw_gd := gs_5 187 (by decide +kernel) (by decide +kernel)
set_option maxRecDepth 100000 in
theorem kl12_2 : u_lay RX12 TX12 2 ∈ lw_gd := gs_5 189 (by decide +kernel) (by decide +kernel)
set_option maxRecDepth 100000 in
theorem kl12_3 : u_lay RX12 TX12 3 ∈ lw_gd := gs_5 191 (by decide +kernel) (by decide +kernel)
set_option maxRecDepth 100000 in
theorem kl12_4 : u_lay RX12 TX12 4 ∈ lw_gd := gs_5 193 (by decide +kernel) (by decide +kernel)
set_option maxRecDepth 100000 in
theorem kl12_5 : u_lay RX12 TX12 5 ∈ lw_gd := gs_5 195 (by decide +kernel) (by decide +kernel)
set_option maxRecDepth 100000 in
theorem kl12_6 : u_lay RX12 TX12 6 ∈ lw_gd := gs_5 197 (by decide +kernel) (by decide +kernel)
set_option maxRecDepth 100000 in
theorem kl12_7 : u_lay RX12 TX12 7 ∈ lw_gd := gs_5 199 (by decide +kernel) (by decide +kernel)
set_option maxRecDepth 100000 in
theorem kl12_8 : u_lay RX12 TX12 8 ∈ lw_gd := gs_5 201 (by decide +kernel) (by decide +kernel)
set_option maxRecDepth 100000 in
theorem kl12_9 : u_lay RX12 TX12 9 ∈ lw_gd := gs_5 203 (by decide +kernel) (by decide +kernel)
set_option maxRecDepth 100000 in
theorem kl12_10 : u_lay RX12 TX12 10 ∈ lw_gd := gs_5 205 (by decide +kernel) (by decide +kernel)
set_option maxRecDepth 100000 in
theorem kl12_11 : u_lay RX12 TX12 11 ∈ lw_gd := gs_5 207 (by decide +kernel) (by decide +kernel)
set_option maxRecDepth 100000 in
theorem kl12_12 : u_lay RX12 TX12 12 ∈ lw_gd := gs_5 209 (by decide +kernel) (by decide +kernel)
set_option maxRecDepth 100000 in
theorem kl12_13 : u_lay RX12 TX12 13 ∈ lw_gd := gs_5 211 (by decide +kernel) (by decide +kernel)
set_option maxRecDepth 100000 in
theorem kl12_14 : u_lay RX12 TX12 14 ∈ lw_gd := gs_5 213 (by decide +kernel) (by decide +kernel)
set_option maxRecDepth 100000 in
theorem kl12_15 : u_lay RX12 TX12 15 ∈ lw_gd := gs_5 215 (by decide +kernel) (by decide +kernel)
set_option maxRecDepth 100000 in
theorem kl12_16 : u_lay RX12 TX12 16 ∈ lw_gd := gs_5 217 (by decide +kernel) (by decide +kernel)
set_option maxRecDepth 100000 in
theorem kl12_17 : u_lay RX12 TX12 17 ∈ lw_gd := gs_5 219 (by decide +kernel) (by decide +kernel)
set_option maxRecDepth 100000 in
theorem kl12_18 : u_lay RX12 TX12 18 ∈ lw_gd := gs_5 221 (by decide +kernel) (by decide +kernel)
set_option maxRecDepth 100000 in
theorem kl12_19 : u_lay RX12 TX12 19 ∈ lw_gd := gs_5 223 (by decide +kernel) (by decide +kernel)
set_option maxRecDepth 100000 in
theorem kl12_20 : u_lay RX12 TX12 20 ∈ lw_gd := gs_5 225 (by decide +kernel) (by decide +kernel)
set_option maxRecDepth 100000 in
theorem kl12_21 : u_lay RX12 TX12 21 ∈ lw_gd := gs_5 227 (by decide +kernel) (by decide +kernel)
set_option maxRecDepth 100000 in
theorem kl12_22 : u_lay RX12 TX12 22 ∈ lw_gd := gs_5 229 (by decide +kernel) (by decide +kernel)
set_option maxRecDepth 100000 in
theorem kl12_23 : u_lay RX12 TX12 23 ∈ lw_gd := gs_5 231 (by decide +kernel) (by decide +kernel)
set_option maxRecDepth 100000 in
theorem kl12_24 : u_lay RX12 TX12 24 ∈ lw_gd := gs_5 233 (by decide +kernel) (by decide +kernel)
set_option maxRecDepth 100000 in
theorem kl12_25 : u_lay RX12 TX12 25 ∈ lw_gd := gs_5 235 (by decide +kernel) (by decide +kernel)
set_option maxRecDepth 100000 in
theorem kl12_26 : u_lay RX12 TX12 26 ∈ lw_gd := gs_5 237 (by decide +kernel) (by decide +kernel)
set_option maxRecDepth 100000 in
theorem kl12_27 : u_lay RX12 TX12 27 ∈ lw_gd := gs_5 239 (by decide +kernel) (by decide +kernel)
set_option maxRecDepth 100000 in
theorem kl12_28 : u_lay RX12 TX12 28 ∈ lw_gd := gs_6 1 (by decide +kernel) (by decide +kernel)
set_option maxRecDepth 100000 in
theorem kl12_29 : u_lay RX12 TX12 29 ∈ lw_gd := gs_6 3 (by decide +kernel) (by decide +kernel)
set_option maxRecDepth 100000 in
theorem kl12_30 : u_lay RX12 TX12 30 ∈ lw_gd := gs_6 5 (by decide +kernel) (by decide +kernel)
set_option maxRecDepth 100000 in
theorem kl12_31 : u_lay RX12 TX12 31 ∈ lw_gd := gs_6 7 (by decide +kernel) (by decide +kernel)
set_option maxRecDepth 100000 in
theorem kl12_32 : u_lay RX12 TX12 32 ∈ lw_gd := gs_6 9 (by decide +kernel) (by decide +kernel)
set_option maxRecDepth 100000 in
theorem kl12_33 : u_lay RX12 TX12 33 ∈ lw_gd := gs_6 11 (by decide +kernel) (by decide +kernel)
set_option maxRecDepth 100000 in
theorem kl12_34 : u_lay RX12 TX12 34 ∈ lw_gd := gs_6 13 (by decide +kernel) (by decide +kernel)
set_option maxRecDepth 100000 in
theorem kl12_35 : u_lay RX12 TX12 35 ∈ lw_gd := gs_6 15 (by decide +kernel) (by decide +kernel)
set_option maxRecDepth 100000 in
theorem kl12_36 : u_lay RX12 TX12 36 ∈ lw_gd := gs_6 17 (by decide +kernel) (by decide +kernel)
set_option maxRecDepth 100000 in
theorem kl12_37 : u_lay RX12 TX12 37 ∈ lw_gd := gs_6 19 (by decide +kernel) (by decide +kernel)
set_option maxRecDepth 100000 in
theorem kl12_38 : u_lay RX12 TX12 38 ∈ lw_gd := gs_6 21 (by decide +kernel) (by decide +kernel)
set_option maxRecDepth 100000 in
theorem kl12_39 : u_lay RX12 TX12 39 ∈ lw_gd := gs_6 23 (by decide +kernel) (by decide +kernel)
set_option maxRecDepth 100000 in
theorem kl12_40 : u_lay RX12 TX12 40 ∈ lw_gd := gs_6 25 (by decide +kernel) (by decide +kernel)
set_option maxRecDepth 100000 in
theorem kl12_41 : u_lay RX12 TX12 41 ∈ lw_gd := gs_6 27 (by decide +kernel) (by decide +kernel)
set_option maxRecDepth 100000 in
theorem kl12_42 : u_lay RX12 TX12 42 ∈ lw_gd := gs_6 29 (by decide +kernel) (by decide +kernel)
set_option maxRecDepth 100000 in
theorem kl12_43 : u_lay RX12 TX12 43 ∈ lw_gd := gs_6 31 (by decide +kernel) (by decide +kernel)
set_option maxRecDepth 100000 in
theorem kl12_44 : u_lay RX12 TX12 44 ∈ lw_gd := gs_6 33 (by decide +kernel) (by decide +kernel)
set_option maxRecDepth 100000 in
theorem kl12_45 : u_lay RX12 TX12 45 ∈ lw_gd := gs_6 35 (by decide +kernel) (by decide +kernel)
set_option maxRecDepth 100000 in
theorem kl12_46 : u_lay RX12 TX12 46 ∈ lw_gd := gs_6 37 (by decide +kernel) (by decide +kernel)
set_option maxRecDepth 100000 in
theorem kl12_47 : u_lay RX12 TX12 47 ∈ lw_gd := gs_6 39 (by decide +kernel) (by decide +kernel)
set_option maxRecDepth 100000 in
theorem kl12_48 : u_lay RX12 TX12 48 ∈ lw_gd := gs_6 41 (by decide +kernel) (by decide +kernel)
set_option maxRecDepth 100000 in
theorem kl12_49 : u_lay RX12 TX12 49 ∈ lw_gd := gs_6 43 (by decide +kernel) (by decide +kernel)
set_option maxRecDepth 100000 in
theorem kl12_50 : u_lay RX12 TX12 50 ∈ lw_gd := gs_6 45 (by decide +kernel) (by decide +kernel)
set_option maxRecDepth 100000 in
theorem kl12_51 : u_lay RX12 TX12 51 ∈ lw_gd := gs_6 47 (by decide +kernel) (by decide +kernel)
set_option maxRecDepth 100000 in
theorem kl12_52 : u_lay RX12 TX12 52 ∈ lw_gd := gs_6 49 (by decide +kernel) (by decide +kernel)
set_option maxRecDepth 100000 in
theorem kl12_53 : u_lay RX12 TX12 53 ∈ lw_gd := gs_6 51 (by decide +kernel) (by decide +kernel)
set_option maxRecDepth 100000 in
theorem kl12_54 : u_lay RX12 TX12 54 ∈ lw_gd := gs_6 53 (by decide +kernel) (by decide +kernel)
set_option maxRecDepth 100000 in
theorem kl12_55 : u_lay RX12 TX12 55 ∈ lw_gd := gs_6 55 (by decide +kernel) (by decide +kernel)
set_option maxRecDepth 100000 in
theorem kl12_56 : u_lay RX12 TX12 56 ∈ lw_gd := gs_6 57 (by decide +kernel) (by decide +kernel)
set_option maxRecDepth 100000 in
theorem kl12_57 : u_lay RX12 TX12 57 ∈ lw_gd := gs_6 59 (by decide +kernel) (by decide +kernel)
set_option maxRecDepth 100000 in
theorem kl12_58 : u_lay RX12 TX12 58 ∈ lw_gd := gs_6 61 (by decide +kernel) (by decide +kernel)
set_option maxRecDepth 100000 in
theorem kl12_59 : u_lay RX12 TX12 59 ∈ lw_gd := gs_6 63 (by decide +kernel) (by decide +kernel)
set_option maxRecDepth 100000 in
theorem kl12_60 : u_lay RX12 TX12 60 ∈ lw_gd := gs_6 65 (by decide +kernel) (by decide +kernel)
set_option maxRecDepth 100000 in
theorem kl12_61 : u_lay RX12 TX12 61 ∈ lw_gd := gs_6 67 (by decide +kernel) (by decide +kernel)
set_option maxRecDepth 100000 in
theorem kl12_62 : u_lay RX12 TX12 62 ∈ lw_gd := gs_6 69 (by decide +kernel) (by decide +kernel)
set_option maxRecDepth 100000 in
theorem kl12_63 : u_lay RX12 TX12 63 ∈ lw_gd := gs_6 71 (by decide +kernel) (by decide +kernel)
set_option maxRecDepth 100000 in
theorem kl12_64 : u_lay RX12 TX12 64 ∈ lw_gd := gs_6 73 (by decide +kernel) (by decide +kernel)
set_option maxRecDepth 100000 in
theorem kl12_65 : u_lay RX12 TX12 65 ∈ lw_gd := gs_6 75 (by decide +kernel) (by decide +kernel)
theorem kl12 : ∀ w ∈ u_ws RX12 TX12 66, w ∈ lw_gd := by
  intro w h
  obtain ⟨k, hk, rfl⟩ := List.mem_map.mp h
  have hk := List.mem_range.mp hk
  match k, hk with
  | 0, _ => exact kl12_0
  | 1, _ => exact kl12_1
  | 2, _ => exact kl12_2
  | 3, _ => exact kl12_3
  | 4, _ => exact kl12_4
  | 5, _ => exact kl12_5
  | 6, _ => exact kl12_6
  | 7, _ => exact kl12_7
  | 8, _ => exact kl12_8
  | 9, _ => exact kl12_9
  | 10, _ => exact kl12_10
  | 11, _ => exact kl12_11
  | 12, _ => exact kl12_12
  | 13, _ => exact kl12_13
  | 14, _ => exact kl12_14
  | 15, _ => exact kl12_15
  | 16, _ => exact kl12_16
  | 17, _ => exact kl12_17
  | 18, _ => exact kl12_18
  | 19, _ => exact kl12_19
  | 20, _ => exact kl12_20
  | 21, _ => exact kl12_21
  | 22, _ => exact kl12_22
  | 23, _ => exact kl12_23
  | 24, _ => exact kl12_24
  | 25, _ => exact kl12_25
  | 26, _ => exact kl12_26
  | 27, _ => exact kl12_27
  | 28, _ => exact kl12_28
  | 29, _ => exact kl12_29
  | 30, _ => exact kl12_30
  | 31, _ => exact kl12_31
  | 32, _ => exact kl12_32
  | 33, _ => exact kl12_33
  | 34, _ => exact kl12_34
  | 35, _ => exact kl12_35
  | 36, _ => exact kl12_36
  | 37, _ => exact kl12_37
  | 38, _ => exact kl12_38
  | 39, _ => exact kl12_39
  | 40, _ => exact kl12_40
  | 41, _ => exact kl12_41
  | 42, _ => exact kl12_42
  | 43, _ => exact kl12_43
  | 44, _ => exact kl12_44
  | 45, _ => exact kl12_45
  | 46, _ => exact kl12_46
  | 47, _ => exact kl12_47
  | 48, _ => exact kl12_48
  | 49, _ => exact kl12_49
  | 50, _ => exact kl12_50
  | 51, _ => exact kl12_51
  | 52, _ => exact kl12_52
  | 53, _ => exact kl12_53
  | 54, _ => exact kl12_54
  | 55, _ => exact kl12_55
  | 56, _ => exact kl12_56
  | 57, _ => exact kl12_57
  | 58, _ => exact kl12_58
  | 59, _ => exact kl12_59
  | 60, _ => exact kl12_60
  | 61, _ => exact kl12_61
  | 62, _ => exact kl12_62
  | 63, _ => exact kl12_63
  | 64, _ => exact kl12_64
  | 65, _ => exact kl12_65
  | k + 66, hk => exact absurd hk (by omega)
set_option maxRecDepth 100000 in
theorem kN12 : Cond.initialized RX12 ∈ lw_gd := gs_1 13 (by decide +kernel) (by decide +kernel)
set_option maxRecDepth 100000 in
theorem km11_1 : Cond.methodLink RX11 1 ⟨"java/lang/Object", "<init>", "()V"⟩ ∈ lw_gd := gs_1 26 (by decide +kernel) (by decide +kernel)
set_option maxRecDepth 100000 in
theorem kf11_10 : Cond.fieldLink RX11 10 "SoupSand" "trial" "LSoupSand$Trial;" ∈ lw_gd := gs_2 173 (by decide +kernel) (by decide +kernel)
set_option maxRecDepth 100000 in
theorem kf11_16 : Cond.fieldLink RX11 16 "SoupSand$Trial" "ground" "LSoupSand$Ground;" ∈ lw_gd := gs_1 126 (by decide +kernel) (by decide +kernel)
set_option maxRecDepth 100000 in
theorem kf11_20 : Cond.fieldLink RX11 20 "SoupSand" "ground" "LSoupSand$Ground;" ∈ lw_gd := gs_2 174 (by decide +kernel) (by decide +kernel)
set_option maxRecDepth 100000 in
theorem kf11_21 : Cond.fieldLink RX11 21 "SoupSand$Trial" "shakes" "LSoupSand$Shakes;" ∈ lw_gd := gs_1 130 (by decide +kernel) (by decide +kernel)
set_option maxRecDepth 100000 in
theorem kf11_25 : Cond.fieldLink RX11 25 "SoupSand" "shakes" "LSoupSand$Shakes;" ∈ lw_gd := gs_2 175 (by decide +kernel) (by decide +kernel)
set_option maxRecDepth 100000 in
theorem kf11_26 : Cond.fieldLink RX11 26 "SoupSand$Trial" "rules" "LSoupSand$Rules;" ∈ lw_gd := gs_1 133 (by decide +kernel) (by decide +kernel)
set_option maxRecDepth 100000 in
theorem kf11_30 : Cond.fieldLink RX11 30 "SoupSand" "rules" "LSoupSand$Rules;" ∈ lw_gd := gs_2 176 (by decide +kernel) (by decide +kernel)
set_option maxRecDepth 100000 in
theorem kf11_34 : Cond.fieldLink RX11 34 "SoupSand" "words" "LSoupSand$Words;" ∈ lw_gd := gs_2 177 (by decide +kernel) (by decide +kernel)
set_option maxRecDepth 100000 in
theorem kf11_41 : Cond.fieldLink RX11 41 "SoupSand" "houses" "LSoupSand$Houses;" ∈ lw_gd := gs_2 178 (by decide +kernel) (by decide +kernel)
set_option maxRecDepth 100000 in
theorem kf11_48 : Cond.fieldLink RX11 48 "SoupSand" "tanks" "LSoupSand$Tanks;" ∈ lw_gd := gs_2 179 (by decide +kernel) (by decide +kernel)
set_option maxRecDepth 100000 in
theorem kf11_55 : Cond.fieldLink RX11 55 "SoupSand" "works" "LSoupSand$Works;" ∈ lw_gd := gs_2 180 (by decide +kernel) (by decide +kernel)
set_option maxRecDepth 100000 in
theorem kf11_62 : Cond.fieldLink RX11 62 "SoupSand" "survey" "LSoupSand$Survey;" ∈ lw_gd := gs_2 181 (by decide +kernel) (by decide +kernel)
set_option maxRecDepth 100000 in
theorem kf11_69 : Cond.fieldLink RX11 69 "SoupSand" "slips" "LSoupSand$Slips;" ∈ lw_gd := gs_2 182 (by decide +kernel) (by decide +kernel)
set_option maxRecDepth 100000 in
theorem kf11_76 : Cond.fieldLink RX11 76 "SoupSand" "reader" "LSoupSand$Reader;" ∈ lw_gd := gs_2 183 (by decide +kernel) (by decide +kernel)
set_option maxRecDepth 100000 in
theorem km11_80 : Cond.methodLink RX11 80 yX0_hasColumn ∈ lw_gd := gs_2 211 (by decide +kernel) (by decide +kernel)
set_option maxRecDepth 100000 in
theorem km11_86 : Cond.methodLink RX11 86 yX11_beyond ∈ lw_gd := gs_2 215 (by decide +kernel) (by decide +kernel)
set_option maxRecDepth 100000 in
theorem kf11_90 : Cond.fieldLink RX11 90 "SoupSand$Ground" "top" "[I" ∈ lw_gd := gs_1 42 (by decide +kernel) (by decide +kernel)
set_option maxRecDepth 100000 in
theorem kf11_94 : Cond.fieldLink RX11 94 "SoupSand$Ground" "water" "[I" ∈ lw_gd := gs_1 44 (by decide +kernel) (by decide +kernel)
set_option maxRecDepth 100000 in
theorem km11_97 : Cond.methodLink RX11 97 yX9_forget ∈ lw_gd := gs_2 218 (by decide +kernel) (by decide +kernel)
set_option maxRecDepth 100000 in
theorem kf11_100 : Cond.fieldLink RX11 100 "SoupSand$Ground" "layers" "[I" ∈ lw_gd := gs_1 48 (by decide +kernel) (by decide +kernel)
set_option maxRecDepth 100000 in
theorem km11_103 : Cond.methodLink RX11 103 yX0_addLayer ∈ lw_gd := gs_2 226 (by decide +kernel) (by decide +kernel)
set_option maxRecDepth 100000 in
theorem km11_107 : Cond.methodLink RX11 107 yX0_hasLayer ∈ lw_gd := gs_2 238 (by decide +kernel) (by decide +kernel)
set_option maxRecDepth 100000 in
theorem km11_111 : Cond.methodLink RX11 111 yX0_hasValue ∈ lw_gd := gs_3 3 (by decide +kernel) (by decide +kernel)
set_option maxRecDepth 100000 in
theorem kf11_114 : Cond.fieldLink RX11 114 "SoupSand$Ground" "values" "[I" ∈ lw_gd := gs_1 56 (by decide +kernel) (by decide +kernel)
set_option maxRecDepth 100000 in
theorem km11_117 : Cond.methodLink RX11 117 yX0_addValue ∈ lw_gd := gs_3 7 (by decide +kernel) (by decide +kernel)
set_option maxRecDepth 100000 in
theorem kf11_120 : Cond.fieldLink RX11 120 "SoupSand$Ground" "kind" "[I" ∈ lw_gd := gs_1 50 (by decide +kernel) (by decide +kernel)
set_option maxRecDepth 100000 in
theorem kf11_123 : Cond.fieldLink RX11 123 "SoupSand$Ground" "thick" "[I" ∈ lw_gd := gs_1 53 (by decide +kernel) (by decide +kernel)
set_option maxRecDepth 100000 in
theorem km11_126 : Cond.methodLink RX11 126 yX0_depthOf ∈ lw_gd := gs_3 12 (by decide +kernel) (by decide +kernel)
set_option maxRecDepth 100000 in
theorem km11_130 : Cond.methodLink RX11 130 yX0_isWet ∈ lw_gd := gs_3 16 (by decide +kernel) (by decide +kernel)
set_option maxRecDepth 100000 in
theorem km11_133 : Cond.methodLink RX11 133 yX0_holdOf ∈ lw_gd := gs_3 21 (by decide +kernel) (by decide +kernel)
set_option maxRecDepth 100000 in
theorem kf11_137 : Cond.fieldLink RX11 137 "SoupSand$Shakes" "count" "I" ∈ lw_gd := gs_1 94 (by decide +kernel) (by decide +kernel)
set_option maxRecDepth 100000 in
theorem km11_143 : Cond.methodLink RX11 143 yX4_addShake ∈ lw_gd := gs_3 36 (by decide +kernel) (by decide +kernel)
set_option maxRecDepth 100000 in
theorem km11_147 : Cond.methodLink RX11 147 yX4_hasShake ∈ lw_gd := gs_3 44 (by decide +kernel) (by decide +kernel)
set_option maxRecDepth 100000 in
theorem kf11_150 : Cond.fieldLink RX11 150 "SoupSand$Shakes" "beats" "[I" ∈ lw_gd := gs_1 90 (by decide +kernel) (by decide +kernel)
set_option maxRecDepth 100000 in
theorem km11_153 : Cond.methodLink RX11 153 yX4_addBeat ∈ lw_gd := gs_3 48 (by decide +kernel) (by decide +kernel)
set_option maxRecDepth 100000 in
theorem km11_156 : Cond.methodLink RX11 156 yX11_sumOf ∈ lw_gd := gs_3 56 (by decide +kernel) (by decide +kernel)
set_option maxRecDepth 100000 in
theorem kf11_160 : Cond.fieldLink RX11 160 "SoupSand$Words" "count" "I" ∈ lw_gd := gs_1 200 (by decide +kernel) (by decide +kernel)
set_option maxRecDepth 100000 in
theorem kf11_161 : Cond.fieldLink RX11 161 "SoupSand$Words" "struck" "I" ∈ lw_gd := gs_1 201 (by decide +kernel) (by decide +kernel)
set_option maxRecDepth 100000 in
theorem km11_164 : Cond.methodLink RX11 164 ⟨"java/lang/Integer", "bitCount", "(I)I"⟩ ∈ lw_gd := gs_3 59 (by decide +kernel) (by decide +kernel)
set_option maxRecDepth 100000 in
theorem kf11_169 : Cond.fieldLink RX11 169 "SoupSand$Houses" "count" "I" ∈ lw_gd := gs_2 1 (by decide +kernel) (by decide +kernel)
set_option maxRecDepth 100000 in
theorem kf11_170 : Cond.fieldLink RX11 170 "SoupSand$Tanks" "count" "I" ∈ lw_gd := gs_2 26 (by decide +kernel) (by decide +kernel)
set_option maxRecDepth 100000 in
theorem kf11_171 : Cond.fieldLink RX11 171 "SoupSand$Works" "count" "I" ∈ lw_gd := gs_2 51 (by decide +kernel) (by decide +kernel)
set_option maxRecDepth 100000 in
theorem kf11_172 : Cond.fieldLink RX11 172 "SoupSand$Reader" "length" "I" ∈ lw_gd := gs_2 150 (by decide +kernel) (by decide +kernel)
set_option maxRecDepth 100000 in
theorem km11_175 : Cond.methodLink RX11 175 yX8_runFirst ∈ lw_gd := gs_3 69 (by decide +kernel) (by decide +kernel)
set_option maxRecDepth 100000 in
theorem kf11_179 : Cond.fieldLink RX11 179 "SoupSand$Trial" "push" "[I" ∈ lw_gd := gs_1 138 (by decide +kernel) (by decide +kernel)
set_option maxRecDepth 100000 in
theorem kf11_182 : Cond.fieldLink RX11 182 "SoupSand$Trial" "gone" "[I" ∈ lw_gd := gs_1 140 (by decide +kernel) (by decide +kernel)
set_option maxRecDepth 100000 in
theorem km11_185 : Cond.methodLink RX11 185 yX0_choicesOf ∈ lw_gd := gs_3 122 (by decide +kernel) (by decide +kernel)
set_option maxRecDepth 100000 in
theorem km11_188 : Cond.methodLink RX11 188 yX9_look ∈ lw_gd := gs_3 126 (by decide +kernel) (by decide +kernel)
set_option maxRecDepth 100000 in
theorem km11_192 : Cond.methodLink RX11 192 yX9_firstKept ∈ lw_gd := gs_3 160 (by decide +kernel) (by decide +kernel)
set_option maxRecDepth 100000 in
theorem km11_195 : Cond.methodLink RX11 195 yX9_countKept ∈ lw_gd := gs_3 168 (by decide +kernel) (by decide +kernel)
set_option maxRecDepth 100000 in
theorem km11_198 : Cond.methodLink RX11 198 yX11_keptWith ∈ lw_gd := gs_3 172 (by decide +kernel) (by decide +kernel)
set_option maxRecDepth 100000 in
theorem km11_202 : Cond.methodLink RX11 202 yX8_begin ∈ lw_gd := gs_3 176 (by decide +kernel) (by decide +kernel)
set_option maxRecDepth 100000 in
theorem kf11_206 : Cond.fieldLink RX11 206 "SoupSand$Words" "choices" "[I" ∈ lw_gd := gs_1 204 (by decide +kernel) (by decide +kernel)
set_option maxRecDepth 100000 in
theorem kf11_209 : Cond.fieldLink RX11 209 "SoupSand$Trial" "chosen" "[I" ∈ lw_gd := gs_1 136 (by decide +kernel) (by decide +kernel)
set_option maxRecDepth 100000 in
theorem km11_212 : Cond.methodLink RX11 212 yX8_place ∈ lw_gd := gs_3 177 (by decide +kernel) (by decide +kernel)
set_option maxRecDepth 100000 in
theorem km11_216 : Cond.methodLink RX11 216 yX9_keep ∈ lw_gd := gs_3 178 (by decide +kernel) (by decide +kernel)
set_option maxRecDepth 100000 in
theorem km11_219 : Cond.methodLink RX11 219 yX8_advance ∈ lw_gd := gs_3 179 (by decide +kernel) (by decide +kernel)
set_option maxRecDepth 100000 in
theorem km11_226 : Cond.methodLink RX11 226 yX11_surveyLayer ∈ lw_gd := gs_3 186 (by decide +kernel) (by decide +kernel)
set_option maxRecDepth 100000 in
theorem kf11_230 : Cond.fieldLink RX11 230 "SoupSand$Survey" "kept" "I" ∈ lw_gd := gs_2 72 (by decide +kernel) (by decide +kernel)
set_option maxRecDepth 100000 in
theorem km11_235 : Cond.methodLink RX11 235 yX6_fraction ∈ lw_gd := gs_3 207 (by decide +kernel) (by decide +kernel)
set_option maxRecDepth 100000 in
theorem kf11_239 : Cond.fieldLink RX11 239 "SoupSand$Survey" "so" "I" ∈ lw_gd := gs_2 74 (by decide +kernel) (by decide +kernel)
set_option maxRecDepth 100000 in
theorem kf11_242 : Cond.fieldLink RX11 242 "SoupSand$Survey" "leastSo" "I" ∈ lw_gd := gs_2 84 (by decide +kernel) (by decide +kernel)
set_option maxRecDepth 100000 in
theorem kf11_245 : Cond.fieldLink RX11 245 "SoupSand$Survey" "greatest" "I" ∈ lw_gd := gs_2 82 (by decide +kernel) (by decide +kernel)
set_option maxRecDepth 100000 in
theorem km11_248 : Cond.methodLink RX11 248 yX6_begin ∈ lw_gd := gs_3 190 (by decide +kernel) (by decide +kernel)
set_option maxRecDepth 100000 in
theorem km11_249 : Cond.methodLink RX11 249 yX8_under ∈ lw_gd := gs_3 194 (by decide +kernel) (by decide +kernel)
set_option maxRecDepth 100000 in
theorem km11_252 : Cond.methodLink RX11 252 yX8_play ∈ lw_gd := gs_3 195 (by decide +kernel) (by decide +kernel)
set_option maxRecDepth 100000 in
theorem km11_255 : Cond.methodLink RX11 255 yX8_weightNow ∈ lw_gd := gs_3 196 (by decide +kernel) (by decide +kernel)
set_option maxRecDepth 100000 in
theorem km11_258 : Cond.methodLink RX11 258 yX6_add ∈ lw_gd := gs_3 200 (by decide +kernel) (by decide +kernel)
set_option maxRecDepth 100000 in
theorem km11_261 : Cond.methodLink RX11 261 yX9_addWord ∈ lw_gd := gs_3 222 (by decide +kernel) (by decide +kernel)
set_option maxRecDepth 100000 in
theorem km11_265 : Cond.methodLink RX11 265 yX9_hasWord ∈ lw_gd := gs_3 230 (by decide +kernel) (by decide +kernel)
set_option maxRecDepth 100000 in
theorem kf11_268 : Cond.fieldLink RX11 268 "SoupSand$Words" "column" "[I" ∈ lw_gd := gs_1 194 (by decide +kernel) (by decide +kernel)
set_option maxRecDepth 100000 in
theorem km11_271 : Cond.methodLink RX11 271 yX9_countAgainst ∈ lw_gd := gs_3 238 (by decide +kernel) (by decide +kernel)
set_option maxRecDepth 100000 in
theorem km11_274 : Cond.methodLink RX11 274 yX9_fewestAgainst ∈ lw_gd := gs_4 6 (by decide +kernel) (by decide +kernel)
set_option maxRecDepth 100000 in
theorem km11_277 : Cond.methodLink RX11 277 yX1_addHouse ∈ lw_gd := gs_4 15 (by decide +kernel) (by decide +kernel)
set_option maxRecDepth 100000 in
theorem km11_280 : Cond.methodLink RX11 280 yX1_hasHouse ∈ lw_gd := gs_4 23 (by decide +kernel) (by decide +kernel)
set_option maxRecDepth 100000 in
theorem km11_283 : Cond.methodLink RX11 283 yX11_firstSink ∈ lw_gd := gs_4 27 (by decide +kernel) (by decide +kernel)
set_option maxRecDepth 100000 in
theorem km11_286 : Cond.methodLink RX11 286 yX11_surveyHouse ∈ lw_gd := gs_4 40 (by decide +kernel) (by decide +kernel)
set_option maxRecDepth 100000 in
theorem kf11_289 : Cond.fieldLink RX11 289 "SoupSand$Survey" "least" "I" ∈ lw_gd := gs_2 80 (by decide +kernel) (by decide +kernel)
set_option maxRecDepth 100000 in
theorem km11_292 : Cond.methodLink RX11 292 yX3_mark ∈ lw_gd := gs_4 44 (by decide +kernel) (by decide +kernel)
set_option maxRecDepth 100000 in
theorem kf11_297 : Cond.fieldLink RX11 297 "SoupSand$Houses" "width" "[I" ∈ lw_gd := gs_1 237 (by decide +kernel) (by decide +kernel)
set_option maxRecDepth 100000 in
theorem km11_300 : Cond.methodLink RX11 300 yX8_greatestPart ∈ lw_gd := gs_4 56 (by decide +kernel) (by decide +kernel)
set_option maxRecDepth 100000 in
theorem km11_303 : Cond.methodLink RX11 303 ⟨"java/lang/Math", "abs", "(I)I"⟩ ∈ lw_gd := gs_4 64 (by decide +kernel) (by decide +kernel)
set_option maxRecDepth 100000 in
theorem kf11_308 : Cond.fieldLink RX11 308 "SoupSand$Houses" "column" "[I" ∈ lw_gd := gs_1 235 (by decide +kernel) (by decide +kernel)
set_option maxRecDepth 100000 in
theorem km11_309 : Cond.methodLink RX11 309 yX8_sinkOf ∈ lw_gd := gs_4 31 (by decide +kernel) (by decide +kernel)
set_option maxRecDepth 100000 in
theorem km11_312 : Cond.methodLink RX11 312 yX7_addTank ∈ lw_gd := gs_4 71 (by decide +kernel) (by decide +kernel)
set_option maxRecDepth 100000 in
theorem km11_315 : Cond.methodLink RX11 315 yX7_hasTank ∈ lw_gd := gs_4 79 (by decide +kernel) (by decide +kernel)
set_option maxRecDepth 100000 in
theorem kf11_318 : Cond.fieldLink RX11 318 "SoupSand$Tanks" "column" "[I" ∈ lw_gd := gs_2 18 (by decide +kernel) (by decide +kernel)
set_option maxRecDepth 100000 in
theorem kf11_319 : Cond.fieldLink RX11 319 "SoupSand$Tanks" "layer" "[I" ∈ lw_gd := gs_2 20 (by decide +kernel) (by decide +kernel)
set_option maxRecDepth 100000 in
theorem kf11_322 : Cond.fieldLink RX11 322 "SoupSand$Tanks" "weight" "[I" ∈ lw_gd := gs_2 22 (by decide +kernel) (by decide +kernel)
set_option maxRecDepth 100000 in
theorem kf11_325 : Cond.fieldLink RX11 325 "SoupSand$Tanks" "size" "[I" ∈ lw_gd := gs_2 24 (by decide +kernel) (by decide +kernel)
set_option maxRecDepth 100000 in
theorem km11_328 : Cond.methodLink RX11 328 yX3_dry ∈ lw_gd := gs_4 83 (by decide +kernel) (by decide +kernel)
set_option maxRecDepth 100000 in
theorem km11_331 : Cond.methodLink RX11 331 yX0_middleOf ∈ lw_gd := gs_4 91 (by decide +kernel) (by decide +kernel)
set_option maxRecDepth 100000 in
theorem km11_334 : Cond.methodLink RX11 334 ⟨"java/lang/Math", "min", "(II)I"⟩ ∈ lw_gd := gs_4 95 (by decide +kernel) (by decide +kernel)
set_option maxRecDepth 100000 in
theorem km11_337 : Cond.methodLink RX11 337 ⟨"java/lang/Math", "max", "(II)I"⟩ ∈ lw_gd := gs_4 96 (by decide +kernel) (by decide +kernel)
set_option maxRecDepth 100000 in
theorem km11_340 : Cond.methodLink RX11 340 yX5_begin ∈ lw_gd := gs_4 97 (by decide +kernel) (by decide +kernel)
set_option maxRecDepth 100000 in
theorem km11_343 : Cond.methodLink RX11 343 yX5_weigh ∈ lw_gd := gs_4 106 (by decide +kernel) (by decide +kernel)
set_option maxRecDepth 100000 in
theorem kf11_349 : Cond.fieldLink RX11 349 "SoupSand$Slips" "holds" "J" ∈ lw_gd := gs_2 111 (by decide +kernel) (by decide +kernel)
set_option maxRecDepth 100000 in
theorem kf11_353 : Cond.fieldLink RX11 353 "SoupSand$Slips" "driven" "J" ∈ lw_gd := gs_2 113 (by decide +kernel) (by decide +kernel)
set_option maxRecDepth 100000 in
theorem km11_356 : Cond.methodLink RX11 356 yX11_leastTerms ∈ lw_gd := gs_4 122 (by decide +kernel) (by decide +kernel)
set_option maxRecDepth 100000 in
theorem km11_360 : Cond.methodLink RX11 360 yX5_findLeast ∈ lw_gd := gs_4 127 (by decide +kernel) (by decide +kernel)
set_option maxRecDepth 100000 in
theorem kf11_364 : Cond.fieldLink RX11 364 "SoupSand$Slips" "from" "I" ∈ lw_gd := gs_2 115 (by decide +kernel) (by decide +kernel)
set_option maxRecDepth 100000 in
theorem kf11_369 : Cond.fieldLink RX11 369 "SoupSand$Slips" "to" "I" ∈ lw_gd := gs_2 117 (by decide +kernel) (by decide +kernel)
set_option maxRecDepth 100000 in
theorem kf11_372 : Cond.fieldLink RX11 372 "SoupSand$Slips" "layer" "I" ∈ lw_gd := gs_2 119 (by decide +kernel) (by decide +kernel)
set_option maxRecDepth 100000 in
theorem kf11_374 : Cond.fieldLink RX11 374 "SoupSand$Slips" "leastHolds" "J" ∈ lw_gd := gs_2 121 (by decide +kernel) (by decide +kernel)
set_option maxRecDepth 100000 in
theorem kf11_377 : Cond.fieldLink RX11 377 "SoupSand$Slips" "leastDriven" "J" ∈ lw_gd := gs_2 123 (by decide +kernel) (by decide +kernel)
set_option maxRecDepth 100000 in
theorem km11_380 : Cond.methodLink RX11 380 yX10_addWork ∈ lw_gd := gs_4 142 (by decide +kernel) (by decide +kernel)
set_option maxRecDepth 100000 in
theorem km11_383 : Cond.methodLink RX11 383 yX11_housesQuarrel ∈ lw_gd := gs_4 150 (by decide +kernel) (by decide +kernel)
set_option maxRecDepth 100000 in
theorem km11_387 : Cond.methodLink RX11 387 yX10_forgetVerdicts ∈ lw_gd := gs_4 159 (by decide +kernel) (by decide +kernel)
set_option maxRecDepth 100000 in
theorem km11_390 : Cond.methodLink RX11 390 yX11_allStand ∈ lw_gd := gs_4 163 (by decide +kernel) (by decide +kernel)
set_option maxRecDepth 100000 in
theorem km11_393 : Cond.methodLink RX11 393 yX10_priceOf ∈ lw_gd := gs_4 190 (by decide +kernel) (by decide +kernel)
set_option maxRecDepth 100000 in
theorem kf11_396 : Cond.fieldLink RX11 396 "SoupSand$Shakes" "share" "[I" ∈ lw_gd := gs_1 87 (by decide +kernel) (by decide +kernel)
set_option maxRecDepth 100000 in
theorem kf11_399 : Cond.fieldLink RX11 399 "SoupSand$Houses" "worth" "[I" ∈ lw_gd := gs_1 239 (by decide +kernel) (by decide +kernel)
set_option maxRecDepth 100000 in
theorem kf11_402 : Cond.fieldLink RX11 402 "SoupSand$Survey" "weight" "J" ∈ lw_gd := gs_2 76 (by decide +kernel) (by decide +kernel)
set_option maxRecDepth 100000 in
theorem kf11_404 : Cond.fieldLink RX11 404 "SoupSand$Survey" "weightSo" "J" ∈ lw_gd := gs_2 78 (by decide +kernel) (by decide +kernel)
set_option maxRecDepth 100000 in
theorem km11_407 : Cond.methodLink RX11 407 yX1_widestOn ∈ lw_gd := gs_4 154 (by decide +kernel) (by decide +kernel)
set_option maxRecDepth 100000 in
theorem km11_410 : Cond.methodLink RX11 410 yX10_setOn ∈ lw_gd := gs_4 167 (by decide +kernel) (by decide +kernel)
set_option maxRecDepth 100000 in
theorem km11_413 : Cond.methodLink RX11 413 yX11_columnStands ∈ lw_gd := gs_4 171 (by decide +kernel) (by decide +kernel)
set_option maxRecDepth 100000 in
theorem kf11_416 : Cond.fieldLink RX11 416 "SoupSand$Works" "verdict" "[I" ∈ lw_gd := gs_2 49 (by decide +kernel) (by decide +kernel)
set_option maxRecDepth 100000 in
theorem km11_419 : Cond.methodLink RX11 419 yX11_columnHolds ∈ lw_gd := gs_4 175 (by decide +kernel) (by decide +kernel)
set_option maxRecDepth 100000 in
theorem km11_422 : Cond.methodLink RX11 422 yX10_sumOn ∈ lw_gd := gs_4 179 (by decide +kernel) (by decide +kernel)
set_option maxRecDepth 100000 in
theorem km11_425 : Cond.methodLink RX11 425 yX2_append ∈ lw_gd := gs_4 202 (by decide +kernel) (by decide +kernel)
set_option maxRecDepth 100000 in
theorem km11_429 : Cond.methodLink RX11 429 yX2_parse ∈ lw_gd := gs_4 211 (by decide +kernel) (by decide +kernel)
set_option maxRecDepth 100000 in
theorem kf11_432 : Cond.fieldLink RX11 432 "SoupSand$Reader" "flaw" "I" ∈ lw_gd := gs_2 152 (by decide +kernel) (by decide +kernel)
set_option maxRecDepth 100000 in
theorem kf11_435 : Cond.fieldLink RX11 435 "SoupSand$Reader" "draft" "[I" ∈ lw_gd := gs_2 148 (by decide +kernel) (by decide +kernel)
set_option maxRecDepth 100000 in
theorem km11_438 : Cond.methodLink RX11 438 yX3_become ∈ lw_gd := gs_5 87 (by decide +kernel) (by decide +kernel)
set_option maxRecDepth 100000 in
theorem kf11_442 : Cond.fieldLink RX11 442 "SoupSand$Reader" "flawAt" "I" ∈ lw_gd := gs_2 154 (by decide +kernel) (by decide +kernel)
set_option maxRecDepth 100000 in
theorem kf11_445 : Cond.fieldLink RX11 445 "SoupSand$Rules" "slot" "[I" ∈ lw_gd := gs_1 121 (by decide +kernel) (by decide +kernel)
set_option maxRecDepth 100000 in
theorem km12_1 : Cond.methodLink RX12 1 ⟨"java/lang/Object", "<init>", "()V"⟩ ∈ lw_gd := gs_5 106 (by decide +kernel) (by decide +kernel)
set_option maxRecDepth 100000 in
theorem kf12_7 : Cond.fieldLink RX12 7 "SoupSandModel" "tops" "[I" ∈ lw_gd := gs_5 119 (by decide +kernel) (by decide +kernel)
set_option maxRecDepth 100000 in
theorem kf12_13 : Cond.fieldLink RX12 13 "SoupSandModel" "waters" "[I" ∈ lw_gd := gs_5 120 (by decide +kernel) (by decide +kernel)
set_option maxRecDepth 100000 in
theorem kf12_16 : Cond.fieldLink RX12 16 "SoupSandModel" "layers" "[I" ∈ lw_gd := gs_5 121 (by decide +kernel) (by decide +kernel)
set_option maxRecDepth 100000 in
theorem kf12_19 : Cond.fieldLink RX12 19 "SoupSandModel" "kinds" "[I" ∈ lw_gd := gs_5 122 (by decide +kernel) (by decide +kernel)
set_option maxRecDepth 100000 in
theorem kf12_22 : Cond.fieldLink RX12 22 "SoupSandModel" "thicks" "[I" ∈ lw_gd := gs_5 123 (by decide +kernel) (by decide +kernel)
set_option maxRecDepth 100000 in
theorem kf12_25 : Cond.fieldLink RX12 25 "SoupSandModel" "valueMany" "[I" ∈ lw_gd := gs_5 124 (by decide +kernel) (by decide +kernel)
set_option maxRecDepth 100000 in
theorem kf12_28 : Cond.fieldLink RX12 28 "SoupSandModel" "values" "[I" ∈ lw_gd := gs_5 125 (by decide +kernel) (by decide +kernel)
set_option maxRecDepth 100000 in
theorem kf12_31 : Cond.fieldLink RX12 31 "SoupSandModel" "weights" "[I" ∈ lw_gd := gs_5 126 (by decide +kernel) (by decide +kernel)
set_option maxRecDepth 100000 in
theorem kf12_34 : Cond.fieldLink RX12 34 "SoupSandModel" "shares" "[I" ∈ lw_gd := gs_5 128 (by decide +kernel) (by decide +kernel)
set_option maxRecDepth 100000 in
theorem kf12_37 : Cond.fieldLink RX12 37 "SoupSandModel" "beatMany" "[I" ∈ lw_gd := gs_5 129 (by decide +kernel) (by decide +kernel)
set_option maxRecDepth 100000 in
theorem kf12_40 : Cond.fieldLink RX12 40 "SoupSandModel" "beats" "[I" ∈ lw_gd := gs_5 130 (by decide +kernel) (by decide +kernel)
set_option maxRecDepth 100000 in
theorem kf12_43 : Cond.fieldLink RX12 43 "SoupSandModel" "rules" "[I" ∈ lw_gd := gs_5 131 (by decide +kernel) (by decide +kernel)
set_option maxRecDepth 100000 in
theorem kf12_46 : Cond.fieldLink RX12 46 "SoupSandModel" "fresh" "[I" ∈ lw_gd := gs_5 132 (by decide +kernel) (by decide +kernel)
set_option maxRecDepth 100000 in
theorem kf12_49 : Cond.fieldLink RX12 49 "SoupSandModel" "isFound" "[Z" ∈ lw_gd := gs_5 133 (by decide +kernel) (by decide +kernel)
set_option maxRecDepth 100000 in
theorem kf12_53 : Cond.fieldLink RX12 53 "SoupSandModel" "keptMany" "[I" ∈ lw_gd := gs_5 134 (by decide +kernel) (by decide +kernel)
set_option maxRecDepth 100000 in
theorem kf12_56 : Cond.fieldLink RX12 56 "SoupSandModel" "chosen" "[I" ∈ lw_gd := gs_5 135 (by decide +kernel) (by decide +kernel)
set_option maxRecDepth 100000 in
theorem kf12_59 : Cond.fieldLink RX12 59 "SoupSandModel" "push" "[I" ∈ lw_gd := gs_5 137 (by decide +kernel) (by decide +kernel)
set_option maxRecDepth 100000 in
theorem kf12_62 : Cond.fieldLink RX12 62 "SoupSandModel" "went" "[I" ∈ lw_gd := gs_5 138 (by decide +kernel) (by decide +kernel)
set_option maxRecDepth 100000 in
theorem kf12_65 : Cond.fieldLink RX12 65 "SoupSandModel" "strong" "[I" ∈ lw_gd := gs_5 139 (by decide +kernel) (by decide +kernel)
set_option maxRecDepth 100000 in
theorem kf12_68 : Cond.fieldLink RX12 68 "SoupSandModel" "loss" "[I" ∈ lw_gd := gs_5 140 (by decide +kernel) (by decide +kernel)
set_option maxRecDepth 100000 in
theorem kf12_71 : Cond.fieldLink RX12 71 "SoupSandModel" "wets" "[Z" ∈ lw_gd := gs_5 143 (by decide +kernel) (by decide +kernel)
set_option maxRecDepth 100000 in
theorem kf12_74 : Cond.fieldLink RX12 74 "SoupSandModel" "held" "[I" ∈ lw_gd := gs_5 144 (by decide +kernel) (by decide +kernel)
set_option maxRecDepth 100000 in
theorem kf12_77 : Cond.fieldLink RX12 77 "SoupSandModel" "wordColumn" "[I" ∈ lw_gd := gs_5 146 (by decide +kernel) (by decide +kernel)
set_option maxRecDepth 100000 in
theorem kf12_80 : Cond.fieldLink RX12 80 "SoupSandModel" "wordKind" "[I" ∈ lw_gd := gs_5 147 (by decide +kernel) (by decide +kernel)
set_option maxRecDepth 100000 in
theorem kf12_83 : Cond.fieldLink RX12 83 "SoupSandModel" "wordOf" "[I" ∈ lw_gd := gs_5 148 (by decide +kernel) (by decide +kernel)
set_option maxRecDepth 100000 in
theorem kf12_86 : Cond.fieldLink RX12 86 "SoupSandModel" "wordLow" "[I" ∈ lw_gd := gs_5 149 (by decide +kernel) (by decide +kernel)
set_option maxRecDepth 100000 in
theorem kf12_89 : Cond.fieldLink RX12 89 "SoupSandModel" "wordHigh" "[I" ∈ lw_gd := gs_5 150 (by decide +kernel) (by decide +kernel)
set_option maxRecDepth 100000 in
theorem kf12_92 : Cond.fieldLink RX12 92 "SoupSandModel" "isStruck" "[Z" ∈ lw_gd := gs_5 151 (by decide +kernel) (by decide +kernel)
set_option maxRecDepth 100000 in
theorem kf12_95 : Cond.fieldLink RX12 95 "SoupSandModel" "goes" "[I" ∈ lw_gd := gs_5 152 (by decide +kernel) (by decide +kernel)
set_option maxRecDepth 100000 in
theorem kf12_98 : Cond.fieldLink RX12 98 "SoupSandModel" "kept" "[Z" ∈ lw_gd := gs_5 153 (by decide +kernel) (by decide +kernel)
set_option maxRecDepth 100000 in
theorem kf12_101 : Cond.fieldLink RX12 101 "SoupSandModel" "houseColumn" "[I" ∈ lw_gd := gs_5 159 (by decide +kernel) (by decide +kernel)
set_option maxRecDepth 100000 in
theorem kf12_104 : Cond.fieldLink RX12 104 "SoupSandModel" "widths" "[I" ∈ lw_gd := gs_5 160 (by decide +kernel) (by decide +kernel)
set_option maxRecDepth 100000 in
theorem kf12_107 : Cond.fieldLink RX12 107 "SoupSandModel" "worths" "[I" ∈ lw_gd := gs_5 161 (by decide +kernel) (by decide +kernel)
set_option maxRecDepth 100000 in
theorem kf12_110 : Cond.fieldLink RX12 110 "SoupSandModel" "tankColumn" "[I" ∈ lw_gd := gs_5 163 (by decide +kernel) (by decide +kernel)
set_option maxRecDepth 100000 in
theorem kf12_113 : Cond.fieldLink RX12 113 "SoupSandModel" "tankLayer" "[I" ∈ lw_gd := gs_5 164 (by decide +kernel) (by decide +kernel)
set_option maxRecDepth 100000 in
theorem kf12_116 : Cond.fieldLink RX12 116 "SoupSandModel" "tankWeight" "[I" ∈ lw_gd := gs_5 165 (by decide +kernel) (by decide +kernel)
set_option maxRecDepth 100000 in
theorem kf12_119 : Cond.fieldLink RX12 119 "SoupSandModel" "tankSize" "[I" ∈ lw_gd := gs_5 166 (by decide +kernel) (by decide +kernel)
set_option maxRecDepth 100000 in
theorem kf12_122 : Cond.fieldLink RX12 122 "SoupSandModel" "workColumn" "[I" ∈ lw_gd := gs_5 170 (by decide +kernel) (by decide +kernel)
set_option maxRecDepth 100000 in
theorem kf12_125 : Cond.fieldLink RX12 125 "SoupSandModel" "workKind" "[I" ∈ lw_gd := gs_5 171 (by decide +kernel) (by decide +kernel)
set_option maxRecDepth 100000 in
theorem kf12_128 : Cond.fieldLink RX12 128 "SoupSandModel" "workBy" "[I" ∈ lw_gd := gs_5 172 (by decide +kernel) (by decide +kernel)
set_option maxRecDepth 100000 in
theorem kf12_131 : Cond.fieldLink RX12 131 "SoupSandModel" "prices" "[I" ∈ lw_gd := gs_5 173 (by decide +kernel) (by decide +kernel)
set_option maxRecDepth 100000 in
theorem kf12_134 : Cond.fieldLink RX12 134 "SoupSandModel" "fellBy" "[I" ∈ lw_gd := gs_5 174 (by decide +kernel) (by decide +kernel)
set_option maxRecDepth 100000 in
theorem kf12_137 : Cond.fieldLink RX12 137 "SoupSandModel" "fellIn" "[I" ∈ lw_gd := gs_5 175 (by decide +kernel) (by decide +kernel)
set_option maxRecDepth 100000 in
theorem kf12_140 : Cond.fieldLink RX12 140 "SoupSandModel" "looked" "[I" ∈ lw_gd := gs_5 176 (by decide +kernel) (by decide +kernel)
set_option maxRecDepth 100000 in
theorem kf12_143 : Cond.fieldLink RX12 143 "SoupSandModel" "sunkBy" "[J" ∈ lw_gd := gs_5 177 (by decide +kernel) (by decide +kernel)
set_option maxRecDepth 100000 in
theorem kf12_147 : Cond.fieldLink RX12 147 "SoupSandModel" "text" "[I" ∈ lw_gd := gs_5 178 (by decide +kernel) (by decide +kernel)
set_option maxRecDepth 100000 in
theorem kf12_150 : Cond.fieldLink RX12 150 "SoupSandModel" "faultPlace" "I" ∈ lw_gd := gs_5 180 (by decide +kernel) (by decide +kernel)
set_option maxRecDepth 100000 in
theorem km12_154 : Cond.methodLink RX12 154 yX12_first ∈ lw_gd := gs_5 107 (by decide +kernel) (by decide +kernel)
set_option maxRecDepth 100000 in
theorem km12_157 : Cond.methodLink RX12 157 yX12_keep ∈ lw_gd := gs_5 111 (by decide +kernel) (by decide +kernel)
set_option maxRecDepth 100000 in
theorem km12_160 : Cond.methodLink RX12 160 yX12_change ∈ lw_gd := gs_5 115 (by decide +kernel) (by decide +kernel)
set_option maxRecDepth 100000 in
theorem km12_165 : Cond.methodLink RX12 165 yX12_in ∈ lw_gd := gs_6 88 (by decide +kernel) (by decide +kernel)
set_option maxRecDepth 100000 in
theorem km12_169 : Cond.methodLink RX12 169 yX12_isColumn ∈ lw_gd := gs_6 84 (by decide +kernel) (by decide +kernel)
set_option maxRecDepth 100000 in
theorem kf12_173 : Cond.fieldLink RX12 173 "SoupSandModel" "shakes" "I" ∈ lw_gd := gs_5 127 (by decide +kernel) (by decide +kernel)
set_option maxRecDepth 100000 in
theorem km12_186 : Cond.methodLink RX12 186 yX12_isLayer ∈ lw_gd := gs_6 104 (by decide +kernel) (by decide +kernel)
set_option maxRecDepth 100000 in
theorem km12_192 : Cond.methodLink RX12 192 yX12_depth ∈ lw_gd := gs_6 113 (by decide +kernel) (by decide +kernel)
set_option maxRecDepth 100000 in
theorem km12_196 : Cond.methodLink RX12 196 yX12_isWet ∈ lw_gd := gs_6 117 (by decide +kernel) (by decide +kernel)
set_option maxRecDepth 100000 in
theorem km12_199 : Cond.methodLink RX12 199 yX12_heavy ∈ lw_gd := gs_6 125 (by decide +kernel) (by decide +kernel)
set_option maxRecDepth 100000 in
theorem km12_202 : Cond.methodLink RX12 202 yX12_hold ∈ lw_gd := gs_6 121 (by decide +kernel) (by decide +kernel)
set_option maxRecDepth 100000 in
theorem km12_207 : Cond.methodLink RX12 207 yX12_isShake ∈ lw_gd := gs_6 138 (by decide +kernel) (by decide +kernel)
set_option maxRecDepth 100000 in
theorem kf12_210 : Cond.fieldLink RX12 210 "SoupSandModel" "words" "I" ∈ lw_gd := gs_5 145 (by decide +kernel) (by decide +kernel)
set_option maxRecDepth 100000 in
theorem kf12_213 : Cond.fieldLink RX12 213 "SoupSandModel" "houses" "I" ∈ lw_gd := gs_5 158 (by decide +kernel) (by decide +kernel)
set_option maxRecDepth 100000 in
theorem kf12_216 : Cond.fieldLink RX12 216 "SoupSandModel" "tanks" "I" ∈ lw_gd := gs_5 162 (by decide +kernel) (by decide +kernel)
set_option maxRecDepth 100000 in
theorem kf12_219 : Cond.fieldLink RX12 219 "SoupSandModel" "works" "I" ∈ lw_gd := gs_5 169 (by decide +kernel) (by decide +kernel)
set_option maxRecDepth 100000 in
theorem kf12_222 : Cond.fieldLink RX12 222 "SoupSandModel" "texted" "I" ∈ lw_gd := gs_5 179 (by decide +kernel) (by decide +kernel)
set_option maxRecDepth 100000 in
theorem kf12_225 : Cond.fieldLink RX12 225 "SoupSandModel" "weight" "J" ∈ lw_gd := gs_5 136 (by decide +kernel) (by decide +kernel)
set_option maxRecDepth 100000 in
theorem kf12_229 : Cond.fieldLink RX12 229 "SoupSandModel" "more" "I" ∈ lw_gd := gs_5 141 (by decide +kernel) (by decide +kernel)
set_option maxRecDepth 100000 in
theorem km12_232 : Cond.methodLink RX12 232 yX12_grow ∈ lw_gd := gs_6 162 (by decide +kernel) (by decide +kernel)
set_option maxRecDepth 100000 in
theorem kf12_236 : Cond.fieldLink RX12 236 "SoupSandModel" "less" "I" ∈ lw_gd := gs_5 142 (by decide +kernel) (by decide +kernel)
set_option maxRecDepth 100000 in
theorem km12_239 : Cond.methodLink RX12 239 yX12_drain ∈ lw_gd := gs_6 166 (by decide +kernel) (by decide +kernel)
set_option maxRecDepth 100000 in
theorem km12_243 : Cond.methodLink RX12 243 yX12_plain ∈ lw_gd := gs_6 150 (by decide +kernel) (by decide +kernel)
set_option maxRecDepth 100000 in
theorem km12_246 : Cond.methodLink RX12 246 yX12_choose ∈ lw_gd := gs_6 154 (by decide +kernel) (by decide +kernel)
set_option maxRecDepth 100000 in
theorem km12_249 : Cond.methodLink RX12 249 yX12_runOf ∈ lw_gd := gs_6 158 (by decide +kernel) (by decide +kernel)
set_option maxRecDepth 100000 in
theorem km12_254 : Cond.methodLink RX12 254 yX12_isWord ∈ lw_gd := gs_6 179 (by decide +kernel) (by decide +kernel)
set_option maxRecDepth 100000 in
theorem km12_257 : Cond.methodLink RX12 257 yX12_letsGo ∈ lw_gd := gs_6 199 (by decide +kernel) (by decide +kernel)
set_option maxRecDepth 100000 in
theorem km12_260 : Cond.methodLink RX12 260 yX12_forget ∈ lw_gd := gs_6 191 (by decide +kernel) (by decide +kernel)
set_option maxRecDepth 100000 in
theorem km12_263 : Cond.methodLink RX12 263 yX12_barsChoice ∈ lw_gd := gs_6 195 (by decide +kernel) (by decide +kernel)
set_option maxRecDepth 100000 in
theorem km12_266 : Cond.methodLink RX12 266 yX12_manyChoices ∈ lw_gd := gs_6 187 (by decide +kernel) (by decide +kernel)
set_option maxRecDepth 100000 in
theorem km12_270 : Cond.methodLink RX12 270 yX12_barring ∈ lw_gd := gs_6 207 (by decide +kernel) (by decide +kernel)
set_option maxRecDepth 100000 in
theorem km12_273 : Cond.methodLink RX12 273 yX12_bits ∈ lw_gd := gs_6 211 (by decide +kernel) (by decide +kernel)
set_option maxRecDepth 100000 in
theorem km12_276 : Cond.methodLink RX12 276 yX12_findKept ∈ lw_gd := gs_6 218 (by decide +kernel) (by decide +kernel)
set_option maxRecDepth 100000 in
theorem kf12_279 : Cond.fieldLink RX12 279 "SoupSandModel" "some" "J" ∈ lw_gd := gs_5 154 (by decide +kernel) (by decide +kernel)
set_option maxRecDepth 100000 in
theorem kf12_282 : Cond.fieldLink RX12 282 "SoupSandModel" "all" "J" ∈ lw_gd := gs_5 155 (by decide +kernel) (by decide +kernel)
set_option maxRecDepth 100000 in
theorem kf12_285 : Cond.fieldLink RX12 285 "SoupSandModel" "least" "I" ∈ lw_gd := gs_5 156 (by decide +kernel) (by decide +kernel)
set_option maxRecDepth 100000 in
theorem kf12_288 : Cond.fieldLink RX12 288 "SoupSandModel" "greatest" "I" ∈ lw_gd := gs_5 157 (by decide +kernel) (by decide +kernel)
set_option maxRecDepth 100000 in
theorem km12_291 : Cond.methodLink RX12 291 yX12_gcd ∈ lw_gd := gs_7 8 (by decide +kernel) (by decide +kernel)
set_option maxRecDepth 100000 in
theorem km12_295 : Cond.methodLink RX12 295 yX12_begin ∈ lw_gd := gs_6 232 (by decide +kernel) (by decide +kernel)
set_option maxRecDepth 100000 in
theorem km12_298 : Cond.methodLink RX12 298 yX12_tell ∈ lw_gd := gs_6 236 (by decide +kernel) (by decide +kernel)
set_option maxRecDepth 100000 in
theorem km12_302 : Cond.methodLink RX12 302 yX12_note ∈ lw_gd := gs_7 0 (by decide +kernel) (by decide +kernel)
set_option maxRecDepth 100000 in
theorem km12_310 : Cond.methodLink RX12 310 yX12_goThrough ∈ lw_gd := gs_6 228 (by decide +kernel) (by decide +kernel)
set_option maxRecDepth 100000 in
theorem km12_314 : Cond.methodLink RX12 314 yX12_share ∈ lw_gd := gs_7 4 (by decide +kernel) (by decide +kernel)
set_option maxRecDepth 100000 in
theorem km12_322 : Cond.methodLink RX12 322 yX12_part ∈ lw_gd := gs_7 37 (by decide +kernel) (by decide +kernel)
set_option maxRecDepth 100000 in
theorem km12_325 : Cond.methodLink RX12 325 yX12_sinkOf ∈ lw_gd := gs_7 33 (by decide +kernel) (by decide +kernel)
set_option maxRecDepth 100000 in
theorem km12_328 : Cond.methodLink RX12 328 yX12_isHouse ∈ lw_gd := gs_7 25 (by decide +kernel) (by decide +kernel)
set_option maxRecDepth 100000 in
theorem km12_331 : Cond.methodLink RX12 331 yX12_firstSink ∈ lw_gd := gs_7 29 (by decide +kernel) (by decide +kernel)
set_option maxRecDepth 100000 in
theorem km12_334 : Cond.methodLink RX12 334 yX12_goHouse ∈ lw_gd := gs_7 41 (by decide +kernel) (by decide +kernel)
set_option maxRecDepth 100000 in
theorem kf12_339 : Cond.fieldLink RX12 339 "SoupSandModel" "holds" "J" ∈ lw_gd := gs_5 167 (by decide +kernel) (by decide +kernel)
set_option maxRecDepth 100000 in
theorem km12_342 : Cond.methodLink RX12 342 yX12_layerAt ∈ lw_gd := gs_7 78 (by decide +kernel) (by decide +kernel)
set_option maxRecDepth 100000 in
theorem km12_345 : Cond.methodLink RX12 345 yX12_above ∈ lw_gd := gs_7 82 (by decide +kernel) (by decide +kernel)
set_option maxRecDepth 100000 in
theorem kf12_348 : Cond.fieldLink RX12 348 "SoupSandModel" "driven" "J" ∈ lw_gd := gs_5 168 (by decide +kernel) (by decide +kernel)
set_option maxRecDepth 100000 in
theorem km12_351 : Cond.methodLink RX12 351 yX12_middle ∈ lw_gd := gs_7 70 (by decide +kernel) (by decide +kernel)
set_option maxRecDepth 100000 in
theorem km12_354 : Cond.methodLink RX12 354 yX12_findSlip ∈ lw_gd := gs_7 74 (by decide +kernel) (by decide +kernel)
set_option maxRecDepth 100000 in
theorem km12_366 : Cond.methodLink RX12 366 yX12_hasHouse ∈ lw_gd := gs_7 106 (by decide +kernel) (by decide +kernel)
set_option maxRecDepth 100000 in
theorem km12_369 : Cond.methodLink RX12 369 yX12_isSafe ∈ lw_gd := gs_7 122 (by decide +kernel) (by decide +kernel)
set_option maxRecDepth 100000 in
theorem km12_372 : Cond.methodLink RX12 372 yX12_columnStands ∈ lw_gd := gs_7 118 (by decide +kernel) (by decide +kernel)
set_option maxRecDepth 100000 in
theorem km12_375 : Cond.methodLink RX12 375 yX12_findAllKept ∈ lw_gd := gs_7 102 (by decide +kernel) (by decide +kernel)
set_option maxRecDepth 100000 in
theorem km12_379 : Cond.methodLink RX12 379 yX12_lookAnew ∈ lw_gd := gs_7 110 (by decide +kernel) (by decide +kernel)
set_option maxRecDepth 100000 in
theorem km12_382 : Cond.methodLink RX12 382 yX12_allStand ∈ lw_gd := gs_7 114 (by decide +kernel) (by decide +kernel)
set_option maxRecDepth 100000 in
theorem km12_385 : Cond.methodLink RX12 385 yX12_priceOf ∈ lw_gd := gs_7 130 (by decide +kernel) (by decide +kernel)
set_option maxRecDepth 100000 in
theorem km12_388 : Cond.methodLink RX12 388 yX12_goColumn ∈ lw_gd := gs_7 138 (by decide +kernel) (by decide +kernel)
set_option maxRecDepth 100000 in
theorem kf12_395 : Cond.fieldLink RX12 395 "SoupSandModel" "at0" "I" ∈ lw_gd := gs_5 181 (by decide +kernel) (by decide +kernel)
set_option maxRecDepth 100000 in
theorem km12_398 : Cond.methodLink RX12 398 yX12_here ∈ lw_gd := gs_7 152 (by decide +kernel) (by decide +kernel)
set_option maxRecDepth 100000 in
theorem kf12_402 : Cond.fieldLink RX12 402 "SoupSandModel" "word" "J" ∈ lw_gd := gs_5 182 (by decide +kernel) (by decide +kernel)
set_option maxRecDepth 100000 in
theorem kf12_405 : Cond.fieldLink RX12 405 "SoupSandModel" "wordEnd" "I" ∈ lw_gd := gs_5 183 (by decide +kernel) (by decide +kernel)
set_option maxRecDepth 100000 in
theorem km12_420 : Cond.methodLink RX12 420 yX12_code ∈ lw_gd := gs_7 174 (by decide +kernel) (by decide +kernel)
set_option maxRecDepth 100000 in
theorem km12_428 : Cond.methodLink RX12 428 yX12_fails ∈ lw_gd := gs_7 177 (by decide +kernel) (by decide +kernel)
set_option maxRecDepth 100000 in
theorem kf12_431 : Cond.fieldLink RX12 431 "SoupSandModel" "number" "I" ∈ lw_gd := gs_5 184 (by decide +kernel) (by decide +kernel)
set_option maxRecDepth 100000 in
theorem km12_434 : Cond.methodLink RX12 434 yX12_leastOf ∈ lw_gd := gs_7 199 (by decide +kernel) (by decide +kernel)
set_option maxRecDepth 100000 in
theorem km12_437 : Cond.methodLink RX12 437 yX12_mostOf ∈ lw_gd := gs_7 202 (by decide +kernel) (by decide +kernel)
set_option maxRecDepth 100000 in
theorem km12_440 : Cond.methodLink RX12 440 yX12_readNumber ∈ lw_gd := gs_7 185 (by decide +kernel) (by decide +kernel)
set_option maxRecDepth 100000 in
theorem km12_443 : Cond.methodLink RX12 443 yX12_readWord ∈ lw_gd := gs_7 160 (by decide +kernel) (by decide +kernel)
set_option maxRecDepth 100000 in
theorem km12_446 : Cond.methodLink RX12 446 yX12_nameOf ∈ lw_gd := gs_7 191 (by decide +kernel) (by decide +kernel)
set_option maxRecDepth 100000 in
theorem km12_449 : Cond.methodLink RX12 449 yX12_readRule ∈ lw_gd := gs_7 195 (by decide +kernel) (by decide +kernel)
set_option maxRecDepth 100000 in
theorem km12_452 : Cond.methodLink RX12 452 yX12_keyOf ∈ lw_gd := gs_7 170 (by decide +kernel) (by decide +kernel)
set_option maxRecDepth 100000 in
theorem km12_455 : Cond.methodLink RX12 455 yX12_readKind ∈ lw_gd := gs_7 181 (by decide +kernel) (by decide +kernel)
set_option maxRecDepth 100000 in
theorem km12_458 : Cond.methodLink RX12 458 yX12_readClause ∈ lw_gd := gs_7 156 (by decide +kernel) (by decide +kernel)
set_option maxRecDepth 100000 in
theorem km0_3 : Cond.methodLink RX0 3 ⟨"java/lang/Object", "<init>", "()V"⟩ ∈ lw_gd := gs_1 40 (by decide +kernel) (by decide +kernel)
set_option maxRecDepth 100000 in
theorem kf0_9 : Cond.fieldLink RX0 9 "SoupSand$Ground" "top" "[I" ∈ lw_gd := gs_1 41 (by decide +kernel) (by decide +kernel)
set_option maxRecDepth 100000 in
theorem kf0_15 : Cond.fieldLink RX0 15 "SoupSand$Ground" "water" "[I" ∈ lw_gd := gs_1 43 (by decide +kernel) (by decide +kernel)
set_option maxRecDepth 100000 in
theorem kf0_18 : Cond.fieldLink RX0 18 "SoupSand$Ground" "layers" "[I" ∈ lw_gd := gs_1 45 (by decide +kernel) (by decide +kernel)
set_option maxRecDepth 100000 in
theorem kf0_21 : Cond.fieldLink RX0 21 "SoupSand$Ground" "kind" "[I" ∈ lw_gd := gs_1 49 (by decide +kernel) (by decide +kernel)
set_option maxRecDepth 100000 in
theorem kf0_24 : Cond.fieldLink RX0 24 "SoupSand$Ground" "thick" "[I" ∈ lw_gd := gs_1 52 (by decide +kernel) (by decide +kernel)
set_option maxRecDepth 100000 in
theorem kf0_27 : Cond.fieldLink RX0 27 "SoupSand$Ground" "values" "[I" ∈ lw_gd := gs_1 55 (by decide +kernel) (by decide +kernel)
set_option maxRecDepth 100000 in
theorem kf0_30 : Cond.fieldLink RX0 30 "SoupSand$Ground" "value" "[I" ∈ lw_gd := gs_1 58 (by decide +kernel) (by decide +kernel)
set_option maxRecDepth 100000 in
theorem kf0_33 : Cond.fieldLink RX0 33 "SoupSand$Ground" "weight" "[I" ∈ lw_gd := gs_1 60 (by decide +kernel) (by decide +kernel)
set_option maxRecDepth 100000 in
theorem km0_36 : Cond.methodLink RX0 36 yX0_hasColumn ∈ lw_gd := gs_3 2 (by decide +kernel) (by decide +kernel)
set_option maxRecDepth 100000 in
theorem km0_40 : Cond.methodLink RX0 40 yX0_addValue ∈ lw_gd := gs_2 230 (by decide +kernel) (by decide +kernel)
set_option maxRecDepth 100000 in
theorem km0_44 : Cond.methodLink RX0 44 yX0_depthOf ∈ lw_gd := gs_3 20 (by decide +kernel) (by decide +kernel)
set_option maxRecDepth 100000 in
theorem km0_48 : Cond.methodLink RX0 48 yX3_unitWeight ∈ lw_gd := gs_3 25 (by decide +kernel) (by decide +kernel)
set_option maxRecDepth 100000 in
theorem km0_54 : Cond.methodLink RX0 54 ⟨"java/lang/Math", "max", "(II)I"⟩ ∈ lw_gd := gs_3 29 (by decide +kernel) (by decide +kernel)
set_option maxRecDepth 100000 in
theorem km0_59 : Cond.methodLink RX0 59 ⟨"java/lang/Math", "min", "(II)I"⟩ ∈ lw_gd := gs_4 120 (by decide +kernel) (by decide +kernel)
set_option maxRecDepth 100000 in
theorem km1_3 : Cond.methodLink RX1 3 ⟨"java/lang/Object", "<init>", "()V"⟩ ∈ lw_gd := gs_1 233 (by decide +kernel) (by decide +kernel)
set_option maxRecDepth 100000 in
theorem kf1_9 : Cond.fieldLink RX1 9 "SoupSand$Houses" "column" "[I" ∈ lw_gd := gs_1 234 (by decide +kernel) (by decide +kernel)
set_option maxRecDepth 100000 in
theorem kf1_15 : Cond.fieldLink RX1 15 "SoupSand$Houses" "width" "[I" ∈ lw_gd := gs_1 236 (by decide +kernel) (by decide +kernel)
set_option maxRecDepth 100000 in
theorem kf1_18 : Cond.fieldLink RX1 18 "SoupSand$Houses" "worth" "[I" ∈ lw_gd := gs_1 238 (by decide +kernel) (by decide +kernel)
set_option maxRecDepth 100000 in
theorem kf1_21 : Cond.fieldLink RX1 21 "SoupSand$Houses" "count" "I" ∈ lw_gd := gs_2 0 (by decide +kernel) (by decide +kernel)
set_option maxRecDepth 100000 in
theorem km1_25 : Cond.methodLink RX1 25 ⟨"java/lang/Math", "max", "(II)I"⟩ ∈ lw_gd := gs_4 158 (by decide +kernel) (by decide +kernel)
set_option maxRecDepth 100000 in
theorem km2_3 : Cond.methodLink RX2 3 ⟨"java/lang/Object", "<init>", "()V"⟩ ∈ lw_gd := gs_2 146 (by decide +kernel) (by decide +kernel)
set_option maxRecDepth 100000 in
theorem kf2_11 : Cond.fieldLink RX2 11 "SoupSand$Reader" "draft" "[I" ∈ lw_gd := gs_2 147 (by decide +kernel) (by decide +kernel)
set_option maxRecDepth 100000 in
theorem kf2_17 : Cond.fieldLink RX2 17 "SoupSand$Reader" "flawAt" "I" ∈ lw_gd := gs_2 153 (by decide +kernel) (by decide +kernel)
set_option maxRecDepth 100000 in
theorem kf2_21 : Cond.fieldLink RX2 21 "SoupSand$Reader" "text" "[I" ∈ lw_gd := gs_2 155 (by decide +kernel) (by decide +kernel)
set_option maxRecDepth 100000 in
theorem kf2_24 : Cond.fieldLink RX2 24 "SoupSand$Reader" "length" "I" ∈ lw_gd := gs_2 149 (by decide +kernel) (by decide +kernel)
set_option maxRecDepth 100000 in
theorem kf2_29 : Cond.fieldLink RX2 29 "SoupSand$Reader" "at" "I" ∈ lw_gd := gs_2 156 (by decide +kernel) (by decide +kernel)
set_option maxRecDepth 100000 in
theorem kf2_32 : Cond.fieldLink RX2 32 "SoupSand$Reader" "clauses" "I" ∈ lw_gd := gs_2 157 (by decide +kernel) (by decide +kernel)
set_option maxRecDepth 100000 in
theorem kf2_35 : Cond.fieldLink RX2 35 "SoupSand$Reader" "flaw" "I" ∈ lw_gd := gs_2 151 (by decide +kernel) (by decide +kernel)
set_option maxRecDepth 100000 in
theorem km2_38 : Cond.methodLink RX2 38 yX3_first ∈ lw_gd := gs_4 215 (by decide +kernel) (by decide +kernel)
set_option maxRecDepth 100000 in
theorem km2_42 : Cond.methodLink RX2 42 yX2_skipBlanks ∈ lw_gd := gs_4 216 (by decide +kernel) (by decide +kernel)
set_option maxRecDepth 100000 in
theorem km2_45 : Cond.methodLink RX2 45 yX2_takeClause ∈ lw_gd := gs_4 220 (by decide +kernel) (by decide +kernel)
set_option maxRecDepth 100000 in
theorem km2_48 : Cond.methodLink RX2 48 yX2_takeWord ∈ lw_gd := gs_4 224 (by decide +kernel) (by decide +kernel)
set_option maxRecDepth 100000 in
theorem km2_52 : Cond.methodLink RX2 52 yX2_fail ∈ lw_gd := gs_5 59 (by decide +kernel) (by decide +kernel)
set_option maxRecDepth 100000 in
theorem km2_56 : Cond.methodLink RX2 56 yX2_takeKind ∈ lw_gd := gs_5 63 (by decide +kernel) (by decide +kernel)
set_option maxRecDepth 100000 in
theorem km2_59 : Cond.methodLink RX2 59 yX3_lowest ∈ lw_gd := gs_5 76 (by decide +kernel) (by decide +kernel)
set_option maxRecDepth 100000 in
theorem km2_62 : Cond.methodLink RX2 62 yX3_highest ∈ lw_gd := gs_5 81 (by decide +kernel) (by decide +kernel)
set_option maxRecDepth 100000 in
theorem km2_65 : Cond.methodLink RX2 65 yX2_takeNumber ∈ lw_gd := gs_5 67 (by decide +kernel) (by decide +kernel)
set_option maxRecDepth 100000 in
theorem km2_69 : Cond.methodLink RX2 69 yX2_isNext ∈ lw_gd := gs_5 72 (by decide +kernel) (by decide +kernel)
set_option maxRecDepth 100000 in
theorem km2_73 : Cond.methodLink RX2 73 ⟨"java/lang/Math", "max", "(II)I"⟩ ∈ lw_gd := gs_5 86 (by decide +kernel) (by decide +kernel)
set_option maxRecDepth 100000 in
theorem km2_82 : Cond.methodLink RX2 82 yX2_spelling ∈ lw_gd := gs_4 228 (by decide +kernel) (by decide +kernel)
set_option maxRecDepth 100000 in
theorem km2_86 : Cond.methodLink RX2 86 yX2_isSpelt ∈ lw_gd := gs_5 3 (by decide +kernel) (by decide +kernel)
set_option maxRecDepth 100000 in
theorem km2_90 : Cond.methodLink RX2 90 ⟨"java/lang/String", "isEmpty", "()Z"⟩ ∈ lw_gd := gs_5 7 (by decide +kernel) (by decide +kernel)
set_option maxRecDepth 100000 in
theorem km2_96 : Cond.methodLink RX2 96 ⟨"java/lang/String", "length", "()I"⟩ ∈ lw_gd := gs_5 11 (by decide +kernel) (by decide +kernel)
set_option maxRecDepth 100000 in
theorem km2_98 : Cond.methodLink RX2 98 ⟨"java/lang/String", "charAt", "(I)C"⟩ ∈ lw_gd := gs_5 21 (by decide +kernel) (by decide +kernel)
set_option maxRecDepth 100000 in
theorem km3_1 : Cond.methodLink RX3 1 ⟨"java/lang/Object", "<init>", "()V"⟩ ∈ lw_gd := gs_1 110 (by decide +kernel) (by decide +kernel)
set_option maxRecDepth 100000 in
theorem kf3_9 : Cond.fieldLink RX3 9 "SoupSand$Rules" "slot" "[I" ∈ lw_gd := gs_1 119 (by decide +kernel) (by decide +kernel)
set_option maxRecDepth 100000 in
theorem km3_13 : Cond.methodLink RX3 13 yX3_first ∈ lw_gd := gs_1 111 (by decide +kernel) (by decide +kernel)
set_option maxRecDepth 100000 in
theorem km3_20 : Cond.methodLink RX3 20 yX3_entry ∈ lw_gd := gs_1 116 (by decide +kernel) (by decide +kernel)
set_option maxRecDepth 100000 in
theorem km3_29 : Cond.methodLink RX3 29 ⟨"java/lang/System", "arraycopy", "(Ljava/lang/Object;ILjava/lang/Object;II)V"⟩ ∈ lw_gd := gs_5 91 (by decide +kernel) (by decide +kernel)
set_option maxRecDepth 100000 in
theorem km4_3 : Cond.methodLink RX4 3 ⟨"java/lang/Object", "<init>", "()V"⟩ ∈ lw_gd := gs_1 85 (by decide +kernel) (by decide +kernel)
set_option maxRecDepth 100000 in
theorem kf4_9 : Cond.fieldLink RX4 9 "SoupSand$Shakes" "share" "[I" ∈ lw_gd := gs_1 86 (by decide +kernel) (by decide +kernel)
set_option maxRecDepth 100000 in
theorem kf4_15 : Cond.fieldLink RX4 15 "SoupSand$Shakes" "beats" "[I" ∈ lw_gd := gs_1 88 (by decide +kernel) (by decide +kernel)
set_option maxRecDepth 100000 in
theorem kf4_18 : Cond.fieldLink RX4 18 "SoupSand$Shakes" "strength" "[I" ∈ lw_gd := gs_1 91 (by decide +kernel) (by decide +kernel)
set_option maxRecDepth 100000 in
theorem kf4_21 : Cond.fieldLink RX4 21 "SoupSand$Shakes" "count" "I" ∈ lw_gd := gs_1 93 (by decide +kernel) (by decide +kernel)
set_option maxRecDepth 100000 in
theorem km5_3 : Cond.methodLink RX5 3 ⟨"java/lang/Object", "<init>", "()V"⟩ ∈ lw_gd := gs_2 108 (by decide +kernel) (by decide +kernel)
set_option maxRecDepth 100000 in
theorem kf5_9 : Cond.fieldLink RX5 9 "SoupSand$Slips" "grip" "[I" ∈ lw_gd := gs_2 109 (by decide +kernel) (by decide +kernel)
set_option maxRecDepth 100000 in
theorem km5_15 : Cond.methodLink RX5 15 yX8_runFirst ∈ lw_gd := gs_4 101 (by decide +kernel) (by decide +kernel)
set_option maxRecDepth 100000 in
theorem kf5_21 : Cond.fieldLink RX5 21 "SoupSand$Trial" "ground" "LSoupSand$Ground;" ∈ lw_gd := gs_1 127 (by decide +kernel) (by decide +kernel)
set_option maxRecDepth 100000 in
theorem kf5_25 : Cond.fieldLink RX5 25 "SoupSand$Ground" "layers" "[I" ∈ lw_gd := gs_1 47 (by decide +kernel) (by decide +kernel)
set_option maxRecDepth 100000 in
theorem km5_30 : Cond.methodLink RX5 30 yX8_gripOf ∈ lw_gd := gs_4 102 (by decide +kernel) (by decide +kernel)
set_option maxRecDepth 100000 in
theorem kf5_34 : Cond.fieldLink RX5 34 "SoupSand$Slips" "holds" "J" ∈ lw_gd := gs_2 110 (by decide +kernel) (by decide +kernel)
set_option maxRecDepth 100000 in
theorem km5_38 : Cond.methodLink RX5 38 ⟨"java/lang/Math", "min", "(II)I"⟩ ∈ lw_gd := gs_4 110 (by decide +kernel) (by decide +kernel)
set_option maxRecDepth 100000 in
theorem km5_44 : Cond.methodLink RX5 44 ⟨"java/lang/Math", "max", "(II)I"⟩ ∈ lw_gd := gs_4 111 (by decide +kernel) (by decide +kernel)
set_option maxRecDepth 100000 in
theorem km5_47 : Cond.methodLink RX5 47 yX0_layerAt ∈ lw_gd := gs_4 112 (by decide +kernel) (by decide +kernel)
set_option maxRecDepth 100000 in
theorem kf5_50 : Cond.fieldLink RX5 50 "SoupSand$Trial" "rules" "LSoupSand$Rules;" ∈ lw_gd := gs_1 134 (by decide +kernel) (by decide +kernel)
set_option maxRecDepth 100000 in
theorem km5_54 : Cond.methodLink RX5 54 yX0_weightAbove ∈ lw_gd := gs_4 116 (by decide +kernel) (by decide +kernel)
set_option maxRecDepth 100000 in
theorem kf5_58 : Cond.fieldLink RX5 58 "SoupSand$Slips" "driven" "J" ∈ lw_gd := gs_2 112 (by decide +kernel) (by decide +kernel)
set_option maxRecDepth 100000 in
theorem kf5_61 : Cond.fieldLink RX5 61 "SoupSand$Slips" "from" "I" ∈ lw_gd := gs_2 114 (by decide +kernel) (by decide +kernel)
set_option maxRecDepth 100000 in
theorem km5_65 : Cond.methodLink RX5 65 yX5_findLeastBetween ∈ lw_gd := gs_4 131 (by decide +kernel) (by decide +kernel)
set_option maxRecDepth 100000 in
theorem km5_69 : Cond.methodLink RX5 69 yX0_middleOf ∈ lw_gd := gs_4 135 (by decide +kernel) (by decide +kernel)
set_option maxRecDepth 100000 in
theorem km5_72 : Cond.methodLink RX5 72 yX5_weigh ∈ lw_gd := gs_4 136 (by decide +kernel) (by decide +kernel)
set_option maxRecDepth 100000 in
theorem kf5_76 : Cond.fieldLink RX5 76 "SoupSand$Slips" "leastDriven" "J" ∈ lw_gd := gs_2 122 (by decide +kernel) (by decide +kernel)
set_option maxRecDepth 100000 in
theorem kf5_79 : Cond.fieldLink RX5 79 "SoupSand$Slips" "leastHolds" "J" ∈ lw_gd := gs_2 120 (by decide +kernel) (by decide +kernel)
set_option maxRecDepth 100000 in
theorem kf5_82 : Cond.fieldLink RX5 82 "SoupSand$Slips" "to" "I" ∈ lw_gd := gs_2 116 (by decide +kernel) (by decide +kernel)
set_option maxRecDepth 100000 in
theorem kf5_85 : Cond.fieldLink RX5 85 "SoupSand$Slips" "layer" "I" ∈ lw_gd := gs_2 118 (by decide +kernel) (by decide +kernel)
set_option maxRecDepth 100000 in
theorem km6_1 : Cond.methodLink RX6 1 ⟨"java/lang/Object", "<init>", "()V"⟩ ∈ lw_gd := gs_2 70 (by decide +kernel) (by decide +kernel)
set_option maxRecDepth 100000 in
theorem kf6_7 : Cond.fieldLink RX6 7 "SoupSand$Survey" "mark" "I" ∈ lw_gd := gs_2 85 (by decide +kernel) (by decide +kernel)
set_option maxRecDepth 100000 in
theorem kf6_13 : Cond.fieldLink RX6 13 "SoupSand$Survey" "kept" "I" ∈ lw_gd := gs_2 71 (by decide +kernel) (by decide +kernel)
set_option maxRecDepth 100000 in
theorem kf6_16 : Cond.fieldLink RX6 16 "SoupSand$Survey" "so" "I" ∈ lw_gd := gs_2 73 (by decide +kernel) (by decide +kernel)
set_option maxRecDepth 100000 in
theorem kf6_19 : Cond.fieldLink RX6 19 "SoupSand$Survey" "weight" "J" ∈ lw_gd := gs_2 75 (by decide +kernel) (by decide +kernel)
set_option maxRecDepth 100000 in
theorem kf6_23 : Cond.fieldLink RX6 23 "SoupSand$Survey" "weightSo" "J" ∈ lw_gd := gs_2 77 (by decide +kernel) (by decide +kernel)
set_option maxRecDepth 100000 in
theorem kf6_26 : Cond.fieldLink RX6 26 "SoupSand$Survey" "least" "I" ∈ lw_gd := gs_2 79 (by decide +kernel) (by decide +kernel)
set_option maxRecDepth 100000 in
theorem km6_29 : Cond.methodLink RX6 29 ⟨"java/lang/Math", "min", "(II)I"⟩ ∈ lw_gd := gs_3 204 (by decide +kernel) (by decide +kernel)
set_option maxRecDepth 100000 in
theorem kf6_35 : Cond.fieldLink RX6 35 "SoupSand$Survey" "greatest" "I" ∈ lw_gd := gs_2 81 (by decide +kernel) (by decide +kernel)
set_option maxRecDepth 100000 in
theorem km6_38 : Cond.methodLink RX6 38 ⟨"java/lang/Math", "max", "(II)I"⟩ ∈ lw_gd := gs_3 205 (by decide +kernel) (by decide +kernel)
set_option maxRecDepth 100000 in
theorem kf6_41 : Cond.fieldLink RX6 41 "SoupSand$Survey" "leastSo" "I" ∈ lw_gd := gs_2 83 (by decide +kernel) (by decide +kernel)
set_option maxRecDepth 100000 in
theorem km7_3 : Cond.methodLink RX7 3 ⟨"java/lang/Object", "<init>", "()V"⟩ ∈ lw_gd := gs_2 16 (by decide +kernel) (by decide +kernel)
set_option maxRecDepth 100000 in
theorem kf7_9 : Cond.fieldLink RX7 9 "SoupSand$Tanks" "column" "[I" ∈ lw_gd := gs_2 17 (by decide +kernel) (by decide +kernel)
set_option maxRecDepth 100000 in
theorem kf7_15 : Cond.fieldLink RX7 15 "SoupSand$Tanks" "layer" "[I" ∈ lw_gd := gs_2 19 (by decide +kernel) (by decide +kernel)
set_option maxRecDepth 100000 in
theorem kf7_18 : Cond.fieldLink RX7 18 "SoupSand$Tanks" "weight" "[I" ∈ lw_gd := gs_2 21 (by decide +kernel) (by decide +kernel)
set_option maxRecDepth 100000 in
theorem kf7_21 : Cond.fieldLink RX7 21 "SoupSand$Tanks" "size" "[I" ∈ lw_gd := gs_2 23 (by decide +kernel) (by decide +kernel)
set_option maxRecDepth 100000 in
theorem kf7_24 : Cond.fieldLink RX7 24 "SoupSand$Tanks" "count" "I" ∈ lw_gd := gs_2 25 (by decide +kernel) (by decide +kernel)
set_option maxRecDepth 100000 in
theorem km8_3 : Cond.methodLink RX8 3 ⟨"java/lang/Object", "<init>", "()V"⟩ ∈ lw_gd := gs_1 34 (by decide +kernel) (by decide +kernel)
set_option maxRecDepth 100000 in
theorem km8_11 : Cond.methodLink RX8 11 yX0_init ∈ lw_gd := gs_1 37 (by decide +kernel) (by decide +kernel)
set_option maxRecDepth 100000 in
theorem kf8_12 : Cond.fieldLink RX8 12 "SoupSand$Trial" "ground" "LSoupSand$Ground;" ∈ lw_gd := gs_1 125 (by decide +kernel) (by decide +kernel)
set_option maxRecDepth 100000 in
theorem kf8_21 : Cond.fieldLink RX8 21 "SoupSand$Trial" "shakes" "LSoupSand$Shakes;" ∈ lw_gd := gs_1 129 (by decide +kernel) (by decide +kernel)
set_option maxRecDepth 100000 in
theorem km8_27 : Cond.methodLink RX8 27 yX3_init ∈ lw_gd := gs_1 107 (by decide +kernel) (by decide +kernel)
set_option maxRecDepth 100000 in
theorem kf8_28 : Cond.fieldLink RX8 28 "SoupSand$Trial" "rules" "LSoupSand$Rules;" ∈ lw_gd := gs_1 132 (by decide +kernel) (by decide +kernel)
set_option maxRecDepth 100000 in
theorem kf8_32 : Cond.fieldLink RX8 32 "SoupSand$Trial" "chosen" "[I" ∈ lw_gd := gs_1 135 (by decide +kernel) (by decide +kernel)
set_option maxRecDepth 100000 in
theorem kf8_36 : Cond.fieldLink RX8 36 "SoupSand$Trial" "push" "[I" ∈ lw_gd := gs_1 137 (by decide +kernel) (by decide +kernel)
set_option maxRecDepth 100000 in
theorem kf8_39 : Cond.fieldLink RX8 39 "SoupSand$Trial" "gone" "[I" ∈ lw_gd := gs_1 139 (by decide +kernel) (by decide +kernel)
set_option maxRecDepth 100000 in
theorem kf8_42 : Cond.fieldLink RX8 42 "SoupSand$Trial" "hold" "[I" ∈ lw_gd := gs_1 141 (by decide +kernel) (by decide +kernel)
set_option maxRecDepth 100000 in
theorem kf8_45 : Cond.fieldLink RX8 45 "SoupSand$Trial" "arriving" "[I" ∈ lw_gd := gs_1 142 (by decide +kernel) (by decide +kernel)
set_option maxRecDepth 100000 in
theorem kf8_48 : Cond.fieldLink RX8 48 "SoupSand$Trial" "rising" "[I" ∈ lw_gd := gs_1 143 (by decide +kernel) (by decide +kernel)
set_option maxRecDepth 100000 in
theorem kf8_51 : Cond.fieldLink RX8 51 "SoupSand$Trial" "column" "I" ∈ lw_gd := gs_1 144 (by decide +kernel) (by decide +kernel)
set_option maxRecDepth 100000 in
theorem kf8_55 : Cond.fieldLink RX8 55 "SoupSand$Ground" "layers" "[I" ∈ lw_gd := gs_1 46 (by decide +kernel) (by decide +kernel)
set_option maxRecDepth 100000 in
theorem kf8_58 : Cond.fieldLink RX8 58 "SoupSand$Trial" "layers" "I" ∈ lw_gd := gs_1 145 (by decide +kernel) (by decide +kernel)
set_option maxRecDepth 100000 in
theorem kf8_60 : Cond.fieldLink RX8 60 "SoupSand$Trial" "beats" "I" ∈ lw_gd := gs_1 147 (by decide +kernel) (by decide +kernel)
set_option maxRecDepth 100000 in
theorem kf8_63 : Cond.fieldLink RX8 63 "SoupSand$Trial" "steps" "I" ∈ lw_gd := gs_1 148 (by decide +kernel) (by decide +kernel)
set_option maxRecDepth 100000 in
theorem kf8_66 : Cond.fieldLink RX8 66 "SoupSand$Trial" "stale" "I" ∈ lw_gd := gs_1 151 (by decide +kernel) (by decide +kernel)
set_option maxRecDepth 100000 in
theorem kf8_69 : Cond.fieldLink RX8 69 "SoupSand$Shakes" "beats" "[I" ∈ lw_gd := gs_1 89 (by decide +kernel) (by decide +kernel)
set_option maxRecDepth 100000 in
theorem km8_71 : Cond.methodLink RX8 71 yX3_after ∈ lw_gd := gs_3 81 (by decide +kernel) (by decide +kernel)
set_option maxRecDepth 100000 in
theorem kf8_75 : Cond.fieldLink RX8 75 "SoupSand$Trial" "drainMore" "I" ∈ lw_gd := gs_1 149 (by decide +kernel) (by decide +kernel)
set_option maxRecDepth 100000 in
theorem kf8_78 : Cond.fieldLink RX8 78 "SoupSand$Trial" "looseLess" "I" ∈ lw_gd := gs_1 150 (by decide +kernel) (by decide +kernel)
set_option maxRecDepth 100000 in
theorem kf8_81 : Cond.fieldLink RX8 81 "SoupSand$Trial" "firstWet" "I" ∈ lw_gd := gs_1 146 (by decide +kernel) (by decide +kernel)
set_option maxRecDepth 100000 in
theorem km8_84 : Cond.methodLink RX8 84 yX0_holdOf ∈ lw_gd := gs_3 85 (by decide +kernel) (by decide +kernel)
set_option maxRecDepth 100000 in
theorem km8_88 : Cond.methodLink RX8 88 yX0_isWet ∈ lw_gd := gs_3 86 (by decide +kernel) (by decide +kernel)
set_option maxRecDepth 100000 in
theorem kf8_92 : Cond.fieldLink RX8 92 "SoupSand$Shakes" "strength" "[I" ∈ lw_gd := gs_1 92 (by decide +kernel) (by decide +kernel)
set_option maxRecDepth 100000 in
theorem km8_95 : Cond.methodLink RX8 95 ⟨"java/lang/System", "arraycopy", "(Ljava/lang/Object;ILjava/lang/Object;II)V"⟩ ∈ lw_gd := gs_3 87 (by decide +kernel) (by decide +kernel)
set_option maxRecDepth 100000 in
theorem km8_101 : Cond.methodLink RX8 101 yX8_begin ∈ lw_gd := gs_3 73 (by decide +kernel) (by decide +kernel)
set_option maxRecDepth 100000 in
theorem km8_105 : Cond.methodLink RX8 105 yX8_under ∈ lw_gd := gs_3 77 (by decide +kernel) (by decide +kernel)
set_option maxRecDepth 100000 in
theorem km8_109 : Cond.methodLink RX8 109 yX8_play ∈ lw_gd := gs_3 90 (by decide +kernel) (by decide +kernel)
set_option maxRecDepth 100000 in
theorem km8_112 : Cond.methodLink RX8 112 ⟨"java/lang/Math", "max", "(II)I"⟩ ∈ lw_gd := gs_3 109 (by decide +kernel) (by decide +kernel)
set_option maxRecDepth 100000 in
theorem kf8_118 : Cond.fieldLink RX8 118 "SoupSand$Ground" "values" "[I" ∈ lw_gd := gs_1 57 (by decide +kernel) (by decide +kernel)
set_option maxRecDepth 100000 in
theorem kf8_121 : Cond.fieldLink RX8 121 "SoupSand$Ground" "value" "[I" ∈ lw_gd := gs_1 59 (by decide +kernel) (by decide +kernel)
set_option maxRecDepth 100000 in
theorem kf8_124 : Cond.fieldLink RX8 124 "SoupSand$Ground" "weight" "[I" ∈ lw_gd := gs_1 61 (by decide +kernel) (by decide +kernel)
set_option maxRecDepth 100000 in
theorem km8_127 : Cond.methodLink RX8 127 yX8_playWet ∈ lw_gd := gs_3 94 (by decide +kernel) (by decide +kernel)
set_option maxRecDepth 100000 in
theorem kf8_130 : Cond.fieldLink RX8 130 "SoupSand$Rules" "slot" "[I" ∈ lw_gd := gs_1 120 (by decide +kernel) (by decide +kernel)
set_option maxRecDepth 100000 in
theorem kf8_133 : Cond.fieldLink RX8 133 "SoupSand$Ground" "kind" "[I" ∈ lw_gd := gs_1 51 (by decide +kernel) (by decide +kernel)
set_option maxRecDepth 100000 in
theorem km8_136 : Cond.methodLink RX8 136 yX8_ruleOf ∈ lw_gd := gs_3 98 (by decide +kernel) (by decide +kernel)
set_option maxRecDepth 100000 in
theorem km8_139 : Cond.methodLink RX8 139 ⟨"java/lang/Math", "min", "(II)I"⟩ ∈ lw_gd := gs_3 102 (by decide +kernel) (by decide +kernel)
set_option maxRecDepth 100000 in
theorem km8_142 : Cond.methodLink RX8 142 yX8_valueAt ∈ lw_gd := gs_3 105 (by decide +kernel) (by decide +kernel)
set_option maxRecDepth 100000 in
theorem km8_146 : Cond.methodLink RX8 146 yX3_flow ∈ lw_gd := gs_3 110 (by decide +kernel) (by decide +kernel)
set_option maxRecDepth 100000 in
theorem km8_149 : Cond.methodLink RX8 149 yX8_gain ∈ lw_gd := gs_3 114 (by decide +kernel) (by decide +kernel)
set_option maxRecDepth 100000 in
theorem kf8_152 : Cond.fieldLink RX8 152 "SoupSand$Ground" "thick" "[I" ∈ lw_gd := gs_1 54 (by decide +kernel) (by decide +kernel)
set_option maxRecDepth 100000 in
theorem km8_155 : Cond.methodLink RX8 155 yX0_depthOf ∈ lw_gd := gs_4 39 (by decide +kernel) (by decide +kernel)
set_option maxRecDepth 100000 in
theorem km8_158 : Cond.methodLink RX8 158 yX8_partOf ∈ lw_gd := gs_4 35 (by decide +kernel) (by decide +kernel)
set_option maxRecDepth 100000 in
theorem km9_3 : Cond.methodLink RX9 3 ⟨"java/lang/Object", "<init>", "()V"⟩ ∈ lw_gd := gs_1 192 (by decide +kernel) (by decide +kernel)
set_option maxRecDepth 100000 in
theorem kf9_9 : Cond.fieldLink RX9 9 "SoupSand$Words" "column" "[I" ∈ lw_gd := gs_1 193 (by decide +kernel) (by decide +kernel)
set_option maxRecDepth 100000 in
theorem kf9_15 : Cond.fieldLink RX9 15 "SoupSand$Words" "kind" "[I" ∈ lw_gd := gs_1 195 (by decide +kernel) (by decide +kernel)
set_option maxRecDepth 100000 in
theorem kf9_18 : Cond.fieldLink RX9 18 "SoupSand$Words" "subject" "[I" ∈ lw_gd := gs_1 196 (by decide +kernel) (by decide +kernel)
set_option maxRecDepth 100000 in
theorem kf9_21 : Cond.fieldLink RX9 21 "SoupSand$Words" "low" "[I" ∈ lw_gd := gs_1 197 (by decide +kernel) (by decide +kernel)
set_option maxRecDepth 100000 in
theorem kf9_24 : Cond.fieldLink RX9 24 "SoupSand$Words" "high" "[I" ∈ lw_gd := gs_1 198 (by decide +kernel) (by decide +kernel)
set_option maxRecDepth 100000 in
theorem kf9_27 : Cond.fieldLink RX9 27 "SoupSand$Words" "choices" "[I" ∈ lw_gd := gs_1 203 (by decide +kernel) (by decide +kernel)
set_option maxRecDepth 100000 in
theorem kf9_30 : Cond.fieldLink RX9 30 "SoupSand$Words" "against" "[I" ∈ lw_gd := gs_1 205 (by decide +kernel) (by decide +kernel)
set_option maxRecDepth 100000 in
theorem kf9_33 : Cond.fieldLink RX9 33 "SoupSand$Words" "count" "I" ∈ lw_gd := gs_1 199 (by decide +kernel) (by decide +kernel)
set_option maxRecDepth 100000 in
theorem kf9_37 : Cond.fieldLink RX9 37 "SoupSand$Words" "looked" "I" ∈ lw_gd := gs_1 206 (by decide +kernel) (by decide +kernel)
set_option maxRecDepth 100000 in
theorem kf9_40 : Cond.fieldLink RX9 40 "SoupSand$Trial" "ground" "LSoupSand$Ground;" ∈ lw_gd := gs_1 128 (by decide +kernel) (by decide +kernel)
set_option maxRecDepth 100000 in
theorem km9_46 : Cond.methodLink RX9 46 yX0_choicesOf ∈ lw_gd := gs_3 130 (by decide +kernel) (by decide +kernel)
set_option maxRecDepth 100000 in
theorem km9_52 : Cond.methodLink RX9 52 yX9_lookBySounding ∈ lw_gd := gs_3 131 (by decide +kernel) (by decide +kernel)
set_option maxRecDepth 100000 in
theorem kf9_56 : Cond.fieldLink RX9 56 "SoupSand$Trial" "shakes" "LSoupSand$Shakes;" ∈ lw_gd := gs_1 131 (by decide +kernel) (by decide +kernel)
set_option maxRecDepth 100000 in
theorem kf9_60 : Cond.fieldLink RX9 60 "SoupSand$Shakes" "count" "I" ∈ lw_gd := gs_1 95 (by decide +kernel) (by decide +kernel)
set_option maxRecDepth 100000 in
theorem km9_63 : Cond.methodLink RX9 63 yX9_setOf ∈ lw_gd := gs_3 146 (by decide +kernel) (by decide +kernel)
set_option maxRecDepth 100000 in
theorem km9_67 : Cond.methodLink RX9 67 yX8_begin ∈ lw_gd := gs_3 135 (by decide +kernel) (by decide +kernel)
set_option maxRecDepth 100000 in
theorem km9_71 : Cond.methodLink RX9 71 yX8_under ∈ lw_gd := gs_3 150 (by decide +kernel) (by decide +kernel)
set_option maxRecDepth 100000 in
theorem km9_75 : Cond.methodLink RX9 75 yX9_lookByRuns ∈ lw_gd := gs_3 151 (by decide +kernel) (by decide +kernel)
set_option maxRecDepth 100000 in
theorem km9_79 : Cond.methodLink RX9 79 yX8_valueAt ∈ lw_gd := gs_3 136 (by decide +kernel) (by decide +kernel)
set_option maxRecDepth 100000 in
theorem km9_86 : Cond.methodLink RX9 86 yX8_place ∈ lw_gd := gs_3 138 (by decide +kernel) (by decide +kernel)
set_option maxRecDepth 100000 in
theorem km9_90 : Cond.methodLink RX9 90 yX8_advance ∈ lw_gd := gs_3 142 (by decide +kernel) (by decide +kernel)
set_option maxRecDepth 100000 in
theorem km9_93 : Cond.methodLink RX9 93 yX8_play ∈ lw_gd := gs_3 155 (by decide +kernel) (by decide +kernel)
set_option maxRecDepth 100000 in
theorem km9_96 : Cond.methodLink RX9 96 yX8_someGone ∈ lw_gd := gs_3 156 (by decide +kernel) (by decide +kernel)
set_option maxRecDepth 100000 in
theorem kf9_100 : Cond.fieldLink RX9 100 "SoupSand$Words" "struck" "I" ∈ lw_gd := gs_1 202 (by decide +kernel) (by decide +kernel)
set_option maxRecDepth 100000 in
theorem km9_103 : Cond.methodLink RX9 103 yX9_keep ∈ lw_gd := gs_3 164 (by decide +kernel) (by decide +kernel)
set_option maxRecDepth 100000 in
theorem km9_107 : Cond.methodLink RX9 107 ⟨"java/lang/Integer", "bitCount", "(I)I"⟩ ∈ lw_gd := gs_4 10 (by decide +kernel) (by decide +kernel)
set_option maxRecDepth 100000 in
theorem km10_3 : Cond.methodLink RX10 3 ⟨"java/lang/Object", "<init>", "()V"⟩ ∈ lw_gd := gs_2 43 (by decide +kernel) (by decide +kernel)
set_option maxRecDepth 100000 in
theorem kf10_9 : Cond.fieldLink RX10 9 "SoupSand$Works" "column" "[I" ∈ lw_gd := gs_2 44 (by decide +kernel) (by decide +kernel)
set_option maxRecDepth 100000 in
theorem kf10_15 : Cond.fieldLink RX10 15 "SoupSand$Works" "kind" "[I" ∈ lw_gd := gs_2 45 (by decide +kernel) (by decide +kernel)
set_option maxRecDepth 100000 in
theorem kf10_18 : Cond.fieldLink RX10 18 "SoupSand$Works" "amount" "[I" ∈ lw_gd := gs_2 46 (by decide +kernel) (by decide +kernel)
set_option maxRecDepth 100000 in
theorem kf10_21 : Cond.fieldLink RX10 21 "SoupSand$Works" "price" "[I" ∈ lw_gd := gs_2 47 (by decide +kernel) (by decide +kernel)
set_option maxRecDepth 100000 in
theorem kf10_24 : Cond.fieldLink RX10 24 "SoupSand$Works" "verdict" "[I" ∈ lw_gd := gs_2 48 (by decide +kernel) (by decide +kernel)
set_option maxRecDepth 100000 in
theorem kf10_27 : Cond.fieldLink RX10 27 "SoupSand$Works" "count" "I" ∈ lw_gd := gs_2 50 (by decide +kernel) (by decide +kernel)
set_option maxRecDepth 100000 in
theorem km10_31 : Cond.methodLink RX10 31 yX10_holds ∈ lw_gd := gs_4 183 (by decide +kernel) (by decide +kernel)
set_option maxRecDepth 100000 in
theorem kmL_9 : Cond.methodLink RL 9 yX11_init ∈ lw_gd := gs_1 23 (by decide +kernel) (by decide +kernel)
set_option maxRecDepth 100000 in
theorem kmL_12 : Cond.methodLink RL 12 yX12_init ∈ lw_gd := gs_5 103 (by decide +kernel) (by decide +kernel)
set_option maxRecDepth 100000 in
theorem kmL_13 : Cond.methodLink RL 13 yX11_column ∈ lw_gd := gs_2 207 (by decide +kernel) (by decide +kernel)
set_option maxRecDepth 100000 in
theorem kmL_17 : Cond.methodLink RL 17 yX12_column ∈ lw_gd := gs_6 80 (by decide +kernel) (by decide +kernel)
set_option maxRecDepth 100000 in
theorem kmL_18 : Cond.methodLink RL 18 yX11_layer ∈ lw_gd := gs_2 222 (by decide +kernel) (by decide +kernel)
set_option maxRecDepth 100000 in
theorem kmL_22 : Cond.methodLink RL 22 yX12_layer ∈ lw_gd := gs_6 93 (by decide +kernel) (by decide +kernel)
set_option maxRecDepth 100000 in
theorem kmL_23 : Cond.methodLink RL 23 yX11_loose ∈ lw_gd := gs_2 234 (by decide +kernel) (by decide +kernel)
set_option maxRecDepth 100000 in
theorem kmL_26 : Cond.methodLink RL 26 yX12_loose ∈ lw_gd := gs_6 100 (by decide +kernel) (by decide +kernel)
set_option maxRecDepth 100000 in
theorem kmL_27 : Cond.methodLink RL 27 yX11_about ∈ lw_gd := gs_3 8 (by decide +kernel) (by decide +kernel)
set_option maxRecDepth 100000 in
theorem kmL_30 : Cond.methodLink RL 30 yX12_about ∈ lw_gd := gs_6 109 (by decide +kernel) (by decide +kernel)
set_option maxRecDepth 100000 in
theorem kmL_31 : Cond.methodLink RL 31 yX11_shake ∈ lw_gd := gs_3 32 (by decide +kernel) (by decide +kernel)
set_option maxRecDepth 100000 in
theorem kmL_35 : Cond.methodLink RL 35 yX12_shake ∈ lw_gd := gs_6 129 (by decide +kernel) (by decide +kernel)
set_option maxRecDepth 100000 in
theorem kmL_36 : Cond.methodLink RL 36 yX11_beat ∈ lw_gd := gs_3 40 (by decide +kernel) (by decide +kernel)
set_option maxRecDepth 100000 in
theorem kmL_40 : Cond.methodLink RL 40 yX12_beat ∈ lw_gd := gs_6 134 (by decide +kernel) (by decide +kernel)
set_option maxRecDepth 100000 in
theorem kmL_41 : Cond.methodLink RL 41 yX11_count ∈ lw_gd := gs_3 52 (by decide +kernel) (by decide +kernel)
set_option maxRecDepth 100000 in
theorem kmL_44 : Cond.methodLink RL 44 yX12_count ∈ lw_gd := gs_6 142 (by decide +kernel) (by decide +kernel)
set_option maxRecDepth 100000 in
theorem kmL_45 : Cond.methodLink RL 45 yX11_run ∈ lw_gd := gs_3 65 (by decide +kernel) (by decide +kernel)
set_option maxRecDepth 100000 in
theorem kmL_48 : Cond.methodLink RL 48 yX12_run ∈ lw_gd := gs_6 146 (by decide +kernel) (by decide +kernel)
set_option maxRecDepth 100000 in
theorem kmL_49 : Cond.methodLink RL 49 yX11_choices ∈ lw_gd := gs_3 118 (by decide +kernel) (by decide +kernel)
set_option maxRecDepth 100000 in
theorem kmL_52 : Cond.methodLink RL 52 yX12_choices ∈ lw_gd := gs_6 214 (by decide +kernel) (by decide +kernel)
set_option maxRecDepth 100000 in
theorem kmL_53 : Cond.methodLink RL 53 yX11_odds ∈ lw_gd := gs_3 180 (by decide +kernel) (by decide +kernel)
set_option maxRecDepth 100000 in
theorem kmL_57 : Cond.methodLink RL 57 yX12_odds ∈ lw_gd := gs_6 222 (by decide +kernel) (by decide +kernel)
set_option maxRecDepth 100000 in
theorem kmL_58 : Cond.methodLink RL 58 yX11_step ∈ lw_gd := gs_3 214 (by decide +kernel) (by decide +kernel)
set_option maxRecDepth 100000 in
theorem kmL_61 : Cond.methodLink RL 61 yX12_step ∈ lw_gd := gs_7 12 (by decide +kernel) (by decide +kernel)
set_option maxRecDepth 100000 in
theorem kmL_62 : Cond.methodLink RL 62 yX11_word ∈ lw_gd := gs_3 218 (by decide +kernel) (by decide +kernel)
set_option maxRecDepth 100000 in
theorem kmL_66 : Cond.methodLink RL 66 yX12_word ∈ lw_gd := gs_6 170 (by decide +kernel) (by decide +kernel)
set_option maxRecDepth 100000 in
theorem kmL_67 : Cond.methodLink RL 67 yX11_strike ∈ lw_gd := gs_3 226 (by decide +kernel) (by decide +kernel)
set_option maxRecDepth 100000 in
theorem kmL_71 : Cond.methodLink RL 71 yX12_strike ∈ lw_gd := gs_6 175 (by decide +kernel) (by decide +kernel)
set_option maxRecDepth 100000 in
theorem kmL_72 : Cond.methodLink RL 72 yX11_bars ∈ lw_gd := gs_3 234 (by decide +kernel) (by decide +kernel)
set_option maxRecDepth 100000 in
theorem kmL_75 : Cond.methodLink RL 75 yX12_bars ∈ lw_gd := gs_6 183 (by decide +kernel) (by decide +kernel)
set_option maxRecDepth 100000 in
theorem kmL_76 : Cond.methodLink RL 76 yX11_toStrike ∈ lw_gd := gs_4 2 (by decide +kernel) (by decide +kernel)
set_option maxRecDepth 100000 in
theorem kmL_79 : Cond.methodLink RL 79 yX12_toStrike ∈ lw_gd := gs_6 203 (by decide +kernel) (by decide +kernel)
set_option maxRecDepth 100000 in
theorem kmL_80 : Cond.methodLink RL 80 yX11_house ∈ lw_gd := gs_4 11 (by decide +kernel) (by decide +kernel)
set_option maxRecDepth 100000 in
theorem kmL_83 : Cond.methodLink RL 83 yX12_house ∈ lw_gd := gs_7 16 (by decide +kernel) (by decide +kernel)
set_option maxRecDepth 100000 in
theorem kmL_84 : Cond.methodLink RL 84 yX11_sink ∈ lw_gd := gs_4 19 (by decide +kernel) (by decide +kernel)
set_option maxRecDepth 100000 in
theorem kmL_87 : Cond.methodLink RL 87 yX12_sink ∈ lw_gd := gs_7 21 (by decide +kernel) (by decide +kernel)
set_option maxRecDepth 100000 in
theorem kmL_88 : Cond.methodLink RL 88 yX11_sunk ∈ lw_gd := gs_4 48 (by decide +kernel) (by decide +kernel)
set_option maxRecDepth 100000 in
theorem kmL_92 : Cond.methodLink RL 92 yX12_sunk ∈ lw_gd := gs_7 45 (by decide +kernel) (by decide +kernel)
set_option maxRecDepth 100000 in
theorem kmL_93 : Cond.methodLink RL 93 yX11_led ∈ lw_gd := gs_4 52 (by decide +kernel) (by decide +kernel)
set_option maxRecDepth 100000 in
theorem kmL_96 : Cond.methodLink RL 96 yX12_led ∈ lw_gd := gs_7 49 (by decide +kernel) (by decide +kernel)
set_option maxRecDepth 100000 in
theorem kmL_97 : Cond.methodLink RL 97 yX11_lean ∈ lw_gd := gs_4 60 (by decide +kernel) (by decide +kernel)
set_option maxRecDepth 100000 in
theorem kmL_100 : Cond.methodLink RL 100 yX12_lean ∈ lw_gd := gs_7 53 (by decide +kernel) (by decide +kernel)
set_option maxRecDepth 100000 in
theorem kmL_101 : Cond.methodLink RL 101 yX11_tank ∈ lw_gd := gs_4 67 (by decide +kernel) (by decide +kernel)
set_option maxRecDepth 100000 in
theorem kmL_104 : Cond.methodLink RL 104 yX12_tank ∈ lw_gd := gs_7 57 (by decide +kernel) (by decide +kernel)
set_option maxRecDepth 100000 in
theorem kmL_105 : Cond.methodLink RL 105 yX11_floats ∈ lw_gd := gs_4 75 (by decide +kernel) (by decide +kernel)
set_option maxRecDepth 100000 in
theorem kmL_108 : Cond.methodLink RL 108 yX12_floats ∈ lw_gd := gs_7 62 (by decide +kernel) (by decide +kernel)
set_option maxRecDepth 100000 in
theorem kmL_109 : Cond.methodLink RL 109 yX11_margin ∈ lw_gd := gs_4 87 (by decide +kernel) (by decide +kernel)
set_option maxRecDepth 100000 in
theorem kmL_113 : Cond.methodLink RL 113 yX12_margin ∈ lw_gd := gs_7 66 (by decide +kernel) (by decide +kernel)
set_option maxRecDepth 100000 in
theorem kmL_114 : Cond.methodLink RL 114 yX11_least ∈ lw_gd := gs_4 123 (by decide +kernel) (by decide +kernel)
set_option maxRecDepth 100000 in
theorem kmL_118 : Cond.methodLink RL 118 yX12_least ∈ lw_gd := gs_7 87 (by decide +kernel) (by decide +kernel)
set_option maxRecDepth 100000 in
theorem kmL_119 : Cond.methodLink RL 119 yX11_work ∈ lw_gd := gs_4 138 (by decide +kernel) (by decide +kernel)
set_option maxRecDepth 100000 in
theorem kmL_122 : Cond.methodLink RL 122 yX12_work ∈ lw_gd := gs_7 93 (by decide +kernel) (by decide +kernel)
set_option maxRecDepth 100000 in
theorem kmL_123 : Cond.methodLink RL 123 yX11_stands ∈ lw_gd := gs_4 146 (by decide +kernel) (by decide +kernel)
set_option maxRecDepth 100000 in
theorem kmL_126 : Cond.methodLink RL 126 yX12_stands ∈ lw_gd := gs_7 98 (by decide +kernel) (by decide +kernel)
set_option maxRecDepth 100000 in
theorem kmL_127 : Cond.methodLink RL 127 yX11_plan ∈ lw_gd := gs_4 186 (by decide +kernel) (by decide +kernel)
set_option maxRecDepth 100000 in
theorem kmL_130 : Cond.methodLink RL 130 yX12_plan ∈ lw_gd := gs_7 126 (by decide +kernel) (by decide +kernel)
set_option maxRecDepth 100000 in
theorem kmL_131 : Cond.methodLink RL 131 yX11_loss ∈ lw_gd := gs_4 194 (by decide +kernel) (by decide +kernel)
set_option maxRecDepth 100000 in
theorem kmL_135 : Cond.methodLink RL 135 yX12_loss ∈ lw_gd := gs_7 134 (by decide +kernel) (by decide +kernel)
set_option maxRecDepth 100000 in
theorem kmL_138 : Cond.methodLink RL 138 yX11_feed ∈ lw_gd := gs_4 198 (by decide +kernel) (by decide +kernel)
set_option maxRecDepth 100000 in
theorem kmL_142 : Cond.methodLink RL 142 yX12_feed ∈ lw_gd := gs_7 142 (by decide +kernel) (by decide +kernel)
set_option maxRecDepth 100000 in
theorem kmL_143 : Cond.methodLink RL 143 yX11_read ∈ lw_gd := gs_4 207 (by decide +kernel) (by decide +kernel)
set_option maxRecDepth 100000 in
theorem kmL_147 : Cond.methodLink RL 147 yX12_read ∈ lw_gd := gs_7 148 (by decide +kernel) (by decide +kernel)
set_option maxRecDepth 100000 in
theorem kmL_148 : Cond.methodLink RL 148 yX11_fault ∈ lw_gd := gs_5 93 (by decide +kernel) (by decide +kernel)
set_option maxRecDepth 100000 in
theorem kmL_151 : Cond.methodLink RL 151 yX12_fault ∈ lw_gd := gs_7 205 (by decide +kernel) (by decide +kernel)
set_option maxRecDepth 100000 in
theorem kmL_152 : Cond.methodLink RL 152 yX11_rule ∈ lw_gd := gs_5 97 (by decide +kernel) (by decide +kernel)
set_option maxRecDepth 100000 in
theorem kmL_155 : Cond.methodLink RL 155 yX12_rule ∈ lw_gd := gs_7 209 (by decide +kernel) (by decide +kernel)
set_option maxRecDepth 100000 in
theorem kC11_init : Cond.code yX11_init cX11_init 1 none ∈ lw_gd := gs_1 25 (by decide +kernel) (by decide +kernel)
set_option maxRecDepth 100000 in
theorem kI11_init : Cond.instanceMethod yX11_init ∈ lw_gd := gs_1 24 (by decide +kernel) (by decide +kernel)
set_option maxRecDepth 100000 in
theorem kC11_column : Cond.code yX11_column cX11_column 6 (some .int) ∈ lw_gd := gs_2 210 (by decide +kernel) (by decide +kernel)
set_option maxRecDepth 100000 in
theorem kI11_column : Cond.instanceMethod yX11_column ∈ lw_gd := gs_2 208 (by decide +kernel) (by decide +kernel)
set_option maxRecDepth 100000 in
theorem kS11_column : Cond.selects RX11 yX11_column yX11_column ∈ lw_gd := gs_2 209 (by decide +kernel) (by decide +kernel)
set_option maxRecDepth 100000 in
theorem kC11_layer : Cond.code yX11_layer cX11_layer 5 (some .int) ∈ lw_gd := gs_2 225 (by decide +kernel) (by decide +kernel)
set_option maxRecDepth 100000 in
theorem kI11_layer : Cond.instanceMethod yX11_layer ∈ lw_gd := gs_2 223 (by decide +kernel) (by decide +kernel)
set_option maxRecDepth 100000 in
theorem kS11_layer : Cond.selects RX11 yX11_layer yX11_layer ∈ lw_gd := gs_2 224 (by decide +kernel) (by decide +kernel)
set_option maxRecDepth 100000 in
theorem kC11_loose : Cond.code yX11_loose cX11_loose 5 (some .int) ∈ lw_gd := gs_2 237 (by decide +kernel) (by decide +kernel)
set_option maxRecDepth 100000 in
theorem kI11_loose : Cond.instanceMethod yX11_loose ∈ lw_gd := gs_2 235 (by decide +kernel) (by decide +kernel)
set_option maxRecDepth 100000 in
theorem kS11_loose : Cond.selects RX11 yX11_loose yX11_loose ∈ lw_gd := gs_2 236 (by decide +kernel) (by decide +kernel)
set_option maxRecDepth 100000 in
theorem kC11_about : Cond.code yX11_about cX11_about 4 (some .int) ∈ lw_gd := gs_3 11 (by decide +kernel) (by decide +kernel)
set_option maxRecDepth 100000 in
theorem kI11_about : Cond.instanceMethod yX11_about ∈ lw_gd := gs_3 9 (by decide +kernel) (by decide +kernel)
set_option maxRecDepth 100000 in
theorem kS11_about : Cond.selects RX11 yX11_about yX11_about ∈ lw_gd := gs_3 10 (by decide +kernel) (by decide +kernel)
set_option maxRecDepth 100000 in
theorem kC11_shake : Cond.code yX11_shake cX11_shake 2 (some .int) ∈ lw_gd := gs_3 35 (by decide +kernel) (by decide +kernel)
set_option maxRecDepth 100000 in
theorem kI11_shake : Cond.instanceMethod yX11_shake ∈ lw_gd := gs_3 33 (by decide +kernel) (by decide +kernel)
set_option maxRecDepth 100000 in
theorem kS11_shake : Cond.selects RX11 yX11_shake yX11_shake ∈ lw_gd := gs_3 34 (by decide +kernel) (by decide +kernel)
set_option maxRecDepth 100000 in
theorem kC11_beat : Cond.code yX11_beat cX11_beat 3 (some .int) ∈ lw_gd := gs_3 43 (by decide +kernel) (by decide +kernel)
set_option maxRecDepth 100000 in
theorem kI11_beat : Cond.instanceMethod yX11_beat ∈ lw_gd := gs_3 41 (by decide +kernel) (by decide +kernel)
set_option maxRecDepth 100000 in
theorem kS11_beat : Cond.selects RX11 yX11_beat yX11_beat ∈ lw_gd := gs_3 42 (by decide +kernel) (by decide +kernel)
set_option maxRecDepth 100000 in
theorem kC11_count : Cond.code yX11_count cX11_count 2 (some .int) ∈ lw_gd := gs_3 55 (by decide +kernel) (by decide +kernel)
set_option maxRecDepth 100000 in
theorem kI11_count : Cond.instanceMethod yX11_count ∈ lw_gd := gs_3 53 (by decide +kernel) (by decide +kernel)
set_option maxRecDepth 100000 in
theorem kS11_count : Cond.selects RX11 yX11_count yX11_count ∈ lw_gd := gs_3 54 (by decide +kernel) (by decide +kernel)
set_option maxRecDepth 100000 in
theorem kC11_run : Cond.code yX11_run cX11_run 5 (some .int) ∈ lw_gd := gs_3 68 (by decide +kernel) (by decide +kernel)
set_option maxRecDepth 100000 in
theorem kI11_run : Cond.instanceMethod yX11_run ∈ lw_gd := gs_3 66 (by decide +kernel) (by decide +kernel)
set_option maxRecDepth 100000 in
theorem kS11_run : Cond.selects RX11 yX11_run yX11_run ∈ lw_gd := gs_3 67 (by decide +kernel) (by decide +kernel)
set_option maxRecDepth 100000 in
theorem kC11_choices : Cond.code yX11_choices cX11_choices 5 (some .int) ∈ lw_gd := gs_3 121 (by decide +kernel) (by decide +kernel)
set_option maxRecDepth 100000 in
theorem kI11_choices : Cond.instanceMethod yX11_choices ∈ lw_gd := gs_3 119 (by decide +kernel) (by decide +kernel)
set_option maxRecDepth 100000 in
theorem kS11_choices : Cond.selects RX11 yX11_choices yX11_choices ∈ lw_gd := gs_3 120 (by decide +kernel) (by decide +kernel)
set_option maxRecDepth 100000 in
theorem kC11_keptWith : Cond.code yX11_keptWith cX11_keptWith 6 (some .int) ∈ lw_gd := gs_3 175 (by decide +kernel) (by decide +kernel)
set_option maxRecDepth 100000 in
theorem kI11_keptWith : Cond.instanceMethod yX11_keptWith ∈ lw_gd := gs_3 174 (by decide +kernel) (by decide +kernel)
set_option maxRecDepth 100000 in
theorem kS11_keptWith : Cond.selects RX11 yX11_keptWith yX11_keptWith ∈ lw_gd := gd_at 6 (by decide +kernel) (by decide +kernel)
set_option maxRecDepth 100000 in
theorem kC11_odds : Cond.code yX11_odds cX11_odds 5 (some .long) ∈ lw_gd := gs_3 183 (by decide +kernel) (by decide +kernel)
set_option maxRecDepth 100000 in
theorem kI11_odds : Cond.instanceMethod yX11_odds ∈ lw_gd := gs_3 181 (by decide +kernel) (by decide +kernel)
set_option maxRecDepth 100000 in
theorem kS11_odds : Cond.selects RX11 yX11_odds yX11_odds ∈ lw_gd := gs_3 182 (by decide +kernel) (by decide +kernel)
set_option maxRecDepth 100000 in
theorem kC11_step : Cond.code yX11_step cX11_step 5 (some .int) ∈ lw_gd := gs_3 217 (by decide +kernel) (by decide +kernel)
set_option maxRecDepth 100000 in
theorem kI11_step : Cond.instanceMethod yX11_step ∈ lw_gd := gs_3 215 (by decide +kernel) (by decide +kernel)
set_option maxRecDepth 100000 in
theorem kS11_step : Cond.selects RX11 yX11_step yX11_step ∈ lw_gd := gs_3 216 (by decide +kernel) (by decide +kernel)
set_option maxRecDepth 100000 in
theorem kC11_surveyLayer : Cond.code yX11_surveyLayer cX11_surveyLayer 5 none ∈ lw_gd := gs_3 189 (by decide +kernel) (by decide +kernel)
set_option maxRecDepth 100000 in
theorem kI11_surveyLayer : Cond.instanceMethod yX11_surveyLayer ∈ lw_gd := gs_3 188 (by decide +kernel) (by decide +kernel)
set_option maxRecDepth 100000 in
theorem kS11_surveyLayer : Cond.selects RX11 yX11_surveyLayer yX11_surveyLayer ∈ lw_gd := gd_at 7 (by decide +kernel) (by decide +kernel)
set_option maxRecDepth 100000 in
theorem kC11_word : Cond.code yX11_word cX11_word 6 (some .int) ∈ lw_gd := gs_3 221 (by decide +kernel) (by decide +kernel)
set_option maxRecDepth 100000 in
theorem kI11_word : Cond.instanceMethod yX11_word ∈ lw_gd := gs_3 219 (by decide +kernel) (by decide +kernel)
set_option maxRecDepth 100000 in
theorem kS11_word : Cond.selects RX11 yX11_word yX11_word ∈ lw_gd := gs_3 220 (by decide +kernel) (by decide +kernel)
set_option maxRecDepth 100000 in
theorem kC11_strike : Cond.code yX11_strike cX11_strike 4 (some .int) ∈ lw_gd := gs_3 229 (by decide +kernel) (by decide +kernel)
set_option maxRecDepth 100000 in
theorem kI11_strike : Cond.instanceMethod yX11_strike ∈ lw_gd := gs_3 227 (by decide +kernel) (by decide +kernel)
set_option maxRecDepth 100000 in
theorem kS11_strike : Cond.selects RX11 yX11_strike yX11_strike ∈ lw_gd := gs_3 228 (by decide +kernel) (by decide +kernel)
set_option maxRecDepth 100000 in
theorem kC11_bars : Cond.code yX11_bars cX11_bars 3 (some .int) ∈ lw_gd := gs_3 237 (by decide +kernel) (by decide +kernel)
set_option maxRecDepth 100000 in
theorem kI11_bars : Cond.instanceMethod yX11_bars ∈ lw_gd := gs_3 235 (by decide +kernel) (by decide +kernel)
set_option maxRecDepth 100000 in
theorem kS11_bars : Cond.selects RX11 yX11_bars yX11_bars ∈ lw_gd := gs_3 236 (by decide +kernel) (by decide +kernel)
set_option maxRecDepth 100000 in
theorem kC11_toStrike : Cond.code yX11_toStrike cX11_toStrike 2 (some .int) ∈ lw_gd := gs_4 5 (by decide +kernel) (by decide +kernel)
set_option maxRecDepth 100000 in
theorem kI11_toStrike : Cond.instanceMethod yX11_toStrike ∈ lw_gd := gs_4 3 (by decide +kernel) (by decide +kernel)
set_option maxRecDepth 100000 in
theorem kS11_toStrike : Cond.selects RX11 yX11_toStrike yX11_toStrike ∈ lw_gd := gs_4 4 (by decide +kernel) (by decide +kernel)
set_option maxRecDepth 100000 in
theorem kC11_house : Cond.code yX11_house cX11_house 4 (some .int) ∈ lw_gd := gs_4 14 (by decide +kernel) (by decide +kernel)
set_option maxRecDepth 100000 in
theorem kI11_house : Cond.instanceMethod yX11_house ∈ lw_gd := gs_4 12 (by decide +kernel) (by decide +kernel)
set_option maxRecDepth 100000 in
theorem kS11_house : Cond.selects RX11 yX11_house yX11_house ∈ lw_gd := gs_4 13 (by decide +kernel) (by decide +kernel)
set_option maxRecDepth 100000 in
theorem kC11_sink : Cond.code yX11_sink cX11_sink 4 (some .int) ∈ lw_gd := gs_4 22 (by decide +kernel) (by decide +kernel)
set_option maxRecDepth 100000 in
theorem kI11_sink : Cond.instanceMethod yX11_sink ∈ lw_gd := gs_4 20 (by decide +kernel) (by decide +kernel)
set_option maxRecDepth 100000 in
theorem kS11_sink : Cond.selects RX11 yX11_sink yX11_sink ∈ lw_gd := gs_4 21 (by decide +kernel) (by decide +kernel)
set_option maxRecDepth 100000 in
theorem kC11_sunk : Cond.code yX11_sunk cX11_sunk 4 (some .long) ∈ lw_gd := gs_4 51 (by decide +kernel) (by decide +kernel)
set_option maxRecDepth 100000 in
theorem kI11_sunk : Cond.instanceMethod yX11_sunk ∈ lw_gd := gs_4 49 (by decide +kernel) (by decide +kernel)
set_option maxRecDepth 100000 in
theorem kS11_sunk : Cond.selects RX11 yX11_sunk yX11_sunk ∈ lw_gd := gs_4 50 (by decide +kernel) (by decide +kernel)
set_option maxRecDepth 100000 in
theorem kC11_led : Cond.code yX11_led cX11_led 5 (some .int) ∈ lw_gd := gs_4 55 (by decide +kernel) (by decide +kernel)
set_option maxRecDepth 100000 in
theorem kI11_led : Cond.instanceMethod yX11_led ∈ lw_gd := gs_4 53 (by decide +kernel) (by decide +kernel)
set_option maxRecDepth 100000 in
theorem kS11_led : Cond.selects RX11 yX11_led yX11_led ∈ lw_gd := gs_4 54 (by decide +kernel) (by decide +kernel)
set_option maxRecDepth 100000 in
theorem kC11_lean : Cond.code yX11_lean cX11_lean 4 (some .int) ∈ lw_gd := gs_4 63 (by decide +kernel) (by decide +kernel)
set_option maxRecDepth 100000 in
theorem kI11_lean : Cond.instanceMethod yX11_lean ∈ lw_gd := gs_4 61 (by decide +kernel) (by decide +kernel)
set_option maxRecDepth 100000 in
theorem kS11_lean : Cond.selects RX11 yX11_lean yX11_lean ∈ lw_gd := gs_4 62 (by decide +kernel) (by decide +kernel)
set_option maxRecDepth 100000 in
theorem kC11_firstSink : Cond.code yX11_firstSink cX11_firstSink 3 (some .int) ∈ lw_gd := gs_4 30 (by decide +kernel) (by decide +kernel)
set_option maxRecDepth 100000 in
theorem kI11_firstSink : Cond.instanceMethod yX11_firstSink ∈ lw_gd := gs_4 29 (by decide +kernel) (by decide +kernel)
set_option maxRecDepth 100000 in
theorem kS11_firstSink : Cond.selects RX11 yX11_firstSink yX11_firstSink ∈ lw_gd := gd_at 8 (by decide +kernel) (by decide +kernel)
set_option maxRecDepth 100000 in
theorem kC11_surveyHouse : Cond.code yX11_surveyHouse cX11_surveyHouse 5 none ∈ lw_gd := gs_4 43 (by decide +kernel) (by decide +kernel)
set_option maxRecDepth 100000 in
theorem kI11_surveyHouse : Cond.instanceMethod yX11_surveyHouse ∈ lw_gd := gs_4 42 (by decide +kernel) (by decide +kernel)
set_option maxRecDepth 100000 in
theorem kS11_surveyHouse : Cond.selects RX11 yX11_surveyHouse yX11_surveyHouse ∈ lw_gd := gd_at 10 (by decide +kernel) (by decide +kernel)
set_option maxRecDepth 100000 in
theorem kC11_tank : Cond.code yX11_tank cX11_tank 5 (some .int) ∈ lw_gd := gs_4 70 (by decide +kernel) (by decide +kernel)
set_option maxRecDepth 100000 in
theorem kI11_tank : Cond.instanceMethod yX11_tank ∈ lw_gd := gs_4 68 (by decide +kernel) (by decide +kernel)
set_option maxRecDepth 100000 in
theorem kS11_tank : Cond.selects RX11 yX11_tank yX11_tank ∈ lw_gd := gs_4 69 (by decide +kernel) (by decide +kernel)
set_option maxRecDepth 100000 in
theorem kC11_floats : Cond.code yX11_floats cX11_floats 3 (some .int) ∈ lw_gd := gs_4 78 (by decide +kernel) (by decide +kernel)
set_option maxRecDepth 100000 in
theorem kI11_floats : Cond.instanceMethod yX11_floats ∈ lw_gd := gs_4 76 (by decide +kernel) (by decide +kernel)
set_option maxRecDepth 100000 in
theorem kS11_floats : Cond.selects RX11 yX11_floats yX11_floats ∈ lw_gd := gs_4 77 (by decide +kernel) (by decide +kernel)
set_option maxRecDepth 100000 in
theorem kC11_margin : Cond.code yX11_margin cX11_margin 7 (some .long) ∈ lw_gd := gs_4 90 (by decide +kernel) (by decide +kernel)
set_option maxRecDepth 100000 in
theorem kI11_margin : Cond.instanceMethod yX11_margin ∈ lw_gd := gs_4 88 (by decide +kernel) (by decide +kernel)
set_option maxRecDepth 100000 in
theorem kS11_margin : Cond.selects RX11 yX11_margin yX11_margin ∈ lw_gd := gs_4 89 (by decide +kernel) (by decide +kernel)
set_option maxRecDepth 100000 in
theorem kC11_least : Cond.code yX11_least cX11_least 3 (some .long) ∈ lw_gd := gs_4 126 (by decide +kernel) (by decide +kernel)
set_option maxRecDepth 100000 in
theorem kI11_least : Cond.instanceMethod yX11_least ∈ lw_gd := gs_4 124 (by decide +kernel) (by decide +kernel)
set_option maxRecDepth 100000 in
theorem kS11_least : Cond.selects RX11 yX11_least yX11_least ∈ lw_gd := gs_4 125 (by decide +kernel) (by decide +kernel)
set_option maxRecDepth 100000 in
theorem kC11_work : Cond.code yX11_work cX11_work 5 (some .int) ∈ lw_gd := gs_4 141 (by decide +kernel) (by decide +kernel)
set_option maxRecDepth 100000 in
theorem kI11_work : Cond.instanceMethod yX11_work ∈ lw_gd := gs_4 139 (by decide +kernel) (by decide +kernel)
set_option maxRecDepth 100000 in
theorem kS11_work : Cond.selects RX11 yX11_work yX11_work ∈ lw_gd := gs_4 140 (by decide +kernel) (by decide +kernel)
set_option maxRecDepth 100000 in
theorem kC11_stands : Cond.code yX11_stands cX11_stands 2 (some .int) ∈ lw_gd := gs_4 149 (by decide +kernel) (by decide +kernel)
set_option maxRecDepth 100000 in
theorem kI11_stands : Cond.instanceMethod yX11_stands ∈ lw_gd := gs_4 147 (by decide +kernel) (by decide +kernel)
set_option maxRecDepth 100000 in
theorem kS11_stands : Cond.selects RX11 yX11_stands yX11_stands ∈ lw_gd := gs_4 148 (by decide +kernel) (by decide +kernel)
set_option maxRecDepth 100000 in
theorem kC11_plan : Cond.code yX11_plan cX11_plan 6 (some .int) ∈ lw_gd := gs_4 189 (by decide +kernel) (by decide +kernel)
set_option maxRecDepth 100000 in
theorem kI11_plan : Cond.instanceMethod yX11_plan ∈ lw_gd := gs_4 187 (by decide +kernel) (by decide +kernel)
set_option maxRecDepth 100000 in
theorem kS11_plan : Cond.selects RX11 yX11_plan yX11_plan ∈ lw_gd := gs_4 188 (by decide +kernel) (by decide +kernel)
set_option maxRecDepth 100000 in
theorem kC11_loss : Cond.code yX11_loss cX11_loss 7 (some .long) ∈ lw_gd := gs_4 197 (by decide +kernel) (by decide +kernel)
set_option maxRecDepth 100000 in
theorem kI11_loss : Cond.instanceMethod yX11_loss ∈ lw_gd := gs_4 195 (by decide +kernel) (by decide +kernel)
set_option maxRecDepth 100000 in
theorem kS11_loss : Cond.selects RX11 yX11_loss yX11_loss ∈ lw_gd := gs_4 196 (by decide +kernel) (by decide +kernel)
set_option maxRecDepth 100000 in
theorem kC11_housesQuarrel : Cond.code yX11_housesQuarrel cX11_housesQuarrel 2 (some .boolean) ∈ lw_gd := gs_4 153 (by decide +kernel) (by decide +kernel)
set_option maxRecDepth 100000 in
theorem kI11_housesQuarrel : Cond.instanceMethod yX11_housesQuarrel ∈ lw_gd := gs_4 152 (by decide +kernel) (by decide +kernel)
set_option maxRecDepth 100000 in
theorem kS11_housesQuarrel : Cond.selects RX11 yX11_housesQuarrel yX11_housesQuarrel ∈ lw_gd := gd_at 12 (by decide +kernel) (by decide +kernel)
set_option maxRecDepth 100000 in
theorem kC11_allStand : Cond.code yX11_allStand cX11_allStand 3 (some .boolean) ∈ lw_gd := gs_4 166 (by decide +kernel) (by decide +kernel)
set_option maxRecDepth 100000 in
theorem kI11_allStand : Cond.instanceMethod yX11_allStand ∈ lw_gd := gs_4 165 (by decide +kernel) (by decide +kernel)
set_option maxRecDepth 100000 in
theorem kS11_allStand : Cond.selects RX11 yX11_allStand yX11_allStand ∈ lw_gd := gd_at 13 (by decide +kernel) (by decide +kernel)
set_option maxRecDepth 100000 in
theorem kC11_columnStands : Cond.code yX11_columnStands cX11_columnStands 4 (some .boolean) ∈ lw_gd := gs_4 174 (by decide +kernel) (by decide +kernel)
set_option maxRecDepth 100000 in
theorem kI11_columnStands : Cond.instanceMethod yX11_columnStands ∈ lw_gd := gs_4 173 (by decide +kernel) (by decide +kernel)
set_option maxRecDepth 100000 in
theorem kS11_columnStands : Cond.selects RX11 yX11_columnStands yX11_columnStands ∈ lw_gd := gd_at 14 (by decide +kernel) (by decide +kernel)
set_option maxRecDepth 100000 in
theorem kC11_columnHolds : Cond.code yX11_columnHolds cX11_columnHolds 6 (some .boolean) ∈ lw_gd := gs_4 178 (by decide +kernel) (by decide +kernel)
set_option maxRecDepth 100000 in
theorem kI11_columnHolds : Cond.instanceMethod yX11_columnHolds ∈ lw_gd := gs_4 177 (by decide +kernel) (by decide +kernel)
set_option maxRecDepth 100000 in
theorem kS11_columnHolds : Cond.selects RX11 yX11_columnHolds yX11_columnHolds ∈ lw_gd := gd_at 15 (by decide +kernel) (by decide +kernel)
set_option maxRecDepth 100000 in
theorem kC11_feed : Cond.code yX11_feed cX11_feed 4 (some .int) ∈ lw_gd := gs_4 201 (by decide +kernel) (by decide +kernel)
set_option maxRecDepth 100000 in
theorem kI11_feed : Cond.instanceMethod yX11_feed ∈ lw_gd := gs_4 199 (by decide +kernel) (by decide +kernel)
set_option maxRecDepth 100000 in
theorem kS11_feed : Cond.selects RX11 yX11_feed yX11_feed ∈ lw_gd := gs_4 200 (by decide +kernel) (by decide +kernel)
set_option maxRecDepth 100000 in
theorem kC11_read : Cond.code yX11_read cX11_read 2 (some .int) ∈ lw_gd := gs_4 210 (by decide +kernel) (by decide +kernel)
set_option maxRecDepth 100000 in
theorem kI11_read : Cond.instanceMethod yX11_read ∈ lw_gd := gs_4 208 (by decide +kernel) (by decide +kernel)
set_option maxRecDepth 100000 in
theorem kS11_read : Cond.selects RX11 yX11_read yX11_read ∈ lw_gd := gs_4 209 (by decide +kernel) (by decide +kernel)
set_option maxRecDepth 100000 in
theorem kC11_fault : Cond.code yX11_fault cX11_fault 1 (some .int) ∈ lw_gd := gs_5 96 (by decide +kernel) (by decide +kernel)
set_option maxRecDepth 100000 in
theorem kI11_fault : Cond.instanceMethod yX11_fault ∈ lw_gd := gs_5 94 (by decide +kernel) (by decide +kernel)
set_option maxRecDepth 100000 in
theorem kS11_fault : Cond.selects RX11 yX11_fault yX11_fault ∈ lw_gd := gs_5 95 (by decide +kernel) (by decide +kernel)
set_option maxRecDepth 100000 in
theorem kC11_rule : Cond.code yX11_rule cX11_rule 2 (some .int) ∈ lw_gd := gs_5 100 (by decide +kernel) (by decide +kernel)
set_option maxRecDepth 100000 in
theorem kI11_rule : Cond.instanceMethod yX11_rule ∈ lw_gd := gs_5 98 (by decide +kernel) (by decide +kernel)
set_option maxRecDepth 100000 in
theorem kS11_rule : Cond.selects RX11 yX11_rule yX11_rule ∈ lw_gd := gs_5 99 (by decide +kernel) (by decide +kernel)
set_option maxRecDepth 100000 in
theorem kC11_beyond : Cond.code yX11_beyond cX11_beyond 3 (some .boolean) ∈ lw_gd := gs_2 217 (by decide +kernel) (by decide +kernel)
set_option maxRecDepth 100000 in
theorem kT11_beyond : Cond.static yX11_beyond ∈ lw_gd := gs_2 216 (by decide +kernel) (by decide +kernel)
set_option maxRecDepth 100000 in
theorem kC11_sumOf : Cond.code yX11_sumOf cX11_sumOf 6 (some .int) ∈ lw_gd := gs_3 58 (by decide +kernel) (by decide +kernel)
set_option maxRecDepth 100000 in
theorem kT11_sumOf : Cond.static yX11_sumOf ∈ lw_gd := gs_3 57 (by decide +kernel) (by decide +kernel)
set_option maxRecDepth 100000 in
theorem kC11_leastTerms : Cond.code yX11_leastTerms cX11_leastTerms 12 (some .long) ∈ lw_gd := gs_3 213 (by decide +kernel) (by decide +kernel)
set_option maxRecDepth 100000 in
theorem kT11_leastTerms : Cond.static yX11_leastTerms ∈ lw_gd := gs_3 212 (by decide +kernel) (by decide +kernel)
set_option maxRecDepth 100000 in
theorem kC12_init : Cond.code yX12_init cX12_init 2 none ∈ lw_gd := gs_5 105 (by decide +kernel) (by decide +kernel)
set_option maxRecDepth 100000 in
theorem kI12_init : Cond.instanceMethod yX12_init ∈ lw_gd := gs_5 104 (by decide +kernel) (by decide +kernel)
set_option maxRecDepth 100000 in
theorem kC12_first : Cond.code yX12_first cX12_first 2 none ∈ lw_gd := gs_5 110 (by decide +kernel) (by decide +kernel)
set_option maxRecDepth 100000 in
theorem kI12_first : Cond.instanceMethod yX12_first ∈ lw_gd := gs_5 109 (by decide +kernel) (by decide +kernel)
set_option maxRecDepth 100000 in
theorem kS12_first : Cond.selects RX12 yX12_first yX12_first ∈ lw_gd := gd_at 24 (by decide +kernel) (by decide +kernel)
set_option maxRecDepth 100000 in
theorem kC12_keep : Cond.code yX12_keep cX12_keep 2 none ∈ lw_gd := gs_5 114 (by decide +kernel) (by decide +kernel)
set_option maxRecDepth 100000 in
theorem kI12_keep : Cond.instanceMethod yX12_keep ∈ lw_gd := gs_5 113 (by decide +kernel) (by decide +kernel)
set_option maxRecDepth 100000 in
theorem kS12_keep : Cond.selects RX12 yX12_keep yX12_keep ∈ lw_gd := gd_at 25 (by decide +kernel) (by decide +kernel)
set_option maxRecDepth 100000 in
theorem kC12_change : Cond.code yX12_change cX12_change 2 none ∈ lw_gd := gs_5 118 (by decide +kernel) (by decide +kernel)
set_option maxRecDepth 100000 in
theorem kI12_change : Cond.instanceMethod yX12_change ∈ lw_gd := gs_5 117 (by decide +kernel) (by decide +kernel)
set_option maxRecDepth 100000 in
theorem kS12_change : Cond.selects RX12 yX12_change yX12_change ∈ lw_gd := gd_at 26 (by decide +kernel) (by decide +kernel)
set_option maxRecDepth 100000 in
theorem kC12_in : Cond.code yX12_in cX12_in 6 (some .boolean) ∈ lw_gd := gs_6 90 (by decide +kernel) (by decide +kernel)
set_option maxRecDepth 100000 in
theorem kT12_in : Cond.static yX12_in ∈ lw_gd := gs_6 89 (by decide +kernel) (by decide +kernel)
set_option maxRecDepth 100000 in
theorem kC12_gcd : Cond.code yX12_gcd cX12_gcd 10 (some .long) ∈ lw_gd := gs_7 10 (by decide +kernel) (by decide +kernel)
set_option maxRecDepth 100000 in
theorem kT12_gcd : Cond.static yX12_gcd ∈ lw_gd := gs_7 9 (by decide +kernel) (by decide +kernel)
set_option maxRecDepth 100000 in
theorem kC12_isColumn : Cond.code yX12_isColumn cX12_isColumn 1 (some .boolean) ∈ lw_gd := gs_6 86 (by decide +kernel) (by decide +kernel)
set_option maxRecDepth 100000 in
theorem kT12_isColumn : Cond.static yX12_isColumn ∈ lw_gd := gs_6 85 (by decide +kernel) (by decide +kernel)
set_option maxRecDepth 100000 in
theorem kC12_isLayer : Cond.code yX12_isLayer cX12_isLayer 3 (some .boolean) ∈ lw_gd := gs_6 107 (by decide +kernel) (by decide +kernel)
set_option maxRecDepth 100000 in
theorem kI12_isLayer : Cond.instanceMethod yX12_isLayer ∈ lw_gd := gs_6 106 (by decide +kernel) (by decide +kernel)
set_option maxRecDepth 100000 in
theorem kS12_isLayer : Cond.selects RX12 yX12_isLayer yX12_isLayer ∈ lw_gd := gd_at 27 (by decide +kernel) (by decide +kernel)
set_option maxRecDepth 100000 in
theorem kC12_isShake : Cond.code yX12_isShake cX12_isShake 2 (some .boolean) ∈ lw_gd := gs_6 141 (by decide +kernel) (by decide +kernel)
set_option maxRecDepth 100000 in
theorem kI12_isShake : Cond.instanceMethod yX12_isShake ∈ lw_gd := gs_6 140 (by decide +kernel) (by decide +kernel)
set_option maxRecDepth 100000 in
theorem kS12_isShake : Cond.selects RX12 yX12_isShake yX12_isShake ∈ lw_gd := gd_at 32 (by decide +kernel) (by decide +kernel)
set_option maxRecDepth 100000 in
theorem kC12_column : Cond.code yX12_column cX12_column 5 (some .int) ∈ lw_gd := gs_6 83 (by decide +kernel) (by decide +kernel)
set_option maxRecDepth 100000 in
theorem kI12_column : Cond.instanceMethod yX12_column ∈ lw_gd := gs_6 81 (by decide +kernel) (by decide +kernel)
set_option maxRecDepth 100000 in
theorem kS12_column : Cond.selects RX12 yX12_column yX12_column ∈ lw_gd := gs_6 82 (by decide +kernel) (by decide +kernel)
set_option maxRecDepth 100000 in
theorem kC12_layer : Cond.code yX12_layer cX12_layer 6 (some .int) ∈ lw_gd := gs_6 96 (by decide +kernel) (by decide +kernel)
set_option maxRecDepth 100000 in
theorem kI12_layer : Cond.instanceMethod yX12_layer ∈ lw_gd := gs_6 94 (by decide +kernel) (by decide +kernel)
set_option maxRecDepth 100000 in
theorem kS12_layer : Cond.selects RX12 yX12_layer yX12_layer ∈ lw_gd := gs_6 95 (by decide +kernel) (by decide +kernel)
set_option maxRecDepth 100000 in
theorem kC12_loose : Cond.code yX12_loose cX12_loose 7 (some .int) ∈ lw_gd := gs_6 103 (by decide +kernel) (by decide +kernel)
set_option maxRecDepth 100000 in
theorem kI12_loose : Cond.instanceMethod yX12_loose ∈ lw_gd := gs_6 101 (by decide +kernel) (by decide +kernel)
set_option maxRecDepth 100000 in
theorem kS12_loose : Cond.selects RX12 yX12_loose yX12_loose ∈ lw_gd := gs_6 102 (by decide +kernel) (by decide +kernel)
set_option maxRecDepth 100000 in
theorem kC12_depth : Cond.code yX12_depth cX12_depth 5 (some .int) ∈ lw_gd := gs_6 116 (by decide +kernel) (by decide +kernel)
set_option maxRecDepth 100000 in
theorem kI12_depth : Cond.instanceMethod yX12_depth ∈ lw_gd := gs_6 115 (by decide +kernel) (by decide +kernel)
set_option maxRecDepth 100000 in
theorem kS12_depth : Cond.selects RX12 yX12_depth yX12_depth ∈ lw_gd := gd_at 28 (by decide +kernel) (by decide +kernel)
set_option maxRecDepth 100000 in
theorem kC12_isWet : Cond.code yX12_isWet cX12_isWet 3 (some .boolean) ∈ lw_gd := gs_6 120 (by decide +kernel) (by decide +kernel)
set_option maxRecDepth 100000 in
theorem kI12_isWet : Cond.instanceMethod yX12_isWet ∈ lw_gd := gs_6 119 (by decide +kernel) (by decide +kernel)
set_option maxRecDepth 100000 in
theorem kS12_isWet : Cond.selects RX12 yX12_isWet yX12_isWet ∈ lw_gd := gd_at 29 (by decide +kernel) (by decide +kernel)
set_option maxRecDepth 100000 in
theorem kC12_heavy : Cond.code yX12_heavy cX12_heavy 3 (some .int) ∈ lw_gd := gs_6 128 (by decide +kernel) (by decide +kernel)
set_option maxRecDepth 100000 in
theorem kI12_heavy : Cond.instanceMethod yX12_heavy ∈ lw_gd := gs_6 127 (by decide +kernel) (by decide +kernel)
set_option maxRecDepth 100000 in
theorem kS12_heavy : Cond.selects RX12 yX12_heavy yX12_heavy ∈ lw_gd := gd_at 31 (by decide +kernel) (by decide +kernel)
set_option maxRecDepth 100000 in
theorem kC12_hold : Cond.code yX12_hold cX12_hold 5 (some .int) ∈ lw_gd := gs_6 124 (by decide +kernel) (by decide +kernel)
set_option maxRecDepth 100000 in
theorem kI12_hold : Cond.instanceMethod yX12_hold ∈ lw_gd := gs_6 123 (by decide +kernel) (by decide +kernel)
set_option maxRecDepth 100000 in
theorem kS12_hold : Cond.selects RX12 yX12_hold yX12_hold ∈ lw_gd := gd_at 30 (by decide +kernel) (by decide +kernel)
set_option maxRecDepth 100000 in
theorem kC12_about : Cond.code yX12_about cX12_about 4 (some .int) ∈ lw_gd := gs_6 112 (by decide +kernel) (by decide +kernel)
set_option maxRecDepth 100000 in
theorem kI12_about : Cond.instanceMethod yX12_about ∈ lw_gd := gs_6 110 (by decide +kernel) (by decide +kernel)
set_option maxRecDepth 100000 in
theorem kS12_about : Cond.selects RX12 yX12_about yX12_about ∈ lw_gd := gs_6 111 (by decide +kernel) (by decide +kernel)
set_option maxRecDepth 100000 in
theorem kC12_shake : Cond.code yX12_shake cX12_shake 2 (some .int) ∈ lw_gd := gs_6 132 (by decide +kernel) (by decide +kernel)
set_option maxRecDepth 100000 in
theorem kI12_shake : Cond.instanceMethod yX12_shake ∈ lw_gd := gs_6 130 (by decide +kernel) (by decide +kernel)
set_option maxRecDepth 100000 in
theorem kS12_shake : Cond.selects RX12 yX12_shake yX12_shake ∈ lw_gd := gs_6 131 (by decide +kernel) (by decide +kernel)
set_option maxRecDepth 100000 in
theorem kC12_beat : Cond.code yX12_beat cX12_beat 3 (some .int) ∈ lw_gd := gs_6 137 (by decide +kernel) (by decide +kernel)
set_option maxRecDepth 100000 in
theorem kI12_beat : Cond.instanceMethod yX12_beat ∈ lw_gd := gs_6 135 (by decide +kernel) (by decide +kernel)
set_option maxRecDepth 100000 in
theorem kS12_beat : Cond.selects RX12 yX12_beat yX12_beat ∈ lw_gd := gs_6 136 (by decide +kernel) (by decide +kernel)
set_option maxRecDepth 100000 in
theorem kC12_count : Cond.code yX12_count cX12_count 6 (some .int) ∈ lw_gd := gs_6 145 (by decide +kernel) (by decide +kernel)
set_option maxRecDepth 100000 in
theorem kI12_count : Cond.instanceMethod yX12_count ∈ lw_gd := gs_6 143 (by decide +kernel) (by decide +kernel)
set_option maxRecDepth 100000 in
theorem kS12_count : Cond.selects RX12 yX12_count yX12_count ∈ lw_gd := gs_6 144 (by decide +kernel) (by decide +kernel)
set_option maxRecDepth 100000 in
theorem kC12_manyChoices : Cond.code yX12_manyChoices cX12_manyChoices 4 (some .int) ∈ lw_gd := gs_6 190 (by decide +kernel) (by decide +kernel)
set_option maxRecDepth 100000 in
theorem kI12_manyChoices : Cond.instanceMethod yX12_manyChoices ∈ lw_gd := gs_6 189 (by decide +kernel) (by decide +kernel)
set_option maxRecDepth 100000 in
theorem kS12_manyChoices : Cond.selects RX12 yX12_manyChoices yX12_manyChoices ∈ lw_gd := gd_at 39 (by decide +kernel) (by decide +kernel)
set_option maxRecDepth 100000 in
theorem kC12_choose : Cond.code yX12_choose cX12_choose 6 none ∈ lw_gd := gs_6 157 (by decide +kernel) (by decide +kernel)
set_option maxRecDepth 100000 in
theorem kI12_choose : Cond.instanceMethod yX12_choose ∈ lw_gd := gs_6 156 (by decide +kernel) (by decide +kernel)
set_option maxRecDepth 100000 in
theorem kS12_choose : Cond.selects RX12 yX12_choose yX12_choose ∈ lw_gd := gd_at 34 (by decide +kernel) (by decide +kernel)
set_option maxRecDepth 100000 in
theorem kC12_grow : Cond.code yX12_grow cX12_grow 4 none ∈ lw_gd := gs_6 165 (by decide +kernel) (by decide +kernel)
set_option maxRecDepth 100000 in
theorem kI12_grow : Cond.instanceMethod yX12_grow ∈ lw_gd := gs_6 164 (by decide +kernel) (by decide +kernel)
set_option maxRecDepth 100000 in
theorem kS12_grow : Cond.selects RX12 yX12_grow yX12_grow ∈ lw_gd := gd_at 36 (by decide +kernel) (by decide +kernel)
set_option maxRecDepth 100000 in
theorem kC12_drain : Cond.code yX12_drain cX12_drain 6 none ∈ lw_gd := gs_6 169 (by decide +kernel) (by decide +kernel)
set_option maxRecDepth 100000 in
theorem kI12_drain : Cond.instanceMethod yX12_drain ∈ lw_gd := gs_6 168 (by decide +kernel) (by decide +kernel)
set_option maxRecDepth 100000 in
theorem kS12_drain : Cond.selects RX12 yX12_drain yX12_drain ∈ lw_gd := gd_at 37 (by decide +kernel) (by decide +kernel)
set_option maxRecDepth 100000 in
theorem kC12_runOf : Cond.code yX12_runOf cX12_runOf 9 none ∈ lw_gd := gs_6 161 (by decide +kernel) (by decide +kernel)
set_option maxRecDepth 100000 in
theorem kI12_runOf : Cond.instanceMethod yX12_runOf ∈ lw_gd := gs_6 160 (by decide +kernel) (by decide +kernel)
set_option maxRecDepth 100000 in
theorem kS12_runOf : Cond.selects RX12 yX12_runOf yX12_runOf ∈ lw_gd := gd_at 35 (by decide +kernel) (by decide +kernel)
set_option maxRecDepth 100000 in
theorem kC12_plain : Cond.code yX12_plain cX12_plain 1 none ∈ lw_gd := gs_6 153 (by decide +kernel) (by decide +kernel)
set_option maxRecDepth 100000 in
theorem kI12_plain : Cond.instanceMethod yX12_plain ∈ lw_gd := gs_6 152 (by decide +kernel) (by decide +kernel)
set_option maxRecDepth 100000 in
theorem kS12_plain : Cond.selects RX12 yX12_plain yX12_plain ∈ lw_gd := gd_at 33 (by decide +kernel) (by decide +kernel)
set_option maxRecDepth 100000 in
theorem kC12_run : Cond.code yX12_run cX12_run 5 (some .int) ∈ lw_gd := gs_6 149 (by decide +kernel) (by decide +kernel)
set_option maxRecDepth 100000 in
theorem kI12_run : Cond.instanceMethod yX12_run ∈ lw_gd := gs_6 147 (by decide +kernel) (by decide +kernel)
set_option maxRecDepth 100000 in
theorem kS12_run : Cond.selects RX12 yX12_run yX12_run ∈ lw_gd := gs_6 148 (by decide +kernel) (by decide +kernel)
set_option maxRecDepth 100000 in
theorem kC12_isWord : Cond.code yX12_isWord cX12_isWord 2 (some .boolean) ∈ lw_gd := gs_6 182 (by decide +kernel) (by decide +kernel)
set_option maxRecDepth 100000 in
theorem kI12_isWord : Cond.instanceMethod yX12_isWord ∈ lw_gd := gs_6 181 (by decide +kernel) (by decide +kernel)
set_option maxRecDepth 100000 in
theorem kS12_isWord : Cond.selects RX12 yX12_isWord yX12_isWord ∈ lw_gd := gd_at 38 (by decide +kernel) (by decide +kernel)
set_option maxRecDepth 100000 in
theorem kC12_word : Cond.code yX12_word cX12_word 6 (some .int) ∈ lw_gd := gs_6 173 (by decide +kernel) (by decide +kernel)
set_option maxRecDepth 100000 in
theorem kI12_word : Cond.instanceMethod yX12_word ∈ lw_gd := gs_6 171 (by decide +kernel) (by decide +kernel)
set_option maxRecDepth 100000 in
theorem kS12_word : Cond.selects RX12 yX12_word yX12_word ∈ lw_gd := gs_6 172 (by decide +kernel) (by decide +kernel)
set_option maxRecDepth 100000 in
theorem kC12_strike : Cond.code yX12_strike cX12_strike 4 (some .int) ∈ lw_gd := gs_6 178 (by decide +kernel) (by decide +kernel)
set_option maxRecDepth 100000 in
theorem kI12_strike : Cond.instanceMethod yX12_strike ∈ lw_gd := gs_6 176 (by decide +kernel) (by decide +kernel)
set_option maxRecDepth 100000 in
theorem kS12_strike : Cond.selects RX12 yX12_strike yX12_strike ∈ lw_gd := gs_6 177 (by decide +kernel) (by decide +kernel)
set_option maxRecDepth 100000 in
theorem kC12_letsGo : Cond.code yX12_letsGo cX12_letsGo 4 (some .boolean) ∈ lw_gd := gs_6 202 (by decide +kernel) (by decide +kernel)
set_option maxRecDepth 100000 in
theorem kI12_letsGo : Cond.instanceMethod yX12_letsGo ∈ lw_gd := gs_6 201 (by decide +kernel) (by decide +kernel)
set_option maxRecDepth 100000 in
theorem kS12_letsGo : Cond.selects RX12 yX12_letsGo yX12_letsGo ∈ lw_gd := gd_at 42 (by decide +kernel) (by decide +kernel)
set_option maxRecDepth 100000 in
theorem kC12_forget : Cond.code yX12_forget cX12_forget 2 none ∈ lw_gd := gs_6 194 (by decide +kernel) (by decide +kernel)
set_option maxRecDepth 100000 in
theorem kI12_forget : Cond.instanceMethod yX12_forget ∈ lw_gd := gs_6 193 (by decide +kernel) (by decide +kernel)
set_option maxRecDepth 100000 in
theorem kS12_forget : Cond.selects RX12 yX12_forget yX12_forget ∈ lw_gd := gd_at 40 (by decide +kernel) (by decide +kernel)
set_option maxRecDepth 100000 in
theorem kC12_barsChoice : Cond.code yX12_barsChoice cX12_barsChoice 4 (some .boolean) ∈ lw_gd := gs_6 198 (by decide +kernel) (by decide +kernel)
set_option maxRecDepth 100000 in
theorem kI12_barsChoice : Cond.instanceMethod yX12_barsChoice ∈ lw_gd := gs_6 197 (by decide +kernel) (by decide +kernel)
set_option maxRecDepth 100000 in
theorem kS12_barsChoice : Cond.selects RX12 yX12_barsChoice yX12_barsChoice ∈ lw_gd := gd_at 41 (by decide +kernel) (by decide +kernel)
set_option maxRecDepth 100000 in
theorem kC12_barring : Cond.code yX12_barring cX12_barring 4 (some .int) ∈ lw_gd := gs_6 210 (by decide +kernel) (by decide +kernel)
set_option maxRecDepth 100000 in
theorem kI12_barring : Cond.instanceMethod yX12_barring ∈ lw_gd := gs_6 209 (by decide +kernel) (by decide +kernel)
set_option maxRecDepth 100000 in
theorem kS12_barring : Cond.selects RX12 yX12_barring yX12_barring ∈ lw_gd := gd_at 43 (by decide +kernel) (by decide +kernel)
set_option maxRecDepth 100000 in
theorem kC12_bars : Cond.code yX12_bars cX12_bars 5 (some .int) ∈ lw_gd := gs_6 186 (by decide +kernel) (by decide +kernel)
set_option maxRecDepth 100000 in
theorem kI12_bars : Cond.instanceMethod yX12_bars ∈ lw_gd := gs_6 184 (by decide +kernel) (by decide +kernel)
set_option maxRecDepth 100000 in
theorem kS12_bars : Cond.selects RX12 yX12_bars yX12_bars ∈ lw_gd := gs_6 185 (by decide +kernel) (by decide +kernel)
set_option maxRecDepth 100000 in
theorem kC12_bits : Cond.code yX12_bits cX12_bits 3 (some .int) ∈ lw_gd := gs_6 213 (by decide +kernel) (by decide +kernel)
set_option maxRecDepth 100000 in
theorem kT12_bits : Cond.static yX12_bits ∈ lw_gd := gs_6 212 (by decide +kernel) (by decide +kernel)
set_option maxRecDepth 100000 in
theorem kC12_toStrike : Cond.code yX12_toStrike cX12_toStrike 6 (some .int) ∈ lw_gd := gs_6 206 (by decide +kernel) (by decide +kernel)
set_option maxRecDepth 100000 in
theorem kI12_toStrike : Cond.instanceMethod yX12_toStrike ∈ lw_gd := gs_6 204 (by decide +kernel) (by decide +kernel)
set_option maxRecDepth 100000 in
theorem kS12_toStrike : Cond.selects RX12 yX12_toStrike yX12_toStrike ∈ lw_gd := gs_6 205 (by decide +kernel) (by decide +kernel)
set_option maxRecDepth 100000 in
theorem kC12_findKept : Cond.code yX12_findKept cX12_findKept 4 (some .int) ∈ lw_gd := gs_6 221 (by decide +kernel) (by decide +kernel)
set_option maxRecDepth 100000 in
theorem kI12_findKept : Cond.instanceMethod yX12_findKept ∈ lw_gd := gs_6 220 (by decide +kernel) (by decide +kernel)
set_option maxRecDepth 100000 in
theorem kS12_findKept : Cond.selects RX12 yX12_findKept yX12_findKept ∈ lw_gd := gd_at 44 (by decide +kernel) (by decide +kernel)
set_option maxRecDepth 100000 in
theorem kC12_choices : Cond.code yX12_choices cX12_choices 9 (some .int) ∈ lw_gd := gs_6 217 (by decide +kernel) (by decide +kernel)
set_option maxRecDepth 100000 in
theorem kI12_choices : Cond.instanceMethod yX12_choices ∈ lw_gd := gs_6 215 (by decide +kernel) (by decide +kernel)
set_option maxRecDepth 100000 in
theorem kS12_choices : Cond.selects RX12 yX12_choices yX12_choices ∈ lw_gd := gs_6 216 (by decide +kernel) (by decide +kernel)
set_option maxRecDepth 100000 in
theorem kC12_begin : Cond.code yX12_begin cX12_begin 1 none ∈ lw_gd := gs_6 235 (by decide +kernel) (by decide +kernel)
set_option maxRecDepth 100000 in
theorem kI12_begin : Cond.instanceMethod yX12_begin ∈ lw_gd := gs_6 234 (by decide +kernel) (by decide +kernel)
set_option maxRecDepth 100000 in
theorem kS12_begin : Cond.selects RX12 yX12_begin yX12_begin ∈ lw_gd := gd_at 46 (by decide +kernel) (by decide +kernel)
set_option maxRecDepth 100000 in
theorem kC12_tell : Cond.code yX12_tell cX12_tell 2 none ∈ lw_gd := gs_6 239 (by decide +kernel) (by decide +kernel)
set_option maxRecDepth 100000 in
theorem kI12_tell : Cond.instanceMethod yX12_tell ∈ lw_gd := gs_6 238 (by decide +kernel) (by decide +kernel)
set_option maxRecDepth 100000 in
theorem kS12_tell : Cond.selects RX12 yX12_tell yX12_tell ∈ lw_gd := gd_at 47 (by decide +kernel) (by decide +kernel)
set_option maxRecDepth 100000 in
theorem kC12_note : Cond.code yX12_note cX12_note 2 none ∈ lw_gd := gs_7 3 (by decide +kernel) (by decide +kernel)
set_option maxRecDepth 100000 in
theorem kI12_note : Cond.instanceMethod yX12_note ∈ lw_gd := gs_7 2 (by decide +kernel) (by decide +kernel)
set_option maxRecDepth 100000 in
theorem kS12_note : Cond.selects RX12 yX12_note yX12_note ∈ lw_gd := gd_at 48 (by decide +kernel) (by decide +kernel)
set_option maxRecDepth 100000 in
theorem kC12_share : Cond.code yX12_share cX12_share 4 (some .long) ∈ lw_gd := gs_7 7 (by decide +kernel) (by decide +kernel)
set_option maxRecDepth 100000 in
theorem kI12_share : Cond.instanceMethod yX12_share ∈ lw_gd := gs_7 6 (by decide +kernel) (by decide +kernel)
set_option maxRecDepth 100000 in
theorem kS12_share : Cond.selects RX12 yX12_share yX12_share ∈ lw_gd := gd_at 49 (by decide +kernel) (by decide +kernel)
set_option maxRecDepth 100000 in
theorem kC12_goThrough : Cond.code yX12_goThrough cX12_goThrough 5 (some .boolean) ∈ lw_gd := gs_6 231 (by decide +kernel) (by decide +kernel)
set_option maxRecDepth 100000 in
theorem kI12_goThrough : Cond.instanceMethod yX12_goThrough ∈ lw_gd := gs_6 230 (by decide +kernel) (by decide +kernel)
set_option maxRecDepth 100000 in
theorem kS12_goThrough : Cond.selects RX12 yX12_goThrough yX12_goThrough ∈ lw_gd := gd_at 45 (by decide +kernel) (by decide +kernel)
set_option maxRecDepth 100000 in
theorem kC12_odds : Cond.code yX12_odds cX12_odds 5 (some .long) ∈ lw_gd := gs_6 225 (by decide +kernel) (by decide +kernel)
set_option maxRecDepth 100000 in
theorem kI12_odds : Cond.instanceMethod yX12_odds ∈ lw_gd := gs_6 223 (by decide +kernel) (by decide +kernel)
set_option maxRecDepth 100000 in
theorem kS12_odds : Cond.selects RX12 yX12_odds yX12_odds ∈ lw_gd := gs_6 224 (by decide +kernel) (by decide +kernel)
set_option maxRecDepth 100000 in
theorem kC12_step : Cond.code yX12_step cX12_step 5 (some .int) ∈ lw_gd := gs_7 15 (by decide +kernel) (by decide +kernel)
set_option maxRecDepth 100000 in
theorem kI12_step : Cond.instanceMethod yX12_step ∈ lw_gd := gs_7 13 (by decide +kernel) (by decide +kernel)
set_option maxRecDepth 100000 in
theorem kS12_step : Cond.selects RX12 yX12_step yX12_step ∈ lw_gd := gs_7 14 (by decide +kernel) (by decide +kernel)
set_option maxRecDepth 100000 in
theorem kC12_isHouse : Cond.code yX12_isHouse cX12_isHouse 2 (some .boolean) ∈ lw_gd := gs_7 28 (by decide +kernel) (by decide +kernel)
set_option maxRecDepth 100000 in
theorem kI12_isHouse : Cond.instanceMethod yX12_isHouse ∈ lw_gd := gs_7 27 (by decide +kernel) (by decide +kernel)
set_option maxRecDepth 100000 in
theorem kS12_isHouse : Cond.selects RX12 yX12_isHouse yX12_isHouse ∈ lw_gd := gd_at 50 (by decide +kernel) (by decide +kernel)
set_option maxRecDepth 100000 in
theorem kC12_house : Cond.code yX12_house cX12_house 4 (some .int) ∈ lw_gd := gs_7 19 (by decide +kernel) (by decide +kernel)
set_option maxRecDepth 100000 in
theorem kI12_house : Cond.instanceMethod yX12_house ∈ lw_gd := gs_7 17 (by decide +kernel) (by decide +kernel)
set_option maxRecDepth 100000 in
theorem kS12_house : Cond.selects RX12 yX12_house yX12_house ∈ lw_gd := gs_7 18 (by decide +kernel) (by decide +kernel)
set_option maxRecDepth 100000 in
theorem kC12_part : Cond.code yX12_part cX12_part 6 (some .int) ∈ lw_gd := gs_7 40 (by decide +kernel) (by decide +kernel)
set_option maxRecDepth 100000 in
theorem kI12_part : Cond.instanceMethod yX12_part ∈ lw_gd := gs_7 39 (by decide +kernel) (by decide +kernel)
set_option maxRecDepth 100000 in
theorem kS12_part : Cond.selects RX12 yX12_part yX12_part ∈ lw_gd := gd_at 53 (by decide +kernel) (by decide +kernel)
set_option maxRecDepth 100000 in
theorem kC12_sinkOf : Cond.code yX12_sinkOf cX12_sinkOf 4 (some .int) ∈ lw_gd := gs_7 36 (by decide +kernel) (by decide +kernel)
set_option maxRecDepth 100000 in
theorem kI12_sinkOf : Cond.instanceMethod yX12_sinkOf ∈ lw_gd := gs_7 35 (by decide +kernel) (by decide +kernel)
set_option maxRecDepth 100000 in
theorem kS12_sinkOf : Cond.selects RX12 yX12_sinkOf yX12_sinkOf ∈ lw_gd := gd_at 52 (by decide +kernel) (by decide +kernel)
set_option maxRecDepth 100000 in
theorem kC12_firstSink : Cond.code yX12_firstSink cX12_firstSink 3 (some .int) ∈ lw_gd := gs_7 32 (by decide +kernel) (by decide +kernel)
set_option maxRecDepth 100000 in
theorem kI12_firstSink : Cond.instanceMethod yX12_firstSink ∈ lw_gd := gs_7 31 (by decide +kernel) (by decide +kernel)
set_option maxRecDepth 100000 in
theorem kS12_firstSink : Cond.selects RX12 yX12_firstSink yX12_firstSink ∈ lw_gd := gd_at 51 (by decide +kernel) (by decide +kernel)
set_option maxRecDepth 100000 in
theorem kC12_goHouse : Cond.code yX12_goHouse cX12_goHouse 5 (some .boolean) ∈ lw_gd := gs_7 44 (by decide +kernel) (by decide +kernel)
set_option maxRecDepth 100000 in
theorem kI12_goHouse : Cond.instanceMethod yX12_goHouse ∈ lw_gd := gs_7 43 (by decide +kernel) (by decide +kernel)
set_option maxRecDepth 100000 in
theorem kS12_goHouse : Cond.selects RX12 yX12_goHouse yX12_goHouse ∈ lw_gd := gd_at 54 (by decide +kernel) (by decide +kernel)
set_option maxRecDepth 100000 in
theorem kC12_sink : Cond.code yX12_sink cX12_sink 4 (some .int) ∈ lw_gd := gs_7 24 (by decide +kernel) (by decide +kernel)
set_option maxRecDepth 100000 in
theorem kI12_sink : Cond.instanceMethod yX12_sink ∈ lw_gd := gs_7 22 (by decide +kernel) (by decide +kernel)
set_option maxRecDepth 100000 in
theorem kS12_sink : Cond.selects RX12 yX12_sink yX12_sink ∈ lw_gd := gs_7 23 (by decide +kernel) (by decide +kernel)
set_option maxRecDepth 100000 in
theorem kC12_sunk : Cond.code yX12_sunk cX12_sunk 4 (some .long) ∈ lw_gd := gs_7 48 (by decide +kernel) (by decide +kernel)
set_option maxRecDepth 100000 in
theorem kI12_sunk : Cond.instanceMethod yX12_sunk ∈ lw_gd := gs_7 46 (by decide +kernel) (by decide +kernel)
set_option maxRecDepth 100000 in
theorem kS12_sunk : Cond.selects RX12 yX12_sunk yX12_sunk ∈ lw_gd := gs_7 47 (by decide +kernel) (by decide +kernel)
set_option maxRecDepth 100000 in
theorem kC12_led : Cond.code yX12_led cX12_led 6 (some .int) ∈ lw_gd := gs_7 52 (by decide +kernel) (by decide +kernel)
set_option maxRecDepth 100000 in
theorem kI12_led : Cond.instanceMethod yX12_led ∈ lw_gd := gs_7 50 (by decide +kernel) (by decide +kernel)
set_option maxRecDepth 100000 in
theorem kS12_led : Cond.selects RX12 yX12_led yX12_led ∈ lw_gd := gs_7 51 (by decide +kernel) (by decide +kernel)
set_option maxRecDepth 100000 in
theorem kC12_lean : Cond.code yX12_lean cX12_lean 5 (some .int) ∈ lw_gd := gs_7 56 (by decide +kernel) (by decide +kernel)
set_option maxRecDepth 100000 in
theorem kI12_lean : Cond.instanceMethod yX12_lean ∈ lw_gd := gs_7 54 (by decide +kernel) (by decide +kernel)
set_option maxRecDepth 100000 in
theorem kS12_lean : Cond.selects RX12 yX12_lean yX12_lean ∈ lw_gd := gs_7 55 (by decide +kernel) (by decide +kernel)
set_option maxRecDepth 100000 in
theorem kC12_tank : Cond.code yX12_tank cX12_tank 5 (some .int) ∈ lw_gd := gs_7 60 (by decide +kernel) (by decide +kernel)
set_option maxRecDepth 100000 in
theorem kI12_tank : Cond.instanceMethod yX12_tank ∈ lw_gd := gs_7 58 (by decide +kernel) (by decide +kernel)
set_option maxRecDepth 100000 in
theorem kS12_tank : Cond.selects RX12 yX12_tank yX12_tank ∈ lw_gd := gs_7 59 (by decide +kernel) (by decide +kernel)
set_option maxRecDepth 100000 in
theorem kC12_floats : Cond.code yX12_floats cX12_floats 4 (some .int) ∈ lw_gd := gs_7 65 (by decide +kernel) (by decide +kernel)
set_option maxRecDepth 100000 in
theorem kI12_floats : Cond.instanceMethod yX12_floats ∈ lw_gd := gs_7 63 (by decide +kernel) (by decide +kernel)
set_option maxRecDepth 100000 in
theorem kS12_floats : Cond.selects RX12 yX12_floats yX12_floats ∈ lw_gd := gs_7 64 (by decide +kernel) (by decide +kernel)
set_option maxRecDepth 100000 in
theorem kC12_layerAt : Cond.code yX12_layerAt cX12_layerAt 5 (some .int) ∈ lw_gd := gs_7 81 (by decide +kernel) (by decide +kernel)
set_option maxRecDepth 100000 in
theorem kI12_layerAt : Cond.instanceMethod yX12_layerAt ∈ lw_gd := gs_7 80 (by decide +kernel) (by decide +kernel)
set_option maxRecDepth 100000 in
theorem kS12_layerAt : Cond.selects RX12 yX12_layerAt yX12_layerAt ∈ lw_gd := gd_at 57 (by decide +kernel) (by decide +kernel)
set_option maxRecDepth 100000 in
theorem kC12_above : Cond.code yX12_above cX12_above 7 (some .int) ∈ lw_gd := gs_7 85 (by decide +kernel) (by decide +kernel)
set_option maxRecDepth 100000 in
theorem kI12_above : Cond.instanceMethod yX12_above ∈ lw_gd := gs_7 84 (by decide +kernel) (by decide +kernel)
set_option maxRecDepth 100000 in
theorem kS12_above : Cond.selects RX12 yX12_above yX12_above ∈ lw_gd := gd_at 58 (by decide +kernel) (by decide +kernel)
set_option maxRecDepth 100000 in
theorem kC12_middle : Cond.code yX12_middle cX12_middle 3 (some .int) ∈ lw_gd := gs_7 73 (by decide +kernel) (by decide +kernel)
set_option maxRecDepth 100000 in
theorem kI12_middle : Cond.instanceMethod yX12_middle ∈ lw_gd := gs_7 72 (by decide +kernel) (by decide +kernel)
set_option maxRecDepth 100000 in
theorem kS12_middle : Cond.selects RX12 yX12_middle yX12_middle ∈ lw_gd := gd_at 55 (by decide +kernel) (by decide +kernel)
set_option maxRecDepth 100000 in
theorem kC12_findSlip : Cond.code yX12_findSlip cX12_findSlip 10 (some .boolean) ∈ lw_gd := gs_7 77 (by decide +kernel) (by decide +kernel)
set_option maxRecDepth 100000 in
theorem kI12_findSlip : Cond.instanceMethod yX12_findSlip ∈ lw_gd := gs_7 76 (by decide +kernel) (by decide +kernel)
set_option maxRecDepth 100000 in
theorem kS12_findSlip : Cond.selects RX12 yX12_findSlip yX12_findSlip ∈ lw_gd := gd_at 56 (by decide +kernel) (by decide +kernel)
set_option maxRecDepth 100000 in
theorem kC12_margin : Cond.code yX12_margin cX12_margin 9 (some .long) ∈ lw_gd := gs_7 69 (by decide +kernel) (by decide +kernel)
set_option maxRecDepth 100000 in
theorem kI12_margin : Cond.instanceMethod yX12_margin ∈ lw_gd := gs_7 67 (by decide +kernel) (by decide +kernel)
set_option maxRecDepth 100000 in
theorem kS12_margin : Cond.selects RX12 yX12_margin yX12_margin ∈ lw_gd := gs_7 68 (by decide +kernel) (by decide +kernel)
set_option maxRecDepth 100000 in
theorem kC12_least : Cond.code yX12_least cX12_least 14 (some .long) ∈ lw_gd := gs_7 90 (by decide +kernel) (by decide +kernel)
set_option maxRecDepth 100000 in
theorem kI12_least : Cond.instanceMethod yX12_least ∈ lw_gd := gs_7 88 (by decide +kernel) (by decide +kernel)
set_option maxRecDepth 100000 in
theorem kS12_least : Cond.selects RX12 yX12_least yX12_least ∈ lw_gd := gs_7 89 (by decide +kernel) (by decide +kernel)
set_option maxRecDepth 100000 in
theorem kC12_work : Cond.code yX12_work cX12_work 5 (some .int) ∈ lw_gd := gs_7 96 (by decide +kernel) (by decide +kernel)
set_option maxRecDepth 100000 in
theorem kI12_work : Cond.instanceMethod yX12_work ∈ lw_gd := gs_7 94 (by decide +kernel) (by decide +kernel)
set_option maxRecDepth 100000 in
theorem kS12_work : Cond.selects RX12 yX12_work yX12_work ∈ lw_gd := gs_7 95 (by decide +kernel) (by decide +kernel)
set_option maxRecDepth 100000 in
theorem kC12_hasHouse : Cond.code yX12_hasHouse cX12_hasHouse 4 (some .boolean) ∈ lw_gd := gs_7 109 (by decide +kernel) (by decide +kernel)
set_option maxRecDepth 100000 in
theorem kI12_hasHouse : Cond.instanceMethod yX12_hasHouse ∈ lw_gd := gs_7 108 (by decide +kernel) (by decide +kernel)
set_option maxRecDepth 100000 in
theorem kS12_hasHouse : Cond.selects RX12 yX12_hasHouse yX12_hasHouse ∈ lw_gd := gd_at 60 (by decide +kernel) (by decide +kernel)
set_option maxRecDepth 100000 in
theorem kC12_findAllKept : Cond.code yX12_findAllKept cX12_findAllKept 3 (some .boolean) ∈ lw_gd := gs_7 105 (by decide +kernel) (by decide +kernel)
set_option maxRecDepth 100000 in
theorem kI12_findAllKept : Cond.instanceMethod yX12_findAllKept ∈ lw_gd := gs_7 104 (by decide +kernel) (by decide +kernel)
set_option maxRecDepth 100000 in
theorem kS12_findAllKept : Cond.selects RX12 yX12_findAllKept yX12_findAllKept ∈ lw_gd := gd_at 59 (by decide +kernel) (by decide +kernel)
set_option maxRecDepth 100000 in
theorem kC12_isSafe : Cond.code yX12_isSafe cX12_isSafe 4 (some .boolean) ∈ lw_gd := gs_7 125 (by decide +kernel) (by decide +kernel)
set_option maxRecDepth 100000 in
theorem kI12_isSafe : Cond.instanceMethod yX12_isSafe ∈ lw_gd := gs_7 124 (by decide +kernel) (by decide +kernel)
set_option maxRecDepth 100000 in
theorem kS12_isSafe : Cond.selects RX12 yX12_isSafe yX12_isSafe ∈ lw_gd := gd_at 64 (by decide +kernel) (by decide +kernel)
set_option maxRecDepth 100000 in
theorem kC12_columnStands : Cond.code yX12_columnStands cX12_columnStands 5 (some .boolean) ∈ lw_gd := gs_7 121 (by decide +kernel) (by decide +kernel)
set_option maxRecDepth 100000 in
theorem kI12_columnStands : Cond.instanceMethod yX12_columnStands ∈ lw_gd := gs_7 120 (by decide +kernel) (by decide +kernel)
set_option maxRecDepth 100000 in
theorem kS12_columnStands : Cond.selects RX12 yX12_columnStands yX12_columnStands ∈ lw_gd := gd_at 63 (by decide +kernel) (by decide +kernel)
set_option maxRecDepth 100000 in
theorem kC12_lookAnew : Cond.code yX12_lookAnew cX12_lookAnew 2 none ∈ lw_gd := gs_7 113 (by decide +kernel) (by decide +kernel)
set_option maxRecDepth 100000 in
theorem kI12_lookAnew : Cond.instanceMethod yX12_lookAnew ∈ lw_gd := gs_7 112 (by decide +kernel) (by decide +kernel)
set_option maxRecDepth 100000 in
theorem kS12_lookAnew : Cond.selects RX12 yX12_lookAnew yX12_lookAnew ∈ lw_gd := gd_at 61 (by decide +kernel) (by decide +kernel)
set_option maxRecDepth 100000 in
theorem kC12_allStand : Cond.code yX12_allStand cX12_allStand 6 (some .boolean) ∈ lw_gd := gs_7 117 (by decide +kernel) (by decide +kernel)
set_option maxRecDepth 100000 in
theorem kI12_allStand : Cond.instanceMethod yX12_allStand ∈ lw_gd := gs_7 116 (by decide +kernel) (by decide +kernel)
set_option maxRecDepth 100000 in
theorem kS12_allStand : Cond.selects RX12 yX12_allStand yX12_allStand ∈ lw_gd := gd_at 62 (by decide +kernel) (by decide +kernel)
set_option maxRecDepth 100000 in
theorem kC12_stands : Cond.code yX12_stands cX12_stands 2 (some .int) ∈ lw_gd := gs_7 101 (by decide +kernel) (by decide +kernel)
set_option maxRecDepth 100000 in
theorem kI12_stands : Cond.instanceMethod yX12_stands ∈ lw_gd := gs_7 99 (by decide +kernel) (by decide +kernel)
set_option maxRecDepth 100000 in
theorem kS12_stands : Cond.selects RX12 yX12_stands yX12_stands ∈ lw_gd := gs_7 100 (by decide +kernel) (by decide +kernel)
set_option maxRecDepth 100000 in
theorem kC12_priceOf : Cond.code yX12_priceOf cX12_priceOf 4 (some .int) ∈ lw_gd := gs_7 133 (by decide +kernel) (by decide +kernel)
set_option maxRecDepth 100000 in
theorem kI12_priceOf : Cond.instanceMethod yX12_priceOf ∈ lw_gd := gs_7 132 (by decide +kernel) (by decide +kernel)
set_option maxRecDepth 100000 in
theorem kS12_priceOf : Cond.selects RX12 yX12_priceOf yX12_priceOf ∈ lw_gd := gd_at 65 (by decide +kernel) (by decide +kernel)
set_option maxRecDepth 100000 in
theorem kC12_plan : Cond.code yX12_plan cX12_plan 5 (some .int) ∈ lw_gd := gs_7 129 (by decide +kernel) (by decide +kernel)
set_option maxRecDepth 100000 in
theorem kI12_plan : Cond.instanceMethod yX12_plan ∈ lw_gd := gs_7 127 (by decide +kernel) (by decide +kernel)
set_option maxRecDepth 100000 in
theorem kS12_plan : Cond.selects RX12 yX12_plan yX12_plan ∈ lw_gd := gs_7 128 (by decide +kernel) (by decide +kernel)
set_option maxRecDepth 100000 in
theorem kC12_goColumn : Cond.code yX12_goColumn cX12_goColumn 5 none ∈ lw_gd := gs_7 141 (by decide +kernel) (by decide +kernel)
set_option maxRecDepth 100000 in
theorem kI12_goColumn : Cond.instanceMethod yX12_goColumn ∈ lw_gd := gs_7 140 (by decide +kernel) (by decide +kernel)
set_option maxRecDepth 100000 in
theorem kS12_goColumn : Cond.selects RX12 yX12_goColumn yX12_goColumn ∈ lw_gd := gd_at 66 (by decide +kernel) (by decide +kernel)
set_option maxRecDepth 100000 in
theorem kC12_loss : Cond.code yX12_loss cX12_loss 6 (some .long) ∈ lw_gd := gs_7 137 (by decide +kernel) (by decide +kernel)
set_option maxRecDepth 100000 in
theorem kI12_loss : Cond.instanceMethod yX12_loss ∈ lw_gd := gs_7 135 (by decide +kernel) (by decide +kernel)
set_option maxRecDepth 100000 in
theorem kS12_loss : Cond.selects RX12 yX12_loss yX12_loss ∈ lw_gd := gs_7 136 (by decide +kernel) (by decide +kernel)
set_option maxRecDepth 100000 in
theorem kC12_feed : Cond.code yX12_feed cX12_feed 5 (some .int) ∈ lw_gd := gs_7 145 (by decide +kernel) (by decide +kernel)
set_option maxRecDepth 100000 in
theorem kI12_feed : Cond.instanceMethod yX12_feed ∈ lw_gd := gs_7 143 (by decide +kernel) (by decide +kernel)
set_option maxRecDepth 100000 in
theorem kS12_feed : Cond.selects RX12 yX12_feed yX12_feed ∈ lw_gd := gs_7 144 (by decide +kernel) (by decide +kernel)
set_option maxRecDepth 100000 in
theorem kC12_here : Cond.code yX12_here cX12_here 1 (some .int) ∈ lw_gd := gs_7 155 (by decide +kernel) (by decide +kernel)
set_option maxRecDepth 100000 in
theorem kI12_here : Cond.instanceMethod yX12_here ∈ lw_gd := gs_7 154 (by decide +kernel) (by decide +kernel)
set_option maxRecDepth 100000 in
theorem kS12_here : Cond.selects RX12 yX12_here yX12_here ∈ lw_gd := gd_at 67 (by decide +kernel) (by decide +kernel)
set_option maxRecDepth 100000 in
theorem kC12_fails : Cond.code yX12_fails cX12_fails 3 (some .int) ∈ lw_gd := gs_7 180 (by decide +kernel) (by decide +kernel)
set_option maxRecDepth 100000 in
theorem kI12_fails : Cond.instanceMethod yX12_fails ∈ lw_gd := gs_7 179 (by decide +kernel) (by decide +kernel)
set_option maxRecDepth 100000 in
theorem kS12_fails : Cond.selects RX12 yX12_fails yX12_fails ∈ lw_gd := gd_at 71 (by decide +kernel) (by decide +kernel)
set_option maxRecDepth 100000 in
theorem kC12_readWord : Cond.code yX12_readWord cX12_readWord 2 none ∈ lw_gd := gs_7 163 (by decide +kernel) (by decide +kernel)
set_option maxRecDepth 100000 in
theorem kI12_readWord : Cond.instanceMethod yX12_readWord ∈ lw_gd := gs_7 162 (by decide +kernel) (by decide +kernel)
set_option maxRecDepth 100000 in
theorem kS12_readWord : Cond.selects RX12 yX12_readWord yX12_readWord ∈ lw_gd := gd_at 69 (by decide +kernel) (by decide +kernel)
set_option maxRecDepth 100000 in
theorem kC12_code : Cond.code yX12_code cX12_code 8 (some .long) ∈ lw_gd := gs_7 176 (by decide +kernel) (by decide +kernel)
set_option maxRecDepth 100000 in
theorem kT12_code : Cond.static yX12_code ∈ lw_gd := gs_7 175 (by decide +kernel) (by decide +kernel)
set_option maxRecDepth 100000 in
theorem kC12_keyOf : Cond.code yX12_keyOf cX12_keyOf 1 (some .int) ∈ lw_gd := gs_7 173 (by decide +kernel) (by decide +kernel)
set_option maxRecDepth 100000 in
theorem kI12_keyOf : Cond.instanceMethod yX12_keyOf ∈ lw_gd := gs_7 172 (by decide +kernel) (by decide +kernel)
set_option maxRecDepth 100000 in
theorem kS12_keyOf : Cond.selects RX12 yX12_keyOf yX12_keyOf ∈ lw_gd := gd_at 70 (by decide +kernel) (by decide +kernel)
set_option maxRecDepth 100000 in
theorem kC12_nameOf : Cond.code yX12_nameOf cX12_nameOf 1 (some .int) ∈ lw_gd := gs_7 194 (by decide +kernel) (by decide +kernel)
set_option maxRecDepth 100000 in
theorem kI12_nameOf : Cond.instanceMethod yX12_nameOf ∈ lw_gd := gs_7 193 (by decide +kernel) (by decide +kernel)
set_option maxRecDepth 100000 in
theorem kS12_nameOf : Cond.selects RX12 yX12_nameOf yX12_nameOf ∈ lw_gd := gd_at 74 (by decide +kernel) (by decide +kernel)
set_option maxRecDepth 100000 in
theorem kC12_leastOf : Cond.code yX12_leastOf cX12_leastOf 1 (some .int) ∈ lw_gd := gs_7 201 (by decide +kernel) (by decide +kernel)
set_option maxRecDepth 100000 in
theorem kT12_leastOf : Cond.static yX12_leastOf ∈ lw_gd := gs_7 200 (by decide +kernel) (by decide +kernel)
set_option maxRecDepth 100000 in
theorem kC12_mostOf : Cond.code yX12_mostOf cX12_mostOf 1 (some .int) ∈ lw_gd := gs_7 204 (by decide +kernel) (by decide +kernel)
set_option maxRecDepth 100000 in
theorem kT12_mostOf : Cond.static yX12_mostOf ∈ lw_gd := gs_7 203 (by decide +kernel) (by decide +kernel)
set_option maxRecDepth 100000 in
theorem kC12_readNumber : Cond.code yX12_readNumber cX12_readNumber 5 (some .int) ∈ lw_gd := gs_7 188 (by decide +kernel) (by decide +kernel)
set_option maxRecDepth 100000 in
theorem kI12_readNumber : Cond.instanceMethod yX12_readNumber ∈ lw_gd := gs_7 187 (by decide +kernel) (by decide +kernel)
set_option maxRecDepth 100000 in
theorem kS12_readNumber : Cond.selects RX12 yX12_readNumber yX12_readNumber ∈ lw_gd := gd_at 73 (by decide +kernel) (by decide +kernel)
set_option maxRecDepth 100000 in
theorem kC12_readRule : Cond.code yX12_readRule cX12_readRule 3 (some .int) ∈ lw_gd := gs_7 198 (by decide +kernel) (by decide +kernel)
set_option maxRecDepth 100000 in
theorem kI12_readRule : Cond.instanceMethod yX12_readRule ∈ lw_gd := gs_7 197 (by decide +kernel) (by decide +kernel)
set_option maxRecDepth 100000 in
theorem kS12_readRule : Cond.selects RX12 yX12_readRule yX12_readRule ∈ lw_gd := gd_at 75 (by decide +kernel) (by decide +kernel)
set_option maxRecDepth 100000 in
theorem kC12_readKind : Cond.code yX12_readKind cX12_readKind 6 (some .int) ∈ lw_gd := gs_7 184 (by decide +kernel) (by decide +kernel)
set_option maxRecDepth 100000 in
theorem kI12_readKind : Cond.instanceMethod yX12_readKind ∈ lw_gd := gs_7 183 (by decide +kernel) (by decide +kernel)
set_option maxRecDepth 100000 in
theorem kS12_readKind : Cond.selects RX12 yX12_readKind yX12_readKind ∈ lw_gd := gd_at 72 (by decide +kernel) (by decide +kernel)
set_option maxRecDepth 100000 in
theorem kC12_readClause : Cond.code yX12_readClause cX12_readClause 4 (some .int) ∈ lw_gd := gs_7 159 (by decide +kernel) (by decide +kernel)
set_option maxRecDepth 100000 in
theorem kI12_readClause : Cond.instanceMethod yX12_readClause ∈ lw_gd := gs_7 158 (by decide +kernel) (by decide +kernel)
set_option maxRecDepth 100000 in
theorem kS12_readClause : Cond.selects RX12 yX12_readClause yX12_readClause ∈ lw_gd := gd_at 68 (by decide +kernel) (by decide +kernel)
set_option maxRecDepth 100000 in
theorem kC12_read : Cond.code yX12_read cX12_read 3 (some .int) ∈ lw_gd := gs_7 151 (by decide +kernel) (by decide +kernel)
set_option maxRecDepth 100000 in
theorem kI12_read : Cond.instanceMethod yX12_read ∈ lw_gd := gs_7 149 (by decide +kernel) (by decide +kernel)
set_option maxRecDepth 100000 in
theorem kS12_read : Cond.selects RX12 yX12_read yX12_read ∈ lw_gd := gs_7 150 (by decide +kernel) (by decide +kernel)
set_option maxRecDepth 100000 in
theorem kC12_fault : Cond.code yX12_fault cX12_fault 1 (some .int) ∈ lw_gd := gs_7 208 (by decide +kernel) (by decide +kernel)
set_option maxRecDepth 100000 in
theorem kI12_fault : Cond.instanceMethod yX12_fault ∈ lw_gd := gs_7 206 (by decide +kernel) (by decide +kernel)
set_option maxRecDepth 100000 in
theorem kS12_fault : Cond.selects RX12 yX12_fault yX12_fault ∈ lw_gd := gs_7 207 (by decide +kernel) (by decide +kernel)
set_option maxRecDepth 100000 in
theorem kC12_rule : Cond.code yX12_rule cX12_rule 2 (some .int) ∈ lw_gd := gs_7 212 (by decide +kernel) (by decide +kernel)
set_option maxRecDepth 100000 in
theorem kI12_rule : Cond.instanceMethod yX12_rule ∈ lw_gd := gs_7 210 (by decide +kernel) (by decide +kernel)
set_option maxRecDepth 100000 in
theorem kS12_rule : Cond.selects RX12 yX12_rule yX12_rule ∈ lw_gd := gs_7 211 (by decide +kernel) (by decide +kernel)
set_option maxRecDepth 100000 in
theorem kC0_init : Cond.code yX0_init cX0_init 2 none ∈ lw_gd := gs_1 39 (by decide +kernel) (by decide +kernel)
set_option maxRecDepth 100000 in
theorem kI0_init : Cond.instanceMethod yX0_init ∈ lw_gd := gs_1 38 (by decide +kernel) (by decide +kernel)
set_option maxRecDepth 100000 in
theorem kC0_hasColumn : Cond.code yX0_hasColumn cX0_hasColumn 2 (some .boolean) ∈ lw_gd := gs_2 214 (by decide +kernel) (by decide +kernel)
set_option maxRecDepth 100000 in
theorem kI0_hasColumn : Cond.instanceMethod yX0_hasColumn ∈ lw_gd := gs_2 212 (by decide +kernel) (by decide +kernel)
set_option maxRecDepth 100000 in
theorem kS0_hasColumn : Cond.selects RX0 yX0_hasColumn yX0_hasColumn ∈ lw_gd := gs_2 213 (by decide +kernel) (by decide +kernel)
set_option maxRecDepth 100000 in
theorem kC0_hasLayer : Cond.code yX0_hasLayer cX0_hasLayer 3 (some .boolean) ∈ lw_gd := gs_3 1 (by decide +kernel) (by decide +kernel)
set_option maxRecDepth 100000 in
theorem kI0_hasLayer : Cond.instanceMethod yX0_hasLayer ∈ lw_gd := gs_2 239 (by decide +kernel) (by decide +kernel)
set_option maxRecDepth 100000 in
theorem kS0_hasLayer : Cond.selects RX0 yX0_hasLayer yX0_hasLayer ∈ lw_gd := gs_3 0 (by decide +kernel) (by decide +kernel)
set_option maxRecDepth 100000 in
theorem kC0_hasValue : Cond.code yX0_hasValue cX0_hasValue 6 (some .boolean) ∈ lw_gd := gs_3 6 (by decide +kernel) (by decide +kernel)
set_option maxRecDepth 100000 in
theorem kI0_hasValue : Cond.instanceMethod yX0_hasValue ∈ lw_gd := gs_3 4 (by decide +kernel) (by decide +kernel)
set_option maxRecDepth 100000 in
theorem kS0_hasValue : Cond.selects RX0 yX0_hasValue yX0_hasValue ∈ lw_gd := gs_3 5 (by decide +kernel) (by decide +kernel)
set_option maxRecDepth 100000 in
theorem kC0_addLayer : Cond.code yX0_addLayer cX0_addLayer 6 (some .int) ∈ lw_gd := gs_2 229 (by decide +kernel) (by decide +kernel)
set_option maxRecDepth 100000 in
theorem kI0_addLayer : Cond.instanceMethod yX0_addLayer ∈ lw_gd := gs_2 227 (by decide +kernel) (by decide +kernel)
set_option maxRecDepth 100000 in
theorem kS0_addLayer : Cond.selects RX0 yX0_addLayer yX0_addLayer ∈ lw_gd := gs_2 228 (by decide +kernel) (by decide +kernel)
set_option maxRecDepth 100000 in
theorem kC0_addValue : Cond.code yX0_addValue cX0_addValue 7 (some .int) ∈ lw_gd := gs_2 233 (by decide +kernel) (by decide +kernel)
set_option maxRecDepth 100000 in
theorem kI0_addValue : Cond.instanceMethod yX0_addValue ∈ lw_gd := gs_2 231 (by decide +kernel) (by decide +kernel)
set_option maxRecDepth 100000 in
theorem kS0_addValue : Cond.selects RX0 yX0_addValue yX0_addValue ∈ lw_gd := gs_2 232 (by decide +kernel) (by decide +kernel)
set_option maxRecDepth 100000 in
theorem kC0_depthOf : Cond.code yX0_depthOf cX0_depthOf 5 (some .int) ∈ lw_gd := gs_3 15 (by decide +kernel) (by decide +kernel)
set_option maxRecDepth 100000 in
theorem kI0_depthOf : Cond.instanceMethod yX0_depthOf ∈ lw_gd := gs_3 13 (by decide +kernel) (by decide +kernel)
set_option maxRecDepth 100000 in
theorem kS0_depthOf : Cond.selects RX0 yX0_depthOf yX0_depthOf ∈ lw_gd := gs_3 14 (by decide +kernel) (by decide +kernel)
set_option maxRecDepth 100000 in
theorem kC0_isWet : Cond.code yX0_isWet cX0_isWet 3 (some .boolean) ∈ lw_gd := gs_3 19 (by decide +kernel) (by decide +kernel)
set_option maxRecDepth 100000 in
theorem kI0_isWet : Cond.instanceMethod yX0_isWet ∈ lw_gd := gs_3 17 (by decide +kernel) (by decide +kernel)
set_option maxRecDepth 100000 in
theorem kS0_isWet : Cond.selects RX0 yX0_isWet yX0_isWet ∈ lw_gd := gs_3 18 (by decide +kernel) (by decide +kernel)
set_option maxRecDepth 100000 in
theorem kC0_holdOf : Cond.code yX0_holdOf cX0_holdOf 9 (some .int) ∈ lw_gd := gs_3 24 (by decide +kernel) (by decide +kernel)
set_option maxRecDepth 100000 in
theorem kI0_holdOf : Cond.instanceMethod yX0_holdOf ∈ lw_gd := gs_3 22 (by decide +kernel) (by decide +kernel)
set_option maxRecDepth 100000 in
theorem kS0_holdOf : Cond.selects RX0 yX0_holdOf yX0_holdOf ∈ lw_gd := gs_3 23 (by decide +kernel) (by decide +kernel)
set_option maxRecDepth 100000 in
theorem kC0_choicesOf : Cond.code yX0_choicesOf cX0_choicesOf 4 (some .int) ∈ lw_gd := gs_3 125 (by decide +kernel) (by decide +kernel)
set_option maxRecDepth 100000 in
theorem kI0_choicesOf : Cond.instanceMethod yX0_choicesOf ∈ lw_gd := gs_3 123 (by decide +kernel) (by decide +kernel)
set_option maxRecDepth 100000 in
theorem kS0_choicesOf : Cond.selects RX0 yX0_choicesOf yX0_choicesOf ∈ lw_gd := gs_3 124 (by decide +kernel) (by decide +kernel)
set_option maxRecDepth 100000 in
theorem kC0_middleOf : Cond.code yX0_middleOf cX0_middleOf 3 (some .int) ∈ lw_gd := gs_4 94 (by decide +kernel) (by decide +kernel)
set_option maxRecDepth 100000 in
theorem kI0_middleOf : Cond.instanceMethod yX0_middleOf ∈ lw_gd := gs_4 92 (by decide +kernel) (by decide +kernel)
set_option maxRecDepth 100000 in
theorem kS0_middleOf : Cond.selects RX0 yX0_middleOf yX0_middleOf ∈ lw_gd := gs_4 93 (by decide +kernel) (by decide +kernel)
set_option maxRecDepth 100000 in
theorem kC0_layerAt : Cond.code yX0_layerAt cX0_layerAt 6 (some .int) ∈ lw_gd := gs_4 115 (by decide +kernel) (by decide +kernel)
set_option maxRecDepth 100000 in
theorem kI0_layerAt : Cond.instanceMethod yX0_layerAt ∈ lw_gd := gs_4 113 (by decide +kernel) (by decide +kernel)
set_option maxRecDepth 100000 in
theorem kS0_layerAt : Cond.selects RX0 yX0_layerAt yX0_layerAt ∈ lw_gd := gs_4 114 (by decide +kernel) (by decide +kernel)
set_option maxRecDepth 100000 in
theorem kC0_weightAbove : Cond.code yX0_weightAbove cX0_weightAbove 8 (some .int) ∈ lw_gd := gs_4 119 (by decide +kernel) (by decide +kernel)
set_option maxRecDepth 100000 in
theorem kI0_weightAbove : Cond.instanceMethod yX0_weightAbove ∈ lw_gd := gs_4 117 (by decide +kernel) (by decide +kernel)
set_option maxRecDepth 100000 in
theorem kS0_weightAbove : Cond.selects RX0 yX0_weightAbove yX0_weightAbove ∈ lw_gd := gs_4 118 (by decide +kernel) (by decide +kernel)
set_option maxRecDepth 100000 in
theorem kC1_init : Cond.code yX1_init cX1_init 1 none ∈ lw_gd := gs_1 232 (by decide +kernel) (by decide +kernel)
set_option maxRecDepth 100000 in
theorem kI1_init : Cond.instanceMethod yX1_init ∈ lw_gd := gs_1 231 (by decide +kernel) (by decide +kernel)
set_option maxRecDepth 100000 in
theorem kC1_hasHouse : Cond.code yX1_hasHouse cX1_hasHouse 2 (some .boolean) ∈ lw_gd := gs_4 26 (by decide +kernel) (by decide +kernel)
set_option maxRecDepth 100000 in
theorem kI1_hasHouse : Cond.instanceMethod yX1_hasHouse ∈ lw_gd := gs_4 24 (by decide +kernel) (by decide +kernel)
set_option maxRecDepth 100000 in
theorem kS1_hasHouse : Cond.selects RX1 yX1_hasHouse yX1_hasHouse ∈ lw_gd := gs_4 25 (by decide +kernel) (by decide +kernel)
set_option maxRecDepth 100000 in
theorem kC1_addHouse : Cond.code yX1_addHouse cX1_addHouse 4 (some .int) ∈ lw_gd := gs_4 18 (by decide +kernel) (by decide +kernel)
set_option maxRecDepth 100000 in
theorem kI1_addHouse : Cond.instanceMethod yX1_addHouse ∈ lw_gd := gs_4 16 (by decide +kernel) (by decide +kernel)
set_option maxRecDepth 100000 in
theorem kS1_addHouse : Cond.selects RX1 yX1_addHouse yX1_addHouse ∈ lw_gd := gs_4 17 (by decide +kernel) (by decide +kernel)
set_option maxRecDepth 100000 in
theorem kC1_widestOn : Cond.code yX1_widestOn cX1_widestOn 4 (some .int) ∈ lw_gd := gs_4 157 (by decide +kernel) (by decide +kernel)
set_option maxRecDepth 100000 in
theorem kI1_widestOn : Cond.instanceMethod yX1_widestOn ∈ lw_gd := gs_4 155 (by decide +kernel) (by decide +kernel)
set_option maxRecDepth 100000 in
theorem kS1_widestOn : Cond.selects RX1 yX1_widestOn yX1_widestOn ∈ lw_gd := gs_4 156 (by decide +kernel) (by decide +kernel)
set_option maxRecDepth 100000 in
theorem kC2_init : Cond.code yX2_init cX2_init 1 none ∈ lw_gd := gs_2 145 (by decide +kernel) (by decide +kernel)
set_option maxRecDepth 100000 in
theorem kI2_init : Cond.instanceMethod yX2_init ∈ lw_gd := gs_2 144 (by decide +kernel) (by decide +kernel)
set_option maxRecDepth 100000 in
theorem kC2_append : Cond.code yX2_append cX2_append 5 none ∈ lw_gd := gs_4 205 (by decide +kernel) (by decide +kernel)
set_option maxRecDepth 100000 in
theorem kI2_append : Cond.instanceMethod yX2_append ∈ lw_gd := gs_4 203 (by decide +kernel) (by decide +kernel)
set_option maxRecDepth 100000 in
theorem kS2_append : Cond.selects RX2 yX2_append yX2_append ∈ lw_gd := gs_4 204 (by decide +kernel) (by decide +kernel)
set_option maxRecDepth 100000 in
theorem kC2_parse : Cond.code yX2_parse cX2_parse 2 (some .int) ∈ lw_gd := gs_4 214 (by decide +kernel) (by decide +kernel)
set_option maxRecDepth 100000 in
theorem kI2_parse : Cond.instanceMethod yX2_parse ∈ lw_gd := gs_4 212 (by decide +kernel) (by decide +kernel)
set_option maxRecDepth 100000 in
theorem kS2_parse : Cond.selects RX2 yX2_parse yX2_parse ∈ lw_gd := gs_4 213 (by decide +kernel) (by decide +kernel)
set_option maxRecDepth 100000 in
theorem kC2_fail : Cond.code yX2_fail cX2_fail 3 none ∈ lw_gd := gs_5 62 (by decide +kernel) (by decide +kernel)
set_option maxRecDepth 100000 in
theorem kI2_fail : Cond.instanceMethod yX2_fail ∈ lw_gd := gs_5 61 (by decide +kernel) (by decide +kernel)
set_option maxRecDepth 100000 in
theorem kS2_fail : Cond.selects RX2 yX2_fail yX2_fail ∈ lw_gd := gd_at 20 (by decide +kernel) (by decide +kernel)
set_option maxRecDepth 100000 in
theorem kC2_skipBlanks : Cond.code yX2_skipBlanks cX2_skipBlanks 1 none ∈ lw_gd := gs_4 219 (by decide +kernel) (by decide +kernel)
set_option maxRecDepth 100000 in
theorem kI2_skipBlanks : Cond.instanceMethod yX2_skipBlanks ∈ lw_gd := gs_4 218 (by decide +kernel) (by decide +kernel)
set_option maxRecDepth 100000 in
theorem kS2_skipBlanks : Cond.selects RX2 yX2_skipBlanks yX2_skipBlanks ∈ lw_gd := gd_at 16 (by decide +kernel) (by decide +kernel)
set_option maxRecDepth 100000 in
theorem kC2_isNext : Cond.code yX2_isNext cX2_isNext 2 (some .boolean) ∈ lw_gd := gs_5 75 (by decide +kernel) (by decide +kernel)
set_option maxRecDepth 100000 in
theorem kI2_isNext : Cond.instanceMethod yX2_isNext ∈ lw_gd := gs_5 74 (by decide +kernel) (by decide +kernel)
set_option maxRecDepth 100000 in
theorem kS2_isNext : Cond.selects RX2 yX2_isNext yX2_isNext ∈ lw_gd := gd_at 23 (by decide +kernel) (by decide +kernel)
set_option maxRecDepth 100000 in
theorem kC2_takeClause : Cond.code yX2_takeClause cX2_takeClause 3 none ∈ lw_gd := gs_4 223 (by decide +kernel) (by decide +kernel)
set_option maxRecDepth 100000 in
theorem kI2_takeClause : Cond.instanceMethod yX2_takeClause ∈ lw_gd := gs_4 222 (by decide +kernel) (by decide +kernel)
set_option maxRecDepth 100000 in
theorem kS2_takeClause : Cond.selects RX2 yX2_takeClause yX2_takeClause ∈ lw_gd := gd_at 17 (by decide +kernel) (by decide +kernel)
set_option maxRecDepth 100000 in
theorem kC2_takeKind : Cond.code yX2_takeKind cX2_takeKind 6 none ∈ lw_gd := gs_5 66 (by decide +kernel) (by decide +kernel)
set_option maxRecDepth 100000 in
theorem kI2_takeKind : Cond.instanceMethod yX2_takeKind ∈ lw_gd := gs_5 65 (by decide +kernel) (by decide +kernel)
set_option maxRecDepth 100000 in
theorem kS2_takeKind : Cond.selects RX2 yX2_takeKind yX2_takeKind ∈ lw_gd := gd_at 21 (by decide +kernel) (by decide +kernel)
set_option maxRecDepth 100000 in
theorem kC2_takeNumber : Cond.code yX2_takeNumber cX2_takeNumber 5 (some .int) ∈ lw_gd := gs_5 70 (by decide +kernel) (by decide +kernel)
set_option maxRecDepth 100000 in
theorem kI2_takeNumber : Cond.instanceMethod yX2_takeNumber ∈ lw_gd := gs_5 69 (by decide +kernel) (by decide +kernel)
set_option maxRecDepth 100000 in
theorem kS2_takeNumber : Cond.selects RX2 yX2_takeNumber yX2_takeNumber ∈ lw_gd := gd_at 22 (by decide +kernel) (by decide +kernel)
set_option maxRecDepth 100000 in
theorem kC2_takeWord : Cond.code yX2_takeWord cX2_takeWord 3 (some .int) ∈ lw_gd := gs_4 227 (by decide +kernel) (by decide +kernel)
set_option maxRecDepth 100000 in
theorem kI2_takeWord : Cond.instanceMethod yX2_takeWord ∈ lw_gd := gs_4 226 (by decide +kernel) (by decide +kernel)
set_option maxRecDepth 100000 in
theorem kS2_takeWord : Cond.selects RX2 yX2_takeWord yX2_takeWord ∈ lw_gd := gd_at 18 (by decide +kernel) (by decide +kernel)
set_option maxRecDepth 100000 in
theorem kC2_isSpelt : Cond.code yX2_isSpelt cX2_isSpelt 5 (some .boolean) ∈ lw_gd := gs_5 6 (by decide +kernel) (by decide +kernel)
set_option maxRecDepth 100000 in
theorem kI2_isSpelt : Cond.instanceMethod yX2_isSpelt ∈ lw_gd := gs_5 5 (by decide +kernel) (by decide +kernel)
set_option maxRecDepth 100000 in
theorem kS2_isSpelt : Cond.selects RX2 yX2_isSpelt yX2_isSpelt ∈ lw_gd := gd_at 19 (by decide +kernel) (by decide +kernel)
set_option maxRecDepth 100000 in
theorem kC2_spelling : Cond.code yX2_spelling cX2_spelling 1 (some (.object "java/lang/String")) ∈ lw_gd := gs_4 230 (by decide +kernel) (by decide +kernel)
set_option maxRecDepth 100000 in
theorem kT2_spelling : Cond.static yX2_spelling ∈ lw_gd := gs_4 229 (by decide +kernel) (by decide +kernel)
set_option maxRecDepth 100000 in
theorem kC3_init : Cond.code yX3_init cX3_init 2 none ∈ lw_gd := gs_1 109 (by decide +kernel) (by decide +kernel)
set_option maxRecDepth 100000 in
theorem kI3_init : Cond.instanceMethod yX3_init ∈ lw_gd := gs_1 108 (by decide +kernel) (by decide +kernel)
set_option maxRecDepth 100000 in
theorem kC3_first : Cond.code yX3_first cX3_first 1 (some .int) ∈ lw_gd := gs_1 113 (by decide +kernel) (by decide +kernel)
set_option maxRecDepth 100000 in
theorem kT3_first : Cond.static yX3_first ∈ lw_gd := gs_1 112 (by decide +kernel) (by decide +kernel)
set_option maxRecDepth 100000 in
theorem kC3_lowest : Cond.code yX3_lowest cX3_lowest 1 (some .int) ∈ lw_gd := gs_5 78 (by decide +kernel) (by decide +kernel)
set_option maxRecDepth 100000 in
theorem kT3_lowest : Cond.static yX3_lowest ∈ lw_gd := gs_5 77 (by decide +kernel) (by decide +kernel)
set_option maxRecDepth 100000 in
theorem kC3_highest : Cond.code yX3_highest cX3_highest 1 (some .int) ∈ lw_gd := gs_5 83 (by decide +kernel) (by decide +kernel)
set_option maxRecDepth 100000 in
theorem kT3_highest : Cond.static yX3_highest ∈ lw_gd := gs_5 82 (by decide +kernel) (by decide +kernel)
set_option maxRecDepth 100000 in
theorem kC3_entry : Cond.code yX3_entry cX3_entry 1 (some .int) ∈ lw_gd := gs_1 118 (by decide +kernel) (by decide +kernel)
set_option maxRecDepth 100000 in
theorem kT3_entry : Cond.static yX3_entry ∈ lw_gd := gs_1 117 (by decide +kernel) (by decide +kernel)
set_option maxRecDepth 100000 in
theorem kC3_become : Cond.code yX3_become cX3_become 2 none ∈ lw_gd := gs_5 90 (by decide +kernel) (by decide +kernel)
set_option maxRecDepth 100000 in
theorem kI3_become : Cond.instanceMethod yX3_become ∈ lw_gd := gs_5 88 (by decide +kernel) (by decide +kernel)
set_option maxRecDepth 100000 in
theorem kS3_become : Cond.selects RX3 yX3_become yX3_become ∈ lw_gd := gs_5 89 (by decide +kernel) (by decide +kernel)
set_option maxRecDepth 100000 in
theorem kC3_dry : Cond.code yX3_dry cX3_dry 1 (some .int) ∈ lw_gd := gs_4 86 (by decide +kernel) (by decide +kernel)
set_option maxRecDepth 100000 in
theorem kI3_dry : Cond.instanceMethod yX3_dry ∈ lw_gd := gs_4 84 (by decide +kernel) (by decide +kernel)
set_option maxRecDepth 100000 in
theorem kS3_dry : Cond.selects RX3 yX3_dry yX3_dry ∈ lw_gd := gs_4 85 (by decide +kernel) (by decide +kernel)
set_option maxRecDepth 100000 in
theorem kC3_unitWeight : Cond.code yX3_unitWeight cX3_unitWeight 2 (some .int) ∈ lw_gd := gs_3 28 (by decide +kernel) (by decide +kernel)
set_option maxRecDepth 100000 in
theorem kI3_unitWeight : Cond.instanceMethod yX3_unitWeight ∈ lw_gd := gs_3 26 (by decide +kernel) (by decide +kernel)
set_option maxRecDepth 100000 in
theorem kS3_unitWeight : Cond.selects RX3 yX3_unitWeight yX3_unitWeight ∈ lw_gd := gs_3 27 (by decide +kernel) (by decide +kernel)
set_option maxRecDepth 100000 in
theorem kC3_flow : Cond.code yX3_flow cX3_flow 1 (some .int) ∈ lw_gd := gs_3 113 (by decide +kernel) (by decide +kernel)
set_option maxRecDepth 100000 in
theorem kI3_flow : Cond.instanceMethod yX3_flow ∈ lw_gd := gs_3 111 (by decide +kernel) (by decide +kernel)
set_option maxRecDepth 100000 in
theorem kS3_flow : Cond.selects RX3 yX3_flow yX3_flow ∈ lw_gd := gs_3 112 (by decide +kernel) (by decide +kernel)
set_option maxRecDepth 100000 in
theorem kC3_mark : Cond.code yX3_mark cX3_mark 1 (some .int) ∈ lw_gd := gs_4 47 (by decide +kernel) (by decide +kernel)
set_option maxRecDepth 100000 in
theorem kI3_mark : Cond.instanceMethod yX3_mark ∈ lw_gd := gs_4 45 (by decide +kernel) (by decide +kernel)
set_option maxRecDepth 100000 in
theorem kS3_mark : Cond.selects RX3 yX3_mark yX3_mark ∈ lw_gd := gs_4 46 (by decide +kernel) (by decide +kernel)
set_option maxRecDepth 100000 in
theorem kC3_after : Cond.code yX3_after cX3_after 1 (some .int) ∈ lw_gd := gs_3 84 (by decide +kernel) (by decide +kernel)
set_option maxRecDepth 100000 in
theorem kI3_after : Cond.instanceMethod yX3_after ∈ lw_gd := gs_3 82 (by decide +kernel) (by decide +kernel)
set_option maxRecDepth 100000 in
theorem kS3_after : Cond.selects RX3 yX3_after yX3_after ∈ lw_gd := gs_3 83 (by decide +kernel) (by decide +kernel)
set_option maxRecDepth 100000 in
theorem kC4_init : Cond.code yX4_init cX4_init 1 none ∈ lw_gd := gs_1 84 (by decide +kernel) (by decide +kernel)
set_option maxRecDepth 100000 in
theorem kI4_init : Cond.instanceMethod yX4_init ∈ lw_gd := gs_1 83 (by decide +kernel) (by decide +kernel)
set_option maxRecDepth 100000 in
theorem kC4_hasShake : Cond.code yX4_hasShake cX4_hasShake 2 (some .boolean) ∈ lw_gd := gs_3 47 (by decide +kernel) (by decide +kernel)
set_option maxRecDepth 100000 in
theorem kI4_hasShake : Cond.instanceMethod yX4_hasShake ∈ lw_gd := gs_3 45 (by decide +kernel) (by decide +kernel)
set_option maxRecDepth 100000 in
theorem kS4_hasShake : Cond.selects RX4 yX4_hasShake yX4_hasShake ∈ lw_gd := gs_3 46 (by decide +kernel) (by decide +kernel)
set_option maxRecDepth 100000 in
theorem kC4_addShake : Cond.code yX4_addShake cX4_addShake 2 (some .int) ∈ lw_gd := gs_3 39 (by decide +kernel) (by decide +kernel)
set_option maxRecDepth 100000 in
theorem kI4_addShake : Cond.instanceMethod yX4_addShake ∈ lw_gd := gs_3 37 (by decide +kernel) (by decide +kernel)
set_option maxRecDepth 100000 in
theorem kS4_addShake : Cond.selects RX4 yX4_addShake yX4_addShake ∈ lw_gd := gs_3 38 (by decide +kernel) (by decide +kernel)
set_option maxRecDepth 100000 in
theorem kC4_addBeat : Cond.code yX4_addBeat cX4_addBeat 3 (some .int) ∈ lw_gd := gs_3 51 (by decide +kernel) (by decide +kernel)
set_option maxRecDepth 100000 in
theorem kI4_addBeat : Cond.instanceMethod yX4_addBeat ∈ lw_gd := gs_3 49 (by decide +kernel) (by decide +kernel)
set_option maxRecDepth 100000 in
theorem kS4_addBeat : Cond.selects RX4 yX4_addBeat yX4_addBeat ∈ lw_gd := gs_3 50 (by decide +kernel) (by decide +kernel)
set_option maxRecDepth 100000 in
theorem kC5_init : Cond.code yX5_init cX5_init 1 none ∈ lw_gd := gs_2 107 (by decide +kernel) (by decide +kernel)
set_option maxRecDepth 100000 in
theorem kI5_init : Cond.instanceMethod yX5_init ∈ lw_gd := gs_2 106 (by decide +kernel) (by decide +kernel)
set_option maxRecDepth 100000 in
theorem kC5_begin : Cond.code yX5_begin cX5_begin 7 none ∈ lw_gd := gs_4 100 (by decide +kernel) (by decide +kernel)
set_option maxRecDepth 100000 in
theorem kI5_begin : Cond.instanceMethod yX5_begin ∈ lw_gd := gs_4 98 (by decide +kernel) (by decide +kernel)
set_option maxRecDepth 100000 in
theorem kS5_begin : Cond.selects RX5 yX5_begin yX5_begin ∈ lw_gd := gs_4 99 (by decide +kernel) (by decide +kernel)
set_option maxRecDepth 100000 in
theorem kC5_weigh : Cond.code yX5_weigh cX5_weigh 7 (some .boolean) ∈ lw_gd := gs_4 109 (by decide +kernel) (by decide +kernel)
set_option maxRecDepth 100000 in
theorem kI5_weigh : Cond.instanceMethod yX5_weigh ∈ lw_gd := gs_4 107 (by decide +kernel) (by decide +kernel)
set_option maxRecDepth 100000 in
theorem kS5_weigh : Cond.selects RX5 yX5_weigh yX5_weigh ∈ lw_gd := gs_4 108 (by decide +kernel) (by decide +kernel)
set_option maxRecDepth 100000 in
theorem kC5_findLeast : Cond.code yX5_findLeast cX5_findLeast 4 none ∈ lw_gd := gs_4 130 (by decide +kernel) (by decide +kernel)
set_option maxRecDepth 100000 in
theorem kI5_findLeast : Cond.instanceMethod yX5_findLeast ∈ lw_gd := gs_4 128 (by decide +kernel) (by decide +kernel)
set_option maxRecDepth 100000 in
theorem kS5_findLeast : Cond.selects RX5 yX5_findLeast yX5_findLeast ∈ lw_gd := gs_4 129 (by decide +kernel) (by decide +kernel)
set_option maxRecDepth 100000 in
theorem kC5_findLeastBetween : Cond.code yX5_findLeastBetween cX5_findLeastBetween 5 none ∈ lw_gd := gs_4 134 (by decide +kernel) (by decide +kernel)
set_option maxRecDepth 100000 in
theorem kI5_findLeastBetween : Cond.instanceMethod yX5_findLeastBetween ∈ lw_gd := gs_4 133 (by decide +kernel) (by decide +kernel)
set_option maxRecDepth 100000 in
theorem kS5_findLeastBetween : Cond.selects RX5 yX5_findLeastBetween yX5_findLeastBetween ∈ lw_gd := gd_at 11 (by decide +kernel) (by decide +kernel)
set_option maxRecDepth 100000 in
theorem kC6_init : Cond.code yX6_init cX6_init 1 none ∈ lw_gd := gs_2 69 (by decide +kernel) (by decide +kernel)
set_option maxRecDepth 100000 in
theorem kI6_init : Cond.instanceMethod yX6_init ∈ lw_gd := gs_2 68 (by decide +kernel) (by decide +kernel)
set_option maxRecDepth 100000 in
theorem kC6_begin : Cond.code yX6_begin cX6_begin 2 none ∈ lw_gd := gs_3 193 (by decide +kernel) (by decide +kernel)
set_option maxRecDepth 100000 in
theorem kI6_begin : Cond.instanceMethod yX6_begin ∈ lw_gd := gs_3 191 (by decide +kernel) (by decide +kernel)
set_option maxRecDepth 100000 in
theorem kS6_begin : Cond.selects RX6 yX6_begin yX6_begin ∈ lw_gd := gs_3 192 (by decide +kernel) (by decide +kernel)
set_option maxRecDepth 100000 in
theorem kC6_add : Cond.code yX6_add cX6_add 3 none ∈ lw_gd := gs_3 203 (by decide +kernel) (by decide +kernel)
set_option maxRecDepth 100000 in
theorem kI6_add : Cond.instanceMethod yX6_add ∈ lw_gd := gs_3 201 (by decide +kernel) (by decide +kernel)
set_option maxRecDepth 100000 in
theorem kS6_add : Cond.selects RX6 yX6_add yX6_add ∈ lw_gd := gs_3 202 (by decide +kernel) (by decide +kernel)
set_option maxRecDepth 100000 in
theorem kC6_fraction : Cond.code yX6_fraction cX6_fraction 2 (some .long) ∈ lw_gd := gs_3 210 (by decide +kernel) (by decide +kernel)
set_option maxRecDepth 100000 in
theorem kI6_fraction : Cond.instanceMethod yX6_fraction ∈ lw_gd := gs_3 208 (by decide +kernel) (by decide +kernel)
set_option maxRecDepth 100000 in
theorem kS6_fraction : Cond.selects RX6 yX6_fraction yX6_fraction ∈ lw_gd := gs_3 209 (by decide +kernel) (by decide +kernel)
set_option maxRecDepth 100000 in
theorem kC7_init : Cond.code yX7_init cX7_init 1 none ∈ lw_gd := gs_2 15 (by decide +kernel) (by decide +kernel)
set_option maxRecDepth 100000 in
theorem kI7_init : Cond.instanceMethod yX7_init ∈ lw_gd := gs_2 14 (by decide +kernel) (by decide +kernel)
set_option maxRecDepth 100000 in
theorem kC7_hasTank : Cond.code yX7_hasTank cX7_hasTank 2 (some .boolean) ∈ lw_gd := gs_4 82 (by decide +kernel) (by decide +kernel)
set_option maxRecDepth 100000 in
theorem kI7_hasTank : Cond.instanceMethod yX7_hasTank ∈ lw_gd := gs_4 80 (by decide +kernel) (by decide +kernel)
set_option maxRecDepth 100000 in
theorem kS7_hasTank : Cond.selects RX7 yX7_hasTank yX7_hasTank ∈ lw_gd := gs_4 81 (by decide +kernel) (by decide +kernel)
set_option maxRecDepth 100000 in
theorem kC7_addTank : Cond.code yX7_addTank cX7_addTank 5 (some .int) ∈ lw_gd := gs_4 74 (by decide +kernel) (by decide +kernel)
set_option maxRecDepth 100000 in
theorem kI7_addTank : Cond.instanceMethod yX7_addTank ∈ lw_gd := gs_4 72 (by decide +kernel) (by decide +kernel)
set_option maxRecDepth 100000 in
theorem kS7_addTank : Cond.selects RX7 yX7_addTank yX7_addTank ∈ lw_gd := gs_4 73 (by decide +kernel) (by decide +kernel)
set_option maxRecDepth 100000 in
theorem kC8_init : Cond.code yX8_init cX8_init 1 none ∈ lw_gd := gs_1 33 (by decide +kernel) (by decide +kernel)
set_option maxRecDepth 100000 in
theorem kI8_init : Cond.instanceMethod yX8_init ∈ lw_gd := gs_1 32 (by decide +kernel) (by decide +kernel)
set_option maxRecDepth 100000 in
theorem kC8_begin : Cond.code yX8_begin cX8_begin 3 none ∈ lw_gd := gs_3 76 (by decide +kernel) (by decide +kernel)
set_option maxRecDepth 100000 in
theorem kI8_begin : Cond.instanceMethod yX8_begin ∈ lw_gd := gs_3 74 (by decide +kernel) (by decide +kernel)
set_option maxRecDepth 100000 in
theorem kS8_begin : Cond.selects RX8 yX8_begin yX8_begin ∈ lw_gd := gs_3 75 (by decide +kernel) (by decide +kernel)
set_option maxRecDepth 100000 in
theorem kC8_under : Cond.code yX8_under cX8_under 5 none ∈ lw_gd := gs_3 80 (by decide +kernel) (by decide +kernel)
set_option maxRecDepth 100000 in
theorem kI8_under : Cond.instanceMethod yX8_under ∈ lw_gd := gs_3 78 (by decide +kernel) (by decide +kernel)
set_option maxRecDepth 100000 in
theorem kS8_under : Cond.selects RX8 yX8_under yX8_under ∈ lw_gd := gs_3 79 (by decide +kernel) (by decide +kernel)
set_option maxRecDepth 100000 in
theorem kC8_runFirst : Cond.code yX8_runFirst cX8_runFirst 3 none ∈ lw_gd := gs_3 72 (by decide +kernel) (by decide +kernel)
set_option maxRecDepth 100000 in
theorem kI8_runFirst : Cond.instanceMethod yX8_runFirst ∈ lw_gd := gs_3 70 (by decide +kernel) (by decide +kernel)
set_option maxRecDepth 100000 in
theorem kS8_runFirst : Cond.selects RX8 yX8_runFirst yX8_runFirst ∈ lw_gd := gs_3 71 (by decide +kernel) (by decide +kernel)
set_option maxRecDepth 100000 in
theorem kC8_advance : Cond.code yX8_advance cX8_advance 2 none ∈ lw_gd := gs_3 145 (by decide +kernel) (by decide +kernel)
set_option maxRecDepth 100000 in
theorem kI8_advance : Cond.instanceMethod yX8_advance ∈ lw_gd := gs_3 143 (by decide +kernel) (by decide +kernel)
set_option maxRecDepth 100000 in
theorem kS8_advance : Cond.selects RX8 yX8_advance yX8_advance ∈ lw_gd := gs_3 144 (by decide +kernel) (by decide +kernel)
set_option maxRecDepth 100000 in
theorem kC8_place : Cond.code yX8_place cX8_place 3 (some .int) ∈ lw_gd := gs_3 141 (by decide +kernel) (by decide +kernel)
set_option maxRecDepth 100000 in
theorem kI8_place : Cond.instanceMethod yX8_place ∈ lw_gd := gs_3 139 (by decide +kernel) (by decide +kernel)
set_option maxRecDepth 100000 in
theorem kS8_place : Cond.selects RX8 yX8_place yX8_place ∈ lw_gd := gs_3 140 (by decide +kernel) (by decide +kernel)
set_option maxRecDepth 100000 in
theorem kC8_valueAt : Cond.code yX8_valueAt cX8_valueAt 2 (some .int) ∈ lw_gd := gs_3 108 (by decide +kernel) (by decide +kernel)
set_option maxRecDepth 100000 in
theorem kI8_valueAt : Cond.instanceMethod yX8_valueAt ∈ lw_gd := gs_3 106 (by decide +kernel) (by decide +kernel)
set_option maxRecDepth 100000 in
theorem kS8_valueAt : Cond.selects RX8 yX8_valueAt yX8_valueAt ∈ lw_gd := gs_3 107 (by decide +kernel) (by decide +kernel)
set_option maxRecDepth 100000 in
theorem kC8_weightNow : Cond.code yX8_weightNow cX8_weightNow 3 (some .int) ∈ lw_gd := gs_3 199 (by decide +kernel) (by decide +kernel)
set_option maxRecDepth 100000 in
theorem kI8_weightNow : Cond.instanceMethod yX8_weightNow ∈ lw_gd := gs_3 197 (by decide +kernel) (by decide +kernel)
set_option maxRecDepth 100000 in
theorem kS8_weightNow : Cond.selects RX8 yX8_weightNow yX8_weightNow ∈ lw_gd := gs_3 198 (by decide +kernel) (by decide +kernel)
set_option maxRecDepth 100000 in
theorem kC8_play : Cond.code yX8_play cX8_play 2 none ∈ lw_gd := gs_3 93 (by decide +kernel) (by decide +kernel)
set_option maxRecDepth 100000 in
theorem kI8_play : Cond.instanceMethod yX8_play ∈ lw_gd := gs_3 91 (by decide +kernel) (by decide +kernel)
set_option maxRecDepth 100000 in
theorem kS8_play : Cond.selects RX8 yX8_play yX8_play ∈ lw_gd := gs_3 92 (by decide +kernel) (by decide +kernel)
set_option maxRecDepth 100000 in
theorem kC8_ruleOf : Cond.code yX8_ruleOf cX8_ruleOf 3 (some .int) ∈ lw_gd := gs_3 101 (by decide +kernel) (by decide +kernel)
set_option maxRecDepth 100000 in
theorem kI8_ruleOf : Cond.instanceMethod yX8_ruleOf ∈ lw_gd := gs_3 100 (by decide +kernel) (by decide +kernel)
set_option maxRecDepth 100000 in
theorem kS8_ruleOf : Cond.selects RX8 yX8_ruleOf yX8_ruleOf ∈ lw_gd := gd_at 1 (by decide +kernel) (by decide +kernel)
set_option maxRecDepth 100000 in
theorem kC8_playWet : Cond.code yX8_playWet cX8_playWet 9 none ∈ lw_gd := gs_3 97 (by decide +kernel) (by decide +kernel)
set_option maxRecDepth 100000 in
theorem kI8_playWet : Cond.instanceMethod yX8_playWet ∈ lw_gd := gs_3 96 (by decide +kernel) (by decide +kernel)
set_option maxRecDepth 100000 in
theorem kS8_playWet : Cond.selects RX8 yX8_playWet yX8_playWet ∈ lw_gd := gd_at 0 (by decide +kernel) (by decide +kernel)
set_option maxRecDepth 100000 in
theorem kC8_gain : Cond.code yX8_gain cX8_gain 4 none ∈ lw_gd := gs_3 117 (by decide +kernel) (by decide +kernel)
set_option maxRecDepth 100000 in
theorem kI8_gain : Cond.instanceMethod yX8_gain ∈ lw_gd := gs_3 116 (by decide +kernel) (by decide +kernel)
set_option maxRecDepth 100000 in
theorem kS8_gain : Cond.selects RX8 yX8_gain yX8_gain ∈ lw_gd := gd_at 2 (by decide +kernel) (by decide +kernel)
set_option maxRecDepth 100000 in
theorem kC8_someGone : Cond.code yX8_someGone cX8_someGone 2 (some .boolean) ∈ lw_gd := gs_3 159 (by decide +kernel) (by decide +kernel)
set_option maxRecDepth 100000 in
theorem kI8_someGone : Cond.instanceMethod yX8_someGone ∈ lw_gd := gs_3 157 (by decide +kernel) (by decide +kernel)
set_option maxRecDepth 100000 in
theorem kS8_someGone : Cond.selects RX8 yX8_someGone yX8_someGone ∈ lw_gd := gs_3 158 (by decide +kernel) (by decide +kernel)
set_option maxRecDepth 100000 in
theorem kC8_partOf : Cond.code yX8_partOf cX8_partOf 4 (some .int) ∈ lw_gd := gs_4 38 (by decide +kernel) (by decide +kernel)
set_option maxRecDepth 100000 in
theorem kI8_partOf : Cond.instanceMethod yX8_partOf ∈ lw_gd := gs_4 37 (by decide +kernel) (by decide +kernel)
set_option maxRecDepth 100000 in
theorem kS8_partOf : Cond.selects RX8 yX8_partOf yX8_partOf ∈ lw_gd := gd_at 9 (by decide +kernel) (by decide +kernel)
set_option maxRecDepth 100000 in
theorem kC8_sinkOf : Cond.code yX8_sinkOf cX8_sinkOf 4 (some .int) ∈ lw_gd := gs_4 34 (by decide +kernel) (by decide +kernel)
set_option maxRecDepth 100000 in
theorem kI8_sinkOf : Cond.instanceMethod yX8_sinkOf ∈ lw_gd := gs_4 32 (by decide +kernel) (by decide +kernel)
set_option maxRecDepth 100000 in
theorem kS8_sinkOf : Cond.selects RX8 yX8_sinkOf yX8_sinkOf ∈ lw_gd := gs_4 33 (by decide +kernel) (by decide +kernel)
set_option maxRecDepth 100000 in
theorem kC8_greatestPart : Cond.code yX8_greatestPart cX8_greatestPart 4 (some .int) ∈ lw_gd := gs_4 59 (by decide +kernel) (by decide +kernel)
set_option maxRecDepth 100000 in
theorem kI8_greatestPart : Cond.instanceMethod yX8_greatestPart ∈ lw_gd := gs_4 57 (by decide +kernel) (by decide +kernel)
set_option maxRecDepth 100000 in
theorem kS8_greatestPart : Cond.selects RX8 yX8_greatestPart yX8_greatestPart ∈ lw_gd := gs_4 58 (by decide +kernel) (by decide +kernel)
set_option maxRecDepth 100000 in
theorem kC8_gripOf : Cond.code yX8_gripOf cX8_gripOf 2 (some .int) ∈ lw_gd := gs_4 105 (by decide +kernel) (by decide +kernel)
set_option maxRecDepth 100000 in
theorem kI8_gripOf : Cond.instanceMethod yX8_gripOf ∈ lw_gd := gs_4 103 (by decide +kernel) (by decide +kernel)
set_option maxRecDepth 100000 in
theorem kS8_gripOf : Cond.selects RX8 yX8_gripOf yX8_gripOf ∈ lw_gd := gs_4 104 (by decide +kernel) (by decide +kernel)
set_option maxRecDepth 100000 in
theorem kC9_init : Cond.code yX9_init cX9_init 1 none ∈ lw_gd := gs_1 191 (by decide +kernel) (by decide +kernel)
set_option maxRecDepth 100000 in
theorem kI9_init : Cond.instanceMethod yX9_init ∈ lw_gd := gs_1 190 (by decide +kernel) (by decide +kernel)
set_option maxRecDepth 100000 in
theorem kC9_hasWord : Cond.code yX9_hasWord cX9_hasWord 2 (some .boolean) ∈ lw_gd := gs_3 233 (by decide +kernel) (by decide +kernel)
set_option maxRecDepth 100000 in
theorem kI9_hasWord : Cond.instanceMethod yX9_hasWord ∈ lw_gd := gs_3 231 (by decide +kernel) (by decide +kernel)
set_option maxRecDepth 100000 in
theorem kS9_hasWord : Cond.selects RX9 yX9_hasWord yX9_hasWord ∈ lw_gd := gs_3 232 (by decide +kernel) (by decide +kernel)
set_option maxRecDepth 100000 in
theorem kC9_addWord : Cond.code yX9_addWord cX9_addWord 6 (some .int) ∈ lw_gd := gs_3 225 (by decide +kernel) (by decide +kernel)
set_option maxRecDepth 100000 in
theorem kI9_addWord : Cond.instanceMethod yX9_addWord ∈ lw_gd := gs_3 223 (by decide +kernel) (by decide +kernel)
set_option maxRecDepth 100000 in
theorem kS9_addWord : Cond.selects RX9 yX9_addWord yX9_addWord ∈ lw_gd := gs_3 224 (by decide +kernel) (by decide +kernel)
set_option maxRecDepth 100000 in
theorem kC9_setOf : Cond.code yX9_setOf cX9_setOf 6 (some .int) ∈ lw_gd := gs_3 149 (by decide +kernel) (by decide +kernel)
set_option maxRecDepth 100000 in
theorem kI9_setOf : Cond.instanceMethod yX9_setOf ∈ lw_gd := gs_3 148 (by decide +kernel) (by decide +kernel)
set_option maxRecDepth 100000 in
theorem kS9_setOf : Cond.selects RX9 yX9_setOf yX9_setOf ∈ lw_gd := gd_at 4 (by decide +kernel) (by decide +kernel)
set_option maxRecDepth 100000 in
theorem kC9_forget : Cond.code yX9_forget cX9_forget 1 none ∈ lw_gd := gs_2 221 (by decide +kernel) (by decide +kernel)
set_option maxRecDepth 100000 in
theorem kI9_forget : Cond.instanceMethod yX9_forget ∈ lw_gd := gs_2 219 (by decide +kernel) (by decide +kernel)
set_option maxRecDepth 100000 in
theorem kS9_forget : Cond.selects RX9 yX9_forget yX9_forget ∈ lw_gd := gs_2 220 (by decide +kernel) (by decide +kernel)
set_option maxRecDepth 100000 in
theorem kC9_look : Cond.code yX9_look cX9_look 6 none ∈ lw_gd := gs_3 129 (by decide +kernel) (by decide +kernel)
set_option maxRecDepth 100000 in
theorem kI9_look : Cond.instanceMethod yX9_look ∈ lw_gd := gs_3 127 (by decide +kernel) (by decide +kernel)
set_option maxRecDepth 100000 in
theorem kS9_look : Cond.selects RX9 yX9_look yX9_look ∈ lw_gd := gs_3 128 (by decide +kernel) (by decide +kernel)
set_option maxRecDepth 100000 in
theorem kC9_lookBySounding : Cond.code yX9_lookBySounding cX9_lookBySounding 5 none ∈ lw_gd := gs_3 134 (by decide +kernel) (by decide +kernel)
set_option maxRecDepth 100000 in
theorem kI9_lookBySounding : Cond.instanceMethod yX9_lookBySounding ∈ lw_gd := gs_3 133 (by decide +kernel) (by decide +kernel)
set_option maxRecDepth 100000 in
theorem kS9_lookBySounding : Cond.selects RX9 yX9_lookBySounding yX9_lookBySounding ∈ lw_gd := gd_at 3 (by decide +kernel) (by decide +kernel)
set_option maxRecDepth 100000 in
theorem kC9_lookByRuns : Cond.code yX9_lookByRuns cX9_lookByRuns 6 none ∈ lw_gd := gs_3 154 (by decide +kernel) (by decide +kernel)
set_option maxRecDepth 100000 in
theorem kI9_lookByRuns : Cond.instanceMethod yX9_lookByRuns ∈ lw_gd := gs_3 153 (by decide +kernel) (by decide +kernel)
set_option maxRecDepth 100000 in
theorem kS9_lookByRuns : Cond.selects RX9 yX9_lookByRuns yX9_lookByRuns ∈ lw_gd := gd_at 5 (by decide +kernel) (by decide +kernel)
set_option maxRecDepth 100000 in
theorem kC9_keep : Cond.code yX9_keep cX9_keep 3 (some .boolean) ∈ lw_gd := gs_3 167 (by decide +kernel) (by decide +kernel)
set_option maxRecDepth 100000 in
theorem kI9_keep : Cond.instanceMethod yX9_keep ∈ lw_gd := gs_3 165 (by decide +kernel) (by decide +kernel)
set_option maxRecDepth 100000 in
theorem kS9_keep : Cond.selects RX9 yX9_keep yX9_keep ∈ lw_gd := gs_3 166 (by decide +kernel) (by decide +kernel)
set_option maxRecDepth 100000 in
theorem kC9_countKept : Cond.code yX9_countKept cX9_countKept 4 (some .int) ∈ lw_gd := gs_3 171 (by decide +kernel) (by decide +kernel)
set_option maxRecDepth 100000 in
theorem kI9_countKept : Cond.instanceMethod yX9_countKept ∈ lw_gd := gs_3 169 (by decide +kernel) (by decide +kernel)
set_option maxRecDepth 100000 in
theorem kS9_countKept : Cond.selects RX9 yX9_countKept yX9_countKept ∈ lw_gd := gs_3 170 (by decide +kernel) (by decide +kernel)
set_option maxRecDepth 100000 in
theorem kC9_firstKept : Cond.code yX9_firstKept cX9_firstKept 3 (some .int) ∈ lw_gd := gs_3 163 (by decide +kernel) (by decide +kernel)
set_option maxRecDepth 100000 in
theorem kI9_firstKept : Cond.instanceMethod yX9_firstKept ∈ lw_gd := gs_3 161 (by decide +kernel) (by decide +kernel)
set_option maxRecDepth 100000 in
theorem kS9_firstKept : Cond.selects RX9 yX9_firstKept yX9_firstKept ∈ lw_gd := gs_3 162 (by decide +kernel) (by decide +kernel)
set_option maxRecDepth 100000 in
theorem kC9_countAgainst : Cond.code yX9_countAgainst cX9_countAgainst 5 (some .int) ∈ lw_gd := gs_4 1 (by decide +kernel) (by decide +kernel)
set_option maxRecDepth 100000 in
theorem kI9_countAgainst : Cond.instanceMethod yX9_countAgainst ∈ lw_gd := gs_3 239 (by decide +kernel) (by decide +kernel)
set_option maxRecDepth 100000 in
theorem kS9_countAgainst : Cond.selects RX9 yX9_countAgainst yX9_countAgainst ∈ lw_gd := gs_4 0 (by decide +kernel) (by decide +kernel)
set_option maxRecDepth 100000 in
theorem kC9_fewestAgainst : Cond.code yX9_fewestAgainst cX9_fewestAgainst 6 (some .int) ∈ lw_gd := gs_4 9 (by decide +kernel) (by decide +kernel)
set_option maxRecDepth 100000 in
theorem kI9_fewestAgainst : Cond.instanceMethod yX9_fewestAgainst ∈ lw_gd := gs_4 7 (by decide +kernel) (by decide +kernel)
set_option maxRecDepth 100000 in
theorem kS9_fewestAgainst : Cond.selects RX9 yX9_fewestAgainst yX9_fewestAgainst ∈ lw_gd := gs_4 8 (by decide +kernel) (by decide +kernel)
set_option maxRecDepth 100000 in
theorem kC10_init : Cond.code yX10_init cX10_init 1 none ∈ lw_gd := gs_2 42 (by decide +kernel) (by decide +kernel)
set_option maxRecDepth 100000 in
theorem kI10_init : Cond.instanceMethod yX10_init ∈ lw_gd := gs_2 41 (by decide +kernel) (by decide +kernel)
set_option maxRecDepth 100000 in
theorem kC10_addWork : Cond.code yX10_addWork cX10_addWork 5 (some .int) ∈ lw_gd := gs_4 145 (by decide +kernel) (by decide +kernel)
set_option maxRecDepth 100000 in
theorem kI10_addWork : Cond.instanceMethod yX10_addWork ∈ lw_gd := gs_4 143 (by decide +kernel) (by decide +kernel)
set_option maxRecDepth 100000 in
theorem kS10_addWork : Cond.selects RX10 yX10_addWork yX10_addWork ∈ lw_gd := gs_4 144 (by decide +kernel) (by decide +kernel)
set_option maxRecDepth 100000 in
theorem kC10_forgetVerdicts : Cond.code yX10_forgetVerdicts cX10_forgetVerdicts 2 none ∈ lw_gd := gs_4 162 (by decide +kernel) (by decide +kernel)
set_option maxRecDepth 100000 in
theorem kI10_forgetVerdicts : Cond.instanceMethod yX10_forgetVerdicts ∈ lw_gd := gs_4 160 (by decide +kernel) (by decide +kernel)
set_option maxRecDepth 100000 in
theorem kS10_forgetVerdicts : Cond.selects RX10 yX10_forgetVerdicts yX10_forgetVerdicts ∈ lw_gd := gs_4 161 (by decide +kernel) (by decide +kernel)
set_option maxRecDepth 100000 in
theorem kC10_holds : Cond.code yX10_holds cX10_holds 2 (some .boolean) ∈ lw_gd := gs_4 185 (by decide +kernel) (by decide +kernel)
set_option maxRecDepth 100000 in
theorem kT10_holds : Cond.static yX10_holds ∈ lw_gd := gs_4 184 (by decide +kernel) (by decide +kernel)
set_option maxRecDepth 100000 in
theorem kC10_setOn : Cond.code yX10_setOn cX10_setOn 4 (some .int) ∈ lw_gd := gs_4 170 (by decide +kernel) (by decide +kernel)
set_option maxRecDepth 100000 in
theorem kI10_setOn : Cond.instanceMethod yX10_setOn ∈ lw_gd := gs_4 168 (by decide +kernel) (by decide +kernel)
set_option maxRecDepth 100000 in
theorem kS10_setOn : Cond.selects RX10 yX10_setOn yX10_setOn ∈ lw_gd := gs_4 169 (by decide +kernel) (by decide +kernel)
set_option maxRecDepth 100000 in
theorem kC10_priceOf : Cond.code yX10_priceOf cX10_priceOf 4 (some .int) ∈ lw_gd := gs_4 193 (by decide +kernel) (by decide +kernel)
set_option maxRecDepth 100000 in
theorem kI10_priceOf : Cond.instanceMethod yX10_priceOf ∈ lw_gd := gs_4 191 (by decide +kernel) (by decide +kernel)
set_option maxRecDepth 100000 in
theorem kS10_priceOf : Cond.selects RX10 yX10_priceOf yX10_priceOf ∈ lw_gd := gs_4 192 (by decide +kernel) (by decide +kernel)
set_option maxRecDepth 100000 in
theorem kC10_sumOn : Cond.code yX10_sumOn cX10_sumOn 6 (some .int) ∈ lw_gd := gs_4 182 (by decide +kernel) (by decide +kernel)
set_option maxRecDepth 100000 in
theorem kI10_sumOn : Cond.instanceMethod yX10_sumOn ∈ lw_gd := gs_4 180 (by decide +kernel) (by decide +kernel)
set_option maxRecDepth 100000 in
theorem kS10_sumOn : Cond.selects RX10 yX10_sumOn yX10_sumOn ∈ lw_gd := gs_4 181 (by decide +kernel) (by decide +kernel)
set_option maxRecDepth 100000 in
theorem kL11_222 : Cond.constantLong RX11 222 (-1001 : Int64) ∈ lw_gd := gs_3 184 (by decide +kernel) (by decide +kernel)
set_option maxRecDepth 100000 in
theorem kL11_224 : Cond.constantLong RX11 224 (-1002 : Int64) ∈ lw_gd := gs_3 185 (by decide +kernel) (by decide +kernel)
set_option maxRecDepth 100000 in
theorem kL11_233 : Cond.constantLong RX11 233 (-1005 : Int64) ∈ lw_gd := gs_3 206 (by decide +kernel) (by decide +kernel)
set_option maxRecDepth 100000 in
theorem kL11_347 : Cond.constantLong RX11 347 (-1003 : Int64) ∈ lw_gd := gs_4 121 (by decide +kernel) (by decide +kernel)
set_option maxRecDepth 100000 in
theorem kL11_367 : Cond.constantLong RX11 367 (-1 : Int64) ∈ lw_gd := gs_4 137 (by decide +kernel) (by decide +kernel)
set_option maxRecDepth 100000 in
theorem kL2_27 : Cond.constantLong RX2 27 (255 : Int64) ∈ lw_gd := gs_4 206 (by decide +kernel) (by decide +kernel)
set_option maxRecDepth 100000 in
theorem kL12_163 : Cond.constantLong RX12 163 (5 : Int64) ∈ lw_gd := gs_6 87 (by decide +kernel) (by decide +kernel)
set_option maxRecDepth 100000 in
theorem kL12_176 : Cond.constantLong RX12 176 (999 : Int64) ∈ lw_gd := gs_6 91 (by decide +kernel) (by decide +kernel)
set_option maxRecDepth 100000 in
theorem kL12_178 : Cond.constantLong RX12 178 (400 : Int64) ∈ lw_gd := gs_6 92 (by decide +kernel) (by decide +kernel)
set_option maxRecDepth 100000 in
theorem kL12_180 : Cond.constantLong RX12 180 (3 : Int64) ∈ lw_gd := gs_6 97 (by decide +kernel) (by decide +kernel)
set_option maxRecDepth 100000 in
theorem kL12_182 : Cond.constantLong RX12 182 (60 : Int64) ∈ lw_gd := gs_6 98 (by decide +kernel) (by decide +kernel)
set_option maxRecDepth 100000 in
theorem kL12_184 : Cond.constantLong RX12 184 (100 : Int64) ∈ lw_gd := gs_6 99 (by decide +kernel) (by decide +kernel)
set_option maxRecDepth 100000 in
theorem kL12_190 : Cond.constantLong RX12 190 (9 : Int64) ∈ lw_gd := gs_6 108 (by decide +kernel) (by decide +kernel)
set_option maxRecDepth 100000 in
theorem kL12_205 : Cond.constantLong RX12 205 (1000 : Int64) ∈ lw_gd := gs_6 133 (by decide +kernel) (by decide +kernel)
set_option maxRecDepth 100000 in
theorem kL12_252 : Cond.constantLong RX12 252 (2 : Int64) ∈ lw_gd := gs_6 174 (by decide +kernel) (by decide +kernel)
set_option maxRecDepth 100000 in
theorem kL12_306 : Cond.constantLong RX12 306 (-1001 : Int64) ∈ lw_gd := gs_6 226 (by decide +kernel) (by decide +kernel)
set_option maxRecDepth 100000 in
theorem kL12_308 : Cond.constantLong RX12 308 (-1002 : Int64) ∈ lw_gd := gs_6 227 (by decide +kernel) (by decide +kernel)
set_option maxRecDepth 100000 in
theorem kL12_318 : Cond.constantLong RX12 318 (-1005 : Int64) ∈ lw_gd := gs_7 11 (by decide +kernel) (by decide +kernel)
set_option maxRecDepth 100000 in
theorem kL12_320 : Cond.constantLong RX12 320 (9999 : Int64) ∈ lw_gd := gs_7 20 (by decide +kernel) (by decide +kernel)
set_option maxRecDepth 100000 in
theorem kL12_337 : Cond.constantLong RX12 337 (99 : Int64) ∈ lw_gd := gs_7 61 (by decide +kernel) (by decide +kernel)
set_option maxRecDepth 100000 in
theorem kL12_358 : Cond.constantLong RX12 358 (-1003 : Int64) ∈ lw_gd := gs_7 86 (by decide +kernel) (by decide +kernel)
set_option maxRecDepth 100000 in
theorem kL12_360 : Cond.constantLong RX12 360 (4 : Int64) ∈ lw_gd := gs_7 91 (by decide +kernel) (by decide +kernel)
set_option maxRecDepth 100000 in
theorem kL12_362 : Cond.constantLong RX12 362 (-1 : Int64) ∈ lw_gd := gs_7 92 (by decide +kernel) (by decide +kernel)
set_option maxRecDepth 100000 in
theorem kL12_364 : Cond.constantLong RX12 364 (500 : Int64) ∈ lw_gd := gs_7 97 (by decide +kernel) (by decide +kernel)
set_option maxRecDepth 100000 in
theorem kL12_391 : Cond.constantLong RX12 391 (8 : Int64) ∈ lw_gd := gs_7 146 (by decide +kernel) (by decide +kernel)
set_option maxRecDepth 100000 in
theorem kL12_393 : Cond.constantLong RX12 393 (255 : Int64) ∈ lw_gd := gs_7 147 (by decide +kernel) (by decide +kernel)
set_option maxRecDepth 100000 in
theorem kL12_408 : Cond.constantLong RX12 408 (97 : Int64) ∈ lw_gd := gs_7 164 (by decide +kernel) (by decide +kernel)
set_option maxRecDepth 100000 in
theorem kL12_410 : Cond.constantLong RX12 410 (122 : Int64) ∈ lw_gd := gs_7 165 (by decide +kernel) (by decide +kernel)
set_option maxRecDepth 100000 in
theorem kL12_412 : Cond.constantLong RX12 412 (10000000000 : Int64) ∈ lw_gd := gs_7 166 (by decide +kernel) (by decide +kernel)
set_option maxRecDepth 100000 in
theorem kL12_414 : Cond.constantLong RX12 414 (20000000000 : Int64) ∈ lw_gd := gs_7 167 (by decide +kernel) (by decide +kernel)
set_option maxRecDepth 100000 in
theorem kL12_416 : Cond.constantLong RX12 416 (27 : Int64) ∈ lw_gd := gs_7 168 (by decide +kernel) (by decide +kernel)
set_option maxRecDepth 100000 in
theorem kL12_418 : Cond.constantLong RX12 418 (96 : Int64) ∈ lw_gd := gs_7 169 (by decide +kernel) (by decide +kernel)
set_option maxRecDepth 100000 in
theorem kL12_424 : Cond.constantLong RX12 424 (48 : Int64) ∈ lw_gd := gs_7 189 (by decide +kernel) (by decide +kernel)
set_option maxRecDepth 100000 in
theorem kL12_426 : Cond.constantLong RX12 426 (57 : Int64) ∈ lw_gd := gs_7 190 (by decide +kernel) (by decide +kernel)
set_option maxRecDepth 100000 in
theorem kL12_462 : Cond.constantLong RX12 462 (24 : Int64) ∈ lw_gd := gs_7 213 (by decide +kernel) (by decide +kernel)
set_option maxRecDepth 100000 in
theorem kLL_136 : Cond.constantLong RL 136 (4294967295 : Int64) ∈ lw_gd := gs_7 214 (by decide +kernel) (by decide +kernel)
/-- links to a nest mate's private member -/
def lw_nest : List Cond := [Cond.methodLinkNest RX11 9 yX8_init "SoupSand", Cond.methodLinkNest RX11 33 yX9_init "SoupSand", Cond.methodLinkNest RX11 40 yX1_init "SoupSand", Cond.methodLinkNest RX11 47 yX7_init "SoupSand", Cond.methodLinkNest RX11 54 yX10_init "SoupSand", Cond.methodLinkNest RX11 61 yX6_init "SoupSand", Cond.methodLinkNest RX11 68 yX5_init "SoupSand", Cond.methodLinkNest RX11 75 yX2_init "SoupSand", Cond.methodLinkNest RX2 78 yX11_beyond "SoupSand", Cond.methodLinkNest RX6 44 yX11_leastTerms "SoupSand", Cond.methodLinkNest RX8 20 yX4_init "SoupSand", Cond.methodLinkNest RX9 82 yX11_beyond "SoupSand"]
theorem kn11_9 : Cond.methodLinkNest RX11 9 yX8_init "SoupSand" ∈ lw_nest := List.mem_of_getElem? (i := 0) rfl
theorem kn11_33 : Cond.methodLinkNest RX11 33 yX9_init "SoupSand" ∈ lw_nest := List.mem_of_getElem? (i := 1) rfl
theorem kn11_40 : Cond.methodLinkNest RX11 40 yX1_init "SoupSand" ∈ lw_nest := List.mem_of_getElem? (i := 2) rfl
theorem kn11_47 : Cond.methodLinkNest RX11 47 yX7_init "SoupSand" ∈ lw_nest := List.mem_of_getElem? (i := 3) rfl
theorem kn11_54 : Cond.methodLinkNest RX11 54 yX10_init "SoupSand" ∈ lw_nest := List.mem_of_getElem? (i := 4) rfl
theorem kn11_61 : Cond.methodLinkNest RX11 61 yX6_init "SoupSand" ∈ lw_nest := List.mem_of_getElem? (i := 5) rfl
theorem kn11_68 : Cond.methodLinkNest RX11 68 yX5_init "SoupSand" ∈ lw_nest := List.mem_of_getElem? (i := 6) rfl
theorem kn11_75 : Cond.methodLinkNest RX11 75 yX2_init "SoupSand" ∈ lw_nest := List.mem_of_getElem? (i := 7) rfl
theorem kn2_78 : Cond.methodLinkNest RX2 78 yX11_beyond "SoupSand" ∈ lw_nest := List.mem_of_getElem? (i := 8) rfl
theorem kn6_44 : Cond.methodLinkNest RX6 44 yX11_leastTerms "SoupSand" ∈ lw_nest := List.mem_of_getElem? (i := 9) rfl
theorem kn8_20 : Cond.methodLinkNest RX8 20 yX4_init "SoupSand" ∈ lw_nest := List.mem_of_getElem? (i := 10) rfl
theorem kn9_82 : Cond.methodLinkNest RX9 82 yX11_beyond "SoupSand" ∈ lw_nest := List.mem_of_getElem? (i := 11) rfl
set_option maxRecDepth 100000 in
theorem lw_nest_in : ∀ w ∈ lw_nest, w ∈ lw_tbl := by
  intro w h
  unfold lw_nest at h
  simp only [List.mem_cons, List.not_mem_nil, or_false] at h
  rcases h with rfl | rfl | rfl | rfl | rfl | rfl | rfl | rfl | rfl | rfl | rfl | rfl
  · exact List.mem_append_right _ (gt_1 (List.mem_of_getElem? (i := 31) (by decide +kernel)))
  · exact List.mem_append_right _ (gt_1 (List.mem_of_getElem? (i := 189) (by decide +kernel)))
  · exact List.mem_append_right _ (gt_1 (List.mem_of_getElem? (i := 230) (by decide +kernel)))
  · exact List.mem_append_right _ (gt_2 (List.mem_of_getElem? (i := 13) (by decide +kernel)))
  · exact List.mem_append_right _ (gt_2 (List.mem_of_getElem? (i := 40) (by decide +kernel)))
  · exact List.mem_append_right _ (gt_2 (List.mem_of_getElem? (i := 67) (by decide +kernel)))
  · exact List.mem_append_right _ (gt_2 (List.mem_of_getElem? (i := 105) (by decide +kernel)))
  · exact List.mem_append_right _ (gt_2 (List.mem_of_getElem? (i := 143) (by decide +kernel)))
  · exact List.mem_append_right _ (gt_5 (List.mem_of_getElem? (i := 71) (by decide +kernel)))
  · exact List.mem_append_right _ (gt_3 (List.mem_of_getElem? (i := 211) (by decide +kernel)))
  · exact List.mem_append_right _ (gt_1 (List.mem_of_getElem? (i := 82) (by decide +kernel)))
  · exact List.mem_append_right _ (gt_3 (List.mem_of_getElem? (i := 137) (by decide +kernel)))
theorem lw_nest_form : ∀ w ∈ lw_nest, ∃ (a : String) (i : Nat) (y : MethodName) (b : String), w = .methodLinkNest a i y b := by
  intro w h
  unfold lw_nest at h
  simp only [List.mem_cons, List.not_mem_nil, or_false] at h
  rcases h with rfl | rfl | rfl | rfl | rfl | rfl | rfl | rfl | rfl | rfl | rfl | rfl <;> exact ⟨_, _, _, _, rfl⟩
set_option maxRecDepth 100000 in
theorem kJN_Math : Cond.initialized "java/lang/Math" ∈ lw_gd := gs_1 14 (by decide +kernel) (by decide +kernel)
set_option maxRecDepth 100000 in
theorem kJN_Integer : Cond.initialized "java/lang/Integer" ∈ lw_gd := gs_1 15 (by decide +kernel) (by decide +kernel)
set_option maxRecDepth 100000 in
theorem kJN_System : Cond.initialized "java/lang/System" ∈ lw_gd := gs_1 16 (by decide +kernel) (by decide +kernel)
set_option maxRecDepth 100000 in
theorem kJN_String : Cond.initialized "java/lang/String" ∈ lw_gd := gs_1 17 (by decide +kernel) (by decide +kernel)
set_option maxRecDepth 100000 in
theorem kJN_StringLatin1 : Cond.initialized "java/lang/StringLatin1" ∈ lw_gd := gs_1 18 (by decide +kernel) (by decide +kernel)
set_option maxRecDepth 100000 in
theorem kJT_max : Cond.static Lib.Math.max.name ∈ lw_gd := gs_3 30 (by decide +kernel) (by decide +kernel)
set_option maxRecDepth 100000 in
theorem kJC_max : Cond.code Lib.Math.max.name Lib.Math.max.code 2 (some .int) ∈ lw_gd := gs_3 31 (by decide +kernel) (by decide +kernel)
set_option maxRecDepth 100000 in
theorem kJT_min : Cond.static Lib.Math.min.name ∈ lw_gd := gs_3 103 (by decide +kernel) (by decide +kernel)
set_option maxRecDepth 100000 in
theorem kJC_min : Cond.code Lib.Math.min.name Lib.Math.min.code 2 (some .int) ∈ lw_gd := gs_3 104 (by decide +kernel) (by decide +kernel)
set_option maxRecDepth 100000 in
theorem kJT_abs : Cond.static Lib.Math.abs.name ∈ lw_gd := gs_4 65 (by decide +kernel) (by decide +kernel)
set_option maxRecDepth 100000 in
theorem kJC_abs : Cond.code Lib.Math.abs.name Lib.Math.abs.code 1 (some .int) ∈ lw_gd := gs_4 66 (by decide +kernel) (by decide +kernel)
set_option maxRecDepth 100000 in
theorem kJT_copy : Cond.static arraycopyName ∈ lw_gd := gs_3 88 (by decide +kernel) (by decide +kernel)
set_option maxRecDepth 100000 in
theorem kJV_copy : Cond.native arraycopyName ∈ lw_gd := gs_3 89 (by decide +kernel) (by decide +kernel)
set_option maxRecDepth 100000 in
theorem kZ_FIRST : Cond.fieldLink RX3 17 "SoupSand$Rules" "FIRST" "[I" ∈ lw_gd := gs_1 114 (by decide +kernel) (by decide +kernel)
set_option maxRecDepth 100000 in
theorem kZ_LOWEST : Cond.fieldLink RX3 23 "SoupSand$Rules" "LOWEST" "[I" ∈ lw_gd := gs_5 79 (by decide +kernel) (by decide +kernel)
set_option maxRecDepth 100000 in
theorem kZ_HIGHEST : Cond.fieldLink RX3 26 "SoupSand$Rules" "HIGHEST" "[I" ∈ lw_gd := gs_5 84 (by decide +kernel) (by decide +kernel)
