def RX0 : String := "SkiHill$Carrier"
def TX0 : u_T := fun k => match k with
  | _ => ("", "", "", false)
def tyX0 : Nat → FieldType := fun k => match k with
  | _ => .int
abbrev wsX00 : List Cond := u_ws RX0 TX0 0
theorem nmX0 : ∀ a, a < 0 → ∀ b, b < 0 → a ≠ b → (TX0 a).2.1 ≠ (TX0 b).2.1 := by decide +kernel
theorem tyX0_ok : ∀ k, k < 0 → parseFieldDescriptor (TX0 k).2.2.1 = some (tyX0 k) := by decide +kernel
abbrev cX0_leastSum : ByteArray := prog_2_method_2_code
def yX0_leastSum : MethodName := ⟨RX0, "leastSum", "(Ljava/util/ArrayList;Ljava/util/ArrayList;)J"⟩
abbrev cX0_prepare : ByteArray := prog_2_method_3_code
def yX0_prepare : MethodName := ⟨RX0, "prepare", "(Ljava/util/ArrayList;Ljava/util/ArrayList;)V"⟩
abbrev cX0_anyMissing : ByteArray := prog_2_method_4_code
def yX0_anyMissing : MethodName := ⟨RX0, "anyMissing", "(Ljava/util/ArrayList;)Z"⟩
abbrev cX0_measure : ByteArray := prog_2_method_5_code
def yX0_measure : MethodName := ⟨RX0, "measure", "(Ljava/util/ArrayList;Ljava/util/ArrayList;)V"⟩
abbrev cX0_brings : ByteArray := prog_2_method_6_code
def yX0_brings : MethodName := ⟨RX0, "brings", "(LSkiHill$Link;LSkiHill$Cell;)Z"⟩
abbrev cX0_nearestMissing : ByteArray := prog_2_method_7_code
def yX0_nearestMissing : MethodName := ⟨RX0, "nearestMissing", "(Ljava/util/ArrayList;)LSkiHill$Cell;"⟩
abbrev cX0_carryTo : ByteArray := prog_2_method_8_code
def yX0_carryTo : MethodName := ⟨RX0, "carryTo", "(LSkiHill$Cell;I)V"⟩
abbrev cX0_sumCarried : ByteArray := prog_2_method_9_code
def yX0_sumCarried : MethodName := ⟨RX0, "sumCarried", "(Ljava/util/ArrayList;)J"⟩
def RX1 : String := "SkiHill$Cell"
def TX1 : u_T := fun k => match k with
  | 0 => ("SkiHill$Cell", "slope", "I", true)
  | 1 => ("SkiHill$Cell", "snow", "[I", true)
  | 2 => ("SkiHill$Cell", "want", "I", false)
  | 3 => ("SkiHill$Cell", "price", "I", false)
  | 4 => ("SkiHill$Cell", "spare", "I", false)
  | 5 => ("SkiHill$Cell", "missing", "I", false)
  | 6 => ("SkiHill$Cell", "far", "I", false)
  | _ => ("SkiHill$Cell", "via", "LSkiHill$Link;", false)
def tyX1 : Nat → FieldType := fun k => match k with
  | 0 => .int
  | 1 => .array .int
  | 2 => .int
  | 3 => .int
  | 4 => .int
  | 5 => .int
  | 6 => .int
  | _ => .object "SkiHill$Link"
abbrev wsX10 : List Cond := u_ws RX1 TX1 8
theorem nmX1 : ∀ a, a < 8 → ∀ b, b < 8 → a ≠ b → (TX1 a).2.1 ≠ (TX1 b).2.1 := by decide +kernel
theorem tyX1_ok : ∀ k, k < 8 → parseFieldDescriptor (TX1 k).2.2.1 = some (tyX1 k) := by decide +kernel
abbrev cX1_init : ByteArray := prog_3_method_1_code
def yX1_init : MethodName := ⟨RX1, "<init>", "(I)V"⟩
abbrev cX1_depth : ByteArray := prog_3_method_2_code
def yX1_depth : MethodName := ⟨RX1, "depth", "()I"⟩
abbrev cX1_lose : ByteArray := prog_3_method_3_code
def yX1_lose : MethodName := ⟨RX1, "lose", "(I)I"⟩
abbrev cX1_becomeWorn : ByteArray := prog_3_method_4_code
def yX1_becomeWorn : MethodName := ⟨RX1, "becomeWorn", "(I)I"⟩
abbrev cX1_becomePushed : ByteArray := prog_3_method_5_code
def yX1_becomePushed : MethodName := ⟨RX1, "becomePushed", "()I"⟩
abbrev cX1_take : ByteArray := prog_3_method_6_code
def yX1_take : MethodName := ⟨RX1, "take", "(II)I"⟩
abbrev cX1_priceTells : ByteArray := prog_3_method_7_code
def yX1_priceTells : MethodName := ⟨RX1, "priceTells", "()J"⟩
def RX2 : String := "SkiHill$Group"
def TX2 : u_T := fun k => match k with
  | 0 => ("SkiHill$Group", "number", "I", true)
  | 1 => ("SkiHill$Group", "size", "I", true)
  | 2 => ("SkiHill$Group", "skill", "I", true)
  | 3 => ("SkiHill$Group", "state", "I", false)
  | 4 => ("SkiHill$Group", "where", "I", false)
  | 5 => ("SkiHill$Group", "endPlace", "I", false)
  | 6 => ("SkiHill$Group", "toGo", "I", false)
  | 7 => ("SkiHill$Group", "rides", "I", false)
  | _ => ("SkiHill$Group", "descents", "I", false)
def tyX2 : Nat → FieldType := fun k => match k with
  | 0 => .int
  | 1 => .int
  | 2 => .int
  | 3 => .int
  | 4 => .int
  | 5 => .int
  | 6 => .int
  | 7 => .int
  | _ => .int
abbrev wsX20 : List Cond := u_ws RX2 TX2 9
theorem nmX2 : ∀ a, a < 9 → ∀ b, b < 9 → a ≠ b → (TX2 a).2.1 ≠ (TX2 b).2.1 := by decide +kernel
theorem tyX2_ok : ∀ k, k < 9 → parseFieldDescriptor (TX2 k).2.2.1 = some (tyX2 k) := by decide +kernel
abbrev cX2_init : ByteArray := prog_4_method_1_code
def yX2_init : MethodName := ⟨RX2, "<init>", "(IIII)V"⟩
abbrev cX2_goOn : ByteArray := prog_4_method_2_code
def yX2_goOn : MethodName := ⟨RX2, "goOn", "()V"⟩
abbrev cX2_goDown : ByteArray := prog_4_method_3_code
def yX2_goDown : MethodName := ⟨RX2, "goDown", "(LSkiHill$Slope;)V"⟩
abbrev cX2_waitAt : ByteArray := prog_4_method_4_code
def yX2_waitAt : MethodName := ⟨RX2, "waitAt", "(LSkiHill$Lift;)V"⟩
abbrev cX2_rideOn : ByteArray := prog_4_method_5_code
def yX2_rideOn : MethodName := ⟨RX2, "rideOn", "(LSkiHill$Lift;)V"⟩
def RX3 : String := "SkiHill$Lift"
def TX3 : u_T := fun k => match k with
  | 0 => ("SkiHill$Lift", "number", "I", true)
  | 1 => ("SkiHill$Lift", "from", "I", true)
  | 2 => ("SkiHill$Lift", "to", "I", true)
  | 3 => ("SkiHill$Lift", "seats", "I", true)
  | 4 => ("SkiHill$Lift", "minutes", "I", true)
  | 5 => ("SkiHill$Lift", "mostWind", "I", true)
  | 6 => ("SkiHill$Lift", "row", "Ljava/util/ArrayList;", true)
  | 7 => ("SkiHill$Lift", "waiting", "I", false)
  | _ => ("SkiHill$Lift", "stopped", "Z", false)
def tyX3 : Nat → FieldType := fun k => match k with
  | 0 => .int
  | 1 => .int
  | 2 => .int
  | 3 => .int
  | 4 => .int
  | 5 => .int
  | 6 => .object "java/util/ArrayList"
  | 7 => .int
  | _ => .boolean
abbrev wsX30 : List Cond := u_ws RX3 TX3 9
theorem nmX3 : ∀ a, a < 9 → ∀ b, b < 9 → a ≠ b → (TX3 a).2.1 ≠ (TX3 b).2.1 := by decide +kernel
theorem tyX3_ok : ∀ k, k < 9 → parseFieldDescriptor (TX3 k).2.2.1 = some (tyX3 k) := by decide +kernel
abbrev cX3_init : ByteArray := prog_5_method_1_code
def yX3_init : MethodName := ⟨RX3, "<init>", "(IIIIII)V"⟩
abbrev cX3_takeLast : ByteArray := prog_5_method_2_code
def yX3_takeLast : MethodName := ⟨RX3, "takeLast", "(LSkiHill$Group;)V"⟩
abbrev cX3_fill : ByteArray := prog_5_method_3_code
def yX3_fill : MethodName := ⟨RX3, "fill", "()V"⟩
def RX4 : String := "SkiHill$Link"
def TX4 : u_T := fun k => match k with
  | 0 => ("SkiHill$Link", "a", "LSkiHill$Cell;", true)
  | 1 => ("SkiHill$Link", "b", "LSkiHill$Cell;", true)
  | 2 => ("SkiHill$Link", "length", "I", true)
  | _ => ("SkiHill$Link", "carried", "I", false)
def tyX4 : Nat → FieldType := fun k => match k with
  | 0 => .object "SkiHill$Cell"
  | 1 => .object "SkiHill$Cell"
  | 2 => .int
  | _ => .int
abbrev wsX40 : List Cond := u_ws RX4 TX4 4
theorem nmX4 : ∀ a, a < 4 → ∀ b, b < 4 → a ≠ b → (TX4 a).2.1 ≠ (TX4 b).2.1 := by decide +kernel
theorem tyX4_ok : ∀ k, k < 4 → parseFieldDescriptor (TX4 k).2.2.1 = some (tyX4 k) := by decide +kernel
abbrev cX4_init : ByteArray := prog_6_method_1_code
def yX4_init : MethodName := ⟨RX4, "<init>", "(LSkiHill$Cell;LSkiHill$Cell;I)V"⟩
abbrev cX4_takesPrices : ByteArray := prog_6_method_2_code
def yX4_takesPrices : MethodName := ⟨RX4, "takesPrices", "()Z"⟩
abbrev cX4_other : ByteArray := prog_6_method_3_code
def yX4_other : MethodName := ⟨RX4, "other", "(LSkiHill$Cell;)LSkiHill$Cell;"⟩
abbrev cX4_carriedFrom : ByteArray := prog_6_method_4_code
def yX4_carriedFrom : MethodName := ⟨RX4, "carriedFrom", "(LSkiHill$Cell;)I"⟩
abbrev cX4_carryFrom : ByteArray := prog_6_method_5_code
def yX4_carryFrom : MethodName := ⟨RX4, "carryFrom", "(LSkiHill$Cell;I)V"⟩
def RX5 : String := "SkiHill$RuleReader"
def TX5 : u_T := fun k => match k with
  | 0 => ("SkiHill$RuleReader", "wrongByte", "I", false)
  | 1 => ("SkiHill$RuleReader", "named", "I", false)
  | 2 => ("SkiHill$RuleReader", "code", "[I", true)
  | 3 => ("SkiHill$RuleReader", "codeLength", "I", false)
  | 4 => ("SkiHill$RuleReader", "text", "[B", false)
  | 5 => ("SkiHill$RuleReader", "length", "I", false)
  | 6 => ("SkiHill$RuleReader", "slopes", "I", false)
  | 7 => ("SkiHill$RuleReader", "lifts", "I", false)
  | 8 => ("SkiHill$RuleReader", "at", "I", false)
  | 9 => ("SkiHill$RuleReader", "start", "I", false)
  | 10 => ("SkiHill$RuleReader", "kind", "I", false)
  | _ => ("SkiHill$RuleReader", "number", "I", false)
def tyX5 : Nat → FieldType := fun k => match k with
  | 0 => .int
  | 1 => .int
  | 2 => .array .int
  | 3 => .int
  | 4 => .array .byte
  | 5 => .int
  | 6 => .int
  | 7 => .int
  | 8 => .int
  | 9 => .int
  | 10 => .int
  | _ => .int
abbrev wsX50 : List Cond := u_ws RX5 TX5 12
theorem nmX5 : ∀ a, a < 12 → ∀ b, b < 12 → a ≠ b → (TX5 a).2.1 ≠ (TX5 b).2.1 := by decide +kernel
theorem tyX5_ok : ∀ k, k < 12 → parseFieldDescriptor (TX5 k).2.2.1 = some (tyX5 k) := by decide +kernel
abbrev cX5_init : ByteArray := prog_7_method_1_code
def yX5_init : MethodName := ⟨RX5, "<init>", "()V"⟩
abbrev cX5_takes : ByteArray := prog_7_method_2_code
def yX5_takes : MethodName := ⟨RX5, "takes", "([BIII)Z"⟩
abbrev cX5_codeCopy : ByteArray := prog_7_method_3_code
def yX5_codeCopy : MethodName := ⟨RX5, "codeCopy", "()[I"⟩
abbrev cX5_fails : ByteArray := prog_7_method_4_code
def yX5_fails : MethodName := ⟨RX5, "fails", "()Z"⟩
abbrev cX5_readEither : ByteArray := prog_7_method_5_code
def yX5_readEither : MethodName := ⟨RX5, "readEither", "(I)Z"⟩
abbrev cX5_readBoth : ByteArray := prog_7_method_6_code
def yX5_readBoth : MethodName := ⟨RX5, "readBoth", "(I)Z"⟩
abbrev cX5_readPart : ByteArray := prog_7_method_7_code
def yX5_readPart : MethodName := ⟨RX5, "readPart", "(I)Z"⟩
abbrev cX5_readNested : ByteArray := prog_7_method_8_code
def yX5_readNested : MethodName := ⟨RX5, "readNested", "(I)Z"⟩
abbrev cX5_readNaming : ByteArray := prog_7_method_9_code
def yX5_readNaming : MethodName := ⟨RX5, "readNaming", "(I)Z"⟩
abbrev cX5_readComparing : ByteArray := prog_7_method_10_code
def yX5_readComparing : MethodName := ⟨RX5, "readComparing", "(I)Z"⟩
abbrev cX5_write : ByteArray := prog_7_method_11_code
def yX5_write : MethodName := ⟨RX5, "write", "(III)V"⟩
abbrev cX5_advance : ByteArray := prog_7_method_12_code
def yX5_advance : MethodName := ⟨RX5, "advance", "()V"⟩
abbrev cX5_advanceNumber : ByteArray := prog_7_method_13_code
def yX5_advanceNumber : MethodName := ⟨RX5, "advanceNumber", "()V"⟩
abbrev cX5_kindOfWord : ByteArray := prog_7_method_14_code
def yX5_kindOfWord : MethodName := ⟨RX5, "kindOfWord", "()I"⟩
abbrev cX5_spells : ByteArray := prog_7_method_15_code
def yX5_spells : MethodName := ⟨RX5, "spells", "(Ljava/lang/String;)Z"⟩
abbrev cX5_kindOfSign : ByteArray := prog_7_method_16_code
def yX5_kindOfSign : MethodName := ⟨RX5, "kindOfSign", "(I)I"⟩
abbrev cX5_byteAt : ByteArray := prog_7_method_17_code
def yX5_byteAt : MethodName := ⟨RX5, "byteAt", "(I)I"⟩
abbrev cX5_isLetter : ByteArray := prog_7_method_18_code
def yX5_isLetter : MethodName := ⟨RX5, "isLetter", "(I)Z"⟩
abbrev cX5_isDigit : ByteArray := prog_7_method_19_code
def yX5_isDigit : MethodName := ⟨RX5, "isDigit", "(I)Z"⟩
def RX6 : String := "SkiHill$Slope"
def TX6 : u_T := fun k => match k with
  | 0 => ("SkiHill$Slope", "number", "I", true)
  | 1 => ("SkiHill$Slope", "from", "I", true)
  | 2 => ("SkiHill$Slope", "to", "I", true)
  | 3 => ("SkiHill$Slope", "minutes", "I", true)
  | 4 => ("SkiHill$Slope", "steep", "I", true)
  | 5 => ("SkiHill$Slope", "cells", "Ljava/util/ArrayList;", true)
  | 6 => ("SkiHill$Slope", "ruled", "Z", false)
  | 7 => ("SkiHill$Slope", "named", "I", false)
  | 8 => ("SkiHill$Slope", "code", "[I", false)
  | _ => ("SkiHill$Slope", "leans", "I", false)
def tyX6 : Nat → FieldType := fun k => match k with
  | 0 => .int
  | 1 => .int
  | 2 => .int
  | 3 => .int
  | 4 => .int
  | 5 => .object "java/util/ArrayList"
  | 6 => .boolean
  | 7 => .int
  | 8 => .array .int
  | _ => .int
abbrev wsX60 : List Cond := u_ws RX6 TX6 10
theorem nmX6 : ∀ a, a < 10 → ∀ b, b < 10 → a ≠ b → (TX6 a).2.1 ≠ (TX6 b).2.1 := by decide +kernel
theorem tyX6_ok : ∀ k, k < 10 → parseFieldDescriptor (TX6 k).2.2.1 = some (tyX6 k) := by decide +kernel
abbrev cX6_init : ByteArray := prog_8_method_1_code
def yX6_init : MethodName := ⟨RX6, "<init>", "(IIIII)V"⟩
abbrev cX6_leastDepth : ByteArray := prog_8_method_2_code
def yX6_leastDepth : MethodName := ⟨RX6, "leastDepth", "()I"⟩
abbrev cX6_mostWorn : ByteArray := prog_8_method_3_code
def yX6_mostWorn : MethodName := ⟨RX6, "mostWorn", "()I"⟩
abbrev cX6_wear : ByteArray := prog_8_method_4_code
def yX6_wear : MethodName := ⟨RX6, "wear", "(I)I"⟩
def RX7 : String := "SkiHill"
def TX7 : u_T := fun k => match k with
  | 0 => ("SkiHill", "lifts", "Ljava/util/ArrayList;", true)
  | 1 => ("SkiHill", "slopes", "Ljava/util/ArrayList;", true)
  | 2 => ("SkiHill", "cells", "Ljava/util/ArrayList;", true)
  | 3 => ("SkiHill", "groups", "Ljava/util/ArrayList;", true)
  | 4 => ("SkiHill", "links", "Ljava/util/ArrayList;", true)
  | 5 => ("SkiHill", "reader", "LSkiHill$RuleReader;", true)
  | 6 => ("SkiHill", "tape", "[B", true)
  | 7 => ("SkiHill", "tapeLength", "I", false)
  | 8 => ("SkiHill", "windNow", "I", false)
  | 9 => ("SkiHill", "minuteNow", "I", false)
  | 10 => ("SkiHill", "faultByte", "I", false)
  | 11 => ("SkiHill", "faultSlopes", "I", false)
  | 12 => ("SkiHill", "snowFallen", "J", false)
  | 13 => ("SkiHill", "snowMade", "J", false)
  | 14 => ("SkiHill", "snowMelted", "J", false)
  | _ => ("SkiHill", "snowWorn", "J", false)
def tyX7 : Nat → FieldType := fun k => match k with
  | 0 => .object "java/util/ArrayList"
  | 1 => .object "java/util/ArrayList"
  | 2 => .object "java/util/ArrayList"
  | 3 => .object "java/util/ArrayList"
  | 4 => .object "java/util/ArrayList"
  | 5 => .object "SkiHill$RuleReader"
  | 6 => .array .byte
  | 7 => .int
  | 8 => .int
  | 9 => .int
  | 10 => .int
  | 11 => .int
  | 12 => .long
  | 13 => .long
  | 14 => .long
  | _ => .long
abbrev wsX70 : List Cond := u_ws RX7 TX7 16
theorem nmX7 : ∀ a, a < 16 → ∀ b, b < 16 → a ≠ b → (TX7 a).2.1 ≠ (TX7 b).2.1 := by decide +kernel
theorem tyX7_ok : ∀ k, k < 16 → parseFieldDescriptor (TX7 k).2.2.1 = some (tyX7 k) := by decide +kernel
abbrev cX7_init : ByteArray := prog_1_method_1_code
def yX7_init : MethodName := ⟨RX7, "<init>", "()V"⟩
abbrev cX7_feed : ByteArray := prog_1_method_2_code
def yX7_feed : MethodName := ⟨RX7, "feed", "(IIIII)I"⟩
abbrev cX7_putNumber : ByteArray := prog_1_method_3_code
def yX7_putNumber : MethodName := ⟨RX7, "putNumber", "(I)V"⟩
abbrev cX7_end : ByteArray := prog_1_method_4_code
def yX7_end : MethodName := ⟨RX7, "end", "(I)Z"⟩
abbrev cX7_lift : ByteArray := prog_1_method_5_code
def yX7_lift : MethodName := ⟨RX7, "lift", "(IIIII)I"⟩
abbrev cX7_slope : ByteArray := prog_1_method_6_code
def yX7_slope : MethodName := ⟨RX7, "slope", "(IIIII)I"⟩
abbrev cX7_addCell : ByteArray := prog_1_method_7_code
def yX7_addCell : MethodName := ⟨RX7, "addCell", "(LSkiHill$Slope;)V"⟩
abbrev cX7_runs : ByteArray := prog_1_method_8_code
def yX7_runs : MethodName := ⟨RX7, "runs", "(I)Z"⟩
abbrev cX7_isRunning : ByteArray := prog_1_method_9_code
def yX7_isRunning : MethodName := ⟨RX7, "isRunning", "(LSkiHill$Lift;)Z"⟩
abbrev cX7_wind : ByteArray := prog_1_method_10_code
def yX7_wind : MethodName := ⟨RX7, "wind", "(I)V"⟩
abbrev cX7_stop : ByteArray := prog_1_method_11_code
def yX7_stop : MethodName := ⟨RX7, "stop", "(IZ)Z"⟩
abbrev cX7_rule : ByteArray := prog_1_method_12_code
def yX7_rule : MethodName := ⟨RX7, "rule", "(I)I"⟩
abbrev cX7_circleWith : ByteArray := prog_1_method_13_code
def yX7_circleWith : MethodName := ⟨RX7, "circleWith", "(LSkiHill$Slope;I)I"⟩
abbrev cX7_unrule : ByteArray := prog_1_method_14_code
def yX7_unrule : MethodName := ⟨RX7, "unrule", "(I)Z"⟩
abbrev cX7_fault : ByteArray := prog_1_method_15_code
def yX7_fault : MethodName := ⟨RX7, "fault", "(I)I"⟩
abbrev cX7_open : ByteArray := prog_1_method_16_code
def yX7_open : MethodName := ⟨RX7, "open", "(I)Z"⟩
abbrev cX7_openSlopes : ByteArray := prog_1_method_17_code
def yX7_openSlopes : MethodName := ⟨RX7, "openSlopes", "()I"⟩
abbrev cX7_holds : ByteArray := prog_1_method_18_code
def yX7_holds : MethodName := ⟨RX7, "holds", "(LSkiHill$Slope;I)Z"⟩
abbrev cX7_passes : ByteArray := prog_1_method_19_code
def yX7_passes : MethodName := ⟨RX7, "passes", "(LSkiHill$Slope;II)Z"⟩
abbrev cX7_compares : ByteArray := prog_1_method_20_code
def yX7_compares : MethodName := ⟨RX7, "compares", "(III)Z"⟩
abbrev cX7_group : ByteArray := prog_1_method_21_code
def yX7_group : MethodName := ⟨RX7, "group", "(III)I"⟩
abbrev cX7_step : ByteArray := prog_1_method_22_code
def yX7_step : MethodName := ⟨RX7, "step", "(I)I"⟩
abbrev cX7_passMinute : ByteArray := prog_1_method_23_code
def yX7_passMinute : MethodName := ⟨RX7, "passMinute", "()V"⟩
abbrev cX7_sendFree : ByteArray := prog_1_method_24_code
def yX7_sendFree : MethodName := ⟨RX7, "sendFree", "(I)V"⟩
abbrev cX7_send : ByteArray := prog_1_method_25_code
def yX7_send : MethodName := ⟨RX7, "send", "(LSkiHill$Group;I)V"⟩
abbrev cX7_slopeFor : ByteArray := prog_1_method_26_code
def yX7_slopeFor : MethodName := ⟨RX7, "slopeFor", "(LSkiHill$Group;I)LSkiHill$Slope;"⟩
abbrev cX7_liftFor : ByteArray := prog_1_method_27_code
def yX7_liftFor : MethodName := ⟨RX7, "liftFor", "(LSkiHill$Group;)LSkiHill$Lift;"⟩
abbrev cX7_look : ByteArray := prog_1_method_28_code
def yX7_look : MethodName := ⟨RX7, "look", "(II)I"⟩
abbrev cX7_row : ByteArray := prog_1_method_29_code
def yX7_row : MethodName := ⟨RX7, "row", "(II)I"⟩
abbrev cX7_people : ByteArray := prog_1_method_30_code
def yX7_people : MethodName := ⟨RX7, "people", "(I)I"⟩
abbrev cX7_snow : ByteArray := prog_1_method_31_code
def yX7_snow : MethodName := ⟨RX7, "snow", "(IZI)I"⟩
abbrev cX7_melt : ByteArray := prog_1_method_32_code
def yX7_melt : MethodName := ⟨RX7, "melt", "(II)I"⟩
abbrev cX7_push : ByteArray := prog_1_method_33_code
def yX7_push : MethodName := ⟨RX7, "push", "(I)I"⟩
abbrev cX7_cell : ByteArray := prog_1_method_34_code
def yX7_cell : MethodName := ⟨RX7, "cell", "(II)I"⟩
abbrev cX7_link : ByteArray := prog_1_method_35_code
def yX7_link : MethodName := ⟨RX7, "link", "(III)I"⟩
abbrev cX7_want : ByteArray := prog_1_method_36_code
def yX7_want : MethodName := ⟨RX7, "want", "(II)V"⟩
abbrev cX7_least : ByteArray := prog_1_method_37_code
def yX7_least : MethodName := ⟨RX7, "least", "()J"⟩
abbrev cX7_price : ByteArray := prog_1_method_38_code
def yX7_price : MethodName := ⟨RX7, "price", "(II)V"⟩
abbrev cX7_judge : ByteArray := prog_1_method_39_code
def yX7_judge : MethodName := ⟨RX7, "judge", "()J"⟩
abbrev cX7_count : ByteArray := prog_1_method_40_code
def yX7_count : MethodName := ⟨RX7, "count", "(I)J"⟩
abbrev cX7_snowThere : ByteArray := prog_1_method_41_code
def yX7_snowThere : MethodName := ⟨RX7, "snowThere", "()J"⟩
abbrev cX7_checkPlace : ByteArray := prog_1_method_42_code
def yX7_checkPlace : MethodName := ⟨RX7, "checkPlace", "(I)V"⟩
abbrev cX7_checkNumber : ByteArray := prog_1_method_43_code
def yX7_checkNumber : MethodName := ⟨RX7, "checkNumber", "(III)V"⟩
abbrev cX7_checkRoom : ByteArray := prog_1_method_44_code
def yX7_checkRoom : MethodName := ⟨RX7, "checkRoom", "(II)V"⟩
abbrev cX7_liftAt : ByteArray := prog_1_method_45_code
def yX7_liftAt : MethodName := ⟨RX7, "liftAt", "(I)LSkiHill$Lift;"⟩
abbrev cX7_slopeAt : ByteArray := prog_1_method_46_code
def yX7_slopeAt : MethodName := ⟨RX7, "slopeAt", "(I)LSkiHill$Slope;"⟩
abbrev cX7_cellAt : ByteArray := prog_1_method_47_code
def yX7_cellAt : MethodName := ⟨RX7, "cellAt", "(I)LSkiHill$Cell;"⟩
abbrev cX7_hasBit : ByteArray := prog_1_method_48_code
def yX7_hasBit : MethodName := ⟨RX7, "hasBit", "(II)Z"⟩
def RX8 : String := "SkiHillModel"
def TX8 : u_T := fun k => match k with
  | 0 => ("SkiHillModel", "thrown", "I", false)
  | 1 => ("SkiHillModel", "tape", "[B", true)
  | 2 => ("SkiHillModel", "taped", "I", false)
  | 3 => ("SkiHillModel", "lift", "[I", true)
  | 4 => ("SkiHillModel", "isStopped", "[Z", true)
  | 5 => ("SkiHillModel", "queue", "[I", true)
  | 6 => ("SkiHillModel", "queueMany", "[I", true)
  | 7 => ("SkiHillModel", "lifts", "I", false)
  | 8 => ("SkiHillModel", "slope", "[I", true)
  | 9 => ("SkiHillModel", "slopes", "I", false)
  | 10 => ("SkiHillModel", "snow", "[I", true)
  | 11 => ("SkiHillModel", "slopeOf", "[I", true)
  | 12 => ("SkiHillModel", "want", "[I", true)
  | 13 => ("SkiHillModel", "price", "[I", true)
  | 14 => ("SkiHillModel", "cells", "I", false)
  | 15 => ("SkiHillModel", "code", "[I", true)
  | 16 => ("SkiHillModel", "number", "[I", true)
  | 17 => ("SkiHillModel", "steps", "[I", true)
  | 18 => ("SkiHillModel", "hasRule", "[Z", true)
  | 19 => ("SkiHillModel", "faultPlace", "I", false)
  | 20 => ("SkiHillModel", "faultRing", "I", false)
  | 21 => ("SkiHillModel", "group", "[I", true)
  | 22 => ("SkiHillModel", "groups", "I", false)
  | 23 => ("SkiHillModel", "linkA", "[I", true)
  | 24 => ("SkiHillModel", "linkB", "[I", true)
  | 25 => ("SkiHillModel", "linkLength", "[I", true)
  | 26 => ("SkiHillModel", "links", "I", false)
  | 27 => ("SkiHillModel", "wind", "I", false)
  | 28 => ("SkiHillModel", "minute", "I", false)
  | 29 => ("SkiHillModel", "sums", "[J", true)
  | 30 => ("SkiHillModel", "five", "[I", true)
  | 31 => ("SkiHillModel", "at", "I", false)
  | 32 => ("SkiHillModel", "end", "I", false)
  | 33 => ("SkiHillModel", "sort", "I", false)
  | 34 => ("SkiHillModel", "from", "I", false)
  | 35 => ("SkiHillModel", "value", "I", false)
  | 36 => ("SkiHillModel", "opened", "I", false)
  | 37 => ("SkiHillModel", "wrong", "I", false)
  | 38 => ("SkiHillModel", "leans", "[I", true)
  | 39 => ("SkiHillModel", "isKnown", "[Z", true)
  | 40 => ("SkiHillModel", "isOpen", "[Z", true)
  | 41 => ("SkiHillModel", "pile", "[Z", true)
  | 42 => ("SkiHillModel", "way", "[J", true)
  | 43 => ("SkiHillModel", "carried", "[J", true)
  | 44 => ("SkiHillModel", "has", "[J", true)
  | 45 => ("SkiHillModel", "cost", "[J", true)
  | 46 => ("SkiHillModel", "before", "[I", true)
  | 47 => ("SkiHillModel", "gives", "[Z", true)
  | _ => ("SkiHillModel", "gets", "[Z", true)
def tyX8 : Nat → FieldType := fun k => match k with
  | 0 => .int
  | 1 => .array .byte
  | 2 => .int
  | 3 => .array .int
  | 4 => .array .boolean
  | 5 => .array .int
  | 6 => .array .int
  | 7 => .int
  | 8 => .array .int
  | 9 => .int
  | 10 => .array .int
  | 11 => .array .int
  | 12 => .array .int
  | 13 => .array .int
  | 14 => .int
  | 15 => .array .int
  | 16 => .array .int
  | 17 => .array .int
  | 18 => .array .boolean
  | 19 => .int
  | 20 => .int
  | 21 => .array .int
  | 22 => .int
  | 23 => .array .int
  | 24 => .array .int
  | 25 => .array .int
  | 26 => .int
  | 27 => .int
  | 28 => .int
  | 29 => .array .long
  | 30 => .array .int
  | 31 => .int
  | 32 => .int
  | 33 => .int
  | 34 => .int
  | 35 => .int
  | 36 => .int
  | 37 => .int
  | 38 => .array .int
  | 39 => .array .boolean
  | 40 => .array .boolean
  | 41 => .array .boolean
  | 42 => .array .long
  | 43 => .array .long
  | 44 => .array .long
  | 45 => .array .long
  | 46 => .array .int
  | 47 => .array .boolean
  | _ => .array .boolean
abbrev wsX80 : List Cond := u_ws RX8 TX8 49
theorem nmX8 : ∀ a, a < 49 → ∀ b, b < 49 → a ≠ b → (TX8 a).2.1 ≠ (TX8 b).2.1 := by decide +kernel
theorem tyX8_ok : ∀ k, k < 49 → parseFieldDescriptor (TX8 k).2.2.1 = some (tyX8 k) := by decide +kernel
abbrev cX8_init : ByteArray := prog_10_method_1_code
def yX8_init : MethodName := ⟨RX8, "<init>", "()V"⟩
abbrev cX8_thrown : ByteArray := prog_10_method_2_code
def yX8_thrown : MethodName := ⟨RX8, "thrown", "()I"⟩
abbrev cX8_throwsIf : ByteArray := prog_10_method_3_code
def yX8_throwsIf : MethodName := ⟨RX8, "throwsIf", "(ZI)Z"⟩
abbrev cX8_in : ByteArray := prog_10_method_4_code
def yX8_in : MethodName := ⟨RX8, "in", "(JJJ)Z"⟩
abbrev cX8_noLift : ByteArray := prog_10_method_5_code
def yX8_noLift : MethodName := ⟨RX8, "noLift", "(I)Z"⟩
abbrev cX8_noSlope : ByteArray := prog_10_method_6_code
def yX8_noSlope : MethodName := ⟨RX8, "noSlope", "(I)Z"⟩
abbrev cX8_noCell : ByteArray := prog_10_method_7_code
def yX8_noCell : MethodName := ⟨RX8, "noCell", "(I)Z"⟩
abbrev cX8_noGroup : ByteArray := prog_10_method_8_code
def yX8_noGroup : MethodName := ⟨RX8, "noGroup", "(I)Z"⟩
abbrev cX8_noPlace : ByteArray := prog_10_method_9_code
def yX8_noPlace : MethodName := ⟨RX8, "noPlace", "(I)Z"⟩
abbrev cX8_feed : ByteArray := prog_10_method_10_code
def yX8_feed : MethodName := ⟨RX8, "feed", "(IIIII)I"⟩
abbrev cX8_end : ByteArray := prog_10_method_11_code
def yX8_end : MethodName := ⟨RX8, "end", "(I)Z"⟩
abbrev cX8_lift : ByteArray := prog_10_method_12_code
def yX8_lift : MethodName := ⟨RX8, "lift", "(IIIII)I"⟩
abbrev cX8_slope : ByteArray := prog_10_method_13_code
def yX8_slope : MethodName := ⟨RX8, "slope", "(IIIII)I"⟩
abbrev cX8_isRunning : ByteArray := prog_10_method_14_code
def yX8_isRunning : MethodName := ⟨RX8, "isRunning", "(I)Z"⟩
abbrev cX8_word : ByteArray := prog_10_method_15_code
def yX8_word : MethodName := ⟨RX8, "word", "(I)Ljava/lang/String;"⟩
abbrev cX8_fail : ByteArray := prog_10_method_16_code
def yX8_fail : MethodName := ⟨RX8, "fail", "(I)V"⟩
abbrev cX8_isWord : ByteArray := prog_10_method_17_code
def yX8_isWord : MethodName := ⟨RX8, "isWord", "(Ljava/lang/String;)Z"⟩
abbrev cX8_next : ByteArray := prog_10_method_18_code
def yX8_next : MethodName := ⟨RX8, "next", "()V"⟩
abbrev cX8_emit : ByteArray := prog_10_method_19_code
def yX8_emit : MethodName := ⟨RX8, "emit", "(II)V"⟩
abbrev cX8_is : ByteArray := prog_10_method_20_code
def yX8_is : MethodName := ⟨RX8, "is", "(II)Z"⟩
abbrev cX8_either : ByteArray := prog_10_method_21_code
def yX8_either : MethodName := ⟨RX8, "either", "()V"⟩
abbrev cX8_both : ByteArray := prog_10_method_22_code
def yX8_both : MethodName := ⟨RX8, "both", "()V"⟩
abbrev cX8_part : ByteArray := prog_10_method_23_code
def yX8_part : MethodName := ⟨RX8, "part", "()V"⟩
abbrev cX8_test : ByteArray := prog_10_method_24_code
def yX8_test : MethodName := ⟨RX8, "test", "(I)V"⟩
abbrev cX8_names : ByteArray := prog_10_method_25_code
def yX8_names : MethodName := ⟨RX8, "names", "(I)I"⟩
abbrev cX8_ring : ByteArray := prog_10_method_26_code
def yX8_ring : MethodName := ⟨RX8, "ring", "(I)I"⟩
abbrev cX8_rule : ByteArray := prog_10_method_27_code
def yX8_rule : MethodName := ⟨RX8, "rule", "(I)I"⟩
abbrev cX8_unrule : ByteArray := prog_10_method_28_code
def yX8_unrule : MethodName := ⟨RX8, "unrule", "(I)Z"⟩
abbrev cX8_fault : ByteArray := prog_10_method_29_code
def yX8_fault : MethodName := ⟨RX8, "fault", "(I)I"⟩
abbrev cX8_depth : ByteArray := prog_10_method_30_code
def yX8_depth : MethodName := ⟨RX8, "depth", "(I)I"⟩
abbrev cX8_measure : ByteArray := prog_10_method_31_code
def yX8_measure : MethodName := ⟨RX8, "measure", "(II)I"⟩
abbrev cX8_holds : ByteArray := prog_10_method_32_code
def yX8_holds : MethodName := ⟨RX8, "holds", "(I)Z"⟩
abbrev cX8_compares : ByteArray := prog_10_method_33_code
def yX8_compares : MethodName := ⟨RX8, "compares", "(III)Z"⟩
abbrev cX8_areKnown : ByteArray := prog_10_method_34_code
def yX8_areKnown : MethodName := ⟨RX8, "areKnown", "(I)Z"⟩
abbrev cX8_opens : ByteArray := prog_10_method_35_code
def yX8_opens : MethodName := ⟨RX8, "opens", "()V"⟩
abbrev cX8_open : ByteArray := prog_10_method_36_code
def yX8_open : MethodName := ⟨RX8, "open", "(I)Z"⟩
abbrev cX8_runs : ByteArray := prog_10_method_37_code
def yX8_runs : MethodName := ⟨RX8, "runs", "(I)Z"⟩
abbrev cX8_wind : ByteArray := prog_10_method_38_code
def yX8_wind : MethodName := ⟨RX8, "wind", "(I)V"⟩
abbrev cX8_stop : ByteArray := prog_10_method_39_code
def yX8_stop : MethodName := ⟨RX8, "stop", "(IZ)Z"⟩
abbrev cX8_group : ByteArray := prog_10_method_40_code
def yX8_group : MethodName := ⟨RX8, "group", "(III)I"⟩
abbrev cX8_wears : ByteArray := prog_10_method_41_code
def yX8_wears : MethodName := ⟨RX8, "wears", "(II)V"⟩
abbrev cX8_waiting : ByteArray := prog_10_method_42_code
def yX8_waiting : MethodName := ⟨RX8, "waiting", "(I)I"⟩
abbrev cX8_chooses : ByteArray := prog_10_method_43_code
def yX8_chooses : MethodName := ⟨RX8, "chooses", "(I)V"⟩
abbrev cX8_boards : ByteArray := prog_10_method_44_code
def yX8_boards : MethodName := ⟨RX8, "boards", "(I)V"⟩
abbrev cX8_passes : ByteArray := prog_10_method_45_code
def yX8_passes : MethodName := ⟨RX8, "passes", "()V"⟩
abbrev cX8_step : ByteArray := prog_10_method_46_code
def yX8_step : MethodName := ⟨RX8, "step", "(I)I"⟩
abbrev cX8_look : ByteArray := prog_10_method_47_code
def yX8_look : MethodName := ⟨RX8, "look", "(II)I"⟩
abbrev cX8_row : ByteArray := prog_10_method_48_code
def yX8_row : MethodName := ⟨RX8, "row", "(II)I"⟩
abbrev cX8_people : ByteArray := prog_10_method_49_code
def yX8_people : MethodName := ⟨RX8, "people", "(I)I"⟩
abbrev cX8_snow : ByteArray := prog_10_method_50_code
def yX8_snow : MethodName := ⟨RX8, "snow", "(IZI)I"⟩
abbrev cX8_melt : ByteArray := prog_10_method_51_code
def yX8_melt : MethodName := ⟨RX8, "melt", "(II)I"⟩
abbrev cX8_push : ByteArray := prog_10_method_52_code
def yX8_push : MethodName := ⟨RX8, "push", "(I)I"⟩
abbrev cX8_cell : ByteArray := prog_10_method_53_code
def yX8_cell : MethodName := ⟨RX8, "cell", "(II)I"⟩
abbrev cX8_link : ByteArray := prog_10_method_54_code
def yX8_link : MethodName := ⟨RX8, "link", "(III)I"⟩
abbrev cX8_want : ByteArray := prog_10_method_55_code
def yX8_want : MethodName := ⟨RX8, "want", "(II)V"⟩
abbrev cX8_ways : ByteArray := prog_10_method_56_code
def yX8_ways : MethodName := ⟨RX8, "ways", "()V"⟩
abbrev cX8_seeks : ByteArray := prog_10_method_57_code
def yX8_seeks : MethodName := ⟨RX8, "seeks", "()I"⟩
abbrev cX8_carries : ByteArray := prog_10_method_58_code
def yX8_carries : MethodName := ⟨RX8, "carries", "(I)J"⟩
abbrev cX8_least : ByteArray := prog_10_method_59_code
def yX8_least : MethodName := ⟨RX8, "least", "()J"⟩
abbrev cX8_price : ByteArray := prog_10_method_60_code
def yX8_price : MethodName := ⟨RX8, "price", "(II)V"⟩
abbrev cX8_judge : ByteArray := prog_10_method_61_code
def yX8_judge : MethodName := ⟨RX8, "judge", "()J"⟩
abbrev cX8_count : ByteArray := prog_10_method_62_code
def yX8_count : MethodName := ⟨RX8, "count", "(I)J"⟩
def RJx145de : String := "java/io/Serializable"
def TJx145de : u_T := fun k => match k with
  | _ => ("", "", "", false)
def tyJx145de : Nat → FieldType := fun k => match k with
  | _ => .int
abbrev wsJx145de0 : List Cond := u_ws RJx145de TJx145de 0
theorem nmJx145de : ∀ a, a < 0 → ∀ b, b < 0 → a ≠ b → (TJx145de a).2.1 ≠ (TJx145de b).2.1 := by decide +kernel
theorem tyJx145de_ok : ∀ k, k < 0 → parseFieldDescriptor (TJx145de k).2.2.1 = some (tyJx145de k) := by decide +kernel
def RJx9f9b0 : String := "java/lang/CharSequence"
def TJx9f9b0 : u_T := fun k => match k with
  | _ => ("", "", "", false)
def tyJx9f9b0 : Nat → FieldType := fun k => match k with
  | _ => .int
abbrev wsJx9f9b00 : List Cond := u_ws RJx9f9b0 TJx9f9b0 0
theorem nmJx9f9b0 : ∀ a, a < 0 → ∀ b, b < 0 → a ≠ b → (TJx9f9b0 a).2.1 ≠ (TJx9f9b0 b).2.1 := by decide +kernel
theorem tyJx9f9b0_ok : ∀ k, k < 0 → parseFieldDescriptor (TJx9f9b0 k).2.2.1 = some (tyJx9f9b0 k) := by decide +kernel
def RJx8e188 : String := "java/lang/Cloneable"
def TJx8e188 : u_T := fun k => match k with
  | _ => ("", "", "", false)
def tyJx8e188 : Nat → FieldType := fun k => match k with
  | _ => .int
abbrev wsJx8e1880 : List Cond := u_ws RJx8e188 TJx8e188 0
theorem nmJx8e188 : ∀ a, a < 0 → ∀ b, b < 0 → a ≠ b → (TJx8e188 a).2.1 ≠ (TJx8e188 b).2.1 := by decide +kernel
theorem tyJx8e188_ok : ∀ k, k < 0 → parseFieldDescriptor (TJx8e188 k).2.2.1 = some (tyJx8e188 k) := by decide +kernel
def RJxb160c : String := "java/lang/Comparable"
def TJxb160c : u_T := fun k => match k with
  | _ => ("", "", "", false)
def tyJxb160c : Nat → FieldType := fun k => match k with
  | _ => .int
abbrev wsJxb160c0 : List Cond := u_ws RJxb160c TJxb160c 0
theorem nmJxb160c : ∀ a, a < 0 → ∀ b, b < 0 → a ≠ b → (TJxb160c a).2.1 ≠ (TJxb160c b).2.1 := by decide +kernel
theorem tyJxb160c_ok : ∀ k, k < 0 → parseFieldDescriptor (TJxb160c k).2.2.1 = some (tyJxb160c k) := by decide +kernel
def RJ6 : String := "java/lang/Integer"
def TJ6 : u_T := fun k => match k with
  | _ => ("", "", "", false)
def tyJ6 : Nat → FieldType := fun k => match k with
  | _ => .int
abbrev wsJ60 : List Cond := u_ws RJ6 TJ6 0
theorem nmJ6 : ∀ a, a < 0 → ∀ b, b < 0 → a ≠ b → (TJ6 a).2.1 ≠ (TJ6 b).2.1 := by decide +kernel
theorem tyJ6_ok : ∀ k, k < 0 → parseFieldDescriptor (TJ6 k).2.2.1 = some (tyJ6 k) := by decide +kernel
abbrev cJ6_bitCount_0f7a4 : ByteArray := prog_19_method_49_code
def yJ6_bitCount_0f7a4 : MethodName := ⟨RJ6, "bitCount", "(I)I"⟩
def RJxab1ab : String := "java/lang/Iterable"
def TJxab1ab : u_T := fun k => match k with
  | _ => ("", "", "", false)
def tyJxab1ab : Nat → FieldType := fun k => match k with
  | _ => .int
abbrev wsJxab1ab0 : List Cond := u_ws RJxab1ab TJxab1ab 0
theorem nmJxab1ab : ∀ a, a < 0 → ∀ b, b < 0 → a ≠ b → (TJxab1ab a).2.1 ≠ (TJxab1ab b).2.1 := by decide +kernel
theorem tyJxab1ab_ok : ∀ k, k < 0 → parseFieldDescriptor (TJxab1ab k).2.2.1 = some (tyJxab1ab k) := by decide +kernel
def RJ9 : String := "java/lang/Math"
def TJ9 : u_T := fun k => match k with
  | _ => ("", "", "", false)
def tyJ9 : Nat → FieldType := fun k => match k with
  | _ => .int
abbrev wsJ90 : List Cond := u_ws RJ9 TJ9 0
theorem nmJ9 : ∀ a, a < 0 → ∀ b, b < 0 → a ≠ b → (TJ9 a).2.1 ≠ (TJ9 b).2.1 := by decide +kernel
theorem tyJ9_ok : ∀ k, k < 0 → parseFieldDescriptor (TJ9 k).2.2.1 = some (tyJ9 k) := by decide +kernel
abbrev cJ9_abs_0f7a4 : ByteArray := prog_21_method_59_code
def yJ9_abs_0f7a4 : MethodName := ⟨RJ9, "abs", "(I)I"⟩
abbrev cJ9_max_7cf53 : ByteArray := prog_21_method_65_code
def yJ9_max_7cf53 : MethodName := ⟨RJ9, "max", "(II)I"⟩
abbrev cJ9_min_7cf53 : ByteArray := prog_21_method_69_code
def yJ9_min_7cf53 : MethodName := ⟨RJ9, "min", "(II)I"⟩
abbrev cJ9_min_f86c9 : ByteArray := prog_21_method_70_code
def yJ9_min_f86c9 : MethodName := ⟨RJ9, "min", "(JJ)J"⟩
def RJ0 : String := "java/lang/String"
def TJ0 : u_T := fun k => match k with
  | _ => ("", "", "", false)
def tyJ0 : Nat → FieldType := fun k => match k with
  | _ => .int
abbrev wsJ00 : List Cond := u_ws RJ0 TJ0 0
theorem nmJ0 : ∀ a, a < 0 → ∀ b, b < 0 → a ≠ b → (TJ0 a).2.1 ≠ (TJ0 b).2.1 := by decide +kernel
theorem tyJ0_ok : ∀ k, k < 0 → parseFieldDescriptor (TJ0 k).2.2.1 = some (tyJ0 k) := by decide +kernel
abbrev cJ0_length_8abf5 : ByteArray := prog_23_method_54_code
def yJ0_length_8abf5 : MethodName := ⟨RJ0, "length", "()I"⟩
abbrev cJ0_charAt_5068e : ByteArray := prog_23_method_56_code
def yJ0_charAt_5068e : MethodName := ⟨RJ0, "charAt", "(I)C"⟩
abbrev cJ0_coder_7d493 : ByteArray := prog_23_method_152_code
def yJ0_coder_7d493 : MethodName := ⟨RJ0, "coder", "()B"⟩
abbrev cJ0_isLatin1_aae02 : ByteArray := prog_23_method_154_code
def yJ0_isLatin1_aae02 : MethodName := ⟨RJ0, "isLatin1", "()Z"⟩
abbrev cJ0_checkIndex_df160 : ByteArray := prog_23_method_155_code
def yJ0_checkIndex_df160 : MethodName := ⟨RJ0, "checkIndex", "(II)V"⟩
def RJ1 : String := "java/lang/StringLatin1"
def TJ1 : u_T := fun k => match k with
  | _ => ("", "", "", false)
def tyJ1 : Nat → FieldType := fun k => match k with
  | _ => .int
abbrev wsJ10 : List Cond := u_ws RJ1 TJ1 0
theorem nmJ1 : ∀ a, a < 0 → ∀ b, b < 0 → a ≠ b → (TJ1 a).2.1 ≠ (TJ1 b).2.1 := by decide +kernel
theorem tyJ1_ok : ∀ k, k < 0 → parseFieldDescriptor (TJ1 k).2.2.1 = some (tyJ1 k) := by decide +kernel
abbrev cJ1_charAt_3b067 : ByteArray := prog_24_method_2_code
def yJ1_charAt_3b067 : MethodName := ⟨RJ1, "charAt", "([BI)C"⟩
def RJ2 : String := "java/lang/StringUTF16"
def TJ2 : u_T := fun k => match k with
  | _ => ("", "", "", false)
def tyJ2 : Nat → FieldType := fun k => match k with
  | _ => .int
abbrev wsJ20 : List Cond := u_ws RJ2 TJ2 0
theorem nmJ2 : ∀ a, a < 0 → ∀ b, b < 0 → a ≠ b → (TJ2 a).2.1 ≠ (TJ2 b).2.1 := by decide +kernel
theorem tyJ2_ok : ∀ k, k < 0 → parseFieldDescriptor (TJ2 k).2.2.1 = some (tyJ2 k) := by decide +kernel
abbrev cJ2_getChar_3b067 : ByteArray := prog_25_method_5_code
def yJ2_getChar_3b067 : MethodName := ⟨RJ2, "getChar", "([BI)C"⟩
abbrev cJ2_length_9d52b : ByteArray := prog_25_method_6_code
def yJ2_length_9d52b : MethodName := ⟨RJ2, "length", "([B)I"⟩
abbrev cJ2_charAt_3b067 : ByteArray := prog_25_method_83_code
def yJ2_charAt_3b067 : MethodName := ⟨RJ2, "charAt", "([BI)C"⟩
abbrev cJ2_checkIndex_2214a : ByteArray := prog_25_method_91_code
def yJ2_checkIndex_2214a : MethodName := ⟨RJ2, "checkIndex", "(I[B)V"⟩
def RJ10 : String := "java/lang/System"
def TJ10 : u_T := fun k => match k with
  | _ => ("", "", "", false)
def tyJ10 : Nat → FieldType := fun k => match k with
  | _ => .int
abbrev wsJ100 : List Cond := u_ws RJ10 TJ10 0
theorem nmJ10 : ∀ a, a < 0 → ∀ b, b < 0 → a ≠ b → (TJ10 a).2.1 ≠ (TJ10 b).2.1 := by decide +kernel
theorem tyJ10_ok : ∀ k, k < 0 → parseFieldDescriptor (TJ10 k).2.2.1 = some (tyJ10 k) := by decide +kernel
def RJxfd54e : String := "java/lang/constant/Constable"
def TJxfd54e : u_T := fun k => match k with
  | _ => ("", "", "", false)
def tyJxfd54e : Nat → FieldType := fun k => match k with
  | _ => .int
abbrev wsJxfd54e0 : List Cond := u_ws RJxfd54e TJxfd54e 0
theorem nmJxfd54e : ∀ a, a < 0 → ∀ b, b < 0 → a ≠ b → (TJxfd54e a).2.1 ≠ (TJxfd54e b).2.1 := by decide +kernel
theorem tyJxfd54e_ok : ∀ k, k < 0 → parseFieldDescriptor (TJxfd54e k).2.2.1 = some (tyJxfd54e k) := by decide +kernel
def RJx3cf43 : String := "java/lang/constant/ConstantDesc"
def TJx3cf43 : u_T := fun k => match k with
  | _ => ("", "", "", false)
def tyJx3cf43 : Nat → FieldType := fun k => match k with
  | _ => .int
abbrev wsJx3cf430 : List Cond := u_ws RJx3cf43 TJx3cf43 0
theorem nmJx3cf43 : ∀ a, a < 0 → ∀ b, b < 0 → a ≠ b → (TJx3cf43 a).2.1 ≠ (TJx3cf43 b).2.1 := by decide +kernel
theorem tyJx3cf43_ok : ∀ k, k < 0 → parseFieldDescriptor (TJx3cf43 k).2.2.1 = some (tyJx3cf43 k) := by decide +kernel
def RJxa1e45 : String := "java/util/AbstractCollection"
def TJxa1e45 : u_T := fun k => match k with
  | _ => ("", "", "", false)
def tyJxa1e45 : Nat → FieldType := fun k => match k with
  | _ => .int
abbrev wsJxa1e450 : List Cond := u_ws RJxa1e45 TJxa1e45 0
theorem nmJxa1e45 : ∀ a, a < 0 → ∀ b, b < 0 → a ≠ b → (TJxa1e45 a).2.1 ≠ (TJxa1e45 b).2.1 := by decide +kernel
theorem tyJxa1e45_ok : ∀ k, k < 0 → parseFieldDescriptor (TJxa1e45 k).2.2.1 = some (tyJxa1e45 k) := by decide +kernel
abbrev cJxa1e45_init_da8c8 : ByteArray := prog_31_method_1_code
def yJxa1e45_init_da8c8 : MethodName := ⟨RJxa1e45, "<init>", "()V"⟩
def RJxc12de : String := "java/util/AbstractList"
def TJxc12de : u_T := fun k => match k with
  | _ => ("", "", "", false)
def tyJxc12de : Nat → FieldType := fun k => match k with
  | _ => .int
abbrev wsJxc12de0 : List Cond := u_ws RJxc12de TJxc12de 0
theorem nmJxc12de : ∀ a, a < 0 → ∀ b, b < 0 → a ≠ b → (TJxc12de a).2.1 ≠ (TJxc12de b).2.1 := by decide +kernel
theorem tyJxc12de_ok : ∀ k, k < 0 → parseFieldDescriptor (TJxc12de k).2.2.1 = some (tyJxc12de k) := by decide +kernel
abbrev cJxc12de_init_da8c8 : ByteArray := prog_32_method_1_code
def yJxc12de_init_da8c8 : MethodName := ⟨RJxc12de, "<init>", "()V"⟩
def RJx4a65c : String := "java/util/ArrayList"
def TJx4a65c : u_T := fun k => match k with
  | 0 => ("java/util/AbstractList", "modCount", "I", false)
  | 1 => ("java/util/ArrayList", "elementData", "[Ljava/lang/Object;", false)
  | _ => ("java/util/ArrayList", "size", "I", false)
def tyJx4a65c : Nat → FieldType := fun k => match k with
  | 0 => .int
  | 1 => .array (.object "java/lang/Object")
  | _ => .int
abbrev wsJx4a65c0 : List Cond := u_ws RJx4a65c TJx4a65c 3
theorem nmJx4a65c : ∀ a, a < 3 → ∀ b, b < 3 → a ≠ b → (TJx4a65c a).2.1 ≠ (TJx4a65c b).2.1 := by decide +kernel
theorem tyJx4a65c_ok : ∀ k, k < 3 → parseFieldDescriptor (TJx4a65c k).2.2.1 = some (tyJx4a65c k) := by decide +kernel
abbrev cJx4a65c_init_da8c8 : ByteArray := prog_33_method_2_code
def yJx4a65c_init_da8c8 : MethodName := ⟨RJx4a65c, "<init>", "()V"⟩
abbrev cJx4a65c_grow_92f84 : ByteArray := prog_33_method_6_code
def yJx4a65c_grow_92f84 : MethodName := ⟨RJx4a65c, "grow", "(I)[Ljava/lang/Object;"⟩
abbrev cJx4a65c_grow_d5877 : ByteArray := prog_33_method_7_code
def yJx4a65c_grow_d5877 : MethodName := ⟨RJx4a65c, "grow", "()[Ljava/lang/Object;"⟩
abbrev cJx4a65c_size_8abf5 : ByteArray := prog_33_method_8_code
def yJx4a65c_size_8abf5 : MethodName := ⟨RJx4a65c, "size", "()I"⟩
abbrev cJx4a65c_isEmpty_aae02 : ByteArray := prog_33_method_9_code
def yJx4a65c_isEmpty_aae02 : MethodName := ⟨RJx4a65c, "isEmpty", "()Z"⟩
abbrev cJx4a65c_elementData_915e3 : ByteArray := prog_33_method_18_code
def yJx4a65c_elementData_915e3 : MethodName := ⟨RJx4a65c, "elementData", "(I)Ljava/lang/Object;"⟩
abbrev cJx4a65c_get_915e3 : ByteArray := prog_33_method_20_code
def yJx4a65c_get_915e3 : MethodName := ⟨RJx4a65c, "get", "(I)Ljava/lang/Object;"⟩
abbrev cJx4a65c_add_72be8 : ByteArray := prog_33_method_24_code
def yJx4a65c_add_72be8 : MethodName := ⟨RJx4a65c, "add", "(Ljava/lang/Object;[Ljava/lang/Object;I)V"⟩
abbrev cJx4a65c_add_9ea2d : ByteArray := prog_33_method_25_code
def yJx4a65c_add_9ea2d : MethodName := ⟨RJx4a65c, "add", "(Ljava/lang/Object;)Z"⟩
abbrev cJx4a65c_remove_915e3 : ByteArray := prog_33_method_29_code
def yJx4a65c_remove_915e3 : MethodName := ⟨RJx4a65c, "remove", "(I)Ljava/lang/Object;"⟩
abbrev cJx4a65c_fastRemove_b59b0 : ByteArray := prog_33_method_39_code
def yJx4a65c_fastRemove_b59b0 : MethodName := ⟨RJx4a65c, "fastRemove", "([Ljava/lang/Object;I)V"⟩
def RJ7 : String := "java/util/Arrays"
def TJ7 : u_T := fun k => match k with
  | _ => ("", "", "", false)
def tyJ7 : Nat → FieldType := fun k => match k with
  | _ => .int
abbrev wsJ70 : List Cond := u_ws RJ7 TJ7 0
theorem nmJ7 : ∀ a, a < 0 → ∀ b, b < 0 → a ≠ b → (TJ7 a).2.1 ≠ (TJ7 b).2.1 := by decide +kernel
theorem tyJ7_ok : ∀ k, k < 0 → parseFieldDescriptor (TJ7 k).2.2.1 = some (tyJ7 k) := by decide +kernel
abbrev cJ7_copyOf_1904c : ByteArray := prog_34_method_119_code
def yJ7_copyOf_1904c : MethodName := ⟨RJ7, "copyOf", "([Ljava/lang/Object;I)[Ljava/lang/Object;"⟩
abbrev cJ7_copyOf_6403c : ByteArray := prog_34_method_120_code
def yJ7_copyOf_6403c : MethodName := ⟨RJ7, "copyOf", "([Ljava/lang/Object;ILjava/lang/Class;)[Ljava/lang/Object;"⟩
abbrev cJ7_copyOf_59c91 : ByteArray := prog_34_method_123_code
def yJ7_copyOf_59c91 : MethodName := ⟨RJ7, "copyOf", "([II)[I"⟩
def RJx5ef63 : String := "java/util/Collection"
def TJx5ef63 : u_T := fun k => match k with
  | _ => ("", "", "", false)
def tyJx5ef63 : Nat → FieldType := fun k => match k with
  | _ => .int
abbrev wsJx5ef630 : List Cond := u_ws RJx5ef63 TJx5ef63 0
theorem nmJx5ef63 : ∀ a, a < 0 → ∀ b, b < 0 → a ≠ b → (TJx5ef63 a).2.1 ≠ (TJx5ef63 b).2.1 := by decide +kernel
theorem tyJx5ef63_ok : ∀ k, k < 0 → parseFieldDescriptor (TJx5ef63 k).2.2.1 = some (tyJx5ef63 k) := by decide +kernel
def RJxbd725 : String := "java/util/List"
def TJxbd725 : u_T := fun k => match k with
  | _ => ("", "", "", false)
def tyJxbd725 : Nat → FieldType := fun k => match k with
  | _ => .int
abbrev wsJxbd7250 : List Cond := u_ws RJxbd725 TJxbd725 0
theorem nmJxbd725 : ∀ a, a < 0 → ∀ b, b < 0 → a ≠ b → (TJxbd725 a).2.1 ≠ (TJxbd725 b).2.1 := by decide +kernel
theorem tyJxbd725_ok : ∀ k, k < 0 → parseFieldDescriptor (TJxbd725 k).2.2.1 = some (tyJxbd725 k) := by decide +kernel
def RJ15 : String := "java/util/Objects"
def TJ15 : u_T := fun k => match k with
  | _ => ("", "", "", false)
def tyJ15 : Nat → FieldType := fun k => match k with
  | _ => .int
abbrev wsJ150 : List Cond := u_ws RJ15 TJ15 0
theorem nmJ15 : ∀ a, a < 0 → ∀ b, b < 0 → a ≠ b → (TJ15 a).2.1 ≠ (TJ15 b).2.1 := by decide +kernel
theorem tyJ15_ok : ∀ k, k < 0 → parseFieldDescriptor (TJ15 k).2.2.1 = some (tyJ15 k) := by decide +kernel
abbrev cJ15_checkIndex_7cf53 : ByteArray := prog_38_method_17_code
def yJ15_checkIndex_7cf53 : MethodName := ⟨RJ15, "checkIndex", "(II)I"⟩
def RJxf0a74 : String := "java/util/RandomAccess"
def TJxf0a74 : u_T := fun k => match k with
  | _ => ("", "", "", false)
def tyJxf0a74 : Nat → FieldType := fun k => match k with
  | _ => .int
abbrev wsJxf0a740 : List Cond := u_ws RJxf0a74 TJxf0a74 0
theorem nmJxf0a74 : ∀ a, a < 0 → ∀ b, b < 0 → a ≠ b → (TJxf0a74 a).2.1 ≠ (TJxf0a74 b).2.1 := by decide +kernel
theorem tyJxf0a74_ok : ∀ k, k < 0 → parseFieldDescriptor (TJxf0a74 k).2.2.1 = some (tyJxf0a74 k) := by decide +kernel
def RJxa66e6 : String := "java/util/SequencedCollection"
def TJxa66e6 : u_T := fun k => match k with
  | _ => ("", "", "", false)
def tyJxa66e6 : Nat → FieldType := fun k => match k with
  | _ => .int
abbrev wsJxa66e60 : List Cond := u_ws RJxa66e6 TJxa66e6 0
theorem nmJxa66e6 : ∀ a, a < 0 → ∀ b, b < 0 → a ≠ b → (TJxa66e6 a).2.1 ≠ (TJxa66e6 b).2.1 := by decide +kernel
theorem tyJxa66e6_ok : ∀ k, k < 0 → parseFieldDescriptor (TJxa66e6 k).2.2.1 = some (tyJxa66e6 k) := by decide +kernel
def RJ8 : String := "jdk/internal/util/ArraysSupport"
def TJ8 : u_T := fun k => match k with
  | _ => ("", "", "", false)
def tyJ8 : Nat → FieldType := fun k => match k with
  | _ => .int
abbrev wsJ80 : List Cond := u_ws RJ8 TJ8 0
theorem nmJ8 : ∀ a, a < 0 → ∀ b, b < 0 → a ≠ b → (TJ8 a).2.1 ≠ (TJ8 b).2.1 := by decide +kernel
theorem tyJ8_ok : ∀ k, k < 0 → parseFieldDescriptor (TJ8 k).2.2.1 = some (tyJ8 k) := by decide +kernel
abbrev cJ8_newLength_cabcc : ByteArray := prog_41_method_27_code
def yJ8_newLength_cabcc : MethodName := ⟨RJ8, "newLength", "(III)I"⟩
abbrev cJ8_hugeLength_7cf53 : ByteArray := prog_41_method_28_code
def yJ8_hugeLength_7cf53 : MethodName := ⟨RJ8, "hugeLength", "(II)I"⟩
def RJ3 : String := "jdk/internal/util/Preconditions"
def TJ3 : u_T := fun k => match k with
  | _ => ("", "", "", false)
def tyJ3 : Nat → FieldType := fun k => match k with
  | _ => .int
abbrev wsJ30 : List Cond := u_ws RJ3 TJ3 0
theorem nmJ3 : ∀ a, a < 0 → ∀ b, b < 0 → a ≠ b → (TJ3 a).2.1 ≠ (TJ3 b).2.1 := by decide +kernel
theorem tyJ3_ok : ∀ k, k < 0 → parseFieldDescriptor (TJ3 k).2.2.1 = some (tyJ3 k) := by decide +kernel
abbrev cJ3_checkIndex_8e157 : ByteArray := prog_42_method_11_code
def yJ3_checkIndex_8e157 : MethodName := ⟨RJ3, "checkIndex", "(IILjava/util/function/BiFunction;)I"⟩
def RL : String := "SkiHillLaw"
abbrev cL_lift : ByteArray := method_3_code
def yL_lift : MethodName := ⟨RL, "lift", "(LSkiHill;IIIII[J)I"⟩
abbrev cL_slope : ByteArray := method_4_code
def yL_slope : MethodName := ⟨RL, "slope", "(LSkiHill;IIIII[J)I"⟩
abbrev cL_rule : ByteArray := method_5_code
def yL_rule : MethodName := ⟨RL, "rule", "(LSkiHill;I[J)I"⟩
abbrev cL_unrule : ByteArray := method_6_code
def yL_unrule : MethodName := ⟨RL, "unrule", "(LSkiHill;I[J)I"⟩
abbrev cL_open : ByteArray := method_7_code
def yL_open : MethodName := ⟨RL, "open", "(LSkiHill;I[J)I"⟩
abbrev cL_runs : ByteArray := method_8_code
def yL_runs : MethodName := ⟨RL, "runs", "(LSkiHill;I[J)I"⟩
abbrev cL_wind : ByteArray := method_9_code
def yL_wind : MethodName := ⟨RL, "wind", "(LSkiHill;I)I"⟩
abbrev cL_stop : ByteArray := method_10_code
def yL_stop : MethodName := ⟨RL, "stop", "(LSkiHill;IZ[J)I"⟩
abbrev cL_group : ByteArray := method_11_code
def yL_group : MethodName := ⟨RL, "group", "(LSkiHill;III[J)I"⟩
abbrev cL_step : ByteArray := method_12_code
def yL_step : MethodName := ⟨RL, "step", "(LSkiHill;I[J)I"⟩
abbrev cL_look : ByteArray := method_13_code
def yL_look : MethodName := ⟨RL, "look", "(LSkiHill;II[J)I"⟩
abbrev cL_row : ByteArray := method_14_code
def yL_row : MethodName := ⟨RL, "row", "(LSkiHill;II[J)I"⟩
abbrev cL_snow : ByteArray := method_15_code
def yL_snow : MethodName := ⟨RL, "snow", "(LSkiHill;IZI[J)I"⟩
abbrev cL_melt : ByteArray := method_16_code
def yL_melt : MethodName := ⟨RL, "melt", "(LSkiHill;II[J)I"⟩
abbrev cL_push : ByteArray := method_17_code
def yL_push : MethodName := ⟨RL, "push", "(LSkiHill;I[J)I"⟩
abbrev cL_cell : ByteArray := method_18_code
def yL_cell : MethodName := ⟨RL, "cell", "(LSkiHill;II[J)I"⟩
abbrev cL_link : ByteArray := method_19_code
def yL_link : MethodName := ⟨RL, "link", "(LSkiHill;III[J)I"⟩
abbrev cL_want : ByteArray := method_20_code
def yL_want : MethodName := ⟨RL, "want", "(LSkiHill;II)I"⟩
abbrev cL_price : ByteArray := method_21_code
def yL_price : MethodName := ⟨RL, "price", "(LSkiHill;II)I"⟩
abbrev cL_judge : ByteArray := method_22_code
def yL_judge : MethodName := ⟨RL, "judge", "(LSkiHill;[J)I"⟩
abbrev cL_law : ByteArray := code
def yL_law : MethodName := ⟨RL, "law", "([I)Z"⟩
abbrev vwCl : List vw_C := [(RJx4a65c, TJx4a65c, 3), (RX1, TX1, 8), (RX2, TX2, 9), (RX3, TX3, 9), (RX4, TX4, 4), (RX5, TX5, 12), (RX6, TX6, 10), (RX7, TX7, 16), (RX8, TX8, 49)]
