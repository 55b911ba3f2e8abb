def RX0 : String := "RemakeNeeds2$Constants"
def TX0 : u_T := fun k => match k with
  | 0 => ("RemakeNeeds2$Constants", "path", "[LRemakeNeeds2$Thing;", true)
  | 1 => ("RemakeNeeds2$Constants", "depth", "I", false)
  | 2 => ("RemakeNeeds2$Constants", "met", "[LRemakeNeeds2$Thing;", true)
  | _ => ("RemakeNeeds2$Constants", "metCount", "I", false)
def tyX0 : Nat → FieldType := fun k => match k with
  | 0 => .array (.object "RemakeNeeds2$Thing")
  | 1 => .int
  | 2 => .array (.object "RemakeNeeds2$Thing")
  | _ => .int
abbrev wsX00 : List Cond := u_ws RX0 TX0 4
theorem nmX0 : ∀ a, a < 4 → ∀ b, b < 4 → a ≠ b → (TX0 a).2.1 ≠ (TX0 b).2.1 := by decide +kernel
theorem tyX0_ok : ∀ k, k < 4 → parseFieldDescriptor (TX0 k).2.2.1 = some (tyX0 k) := by decide +kernel
abbrev cX0_init : ByteArray := prog_2_method_1_code
def yX0_init : MethodName := ⟨RX0, "<init>", "()V"⟩
abbrev cX0_settleAll : ByteArray := prog_2_method_2_code
def yX0_settleAll : MethodName := ⟨RX0, "settleAll", "(LRemakeNeeds2$Units;)V"⟩
abbrev cX0_refresh : ByteArray := prog_2_method_3_code
def yX0_refresh : MethodName := ⟨RX0, "refresh", "(LRemakeNeeds2$Units;)V"⟩
abbrev cX0_settle : ByteArray := prog_2_method_4_code
def yX0_settle : MethodName := ⟨RX0, "settle", "(LRemakeNeeds2$Thing;LRemakeNeeds2$Units;)V"⟩
abbrev cX0_enter : ByteArray := prog_2_method_5_code
def yX0_enter : MethodName := ⟨RX0, "enter", "(LRemakeNeeds2$Thing;)V"⟩
abbrev cX0_addPart : ByteArray := prog_2_method_6_code
def yX0_addPart : MethodName := ⟨RX0, "addPart", "(LRemakeNeeds2$Thing;LRemakeNeeds2$Thing;)V"⟩
abbrev cX0_close : ByteArray := prog_2_method_7_code
def yX0_close : MethodName := ⟨RX0, "close", "(LRemakeNeeds2$Thing;)V"⟩
abbrev cX0_follow : ByteArray := prog_2_method_8_code
def yX0_follow : MethodName := ⟨RX0, "follow", "(LRemakeNeeds2$Thing;LRemakeNeeds2$Units;)V"⟩
abbrev cX0_note : ByteArray := prog_2_method_9_code
def yX0_note : MethodName := ⟨RX0, "note", "(LRemakeNeeds2$Thing;)V"⟩
abbrev cX0_metAt : ByteArray := prog_2_method_10_code
def yX0_metAt : MethodName := ⟨RX0, "metAt", "(I)LRemakeNeeds2$Thing;"⟩
def RX1 : String := "RemakeNeeds2$Ints"
def TX1 : u_T := fun k => match k with
  | 0 => ("RemakeNeeds2$Ints", "items", "[I", true)
  | _ => ("RemakeNeeds2$Ints", "length", "I", false)
def tyX1 : Nat → FieldType := fun k => match k with
  | 0 => .array .int
  | _ => .int
abbrev wsX10 : List Cond := u_ws RX1 TX1 2
theorem nmX1 : ∀ a, a < 2 → ∀ b, b < 2 → a ≠ b → (TX1 a).2.1 ≠ (TX1 b).2.1 := by decide +kernel
theorem tyX1_ok : ∀ k, k < 2 → parseFieldDescriptor (TX1 k).2.2.1 = some (tyX1 k) := by decide +kernel
abbrev cX1_init : ByteArray := prog_3_method_1_code
def yX1_init : MethodName := ⟨RX1, "<init>", "(I)V"⟩
abbrev cX1_length : ByteArray := prog_3_method_2_code
def yX1_length : MethodName := ⟨RX1, "length", "()I"⟩
abbrev cX1_at : ByteArray := prog_3_method_3_code
def yX1_at : MethodName := ⟨RX1, "at", "(I)I"⟩
abbrev cX1_has : ByteArray := prog_3_method_4_code
def yX1_has : MethodName := ⟨RX1, "has", "(I)Z"⟩
abbrev cX1_append : ByteArray := prog_3_method_5_code
def yX1_append : MethodName := ⟨RX1, "append", "(I)Z"⟩
abbrev cX1_dropAt : ByteArray := prog_3_method_6_code
def yX1_dropAt : MethodName := ⟨RX1, "dropAt", "(I)V"⟩
abbrev cX1_dropItem : ByteArray := prog_3_method_7_code
def yX1_dropItem : MethodName := ⟨RX1, "dropItem", "(I)V"⟩
abbrev cX1_empty : ByteArray := prog_3_method_8_code
def yX1_empty : MethodName := ⟨RX1, "empty", "()V"⟩
def RX2 : String := "RemakeNeeds2$Rings"
def TX2 : u_T := fun k => match k with
  | 0 => ("RemakeNeeds2$Rings", "reach", "[I", true)
  | 1 => ("RemakeNeeds2$Rings", "ringNumbers", "[I", true)
  | 2 => ("RemakeNeeds2$Rings", "inOrder", "LRemakeNeeds2$Ints;", true)
  | 3 => ("RemakeNeeds2$Rings", "ringCount", "I", false)
  | _ => ("RemakeNeeds2$Rings", "bigRingCount", "I", false)
def tyX2 : Nat → FieldType := fun k => match k with
  | 0 => .array .int
  | 1 => .array .int
  | 2 => .object "RemakeNeeds2$Ints"
  | 3 => .int
  | _ => .int
abbrev wsX20 : List Cond := u_ws RX2 TX2 5
theorem nmX2 : ∀ a, a < 5 → ∀ b, b < 5 → a ≠ b → (TX2 a).2.1 ≠ (TX2 b).2.1 := by decide +kernel
theorem tyX2_ok : ∀ k, k < 5 → parseFieldDescriptor (TX2 k).2.2.1 = some (tyX2 k) := by decide +kernel
abbrev cX2_init : ByteArray := prog_4_method_1_code
def yX2_init : MethodName := ⟨RX2, "<init>", "()V"⟩
abbrev cX2_arrange : ByteArray := prog_4_method_2_code
def yX2_arrange : MethodName := ⟨RX2, "arrange", "(LRemakeNeeds2$Units;)V"⟩
abbrev cX2_reachOf : ByteArray := prog_4_method_3_code
def yX2_reachOf : MethodName := ⟨RX2, "reachOf", "(I)I"⟩
abbrev cX2_ringOf : ByteArray := prog_4_method_4_code
def yX2_ringOf : MethodName := ⟨RX2, "ringOf", "(I)I"⟩
abbrev cX2_findReach : ByteArray := prog_4_method_5_code
def yX2_findReach : MethodName := ⟨RX2, "findReach", "(LRemakeNeeds2$Units;)V"⟩
abbrev cX2_placeNext : ByteArray := prog_4_method_6_code
def yX2_placeNext : MethodName := ⟨RX2, "placeNext", "(I)I"⟩
abbrev cX2_ringAround : ByteArray := prog_4_method_7_code
def yX2_ringAround : MethodName := ⟨RX2, "ringAround", "(I)I"⟩
abbrev cX2_place : ByteArray := prog_4_method_8_code
def yX2_place : MethodName := ⟨RX2, "place", "(I)V"⟩
def RX3 : String := "RemakeNeeds2$Row"
def TX3 : u_T := fun k => match k with
  | 0 => ("RemakeNeeds2$Row", "longs", "[J", true)
  | 1 => ("RemakeNeeds2$Row", "length", "I", false)
  | 2 => ("RemakeNeeds2$Row", "ownEnd", "I", false)
  | 3 => ("RemakeNeeds2$Row", "useCount", "I", false)
  | 4 => ("RemakeNeeds2$Row", "findsEnd", "I", false)
  | _ => ("RemakeNeeds2$Row", "marksEnd", "I", false)
def tyX3 : Nat → FieldType := fun k => match k with
  | 0 => .array .long
  | 1 => .int
  | 2 => .int
  | 3 => .int
  | 4 => .int
  | _ => .int
abbrev wsX30 : List Cond := u_ws RX3 TX3 6
theorem nmX3 : ∀ a, a < 6 → ∀ b, b < 6 → a ≠ b → (TX3 a).2.1 ≠ (TX3 b).2.1 := by decide +kernel
theorem tyX3_ok : ∀ k, k < 6 → parseFieldDescriptor (TX3 k).2.2.1 = some (tyX3 k) := by decide +kernel
abbrev cX3_init : ByteArray := prog_5_method_1_code
def yX3_init : MethodName := ⟨RX3, "<init>", "()V"⟩
abbrev cX3_empty : ByteArray := prog_5_method_2_code
def yX3_empty : MethodName := ⟨RX3, "empty", "()V"⟩
abbrev cX3_length : ByteArray := prog_5_method_3_code
def yX3_length : MethodName := ⟨RX3, "length", "()I"⟩
abbrev cX3_at : ByteArray := prog_5_method_4_code
def yX3_at : MethodName := ⟨RX3, "at", "(I)J"⟩
abbrev cX3_append : ByteArray := prog_5_method_5_code
def yX3_append : MethodName := ⟨RX3, "append", "(J)V"⟩
abbrev cX3_endOwn : ByteArray := prog_5_method_6_code
def yX3_endOwn : MethodName := ⟨RX3, "endOwn", "(I)V"⟩
abbrev cX3_endFinds : ByteArray := prog_5_method_7_code
def yX3_endFinds : MethodName := ⟨RX3, "endFinds", "()V"⟩
abbrev cX3_endMarks : ByteArray := prog_5_method_8_code
def yX3_endMarks : MethodName := ⟨RX3, "endMarks", "()V"⟩
abbrev cX3_digest : ByteArray := prog_5_method_9_code
def yX3_digest : MethodName := ⟨RX3, "digest", "()J"⟩
abbrev cX3_mix : ByteArray := prog_5_method_10_code
def yX3_mix : MethodName := ⟨RX3, "mix", "(JJ)J"⟩
abbrev cX3_reasonAgainst : ByteArray := prog_5_method_11_code
def yX3_reasonAgainst : MethodName := ⟨RX3, "reasonAgainst", "(LRemakeNeeds2$Row;)I"⟩
abbrev cX3_isSame : ByteArray := prog_5_method_12_code
def yX3_isSame : MethodName := ⟨RX3, "isSame", "(LRemakeNeeds2$Row;II)Z"⟩
abbrev cX3_hasSameUses : ByteArray := prog_5_method_13_code
def yX3_hasSameUses : MethodName := ⟨RX3, "hasSameUses", "(LRemakeNeeds2$Row;)Z"⟩
def RX4 : String := "RemakeNeeds2$Rows"
def TX4 : u_T := fun k => match k with
  | 0 => ("RemakeNeeds2$Rows", "scratch", "LRemakeNeeds2$Row;", true)
  | _ => ("RemakeNeeds2$Rows", "readerScratch", "LRemakeNeeds2$Row;", true)
def tyX4 : Nat → FieldType := fun k => match k with
  | 0 => .object "RemakeNeeds2$Row"
  | _ => .object "RemakeNeeds2$Row"
abbrev wsX40 : List Cond := u_ws RX4 TX4 2
theorem nmX4 : ∀ a, a < 2 → ∀ b, b < 2 → a ≠ b → (TX4 a).2.1 ≠ (TX4 b).2.1 := by decide +kernel
theorem tyX4_ok : ∀ k, k < 2 → parseFieldDescriptor (TX4 k).2.2.1 = some (tyX4 k) := by decide +kernel
abbrev cX4_init : ByteArray := prog_6_method_1_code
def yX4_init : MethodName := ⟨RX4, "<init>", "()V"⟩
abbrev cX4_now : ByteArray := prog_6_method_2_code
def yX4_now : MethodName := ⟨RX4, "now", "(LRemakeNeeds2$Unit;LRemakeNeeds2$Units;)LRemakeNeeds2$Row;"⟩
abbrev cX4_reasonFor : ByteArray := prog_6_method_3_code
def yX4_reasonFor : MethodName := ⟨RX4, "reasonFor", "(LRemakeNeeds2$Unit;LRemakeNeeds2$Units;)I"⟩
abbrev cX4_write : ByteArray := prog_6_method_4_code
def yX4_write : MethodName := ⟨RX4, "write", "(LRemakeNeeds2$Row;LRemakeNeeds2$Unit;LRemakeNeeds2$Units;)V"⟩
abbrev cX4_writeAllButMaker : ByteArray := prog_6_method_5_code
def yX4_writeAllButMaker : MethodName := ⟨RX4, "writeAllButMaker", "(LRemakeNeeds2$Row;LRemakeNeeds2$Unit;LRemakeNeeds2$Units;)V"⟩
abbrev cX4_writeThings : ByteArray := prog_6_method_6_code
def yX4_writeThings : MethodName := ⟨RX4, "writeThings", "(LRemakeNeeds2$Row;LRemakeNeeds2$Unit;)V"⟩
abbrev cX4_writeInts : ByteArray := prog_6_method_7_code
def yX4_writeInts : MethodName := ⟨RX4, "writeInts", "(LRemakeNeeds2$Row;LRemakeNeeds2$Ints;)V"⟩
abbrev cX4_writeFinds : ByteArray := prog_6_method_8_code
def yX4_writeFinds : MethodName := ⟨RX4, "writeFinds", "(LRemakeNeeds2$Row;LRemakeNeeds2$Unit;LRemakeNeeds2$Units;)V"⟩
abbrev cX4_writeFound : ByteArray := prog_6_method_9_code
def yX4_writeFound : MethodName := ⟨RX4, "writeFound", "(LRemakeNeeds2$Row;LRemakeNeeds2$Thing;)V"⟩
abbrev cX4_writeMarks : ByteArray := prog_6_method_10_code
def yX4_writeMarks : MethodName := ⟨RX4, "writeMarks", "(LRemakeNeeds2$Row;LRemakeNeeds2$Unit;LRemakeNeeds2$Units;)V"⟩
def RX5 : String := "RemakeNeeds2$Thing"
def TX5 : u_T := fun k => match k with
  | 0 => ("RemakeNeeds2$Thing", "owner", "I", true)
  | 1 => ("RemakeNeeds2$Thing", "builtOf", "LRemakeNeeds2$Ints;", true)
  | 2 => ("RemakeNeeds2$Thing", "key", "I", false)
  | 3 => ("RemakeNeeds2$Thing", "digest", "J", false)
  | 4 => ("RemakeNeeds2$Thing", "isPrivate", "Z", false)
  | 5 => ("RemakeNeeds2$Thing", "stage", "I", false)
  | 6 => ("RemakeNeeds2$Thing", "sum", "J", false)
  | 7 => ("RemakeNeeds2$Thing", "isRound", "Z", false)
  | 8 => ("RemakeNeeds2$Thing", "isMet", "Z", false)
  | _ => ("RemakeNeeds2$Thing", "nextPart", "I", false)
def tyX5 : Nat → FieldType := fun k => match k with
  | 0 => .int
  | 1 => .object "RemakeNeeds2$Ints"
  | 2 => .int
  | 3 => .long
  | 4 => .boolean
  | 5 => .int
  | 6 => .long
  | 7 => .boolean
  | 8 => .boolean
  | _ => .int
abbrev wsX50 : List Cond := u_ws RX5 TX5 10
theorem nmX5 : ∀ a, a < 10 → ∀ b, b < 10 → a ≠ b → (TX5 a).2.1 ≠ (TX5 b).2.1 := by decide +kernel
theorem tyX5_ok : ∀ k, k < 10 → parseFieldDescriptor (TX5 k).2.2.1 = some (tyX5 k) := by decide +kernel
abbrev cX5_init : ByteArray := prog_7_method_1_code
def yX5_init : MethodName := ⟨RX5, "<init>", "(I)V"⟩
def RX6 : String := "RemakeNeeds2$Unit"
def TX6 : u_T := fun k => match k with
  | 0 => ("RemakeNeeds2$Unit", "number", "I", true)
  | 1 => ("RemakeNeeds2$Unit", "ways", "LRemakeNeeds2$Ints;", true)
  | 2 => ("RemakeNeeds2$Unit", "uses", "LRemakeNeeds2$Ints;", true)
  | 3 => ("RemakeNeeds2$Unit", "keptRow", "LRemakeNeeds2$Row;", true)
  | 4 => ("RemakeNeeds2$Unit", "things", "[LRemakeNeeds2$Thing;", true)
  | 5 => ("RemakeNeeds2$Unit", "thingCount", "I", false)
  | 6 => ("RemakeNeeds2$Unit", "sought", "LRemakeNeeds2$Ints;", true)
  | 7 => ("RemakeNeeds2$Unit", "isThere", "Z", false)
  | 8 => ("RemakeNeeds2$Unit", "isReader", "Z", false)
  | 9 => ("RemakeNeeds2$Unit", "maker", "I", false)
  | _ => ("RemakeNeeds2$Unit", "timesMade", "I", false)
def tyX6 : Nat → FieldType := fun k => match k with
  | 0 => .int
  | 1 => .object "RemakeNeeds2$Ints"
  | 2 => .object "RemakeNeeds2$Ints"
  | 3 => .object "RemakeNeeds2$Row"
  | 4 => .array (.object "RemakeNeeds2$Thing")
  | 5 => .int
  | 6 => .object "RemakeNeeds2$Ints"
  | 7 => .boolean
  | 8 => .boolean
  | 9 => .int
  | _ => .int
abbrev wsX60 : List Cond := u_ws RX6 TX6 11
theorem nmX6 : ∀ a, a < 11 → ∀ b, b < 11 → a ≠ b → (TX6 a).2.1 ≠ (TX6 b).2.1 := by decide +kernel
theorem tyX6_ok : ∀ k, k < 11 → parseFieldDescriptor (TX6 k).2.2.1 = some (tyX6 k) := by decide +kernel
abbrev cX6_init : ByteArray := prog_8_method_1_code
def yX6_init : MethodName := ⟨RX6, "<init>", "(I)V"⟩
abbrev cX6_start : ByteArray := prog_8_method_2_code
def yX6_start : MethodName := ⟨RX6, "start", "()V"⟩
abbrev cX6_thingCount : ByteArray := prog_8_method_3_code
def yX6_thingCount : MethodName := ⟨RX6, "thingCount", "()I"⟩
abbrev cX6_thingAt : ByteArray := prog_8_method_4_code
def yX6_thingAt : MethodName := ⟨RX6, "thingAt", "(I)LRemakeNeeds2$Thing;"⟩
abbrev cX6_thingFor : ByteArray := prog_8_method_5_code
def yX6_thingFor : MethodName := ⟨RX6, "thingFor", "(I)LRemakeNeeds2$Thing;"⟩
abbrev cX6_sought : ByteArray := prog_8_method_6_code
def yX6_sought : MethodName := ⟨RX6, "sought", "()LRemakeNeeds2$Ints;"⟩
abbrev cX6_addThing : ByteArray := prog_8_method_7_code
def yX6_addThing : MethodName := ⟨RX6, "addThing", "(I)LRemakeNeeds2$Thing;"⟩
abbrev cX6_isBehind : ByteArray := prog_8_method_8_code
def yX6_isBehind : MethodName := ⟨RX6, "isBehind", "(LRemakeNeeds2$Thing;I)Z"⟩
abbrev cX6_dropThing : ByteArray := prog_8_method_9_code
def yX6_dropThing : MethodName := ⟨RX6, "dropThing", "(I)Z"⟩
def RX7 : String := "RemakeNeeds2$Units"
def TX7 : u_T := fun k => match k with
  | 0 => ("RemakeNeeds2$Units", "all", "[LRemakeNeeds2$Unit;", true)
  | _ => ("RemakeNeeds2$Units", "ever", "I", false)
def tyX7 : Nat → FieldType := fun k => match k with
  | 0 => .array (.object "RemakeNeeds2$Unit")
  | _ => .int
abbrev wsX70 : List Cond := u_ws RX7 TX7 2
theorem nmX7 : ∀ a, a < 2 → ∀ b, b < 2 → a ≠ b → (TX7 a).2.1 ≠ (TX7 b).2.1 := by decide +kernel
theorem tyX7_ok : ∀ k, k < 2 → parseFieldDescriptor (TX7 k).2.2.1 = some (tyX7 k) := by decide +kernel
abbrev cX7_init : ByteArray := prog_9_method_1_code
def yX7_init : MethodName := ⟨RX7, "<init>", "()V"⟩
abbrev cX7_at : ByteArray := prog_9_method_2_code
def yX7_at : MethodName := ⟨RX7, "at", "(I)LRemakeNeeds2$Unit;"⟩
abbrev cX7_addOne : ByteArray := prog_9_method_3_code
def yX7_addOne : MethodName := ⟨RX7, "addOne", "()LRemakeNeeds2$Unit;"⟩
abbrev cX7_dropOne : ByteArray := prog_9_method_4_code
def yX7_dropOne : MethodName := ⟨RX7, "dropOne", "(I)V"⟩
abbrev cX7_dropAll : ByteArray := prog_9_method_5_code
def yX7_dropAll : MethodName := ⟨RX7, "dropAll", "()V"⟩
abbrev cX7_freeFrom : ByteArray := prog_9_method_6_code
def yX7_freeFrom : MethodName := ⟨RX7, "freeFrom", "(I)V"⟩
abbrev cX7_thereNow : ByteArray := prog_9_method_7_code
def yX7_thereNow : MethodName := ⟨RX7, "thereNow", "()I"⟩
abbrev cX7_lookFrom : ByteArray := prog_9_method_8_code
def yX7_lookFrom : MethodName := ⟨RX7, "lookFrom", "(LRemakeNeeds2$Unit;I)LRemakeNeeds2$Thing;"⟩
abbrev cX7_partOf : ByteArray := prog_9_method_9_code
def yX7_partOf : MethodName := ⟨RX7, "partOf", "(LRemakeNeeds2$Thing;I)LRemakeNeeds2$Thing;"⟩
abbrev cX7_missingOf : ByteArray := prog_9_method_10_code
def yX7_missingOf : MethodName := ⟨RX7, "missingOf", "(LRemakeNeeds2$Unit;)I"⟩
abbrev cX7_nextTo : ByteArray := prog_9_method_11_code
def yX7_nextTo : MethodName := ⟨RX7, "nextTo", "(LRemakeNeeds2$Unit;)I"⟩
def RX8 : String := "RemakeNeeds2"
def TX8 : u_T := fun k => match k with
  | 0 => ("RemakeNeeds2", "units", "LRemakeNeeds2$Units;", true)
  | 1 => ("RemakeNeeds2", "constants", "LRemakeNeeds2$Constants;", true)
  | 2 => ("RemakeNeeds2", "rows", "LRemakeNeeds2$Rows;", true)
  | 3 => ("RemakeNeeds2", "rings", "LRemakeNeeds2$Rings;", true)
  | _ => ("RemakeNeeds2", "madeInAll", "I", false)
def tyX8 : Nat → FieldType := fun k => match k with
  | 0 => .object "RemakeNeeds2$Units"
  | 1 => .object "RemakeNeeds2$Constants"
  | 2 => .object "RemakeNeeds2$Rows"
  | 3 => .object "RemakeNeeds2$Rings"
  | _ => .int
abbrev wsX80 : List Cond := u_ws RX8 TX8 5
theorem nmX8 : ∀ a, a < 5 → ∀ b, b < 5 → a ≠ b → (TX8 a).2.1 ≠ (TX8 b).2.1 := by decide +kernel
theorem tyX8_ok : ∀ k, k < 5 → parseFieldDescriptor (TX8 k).2.2.1 = some (tyX8 k) := by decide +kernel
abbrev cX8_init : ByteArray := prog_1_method_1_code
def yX8_init : MethodName := ⟨RX8, "<init>", "()V"⟩
abbrev cX8_unit : ByteArray := prog_1_method_2_code
def yX8_unit : MethodName := ⟨RX8, "unit", "()I"⟩
abbrev cX8_give : ByteArray := prog_1_method_3_code
def yX8_give : MethodName := ⟨RX8, "give", "(IIIJZ)I"⟩
abbrev cX8_take : ByteArray := prog_1_method_4_code
def yX8_take : MethodName := ⟨RX8, "take", "(III)I"⟩
abbrev cX8_build : ByteArray := prog_1_method_5_code
def yX8_build : MethodName := ⟨RX8, "build", "(III)I"⟩
abbrev cX8_way : ByteArray := prog_1_method_6_code
def yX8_way : MethodName := ⟨RX8, "way", "(II)I"⟩
abbrev cX8_unway : ByteArray := prog_1_method_7_code
def yX8_unway : MethodName := ⟨RX8, "unway", "(I)I"⟩
abbrev cX8_use : ByteArray := prog_1_method_8_code
def yX8_use : MethodName := ⟨RX8, "use", "(III)I"⟩
abbrev cX8_unuse : ByteArray := prog_1_method_9_code
def yX8_unuse : MethodName := ⟨RX8, "unuse", "(II)I"⟩
abbrev cX8_reader : ByteArray := prog_1_method_10_code
def yX8_reader : MethodName := ⟨RX8, "reader", "(IZ)I"⟩
abbrev cX8_generated : ByteArray := prog_1_method_11_code
def yX8_generated : MethodName := ⟨RX8, "generated", "(II)I"⟩
abbrev cX8_remove : ByteArray := prog_1_method_12_code
def yX8_remove : MethodName := ⟨RX8, "remove", "(I)I"⟩
abbrev cX8_found : ByteArray := prog_1_method_13_code
def yX8_found : MethodName := ⟨RX8, "found", "(III)I"⟩
abbrev cX8_value : ByteArray := prog_1_method_14_code
def yX8_value : MethodName := ⟨RX8, "value", "(II)J"⟩
abbrev cX8_round : ByteArray := prog_1_method_15_code
def yX8_round : MethodName := ⟨RX8, "round", "(II)I"⟩
abbrev cX8_chain : ByteArray := prog_1_method_16_code
def yX8_chain : MethodName := ⟨RX8, "chain", "(IIII)I"⟩
abbrev cX8_missing : ByteArray := prog_1_method_17_code
def yX8_missing : MethodName := ⟨RX8, "missing", "(I)I"⟩
abbrev cX8_size : ByteArray := prog_1_method_18_code
def yX8_size : MethodName := ⟨RX8, "size", "(I)I"⟩
abbrev cX8_row : ByteArray := prog_1_method_19_code
def yX8_row : MethodName := ⟨RX8, "row", "(II)J"⟩
abbrev cX8_kept : ByteArray := prog_1_method_20_code
def yX8_kept : MethodName := ⟨RX8, "kept", "(II)J"⟩
abbrev cX8_why : ByteArray := prog_1_method_21_code
def yX8_why : MethodName := ⟨RX8, "why", "(I)I"⟩
abbrev cX8_needs : ByteArray := prog_1_method_22_code
def yX8_needs : MethodName := ⟨RX8, "needs", "()I"⟩
abbrev cX8_make : ByteArray := prog_1_method_23_code
def yX8_make : MethodName := ⟨RX8, "make", "(I)I"⟩
abbrev cX8_force : ByteArray := prog_1_method_24_code
def yX8_force : MethodName := ⟨RX8, "force", "(I)I"⟩
abbrev cX8_output : ByteArray := prog_1_method_25_code
def yX8_output : MethodName := ⟨RX8, "output", "(I)J"⟩
abbrev cX8_anew : ByteArray := prog_1_method_26_code
def yX8_anew : MethodName := ⟨RX8, "anew", "()J"⟩
abbrev cX8_coarse : ByteArray := prog_1_method_27_code
def yX8_coarse : MethodName := ⟨RX8, "coarse", "()I"⟩
abbrev cX8_order : ByteArray := prog_1_method_28_code
def yX8_order : MethodName := ⟨RX8, "order", "(I)I"⟩
abbrev cX8_ring : ByteArray := prog_1_method_29_code
def yX8_ring : MethodName := ⟨RX8, "ring", "(I)I"⟩
abbrev cX8_leads : ByteArray := prog_1_method_30_code
def yX8_leads : MethodName := ⟨RX8, "leads", "(II)I"⟩
abbrev cX8_count : ByteArray := prog_1_method_31_code
def yX8_count : MethodName := ⟨RX8, "count", "(I)I"⟩
abbrev cX8_clear : ByteArray := prog_1_method_32_code
def yX8_clear : MethodName := ⟨RX8, "clear", "()I"⟩
abbrev cX8_isBelow : ByteArray := prog_1_method_33_code
def yX8_isBelow : MethodName := ⟨RX8, "isBelow", "(II)Z"⟩
abbrev cX8_keyOf : ByteArray := prog_1_method_34_code
def yX8_keyOf : MethodName := ⟨RX8, "keyOf", "(II)I"⟩
abbrev cX8_sortOf : ByteArray := prog_1_method_35_code
def yX8_sortOf : MethodName := ⟨RX8, "sortOf", "(I)I"⟩
abbrev cX8_nameOf : ByteArray := prog_1_method_36_code
def yX8_nameOf : MethodName := ⟨RX8, "nameOf", "(I)I"⟩
abbrev cX8_appendTo : ByteArray := prog_1_method_37_code
def yX8_appendTo : MethodName := ⟨RX8, "appendTo", "(LRemakeNeeds2$Ints;I)I"⟩
abbrev cX8_constantOf : ByteArray := prog_1_method_38_code
def yX8_constantOf : MethodName := ⟨RX8, "constantOf", "(II)LRemakeNeeds2$Thing;"⟩
abbrev cX8_makeOne : ByteArray := prog_1_method_39_code
def yX8_makeOne : MethodName := ⟨RX8, "makeOne", "(LRemakeNeeds2$Unit;)V"⟩
def RX9 : String := "RemakeNeeds2Model"
def TX9 : u_T := fun k => match k with
  | 0 => ("RemakeNeeds2Model", "thrown", "I", false)
  | 1 => ("RemakeNeeds2Model", "ever", "I", false)
  | 2 => ("RemakeNeeds2Model", "isThere", "[Z", true)
  | 3 => ("RemakeNeeds2Model", "things", "[I", true)
  | 4 => ("RemakeNeeds2Model", "key", "[I", true)
  | 5 => ("RemakeNeeds2Model", "digest", "[J", true)
  | 6 => ("RemakeNeeds2Model", "isPrivate", "[Z", true)
  | 7 => ("RemakeNeeds2Model", "builtMany", "[I", true)
  | 8 => ("RemakeNeeds2Model", "built", "[I", true)
  | 9 => ("RemakeNeeds2Model", "wayMany", "[I", true)
  | 10 => ("RemakeNeeds2Model", "ways", "[I", true)
  | 11 => ("RemakeNeeds2Model", "useMany", "[I", true)
  | 12 => ("RemakeNeeds2Model", "uses", "[I", true)
  | 13 => ("RemakeNeeds2Model", "isReader", "[Z", true)
  | 14 => ("RemakeNeeds2Model", "maker", "[I", true)
  | 15 => ("RemakeNeeds2Model", "keptRow", "[J", true)
  | 16 => ("RemakeNeeds2Model", "keptAt", "[I", true)
  | 17 => ("RemakeNeeds2Model", "times", "[I", true)
  | 18 => ("RemakeNeeds2Model", "timesAll", "I", false)
  | 19 => ("RemakeNeeds2Model", "child", "[I", true)
  | 20 => ("RemakeNeeds2Model", "isKnown", "[Z", true)
  | 21 => ("RemakeNeeds2Model", "valued", "[J", true)
  | 22 => ("RemakeNeeds2Model", "met", "[I", true)
  | 23 => ("RemakeNeeds2Model", "isMet", "[Z", true)
  | 24 => ("RemakeNeeds2Model", "metMany", "I", false)
  | 25 => ("RemakeNeeds2Model", "pile", "[I", true)
  | 26 => ("RemakeNeeds2Model", "onward", "[I", true)
  | 27 => ("RemakeNeeds2Model", "line", "[J", true)
  | 28 => ("RemakeNeeds2Model", "lineSize", "I", false)
  | 29 => ("RemakeNeeds2Model", "parts", "[I", true)
  | 30 => ("RemakeNeeds2Model", "leads", "[Z", true)
  | 31 => ("RemakeNeeds2Model", "ringOf", "[I", true)
  | 32 => ("RemakeNeeds2Model", "inOrder", "[I", true)
  | 33 => ("RemakeNeeds2Model", "placed", "I", false)
  | 34 => ("RemakeNeeds2Model", "rings", "I", false)
  | _ => ("RemakeNeeds2Model", "is", "[Z", true)
def tyX9 : Nat → FieldType := fun k => match k with
  | 0 => .int
  | 1 => .int
  | 2 => .array .boolean
  | 3 => .array .int
  | 4 => .array .int
  | 5 => .array .long
  | 6 => .array .boolean
  | 7 => .array .int
  | 8 => .array .int
  | 9 => .array .int
  | 10 => .array .int
  | 11 => .array .int
  | 12 => .array .int
  | 13 => .array .boolean
  | 14 => .array .int
  | 15 => .array .long
  | 16 => .array .int
  | 17 => .array .int
  | 18 => .int
  | 19 => .array .int
  | 20 => .array .boolean
  | 21 => .array .long
  | 22 => .array .int
  | 23 => .array .boolean
  | 24 => .int
  | 25 => .array .int
  | 26 => .array .int
  | 27 => .array .long
  | 28 => .int
  | 29 => .array .int
  | 30 => .array .boolean
  | 31 => .array .int
  | 32 => .array .int
  | 33 => .int
  | 34 => .int
  | _ => .array .boolean
abbrev wsX90 : List Cond := u_ws RX9 TX9 36
theorem nmX9 : ∀ a, a < 36 → ∀ b, b < 36 → a ≠ b → (TX9 a).2.1 ≠ (TX9 b).2.1 := by decide +kernel
theorem tyX9_ok : ∀ k, k < 36 → parseFieldDescriptor (TX9 k).2.2.1 = some (tyX9 k) := by decide +kernel
abbrev cX9_init : ByteArray := prog_11_method_1_code
def yX9_init : MethodName := ⟨RX9, "<init>", "()V"⟩
abbrev cX9_in : ByteArray := prog_11_method_3_code
def yX9_in : MethodName := ⟨RX9, "in", "(III)Z"⟩
abbrev cX9_isUnit : ByteArray := prog_11_method_4_code
def yX9_isUnit : MethodName := ⟨RX9, "isUnit", "(I)Z"⟩
abbrev cX9_isName : ByteArray := prog_11_method_5_code
def yX9_isName : MethodName := ⟨RX9, "isName", "(I)Z"⟩
abbrev cX9_unitsThere : ByteArray := prog_11_method_6_code
def yX9_unitsThere : MethodName := ⟨RX9, "unitsThere", "()I"⟩
abbrev cX9_unit : ByteArray := prog_11_method_7_code
def yX9_unit : MethodName := ⟨RX9, "unit", "()I"⟩
abbrev cX9_thingOf : ByteArray := prog_11_method_8_code
def yX9_thingOf : MethodName := ⟨RX9, "thingOf", "(II)I"⟩
abbrev cX9_move : ByteArray := prog_11_method_9_code
def yX9_move : MethodName := ⟨RX9, "move", "(II)V"⟩
abbrev cX9_give : ByteArray := prog_11_method_10_code
def yX9_give : MethodName := ⟨RX9, "give", "(IIIJZ)I"⟩
abbrev cX9_take : ByteArray := prog_11_method_11_code
def yX9_take : MethodName := ⟨RX9, "take", "(III)I"⟩
abbrev cX9_build : ByteArray := prog_11_method_12_code
def yX9_build : MethodName := ⟨RX9, "build", "(III)I"⟩
abbrev cX9_isOnWay : ByteArray := prog_11_method_13_code
def yX9_isOnWay : MethodName := ⟨RX9, "isOnWay", "(II)Z"⟩
abbrev cX9_way : ByteArray := prog_11_method_14_code
def yX9_way : MethodName := ⟨RX9, "way", "(II)I"⟩
abbrev cX9_unway : ByteArray := prog_11_method_15_code
def yX9_unway : MethodName := ⟨RX9, "unway", "(I)I"⟩
abbrev cX9_use : ByteArray := prog_11_method_16_code
def yX9_use : MethodName := ⟨RX9, "use", "(III)I"⟩
abbrev cX9_unuse : ByteArray := prog_11_method_17_code
def yX9_unuse : MethodName := ⟨RX9, "unuse", "(II)I"⟩
abbrev cX9_frees : ByteArray := prog_11_method_18_code
def yX9_frees : MethodName := ⟨RX9, "frees", "(I)V"⟩
abbrev cX9_reader : ByteArray := prog_11_method_19_code
def yX9_reader : MethodName := ⟨RX9, "reader", "(IZ)I"⟩
abbrev cX9_generated : ByteArray := prog_11_method_20_code
def yX9_generated : MethodName := ⟨RX9, "generated", "(II)I"⟩
abbrev cX9_remove : ByteArray := prog_11_method_21_code
def yX9_remove : MethodName := ⟨RX9, "remove", "(I)I"⟩
abbrev cX9_find : ByteArray := prog_11_method_22_code
def yX9_find : MethodName := ⟨RX9, "find", "(II)I"⟩
abbrev cX9_found : ByteArray := prog_11_method_23_code
def yX9_found : MethodName := ⟨RX9, "found", "(III)I"⟩
abbrev cX9_isConstant : ByteArray := prog_11_method_24_code
def yX9_isConstant : MethodName := ⟨RX9, "isConstant", "(I)Z"⟩
abbrev cX9_reckon : ByteArray := prog_11_method_25_code
def yX9_reckon : MethodName := ⟨RX9, "reckon", "()V"⟩
abbrev cX9_waitsForNone : ByteArray := prog_11_method_26_code
def yX9_waitsForNone : MethodName := ⟨RX9, "waitsForNone", "(I)Z"⟩
abbrev cX9_value : ByteArray := prog_11_method_27_code
def yX9_value : MethodName := ⟨RX9, "value", "(II)J"⟩
abbrev cX9_round : ByteArray := prog_11_method_28_code
def yX9_round : MethodName := ⟨RX9, "round", "(II)I"⟩
abbrev cX9_follow : ByteArray := prog_11_method_29_code
def yX9_follow : MethodName := ⟨RX9, "follow", "(I)V"⟩
abbrev cX9_chain : ByteArray := prog_11_method_30_code
def yX9_chain : MethodName := ⟨RX9, "chain", "(IIII)I"⟩
abbrev cX9_missing : ByteArray := prog_11_method_31_code
def yX9_missing : MethodName := ⟨RX9, "missing", "(I)I"⟩
abbrev cX9_lay : ByteArray := prog_11_method_32_code
def yX9_lay : MethodName := ⟨RX9, "lay", "(J)V"⟩
abbrev cX9_layFound : ByteArray := prog_11_method_33_code
def yX9_layFound : MethodName := ⟨RX9, "layFound", "(I)V"⟩
abbrev cX9_mixed : ByteArray := prog_11_method_34_code
def yX9_mixed : MethodName := ⟨RX9, "mixed", "(JJ)J"⟩
abbrev cX9_lineDigest : ByteArray := prog_11_method_35_code
def yX9_lineDigest : MethodName := ⟨RX9, "lineDigest", "()J"⟩
abbrev cX9_layParts : ByteArray := prog_11_method_36_code
def yX9_layParts : MethodName := ⟨RX9, "layParts", "(I)V"⟩
abbrev cX9_layRow : ByteArray := prog_11_method_37_code
def yX9_layRow : MethodName := ⟨RX9, "layRow", "(I)V"⟩
abbrev cX9_rowOf : ByteArray := prog_11_method_38_code
def yX9_rowOf : MethodName := ⟨RX9, "rowOf", "(I)V"⟩
abbrev cX9_size : ByteArray := prog_11_method_39_code
def yX9_size : MethodName := ⟨RX9, "size", "(I)I"⟩
abbrev cX9_row : ByteArray := prog_11_method_40_code
def yX9_row : MethodName := ⟨RX9, "row", "(II)J"⟩
abbrev cX9_kept : ByteArray := prog_11_method_41_code
def yX9_kept : MethodName := ⟨RX9, "kept", "(II)J"⟩
abbrev cX9_isAs : ByteArray := prog_11_method_42_code
def yX9_isAs : MethodName := ⟨RX9, "isAs", "(III)Z"⟩
abbrev cX9_whyOf : ByteArray := prog_11_method_43_code
def yX9_whyOf : MethodName := ⟨RX9, "whyOf", "(I)I"⟩
abbrev cX9_why : ByteArray := prog_11_method_44_code
def yX9_why : MethodName := ⟨RX9, "why", "(I)I"⟩
abbrev cX9_needs : ByteArray := prog_11_method_45_code
def yX9_needs : MethodName := ⟨RX9, "needs", "()I"⟩
abbrev cX9_keep : ByteArray := prog_11_method_46_code
def yX9_keep : MethodName := ⟨RX9, "keep", "(I)V"⟩
abbrev cX9_make : ByteArray := prog_11_method_47_code
def yX9_make : MethodName := ⟨RX9, "make", "(I)I"⟩
abbrev cX9_force : ByteArray := prog_11_method_48_code
def yX9_force : MethodName := ⟨RX9, "force", "(I)I"⟩
abbrev cX9_output : ByteArray := prog_11_method_49_code
def yX9_output : MethodName := ⟨RX9, "output", "(I)J"⟩
abbrev cX9_anew : ByteArray := prog_11_method_50_code
def yX9_anew : MethodName := ⟨RX9, "anew", "()J"⟩
abbrev cX9_points : ByteArray := prog_11_method_51_code
def yX9_points : MethodName := ⟨RX9, "points", "(II)V"⟩
abbrev cX9_findLeads : ByteArray := prog_11_method_52_code
def yX9_findLeads : MethodName := ⟨RX9, "findLeads", "()V"⟩
abbrev cX9_areOne : ByteArray := prog_11_method_53_code
def yX9_areOne : MethodName := ⟨RX9, "areOne", "(II)Z"⟩
abbrev cX9_mayCome : ByteArray := prog_11_method_54_code
def yX9_mayCome : MethodName := ⟨RX9, "mayCome", "(I)Z"⟩
abbrev cX9_findOrder : ByteArray := prog_11_method_55_code
def yX9_findOrder : MethodName := ⟨RX9, "findOrder", "()V"⟩
abbrev cX9_coarse : ByteArray := prog_11_method_56_code
def yX9_coarse : MethodName := ⟨RX9, "coarse", "()I"⟩
abbrev cX9_order : ByteArray := prog_11_method_57_code
def yX9_order : MethodName := ⟨RX9, "order", "(I)I"⟩
abbrev cX9_ring : ByteArray := prog_11_method_58_code
def yX9_ring : MethodName := ⟨RX9, "ring", "(I)I"⟩
abbrev cX9_leads : ByteArray := prog_11_method_59_code
def yX9_leads : MethodName := ⟨RX9, "leads", "(II)I"⟩
abbrev cX9_count : ByteArray := prog_11_method_60_code
def yX9_count : MethodName := ⟨RX9, "count", "(I)I"⟩
abbrev cX9_clear : ByteArray := prog_11_method_61_code
def yX9_clear : MethodName := ⟨RX9, "clear", "()I"⟩
def RJx00060 : String := "java/lang/ArrayIndexOutOfBoundsException"
def TJx00060 : u_T := fun k => match k with
  | 0 => ("java/lang/Throwable", "backtrace", "Ljava/lang/Object;", false)
  | 1 => ("java/lang/Throwable", "detailMessage", "Ljava/lang/String;", false)
  | 2 => ("java/lang/Throwable", "cause", "Ljava/lang/Throwable;", false)
  | 3 => ("java/lang/Throwable", "stackTrace", "[Ljava/lang/StackTraceElement;", false)
  | 4 => ("java/lang/Throwable", "depth", "I", false)
  | _ => ("java/lang/Throwable", "suppressedExceptions", "Ljava/util/List;", false)
def tyJx00060 : Nat → FieldType := fun k => match k with
  | 0 => .object "java/lang/Object"
  | 1 => .object "java/lang/String"
  | 2 => .object "java/lang/Throwable"
  | 3 => .array (.object "java/lang/StackTraceElement")
  | 4 => .int
  | _ => .object "java/util/List"
abbrev wsJx000600 : List Cond := u_ws RJx00060 TJx00060 6
theorem nmJx00060 : ∀ a, a < 6 → ∀ b, b < 6 → a ≠ b → (TJx00060 a).2.1 ≠ (TJx00060 b).2.1 := by decide +kernel
theorem tyJx00060_ok : ∀ k, k < 6 → parseFieldDescriptor (TJx00060 k).2.2.1 = some (tyJx00060 k) := by decide +kernel
abbrev cJx00060_init_a7421 : ByteArray := prog_12_method_2_code
def yJx00060_init_a7421 : MethodName := ⟨RJx00060, "<init>", "(Ljava/lang/String;)V"⟩
def RJ6 : String := "java/lang/Integer"
def TJ6 : u_T := fun k => match k with
  | _ => ("", "", "", false)
def tyJ6 : Nat → FieldType := fun k => match k with
  | _ => .int
abbrev wsJ60 : List Cond := u_ws RJ6 TJ6 0
theorem nmJ6 : ∀ a, a < 0 → ∀ b, b < 0 → a ≠ b → (TJ6 a).2.1 ≠ (TJ6 b).2.1 := by decide +kernel
theorem tyJ6_ok : ∀ k, k < 0 → parseFieldDescriptor (TJ6 k).2.2.1 = some (tyJ6 k) := by decide +kernel
abbrev cJ6_bitCount_0f7a4 : ByteArray := prog_15_method_49_code
def yJ6_bitCount_0f7a4 : MethodName := ⟨RJ6, "bitCount", "(I)I"⟩
def RJ9 : String := "java/lang/Math"
def TJ9 : u_T := fun k => match k with
  | _ => ("", "", "", false)
def tyJ9 : Nat → FieldType := fun k => match k with
  | _ => .int
abbrev wsJ90 : List Cond := u_ws RJ9 TJ9 0
theorem nmJ9 : ∀ a, a < 0 → ∀ b, b < 0 → a ≠ b → (TJ9 a).2.1 ≠ (TJ9 b).2.1 := by decide +kernel
theorem tyJ9_ok : ∀ k, k < 0 → parseFieldDescriptor (TJ9 k).2.2.1 = some (tyJ9 k) := by decide +kernel
abbrev cJ9_max_7cf53 : ByteArray := prog_16_method_65_code
def yJ9_max_7cf53 : MethodName := ⟨RJ9, "max", "(II)I"⟩
def RJx5d777 : String := "java/lang/NullPointerException"
def TJx5d777 : u_T := fun k => match k with
  | 0 => ("java/lang/Throwable", "backtrace", "Ljava/lang/Object;", false)
  | 1 => ("java/lang/Throwable", "detailMessage", "Ljava/lang/String;", false)
  | 2 => ("java/lang/Throwable", "cause", "Ljava/lang/Throwable;", false)
  | 3 => ("java/lang/Throwable", "stackTrace", "[Ljava/lang/StackTraceElement;", false)
  | 4 => ("java/lang/Throwable", "depth", "I", false)
  | 5 => ("java/lang/Throwable", "suppressedExceptions", "Ljava/util/List;", false)
  | 6 => ("java/lang/NullPointerException", "extendedMessageState", "I", false)
  | _ => ("java/lang/NullPointerException", "extendedMessage", "Ljava/lang/String;", false)
def tyJx5d777 : Nat → FieldType := fun k => match k with
  | 0 => .object "java/lang/Object"
  | 1 => .object "java/lang/String"
  | 2 => .object "java/lang/Throwable"
  | 3 => .array (.object "java/lang/StackTraceElement")
  | 4 => .int
  | 5 => .object "java/util/List"
  | 6 => .int
  | _ => .object "java/lang/String"
abbrev wsJx5d7770 : List Cond := u_ws RJx5d777 TJx5d777 8
theorem nmJx5d777 : ∀ a, a < 8 → ∀ b, b < 8 → a ≠ b → (TJx5d777 a).2.1 ≠ (TJx5d777 b).2.1 := by decide +kernel
theorem tyJx5d777_ok : ∀ k, k < 8 → parseFieldDescriptor (TJx5d777 k).2.2.1 = some (tyJx5d777 k) := by decide +kernel
abbrev cJx5d777_init_da8c8 : ByteArray := prog_17_method_1_code
def yJx5d777_init_da8c8 : MethodName := ⟨RJx5d777, "<init>", "()V"⟩
abbrev cJx5d777_init_a7421 : ByteArray := prog_17_method_2_code
def yJx5d777_init_a7421 : MethodName := ⟨RJx5d777, "<init>", "(Ljava/lang/String;)V"⟩
abbrev cJx5d777_fillInStackTrace_cddbd : ByteArray := prog_17_method_3_code
def yJx5d777_fillInStackTrace_cddbd : MethodName := ⟨RJx5d777, "fillInStackTrace", "()Ljava/lang/Throwable;"⟩
def RJ0 : String := "java/lang/String"
def TJ0 : u_T := fun k => match k with
  | 0 => ("java/lang/String", "value", "[B", true)
  | _ => ("java/lang/String", "coder", "B", true)
def tyJ0 : Nat → FieldType := fun k => match k with
  | 0 => .array .byte
  | _ => .byte
abbrev wsJ00 : List Cond := u_ws RJ0 TJ0 2
theorem nmJ0 : ∀ a, a < 2 → ∀ b, b < 2 → a ≠ b → (TJ0 a).2.1 ≠ (TJ0 b).2.1 := by decide +kernel
theorem tyJ0_ok : ∀ k, k < 2 → parseFieldDescriptor (TJ0 k).2.2.1 = some (tyJ0 k) := by decide +kernel
def RL : String := "RemakeNeeds2Law"
abbrev cL_row : ByteArray := method_3_code
def yL_row : MethodName := ⟨RL, "row", "(LRemakeNeeds2;II[J)I"⟩
abbrev cL_kept : ByteArray := method_4_code
def yL_kept : MethodName := ⟨RL, "kept", "(LRemakeNeeds2;II[J)I"⟩
abbrev cL_order : ByteArray := method_5_code
def yL_order : MethodName := ⟨RL, "order", "(LRemakeNeeds2;I[J)I"⟩
abbrev cL_law : ByteArray := code
def yL_law : MethodName := ⟨RL, "law", "([I)Z"⟩
theorem dX0_init_0 : decode cX0_init 0 = .ok (.aload_n 0, 1) := by decide +kernel
theorem dX0_init_1 : decode cX0_init 1 = .ok (.invokespecial 3, 3) := by decide +kernel
theorem dX0_init_4 : decode cX0_init 4 = .ok (.aload_n 0, 1) := by decide +kernel
theorem dX0_init_5 : decode cX0_init 5 = .ok (.sipush 160, 3) := by decide +kernel
theorem dX0_init_8 : decode cX0_init 8 = .ok (.anewarray 9, 3) := by decide +kernel
theorem dX0_init_11 : decode cX0_init 11 = .ok (.putfield 11, 3) := by decide +kernel
theorem dX0_init_14 : decode cX0_init 14 = .ok (.aload_n 0, 1) := by decide +kernel
theorem dX0_init_15 : decode cX0_init 15 = .ok (.iconst 0, 1) := by decide +kernel
theorem dX0_init_16 : decode cX0_init 16 = .ok (.putfield 17, 3) := by decide +kernel
theorem dX0_init_19 : decode cX0_init 19 = .ok (.aload_n 0, 1) := by decide +kernel
theorem dX0_init_20 : decode cX0_init 20 = .ok (.sipush 160, 3) := by decide +kernel
theorem dX0_init_23 : decode cX0_init 23 = .ok (.anewarray 9, 3) := by decide +kernel
theorem dX0_init_26 : decode cX0_init 26 = .ok (.putfield 21, 3) := by decide +kernel
theorem dX0_init_29 : decode cX0_init 29 = .ok (.aload_n 0, 1) := by decide +kernel
theorem dX0_init_30 : decode cX0_init 30 = .ok (.iconst 0, 1) := by decide +kernel
theorem dX0_init_31 : decode cX0_init 31 = .ok (.putfield 24, 3) := by decide +kernel
theorem dX0_init_34 : decode cX0_init 34 = .ok (.return_, 1) := by decide +kernel
theorem dX0_settleAll_0 : decode cX0_settleAll 0 = .ok (.aload_n 1, 1) := by decide +kernel
theorem dX0_settleAll_1 : decode cX0_settleAll 1 = .ok (.invokestatic 27, 3) := by decide +kernel
theorem dX0_settleAll_4 : decode cX0_settleAll 4 = .ok (.iconst 0, 1) := by decide +kernel
theorem dX0_settleAll_5 : decode cX0_settleAll 5 = .ok (.istore_n 2, 1) := by decide +kernel
theorem dX0_settleAll_6 : decode cX0_settleAll 6 = .ok (.iload_n 2, 1) := by decide +kernel
theorem dX0_settleAll_7 : decode cX0_settleAll 7 = .ok (.aload_n 1, 1) := by decide +kernel
theorem dX0_settleAll_8 : decode cX0_settleAll 8 = .ok (.getfield 31, 3) := by decide +kernel
theorem dX0_settleAll_11 : decode cX0_settleAll 11 = .ok (.if_icmp .ge 77, 3) := by decide +kernel
theorem dX0_settleAll_14 : decode cX0_settleAll 14 = .ok (.aload_n 1, 1) := by decide +kernel
theorem dX0_settleAll_15 : decode cX0_settleAll 15 = .ok (.iload_n 2, 1) := by decide +kernel
theorem dX0_settleAll_16 : decode cX0_settleAll 16 = .ok (.invokevirtual 36, 3) := by decide +kernel
theorem dX0_settleAll_19 : decode cX0_settleAll 19 = .ok (.astore_n 3, 1) := by decide +kernel
theorem dX0_settleAll_20 : decode cX0_settleAll 20 = .ok (.iconst 0, 1) := by decide +kernel
theorem dX0_settleAll_21 : decode cX0_settleAll 21 = .ok (.istore 4, 2) := by decide +kernel
theorem dX0_settleAll_23 : decode cX0_settleAll 23 = .ok (.aload_n 3, 1) := by decide +kernel
theorem dX0_settleAll_24 : decode cX0_settleAll 24 = .ok (.ifnull 58, 3) := by decide +kernel
theorem dX0_settleAll_27 : decode cX0_settleAll 27 = .ok (.iload 4, 2) := by decide +kernel
theorem dX0_settleAll_29 : decode cX0_settleAll 29 = .ok (.aload_n 3, 1) := by decide +kernel
theorem dX0_settleAll_30 : decode cX0_settleAll 30 = .ok (.invokevirtual 40, 3) := by decide +kernel
theorem dX0_settleAll_33 : decode cX0_settleAll 33 = .ok (.if_icmp .ge 49, 3) := by decide +kernel
theorem dX0_settleAll_36 : decode cX0_settleAll 36 = .ok (.aload_n 3, 1) := by decide +kernel
theorem dX0_settleAll_37 : decode cX0_settleAll 37 = .ok (.iload 4, 2) := by decide +kernel
theorem dX0_settleAll_39 : decode cX0_settleAll 39 = .ok (.invokevirtual 46, 3) := by decide +kernel
theorem dX0_settleAll_42 : decode cX0_settleAll 42 = .ok (.astore 5, 2) := by decide +kernel
theorem dX0_settleAll_44 : decode cX0_settleAll 44 = .ok (.aload 5, 2) := by decide +kernel
theorem dX0_settleAll_46 : decode cX0_settleAll 46 = .ok (.ifnull 30, 3) := by decide +kernel
theorem dX0_settleAll_49 : decode cX0_settleAll 49 = .ok (.aload 5, 2) := by decide +kernel
theorem dX0_settleAll_51 : decode cX0_settleAll 51 = .ok (.getfield 50, 3) := by decide +kernel
theorem dX0_settleAll_54 : decode cX0_settleAll 54 = .ok (.invokestatic 53, 3) := by decide +kernel
theorem dX0_settleAll_57 : decode cX0_settleAll 57 = .ok (.iconst 1, 1) := by decide +kernel
theorem dX0_settleAll_58 : decode cX0_settleAll 58 = .ok (.if_icmp .ne 18, 3) := by decide +kernel
theorem dX0_settleAll_61 : decode cX0_settleAll 61 = .ok (.aload 5, 2) := by decide +kernel
theorem dX0_settleAll_63 : decode cX0_settleAll 63 = .ok (.getfield 57, 3) := by decide +kernel
theorem dX0_settleAll_66 : decode cX0_settleAll 66 = .ok (.ifCond .ne 10, 3) := by decide +kernel
theorem dX0_settleAll_69 : decode cX0_settleAll 69 = .ok (.aload_n 0, 1) := by decide +kernel
theorem dX0_settleAll_70 : decode cX0_settleAll 70 = .ok (.aload 5, 2) := by decide +kernel
theorem dX0_settleAll_72 : decode cX0_settleAll 72 = .ok (.aload_n 1, 1) := by decide +kernel
theorem dX0_settleAll_73 : decode cX0_settleAll 73 = .ok (.invokevirtual 60, 3) := by decide +kernel
theorem dX0_settleAll_76 : decode cX0_settleAll 76 = .ok (.iinc 4 1, 3) := by decide +kernel
theorem dX0_settleAll_79 : decode cX0_settleAll 79 = .ok (.goto (-56), 3) := by decide +kernel
theorem dX0_settleAll_82 : decode cX0_settleAll 82 = .ok (.iinc 2 1, 3) := by decide +kernel
theorem dX0_settleAll_85 : decode cX0_settleAll 85 = .ok (.goto (-79), 3) := by decide +kernel
theorem dX0_settleAll_88 : decode cX0_settleAll 88 = .ok (.return_, 1) := by decide +kernel
theorem dX0_refresh_0 : decode cX0_refresh 0 = .ok (.iconst 0, 1) := by decide +kernel
theorem dX0_refresh_1 : decode cX0_refresh 1 = .ok (.istore_n 1, 1) := by decide +kernel
theorem dX0_refresh_2 : decode cX0_refresh 2 = .ok (.iload_n 1, 1) := by decide +kernel
theorem dX0_refresh_3 : decode cX0_refresh 3 = .ok (.aload_n 0, 1) := by decide +kernel
theorem dX0_refresh_4 : decode cX0_refresh 4 = .ok (.getfield 31, 3) := by decide +kernel
theorem dX0_refresh_7 : decode cX0_refresh 7 = .ok (.if_icmp .ge 75, 3) := by decide +kernel
theorem dX0_refresh_10 : decode cX0_refresh 10 = .ok (.aload_n 0, 1) := by decide +kernel
theorem dX0_refresh_11 : decode cX0_refresh 11 = .ok (.iload_n 1, 1) := by decide +kernel
theorem dX0_refresh_12 : decode cX0_refresh 12 = .ok (.invokevirtual 36, 3) := by decide +kernel
theorem dX0_refresh_15 : decode cX0_refresh 15 = .ok (.astore_n 2, 1) := by decide +kernel
theorem dX0_refresh_16 : decode cX0_refresh 16 = .ok (.iconst 0, 1) := by decide +kernel
theorem dX0_refresh_17 : decode cX0_refresh 17 = .ok (.istore_n 3, 1) := by decide +kernel
theorem dX0_refresh_18 : decode cX0_refresh 18 = .ok (.aload_n 2, 1) := by decide +kernel
theorem dX0_refresh_19 : decode cX0_refresh 19 = .ok (.ifnull 57, 3) := by decide +kernel
theorem dX0_refresh_22 : decode cX0_refresh 22 = .ok (.iload_n 3, 1) := by decide +kernel
theorem dX0_refresh_23 : decode cX0_refresh 23 = .ok (.aload_n 2, 1) := by decide +kernel
theorem dX0_refresh_24 : decode cX0_refresh 24 = .ok (.invokevirtual 40, 3) := by decide +kernel
theorem dX0_refresh_27 : decode cX0_refresh 27 = .ok (.if_icmp .ge 49, 3) := by decide +kernel
theorem dX0_refresh_30 : decode cX0_refresh 30 = .ok (.aload_n 2, 1) := by decide +kernel
theorem dX0_refresh_31 : decode cX0_refresh 31 = .ok (.iload_n 3, 1) := by decide +kernel
theorem dX0_refresh_32 : decode cX0_refresh 32 = .ok (.invokevirtual 46, 3) := by decide +kernel
theorem dX0_refresh_35 : decode cX0_refresh 35 = .ok (.astore 4, 2) := by decide +kernel
theorem dX0_refresh_37 : decode cX0_refresh 37 = .ok (.aload 4, 2) := by decide +kernel
theorem dX0_refresh_39 : decode cX0_refresh 39 = .ok (.ifnull 31, 3) := by decide +kernel
theorem dX0_refresh_42 : decode cX0_refresh 42 = .ok (.aload 4, 2) := by decide +kernel
theorem dX0_refresh_44 : decode cX0_refresh 44 = .ok (.iconst 0, 1) := by decide +kernel
theorem dX0_refresh_45 : decode cX0_refresh 45 = .ok (.putfield 57, 3) := by decide +kernel
theorem dX0_refresh_48 : decode cX0_refresh 48 = .ok (.aload 4, 2) := by decide +kernel
theorem dX0_refresh_50 : decode cX0_refresh 50 = .ok (.aload 4, 2) := by decide +kernel
theorem dX0_refresh_52 : decode cX0_refresh 52 = .ok (.getfield 64, 3) := by decide +kernel
theorem dX0_refresh_55 : decode cX0_refresh 55 = .ok (.putfield 68, 3) := by decide +kernel
theorem dX0_refresh_58 : decode cX0_refresh 58 = .ok (.aload 4, 2) := by decide +kernel
theorem dX0_refresh_60 : decode cX0_refresh 60 = .ok (.iconst 0, 1) := by decide +kernel
theorem dX0_refresh_61 : decode cX0_refresh 61 = .ok (.putfield 71, 3) := by decide +kernel
theorem dX0_refresh_64 : decode cX0_refresh 64 = .ok (.aload 4, 2) := by decide +kernel
theorem dX0_refresh_66 : decode cX0_refresh 66 = .ok (.iconst 0, 1) := by decide +kernel
theorem dX0_refresh_67 : decode cX0_refresh 67 = .ok (.putfield 75, 3) := by decide +kernel
theorem dX0_refresh_70 : decode cX0_refresh 70 = .ok (.iinc 3 1, 3) := by decide +kernel
theorem dX0_refresh_73 : decode cX0_refresh 73 = .ok (.goto (-55), 3) := by decide +kernel
theorem dX0_refresh_76 : decode cX0_refresh 76 = .ok (.iinc 1 1, 3) := by decide +kernel
theorem dX0_refresh_79 : decode cX0_refresh 79 = .ok (.goto (-77), 3) := by decide +kernel
theorem dX0_refresh_82 : decode cX0_refresh 82 = .ok (.return_, 1) := by decide +kernel
theorem dX0_settle_0 : decode cX0_settle 0 = .ok (.aload_n 0, 1) := by decide +kernel
theorem dX0_settle_1 : decode cX0_settle 1 = .ok (.iconst 0, 1) := by decide +kernel
theorem dX0_settle_2 : decode cX0_settle 2 = .ok (.putfield 17, 3) := by decide +kernel
theorem dX0_settle_5 : decode cX0_settle 5 = .ok (.aload_n 0, 1) := by decide +kernel
theorem dX0_settle_6 : decode cX0_settle 6 = .ok (.aload_n 1, 1) := by decide +kernel
theorem dX0_settle_7 : decode cX0_settle 7 = .ok (.invokevirtual 78, 3) := by decide +kernel
theorem dX0_settle_10 : decode cX0_settle 10 = .ok (.iconst 0, 1) := by decide +kernel
theorem dX0_settle_11 : decode cX0_settle 11 = .ok (.istore_n 3, 1) := by decide +kernel
theorem dX0_settle_12 : decode cX0_settle 12 = .ok (.iload_n 3, 1) := by decide +kernel
theorem dX0_settle_13 : decode cX0_settle 13 = .ok (.ldc 82, 2) := by decide +kernel
theorem dX0_settle_15 : decode cX0_settle 15 = .ok (.if_icmp .ge 133, 3) := by decide +kernel
theorem dX0_settle_18 : decode cX0_settle 18 = .ok (.aload_n 0, 1) := by decide +kernel
theorem dX0_settle_19 : decode cX0_settle 19 = .ok (.getfield 17, 3) := by decide +kernel
theorem dX0_settle_22 : decode cX0_settle 22 = .ok (.ifCond .le 126, 3) := by decide +kernel
theorem dX0_settle_25 : decode cX0_settle 25 = .ok (.aload_n 0, 1) := by decide +kernel
theorem dX0_settle_26 : decode cX0_settle 26 = .ok (.getfield 17, 3) := by decide +kernel
theorem dX0_settle_29 : decode cX0_settle 29 = .ok (.aload_n 0, 1) := by decide +kernel
theorem dX0_settle_30 : decode cX0_settle 30 = .ok (.getfield 11, 3) := by decide +kernel
theorem dX0_settle_33 : decode cX0_settle 33 = .ok (.arraylength, 1) := by decide +kernel
theorem dX0_settle_34 : decode cX0_settle 34 = .ok (.if_icmp .gt 114, 3) := by decide +kernel
theorem dX0_settle_37 : decode cX0_settle 37 = .ok (.aload_n 0, 1) := by decide +kernel
theorem dX0_settle_38 : decode cX0_settle 38 = .ok (.getfield 11, 3) := by decide +kernel
theorem dX0_settle_41 : decode cX0_settle 41 = .ok (.aload_n 0, 1) := by decide +kernel
theorem dX0_settle_42 : decode cX0_settle 42 = .ok (.getfield 17, 3) := by decide +kernel
theorem dX0_settle_45 : decode cX0_settle 45 = .ok (.iconst 1, 1) := by decide +kernel
theorem dX0_settle_46 : decode cX0_settle 46 = .ok (.isub, 1) := by decide +kernel
theorem dX0_settle_47 : decode cX0_settle 47 = .ok (.aaload, 1) := by decide +kernel
theorem dX0_settle_48 : decode cX0_settle 48 = .ok (.astore 4, 2) := by decide +kernel
theorem dX0_settle_50 : decode cX0_settle 50 = .ok (.aload 4, 2) := by decide +kernel
theorem dX0_settle_52 : decode cX0_settle 52 = .ok (.ifnull 19, 3) := by decide +kernel
theorem dX0_settle_55 : decode cX0_settle 55 = .ok (.aload 4, 2) := by decide +kernel
theorem dX0_settle_57 : decode cX0_settle 57 = .ok (.getfield 83, 3) := by decide +kernel
theorem dX0_settle_60 : decode cX0_settle 60 = .ok (.aload 4, 2) := by decide +kernel
theorem dX0_settle_62 : decode cX0_settle 62 = .ok (.getfield 86, 3) := by decide +kernel
theorem dX0_settle_65 : decode cX0_settle 65 = .ok (.invokevirtual 90, 3) := by decide +kernel
theorem dX0_settle_68 : decode cX0_settle 68 = .ok (.if_icmp .lt 21, 3) := by decide +kernel
theorem dX0_settle_71 : decode cX0_settle 71 = .ok (.aload 4, 2) := by decide +kernel
theorem dX0_settle_73 : decode cX0_settle 73 = .ok (.invokestatic 95, 3) := by decide +kernel
theorem dX0_settle_76 : decode cX0_settle 76 = .ok (.aload_n 0, 1) := by decide +kernel
theorem dX0_settle_77 : decode cX0_settle 77 = .ok (.dup, 1) := by decide +kernel
theorem dX0_settle_78 : decode cX0_settle 78 = .ok (.getfield 17, 3) := by decide +kernel
theorem dX0_settle_81 : decode cX0_settle 81 = .ok (.iconst 1, 1) := by decide +kernel
theorem dX0_settle_82 : decode cX0_settle 82 = .ok (.isub, 1) := by decide +kernel
theorem dX0_settle_83 : decode cX0_settle 83 = .ok (.putfield 17, 3) := by decide +kernel
theorem dX0_settle_86 : decode cX0_settle 86 = .ok (.goto 56, 3) := by decide +kernel
theorem dX0_settle_89 : decode cX0_settle 89 = .ok (.aload_n 2, 1) := by decide +kernel
theorem dX0_settle_90 : decode cX0_settle 90 = .ok (.aload 4, 2) := by decide +kernel
theorem dX0_settle_92 : decode cX0_settle 92 = .ok (.aload 4, 2) := by decide +kernel
theorem dX0_settle_94 : decode cX0_settle 94 = .ok (.getfield 83, 3) := by decide +kernel
theorem dX0_settle_97 : decode cX0_settle 97 = .ok (.invokevirtual 98, 3) := by decide +kernel
theorem dX0_settle_100 : decode cX0_settle 100 = .ok (.astore 5, 2) := by decide +kernel
theorem dX0_settle_102 : decode cX0_settle 102 = .ok (.aload 5, 2) := by decide +kernel
theorem dX0_settle_104 : decode cX0_settle 104 = .ok (.ifnull 20, 3) := by decide +kernel
theorem dX0_settle_107 : decode cX0_settle 107 = .ok (.aload 5, 2) := by decide +kernel
theorem dX0_settle_109 : decode cX0_settle 109 = .ok (.getfield 57, 3) := by decide +kernel
theorem dX0_settle_112 : decode cX0_settle 112 = .ok (.ifCond .ne 12, 3) := by decide +kernel
theorem dX0_settle_115 : decode cX0_settle 115 = .ok (.aload_n 0, 1) := by decide +kernel
theorem dX0_settle_116 : decode cX0_settle 116 = .ok (.aload 5, 2) := by decide +kernel
theorem dX0_settle_118 : decode cX0_settle 118 = .ok (.invokevirtual 78, 3) := by decide +kernel
theorem dX0_settle_121 : decode cX0_settle 121 = .ok (.goto 21, 3) := by decide +kernel
theorem dX0_settle_124 : decode cX0_settle 124 = .ok (.aload 4, 2) := by decide +kernel
theorem dX0_settle_126 : decode cX0_settle 126 = .ok (.aload 5, 2) := by decide +kernel
theorem dX0_settle_128 : decode cX0_settle 128 = .ok (.invokestatic 102, 3) := by decide +kernel
theorem dX0_settle_131 : decode cX0_settle 131 = .ok (.aload 4, 2) := by decide +kernel
theorem dX0_settle_133 : decode cX0_settle 133 = .ok (.dup, 1) := by decide +kernel
theorem dX0_settle_134 : decode cX0_settle 134 = .ok (.getfield 83, 3) := by decide +kernel
theorem dX0_settle_137 : decode cX0_settle 137 = .ok (.iconst 1, 1) := by decide +kernel
theorem dX0_settle_138 : decode cX0_settle 138 = .ok (.iadd, 1) := by decide +kernel
theorem dX0_settle_139 : decode cX0_settle 139 = .ok (.putfield 83, 3) := by decide +kernel
theorem dX0_settle_142 : decode cX0_settle 142 = .ok (.iinc 3 1, 3) := by decide +kernel
theorem dX0_settle_145 : decode cX0_settle 145 = .ok (.goto (-133), 3) := by decide +kernel
theorem dX0_settle_148 : decode cX0_settle 148 = .ok (.return_, 1) := by decide +kernel
theorem dX0_enter_0 : decode cX0_enter 0 = .ok (.aload_n 0, 1) := by decide +kernel
theorem dX0_enter_1 : decode cX0_enter 1 = .ok (.getfield 17, 3) := by decide +kernel
theorem dX0_enter_4 : decode cX0_enter 4 = .ok (.ifCond .lt 45, 3) := by decide +kernel
theorem dX0_enter_7 : decode cX0_enter 7 = .ok (.aload_n 0, 1) := by decide +kernel
theorem dX0_enter_8 : decode cX0_enter 8 = .ok (.getfield 17, 3) := by decide +kernel
theorem dX0_enter_11 : decode cX0_enter 11 = .ok (.aload_n 0, 1) := by decide +kernel
theorem dX0_enter_12 : decode cX0_enter 12 = .ok (.getfield 11, 3) := by decide +kernel
theorem dX0_enter_15 : decode cX0_enter 15 = .ok (.arraylength, 1) := by decide +kernel
theorem dX0_enter_16 : decode cX0_enter 16 = .ok (.if_icmp .ge 33, 3) := by decide +kernel
theorem dX0_enter_19 : decode cX0_enter 19 = .ok (.aload_n 1, 1) := by decide +kernel
theorem dX0_enter_20 : decode cX0_enter 20 = .ok (.iconst 1, 1) := by decide +kernel
theorem dX0_enter_21 : decode cX0_enter 21 = .ok (.putfield 57, 3) := by decide +kernel
theorem dX0_enter_24 : decode cX0_enter 24 = .ok (.aload_n 1, 1) := by decide +kernel
theorem dX0_enter_25 : decode cX0_enter 25 = .ok (.iconst 0, 1) := by decide +kernel
theorem dX0_enter_26 : decode cX0_enter 26 = .ok (.putfield 83, 3) := by decide +kernel
theorem dX0_enter_29 : decode cX0_enter 29 = .ok (.aload_n 0, 1) := by decide +kernel
theorem dX0_enter_30 : decode cX0_enter 30 = .ok (.getfield 11, 3) := by decide +kernel
theorem dX0_enter_33 : decode cX0_enter 33 = .ok (.aload_n 0, 1) := by decide +kernel
theorem dX0_enter_34 : decode cX0_enter 34 = .ok (.getfield 17, 3) := by decide +kernel
theorem dX0_enter_37 : decode cX0_enter 37 = .ok (.aload_n 1, 1) := by decide +kernel
theorem dX0_enter_38 : decode cX0_enter 38 = .ok (.aastore, 1) := by decide +kernel
theorem dX0_enter_39 : decode cX0_enter 39 = .ok (.aload_n 0, 1) := by decide +kernel
theorem dX0_enter_40 : decode cX0_enter 40 = .ok (.dup, 1) := by decide +kernel
theorem dX0_enter_41 : decode cX0_enter 41 = .ok (.getfield 17, 3) := by decide +kernel
theorem dX0_enter_44 : decode cX0_enter 44 = .ok (.iconst 1, 1) := by decide +kernel
theorem dX0_enter_45 : decode cX0_enter 45 = .ok (.iadd, 1) := by decide +kernel
theorem dX0_enter_46 : decode cX0_enter 46 = .ok (.putfield 17, 3) := by decide +kernel
theorem dX0_enter_49 : decode cX0_enter 49 = .ok (.return_, 1) := by decide +kernel
theorem dX0_addPart_0 : decode cX0_addPart 0 = .ok (.aload_n 1, 1) := by decide +kernel
theorem dX0_addPart_1 : decode cX0_addPart 1 = .ok (.ifnonnull 4, 3) := by decide +kernel
theorem dX0_addPart_4 : decode cX0_addPart 4 = .ok (.return_, 1) := by decide +kernel
theorem dX0_addPart_5 : decode cX0_addPart 5 = .ok (.aload_n 0, 1) := by decide +kernel
theorem dX0_addPart_6 : decode cX0_addPart 6 = .ok (.dup, 1) := by decide +kernel
theorem dX0_addPart_7 : decode cX0_addPart 7 = .ok (.getfield 68, 3) := by decide +kernel
theorem dX0_addPart_10 : decode cX0_addPart 10 = .ok (.aload_n 1, 1) := by decide +kernel
theorem dX0_addPart_11 : decode cX0_addPart 11 = .ok (.getfield 68, 3) := by decide +kernel
theorem dX0_addPart_14 : decode cX0_addPart 14 = .ok (.ladd, 1) := by decide +kernel
theorem dX0_addPart_15 : decode cX0_addPart 15 = .ok (.putfield 68, 3) := by decide +kernel
theorem dX0_addPart_18 : decode cX0_addPart 18 = .ok (.aload_n 1, 1) := by decide +kernel
theorem dX0_addPart_19 : decode cX0_addPart 19 = .ok (.getfield 57, 3) := by decide +kernel
theorem dX0_addPart_22 : decode cX0_addPart 22 = .ok (.iconst 1, 1) := by decide +kernel
theorem dX0_addPart_23 : decode cX0_addPart 23 = .ok (.if_icmp .eq 10, 3) := by decide +kernel
theorem dX0_addPart_26 : decode cX0_addPart 26 = .ok (.aload_n 1, 1) := by decide +kernel
theorem dX0_addPart_27 : decode cX0_addPart 27 = .ok (.getfield 71, 3) := by decide +kernel
theorem dX0_addPart_30 : decode cX0_addPart 30 = .ok (.ifCond .eq 8, 3) := by decide +kernel
theorem dX0_addPart_33 : decode cX0_addPart 33 = .ok (.aload_n 0, 1) := by decide +kernel
theorem dX0_addPart_34 : decode cX0_addPart 34 = .ok (.iconst 1, 1) := by decide +kernel
theorem dX0_addPart_35 : decode cX0_addPart 35 = .ok (.putfield 71, 3) := by decide +kernel
theorem dX0_addPart_38 : decode cX0_addPart 38 = .ok (.return_, 1) := by decide +kernel
theorem dX0_close_0 : decode cX0_close 0 = .ok (.aload_n 0, 1) := by decide +kernel
theorem dX0_close_1 : decode cX0_close 1 = .ok (.ifnonnull 4, 3) := by decide +kernel
theorem dX0_close_4 : decode cX0_close 4 = .ok (.return_, 1) := by decide +kernel
theorem dX0_close_5 : decode cX0_close 5 = .ok (.aload_n 0, 1) := by decide +kernel
theorem dX0_close_6 : decode cX0_close 6 = .ok (.iconst 2, 1) := by decide +kernel
theorem dX0_close_7 : decode cX0_close 7 = .ok (.putfield 57, 3) := by decide +kernel
theorem dX0_close_10 : decode cX0_close 10 = .ok (.aload_n 0, 1) := by decide +kernel
theorem dX0_close_11 : decode cX0_close 11 = .ok (.getfield 71, 3) := by decide +kernel
theorem dX0_close_14 : decode cX0_close 14 = .ok (.ifCond .eq 8, 3) := by decide +kernel
theorem dX0_close_17 : decode cX0_close 17 = .ok (.aload_n 0, 1) := by decide +kernel
theorem dX0_close_18 : decode cX0_close 18 = .ok (.lconst 0, 1) := by decide +kernel
theorem dX0_close_19 : decode cX0_close 19 = .ok (.putfield 68, 3) := by decide +kernel
theorem dX0_close_22 : decode cX0_close 22 = .ok (.return_, 1) := by decide +kernel
theorem dX0_follow_0 : decode cX0_follow 0 = .ok (.aload_n 2, 1) := by decide +kernel
theorem dX0_follow_1 : decode cX0_follow 1 = .ok (.invokestatic 27, 3) := by decide +kernel
theorem dX0_follow_4 : decode cX0_follow 4 = .ok (.aload_n 0, 1) := by decide +kernel
theorem dX0_follow_5 : decode cX0_follow 5 = .ok (.iconst 0, 1) := by decide +kernel
theorem dX0_follow_6 : decode cX0_follow 6 = .ok (.putfield 24, 3) := by decide +kernel
theorem dX0_follow_9 : decode cX0_follow 9 = .ok (.aload_n 0, 1) := by decide +kernel
theorem dX0_follow_10 : decode cX0_follow 10 = .ok (.iconst 0, 1) := by decide +kernel
theorem dX0_follow_11 : decode cX0_follow 11 = .ok (.putfield 17, 3) := by decide +kernel
theorem dX0_follow_14 : decode cX0_follow 14 = .ok (.aload_n 0, 1) := by decide +kernel
theorem dX0_follow_15 : decode cX0_follow 15 = .ok (.aload_n 1, 1) := by decide +kernel
theorem dX0_follow_16 : decode cX0_follow 16 = .ok (.invokevirtual 78, 3) := by decide +kernel
theorem dX0_follow_19 : decode cX0_follow 19 = .ok (.iconst 0, 1) := by decide +kernel
theorem dX0_follow_20 : decode cX0_follow 20 = .ok (.istore_n 3, 1) := by decide +kernel
theorem dX0_follow_21 : decode cX0_follow 21 = .ok (.iload_n 3, 1) := by decide +kernel
theorem dX0_follow_22 : decode cX0_follow 22 = .ok (.ldc 82, 2) := by decide +kernel
theorem dX0_follow_24 : decode cX0_follow 24 = .ok (.if_icmp .ge 135, 3) := by decide +kernel
theorem dX0_follow_27 : decode cX0_follow 27 = .ok (.aload_n 0, 1) := by decide +kernel
theorem dX0_follow_28 : decode cX0_follow 28 = .ok (.getfield 17, 3) := by decide +kernel
theorem dX0_follow_31 : decode cX0_follow 31 = .ok (.ifCond .le 128, 3) := by decide +kernel
theorem dX0_follow_34 : decode cX0_follow 34 = .ok (.aload_n 0, 1) := by decide +kernel
theorem dX0_follow_35 : decode cX0_follow 35 = .ok (.getfield 17, 3) := by decide +kernel
theorem dX0_follow_38 : decode cX0_follow 38 = .ok (.aload_n 0, 1) := by decide +kernel
theorem dX0_follow_39 : decode cX0_follow 39 = .ok (.getfield 11, 3) := by decide +kernel
theorem dX0_follow_42 : decode cX0_follow 42 = .ok (.arraylength, 1) := by decide +kernel
theorem dX0_follow_43 : decode cX0_follow 43 = .ok (.if_icmp .gt 116, 3) := by decide +kernel
theorem dX0_follow_46 : decode cX0_follow 46 = .ok (.aload_n 0, 1) := by decide +kernel
theorem dX0_follow_47 : decode cX0_follow 47 = .ok (.getfield 11, 3) := by decide +kernel
theorem dX0_follow_50 : decode cX0_follow 50 = .ok (.aload_n 0, 1) := by decide +kernel
theorem dX0_follow_51 : decode cX0_follow 51 = .ok (.getfield 17, 3) := by decide +kernel
theorem dX0_follow_54 : decode cX0_follow 54 = .ok (.iconst 1, 1) := by decide +kernel
theorem dX0_follow_55 : decode cX0_follow 55 = .ok (.isub, 1) := by decide +kernel
theorem dX0_follow_56 : decode cX0_follow 56 = .ok (.aaload, 1) := by decide +kernel
theorem dX0_follow_57 : decode cX0_follow 57 = .ok (.astore 4, 2) := by decide +kernel
theorem dX0_follow_59 : decode cX0_follow 59 = .ok (.aload 4, 2) := by decide +kernel
theorem dX0_follow_61 : decode cX0_follow 61 = .ok (.ifnull 19, 3) := by decide +kernel
theorem dX0_follow_64 : decode cX0_follow 64 = .ok (.aload 4, 2) := by decide +kernel
theorem dX0_follow_66 : decode cX0_follow 66 = .ok (.getfield 83, 3) := by decide +kernel
theorem dX0_follow_69 : decode cX0_follow 69 = .ok (.aload 4, 2) := by decide +kernel
theorem dX0_follow_71 : decode cX0_follow 71 = .ok (.getfield 86, 3) := by decide +kernel
theorem dX0_follow_74 : decode cX0_follow 74 = .ok (.invokevirtual 90, 3) := by decide +kernel
theorem dX0_follow_77 : decode cX0_follow 77 = .ok (.if_icmp .lt 16, 3) := by decide +kernel
theorem dX0_follow_80 : decode cX0_follow 80 = .ok (.aload_n 0, 1) := by decide +kernel
theorem dX0_follow_81 : decode cX0_follow 81 = .ok (.dup, 1) := by decide +kernel
theorem dX0_follow_82 : decode cX0_follow 82 = .ok (.getfield 17, 3) := by decide +kernel
theorem dX0_follow_85 : decode cX0_follow 85 = .ok (.iconst 1, 1) := by decide +kernel
theorem dX0_follow_86 : decode cX0_follow 86 = .ok (.isub, 1) := by decide +kernel
theorem dX0_follow_87 : decode cX0_follow 87 = .ok (.putfield 17, 3) := by decide +kernel
theorem dX0_follow_90 : decode cX0_follow 90 = .ok (.goto 63, 3) := by decide +kernel
theorem dX0_follow_93 : decode cX0_follow 93 = .ok (.aload_n 2, 1) := by decide +kernel
theorem dX0_follow_94 : decode cX0_follow 94 = .ok (.aload 4, 2) := by decide +kernel
theorem dX0_follow_96 : decode cX0_follow 96 = .ok (.aload 4, 2) := by decide +kernel
theorem dX0_follow_98 : decode cX0_follow 98 = .ok (.getfield 83, 3) := by decide +kernel
theorem dX0_follow_101 : decode cX0_follow 101 = .ok (.invokevirtual 98, 3) := by decide +kernel
theorem dX0_follow_104 : decode cX0_follow 104 = .ok (.astore 5, 2) := by decide +kernel
theorem dX0_follow_106 : decode cX0_follow 106 = .ok (.aload 4, 2) := by decide +kernel
theorem dX0_follow_108 : decode cX0_follow 108 = .ok (.dup, 1) := by decide +kernel
theorem dX0_follow_109 : decode cX0_follow 109 = .ok (.getfield 83, 3) := by decide +kernel
theorem dX0_follow_112 : decode cX0_follow 112 = .ok (.iconst 1, 1) := by decide +kernel
theorem dX0_follow_113 : decode cX0_follow 113 = .ok (.iadd, 1) := by decide +kernel
theorem dX0_follow_114 : decode cX0_follow 114 = .ok (.putfield 83, 3) := by decide +kernel
theorem dX0_follow_117 : decode cX0_follow 117 = .ok (.aload 5, 2) := by decide +kernel
theorem dX0_follow_119 : decode cX0_follow 119 = .ok (.ifnull 34, 3) := by decide +kernel
theorem dX0_follow_122 : decode cX0_follow 122 = .ok (.aload 5, 2) := by decide +kernel
theorem dX0_follow_124 : decode cX0_follow 124 = .ok (.getfield 75, 3) := by decide +kernel
theorem dX0_follow_127 : decode cX0_follow 127 = .ok (.ifCond .eq 6, 3) := by decide +kernel
theorem dX0_follow_130 : decode cX0_follow 130 = .ok (.goto 23, 3) := by decide +kernel
theorem dX0_follow_133 : decode cX0_follow 133 = .ok (.aload_n 0, 1) := by decide +kernel
theorem dX0_follow_134 : decode cX0_follow 134 = .ok (.aload 5, 2) := by decide +kernel
theorem dX0_follow_136 : decode cX0_follow 136 = .ok (.invokevirtual 106, 3) := by decide +kernel
theorem dX0_follow_139 : decode cX0_follow 139 = .ok (.aload 5, 2) := by decide +kernel
theorem dX0_follow_141 : decode cX0_follow 141 = .ok (.getfield 57, 3) := by decide +kernel
theorem dX0_follow_144 : decode cX0_follow 144 = .ok (.ifCond .ne 9, 3) := by decide +kernel
theorem dX0_follow_147 : decode cX0_follow 147 = .ok (.aload_n 0, 1) := by decide +kernel
theorem dX0_follow_148 : decode cX0_follow 148 = .ok (.aload 5, 2) := by decide +kernel
theorem dX0_follow_150 : decode cX0_follow 150 = .ok (.invokevirtual 78, 3) := by decide +kernel
theorem dX0_follow_153 : decode cX0_follow 153 = .ok (.iinc 3 1, 3) := by decide +kernel
theorem dX0_follow_156 : decode cX0_follow 156 = .ok (.goto (-135), 3) := by decide +kernel
theorem dX0_follow_159 : decode cX0_follow 159 = .ok (.return_, 1) := by decide +kernel
theorem dX0_note_0 : decode cX0_note 0 = .ok (.aload_n 0, 1) := by decide +kernel
theorem dX0_note_1 : decode cX0_note 1 = .ok (.getfield 24, 3) := by decide +kernel
theorem dX0_note_4 : decode cX0_note 4 = .ok (.ifCond .lt 40, 3) := by decide +kernel
theorem dX0_note_7 : decode cX0_note 7 = .ok (.aload_n 0, 1) := by decide +kernel
theorem dX0_note_8 : decode cX0_note 8 = .ok (.getfield 24, 3) := by decide +kernel
theorem dX0_note_11 : decode cX0_note 11 = .ok (.aload_n 0, 1) := by decide +kernel
theorem dX0_note_12 : decode cX0_note 12 = .ok (.getfield 21, 3) := by decide +kernel
theorem dX0_note_15 : decode cX0_note 15 = .ok (.arraylength, 1) := by decide +kernel
theorem dX0_note_16 : decode cX0_note 16 = .ok (.if_icmp .ge 28, 3) := by decide +kernel
theorem dX0_note_19 : decode cX0_note 19 = .ok (.aload_n 1, 1) := by decide +kernel
theorem dX0_note_20 : decode cX0_note 20 = .ok (.iconst 1, 1) := by decide +kernel
theorem dX0_note_21 : decode cX0_note 21 = .ok (.putfield 75, 3) := by decide +kernel
theorem dX0_note_24 : decode cX0_note 24 = .ok (.aload_n 0, 1) := by decide +kernel
theorem dX0_note_25 : decode cX0_note 25 = .ok (.getfield 21, 3) := by decide +kernel
theorem dX0_note_28 : decode cX0_note 28 = .ok (.aload_n 0, 1) := by decide +kernel
theorem dX0_note_29 : decode cX0_note 29 = .ok (.getfield 24, 3) := by decide +kernel
theorem dX0_note_32 : decode cX0_note 32 = .ok (.aload_n 1, 1) := by decide +kernel
theorem dX0_note_33 : decode cX0_note 33 = .ok (.aastore, 1) := by decide +kernel
theorem dX0_note_34 : decode cX0_note 34 = .ok (.aload_n 0, 1) := by decide +kernel
theorem dX0_note_35 : decode cX0_note 35 = .ok (.dup, 1) := by decide +kernel
theorem dX0_note_36 : decode cX0_note 36 = .ok (.getfield 24, 3) := by decide +kernel
theorem dX0_note_39 : decode cX0_note 39 = .ok (.iconst 1, 1) := by decide +kernel
theorem dX0_note_40 : decode cX0_note 40 = .ok (.iadd, 1) := by decide +kernel
theorem dX0_note_41 : decode cX0_note 41 = .ok (.putfield 24, 3) := by decide +kernel
theorem dX0_note_44 : decode cX0_note 44 = .ok (.return_, 1) := by decide +kernel
theorem dX0_metAt_0 : decode cX0_metAt 0 = .ok (.iload_n 1, 1) := by decide +kernel
theorem dX0_metAt_1 : decode cX0_metAt 1 = .ok (.ifCond .lt 29, 3) := by decide +kernel
theorem dX0_metAt_4 : decode cX0_metAt 4 = .ok (.iload_n 1, 1) := by decide +kernel
theorem dX0_metAt_5 : decode cX0_metAt 5 = .ok (.aload_n 0, 1) := by decide +kernel
theorem dX0_metAt_6 : decode cX0_metAt 6 = .ok (.getfield 24, 3) := by decide +kernel
theorem dX0_metAt_9 : decode cX0_metAt 9 = .ok (.if_icmp .ge 21, 3) := by decide +kernel
theorem dX0_metAt_12 : decode cX0_metAt 12 = .ok (.iload_n 1, 1) := by decide +kernel
theorem dX0_metAt_13 : decode cX0_metAt 13 = .ok (.aload_n 0, 1) := by decide +kernel
theorem dX0_metAt_14 : decode cX0_metAt 14 = .ok (.getfield 21, 3) := by decide +kernel
theorem dX0_metAt_17 : decode cX0_metAt 17 = .ok (.arraylength, 1) := by decide +kernel
theorem dX0_metAt_18 : decode cX0_metAt 18 = .ok (.if_icmp .ge 12, 3) := by decide +kernel
theorem dX0_metAt_21 : decode cX0_metAt 21 = .ok (.aload_n 0, 1) := by decide +kernel
theorem dX0_metAt_22 : decode cX0_metAt 22 = .ok (.getfield 21, 3) := by decide +kernel
theorem dX0_metAt_25 : decode cX0_metAt 25 = .ok (.iload_n 1, 1) := by decide +kernel
theorem dX0_metAt_26 : decode cX0_metAt 26 = .ok (.aaload, 1) := by decide +kernel
theorem dX0_metAt_27 : decode cX0_metAt 27 = .ok (.goto 4, 3) := by decide +kernel
theorem dX0_metAt_30 : decode cX0_metAt 30 = .ok (.aconst_null, 1) := by decide +kernel
theorem dX0_metAt_31 : decode cX0_metAt 31 = .ok (.areturn, 1) := by decide +kernel
theorem dX1_init_0 : decode cX1_init 0 = .ok (.aload_n 0, 1) := by decide +kernel
theorem dX1_init_1 : decode cX1_init 1 = .ok (.invokespecial 3, 3) := by decide +kernel
theorem dX1_init_4 : decode cX1_init 4 = .ok (.aload_n 0, 1) := by decide +kernel
theorem dX1_init_5 : decode cX1_init 5 = .ok (.iload_n 1, 1) := by decide +kernel
theorem dX1_init_6 : decode cX1_init 6 = .ok (.iconst 0, 1) := by decide +kernel
theorem dX1_init_7 : decode cX1_init 7 = .ok (.invokestatic 9, 3) := by decide +kernel
theorem dX1_init_10 : decode cX1_init 10 = .ok (.newarray .int, 2) := by decide +kernel
theorem dX1_init_12 : decode cX1_init 12 = .ok (.putfield 15, 3) := by decide +kernel
theorem dX1_init_15 : decode cX1_init 15 = .ok (.aload_n 0, 1) := by decide +kernel
theorem dX1_init_16 : decode cX1_init 16 = .ok (.iconst 0, 1) := by decide +kernel
theorem dX1_init_17 : decode cX1_init 17 = .ok (.putfield 21, 3) := by decide +kernel
theorem dX1_init_20 : decode cX1_init 20 = .ok (.return_, 1) := by decide +kernel
theorem dX1_length_0 : decode cX1_length 0 = .ok (.aload_n 0, 1) := by decide +kernel
theorem dX1_length_1 : decode cX1_length 1 = .ok (.getfield 21, 3) := by decide +kernel
theorem dX1_length_4 : decode cX1_length 4 = .ok (.ireturn, 1) := by decide +kernel
theorem dX1_at_0 : decode cX1_at 0 = .ok (.iload_n 1, 1) := by decide +kernel
theorem dX1_at_1 : decode cX1_at 1 = .ok (.ifCond .lt 29, 3) := by decide +kernel
theorem dX1_at_4 : decode cX1_at 4 = .ok (.iload_n 1, 1) := by decide +kernel
theorem dX1_at_5 : decode cX1_at 5 = .ok (.aload_n 0, 1) := by decide +kernel
theorem dX1_at_6 : decode cX1_at 6 = .ok (.getfield 21, 3) := by decide +kernel
theorem dX1_at_9 : decode cX1_at 9 = .ok (.if_icmp .ge 21, 3) := by decide +kernel
theorem dX1_at_12 : decode cX1_at 12 = .ok (.iload_n 1, 1) := by decide +kernel
theorem dX1_at_13 : decode cX1_at 13 = .ok (.aload_n 0, 1) := by decide +kernel
theorem dX1_at_14 : decode cX1_at 14 = .ok (.getfield 15, 3) := by decide +kernel
theorem dX1_at_17 : decode cX1_at 17 = .ok (.arraylength, 1) := by decide +kernel
theorem dX1_at_18 : decode cX1_at 18 = .ok (.if_icmp .ge 12, 3) := by decide +kernel
theorem dX1_at_21 : decode cX1_at 21 = .ok (.aload_n 0, 1) := by decide +kernel
theorem dX1_at_22 : decode cX1_at 22 = .ok (.getfield 15, 3) := by decide +kernel
theorem dX1_at_25 : decode cX1_at 25 = .ok (.iload_n 1, 1) := by decide +kernel
theorem dX1_at_26 : decode cX1_at 26 = .ok (.iaload, 1) := by decide +kernel
theorem dX1_at_27 : decode cX1_at 27 = .ok (.goto 5, 3) := by decide +kernel
theorem dX1_at_30 : decode cX1_at 30 = .ok (.bipush (-5), 2) := by decide +kernel
theorem dX1_at_32 : decode cX1_at 32 = .ok (.ireturn, 1) := by decide +kernel
theorem dX1_has_0 : decode cX1_has 0 = .ok (.iconst 0, 1) := by decide +kernel
theorem dX1_has_1 : decode cX1_has 1 = .ok (.istore_n 2, 1) := by decide +kernel
theorem dX1_has_2 : decode cX1_has 2 = .ok (.iload_n 2, 1) := by decide +kernel
theorem dX1_has_3 : decode cX1_has 3 = .ok (.aload_n 0, 1) := by decide +kernel
theorem dX1_has_4 : decode cX1_has 4 = .ok (.getfield 21, 3) := by decide +kernel
theorem dX1_has_7 : decode cX1_has 7 = .ok (.if_icmp .ge 30, 3) := by decide +kernel
theorem dX1_has_10 : decode cX1_has 10 = .ok (.iload_n 2, 1) := by decide +kernel
theorem dX1_has_11 : decode cX1_has 11 = .ok (.aload_n 0, 1) := by decide +kernel
theorem dX1_has_12 : decode cX1_has 12 = .ok (.getfield 15, 3) := by decide +kernel
theorem dX1_has_15 : decode cX1_has 15 = .ok (.arraylength, 1) := by decide +kernel
theorem dX1_has_16 : decode cX1_has 16 = .ok (.if_icmp .ge 21, 3) := by decide +kernel
theorem dX1_has_19 : decode cX1_has 19 = .ok (.aload_n 0, 1) := by decide +kernel
theorem dX1_has_20 : decode cX1_has 20 = .ok (.getfield 15, 3) := by decide +kernel
theorem dX1_has_23 : decode cX1_has 23 = .ok (.iload_n 2, 1) := by decide +kernel
theorem dX1_has_24 : decode cX1_has 24 = .ok (.iaload, 1) := by decide +kernel
theorem dX1_has_25 : decode cX1_has 25 = .ok (.iload_n 1, 1) := by decide +kernel
theorem dX1_has_26 : decode cX1_has 26 = .ok (.if_icmp .ne 5, 3) := by decide +kernel
theorem dX1_has_29 : decode cX1_has 29 = .ok (.iconst 1, 1) := by decide +kernel
theorem dX1_has_30 : decode cX1_has 30 = .ok (.ireturn, 1) := by decide +kernel
theorem dX1_has_31 : decode cX1_has 31 = .ok (.iinc 2 1, 3) := by decide +kernel
theorem dX1_has_34 : decode cX1_has 34 = .ok (.goto (-32), 3) := by decide +kernel
theorem dX1_has_37 : decode cX1_has 37 = .ok (.iconst 0, 1) := by decide +kernel
theorem dX1_has_38 : decode cX1_has 38 = .ok (.ireturn, 1) := by decide +kernel
theorem dX1_append_0 : decode cX1_append 0 = .ok (.aload_n 0, 1) := by decide +kernel
theorem dX1_append_1 : decode cX1_append 1 = .ok (.getfield 21, 3) := by decide +kernel
theorem dX1_append_4 : decode cX1_append 4 = .ok (.ifCond .lt 15, 3) := by decide +kernel
theorem dX1_append_7 : decode cX1_append 7 = .ok (.aload_n 0, 1) := by decide +kernel
theorem dX1_append_8 : decode cX1_append 8 = .ok (.getfield 21, 3) := by decide +kernel
theorem dX1_append_11 : decode cX1_append 11 = .ok (.aload_n 0, 1) := by decide +kernel
theorem dX1_append_12 : decode cX1_append 12 = .ok (.getfield 15, 3) := by decide +kernel
theorem dX1_append_15 : decode cX1_append 15 = .ok (.arraylength, 1) := by decide +kernel
theorem dX1_append_16 : decode cX1_append 16 = .ok (.if_icmp .lt 5, 3) := by decide +kernel
theorem dX1_append_19 : decode cX1_append 19 = .ok (.iconst 0, 1) := by decide +kernel
theorem dX1_append_20 : decode cX1_append 20 = .ok (.ireturn, 1) := by decide +kernel
theorem dX1_append_21 : decode cX1_append 21 = .ok (.aload_n 0, 1) := by decide +kernel
theorem dX1_append_22 : decode cX1_append 22 = .ok (.getfield 15, 3) := by decide +kernel
theorem dX1_append_25 : decode cX1_append 25 = .ok (.aload_n 0, 1) := by decide +kernel
theorem dX1_append_26 : decode cX1_append 26 = .ok (.getfield 21, 3) := by decide +kernel
theorem dX1_append_29 : decode cX1_append 29 = .ok (.iload_n 1, 1) := by decide +kernel
theorem dX1_append_30 : decode cX1_append 30 = .ok (.iastore, 1) := by decide +kernel
theorem dX1_append_31 : decode cX1_append 31 = .ok (.aload_n 0, 1) := by decide +kernel
theorem dX1_append_32 : decode cX1_append 32 = .ok (.dup, 1) := by decide +kernel
theorem dX1_append_33 : decode cX1_append 33 = .ok (.getfield 21, 3) := by decide +kernel
theorem dX1_append_36 : decode cX1_append 36 = .ok (.iconst 1, 1) := by decide +kernel
theorem dX1_append_37 : decode cX1_append 37 = .ok (.iadd, 1) := by decide +kernel
theorem dX1_append_38 : decode cX1_append 38 = .ok (.putfield 21, 3) := by decide +kernel
theorem dX1_append_41 : decode cX1_append 41 = .ok (.iconst 1, 1) := by decide +kernel
theorem dX1_append_42 : decode cX1_append 42 = .ok (.ireturn, 1) := by decide +kernel
theorem dX1_dropAt_0 : decode cX1_dropAt 0 = .ok (.iload_n 1, 1) := by decide +kernel
theorem dX1_dropAt_1 : decode cX1_dropAt 1 = .ok (.ifCond .lt 11, 3) := by decide +kernel
theorem dX1_dropAt_4 : decode cX1_dropAt 4 = .ok (.iload_n 1, 1) := by decide +kernel
theorem dX1_dropAt_5 : decode cX1_dropAt 5 = .ok (.aload_n 0, 1) := by decide +kernel
theorem dX1_dropAt_6 : decode cX1_dropAt 6 = .ok (.getfield 21, 3) := by decide +kernel
theorem dX1_dropAt_9 : decode cX1_dropAt 9 = .ok (.if_icmp .lt 4, 3) := by decide +kernel
theorem dX1_dropAt_12 : decode cX1_dropAt 12 = .ok (.return_, 1) := by decide +kernel
theorem dX1_dropAt_13 : decode cX1_dropAt 13 = .ok (.iload_n 1, 1) := by decide +kernel
theorem dX1_dropAt_14 : decode cX1_dropAt 14 = .ok (.istore_n 2, 1) := by decide +kernel
theorem dX1_dropAt_15 : decode cX1_dropAt 15 = .ok (.iload_n 2, 1) := by decide +kernel
theorem dX1_dropAt_16 : decode cX1_dropAt 16 = .ok (.iconst 1, 1) := by decide +kernel
theorem dX1_dropAt_17 : decode cX1_dropAt 17 = .ok (.iadd, 1) := by decide +kernel
theorem dX1_dropAt_18 : decode cX1_dropAt 18 = .ok (.aload_n 0, 1) := by decide +kernel
theorem dX1_dropAt_19 : decode cX1_dropAt 19 = .ok (.getfield 21, 3) := by decide +kernel
theorem dX1_dropAt_22 : decode cX1_dropAt 22 = .ok (.if_icmp .ge 34, 3) := by decide +kernel
theorem dX1_dropAt_25 : decode cX1_dropAt 25 = .ok (.iload_n 2, 1) := by decide +kernel
theorem dX1_dropAt_26 : decode cX1_dropAt 26 = .ok (.iconst 1, 1) := by decide +kernel
theorem dX1_dropAt_27 : decode cX1_dropAt 27 = .ok (.iadd, 1) := by decide +kernel
theorem dX1_dropAt_28 : decode cX1_dropAt 28 = .ok (.aload_n 0, 1) := by decide +kernel
theorem dX1_dropAt_29 : decode cX1_dropAt 29 = .ok (.getfield 15, 3) := by decide +kernel
theorem dX1_dropAt_32 : decode cX1_dropAt 32 = .ok (.arraylength, 1) := by decide +kernel
theorem dX1_dropAt_33 : decode cX1_dropAt 33 = .ok (.if_icmp .ge 23, 3) := by decide +kernel
theorem dX1_dropAt_36 : decode cX1_dropAt 36 = .ok (.aload_n 0, 1) := by decide +kernel
theorem dX1_dropAt_37 : decode cX1_dropAt 37 = .ok (.getfield 15, 3) := by decide +kernel
theorem dX1_dropAt_40 : decode cX1_dropAt 40 = .ok (.iload_n 2, 1) := by decide +kernel
theorem dX1_dropAt_41 : decode cX1_dropAt 41 = .ok (.aload_n 0, 1) := by decide +kernel
theorem dX1_dropAt_42 : decode cX1_dropAt 42 = .ok (.getfield 15, 3) := by decide +kernel
theorem dX1_dropAt_45 : decode cX1_dropAt 45 = .ok (.iload_n 2, 1) := by decide +kernel
theorem dX1_dropAt_46 : decode cX1_dropAt 46 = .ok (.iconst 1, 1) := by decide +kernel
theorem dX1_dropAt_47 : decode cX1_dropAt 47 = .ok (.iadd, 1) := by decide +kernel
theorem dX1_dropAt_48 : decode cX1_dropAt 48 = .ok (.iaload, 1) := by decide +kernel
theorem dX1_dropAt_49 : decode cX1_dropAt 49 = .ok (.iastore, 1) := by decide +kernel
theorem dX1_dropAt_50 : decode cX1_dropAt 50 = .ok (.iinc 2 1, 3) := by decide +kernel
theorem dX1_dropAt_53 : decode cX1_dropAt 53 = .ok (.goto (-38), 3) := by decide +kernel
theorem dX1_dropAt_56 : decode cX1_dropAt 56 = .ok (.aload_n 0, 1) := by decide +kernel
theorem dX1_dropAt_57 : decode cX1_dropAt 57 = .ok (.dup, 1) := by decide +kernel
theorem dX1_dropAt_58 : decode cX1_dropAt 58 = .ok (.getfield 21, 3) := by decide +kernel
theorem dX1_dropAt_61 : decode cX1_dropAt 61 = .ok (.iconst 1, 1) := by decide +kernel
theorem dX1_dropAt_62 : decode cX1_dropAt 62 = .ok (.isub, 1) := by decide +kernel
theorem dX1_dropAt_63 : decode cX1_dropAt 63 = .ok (.putfield 21, 3) := by decide +kernel
theorem dX1_dropAt_66 : decode cX1_dropAt 66 = .ok (.return_, 1) := by decide +kernel
theorem dX1_dropItem_0 : decode cX1_dropItem 0 = .ok (.aload_n 0, 1) := by decide +kernel
theorem dX1_dropItem_1 : decode cX1_dropItem 1 = .ok (.getfield 21, 3) := by decide +kernel
theorem dX1_dropItem_4 : decode cX1_dropItem 4 = .ok (.iconst 1, 1) := by decide +kernel
theorem dX1_dropItem_5 : decode cX1_dropItem 5 = .ok (.isub, 1) := by decide +kernel
theorem dX1_dropItem_6 : decode cX1_dropItem 6 = .ok (.istore_n 2, 1) := by decide +kernel
theorem dX1_dropItem_7 : decode cX1_dropItem 7 = .ok (.iload_n 2, 1) := by decide +kernel
theorem dX1_dropItem_8 : decode cX1_dropItem 8 = .ok (.ifCond .lt 23, 3) := by decide +kernel
theorem dX1_dropItem_11 : decode cX1_dropItem 11 = .ok (.aload_n 0, 1) := by decide +kernel
theorem dX1_dropItem_12 : decode cX1_dropItem 12 = .ok (.iload_n 2, 1) := by decide +kernel
theorem dX1_dropItem_13 : decode cX1_dropItem 13 = .ok (.invokevirtual 25, 3) := by decide +kernel
theorem dX1_dropItem_16 : decode cX1_dropItem 16 = .ok (.iload_n 1, 1) := by decide +kernel
theorem dX1_dropItem_17 : decode cX1_dropItem 17 = .ok (.if_icmp .ne 8, 3) := by decide +kernel
theorem dX1_dropItem_20 : decode cX1_dropItem 20 = .ok (.aload_n 0, 1) := by decide +kernel
theorem dX1_dropItem_21 : decode cX1_dropItem 21 = .ok (.iload_n 2, 1) := by decide +kernel
theorem dX1_dropItem_22 : decode cX1_dropItem 22 = .ok (.invokevirtual 29, 3) := by decide +kernel
theorem dX1_dropItem_25 : decode cX1_dropItem 25 = .ok (.iinc 2 (-1), 3) := by decide +kernel
theorem dX1_dropItem_28 : decode cX1_dropItem 28 = .ok (.goto (-21), 3) := by decide +kernel
theorem dX1_dropItem_31 : decode cX1_dropItem 31 = .ok (.return_, 1) := by decide +kernel
theorem dX1_empty_0 : decode cX1_empty 0 = .ok (.aload_n 0, 1) := by decide +kernel
theorem dX1_empty_1 : decode cX1_empty 1 = .ok (.iconst 0, 1) := by decide +kernel
theorem dX1_empty_2 : decode cX1_empty 2 = .ok (.putfield 21, 3) := by decide +kernel
theorem dX1_empty_5 : decode cX1_empty 5 = .ok (.return_, 1) := by decide +kernel
theorem dX2_init_0 : decode cX2_init 0 = .ok (.aload_n 0, 1) := by decide +kernel
theorem dX2_init_1 : decode cX2_init 1 = .ok (.invokespecial 3, 3) := by decide +kernel
theorem dX2_init_4 : decode cX2_init 4 = .ok (.aload_n 0, 1) := by decide +kernel
theorem dX2_init_5 : decode cX2_init 5 = .ok (.bipush 16, 2) := by decide +kernel
theorem dX2_init_7 : decode cX2_init 7 = .ok (.newarray .int, 2) := by decide +kernel
theorem dX2_init_9 : decode cX2_init 9 = .ok (.putfield 9, 3) := by decide +kernel
theorem dX2_init_12 : decode cX2_init 12 = .ok (.aload_n 0, 1) := by decide +kernel
theorem dX2_init_13 : decode cX2_init 13 = .ok (.bipush 16, 2) := by decide +kernel
theorem dX2_init_15 : decode cX2_init 15 = .ok (.newarray .int, 2) := by decide +kernel
theorem dX2_init_17 : decode cX2_init 17 = .ok (.putfield 15, 3) := by decide +kernel
theorem dX2_init_20 : decode cX2_init 20 = .ok (.aload_n 0, 1) := by decide +kernel
theorem dX2_init_21 : decode cX2_init 21 = .ok (.new 18, 3) := by decide +kernel
theorem dX2_init_24 : decode cX2_init 24 = .ok (.dup, 1) := by decide +kernel
theorem dX2_init_25 : decode cX2_init 25 = .ok (.bipush 16, 2) := by decide +kernel
theorem dX2_init_27 : decode cX2_init 27 = .ok (.invokespecial 20, 3) := by decide +kernel
theorem dX2_init_30 : decode cX2_init 30 = .ok (.putfield 23, 3) := by decide +kernel
theorem dX2_init_33 : decode cX2_init 33 = .ok (.return_, 1) := by decide +kernel
theorem dX2_arrange_0 : decode cX2_arrange 0 = .ok (.aload_n 0, 1) := by decide +kernel
theorem dX2_arrange_1 : decode cX2_arrange 1 = .ok (.aload_n 1, 1) := by decide +kernel
theorem dX2_arrange_2 : decode cX2_arrange 2 = .ok (.invokevirtual 27, 3) := by decide +kernel
theorem dX2_arrange_5 : decode cX2_arrange 5 = .ok (.aload_n 0, 1) := by decide +kernel
theorem dX2_arrange_6 : decode cX2_arrange 6 = .ok (.getfield 23, 3) := by decide +kernel
theorem dX2_arrange_9 : decode cX2_arrange 9 = .ok (.invokevirtual 31, 3) := by decide +kernel
theorem dX2_arrange_12 : decode cX2_arrange 12 = .ok (.aload_n 0, 1) := by decide +kernel
theorem dX2_arrange_13 : decode cX2_arrange 13 = .ok (.iconst 0, 1) := by decide +kernel
theorem dX2_arrange_14 : decode cX2_arrange 14 = .ok (.putfield 34, 3) := by decide +kernel
theorem dX2_arrange_17 : decode cX2_arrange 17 = .ok (.aload_n 0, 1) := by decide +kernel
theorem dX2_arrange_18 : decode cX2_arrange 18 = .ok (.iconst 0, 1) := by decide +kernel
theorem dX2_arrange_19 : decode cX2_arrange 19 = .ok (.putfield 38, 3) := by decide +kernel
theorem dX2_arrange_22 : decode cX2_arrange 22 = .ok (.iconst 0, 1) := by decide +kernel
theorem dX2_arrange_23 : decode cX2_arrange 23 = .ok (.istore_n 2, 1) := by decide +kernel
theorem dX2_arrange_24 : decode cX2_arrange 24 = .ok (.iconst 0, 1) := by decide +kernel
theorem dX2_arrange_25 : decode cX2_arrange 25 = .ok (.istore_n 3, 1) := by decide +kernel
theorem dX2_arrange_26 : decode cX2_arrange 26 = .ok (.iload_n 3, 1) := by decide +kernel
theorem dX2_arrange_27 : decode cX2_arrange 27 = .ok (.aload_n 0, 1) := by decide +kernel
theorem dX2_arrange_28 : decode cX2_arrange 28 = .ok (.getfield 9, 3) := by decide +kernel
theorem dX2_arrange_31 : decode cX2_arrange 31 = .ok (.arraylength, 1) := by decide +kernel
theorem dX2_arrange_32 : decode cX2_arrange 32 = .ok (.if_icmp .ge 27, 3) := by decide +kernel
theorem dX2_arrange_35 : decode cX2_arrange 35 = .ok (.iload_n 2, 1) := by decide +kernel
theorem dX2_arrange_36 : decode cX2_arrange 36 = .ok (.aload_n 1, 1) := by decide +kernel
theorem dX2_arrange_37 : decode cX2_arrange 37 = .ok (.iload_n 3, 1) := by decide +kernel
theorem dX2_arrange_38 : decode cX2_arrange 38 = .ok (.invokevirtual 41, 3) := by decide +kernel
theorem dX2_arrange_41 : decode cX2_arrange 41 = .ok (.ifnonnull 7, 3) := by decide +kernel
theorem dX2_arrange_44 : decode cX2_arrange 44 = .ok (.iconst 0, 1) := by decide +kernel
theorem dX2_arrange_45 : decode cX2_arrange 45 = .ok (.goto 6, 3) := by decide +kernel
theorem dX2_arrange_48 : decode cX2_arrange 48 = .ok (.iconst 1, 1) := by decide +kernel
theorem dX2_arrange_49 : decode cX2_arrange 49 = .ok (.iload_n 3, 1) := by decide +kernel
theorem dX2_arrange_50 : decode cX2_arrange 50 = .ok (.ishl, 1) := by decide +kernel
theorem dX2_arrange_51 : decode cX2_arrange 51 = .ok (.ior, 1) := by decide +kernel
theorem dX2_arrange_52 : decode cX2_arrange 52 = .ok (.istore_n 2, 1) := by decide +kernel
theorem dX2_arrange_53 : decode cX2_arrange 53 = .ok (.iinc 3 1, 3) := by decide +kernel
theorem dX2_arrange_56 : decode cX2_arrange 56 = .ok (.goto (-30), 3) := by decide +kernel
theorem dX2_arrange_59 : decode cX2_arrange 59 = .ok (.iconst 0, 1) := by decide +kernel
theorem dX2_arrange_60 : decode cX2_arrange 60 = .ok (.istore_n 3, 1) := by decide +kernel
theorem dX2_arrange_61 : decode cX2_arrange 61 = .ok (.iload_n 3, 1) := by decide +kernel
theorem dX2_arrange_62 : decode cX2_arrange 62 = .ok (.bipush 16, 2) := by decide +kernel
theorem dX2_arrange_64 : decode cX2_arrange 64 = .ok (.if_icmp .ge 23, 3) := by decide +kernel
theorem dX2_arrange_67 : decode cX2_arrange 67 = .ok (.iload_n 2, 1) := by decide +kernel
theorem dX2_arrange_68 : decode cX2_arrange 68 = .ok (.ifCond .eq 19, 3) := by decide +kernel
theorem dX2_arrange_71 : decode cX2_arrange 71 = .ok (.iload_n 2, 1) := by decide +kernel
theorem dX2_arrange_72 : decode cX2_arrange 72 = .ok (.aload_n 0, 1) := by decide +kernel
theorem dX2_arrange_73 : decode cX2_arrange 73 = .ok (.iload_n 2, 1) := by decide +kernel
theorem dX2_arrange_74 : decode cX2_arrange 74 = .ok (.invokevirtual 47, 3) := by decide +kernel
theorem dX2_arrange_77 : decode cX2_arrange 77 = .ok (.iconst (-1), 1) := by decide +kernel
theorem dX2_arrange_78 : decode cX2_arrange 78 = .ok (.ixor, 1) := by decide +kernel
theorem dX2_arrange_79 : decode cX2_arrange 79 = .ok (.iand, 1) := by decide +kernel
theorem dX2_arrange_80 : decode cX2_arrange 80 = .ok (.istore_n 2, 1) := by decide +kernel
theorem dX2_arrange_81 : decode cX2_arrange 81 = .ok (.iinc 3 1, 3) := by decide +kernel
theorem dX2_arrange_84 : decode cX2_arrange 84 = .ok (.goto (-23), 3) := by decide +kernel
theorem dX2_arrange_87 : decode cX2_arrange 87 = .ok (.return_, 1) := by decide +kernel
theorem dX2_reachOf_0 : decode cX2_reachOf 0 = .ok (.iload_n 1, 1) := by decide +kernel
theorem dX2_reachOf_1 : decode cX2_reachOf 1 = .ok (.ifCond .lt 21, 3) := by decide +kernel
theorem dX2_reachOf_4 : decode cX2_reachOf 4 = .ok (.iload_n 1, 1) := by decide +kernel
theorem dX2_reachOf_5 : decode cX2_reachOf 5 = .ok (.aload_n 0, 1) := by decide +kernel
theorem dX2_reachOf_6 : decode cX2_reachOf 6 = .ok (.getfield 9, 3) := by decide +kernel
theorem dX2_reachOf_9 : decode cX2_reachOf 9 = .ok (.arraylength, 1) := by decide +kernel
theorem dX2_reachOf_10 : decode cX2_reachOf 10 = .ok (.if_icmp .ge 12, 3) := by decide +kernel
theorem dX2_reachOf_13 : decode cX2_reachOf 13 = .ok (.aload_n 0, 1) := by decide +kernel
theorem dX2_reachOf_14 : decode cX2_reachOf 14 = .ok (.getfield 9, 3) := by decide +kernel
theorem dX2_reachOf_17 : decode cX2_reachOf 17 = .ok (.iload_n 1, 1) := by decide +kernel
theorem dX2_reachOf_18 : decode cX2_reachOf 18 = .ok (.iaload, 1) := by decide +kernel
theorem dX2_reachOf_19 : decode cX2_reachOf 19 = .ok (.goto 4, 3) := by decide +kernel
theorem dX2_reachOf_22 : decode cX2_reachOf 22 = .ok (.iconst 0, 1) := by decide +kernel
theorem dX2_reachOf_23 : decode cX2_reachOf 23 = .ok (.ireturn, 1) := by decide +kernel
theorem dX2_ringOf_0 : decode cX2_ringOf 0 = .ok (.iload_n 1, 1) := by decide +kernel
theorem dX2_ringOf_1 : decode cX2_ringOf 1 = .ok (.ifCond .lt 21, 3) := by decide +kernel
theorem dX2_ringOf_4 : decode cX2_ringOf 4 = .ok (.iload_n 1, 1) := by decide +kernel
theorem dX2_ringOf_5 : decode cX2_ringOf 5 = .ok (.aload_n 0, 1) := by decide +kernel
theorem dX2_ringOf_6 : decode cX2_ringOf 6 = .ok (.getfield 15, 3) := by decide +kernel
theorem dX2_ringOf_9 : decode cX2_ringOf 9 = .ok (.arraylength, 1) := by decide +kernel
theorem dX2_ringOf_10 : decode cX2_ringOf 10 = .ok (.if_icmp .ge 12, 3) := by decide +kernel
theorem dX2_ringOf_13 : decode cX2_ringOf 13 = .ok (.aload_n 0, 1) := by decide +kernel
theorem dX2_ringOf_14 : decode cX2_ringOf 14 = .ok (.getfield 15, 3) := by decide +kernel
theorem dX2_ringOf_17 : decode cX2_ringOf 17 = .ok (.iload_n 1, 1) := by decide +kernel
theorem dX2_ringOf_18 : decode cX2_ringOf 18 = .ok (.iaload, 1) := by decide +kernel
theorem dX2_ringOf_19 : decode cX2_ringOf 19 = .ok (.goto 5, 3) := by decide +kernel
theorem dX2_ringOf_22 : decode cX2_ringOf 22 = .ok (.bipush (-5), 2) := by decide +kernel
theorem dX2_ringOf_24 : decode cX2_ringOf 24 = .ok (.ireturn, 1) := by decide +kernel
theorem dX2_findReach_0 : decode cX2_findReach 0 = .ok (.iconst 0, 1) := by decide +kernel
theorem dX2_findReach_1 : decode cX2_findReach 1 = .ok (.istore_n 2, 1) := by decide +kernel
theorem dX2_findReach_2 : decode cX2_findReach 2 = .ok (.iload_n 2, 1) := by decide +kernel
theorem dX2_findReach_3 : decode cX2_findReach 3 = .ok (.aload_n 0, 1) := by decide +kernel
theorem dX2_findReach_4 : decode cX2_findReach 4 = .ok (.getfield 9, 3) := by decide +kernel
theorem dX2_findReach_7 : decode cX2_findReach 7 = .ok (.arraylength, 1) := by decide +kernel
theorem dX2_findReach_8 : decode cX2_findReach 8 = .ok (.if_icmp .ge 34, 3) := by decide +kernel
theorem dX2_findReach_11 : decode cX2_findReach 11 = .ok (.aload_n 1, 1) := by decide +kernel
theorem dX2_findReach_12 : decode cX2_findReach 12 = .ok (.iload_n 2, 1) := by decide +kernel
theorem dX2_findReach_13 : decode cX2_findReach 13 = .ok (.invokevirtual 41, 3) := by decide +kernel
theorem dX2_findReach_16 : decode cX2_findReach 16 = .ok (.astore_n 3, 1) := by decide +kernel
theorem dX2_findReach_17 : decode cX2_findReach 17 = .ok (.aload_n 0, 1) := by decide +kernel
theorem dX2_findReach_18 : decode cX2_findReach 18 = .ok (.getfield 9, 3) := by decide +kernel
theorem dX2_findReach_21 : decode cX2_findReach 21 = .ok (.iload_n 2, 1) := by decide +kernel
theorem dX2_findReach_22 : decode cX2_findReach 22 = .ok (.aload_n 3, 1) := by decide +kernel
theorem dX2_findReach_23 : decode cX2_findReach 23 = .ok (.ifnonnull 7, 3) := by decide +kernel
theorem dX2_findReach_26 : decode cX2_findReach 26 = .ok (.iconst 0, 1) := by decide +kernel
theorem dX2_findReach_27 : decode cX2_findReach 27 = .ok (.goto 8, 3) := by decide +kernel
theorem dX2_findReach_30 : decode cX2_findReach 30 = .ok (.aload_n 1, 1) := by decide +kernel
theorem dX2_findReach_31 : decode cX2_findReach 31 = .ok (.aload_n 3, 1) := by decide +kernel
theorem dX2_findReach_32 : decode cX2_findReach 32 = .ok (.invokevirtual 51, 3) := by decide +kernel
theorem dX2_findReach_35 : decode cX2_findReach 35 = .ok (.iastore, 1) := by decide +kernel
theorem dX2_findReach_36 : decode cX2_findReach 36 = .ok (.iinc 2 1, 3) := by decide +kernel
theorem dX2_findReach_39 : decode cX2_findReach 39 = .ok (.goto (-37), 3) := by decide +kernel
theorem dX2_findReach_42 : decode cX2_findReach 42 = .ok (.iconst 0, 1) := by decide +kernel
theorem dX2_findReach_43 : decode cX2_findReach 43 = .ok (.istore_n 2, 1) := by decide +kernel
theorem dX2_findReach_44 : decode cX2_findReach 44 = .ok (.iload_n 2, 1) := by decide +kernel
theorem dX2_findReach_45 : decode cX2_findReach 45 = .ok (.aload_n 0, 1) := by decide +kernel
theorem dX2_findReach_46 : decode cX2_findReach 46 = .ok (.getfield 9, 3) := by decide +kernel
theorem dX2_findReach_49 : decode cX2_findReach 49 = .ok (.arraylength, 1) := by decide +kernel
theorem dX2_findReach_50 : decode cX2_findReach 50 = .ok (.if_icmp .ge 54, 3) := by decide +kernel
theorem dX2_findReach_53 : decode cX2_findReach 53 = .ok (.iconst 0, 1) := by decide +kernel
theorem dX2_findReach_54 : decode cX2_findReach 54 = .ok (.istore_n 3, 1) := by decide +kernel
theorem dX2_findReach_55 : decode cX2_findReach 55 = .ok (.iload_n 3, 1) := by decide +kernel
theorem dX2_findReach_56 : decode cX2_findReach 56 = .ok (.aload_n 0, 1) := by decide +kernel
theorem dX2_findReach_57 : decode cX2_findReach 57 = .ok (.getfield 9, 3) := by decide +kernel
theorem dX2_findReach_60 : decode cX2_findReach 60 = .ok (.arraylength, 1) := by decide +kernel
theorem dX2_findReach_61 : decode cX2_findReach 61 = .ok (.if_icmp .ge 37, 3) := by decide +kernel
theorem dX2_findReach_64 : decode cX2_findReach 64 = .ok (.aload_n 0, 1) := by decide +kernel
theorem dX2_findReach_65 : decode cX2_findReach 65 = .ok (.getfield 9, 3) := by decide +kernel
theorem dX2_findReach_68 : decode cX2_findReach 68 = .ok (.iload_n 3, 1) := by decide +kernel
theorem dX2_findReach_69 : decode cX2_findReach 69 = .ok (.iaload, 1) := by decide +kernel
theorem dX2_findReach_70 : decode cX2_findReach 70 = .ok (.iload_n 2, 1) := by decide +kernel
theorem dX2_findReach_71 : decode cX2_findReach 71 = .ok (.ishr, 1) := by decide +kernel
theorem dX2_findReach_72 : decode cX2_findReach 72 = .ok (.iconst 1, 1) := by decide +kernel
theorem dX2_findReach_73 : decode cX2_findReach 73 = .ok (.iand, 1) := by decide +kernel
theorem dX2_findReach_74 : decode cX2_findReach 74 = .ok (.ifCond .eq 18, 3) := by decide +kernel
theorem dX2_findReach_77 : decode cX2_findReach 77 = .ok (.aload_n 0, 1) := by decide +kernel
theorem dX2_findReach_78 : decode cX2_findReach 78 = .ok (.getfield 9, 3) := by decide +kernel
theorem dX2_findReach_81 : decode cX2_findReach 81 = .ok (.iload_n 3, 1) := by decide +kernel
theorem dX2_findReach_82 : decode cX2_findReach 82 = .ok (.dup2, 1) := by decide +kernel
theorem dX2_findReach_83 : decode cX2_findReach 83 = .ok (.iaload, 1) := by decide +kernel
theorem dX2_findReach_84 : decode cX2_findReach 84 = .ok (.aload_n 0, 1) := by decide +kernel
theorem dX2_findReach_85 : decode cX2_findReach 85 = .ok (.getfield 9, 3) := by decide +kernel
theorem dX2_findReach_88 : decode cX2_findReach 88 = .ok (.iload_n 2, 1) := by decide +kernel
theorem dX2_findReach_89 : decode cX2_findReach 89 = .ok (.iaload, 1) := by decide +kernel
theorem dX2_findReach_90 : decode cX2_findReach 90 = .ok (.ior, 1) := by decide +kernel
theorem dX2_findReach_91 : decode cX2_findReach 91 = .ok (.iastore, 1) := by decide +kernel
theorem dX2_findReach_92 : decode cX2_findReach 92 = .ok (.iinc 3 1, 3) := by decide +kernel
theorem dX2_findReach_95 : decode cX2_findReach 95 = .ok (.goto (-40), 3) := by decide +kernel
theorem dX2_findReach_98 : decode cX2_findReach 98 = .ok (.iinc 2 1, 3) := by decide +kernel
theorem dX2_findReach_101 : decode cX2_findReach 101 = .ok (.goto (-57), 3) := by decide +kernel
theorem dX2_findReach_104 : decode cX2_findReach 104 = .ok (.return_, 1) := by decide +kernel
theorem dX2_placeNext_0 : decode cX2_placeNext 0 = .ok (.iconst 0, 1) := by decide +kernel
theorem dX2_placeNext_1 : decode cX2_placeNext 1 = .ok (.istore_n 2, 1) := by decide +kernel
theorem dX2_placeNext_2 : decode cX2_placeNext 2 = .ok (.iload_n 2, 1) := by decide +kernel
theorem dX2_placeNext_3 : decode cX2_placeNext 3 = .ok (.aload_n 0, 1) := by decide +kernel
theorem dX2_placeNext_4 : decode cX2_placeNext 4 = .ok (.getfield 9, 3) := by decide +kernel
theorem dX2_placeNext_7 : decode cX2_placeNext 7 = .ok (.arraylength, 1) := by decide +kernel
theorem dX2_placeNext_8 : decode cX2_placeNext 8 = .ok (.if_icmp .ge 45, 3) := by decide +kernel
theorem dX2_placeNext_11 : decode cX2_placeNext 11 = .ok (.aload_n 0, 1) := by decide +kernel
theorem dX2_placeNext_12 : decode cX2_placeNext 12 = .ok (.iload_n 2, 1) := by decide +kernel
theorem dX2_placeNext_13 : decode cX2_placeNext 13 = .ok (.invokevirtual 55, 3) := by decide +kernel
theorem dX2_placeNext_16 : decode cX2_placeNext 16 = .ok (.istore_n 3, 1) := by decide +kernel
theorem dX2_placeNext_17 : decode cX2_placeNext 17 = .ok (.iload_n 1, 1) := by decide +kernel
theorem dX2_placeNext_18 : decode cX2_placeNext 18 = .ok (.iload_n 2, 1) := by decide +kernel
theorem dX2_placeNext_19 : decode cX2_placeNext 19 = .ok (.ishr, 1) := by decide +kernel
theorem dX2_placeNext_20 : decode cX2_placeNext 20 = .ok (.iconst 1, 1) := by decide +kernel
theorem dX2_placeNext_21 : decode cX2_placeNext 21 = .ok (.iand, 1) := by decide +kernel
theorem dX2_placeNext_22 : decode cX2_placeNext 22 = .ok (.ifCond .eq 25, 3) := by decide +kernel
theorem dX2_placeNext_25 : decode cX2_placeNext 25 = .ok (.aload_n 0, 1) := by decide +kernel
theorem dX2_placeNext_26 : decode cX2_placeNext 26 = .ok (.getfield 9, 3) := by decide +kernel
theorem dX2_placeNext_29 : decode cX2_placeNext 29 = .ok (.iload_n 2, 1) := by decide +kernel
theorem dX2_placeNext_30 : decode cX2_placeNext 30 = .ok (.iaload, 1) := by decide +kernel
theorem dX2_placeNext_31 : decode cX2_placeNext 31 = .ok (.iload_n 1, 1) := by decide +kernel
theorem dX2_placeNext_32 : decode cX2_placeNext 32 = .ok (.iand, 1) := by decide +kernel
theorem dX2_placeNext_33 : decode cX2_placeNext 33 = .ok (.iload_n 3, 1) := by decide +kernel
theorem dX2_placeNext_34 : decode cX2_placeNext 34 = .ok (.iconst (-1), 1) := by decide +kernel
theorem dX2_placeNext_35 : decode cX2_placeNext 35 = .ok (.ixor, 1) := by decide +kernel
theorem dX2_placeNext_36 : decode cX2_placeNext 36 = .ok (.iand, 1) := by decide +kernel
theorem dX2_placeNext_37 : decode cX2_placeNext 37 = .ok (.ifCond .ne 10, 3) := by decide +kernel
theorem dX2_placeNext_40 : decode cX2_placeNext 40 = .ok (.aload_n 0, 1) := by decide +kernel
theorem dX2_placeNext_41 : decode cX2_placeNext 41 = .ok (.iload_n 3, 1) := by decide +kernel
theorem dX2_placeNext_42 : decode cX2_placeNext 42 = .ok (.invokevirtual 58, 3) := by decide +kernel
theorem dX2_placeNext_45 : decode cX2_placeNext 45 = .ok (.iload_n 3, 1) := by decide +kernel
theorem dX2_placeNext_46 : decode cX2_placeNext 46 = .ok (.ireturn, 1) := by decide +kernel
theorem dX2_placeNext_47 : decode cX2_placeNext 47 = .ok (.iinc 2 1, 3) := by decide +kernel
theorem dX2_placeNext_50 : decode cX2_placeNext 50 = .ok (.goto (-48), 3) := by decide +kernel
theorem dX2_placeNext_53 : decode cX2_placeNext 53 = .ok (.iconst 0, 1) := by decide +kernel
theorem dX2_placeNext_54 : decode cX2_placeNext 54 = .ok (.ireturn, 1) := by decide +kernel
theorem dX2_ringAround_0 : decode cX2_ringAround 0 = .ok (.iconst 1, 1) := by decide +kernel
theorem dX2_ringAround_1 : decode cX2_ringAround 1 = .ok (.iload_n 1, 1) := by decide +kernel
theorem dX2_ringAround_2 : decode cX2_ringAround 2 = .ok (.ishl, 1) := by decide +kernel
theorem dX2_ringAround_3 : decode cX2_ringAround 3 = .ok (.istore_n 2, 1) := by decide +kernel
theorem dX2_ringAround_4 : decode cX2_ringAround 4 = .ok (.iconst 0, 1) := by decide +kernel
theorem dX2_ringAround_5 : decode cX2_ringAround 5 = .ok (.istore_n 3, 1) := by decide +kernel
theorem dX2_ringAround_6 : decode cX2_ringAround 6 = .ok (.iload_n 3, 1) := by decide +kernel
theorem dX2_ringAround_7 : decode cX2_ringAround 7 = .ok (.aload_n 0, 1) := by decide +kernel
theorem dX2_ringAround_8 : decode cX2_ringAround 8 = .ok (.getfield 9, 3) := by decide +kernel
theorem dX2_ringAround_11 : decode cX2_ringAround 11 = .ok (.arraylength, 1) := by decide +kernel
theorem dX2_ringAround_12 : decode cX2_ringAround 12 = .ok (.if_icmp .ge 40, 3) := by decide +kernel
theorem dX2_ringAround_15 : decode cX2_ringAround 15 = .ok (.aload_n 0, 1) := by decide +kernel
theorem dX2_ringAround_16 : decode cX2_ringAround 16 = .ok (.iload_n 1, 1) := by decide +kernel
theorem dX2_ringAround_17 : decode cX2_ringAround 17 = .ok (.invokevirtual 61, 3) := by decide +kernel
theorem dX2_ringAround_20 : decode cX2_ringAround 20 = .ok (.iload_n 3, 1) := by decide +kernel
theorem dX2_ringAround_21 : decode cX2_ringAround 21 = .ok (.ishr, 1) := by decide +kernel
theorem dX2_ringAround_22 : decode cX2_ringAround 22 = .ok (.iconst 1, 1) := by decide +kernel
theorem dX2_ringAround_23 : decode cX2_ringAround 23 = .ok (.iand, 1) := by decide +kernel
theorem dX2_ringAround_24 : decode cX2_ringAround 24 = .ok (.ifCond .eq 22, 3) := by decide +kernel
theorem dX2_ringAround_27 : decode cX2_ringAround 27 = .ok (.aload_n 0, 1) := by decide +kernel
theorem dX2_ringAround_28 : decode cX2_ringAround 28 = .ok (.getfield 9, 3) := by decide +kernel
theorem dX2_ringAround_31 : decode cX2_ringAround 31 = .ok (.iload_n 3, 1) := by decide +kernel
theorem dX2_ringAround_32 : decode cX2_ringAround 32 = .ok (.iaload, 1) := by decide +kernel
theorem dX2_ringAround_33 : decode cX2_ringAround 33 = .ok (.iload_n 1, 1) := by decide +kernel
theorem dX2_ringAround_34 : decode cX2_ringAround 34 = .ok (.ishr, 1) := by decide +kernel
theorem dX2_ringAround_35 : decode cX2_ringAround 35 = .ok (.iconst 1, 1) := by decide +kernel
theorem dX2_ringAround_36 : decode cX2_ringAround 36 = .ok (.iand, 1) := by decide +kernel
theorem dX2_ringAround_37 : decode cX2_ringAround 37 = .ok (.ifCond .eq 9, 3) := by decide +kernel
theorem dX2_ringAround_40 : decode cX2_ringAround 40 = .ok (.iload_n 2, 1) := by decide +kernel
theorem dX2_ringAround_41 : decode cX2_ringAround 41 = .ok (.iconst 1, 1) := by decide +kernel
theorem dX2_ringAround_42 : decode cX2_ringAround 42 = .ok (.iload_n 3, 1) := by decide +kernel
theorem dX2_ringAround_43 : decode cX2_ringAround 43 = .ok (.ishl, 1) := by decide +kernel
theorem dX2_ringAround_44 : decode cX2_ringAround 44 = .ok (.ior, 1) := by decide +kernel
theorem dX2_ringAround_45 : decode cX2_ringAround 45 = .ok (.istore_n 2, 1) := by decide +kernel
theorem dX2_ringAround_46 : decode cX2_ringAround 46 = .ok (.iinc 3 1, 3) := by decide +kernel
theorem dX2_ringAround_49 : decode cX2_ringAround 49 = .ok (.goto (-43), 3) := by decide +kernel
theorem dX2_ringAround_52 : decode cX2_ringAround 52 = .ok (.iload_n 2, 1) := by decide +kernel
theorem dX2_ringAround_53 : decode cX2_ringAround 53 = .ok (.ireturn, 1) := by decide +kernel
theorem dX2_place_0 : decode cX2_place 0 = .ok (.iconst 0, 1) := by decide +kernel
theorem dX2_place_1 : decode cX2_place 1 = .ok (.istore_n 2, 1) := by decide +kernel
theorem dX2_place_2 : decode cX2_place 2 = .ok (.iload_n 2, 1) := by decide +kernel
theorem dX2_place_3 : decode cX2_place 3 = .ok (.aload_n 0, 1) := by decide +kernel
theorem dX2_place_4 : decode cX2_place 4 = .ok (.getfield 15, 3) := by decide +kernel
theorem dX2_place_7 : decode cX2_place 7 = .ok (.arraylength, 1) := by decide +kernel
theorem dX2_place_8 : decode cX2_place 8 = .ok (.if_icmp .ge 36, 3) := by decide +kernel
theorem dX2_place_11 : decode cX2_place 11 = .ok (.iload_n 1, 1) := by decide +kernel
theorem dX2_place_12 : decode cX2_place 12 = .ok (.iload_n 2, 1) := by decide +kernel
theorem dX2_place_13 : decode cX2_place 13 = .ok (.ishr, 1) := by decide +kernel
theorem dX2_place_14 : decode cX2_place 14 = .ok (.iconst 1, 1) := by decide +kernel
theorem dX2_place_15 : decode cX2_place 15 = .ok (.iand, 1) := by decide +kernel
theorem dX2_place_16 : decode cX2_place 16 = .ok (.ifCond .eq 22, 3) := by decide +kernel
theorem dX2_place_19 : decode cX2_place 19 = .ok (.aload_n 0, 1) := by decide +kernel
theorem dX2_place_20 : decode cX2_place 20 = .ok (.getfield 15, 3) := by decide +kernel
theorem dX2_place_23 : decode cX2_place 23 = .ok (.iload_n 2, 1) := by decide +kernel
theorem dX2_place_24 : decode cX2_place 24 = .ok (.aload_n 0, 1) := by decide +kernel
theorem dX2_place_25 : decode cX2_place 25 = .ok (.getfield 34, 3) := by decide +kernel
theorem dX2_place_28 : decode cX2_place 28 = .ok (.iastore, 1) := by decide +kernel
theorem dX2_place_29 : decode cX2_place 29 = .ok (.aload_n 0, 1) := by decide +kernel
theorem dX2_place_30 : decode cX2_place 30 = .ok (.getfield 23, 3) := by decide +kernel
theorem dX2_place_33 : decode cX2_place 33 = .ok (.iload_n 2, 1) := by decide +kernel
theorem dX2_place_34 : decode cX2_place 34 = .ok (.invokevirtual 64, 3) := by decide +kernel
theorem dX2_place_37 : decode cX2_place 37 = .ok (.pop, 1) := by decide +kernel
theorem dX2_place_38 : decode cX2_place 38 = .ok (.iinc 2 1, 3) := by decide +kernel
theorem dX2_place_41 : decode cX2_place 41 = .ok (.goto (-39), 3) := by decide +kernel
theorem dX2_place_44 : decode cX2_place 44 = .ok (.aload_n 0, 1) := by decide +kernel
theorem dX2_place_45 : decode cX2_place 45 = .ok (.dup, 1) := by decide +kernel
theorem dX2_place_46 : decode cX2_place 46 = .ok (.getfield 34, 3) := by decide +kernel
theorem dX2_place_49 : decode cX2_place 49 = .ok (.iconst 1, 1) := by decide +kernel
theorem dX2_place_50 : decode cX2_place 50 = .ok (.iadd, 1) := by decide +kernel
theorem dX2_place_51 : decode cX2_place 51 = .ok (.putfield 34, 3) := by decide +kernel
theorem dX2_place_54 : decode cX2_place 54 = .ok (.iload_n 1, 1) := by decide +kernel
theorem dX2_place_55 : decode cX2_place 55 = .ok (.invokestatic 68, 3) := by decide +kernel
theorem dX2_place_58 : decode cX2_place 58 = .ok (.iconst 1, 1) := by decide +kernel
theorem dX2_place_59 : decode cX2_place 59 = .ok (.if_icmp .le 13, 3) := by decide +kernel
theorem dX2_place_62 : decode cX2_place 62 = .ok (.aload_n 0, 1) := by decide +kernel
theorem dX2_place_63 : decode cX2_place 63 = .ok (.dup, 1) := by decide +kernel
theorem dX2_place_64 : decode cX2_place 64 = .ok (.getfield 38, 3) := by decide +kernel
theorem dX2_place_67 : decode cX2_place 67 = .ok (.iconst 1, 1) := by decide +kernel
theorem dX2_place_68 : decode cX2_place 68 = .ok (.iadd, 1) := by decide +kernel
theorem dX2_place_69 : decode cX2_place 69 = .ok (.putfield 38, 3) := by decide +kernel
theorem dX2_place_72 : decode cX2_place 72 = .ok (.return_, 1) := by decide +kernel
theorem dX3_init_0 : decode cX3_init 0 = .ok (.aload_n 0, 1) := by decide +kernel
theorem dX3_init_1 : decode cX3_init 1 = .ok (.invokespecial 3, 3) := by decide +kernel
theorem dX3_init_4 : decode cX3_init 4 = .ok (.aload_n 0, 1) := by decide +kernel
theorem dX3_init_5 : decode cX3_init 5 = .ok (.sipush 680, 3) := by decide +kernel
theorem dX3_init_8 : decode cX3_init 8 = .ok (.newarray .long, 2) := by decide +kernel
theorem dX3_init_10 : decode cX3_init 10 = .ok (.putfield 9, 3) := by decide +kernel
theorem dX3_init_13 : decode cX3_init 13 = .ok (.aload_n 0, 1) := by decide +kernel
theorem dX3_init_14 : decode cX3_init 14 = .ok (.iconst 0, 1) := by decide +kernel
theorem dX3_init_15 : decode cX3_init 15 = .ok (.putfield 15, 3) := by decide +kernel
theorem dX3_init_18 : decode cX3_init 18 = .ok (.return_, 1) := by decide +kernel
theorem dX3_empty_0 : decode cX3_empty 0 = .ok (.aload_n 0, 1) := by decide +kernel
theorem dX3_empty_1 : decode cX3_empty 1 = .ok (.iconst 0, 1) := by decide +kernel
theorem dX3_empty_2 : decode cX3_empty 2 = .ok (.putfield 15, 3) := by decide +kernel
theorem dX3_empty_5 : decode cX3_empty 5 = .ok (.return_, 1) := by decide +kernel
theorem dX3_length_0 : decode cX3_length 0 = .ok (.aload_n 0, 1) := by decide +kernel
theorem dX3_length_1 : decode cX3_length 1 = .ok (.getfield 15, 3) := by decide +kernel
theorem dX3_length_4 : decode cX3_length 4 = .ok (.ireturn, 1) := by decide +kernel
theorem dX3_at_0 : decode cX3_at 0 = .ok (.iload_n 1, 1) := by decide +kernel
theorem dX3_at_1 : decode cX3_at 1 = .ok (.ifCond .lt 29, 3) := by decide +kernel
theorem dX3_at_4 : decode cX3_at 4 = .ok (.iload_n 1, 1) := by decide +kernel
theorem dX3_at_5 : decode cX3_at 5 = .ok (.aload_n 0, 1) := by decide +kernel
theorem dX3_at_6 : decode cX3_at 6 = .ok (.getfield 15, 3) := by decide +kernel
theorem dX3_at_9 : decode cX3_at 9 = .ok (.if_icmp .ge 21, 3) := by decide +kernel
theorem dX3_at_12 : decode cX3_at 12 = .ok (.iload_n 1, 1) := by decide +kernel
theorem dX3_at_13 : decode cX3_at 13 = .ok (.aload_n 0, 1) := by decide +kernel
theorem dX3_at_14 : decode cX3_at 14 = .ok (.getfield 9, 3) := by decide +kernel
theorem dX3_at_17 : decode cX3_at 17 = .ok (.arraylength, 1) := by decide +kernel
theorem dX3_at_18 : decode cX3_at 18 = .ok (.if_icmp .ge 12, 3) := by decide +kernel
theorem dX3_at_21 : decode cX3_at 21 = .ok (.aload_n 0, 1) := by decide +kernel
theorem dX3_at_22 : decode cX3_at 22 = .ok (.getfield 9, 3) := by decide +kernel
theorem dX3_at_25 : decode cX3_at 25 = .ok (.iload_n 1, 1) := by decide +kernel
theorem dX3_at_26 : decode cX3_at 26 = .ok (.laload, 1) := by decide +kernel
theorem dX3_at_27 : decode cX3_at 27 = .ok (.goto 4, 3) := by decide +kernel
theorem dX3_at_30 : decode cX3_at 30 = .ok (.lconst 0, 1) := by decide +kernel
theorem dX3_at_31 : decode cX3_at 31 = .ok (.lreturn, 1) := by decide +kernel
theorem dX3_append_0 : decode cX3_append 0 = .ok (.aload_n 0, 1) := by decide +kernel
theorem dX3_append_1 : decode cX3_append 1 = .ok (.getfield 15, 3) := by decide +kernel
theorem dX3_append_4 : decode cX3_append 4 = .ok (.ifCond .lt 35, 3) := by decide +kernel
theorem dX3_append_7 : decode cX3_append 7 = .ok (.aload_n 0, 1) := by decide +kernel
theorem dX3_append_8 : decode cX3_append 8 = .ok (.getfield 15, 3) := by decide +kernel
theorem dX3_append_11 : decode cX3_append 11 = .ok (.aload_n 0, 1) := by decide +kernel
theorem dX3_append_12 : decode cX3_append 12 = .ok (.getfield 9, 3) := by decide +kernel
theorem dX3_append_15 : decode cX3_append 15 = .ok (.arraylength, 1) := by decide +kernel
theorem dX3_append_16 : decode cX3_append 16 = .ok (.if_icmp .ge 23, 3) := by decide +kernel
theorem dX3_append_19 : decode cX3_append 19 = .ok (.aload_n 0, 1) := by decide +kernel
theorem dX3_append_20 : decode cX3_append 20 = .ok (.getfield 9, 3) := by decide +kernel
theorem dX3_append_23 : decode cX3_append 23 = .ok (.aload_n 0, 1) := by decide +kernel
theorem dX3_append_24 : decode cX3_append 24 = .ok (.getfield 15, 3) := by decide +kernel
theorem dX3_append_27 : decode cX3_append 27 = .ok (.lload_n 1, 1) := by decide +kernel
theorem dX3_append_28 : decode cX3_append 28 = .ok (.lastore, 1) := by decide +kernel
theorem dX3_append_29 : decode cX3_append 29 = .ok (.aload_n 0, 1) := by decide +kernel
theorem dX3_append_30 : decode cX3_append 30 = .ok (.dup, 1) := by decide +kernel
theorem dX3_append_31 : decode cX3_append 31 = .ok (.getfield 15, 3) := by decide +kernel
theorem dX3_append_34 : decode cX3_append 34 = .ok (.iconst 1, 1) := by decide +kernel
theorem dX3_append_35 : decode cX3_append 35 = .ok (.iadd, 1) := by decide +kernel
theorem dX3_append_36 : decode cX3_append 36 = .ok (.putfield 15, 3) := by decide +kernel
theorem dX3_append_39 : decode cX3_append 39 = .ok (.return_, 1) := by decide +kernel
theorem dX3_endOwn_0 : decode cX3_endOwn 0 = .ok (.aload_n 0, 1) := by decide +kernel
theorem dX3_endOwn_1 : decode cX3_endOwn 1 = .ok (.aload_n 0, 1) := by decide +kernel
theorem dX3_endOwn_2 : decode cX3_endOwn 2 = .ok (.getfield 15, 3) := by decide +kernel
theorem dX3_endOwn_5 : decode cX3_endOwn 5 = .ok (.putfield 19, 3) := by decide +kernel
theorem dX3_endOwn_8 : decode cX3_endOwn 8 = .ok (.aload_n 0, 1) := by decide +kernel
theorem dX3_endOwn_9 : decode cX3_endOwn 9 = .ok (.iload_n 1, 1) := by decide +kernel
theorem dX3_endOwn_10 : decode cX3_endOwn 10 = .ok (.putfield 22, 3) := by decide +kernel
theorem dX3_endOwn_13 : decode cX3_endOwn 13 = .ok (.return_, 1) := by decide +kernel
theorem dX3_endFinds_0 : decode cX3_endFinds 0 = .ok (.aload_n 0, 1) := by decide +kernel
theorem dX3_endFinds_1 : decode cX3_endFinds 1 = .ok (.aload_n 0, 1) := by decide +kernel
theorem dX3_endFinds_2 : decode cX3_endFinds 2 = .ok (.getfield 15, 3) := by decide +kernel
theorem dX3_endFinds_5 : decode cX3_endFinds 5 = .ok (.putfield 25, 3) := by decide +kernel
theorem dX3_endFinds_8 : decode cX3_endFinds 8 = .ok (.return_, 1) := by decide +kernel
theorem dX3_endMarks_0 : decode cX3_endMarks 0 = .ok (.aload_n 0, 1) := by decide +kernel
theorem dX3_endMarks_1 : decode cX3_endMarks 1 = .ok (.aload_n 0, 1) := by decide +kernel
theorem dX3_endMarks_2 : decode cX3_endMarks 2 = .ok (.getfield 15, 3) := by decide +kernel
theorem dX3_endMarks_5 : decode cX3_endMarks 5 = .ok (.putfield 28, 3) := by decide +kernel
theorem dX3_endMarks_8 : decode cX3_endMarks 8 = .ok (.return_, 1) := by decide +kernel
theorem dX3_digest_0 : decode cX3_digest 0 = .ok (.ldc2_w 31, 3) := by decide +kernel
theorem dX3_digest_3 : decode cX3_digest 3 = .ok (.lstore_n 1, 1) := by decide +kernel
theorem dX3_digest_4 : decode cX3_digest 4 = .ok (.iconst 0, 1) := by decide +kernel
theorem dX3_digest_5 : decode cX3_digest 5 = .ok (.istore_n 3, 1) := by decide +kernel
theorem dX3_digest_6 : decode cX3_digest 6 = .ok (.iload_n 3, 1) := by decide +kernel
theorem dX3_digest_7 : decode cX3_digest 7 = .ok (.aload_n 0, 1) := by decide +kernel
theorem dX3_digest_8 : decode cX3_digest 8 = .ok (.getfield 15, 3) := by decide +kernel
theorem dX3_digest_11 : decode cX3_digest 11 = .ok (.if_icmp .ge 19, 3) := by decide +kernel
theorem dX3_digest_14 : decode cX3_digest 14 = .ok (.lload_n 1, 1) := by decide +kernel
theorem dX3_digest_15 : decode cX3_digest 15 = .ok (.aload_n 0, 1) := by decide +kernel
theorem dX3_digest_16 : decode cX3_digest 16 = .ok (.iload_n 3, 1) := by decide +kernel
theorem dX3_digest_17 : decode cX3_digest 17 = .ok (.invokevirtual 33, 3) := by decide +kernel
theorem dX3_digest_20 : decode cX3_digest 20 = .ok (.invokestatic 37, 3) := by decide +kernel
theorem dX3_digest_23 : decode cX3_digest 23 = .ok (.lstore_n 1, 1) := by decide +kernel
theorem dX3_digest_24 : decode cX3_digest 24 = .ok (.iinc 3 1, 3) := by decide +kernel
theorem dX3_digest_27 : decode cX3_digest 27 = .ok (.goto (-21), 3) := by decide +kernel
theorem dX3_digest_30 : decode cX3_digest 30 = .ok (.lload_n 1, 1) := by decide +kernel
theorem dX3_digest_31 : decode cX3_digest 31 = .ok (.lreturn, 1) := by decide +kernel
theorem dX3_mix_0 : decode cX3_mix 0 = .ok (.lload_n 0, 1) := by decide +kernel
theorem dX3_mix_1 : decode cX3_mix 1 = .ok (.lload_n 2, 1) := by decide +kernel
theorem dX3_mix_2 : decode cX3_mix 2 = .ok (.lxor, 1) := by decide +kernel
theorem dX3_mix_3 : decode cX3_mix 3 = .ok (.ldc2_w 41, 3) := by decide +kernel
theorem dX3_mix_6 : decode cX3_mix 6 = .ok (.lmul, 1) := by decide +kernel
theorem dX3_mix_7 : decode cX3_mix 7 = .ok (.lstore 4, 2) := by decide +kernel
theorem dX3_mix_9 : decode cX3_mix 9 = .ok (.lload 4, 2) := by decide +kernel
theorem dX3_mix_11 : decode cX3_mix 11 = .ok (.lload 4, 2) := by decide +kernel
theorem dX3_mix_13 : decode cX3_mix 13 = .ok (.bipush 29, 2) := by decide +kernel
theorem dX3_mix_15 : decode cX3_mix 15 = .ok (.lushr, 1) := by decide +kernel
theorem dX3_mix_16 : decode cX3_mix 16 = .ok (.lxor, 1) := by decide +kernel
theorem dX3_mix_17 : decode cX3_mix 17 = .ok (.lreturn, 1) := by decide +kernel
theorem dX3_reasonAgainst_0 : decode cX3_reasonAgainst 0 = .ok (.aload_n 0, 1) := by decide +kernel
theorem dX3_reasonAgainst_1 : decode cX3_reasonAgainst 1 = .ok (.getfield 19, 3) := by decide +kernel
theorem dX3_reasonAgainst_4 : decode cX3_reasonAgainst 4 = .ok (.aload_n 1, 1) := by decide +kernel
theorem dX3_reasonAgainst_5 : decode cX3_reasonAgainst 5 = .ok (.getfield 19, 3) := by decide +kernel
theorem dX3_reasonAgainst_8 : decode cX3_reasonAgainst 8 = .ok (.if_icmp .ne 24, 3) := by decide +kernel
theorem dX3_reasonAgainst_11 : decode cX3_reasonAgainst 11 = .ok (.aload_n 0, 1) := by decide +kernel
theorem dX3_reasonAgainst_12 : decode cX3_reasonAgainst 12 = .ok (.aload_n 1, 1) := by decide +kernel
theorem dX3_reasonAgainst_13 : decode cX3_reasonAgainst 13 = .ok (.iconst 0, 1) := by decide +kernel
theorem dX3_reasonAgainst_14 : decode cX3_reasonAgainst 14 = .ok (.aload_n 0, 1) := by decide +kernel
theorem dX3_reasonAgainst_15 : decode cX3_reasonAgainst 15 = .ok (.getfield 19, 3) := by decide +kernel
theorem dX3_reasonAgainst_18 : decode cX3_reasonAgainst 18 = .ok (.invokevirtual 43, 3) := by decide +kernel
theorem dX3_reasonAgainst_21 : decode cX3_reasonAgainst 21 = .ok (.ifCond .eq 11, 3) := by decide +kernel
theorem dX3_reasonAgainst_24 : decode cX3_reasonAgainst 24 = .ok (.aload_n 0, 1) := by decide +kernel
theorem dX3_reasonAgainst_25 : decode cX3_reasonAgainst 25 = .ok (.aload_n 1, 1) := by decide +kernel
theorem dX3_reasonAgainst_26 : decode cX3_reasonAgainst 26 = .ok (.invokevirtual 47, 3) := by decide +kernel
theorem dX3_reasonAgainst_29 : decode cX3_reasonAgainst 29 = .ok (.ifCond .ne 5, 3) := by decide +kernel
theorem dX3_reasonAgainst_32 : decode cX3_reasonAgainst 32 = .ok (.iconst 2, 1) := by decide +kernel
theorem dX3_reasonAgainst_33 : decode cX3_reasonAgainst 33 = .ok (.ireturn, 1) := by decide +kernel
theorem dX3_reasonAgainst_34 : decode cX3_reasonAgainst 34 = .ok (.aload_n 0, 1) := by decide +kernel
theorem dX3_reasonAgainst_35 : decode cX3_reasonAgainst 35 = .ok (.getfield 25, 3) := by decide +kernel
theorem dX3_reasonAgainst_38 : decode cX3_reasonAgainst 38 = .ok (.aload_n 1, 1) := by decide +kernel
theorem dX3_reasonAgainst_39 : decode cX3_reasonAgainst 39 = .ok (.getfield 25, 3) := by decide +kernel
theorem dX3_reasonAgainst_42 : decode cX3_reasonAgainst 42 = .ok (.if_icmp .ne 19, 3) := by decide +kernel
theorem dX3_reasonAgainst_45 : decode cX3_reasonAgainst 45 = .ok (.aload_n 0, 1) := by decide +kernel
theorem dX3_reasonAgainst_46 : decode cX3_reasonAgainst 46 = .ok (.aload_n 1, 1) := by decide +kernel
theorem dX3_reasonAgainst_47 : decode cX3_reasonAgainst 47 = .ok (.aload_n 0, 1) := by decide +kernel
theorem dX3_reasonAgainst_48 : decode cX3_reasonAgainst 48 = .ok (.getfield 19, 3) := by decide +kernel
theorem dX3_reasonAgainst_51 : decode cX3_reasonAgainst 51 = .ok (.aload_n 0, 1) := by decide +kernel
theorem dX3_reasonAgainst_52 : decode cX3_reasonAgainst 52 = .ok (.getfield 25, 3) := by decide +kernel
theorem dX3_reasonAgainst_55 : decode cX3_reasonAgainst 55 = .ok (.invokevirtual 43, 3) := by decide +kernel
theorem dX3_reasonAgainst_58 : decode cX3_reasonAgainst 58 = .ok (.ifCond .ne 5, 3) := by decide +kernel
theorem dX3_reasonAgainst_61 : decode cX3_reasonAgainst 61 = .ok (.iconst 3, 1) := by decide +kernel
theorem dX3_reasonAgainst_62 : decode cX3_reasonAgainst 62 = .ok (.ireturn, 1) := by decide +kernel
theorem dX3_reasonAgainst_63 : decode cX3_reasonAgainst 63 = .ok (.aload_n 0, 1) := by decide +kernel
theorem dX3_reasonAgainst_64 : decode cX3_reasonAgainst 64 = .ok (.getfield 28, 3) := by decide +kernel
theorem dX3_reasonAgainst_67 : decode cX3_reasonAgainst 67 = .ok (.aload_n 1, 1) := by decide +kernel
theorem dX3_reasonAgainst_68 : decode cX3_reasonAgainst 68 = .ok (.getfield 28, 3) := by decide +kernel
theorem dX3_reasonAgainst_71 : decode cX3_reasonAgainst 71 = .ok (.if_icmp .ne 19, 3) := by decide +kernel
theorem dX3_reasonAgainst_74 : decode cX3_reasonAgainst 74 = .ok (.aload_n 0, 1) := by decide +kernel
theorem dX3_reasonAgainst_75 : decode cX3_reasonAgainst 75 = .ok (.aload_n 1, 1) := by decide +kernel
theorem dX3_reasonAgainst_76 : decode cX3_reasonAgainst 76 = .ok (.aload_n 0, 1) := by decide +kernel
theorem dX3_reasonAgainst_77 : decode cX3_reasonAgainst 77 = .ok (.getfield 25, 3) := by decide +kernel
theorem dX3_reasonAgainst_80 : decode cX3_reasonAgainst 80 = .ok (.aload_n 0, 1) := by decide +kernel
theorem dX3_reasonAgainst_81 : decode cX3_reasonAgainst 81 = .ok (.getfield 28, 3) := by decide +kernel
theorem dX3_reasonAgainst_84 : decode cX3_reasonAgainst 84 = .ok (.invokevirtual 43, 3) := by decide +kernel
theorem dX3_reasonAgainst_87 : decode cX3_reasonAgainst 87 = .ok (.ifCond .ne 5, 3) := by decide +kernel
theorem dX3_reasonAgainst_90 : decode cX3_reasonAgainst 90 = .ok (.iconst 4, 1) := by decide +kernel
theorem dX3_reasonAgainst_91 : decode cX3_reasonAgainst 91 = .ok (.ireturn, 1) := by decide +kernel
theorem dX3_reasonAgainst_92 : decode cX3_reasonAgainst 92 = .ok (.aload_n 0, 1) := by decide +kernel
theorem dX3_reasonAgainst_93 : decode cX3_reasonAgainst 93 = .ok (.getfield 15, 3) := by decide +kernel
theorem dX3_reasonAgainst_96 : decode cX3_reasonAgainst 96 = .ok (.aload_n 1, 1) := by decide +kernel
theorem dX3_reasonAgainst_97 : decode cX3_reasonAgainst 97 = .ok (.getfield 15, 3) := by decide +kernel
theorem dX3_reasonAgainst_100 : decode cX3_reasonAgainst 100 = .ok (.if_icmp .ne 19, 3) := by decide +kernel
theorem dX3_reasonAgainst_103 : decode cX3_reasonAgainst 103 = .ok (.aload_n 0, 1) := by decide +kernel
theorem dX3_reasonAgainst_104 : decode cX3_reasonAgainst 104 = .ok (.aload_n 1, 1) := by decide +kernel
theorem dX3_reasonAgainst_105 : decode cX3_reasonAgainst 105 = .ok (.aload_n 0, 1) := by decide +kernel
theorem dX3_reasonAgainst_106 : decode cX3_reasonAgainst 106 = .ok (.getfield 28, 3) := by decide +kernel
theorem dX3_reasonAgainst_109 : decode cX3_reasonAgainst 109 = .ok (.aload_n 0, 1) := by decide +kernel
theorem dX3_reasonAgainst_110 : decode cX3_reasonAgainst 110 = .ok (.getfield 15, 3) := by decide +kernel
theorem dX3_reasonAgainst_113 : decode cX3_reasonAgainst 113 = .ok (.invokevirtual 43, 3) := by decide +kernel
theorem dX3_reasonAgainst_116 : decode cX3_reasonAgainst 116 = .ok (.ifCond .ne 7, 3) := by decide +kernel
theorem dX3_reasonAgainst_119 : decode cX3_reasonAgainst 119 = .ok (.iconst 5, 1) := by decide +kernel
theorem dX3_reasonAgainst_120 : decode cX3_reasonAgainst 120 = .ok (.goto 4, 3) := by decide +kernel
theorem dX3_reasonAgainst_123 : decode cX3_reasonAgainst 123 = .ok (.iconst 0, 1) := by decide +kernel
theorem dX3_reasonAgainst_124 : decode cX3_reasonAgainst 124 = .ok (.ireturn, 1) := by decide +kernel
theorem dX3_isSame_0 : decode cX3_isSame 0 = .ok (.iload_n 2, 1) := by decide +kernel
theorem dX3_isSame_1 : decode cX3_isSame 1 = .ok (.istore 4, 2) := by decide +kernel
theorem dX3_isSame_3 : decode cX3_isSame 3 = .ok (.iload 4, 2) := by decide +kernel
theorem dX3_isSame_5 : decode cX3_isSame 5 = .ok (.iload_n 3, 1) := by decide +kernel
theorem dX3_isSame_6 : decode cX3_isSame 6 = .ok (.if_icmp .ge 27, 3) := by decide +kernel
theorem dX3_isSame_9 : decode cX3_isSame 9 = .ok (.aload_n 0, 1) := by decide +kernel
theorem dX3_isSame_10 : decode cX3_isSame 10 = .ok (.iload 4, 2) := by decide +kernel
theorem dX3_isSame_12 : decode cX3_isSame 12 = .ok (.invokevirtual 33, 3) := by decide +kernel
theorem dX3_isSame_15 : decode cX3_isSame 15 = .ok (.aload_n 1, 1) := by decide +kernel
theorem dX3_isSame_16 : decode cX3_isSame 16 = .ok (.iload 4, 2) := by decide +kernel
theorem dX3_isSame_18 : decode cX3_isSame 18 = .ok (.invokevirtual 33, 3) := by decide +kernel
theorem dX3_isSame_21 : decode cX3_isSame 21 = .ok (.lcmp, 1) := by decide +kernel
theorem dX3_isSame_22 : decode cX3_isSame 22 = .ok (.ifCond .eq 5, 3) := by decide +kernel
theorem dX3_isSame_25 : decode cX3_isSame 25 = .ok (.iconst 0, 1) := by decide +kernel
theorem dX3_isSame_26 : decode cX3_isSame 26 = .ok (.ireturn, 1) := by decide +kernel
theorem dX3_isSame_27 : decode cX3_isSame 27 = .ok (.iinc 4 1, 3) := by decide +kernel
theorem dX3_isSame_30 : decode cX3_isSame 30 = .ok (.goto (-27), 3) := by decide +kernel
theorem dX3_isSame_33 : decode cX3_isSame 33 = .ok (.iconst 1, 1) := by decide +kernel
theorem dX3_isSame_34 : decode cX3_isSame 34 = .ok (.ireturn, 1) := by decide +kernel
theorem dX3_hasSameUses_0 : decode cX3_hasSameUses 0 = .ok (.aload_n 0, 1) := by decide +kernel
theorem dX3_hasSameUses_1 : decode cX3_hasSameUses 1 = .ok (.getfield 22, 3) := by decide +kernel
theorem dX3_hasSameUses_4 : decode cX3_hasSameUses 4 = .ok (.aload_n 1, 1) := by decide +kernel
theorem dX3_hasSameUses_5 : decode cX3_hasSameUses 5 = .ok (.getfield 22, 3) := by decide +kernel
theorem dX3_hasSameUses_8 : decode cX3_hasSameUses 8 = .ok (.if_icmp .eq 5, 3) := by decide +kernel
theorem dX3_hasSameUses_11 : decode cX3_hasSameUses 11 = .ok (.iconst 0, 1) := by decide +kernel
theorem dX3_hasSameUses_12 : decode cX3_hasSameUses 12 = .ok (.ireturn, 1) := by decide +kernel
theorem dX3_hasSameUses_13 : decode cX3_hasSameUses 13 = .ok (.iconst 0, 1) := by decide +kernel
theorem dX3_hasSameUses_14 : decode cX3_hasSameUses 14 = .ok (.istore_n 2, 1) := by decide +kernel
theorem dX3_hasSameUses_15 : decode cX3_hasSameUses 15 = .ok (.iload_n 2, 1) := by decide +kernel
theorem dX3_hasSameUses_16 : decode cX3_hasSameUses 16 = .ok (.aload_n 0, 1) := by decide +kernel
theorem dX3_hasSameUses_17 : decode cX3_hasSameUses 17 = .ok (.getfield 22, 3) := by decide +kernel
theorem dX3_hasSameUses_20 : decode cX3_hasSameUses 20 = .ok (.if_icmp .ge 34, 3) := by decide +kernel
theorem dX3_hasSameUses_23 : decode cX3_hasSameUses 23 = .ok (.aload_n 0, 1) := by decide +kernel
theorem dX3_hasSameUses_24 : decode cX3_hasSameUses 24 = .ok (.getfield 19, 3) := by decide +kernel
theorem dX3_hasSameUses_27 : decode cX3_hasSameUses 27 = .ok (.iconst 1, 1) := by decide +kernel
theorem dX3_hasSameUses_28 : decode cX3_hasSameUses 28 = .ok (.iadd, 1) := by decide +kernel
theorem dX3_hasSameUses_29 : decode cX3_hasSameUses 29 = .ok (.iload_n 2, 1) := by decide +kernel
theorem dX3_hasSameUses_30 : decode cX3_hasSameUses 30 = .ok (.iconst 4, 1) := by decide +kernel
theorem dX3_hasSameUses_31 : decode cX3_hasSameUses 31 = .ok (.imul, 1) := by decide +kernel
theorem dX3_hasSameUses_32 : decode cX3_hasSameUses 32 = .ok (.iadd, 1) := by decide +kernel
theorem dX3_hasSameUses_33 : decode cX3_hasSameUses 33 = .ok (.istore_n 3, 1) := by decide +kernel
theorem dX3_hasSameUses_34 : decode cX3_hasSameUses 34 = .ok (.aload_n 0, 1) := by decide +kernel
theorem dX3_hasSameUses_35 : decode cX3_hasSameUses 35 = .ok (.aload_n 1, 1) := by decide +kernel
theorem dX3_hasSameUses_36 : decode cX3_hasSameUses 36 = .ok (.iload_n 3, 1) := by decide +kernel
theorem dX3_hasSameUses_37 : decode cX3_hasSameUses 37 = .ok (.iload_n 3, 1) := by decide +kernel
theorem dX3_hasSameUses_38 : decode cX3_hasSameUses 38 = .ok (.iconst 2, 1) := by decide +kernel
theorem dX3_hasSameUses_39 : decode cX3_hasSameUses 39 = .ok (.iadd, 1) := by decide +kernel
theorem dX3_hasSameUses_40 : decode cX3_hasSameUses 40 = .ok (.invokevirtual 43, 3) := by decide +kernel
theorem dX3_hasSameUses_43 : decode cX3_hasSameUses 43 = .ok (.ifCond .ne 5, 3) := by decide +kernel
theorem dX3_hasSameUses_46 : decode cX3_hasSameUses 46 = .ok (.iconst 0, 1) := by decide +kernel
theorem dX3_hasSameUses_47 : decode cX3_hasSameUses 47 = .ok (.ireturn, 1) := by decide +kernel
theorem dX3_hasSameUses_48 : decode cX3_hasSameUses 48 = .ok (.iinc 2 1, 3) := by decide +kernel
theorem dX3_hasSameUses_51 : decode cX3_hasSameUses 51 = .ok (.goto (-36), 3) := by decide +kernel
theorem dX3_hasSameUses_54 : decode cX3_hasSameUses 54 = .ok (.iconst 1, 1) := by decide +kernel
theorem dX3_hasSameUses_55 : decode cX3_hasSameUses 55 = .ok (.ireturn, 1) := by decide +kernel
theorem dX4_init_0 : decode cX4_init 0 = .ok (.aload_n 0, 1) := by decide +kernel
theorem dX4_init_1 : decode cX4_init 1 = .ok (.invokespecial 3, 3) := by decide +kernel
theorem dX4_init_4 : decode cX4_init 4 = .ok (.aload_n 0, 1) := by decide +kernel
theorem dX4_init_5 : decode cX4_init 5 = .ok (.new 9, 3) := by decide +kernel
theorem dX4_init_8 : decode cX4_init 8 = .ok (.dup, 1) := by decide +kernel
theorem dX4_init_9 : decode cX4_init 9 = .ok (.invokespecial 11, 3) := by decide +kernel
theorem dX4_init_12 : decode cX4_init 12 = .ok (.putfield 12, 3) := by decide +kernel
theorem dX4_init_15 : decode cX4_init 15 = .ok (.aload_n 0, 1) := by decide +kernel
theorem dX4_init_16 : decode cX4_init 16 = .ok (.new 9, 3) := by decide +kernel
theorem dX4_init_19 : decode cX4_init 19 = .ok (.dup, 1) := by decide +kernel
theorem dX4_init_20 : decode cX4_init 20 = .ok (.invokespecial 11, 3) := by decide +kernel
theorem dX4_init_23 : decode cX4_init 23 = .ok (.putfield 18, 3) := by decide +kernel
theorem dX4_init_26 : decode cX4_init 26 = .ok (.return_, 1) := by decide +kernel
theorem dX4_now_0 : decode cX4_now 0 = .ok (.aload_n 0, 1) := by decide +kernel
theorem dX4_now_1 : decode cX4_now 1 = .ok (.aload_n 0, 1) := by decide +kernel
theorem dX4_now_2 : decode cX4_now 2 = .ok (.getfield 12, 3) := by decide +kernel
theorem dX4_now_5 : decode cX4_now 5 = .ok (.aload_n 1, 1) := by decide +kernel
theorem dX4_now_6 : decode cX4_now 6 = .ok (.aload_n 2, 1) := by decide +kernel
theorem dX4_now_7 : decode cX4_now 7 = .ok (.invokevirtual 21, 3) := by decide +kernel
theorem dX4_now_10 : decode cX4_now 10 = .ok (.aload_n 0, 1) := by decide +kernel
theorem dX4_now_11 : decode cX4_now 11 = .ok (.getfield 12, 3) := by decide +kernel
theorem dX4_now_14 : decode cX4_now 14 = .ok (.areturn, 1) := by decide +kernel
theorem dX4_reasonFor_0 : decode cX4_reasonFor 0 = .ok (.aload_n 1, 1) := by decide +kernel
theorem dX4_reasonFor_1 : decode cX4_reasonFor 1 = .ok (.getfield 25, 3) := by decide +kernel
theorem dX4_reasonFor_4 : decode cX4_reasonFor 4 = .ok (.ifCond .ne 5, 3) := by decide +kernel
theorem dX4_reasonFor_7 : decode cX4_reasonFor 7 = .ok (.iconst 1, 1) := by decide +kernel
theorem dX4_reasonFor_8 : decode cX4_reasonFor 8 = .ok (.ireturn, 1) := by decide +kernel
theorem dX4_reasonFor_9 : decode cX4_reasonFor 9 = .ok (.aload_n 0, 1) := by decide +kernel
theorem dX4_reasonFor_10 : decode cX4_reasonFor 10 = .ok (.aload_n 0, 1) := by decide +kernel
theorem dX4_reasonFor_11 : decode cX4_reasonFor 11 = .ok (.getfield 12, 3) := by decide +kernel
theorem dX4_reasonFor_14 : decode cX4_reasonFor 14 = .ok (.aload_n 1, 1) := by decide +kernel
theorem dX4_reasonFor_15 : decode cX4_reasonFor 15 = .ok (.aload_n 2, 1) := by decide +kernel
theorem dX4_reasonFor_16 : decode cX4_reasonFor 16 = .ok (.invokevirtual 21, 3) := by decide +kernel
theorem dX4_reasonFor_19 : decode cX4_reasonFor 19 = .ok (.aload_n 0, 1) := by decide +kernel
theorem dX4_reasonFor_20 : decode cX4_reasonFor 20 = .ok (.getfield 12, 3) := by decide +kernel
theorem dX4_reasonFor_23 : decode cX4_reasonFor 23 = .ok (.aload_n 1, 1) := by decide +kernel
theorem dX4_reasonFor_24 : decode cX4_reasonFor 24 = .ok (.getfield 31, 3) := by decide +kernel
theorem dX4_reasonFor_27 : decode cX4_reasonFor 27 = .ok (.invokevirtual 34, 3) := by decide +kernel
theorem dX4_reasonFor_30 : decode cX4_reasonFor 30 = .ok (.ireturn, 1) := by decide +kernel
theorem dX4_write_0 : decode cX4_write 0 = .ok (.aload_n 1, 1) := by decide +kernel
theorem dX4_write_1 : decode cX4_write 1 = .ok (.aload_n 2, 1) := by decide +kernel
theorem dX4_write_2 : decode cX4_write 2 = .ok (.aload_n 3, 1) := by decide +kernel
theorem dX4_write_3 : decode cX4_write 3 = .ok (.invokestatic 38, 3) := by decide +kernel
theorem dX4_write_6 : decode cX4_write 6 = .ok (.aload_n 3, 1) := by decide +kernel
theorem dX4_write_7 : decode cX4_write 7 = .ok (.aload_n 2, 1) := by decide +kernel
theorem dX4_write_8 : decode cX4_write 8 = .ok (.getfield 41, 3) := by decide +kernel
theorem dX4_write_11 : decode cX4_write 11 = .ok (.invokevirtual 44, 3) := by decide +kernel
theorem dX4_write_14 : decode cX4_write 14 = .ok (.astore 4, 2) := by decide +kernel
theorem dX4_write_16 : decode cX4_write 16 = .ok (.aload 4, 2) := by decide +kernel
theorem dX4_write_18 : decode cX4_write 18 = .ok (.ifnonnull 9, 3) := by decide +kernel
theorem dX4_write_21 : decode cX4_write 21 = .ok (.aload_n 1, 1) := by decide +kernel
theorem dX4_write_22 : decode cX4_write 22 = .ok (.lconst 0, 1) := by decide +kernel
theorem dX4_write_23 : decode cX4_write 23 = .ok (.invokevirtual 50, 3) := by decide +kernel
theorem dX4_write_26 : decode cX4_write 26 = .ok (.return_, 1) := by decide +kernel
theorem dX4_write_27 : decode cX4_write 27 = .ok (.aload_n 0, 1) := by decide +kernel
theorem dX4_write_28 : decode cX4_write 28 = .ok (.getfield 18, 3) := by decide +kernel
theorem dX4_write_31 : decode cX4_write 31 = .ok (.aload 4, 2) := by decide +kernel
theorem dX4_write_33 : decode cX4_write 33 = .ok (.aload_n 3, 1) := by decide +kernel
theorem dX4_write_34 : decode cX4_write 34 = .ok (.invokestatic 38, 3) := by decide +kernel
theorem dX4_write_37 : decode cX4_write 37 = .ok (.aload_n 0, 1) := by decide +kernel
theorem dX4_write_38 : decode cX4_write 38 = .ok (.getfield 18, 3) := by decide +kernel
theorem dX4_write_41 : decode cX4_write 41 = .ok (.lconst 0, 1) := by decide +kernel
theorem dX4_write_42 : decode cX4_write 42 = .ok (.invokevirtual 50, 3) := by decide +kernel
theorem dX4_write_45 : decode cX4_write 45 = .ok (.aload_n 1, 1) := by decide +kernel
theorem dX4_write_46 : decode cX4_write 46 = .ok (.lconst 1, 1) := by decide +kernel
theorem dX4_write_47 : decode cX4_write 47 = .ok (.invokevirtual 50, 3) := by decide +kernel
theorem dX4_write_50 : decode cX4_write 50 = .ok (.aload_n 1, 1) := by decide +kernel
theorem dX4_write_51 : decode cX4_write 51 = .ok (.aload_n 0, 1) := by decide +kernel
theorem dX4_write_52 : decode cX4_write 52 = .ok (.getfield 18, 3) := by decide +kernel
theorem dX4_write_55 : decode cX4_write 55 = .ok (.invokevirtual 54, 3) := by decide +kernel
theorem dX4_write_58 : decode cX4_write 58 = .ok (.invokevirtual 50, 3) := by decide +kernel
theorem dX4_write_61 : decode cX4_write 61 = .ok (.return_, 1) := by decide +kernel
theorem dX4_writeAllButMaker_0 : decode cX4_writeAllButMaker 0 = .ok (.aload_n 0, 1) := by decide +kernel
theorem dX4_writeAllButMaker_1 : decode cX4_writeAllButMaker 1 = .ok (.invokevirtual 58, 3) := by decide +kernel
theorem dX4_writeAllButMaker_4 : decode cX4_writeAllButMaker 4 = .ok (.aload_n 0, 1) := by decide +kernel
theorem dX4_writeAllButMaker_5 : decode cX4_writeAllButMaker 5 = .ok (.aload_n 1, 1) := by decide +kernel
theorem dX4_writeAllButMaker_6 : decode cX4_writeAllButMaker 6 = .ok (.invokestatic 61, 3) := by decide +kernel
theorem dX4_writeAllButMaker_9 : decode cX4_writeAllButMaker 9 = .ok (.aload_n 0, 1) := by decide +kernel
theorem dX4_writeAllButMaker_10 : decode cX4_writeAllButMaker 10 = .ok (.aload_n 1, 1) := by decide +kernel
theorem dX4_writeAllButMaker_11 : decode cX4_writeAllButMaker 11 = .ok (.getfield 65, 3) := by decide +kernel
theorem dX4_writeAllButMaker_14 : decode cX4_writeAllButMaker 14 = .ok (.invokestatic 69, 3) := by decide +kernel
theorem dX4_writeAllButMaker_17 : decode cX4_writeAllButMaker 17 = .ok (.aload_n 0, 1) := by decide +kernel
theorem dX4_writeAllButMaker_18 : decode cX4_writeAllButMaker 18 = .ok (.aload_n 1, 1) := by decide +kernel
theorem dX4_writeAllButMaker_19 : decode cX4_writeAllButMaker 19 = .ok (.getfield 73, 3) := by decide +kernel
theorem dX4_writeAllButMaker_22 : decode cX4_writeAllButMaker 22 = .ok (.invokevirtual 76, 3) := by decide +kernel
theorem dX4_writeAllButMaker_25 : decode cX4_writeAllButMaker 25 = .ok (.invokevirtual 82, 3) := by decide +kernel
theorem dX4_writeAllButMaker_28 : decode cX4_writeAllButMaker 28 = .ok (.aload_n 0, 1) := by decide +kernel
theorem dX4_writeAllButMaker_29 : decode cX4_writeAllButMaker 29 = .ok (.aload_n 1, 1) := by decide +kernel
theorem dX4_writeAllButMaker_30 : decode cX4_writeAllButMaker 30 = .ok (.aload_n 2, 1) := by decide +kernel
theorem dX4_writeAllButMaker_31 : decode cX4_writeAllButMaker 31 = .ok (.invokestatic 86, 3) := by decide +kernel
theorem dX4_writeAllButMaker_34 : decode cX4_writeAllButMaker 34 = .ok (.aload_n 0, 1) := by decide +kernel
theorem dX4_writeAllButMaker_35 : decode cX4_writeAllButMaker 35 = .ok (.invokevirtual 89, 3) := by decide +kernel
theorem dX4_writeAllButMaker_38 : decode cX4_writeAllButMaker 38 = .ok (.aload_n 0, 1) := by decide +kernel
theorem dX4_writeAllButMaker_39 : decode cX4_writeAllButMaker 39 = .ok (.aload_n 1, 1) := by decide +kernel
theorem dX4_writeAllButMaker_40 : decode cX4_writeAllButMaker 40 = .ok (.aload_n 2, 1) := by decide +kernel
theorem dX4_writeAllButMaker_41 : decode cX4_writeAllButMaker 41 = .ok (.invokestatic 92, 3) := by decide +kernel
theorem dX4_writeAllButMaker_44 : decode cX4_writeAllButMaker 44 = .ok (.aload_n 0, 1) := by decide +kernel
theorem dX4_writeAllButMaker_45 : decode cX4_writeAllButMaker 45 = .ok (.invokevirtual 95, 3) := by decide +kernel
theorem dX4_writeAllButMaker_48 : decode cX4_writeAllButMaker 48 = .ok (.return_, 1) := by decide +kernel
theorem dX4_writeThings_0 : decode cX4_writeThings 0 = .ok (.aload_n 0, 1) := by decide +kernel
theorem dX4_writeThings_1 : decode cX4_writeThings 1 = .ok (.aload_n 1, 1) := by decide +kernel
theorem dX4_writeThings_2 : decode cX4_writeThings 2 = .ok (.invokevirtual 98, 3) := by decide +kernel
theorem dX4_writeThings_5 : decode cX4_writeThings 5 = .ok (.i2l, 1) := by decide +kernel
theorem dX4_writeThings_6 : decode cX4_writeThings 6 = .ok (.invokevirtual 50, 3) := by decide +kernel
theorem dX4_writeThings_9 : decode cX4_writeThings 9 = .ok (.iconst 0, 1) := by decide +kernel
theorem dX4_writeThings_10 : decode cX4_writeThings 10 = .ok (.istore_n 2, 1) := by decide +kernel
theorem dX4_writeThings_11 : decode cX4_writeThings 11 = .ok (.iload_n 2, 1) := by decide +kernel
theorem dX4_writeThings_12 : decode cX4_writeThings 12 = .ok (.aload_n 1, 1) := by decide +kernel
theorem dX4_writeThings_13 : decode cX4_writeThings 13 = .ok (.invokevirtual 98, 3) := by decide +kernel
theorem dX4_writeThings_16 : decode cX4_writeThings 16 = .ok (.if_icmp .ge 75, 3) := by decide +kernel
theorem dX4_writeThings_19 : decode cX4_writeThings 19 = .ok (.aload_n 1, 1) := by decide +kernel
theorem dX4_writeThings_20 : decode cX4_writeThings 20 = .ok (.iload_n 2, 1) := by decide +kernel
theorem dX4_writeThings_21 : decode cX4_writeThings 21 = .ok (.invokevirtual 101, 3) := by decide +kernel
theorem dX4_writeThings_24 : decode cX4_writeThings 24 = .ok (.astore_n 3, 1) := by decide +kernel
theorem dX4_writeThings_25 : decode cX4_writeThings 25 = .ok (.aload_n 3, 1) := by decide +kernel
theorem dX4_writeThings_26 : decode cX4_writeThings 26 = .ok (.ifnull 59, 3) := by decide +kernel
theorem dX4_writeThings_29 : decode cX4_writeThings 29 = .ok (.aload_n 0, 1) := by decide +kernel
theorem dX4_writeThings_30 : decode cX4_writeThings 30 = .ok (.aload_n 3, 1) := by decide +kernel
theorem dX4_writeThings_31 : decode cX4_writeThings 31 = .ok (.getfield 105, 3) := by decide +kernel
theorem dX4_writeThings_34 : decode cX4_writeThings 34 = .ok (.invokestatic 110, 3) := by decide +kernel
theorem dX4_writeThings_37 : decode cX4_writeThings 37 = .ok (.i2l, 1) := by decide +kernel
theorem dX4_writeThings_38 : decode cX4_writeThings 38 = .ok (.invokevirtual 50, 3) := by decide +kernel
theorem dX4_writeThings_41 : decode cX4_writeThings 41 = .ok (.aload_n 0, 1) := by decide +kernel
theorem dX4_writeThings_42 : decode cX4_writeThings 42 = .ok (.aload_n 3, 1) := by decide +kernel
theorem dX4_writeThings_43 : decode cX4_writeThings 43 = .ok (.getfield 105, 3) := by decide +kernel
theorem dX4_writeThings_46 : decode cX4_writeThings 46 = .ok (.invokestatic 114, 3) := by decide +kernel
theorem dX4_writeThings_49 : decode cX4_writeThings 49 = .ok (.i2l, 1) := by decide +kernel
theorem dX4_writeThings_50 : decode cX4_writeThings 50 = .ok (.invokevirtual 50, 3) := by decide +kernel
theorem dX4_writeThings_53 : decode cX4_writeThings 53 = .ok (.aload_n 0, 1) := by decide +kernel
theorem dX4_writeThings_54 : decode cX4_writeThings 54 = .ok (.aload_n 3, 1) := by decide +kernel
theorem dX4_writeThings_55 : decode cX4_writeThings 55 = .ok (.getfield 117, 3) := by decide +kernel
theorem dX4_writeThings_58 : decode cX4_writeThings 58 = .ok (.invokevirtual 50, 3) := by decide +kernel
theorem dX4_writeThings_61 : decode cX4_writeThings 61 = .ok (.aload_n 0, 1) := by decide +kernel
theorem dX4_writeThings_62 : decode cX4_writeThings 62 = .ok (.aload_n 3, 1) := by decide +kernel
theorem dX4_writeThings_63 : decode cX4_writeThings 63 = .ok (.getfield 120, 3) := by decide +kernel
theorem dX4_writeThings_66 : decode cX4_writeThings 66 = .ok (.ifCond .eq 7, 3) := by decide +kernel
theorem dX4_writeThings_69 : decode cX4_writeThings 69 = .ok (.lconst 1, 1) := by decide +kernel
theorem dX4_writeThings_70 : decode cX4_writeThings 70 = .ok (.goto 4, 3) := by decide +kernel
theorem dX4_writeThings_73 : decode cX4_writeThings 73 = .ok (.lconst 0, 1) := by decide +kernel
theorem dX4_writeThings_74 : decode cX4_writeThings 74 = .ok (.invokevirtual 50, 3) := by decide +kernel
theorem dX4_writeThings_77 : decode cX4_writeThings 77 = .ok (.aload_n 0, 1) := by decide +kernel
theorem dX4_writeThings_78 : decode cX4_writeThings 78 = .ok (.aload_n 3, 1) := by decide +kernel
theorem dX4_writeThings_79 : decode cX4_writeThings 79 = .ok (.getfield 124, 3) := by decide +kernel
theorem dX4_writeThings_82 : decode cX4_writeThings 82 = .ok (.invokestatic 69, 3) := by decide +kernel
theorem dX4_writeThings_85 : decode cX4_writeThings 85 = .ok (.iinc 2 1, 3) := by decide +kernel
theorem dX4_writeThings_88 : decode cX4_writeThings 88 = .ok (.goto (-77), 3) := by decide +kernel
theorem dX4_writeThings_91 : decode cX4_writeThings 91 = .ok (.return_, 1) := by decide +kernel
theorem dX4_writeInts_0 : decode cX4_writeInts 0 = .ok (.aload_n 0, 1) := by decide +kernel
theorem dX4_writeInts_1 : decode cX4_writeInts 1 = .ok (.aload_n 1, 1) := by decide +kernel
theorem dX4_writeInts_2 : decode cX4_writeInts 2 = .ok (.invokevirtual 76, 3) := by decide +kernel
theorem dX4_writeInts_5 : decode cX4_writeInts 5 = .ok (.i2l, 1) := by decide +kernel
theorem dX4_writeInts_6 : decode cX4_writeInts 6 = .ok (.invokevirtual 50, 3) := by decide +kernel
theorem dX4_writeInts_9 : decode cX4_writeInts 9 = .ok (.iconst 0, 1) := by decide +kernel
theorem dX4_writeInts_10 : decode cX4_writeInts 10 = .ok (.istore_n 2, 1) := by decide +kernel
theorem dX4_writeInts_11 : decode cX4_writeInts 11 = .ok (.iload_n 2, 1) := by decide +kernel
theorem dX4_writeInts_12 : decode cX4_writeInts 12 = .ok (.aload_n 1, 1) := by decide +kernel
theorem dX4_writeInts_13 : decode cX4_writeInts 13 = .ok (.invokevirtual 76, 3) := by decide +kernel
theorem dX4_writeInts_16 : decode cX4_writeInts 16 = .ok (.if_icmp .ge 19, 3) := by decide +kernel
theorem dX4_writeInts_19 : decode cX4_writeInts 19 = .ok (.aload_n 0, 1) := by decide +kernel
theorem dX4_writeInts_20 : decode cX4_writeInts 20 = .ok (.aload_n 1, 1) := by decide +kernel
theorem dX4_writeInts_21 : decode cX4_writeInts 21 = .ok (.iload_n 2, 1) := by decide +kernel
theorem dX4_writeInts_22 : decode cX4_writeInts 22 = .ok (.invokevirtual 127, 3) := by decide +kernel
theorem dX4_writeInts_25 : decode cX4_writeInts 25 = .ok (.i2l, 1) := by decide +kernel
theorem dX4_writeInts_26 : decode cX4_writeInts 26 = .ok (.invokevirtual 50, 3) := by decide +kernel
theorem dX4_writeInts_29 : decode cX4_writeInts 29 = .ok (.iinc 2 1, 3) := by decide +kernel
theorem dX4_writeInts_32 : decode cX4_writeInts 32 = .ok (.goto (-21), 3) := by decide +kernel
theorem dX4_writeInts_35 : decode cX4_writeInts 35 = .ok (.return_, 1) := by decide +kernel
theorem dX4_writeFinds_0 : decode cX4_writeFinds 0 = .ok (.aload_n 1, 1) := by decide +kernel
theorem dX4_writeFinds_1 : decode cX4_writeFinds 1 = .ok (.invokevirtual 129, 3) := by decide +kernel
theorem dX4_writeFinds_4 : decode cX4_writeFinds 4 = .ok (.astore_n 3, 1) := by decide +kernel
theorem dX4_writeFinds_5 : decode cX4_writeFinds 5 = .ok (.aload_n 1, 1) := by decide +kernel
theorem dX4_writeFinds_6 : decode cX4_writeFinds 6 = .ok (.getfield 73, 3) := by decide +kernel
theorem dX4_writeFinds_9 : decode cX4_writeFinds 9 = .ok (.invokevirtual 76, 3) := by decide +kernel
theorem dX4_writeFinds_12 : decode cX4_writeFinds 12 = .ok (.istore 4, 2) := by decide +kernel
theorem dX4_writeFinds_14 : decode cX4_writeFinds 14 = .ok (.aload_n 0, 1) := by decide +kernel
theorem dX4_writeFinds_15 : decode cX4_writeFinds 15 = .ok (.iload 4, 2) := by decide +kernel
theorem dX4_writeFinds_17 : decode cX4_writeFinds 17 = .ok (.i2l, 1) := by decide +kernel
theorem dX4_writeFinds_18 : decode cX4_writeFinds 18 = .ok (.invokevirtual 50, 3) := by decide +kernel
theorem dX4_writeFinds_21 : decode cX4_writeFinds 21 = .ok (.iconst 0, 1) := by decide +kernel
theorem dX4_writeFinds_22 : decode cX4_writeFinds 22 = .ok (.istore 5, 2) := by decide +kernel
theorem dX4_writeFinds_24 : decode cX4_writeFinds 24 = .ok (.iload 5, 2) := by decide +kernel
theorem dX4_writeFinds_26 : decode cX4_writeFinds 26 = .ok (.aload_n 3, 1) := by decide +kernel
theorem dX4_writeFinds_27 : decode cX4_writeFinds 27 = .ok (.invokevirtual 76, 3) := by decide +kernel
theorem dX4_writeFinds_30 : decode cX4_writeFinds 30 = .ok (.if_icmp .ge 55, 3) := by decide +kernel
theorem dX4_writeFinds_33 : decode cX4_writeFinds 33 = .ok (.aload_n 3, 1) := by decide +kernel
theorem dX4_writeFinds_34 : decode cX4_writeFinds 34 = .ok (.iload 5, 2) := by decide +kernel
theorem dX4_writeFinds_36 : decode cX4_writeFinds 36 = .ok (.invokevirtual 127, 3) := by decide +kernel
theorem dX4_writeFinds_39 : decode cX4_writeFinds 39 = .ok (.istore 6, 2) := by decide +kernel
theorem dX4_writeFinds_41 : decode cX4_writeFinds 41 = .ok (.iload 5, 2) := by decide +kernel
theorem dX4_writeFinds_43 : decode cX4_writeFinds 43 = .ok (.iload 4, 2) := by decide +kernel
theorem dX4_writeFinds_45 : decode cX4_writeFinds 45 = .ok (.if_icmp .ge 23, 3) := by decide +kernel
theorem dX4_writeFinds_48 : decode cX4_writeFinds 48 = .ok (.aload_n 0, 1) := by decide +kernel
theorem dX4_writeFinds_49 : decode cX4_writeFinds 49 = .ok (.iload 6, 2) := by decide +kernel
theorem dX4_writeFinds_51 : decode cX4_writeFinds 51 = .ok (.invokestatic 110, 3) := by decide +kernel
theorem dX4_writeFinds_54 : decode cX4_writeFinds 54 = .ok (.i2l, 1) := by decide +kernel
theorem dX4_writeFinds_55 : decode cX4_writeFinds 55 = .ok (.invokevirtual 50, 3) := by decide +kernel
theorem dX4_writeFinds_58 : decode cX4_writeFinds 58 = .ok (.aload_n 0, 1) := by decide +kernel
theorem dX4_writeFinds_59 : decode cX4_writeFinds 59 = .ok (.iload 6, 2) := by decide +kernel
theorem dX4_writeFinds_61 : decode cX4_writeFinds 61 = .ok (.invokestatic 114, 3) := by decide +kernel
theorem dX4_writeFinds_64 : decode cX4_writeFinds 64 = .ok (.i2l, 1) := by decide +kernel
theorem dX4_writeFinds_65 : decode cX4_writeFinds 65 = .ok (.invokevirtual 50, 3) := by decide +kernel
theorem dX4_writeFinds_68 : decode cX4_writeFinds 68 = .ok (.aload_n 0, 1) := by decide +kernel
theorem dX4_writeFinds_69 : decode cX4_writeFinds 69 = .ok (.aload_n 2, 1) := by decide +kernel
theorem dX4_writeFinds_70 : decode cX4_writeFinds 70 = .ok (.aload_n 1, 1) := by decide +kernel
theorem dX4_writeFinds_71 : decode cX4_writeFinds 71 = .ok (.iload 6, 2) := by decide +kernel
theorem dX4_writeFinds_73 : decode cX4_writeFinds 73 = .ok (.invokevirtual 133, 3) := by decide +kernel
theorem dX4_writeFinds_76 : decode cX4_writeFinds 76 = .ok (.invokestatic 137, 3) := by decide +kernel
theorem dX4_writeFinds_79 : decode cX4_writeFinds 79 = .ok (.iinc 5 1, 3) := by decide +kernel
theorem dX4_writeFinds_82 : decode cX4_writeFinds 82 = .ok (.goto (-58), 3) := by decide +kernel
theorem dX4_writeFinds_85 : decode cX4_writeFinds 85 = .ok (.return_, 1) := by decide +kernel
theorem dX4_writeFound_0 : decode cX4_writeFound 0 = .ok (.aload_n 1, 1) := by decide +kernel
theorem dX4_writeFound_1 : decode cX4_writeFound 1 = .ok (.ifnonnull 16, 3) := by decide +kernel
theorem dX4_writeFound_4 : decode cX4_writeFound 4 = .ok (.aload_n 0, 1) := by decide +kernel
theorem dX4_writeFound_5 : decode cX4_writeFound 5 = .ok (.ldc2_w 141, 3) := by decide +kernel
theorem dX4_writeFound_8 : decode cX4_writeFound 8 = .ok (.invokevirtual 50, 3) := by decide +kernel
theorem dX4_writeFound_11 : decode cX4_writeFound 11 = .ok (.aload_n 0, 1) := by decide +kernel
theorem dX4_writeFound_12 : decode cX4_writeFound 12 = .ok (.lconst 0, 1) := by decide +kernel
theorem dX4_writeFound_13 : decode cX4_writeFound 13 = .ok (.invokevirtual 50, 3) := by decide +kernel
theorem dX4_writeFound_16 : decode cX4_writeFound 16 = .ok (.return_, 1) := by decide +kernel
theorem dX4_writeFound_17 : decode cX4_writeFound 17 = .ok (.aload_n 0, 1) := by decide +kernel
theorem dX4_writeFound_18 : decode cX4_writeFound 18 = .ok (.aload_n 1, 1) := by decide +kernel
theorem dX4_writeFound_19 : decode cX4_writeFound 19 = .ok (.getfield 143, 3) := by decide +kernel
theorem dX4_writeFound_22 : decode cX4_writeFound 22 = .ok (.i2l, 1) := by decide +kernel
theorem dX4_writeFound_23 : decode cX4_writeFound 23 = .ok (.invokevirtual 50, 3) := by decide +kernel
theorem dX4_writeFound_26 : decode cX4_writeFound 26 = .ok (.aload_n 0, 1) := by decide +kernel
theorem dX4_writeFound_27 : decode cX4_writeFound 27 = .ok (.aload_n 1, 1) := by decide +kernel
theorem dX4_writeFound_28 : decode cX4_writeFound 28 = .ok (.getfield 105, 3) := by decide +kernel
theorem dX4_writeFound_31 : decode cX4_writeFound 31 = .ok (.invokestatic 110, 3) := by decide +kernel
theorem dX4_writeFound_34 : decode cX4_writeFound 34 = .ok (.iconst 1, 1) := by decide +kernel
theorem dX4_writeFound_35 : decode cX4_writeFound 35 = .ok (.if_icmp .ne 10, 3) := by decide +kernel
theorem dX4_writeFound_38 : decode cX4_writeFound 38 = .ok (.aload_n 1, 1) := by decide +kernel
theorem dX4_writeFound_39 : decode cX4_writeFound 39 = .ok (.getfield 146, 3) := by decide +kernel
theorem dX4_writeFound_42 : decode cX4_writeFound 42 = .ok (.goto 7, 3) := by decide +kernel
theorem dX4_writeFound_45 : decode cX4_writeFound 45 = .ok (.aload_n 1, 1) := by decide +kernel
theorem dX4_writeFound_46 : decode cX4_writeFound 46 = .ok (.getfield 117, 3) := by decide +kernel
theorem dX4_writeFound_49 : decode cX4_writeFound 49 = .ok (.invokevirtual 50, 3) := by decide +kernel
theorem dX4_writeFound_52 : decode cX4_writeFound 52 = .ok (.return_, 1) := by decide +kernel
theorem dX4_writeMarks_0 : decode cX4_writeMarks 0 = .ok (.aload_n 0, 1) := by decide +kernel
theorem dX4_writeMarks_1 : decode cX4_writeMarks 1 = .ok (.aload_n 1, 1) := by decide +kernel
theorem dX4_writeMarks_2 : decode cX4_writeMarks 2 = .ok (.getfield 149, 3) := by decide +kernel
theorem dX4_writeMarks_5 : decode cX4_writeMarks 5 = .ok (.ifCond .eq 7, 3) := by decide +kernel
theorem dX4_writeMarks_8 : decode cX4_writeMarks 8 = .ok (.lconst 1, 1) := by decide +kernel
theorem dX4_writeMarks_9 : decode cX4_writeMarks 9 = .ok (.goto 4, 3) := by decide +kernel
theorem dX4_writeMarks_12 : decode cX4_writeMarks 12 = .ok (.lconst 0, 1) := by decide +kernel
theorem dX4_writeMarks_13 : decode cX4_writeMarks 13 = .ok (.invokevirtual 50, 3) := by decide +kernel
theorem dX4_writeMarks_16 : decode cX4_writeMarks 16 = .ok (.iconst 0, 1) := by decide +kernel
theorem dX4_writeMarks_17 : decode cX4_writeMarks 17 = .ok (.istore_n 3, 1) := by decide +kernel
theorem dX4_writeMarks_18 : decode cX4_writeMarks 18 = .ok (.aload_n 1, 1) := by decide +kernel
theorem dX4_writeMarks_19 : decode cX4_writeMarks 19 = .ok (.getfield 149, 3) := by decide +kernel
theorem dX4_writeMarks_22 : decode cX4_writeMarks 22 = .ok (.ifCond .eq 102, 3) := by decide +kernel
theorem dX4_writeMarks_25 : decode cX4_writeMarks 25 = .ok (.iload_n 3, 1) := by decide +kernel
theorem dX4_writeMarks_26 : decode cX4_writeMarks 26 = .ok (.aload_n 2, 1) := by decide +kernel
theorem dX4_writeMarks_27 : decode cX4_writeMarks 27 = .ok (.getfield 152, 3) := by decide +kernel
theorem dX4_writeMarks_30 : decode cX4_writeMarks 30 = .ok (.if_icmp .ge 94, 3) := by decide +kernel
theorem dX4_writeMarks_33 : decode cX4_writeMarks 33 = .ok (.aload_n 2, 1) := by decide +kernel
theorem dX4_writeMarks_34 : decode cX4_writeMarks 34 = .ok (.iload_n 3, 1) := by decide +kernel
theorem dX4_writeMarks_35 : decode cX4_writeMarks 35 = .ok (.invokevirtual 44, 3) := by decide +kernel
theorem dX4_writeMarks_38 : decode cX4_writeMarks 38 = .ok (.astore 4, 2) := by decide +kernel
theorem dX4_writeMarks_40 : decode cX4_writeMarks 40 = .ok (.iconst 0, 1) := by decide +kernel
theorem dX4_writeMarks_41 : decode cX4_writeMarks 41 = .ok (.istore 5, 2) := by decide +kernel
theorem dX4_writeMarks_43 : decode cX4_writeMarks 43 = .ok (.aload 4, 2) := by decide +kernel
theorem dX4_writeMarks_45 : decode cX4_writeMarks 45 = .ok (.ifnull 73, 3) := by decide +kernel
theorem dX4_writeMarks_48 : decode cX4_writeMarks 48 = .ok (.iload 5, 2) := by decide +kernel
theorem dX4_writeMarks_50 : decode cX4_writeMarks 50 = .ok (.aload 4, 2) := by decide +kernel
theorem dX4_writeMarks_52 : decode cX4_writeMarks 52 = .ok (.invokevirtual 98, 3) := by decide +kernel
theorem dX4_writeMarks_55 : decode cX4_writeMarks 55 = .ok (.if_icmp .ge 63, 3) := by decide +kernel
theorem dX4_writeMarks_58 : decode cX4_writeMarks 58 = .ok (.aload 4, 2) := by decide +kernel
theorem dX4_writeMarks_60 : decode cX4_writeMarks 60 = .ok (.iload 5, 2) := by decide +kernel
theorem dX4_writeMarks_62 : decode cX4_writeMarks 62 = .ok (.invokevirtual 101, 3) := by decide +kernel
theorem dX4_writeMarks_65 : decode cX4_writeMarks 65 = .ok (.astore 6, 2) := by decide +kernel
theorem dX4_writeMarks_67 : decode cX4_writeMarks 67 = .ok (.aload 6, 2) := by decide +kernel
theorem dX4_writeMarks_69 : decode cX4_writeMarks 69 = .ok (.ifnull 43, 3) := by decide +kernel
theorem dX4_writeMarks_72 : decode cX4_writeMarks 72 = .ok (.aload 6, 2) := by decide +kernel
theorem dX4_writeMarks_74 : decode cX4_writeMarks 74 = .ok (.getfield 105, 3) := by decide +kernel
theorem dX4_writeMarks_77 : decode cX4_writeMarks 77 = .ok (.invokestatic 110, 3) := by decide +kernel
theorem dX4_writeMarks_80 : decode cX4_writeMarks 80 = .ok (.iconst 2, 1) := by decide +kernel
theorem dX4_writeMarks_81 : decode cX4_writeMarks 81 = .ok (.if_icmp .ne 31, 3) := by decide +kernel
theorem dX4_writeMarks_84 : decode cX4_writeMarks 84 = .ok (.aload_n 0, 1) := by decide +kernel
theorem dX4_writeMarks_85 : decode cX4_writeMarks 85 = .ok (.iload_n 3, 1) := by decide +kernel
theorem dX4_writeMarks_86 : decode cX4_writeMarks 86 = .ok (.i2l, 1) := by decide +kernel
theorem dX4_writeMarks_87 : decode cX4_writeMarks 87 = .ok (.invokevirtual 50, 3) := by decide +kernel
theorem dX4_writeMarks_90 : decode cX4_writeMarks 90 = .ok (.aload_n 0, 1) := by decide +kernel
theorem dX4_writeMarks_91 : decode cX4_writeMarks 91 = .ok (.aload 6, 2) := by decide +kernel
theorem dX4_writeMarks_93 : decode cX4_writeMarks 93 = .ok (.getfield 105, 3) := by decide +kernel
theorem dX4_writeMarks_96 : decode cX4_writeMarks 96 = .ok (.invokestatic 114, 3) := by decide +kernel
theorem dX4_writeMarks_99 : decode cX4_writeMarks 99 = .ok (.i2l, 1) := by decide +kernel
theorem dX4_writeMarks_100 : decode cX4_writeMarks 100 = .ok (.invokevirtual 50, 3) := by decide +kernel
theorem dX4_writeMarks_103 : decode cX4_writeMarks 103 = .ok (.aload_n 0, 1) := by decide +kernel
theorem dX4_writeMarks_104 : decode cX4_writeMarks 104 = .ok (.aload 6, 2) := by decide +kernel
theorem dX4_writeMarks_106 : decode cX4_writeMarks 106 = .ok (.getfield 117, 3) := by decide +kernel
theorem dX4_writeMarks_109 : decode cX4_writeMarks 109 = .ok (.invokevirtual 50, 3) := by decide +kernel
theorem dX4_writeMarks_112 : decode cX4_writeMarks 112 = .ok (.iinc 5 1, 3) := by decide +kernel
theorem dX4_writeMarks_115 : decode cX4_writeMarks 115 = .ok (.goto (-72), 3) := by decide +kernel
theorem dX4_writeMarks_118 : decode cX4_writeMarks 118 = .ok (.iinc 3 1, 3) := by decide +kernel
theorem dX4_writeMarks_121 : decode cX4_writeMarks 121 = .ok (.goto (-103), 3) := by decide +kernel
theorem dX4_writeMarks_124 : decode cX4_writeMarks 124 = .ok (.return_, 1) := by decide +kernel
theorem dX5_init_0 : decode cX5_init 0 = .ok (.aload_n 0, 1) := by decide +kernel
theorem dX5_init_1 : decode cX5_init 1 = .ok (.invokespecial 3, 3) := by decide +kernel
theorem dX5_init_4 : decode cX5_init 4 = .ok (.aload_n 0, 1) := by decide +kernel
theorem dX5_init_5 : decode cX5_init 5 = .ok (.iload_n 1, 1) := by decide +kernel
theorem dX5_init_6 : decode cX5_init 6 = .ok (.putfield 9, 3) := by decide +kernel
theorem dX5_init_9 : decode cX5_init 9 = .ok (.aload_n 0, 1) := by decide +kernel
theorem dX5_init_10 : decode cX5_init 10 = .ok (.new 15, 3) := by decide +kernel
theorem dX5_init_13 : decode cX5_init 13 = .ok (.dup, 1) := by decide +kernel
theorem dX5_init_14 : decode cX5_init 14 = .ok (.iconst 3, 1) := by decide +kernel
theorem dX5_init_15 : decode cX5_init 15 = .ok (.invokespecial 17, 3) := by decide +kernel
theorem dX5_init_18 : decode cX5_init 18 = .ok (.putfield 20, 3) := by decide +kernel
theorem dX5_init_21 : decode cX5_init 21 = .ok (.return_, 1) := by decide +kernel
theorem dX6_init_0 : decode cX6_init 0 = .ok (.aload_n 0, 1) := by decide +kernel
theorem dX6_init_1 : decode cX6_init 1 = .ok (.invokespecial 3, 3) := by decide +kernel
theorem dX6_init_4 : decode cX6_init 4 = .ok (.aload_n 0, 1) := by decide +kernel
theorem dX6_init_5 : decode cX6_init 5 = .ok (.iload_n 1, 1) := by decide +kernel
theorem dX6_init_6 : decode cX6_init 6 = .ok (.putfield 9, 3) := by decide +kernel
theorem dX6_init_9 : decode cX6_init 9 = .ok (.aload_n 0, 1) := by decide +kernel
theorem dX6_init_10 : decode cX6_init 10 = .ok (.new 15, 3) := by decide +kernel
theorem dX6_init_13 : decode cX6_init 13 = .ok (.dup, 1) := by decide +kernel
theorem dX6_init_14 : decode cX6_init 14 = .ok (.bipush 6, 2) := by decide +kernel
theorem dX6_init_16 : decode cX6_init 16 = .ok (.invokespecial 17, 3) := by decide +kernel
theorem dX6_init_19 : decode cX6_init 19 = .ok (.putfield 20, 3) := by decide +kernel
theorem dX6_init_22 : decode cX6_init 22 = .ok (.aload_n 0, 1) := by decide +kernel
theorem dX6_init_23 : decode cX6_init 23 = .ok (.new 15, 3) := by decide +kernel
theorem dX6_init_26 : decode cX6_init 26 = .ok (.dup, 1) := by decide +kernel
theorem dX6_init_27 : decode cX6_init 27 = .ok (.bipush 12, 2) := by decide +kernel
theorem dX6_init_29 : decode cX6_init 29 = .ok (.invokespecial 17, 3) := by decide +kernel
theorem dX6_init_32 : decode cX6_init 32 = .ok (.putfield 24, 3) := by decide +kernel
theorem dX6_init_35 : decode cX6_init 35 = .ok (.aload_n 0, 1) := by decide +kernel
theorem dX6_init_36 : decode cX6_init 36 = .ok (.new 27, 3) := by decide +kernel
theorem dX6_init_39 : decode cX6_init 39 = .ok (.dup, 1) := by decide +kernel
theorem dX6_init_40 : decode cX6_init 40 = .ok (.invokespecial 29, 3) := by decide +kernel
theorem dX6_init_43 : decode cX6_init 43 = .ok (.putfield 30, 3) := by decide +kernel
theorem dX6_init_46 : decode cX6_init 46 = .ok (.aload_n 0, 1) := by decide +kernel
theorem dX6_init_47 : decode cX6_init 47 = .ok (.bipush 10, 2) := by decide +kernel
theorem dX6_init_49 : decode cX6_init 49 = .ok (.anewarray 34, 3) := by decide +kernel
theorem dX6_init_52 : decode cX6_init 52 = .ok (.putfield 36, 3) := by decide +kernel
theorem dX6_init_55 : decode cX6_init 55 = .ok (.iconst 0, 1) := by decide +kernel
theorem dX6_init_56 : decode cX6_init 56 = .ok (.istore_n 2, 1) := by decide +kernel
theorem dX6_init_57 : decode cX6_init 57 = .ok (.iload_n 2, 1) := by decide +kernel
theorem dX6_init_58 : decode cX6_init 58 = .ok (.aload_n 0, 1) := by decide +kernel
theorem dX6_init_59 : decode cX6_init 59 = .ok (.getfield 36, 3) := by decide +kernel
theorem dX6_init_62 : decode cX6_init 62 = .ok (.arraylength, 1) := by decide +kernel
theorem dX6_init_63 : decode cX6_init 63 = .ok (.if_icmp .ge 23, 3) := by decide +kernel
theorem dX6_init_66 : decode cX6_init 66 = .ok (.aload_n 0, 1) := by decide +kernel
theorem dX6_init_67 : decode cX6_init 67 = .ok (.getfield 36, 3) := by decide +kernel
theorem dX6_init_70 : decode cX6_init 70 = .ok (.iload_n 2, 1) := by decide +kernel
theorem dX6_init_71 : decode cX6_init 71 = .ok (.new 34, 3) := by decide +kernel
theorem dX6_init_74 : decode cX6_init 74 = .ok (.dup, 1) := by decide +kernel
theorem dX6_init_75 : decode cX6_init 75 = .ok (.iload_n 1, 1) := by decide +kernel
theorem dX6_init_76 : decode cX6_init 76 = .ok (.invokespecial 40, 3) := by decide +kernel
theorem dX6_init_79 : decode cX6_init 79 = .ok (.aastore, 1) := by decide +kernel
theorem dX6_init_80 : decode cX6_init 80 = .ok (.iinc 2 1, 3) := by decide +kernel
theorem dX6_init_83 : decode cX6_init 83 = .ok (.goto (-26), 3) := by decide +kernel
theorem dX6_init_86 : decode cX6_init 86 = .ok (.aload_n 0, 1) := by decide +kernel
theorem dX6_init_87 : decode cX6_init 87 = .ok (.new 15, 3) := by decide +kernel
theorem dX6_init_90 : decode cX6_init 90 = .ok (.dup, 1) := by decide +kernel
theorem dX6_init_91 : decode cX6_init 91 = .ok (.bipush 42, 2) := by decide +kernel
theorem dX6_init_93 : decode cX6_init 93 = .ok (.invokespecial 17, 3) := by decide +kernel
theorem dX6_init_96 : decode cX6_init 96 = .ok (.putfield 41, 3) := by decide +kernel
theorem dX6_init_99 : decode cX6_init 99 = .ok (.return_, 1) := by decide +kernel
theorem dX6_start_0 : decode cX6_start 0 = .ok (.aload_n 0, 1) := by decide +kernel
theorem dX6_start_1 : decode cX6_start 1 = .ok (.iconst 1, 1) := by decide +kernel
theorem dX6_start_2 : decode cX6_start 2 = .ok (.putfield 44, 3) := by decide +kernel
theorem dX6_start_5 : decode cX6_start 5 = .ok (.aload_n 0, 1) := by decide +kernel
theorem dX6_start_6 : decode cX6_start 6 = .ok (.iconst 0, 1) := by decide +kernel
theorem dX6_start_7 : decode cX6_start 7 = .ok (.putfield 48, 3) := by decide +kernel
theorem dX6_start_10 : decode cX6_start 10 = .ok (.aload_n 0, 1) := by decide +kernel
theorem dX6_start_11 : decode cX6_start 11 = .ok (.bipush (-5), 2) := by decide +kernel
theorem dX6_start_13 : decode cX6_start 13 = .ok (.putfield 51, 3) := by decide +kernel
theorem dX6_start_16 : decode cX6_start 16 = .ok (.aload_n 0, 1) := by decide +kernel
theorem dX6_start_17 : decode cX6_start 17 = .ok (.iconst 0, 1) := by decide +kernel
theorem dX6_start_18 : decode cX6_start 18 = .ok (.putfield 54, 3) := by decide +kernel
theorem dX6_start_21 : decode cX6_start 21 = .ok (.aload_n 0, 1) := by decide +kernel
theorem dX6_start_22 : decode cX6_start 22 = .ok (.iconst 0, 1) := by decide +kernel
theorem dX6_start_23 : decode cX6_start 23 = .ok (.putfield 57, 3) := by decide +kernel
theorem dX6_start_26 : decode cX6_start 26 = .ok (.aload_n 0, 1) := by decide +kernel
theorem dX6_start_27 : decode cX6_start 27 = .ok (.getfield 20, 3) := by decide +kernel
theorem dX6_start_30 : decode cX6_start 30 = .ok (.invokevirtual 60, 3) := by decide +kernel
theorem dX6_start_33 : decode cX6_start 33 = .ok (.aload_n 0, 1) := by decide +kernel
theorem dX6_start_34 : decode cX6_start 34 = .ok (.getfield 24, 3) := by decide +kernel
theorem dX6_start_37 : decode cX6_start 37 = .ok (.invokevirtual 60, 3) := by decide +kernel
theorem dX6_start_40 : decode cX6_start 40 = .ok (.return_, 1) := by decide +kernel
theorem dX6_thingCount_0 : decode cX6_thingCount 0 = .ok (.aload_n 0, 1) := by decide +kernel
theorem dX6_thingCount_1 : decode cX6_thingCount 1 = .ok (.getfield 57, 3) := by decide +kernel
theorem dX6_thingCount_4 : decode cX6_thingCount 4 = .ok (.ireturn, 1) := by decide +kernel
theorem dX6_thingAt_0 : decode cX6_thingAt 0 = .ok (.iload_n 1, 1) := by decide +kernel
theorem dX6_thingAt_1 : decode cX6_thingAt 1 = .ok (.ifCond .lt 29, 3) := by decide +kernel
theorem dX6_thingAt_4 : decode cX6_thingAt 4 = .ok (.iload_n 1, 1) := by decide +kernel
theorem dX6_thingAt_5 : decode cX6_thingAt 5 = .ok (.aload_n 0, 1) := by decide +kernel
theorem dX6_thingAt_6 : decode cX6_thingAt 6 = .ok (.getfield 57, 3) := by decide +kernel
theorem dX6_thingAt_9 : decode cX6_thingAt 9 = .ok (.if_icmp .ge 21, 3) := by decide +kernel
theorem dX6_thingAt_12 : decode cX6_thingAt 12 = .ok (.iload_n 1, 1) := by decide +kernel
theorem dX6_thingAt_13 : decode cX6_thingAt 13 = .ok (.aload_n 0, 1) := by decide +kernel
theorem dX6_thingAt_14 : decode cX6_thingAt 14 = .ok (.getfield 36, 3) := by decide +kernel
theorem dX6_thingAt_17 : decode cX6_thingAt 17 = .ok (.arraylength, 1) := by decide +kernel
theorem dX6_thingAt_18 : decode cX6_thingAt 18 = .ok (.if_icmp .ge 12, 3) := by decide +kernel
theorem dX6_thingAt_21 : decode cX6_thingAt 21 = .ok (.aload_n 0, 1) := by decide +kernel
theorem dX6_thingAt_22 : decode cX6_thingAt 22 = .ok (.getfield 36, 3) := by decide +kernel
theorem dX6_thingAt_25 : decode cX6_thingAt 25 = .ok (.iload_n 1, 1) := by decide +kernel
theorem dX6_thingAt_26 : decode cX6_thingAt 26 = .ok (.aaload, 1) := by decide +kernel
theorem dX6_thingAt_27 : decode cX6_thingAt 27 = .ok (.goto 4, 3) := by decide +kernel
theorem dX6_thingAt_30 : decode cX6_thingAt 30 = .ok (.aconst_null, 1) := by decide +kernel
theorem dX6_thingAt_31 : decode cX6_thingAt 31 = .ok (.areturn, 1) := by decide +kernel
theorem dX6_thingFor_0 : decode cX6_thingFor 0 = .ok (.iconst 0, 1) := by decide +kernel
theorem dX6_thingFor_1 : decode cX6_thingFor 1 = .ok (.istore_n 2, 1) := by decide +kernel
theorem dX6_thingFor_2 : decode cX6_thingFor 2 = .ok (.iload_n 2, 1) := by decide +kernel
theorem dX6_thingFor_3 : decode cX6_thingFor 3 = .ok (.aload_n 0, 1) := by decide +kernel
theorem dX6_thingFor_4 : decode cX6_thingFor 4 = .ok (.getfield 57, 3) := by decide +kernel
theorem dX6_thingFor_7 : decode cX6_thingFor 7 = .ok (.if_icmp .ge 47, 3) := by decide +kernel
theorem dX6_thingFor_10 : decode cX6_thingFor 10 = .ok (.iload_n 2, 1) := by decide +kernel
theorem dX6_thingFor_11 : decode cX6_thingFor 11 = .ok (.aload_n 0, 1) := by decide +kernel
theorem dX6_thingFor_12 : decode cX6_thingFor 12 = .ok (.getfield 36, 3) := by decide +kernel
theorem dX6_thingFor_15 : decode cX6_thingFor 15 = .ok (.arraylength, 1) := by decide +kernel
theorem dX6_thingFor_16 : decode cX6_thingFor 16 = .ok (.if_icmp .ge 38, 3) := by decide +kernel
theorem dX6_thingFor_19 : decode cX6_thingFor 19 = .ok (.aload_n 0, 1) := by decide +kernel
theorem dX6_thingFor_20 : decode cX6_thingFor 20 = .ok (.getfield 36, 3) := by decide +kernel
theorem dX6_thingFor_23 : decode cX6_thingFor 23 = .ok (.iload_n 2, 1) := by decide +kernel
theorem dX6_thingFor_24 : decode cX6_thingFor 24 = .ok (.aaload, 1) := by decide +kernel
theorem dX6_thingFor_25 : decode cX6_thingFor 25 = .ok (.ifnull 23, 3) := by decide +kernel
theorem dX6_thingFor_28 : decode cX6_thingFor 28 = .ok (.aload_n 0, 1) := by decide +kernel
theorem dX6_thingFor_29 : decode cX6_thingFor 29 = .ok (.getfield 36, 3) := by decide +kernel
theorem dX6_thingFor_32 : decode cX6_thingFor 32 = .ok (.iload_n 2, 1) := by decide +kernel
theorem dX6_thingFor_33 : decode cX6_thingFor 33 = .ok (.aaload, 1) := by decide +kernel
theorem dX6_thingFor_34 : decode cX6_thingFor 34 = .ok (.getfield 63, 3) := by decide +kernel
theorem dX6_thingFor_37 : decode cX6_thingFor 37 = .ok (.iload_n 1, 1) := by decide +kernel
theorem dX6_thingFor_38 : decode cX6_thingFor 38 = .ok (.if_icmp .ne 10, 3) := by decide +kernel
theorem dX6_thingFor_41 : decode cX6_thingFor 41 = .ok (.aload_n 0, 1) := by decide +kernel
theorem dX6_thingFor_42 : decode cX6_thingFor 42 = .ok (.getfield 36, 3) := by decide +kernel
theorem dX6_thingFor_45 : decode cX6_thingFor 45 = .ok (.iload_n 2, 1) := by decide +kernel
theorem dX6_thingFor_46 : decode cX6_thingFor 46 = .ok (.aaload, 1) := by decide +kernel
theorem dX6_thingFor_47 : decode cX6_thingFor 47 = .ok (.areturn, 1) := by decide +kernel
theorem dX6_thingFor_48 : decode cX6_thingFor 48 = .ok (.iinc 2 1, 3) := by decide +kernel
theorem dX6_thingFor_51 : decode cX6_thingFor 51 = .ok (.goto (-49), 3) := by decide +kernel
theorem dX6_thingFor_54 : decode cX6_thingFor 54 = .ok (.aconst_null, 1) := by decide +kernel
theorem dX6_thingFor_55 : decode cX6_thingFor 55 = .ok (.areturn, 1) := by decide +kernel
theorem dX6_sought_0 : decode cX6_sought 0 = .ok (.aload_n 0, 1) := by decide +kernel
theorem dX6_sought_1 : decode cX6_sought 1 = .ok (.getfield 41, 3) := by decide +kernel
theorem dX6_sought_4 : decode cX6_sought 4 = .ok (.invokevirtual 60, 3) := by decide +kernel
theorem dX6_sought_7 : decode cX6_sought 7 = .ok (.iconst 0, 1) := by decide +kernel
theorem dX6_sought_8 : decode cX6_sought 8 = .ok (.istore_n 1, 1) := by decide +kernel
theorem dX6_sought_9 : decode cX6_sought 9 = .ok (.iload_n 1, 1) := by decide +kernel
theorem dX6_sought_10 : decode cX6_sought 10 = .ok (.aload_n 0, 1) := by decide +kernel
theorem dX6_sought_11 : decode cX6_sought 11 = .ok (.getfield 24, 3) := by decide +kernel
theorem dX6_sought_14 : decode cX6_sought 14 = .ok (.invokevirtual 66, 3) := by decide +kernel
theorem dX6_sought_17 : decode cX6_sought 17 = .ok (.if_icmp .ge 25, 3) := by decide +kernel
theorem dX6_sought_20 : decode cX6_sought 20 = .ok (.aload_n 0, 1) := by decide +kernel
theorem dX6_sought_21 : decode cX6_sought 21 = .ok (.getfield 41, 3) := by decide +kernel
theorem dX6_sought_24 : decode cX6_sought 24 = .ok (.aload_n 0, 1) := by decide +kernel
theorem dX6_sought_25 : decode cX6_sought 25 = .ok (.getfield 24, 3) := by decide +kernel
theorem dX6_sought_28 : decode cX6_sought 28 = .ok (.iload_n 1, 1) := by decide +kernel
theorem dX6_sought_29 : decode cX6_sought 29 = .ok (.invokevirtual 70, 3) := by decide +kernel
theorem dX6_sought_32 : decode cX6_sought 32 = .ok (.invokevirtual 74, 3) := by decide +kernel
theorem dX6_sought_35 : decode cX6_sought 35 = .ok (.pop, 1) := by decide +kernel
theorem dX6_sought_36 : decode cX6_sought 36 = .ok (.iinc 1 1, 3) := by decide +kernel
theorem dX6_sought_39 : decode cX6_sought 39 = .ok (.goto (-30), 3) := by decide +kernel
theorem dX6_sought_42 : decode cX6_sought 42 = .ok (.iconst 0, 1) := by decide +kernel
theorem dX6_sought_43 : decode cX6_sought 43 = .ok (.istore_n 1, 1) := by decide +kernel
theorem dX6_sought_44 : decode cX6_sought 44 = .ok (.iload_n 1, 1) := by decide +kernel
theorem dX6_sought_45 : decode cX6_sought 45 = .ok (.aload_n 0, 1) := by decide +kernel
theorem dX6_sought_46 : decode cX6_sought 46 = .ok (.getfield 57, 3) := by decide +kernel
theorem dX6_sought_49 : decode cX6_sought 49 = .ok (.if_icmp .ge 58, 3) := by decide +kernel
theorem dX6_sought_52 : decode cX6_sought 52 = .ok (.aload_n 0, 1) := by decide +kernel
theorem dX6_sought_53 : decode cX6_sought 53 = .ok (.iload_n 1, 1) := by decide +kernel
theorem dX6_sought_54 : decode cX6_sought 54 = .ok (.invokevirtual 78, 3) := by decide +kernel
theorem dX6_sought_57 : decode cX6_sought 57 = .ok (.astore_n 2, 1) := by decide +kernel
theorem dX6_sought_58 : decode cX6_sought 58 = .ok (.iconst 0, 1) := by decide +kernel
theorem dX6_sought_59 : decode cX6_sought 59 = .ok (.istore_n 3, 1) := by decide +kernel
theorem dX6_sought_60 : decode cX6_sought 60 = .ok (.aload_n 2, 1) := by decide +kernel
theorem dX6_sought_61 : decode cX6_sought 61 = .ok (.ifnull 40, 3) := by decide +kernel
theorem dX6_sought_64 : decode cX6_sought 64 = .ok (.iload_n 3, 1) := by decide +kernel
theorem dX6_sought_65 : decode cX6_sought 65 = .ok (.aload_n 2, 1) := by decide +kernel
theorem dX6_sought_66 : decode cX6_sought 66 = .ok (.getfield 82, 3) := by decide +kernel
theorem dX6_sought_69 : decode cX6_sought 69 = .ok (.invokevirtual 66, 3) := by decide +kernel
theorem dX6_sought_72 : decode cX6_sought 72 = .ok (.if_icmp .ge 29, 3) := by decide +kernel
theorem dX6_sought_75 : decode cX6_sought 75 = .ok (.aload_n 0, 1) := by decide +kernel
theorem dX6_sought_76 : decode cX6_sought 76 = .ok (.getfield 41, 3) := by decide +kernel
theorem dX6_sought_79 : decode cX6_sought 79 = .ok (.iconst 1, 1) := by decide +kernel
theorem dX6_sought_80 : decode cX6_sought 80 = .ok (.aload_n 2, 1) := by decide +kernel
theorem dX6_sought_81 : decode cX6_sought 81 = .ok (.getfield 82, 3) := by decide +kernel
theorem dX6_sought_84 : decode cX6_sought 84 = .ok (.iload_n 3, 1) := by decide +kernel
theorem dX6_sought_85 : decode cX6_sought 85 = .ok (.invokevirtual 70, 3) := by decide +kernel
theorem dX6_sought_88 : decode cX6_sought 88 = .ok (.invokestatic 85, 3) := by decide +kernel
theorem dX6_sought_91 : decode cX6_sought 91 = .ok (.invokevirtual 74, 3) := by decide +kernel
theorem dX6_sought_94 : decode cX6_sought 94 = .ok (.pop, 1) := by decide +kernel
theorem dX6_sought_95 : decode cX6_sought 95 = .ok (.iinc 3 1, 3) := by decide +kernel
theorem dX6_sought_98 : decode cX6_sought 98 = .ok (.goto (-38), 3) := by decide +kernel
theorem dX6_sought_101 : decode cX6_sought 101 = .ok (.iinc 1 1, 3) := by decide +kernel
theorem dX6_sought_104 : decode cX6_sought 104 = .ok (.goto (-60), 3) := by decide +kernel
theorem dX6_sought_107 : decode cX6_sought 107 = .ok (.aload_n 0, 1) := by decide +kernel
theorem dX6_sought_108 : decode cX6_sought 108 = .ok (.getfield 41, 3) := by decide +kernel
theorem dX6_sought_111 : decode cX6_sought 111 = .ok (.areturn, 1) := by decide +kernel
theorem dX6_addThing_0 : decode cX6_addThing 0 = .ok (.aload_n 0, 1) := by decide +kernel
theorem dX6_addThing_1 : decode cX6_addThing 1 = .ok (.getfield 57, 3) := by decide +kernel
theorem dX6_addThing_4 : decode cX6_addThing 4 = .ok (.ifCond .lt 27, 3) := by decide +kernel
theorem dX6_addThing_7 : decode cX6_addThing 7 = .ok (.aload_n 0, 1) := by decide +kernel
theorem dX6_addThing_8 : decode cX6_addThing 8 = .ok (.getfield 57, 3) := by decide +kernel
theorem dX6_addThing_11 : decode cX6_addThing 11 = .ok (.aload_n 0, 1) := by decide +kernel
theorem dX6_addThing_12 : decode cX6_addThing 12 = .ok (.getfield 36, 3) := by decide +kernel
theorem dX6_addThing_15 : decode cX6_addThing 15 = .ok (.arraylength, 1) := by decide +kernel
theorem dX6_addThing_16 : decode cX6_addThing 16 = .ok (.if_icmp .ge 15, 3) := by decide +kernel
theorem dX6_addThing_19 : decode cX6_addThing 19 = .ok (.aload_n 0, 1) := by decide +kernel
theorem dX6_addThing_20 : decode cX6_addThing 20 = .ok (.getfield 36, 3) := by decide +kernel
theorem dX6_addThing_23 : decode cX6_addThing 23 = .ok (.aload_n 0, 1) := by decide +kernel
theorem dX6_addThing_24 : decode cX6_addThing 24 = .ok (.getfield 57, 3) := by decide +kernel
theorem dX6_addThing_27 : decode cX6_addThing 27 = .ok (.aaload, 1) := by decide +kernel
theorem dX6_addThing_28 : decode cX6_addThing 28 = .ok (.ifnonnull 5, 3) := by decide +kernel
theorem dX6_addThing_31 : decode cX6_addThing 31 = .ok (.aconst_null, 1) := by decide +kernel
theorem dX6_addThing_32 : decode cX6_addThing 32 = .ok (.areturn, 1) := by decide +kernel
theorem dX6_addThing_33 : decode cX6_addThing 33 = .ok (.aload_n 0, 1) := by decide +kernel
theorem dX6_addThing_34 : decode cX6_addThing 34 = .ok (.getfield 36, 3) := by decide +kernel
theorem dX6_addThing_37 : decode cX6_addThing 37 = .ok (.aload_n 0, 1) := by decide +kernel
theorem dX6_addThing_38 : decode cX6_addThing 38 = .ok (.getfield 57, 3) := by decide +kernel
theorem dX6_addThing_41 : decode cX6_addThing 41 = .ok (.aaload, 1) := by decide +kernel
theorem dX6_addThing_42 : decode cX6_addThing 42 = .ok (.astore_n 2, 1) := by decide +kernel
theorem dX6_addThing_43 : decode cX6_addThing 43 = .ok (.aload_n 0, 1) := by decide +kernel
theorem dX6_addThing_44 : decode cX6_addThing 44 = .ok (.getfield 57, 3) := by decide +kernel
theorem dX6_addThing_47 : decode cX6_addThing 47 = .ok (.istore_n 3, 1) := by decide +kernel
theorem dX6_addThing_48 : decode cX6_addThing 48 = .ok (.iload_n 3, 1) := by decide +kernel
theorem dX6_addThing_49 : decode cX6_addThing 49 = .ok (.ifCond .le 47, 3) := by decide +kernel
theorem dX6_addThing_52 : decode cX6_addThing 52 = .ok (.iload_n 3, 1) := by decide +kernel
theorem dX6_addThing_53 : decode cX6_addThing 53 = .ok (.aload_n 0, 1) := by decide +kernel
theorem dX6_addThing_54 : decode cX6_addThing 54 = .ok (.getfield 36, 3) := by decide +kernel
theorem dX6_addThing_57 : decode cX6_addThing 57 = .ok (.arraylength, 1) := by decide +kernel
theorem dX6_addThing_58 : decode cX6_addThing 58 = .ok (.if_icmp .ge 38, 3) := by decide +kernel
theorem dX6_addThing_61 : decode cX6_addThing 61 = .ok (.aload_n 0, 1) := by decide +kernel
theorem dX6_addThing_62 : decode cX6_addThing 62 = .ok (.getfield 36, 3) := by decide +kernel
theorem dX6_addThing_65 : decode cX6_addThing 65 = .ok (.iload_n 3, 1) := by decide +kernel
theorem dX6_addThing_66 : decode cX6_addThing 66 = .ok (.iconst 1, 1) := by decide +kernel
theorem dX6_addThing_67 : decode cX6_addThing 67 = .ok (.isub, 1) := by decide +kernel
theorem dX6_addThing_68 : decode cX6_addThing 68 = .ok (.aaload, 1) := by decide +kernel
theorem dX6_addThing_69 : decode cX6_addThing 69 = .ok (.iload_n 1, 1) := by decide +kernel
theorem dX6_addThing_70 : decode cX6_addThing 70 = .ok (.invokestatic 89, 3) := by decide +kernel
theorem dX6_addThing_73 : decode cX6_addThing 73 = .ok (.ifCond .eq 23, 3) := by decide +kernel
theorem dX6_addThing_76 : decode cX6_addThing 76 = .ok (.aload_n 0, 1) := by decide +kernel
theorem dX6_addThing_77 : decode cX6_addThing 77 = .ok (.getfield 36, 3) := by decide +kernel
theorem dX6_addThing_80 : decode cX6_addThing 80 = .ok (.iload_n 3, 1) := by decide +kernel
theorem dX6_addThing_81 : decode cX6_addThing 81 = .ok (.aload_n 0, 1) := by decide +kernel
theorem dX6_addThing_82 : decode cX6_addThing 82 = .ok (.getfield 36, 3) := by decide +kernel
theorem dX6_addThing_85 : decode cX6_addThing 85 = .ok (.iload_n 3, 1) := by decide +kernel
theorem dX6_addThing_86 : decode cX6_addThing 86 = .ok (.iconst 1, 1) := by decide +kernel
theorem dX6_addThing_87 : decode cX6_addThing 87 = .ok (.isub, 1) := by decide +kernel
theorem dX6_addThing_88 : decode cX6_addThing 88 = .ok (.aaload, 1) := by decide +kernel
theorem dX6_addThing_89 : decode cX6_addThing 89 = .ok (.aastore, 1) := by decide +kernel
theorem dX6_addThing_90 : decode cX6_addThing 90 = .ok (.iinc 3 (-1), 3) := by decide +kernel
theorem dX6_addThing_93 : decode cX6_addThing 93 = .ok (.goto (-45), 3) := by decide +kernel
theorem dX6_addThing_96 : decode cX6_addThing 96 = .ok (.aload_n 0, 1) := by decide +kernel
theorem dX6_addThing_97 : decode cX6_addThing 97 = .ok (.getfield 36, 3) := by decide +kernel
theorem dX6_addThing_100 : decode cX6_addThing 100 = .ok (.iload_n 3, 1) := by decide +kernel
theorem dX6_addThing_101 : decode cX6_addThing 101 = .ok (.aload_n 2, 1) := by decide +kernel
theorem dX6_addThing_102 : decode cX6_addThing 102 = .ok (.aastore, 1) := by decide +kernel
theorem dX6_addThing_103 : decode cX6_addThing 103 = .ok (.aload_n 0, 1) := by decide +kernel
theorem dX6_addThing_104 : decode cX6_addThing 104 = .ok (.dup, 1) := by decide +kernel
theorem dX6_addThing_105 : decode cX6_addThing 105 = .ok (.getfield 57, 3) := by decide +kernel
theorem dX6_addThing_108 : decode cX6_addThing 108 = .ok (.iconst 1, 1) := by decide +kernel
theorem dX6_addThing_109 : decode cX6_addThing 109 = .ok (.iadd, 1) := by decide +kernel
theorem dX6_addThing_110 : decode cX6_addThing 110 = .ok (.putfield 57, 3) := by decide +kernel
theorem dX6_addThing_113 : decode cX6_addThing 113 = .ok (.aload_n 2, 1) := by decide +kernel
theorem dX6_addThing_114 : decode cX6_addThing 114 = .ok (.iload_n 1, 1) := by decide +kernel
theorem dX6_addThing_115 : decode cX6_addThing 115 = .ok (.putfield 63, 3) := by decide +kernel
theorem dX6_addThing_118 : decode cX6_addThing 118 = .ok (.aload_n 2, 1) := by decide +kernel
theorem dX6_addThing_119 : decode cX6_addThing 119 = .ok (.getfield 82, 3) := by decide +kernel
theorem dX6_addThing_122 : decode cX6_addThing 122 = .ok (.invokevirtual 60, 3) := by decide +kernel
theorem dX6_addThing_125 : decode cX6_addThing 125 = .ok (.aload_n 2, 1) := by decide +kernel
theorem dX6_addThing_126 : decode cX6_addThing 126 = .ok (.areturn, 1) := by decide +kernel
theorem dX6_isBehind_0 : decode cX6_isBehind 0 = .ok (.aload_n 0, 1) := by decide +kernel
theorem dX6_isBehind_1 : decode cX6_isBehind 1 = .ok (.ifnull 15, 3) := by decide +kernel
theorem dX6_isBehind_4 : decode cX6_isBehind 4 = .ok (.aload_n 0, 1) := by decide +kernel
theorem dX6_isBehind_5 : decode cX6_isBehind 5 = .ok (.getfield 63, 3) := by decide +kernel
theorem dX6_isBehind_8 : decode cX6_isBehind 8 = .ok (.iload_n 1, 1) := by decide +kernel
theorem dX6_isBehind_9 : decode cX6_isBehind 9 = .ok (.if_icmp .le 7, 3) := by decide +kernel
theorem dX6_isBehind_12 : decode cX6_isBehind 12 = .ok (.iconst 1, 1) := by decide +kernel
theorem dX6_isBehind_13 : decode cX6_isBehind 13 = .ok (.goto 4, 3) := by decide +kernel
theorem dX6_isBehind_16 : decode cX6_isBehind 16 = .ok (.iconst 0, 1) := by decide +kernel
theorem dX6_isBehind_17 : decode cX6_isBehind 17 = .ok (.ireturn, 1) := by decide +kernel
theorem dX6_dropThing_0 : decode cX6_dropThing 0 = .ok (.aload_n 0, 1) := by decide +kernel
theorem dX6_dropThing_1 : decode cX6_dropThing 1 = .ok (.iload_n 1, 1) := by decide +kernel
theorem dX6_dropThing_2 : decode cX6_dropThing 2 = .ok (.invokevirtual 93, 3) := by decide +kernel
theorem dX6_dropThing_5 : decode cX6_dropThing 5 = .ok (.astore_n 2, 1) := by decide +kernel
theorem dX6_dropThing_6 : decode cX6_dropThing 6 = .ok (.aload_n 2, 1) := by decide +kernel
theorem dX6_dropThing_7 : decode cX6_dropThing 7 = .ok (.ifnonnull 5, 3) := by decide +kernel
theorem dX6_dropThing_10 : decode cX6_dropThing 10 = .ok (.iconst 0, 1) := by decide +kernel
theorem dX6_dropThing_11 : decode cX6_dropThing 11 = .ok (.ireturn, 1) := by decide +kernel
theorem dX6_dropThing_12 : decode cX6_dropThing 12 = .ok (.iconst 0, 1) := by decide +kernel
theorem dX6_dropThing_13 : decode cX6_dropThing 13 = .ok (.istore_n 3, 1) := by decide +kernel
theorem dX6_dropThing_14 : decode cX6_dropThing 14 = .ok (.iconst 0, 1) := by decide +kernel
theorem dX6_dropThing_15 : decode cX6_dropThing 15 = .ok (.istore 4, 2) := by decide +kernel
theorem dX6_dropThing_17 : decode cX6_dropThing 17 = .ok (.iload 4, 2) := by decide +kernel
theorem dX6_dropThing_19 : decode cX6_dropThing 19 = .ok (.aload_n 0, 1) := by decide +kernel
theorem dX6_dropThing_20 : decode cX6_dropThing 20 = .ok (.getfield 57, 3) := by decide +kernel
theorem dX6_dropThing_23 : decode cX6_dropThing 23 = .ok (.if_icmp .ge 55, 3) := by decide +kernel
theorem dX6_dropThing_26 : decode cX6_dropThing 26 = .ok (.iload 4, 2) := by decide +kernel
theorem dX6_dropThing_28 : decode cX6_dropThing 28 = .ok (.aload_n 0, 1) := by decide +kernel
theorem dX6_dropThing_29 : decode cX6_dropThing 29 = .ok (.getfield 36, 3) := by decide +kernel
theorem dX6_dropThing_32 : decode cX6_dropThing 32 = .ok (.arraylength, 1) := by decide +kernel
theorem dX6_dropThing_33 : decode cX6_dropThing 33 = .ok (.if_icmp .ge 45, 3) := by decide +kernel
theorem dX6_dropThing_36 : decode cX6_dropThing 36 = .ok (.aload_n 0, 1) := by decide +kernel
theorem dX6_dropThing_37 : decode cX6_dropThing 37 = .ok (.getfield 36, 3) := by decide +kernel
theorem dX6_dropThing_40 : decode cX6_dropThing 40 = .ok (.iload 4, 2) := by decide +kernel
theorem dX6_dropThing_42 : decode cX6_dropThing 42 = .ok (.aaload, 1) := by decide +kernel
theorem dX6_dropThing_43 : decode cX6_dropThing 43 = .ok (.aload_n 2, 1) := by decide +kernel
theorem dX6_dropThing_44 : decode cX6_dropThing 44 = .ok (.if_acmp .eq 28, 3) := by decide +kernel
theorem dX6_dropThing_47 : decode cX6_dropThing 47 = .ok (.iload_n 3, 1) := by decide +kernel
theorem dX6_dropThing_48 : decode cX6_dropThing 48 = .ok (.aload_n 0, 1) := by decide +kernel
theorem dX6_dropThing_49 : decode cX6_dropThing 49 = .ok (.getfield 36, 3) := by decide +kernel
theorem dX6_dropThing_52 : decode cX6_dropThing 52 = .ok (.arraylength, 1) := by decide +kernel
theorem dX6_dropThing_53 : decode cX6_dropThing 53 = .ok (.if_icmp .ge 19, 3) := by decide +kernel
theorem dX6_dropThing_56 : decode cX6_dropThing 56 = .ok (.aload_n 0, 1) := by decide +kernel
theorem dX6_dropThing_57 : decode cX6_dropThing 57 = .ok (.getfield 36, 3) := by decide +kernel
theorem dX6_dropThing_60 : decode cX6_dropThing 60 = .ok (.iload_n 3, 1) := by decide +kernel
theorem dX6_dropThing_61 : decode cX6_dropThing 61 = .ok (.aload_n 0, 1) := by decide +kernel
theorem dX6_dropThing_62 : decode cX6_dropThing 62 = .ok (.getfield 36, 3) := by decide +kernel
theorem dX6_dropThing_65 : decode cX6_dropThing 65 = .ok (.iload 4, 2) := by decide +kernel
theorem dX6_dropThing_67 : decode cX6_dropThing 67 = .ok (.aaload, 1) := by decide +kernel
theorem dX6_dropThing_68 : decode cX6_dropThing 68 = .ok (.aastore, 1) := by decide +kernel
theorem dX6_dropThing_69 : decode cX6_dropThing 69 = .ok (.iinc 3 1, 3) := by decide +kernel
theorem dX6_dropThing_72 : decode cX6_dropThing 72 = .ok (.iinc 4 1, 3) := by decide +kernel
theorem dX6_dropThing_75 : decode cX6_dropThing 75 = .ok (.goto (-58), 3) := by decide +kernel
theorem dX6_dropThing_78 : decode cX6_dropThing 78 = .ok (.iload_n 3, 1) := by decide +kernel
theorem dX6_dropThing_79 : decode cX6_dropThing 79 = .ok (.aload_n 0, 1) := by decide +kernel
theorem dX6_dropThing_80 : decode cX6_dropThing 80 = .ok (.getfield 36, 3) := by decide +kernel
theorem dX6_dropThing_83 : decode cX6_dropThing 83 = .ok (.arraylength, 1) := by decide +kernel
theorem dX6_dropThing_84 : decode cX6_dropThing 84 = .ok (.if_icmp .ge 10, 3) := by decide +kernel
theorem dX6_dropThing_87 : decode cX6_dropThing 87 = .ok (.aload_n 0, 1) := by decide +kernel
theorem dX6_dropThing_88 : decode cX6_dropThing 88 = .ok (.getfield 36, 3) := by decide +kernel
theorem dX6_dropThing_91 : decode cX6_dropThing 91 = .ok (.iload_n 3, 1) := by decide +kernel
theorem dX6_dropThing_92 : decode cX6_dropThing 92 = .ok (.aload_n 2, 1) := by decide +kernel
theorem dX6_dropThing_93 : decode cX6_dropThing 93 = .ok (.aastore, 1) := by decide +kernel
theorem dX6_dropThing_94 : decode cX6_dropThing 94 = .ok (.aload_n 0, 1) := by decide +kernel
theorem dX6_dropThing_95 : decode cX6_dropThing 95 = .ok (.iload_n 3, 1) := by decide +kernel
theorem dX6_dropThing_96 : decode cX6_dropThing 96 = .ok (.putfield 57, 3) := by decide +kernel
theorem dX6_dropThing_99 : decode cX6_dropThing 99 = .ok (.iconst 1, 1) := by decide +kernel
theorem dX6_dropThing_100 : decode cX6_dropThing 100 = .ok (.ireturn, 1) := by decide +kernel
theorem dX7_init_0 : decode cX7_init 0 = .ok (.aload_n 0, 1) := by decide +kernel
theorem dX7_init_1 : decode cX7_init 1 = .ok (.invokespecial 3, 3) := by decide +kernel
theorem dX7_init_4 : decode cX7_init 4 = .ok (.aload_n 0, 1) := by decide +kernel
theorem dX7_init_5 : decode cX7_init 5 = .ok (.bipush 16, 2) := by decide +kernel
theorem dX7_init_7 : decode cX7_init 7 = .ok (.anewarray 9, 3) := by decide +kernel
theorem dX7_init_10 : decode cX7_init 10 = .ok (.putfield 11, 3) := by decide +kernel
theorem dX7_init_13 : decode cX7_init 13 = .ok (.aload_n 0, 1) := by decide +kernel
theorem dX7_init_14 : decode cX7_init 14 = .ok (.iconst 0, 1) := by decide +kernel
theorem dX7_init_15 : decode cX7_init 15 = .ok (.putfield 17, 3) := by decide +kernel
theorem dX7_init_18 : decode cX7_init 18 = .ok (.return_, 1) := by decide +kernel
theorem dX7_at_0 : decode cX7_at 0 = .ok (.iload_n 1, 1) := by decide +kernel
theorem dX7_at_1 : decode cX7_at 1 = .ok (.ifCond .lt 20, 3) := by decide +kernel
theorem dX7_at_4 : decode cX7_at 4 = .ok (.iload_n 1, 1) := by decide +kernel
theorem dX7_at_5 : decode cX7_at 5 = .ok (.aload_n 0, 1) := by decide +kernel
theorem dX7_at_6 : decode cX7_at 6 = .ok (.getfield 17, 3) := by decide +kernel
theorem dX7_at_9 : decode cX7_at 9 = .ok (.if_icmp .ge 12, 3) := by decide +kernel
theorem dX7_at_12 : decode cX7_at 12 = .ok (.iload_n 1, 1) := by decide +kernel
theorem dX7_at_13 : decode cX7_at 13 = .ok (.aload_n 0, 1) := by decide +kernel
theorem dX7_at_14 : decode cX7_at 14 = .ok (.getfield 11, 3) := by decide +kernel
theorem dX7_at_17 : decode cX7_at 17 = .ok (.arraylength, 1) := by decide +kernel
theorem dX7_at_18 : decode cX7_at 18 = .ok (.if_icmp .lt 5, 3) := by decide +kernel
theorem dX7_at_21 : decode cX7_at 21 = .ok (.aconst_null, 1) := by decide +kernel
theorem dX7_at_22 : decode cX7_at 22 = .ok (.areturn, 1) := by decide +kernel
theorem dX7_at_23 : decode cX7_at 23 = .ok (.aload_n 0, 1) := by decide +kernel
theorem dX7_at_24 : decode cX7_at 24 = .ok (.getfield 11, 3) := by decide +kernel
theorem dX7_at_27 : decode cX7_at 27 = .ok (.iload_n 1, 1) := by decide +kernel
theorem dX7_at_28 : decode cX7_at 28 = .ok (.aaload, 1) := by decide +kernel
theorem dX7_at_29 : decode cX7_at 29 = .ok (.astore_n 2, 1) := by decide +kernel
theorem dX7_at_30 : decode cX7_at 30 = .ok (.aload_n 2, 1) := by decide +kernel
theorem dX7_at_31 : decode cX7_at 31 = .ok (.ifnull 14, 3) := by decide +kernel
theorem dX7_at_34 : decode cX7_at 34 = .ok (.aload_n 2, 1) := by decide +kernel
theorem dX7_at_35 : decode cX7_at 35 = .ok (.getfield 21, 3) := by decide +kernel
theorem dX7_at_38 : decode cX7_at 38 = .ok (.ifCond .eq 7, 3) := by decide +kernel
theorem dX7_at_41 : decode cX7_at 41 = .ok (.aload_n 2, 1) := by decide +kernel
theorem dX7_at_42 : decode cX7_at 42 = .ok (.goto 4, 3) := by decide +kernel
theorem dX7_at_45 : decode cX7_at 45 = .ok (.aconst_null, 1) := by decide +kernel
theorem dX7_at_46 : decode cX7_at 46 = .ok (.areturn, 1) := by decide +kernel
theorem dX7_addOne_0 : decode cX7_addOne 0 = .ok (.aload_n 0, 1) := by decide +kernel
theorem dX7_addOne_1 : decode cX7_addOne 1 = .ok (.getfield 17, 3) := by decide +kernel
theorem dX7_addOne_4 : decode cX7_addOne 4 = .ok (.ifCond .lt 15, 3) := by decide +kernel
theorem dX7_addOne_7 : decode cX7_addOne 7 = .ok (.aload_n 0, 1) := by decide +kernel
theorem dX7_addOne_8 : decode cX7_addOne 8 = .ok (.getfield 17, 3) := by decide +kernel
theorem dX7_addOne_11 : decode cX7_addOne 11 = .ok (.aload_n 0, 1) := by decide +kernel
theorem dX7_addOne_12 : decode cX7_addOne 12 = .ok (.getfield 11, 3) := by decide +kernel
theorem dX7_addOne_15 : decode cX7_addOne 15 = .ok (.arraylength, 1) := by decide +kernel
theorem dX7_addOne_16 : decode cX7_addOne 16 = .ok (.if_icmp .lt 5, 3) := by decide +kernel
theorem dX7_addOne_19 : decode cX7_addOne 19 = .ok (.aconst_null, 1) := by decide +kernel
theorem dX7_addOne_20 : decode cX7_addOne 20 = .ok (.areturn, 1) := by decide +kernel
theorem dX7_addOne_21 : decode cX7_addOne 21 = .ok (.aload_n 0, 1) := by decide +kernel
theorem dX7_addOne_22 : decode cX7_addOne 22 = .ok (.getfield 11, 3) := by decide +kernel
theorem dX7_addOne_25 : decode cX7_addOne 25 = .ok (.aload_n 0, 1) := by decide +kernel
theorem dX7_addOne_26 : decode cX7_addOne 26 = .ok (.getfield 17, 3) := by decide +kernel
theorem dX7_addOne_29 : decode cX7_addOne 29 = .ok (.aaload, 1) := by decide +kernel
theorem dX7_addOne_30 : decode cX7_addOne 30 = .ok (.astore_n 1, 1) := by decide +kernel
theorem dX7_addOne_31 : decode cX7_addOne 31 = .ok (.aload_n 1, 1) := by decide +kernel
theorem dX7_addOne_32 : decode cX7_addOne 32 = .ok (.ifnonnull 25, 3) := by decide +kernel
theorem dX7_addOne_35 : decode cX7_addOne 35 = .ok (.new 9, 3) := by decide +kernel
theorem dX7_addOne_38 : decode cX7_addOne 38 = .ok (.dup, 1) := by decide +kernel
theorem dX7_addOne_39 : decode cX7_addOne 39 = .ok (.aload_n 0, 1) := by decide +kernel
theorem dX7_addOne_40 : decode cX7_addOne 40 = .ok (.getfield 17, 3) := by decide +kernel
theorem dX7_addOne_43 : decode cX7_addOne 43 = .ok (.invokespecial 25, 3) := by decide +kernel
theorem dX7_addOne_46 : decode cX7_addOne 46 = .ok (.astore_n 1, 1) := by decide +kernel
theorem dX7_addOne_47 : decode cX7_addOne 47 = .ok (.aload_n 0, 1) := by decide +kernel
theorem dX7_addOne_48 : decode cX7_addOne 48 = .ok (.getfield 11, 3) := by decide +kernel
theorem dX7_addOne_51 : decode cX7_addOne 51 = .ok (.aload_n 0, 1) := by decide +kernel
theorem dX7_addOne_52 : decode cX7_addOne 52 = .ok (.getfield 17, 3) := by decide +kernel
theorem dX7_addOne_55 : decode cX7_addOne 55 = .ok (.aload_n 1, 1) := by decide +kernel
theorem dX7_addOne_56 : decode cX7_addOne 56 = .ok (.aastore, 1) := by decide +kernel
theorem dX7_addOne_57 : decode cX7_addOne 57 = .ok (.aload_n 1, 1) := by decide +kernel
theorem dX7_addOne_58 : decode cX7_addOne 58 = .ok (.invokevirtual 28, 3) := by decide +kernel
theorem dX7_addOne_61 : decode cX7_addOne 61 = .ok (.aload_n 0, 1) := by decide +kernel
theorem dX7_addOne_62 : decode cX7_addOne 62 = .ok (.dup, 1) := by decide +kernel
theorem dX7_addOne_63 : decode cX7_addOne 63 = .ok (.getfield 17, 3) := by decide +kernel
theorem dX7_addOne_66 : decode cX7_addOne 66 = .ok (.iconst 1, 1) := by decide +kernel
theorem dX7_addOne_67 : decode cX7_addOne 67 = .ok (.iadd, 1) := by decide +kernel
theorem dX7_addOne_68 : decode cX7_addOne 68 = .ok (.putfield 17, 3) := by decide +kernel
theorem dX7_addOne_71 : decode cX7_addOne 71 = .ok (.aload_n 1, 1) := by decide +kernel
theorem dX7_addOne_72 : decode cX7_addOne 72 = .ok (.areturn, 1) := by decide +kernel
theorem dX7_dropOne_0 : decode cX7_dropOne 0 = .ok (.aload_n 0, 1) := by decide +kernel
theorem dX7_dropOne_1 : decode cX7_dropOne 1 = .ok (.iload_n 1, 1) := by decide +kernel
theorem dX7_dropOne_2 : decode cX7_dropOne 2 = .ok (.invokevirtual 31, 3) := by decide +kernel
theorem dX7_dropOne_5 : decode cX7_dropOne 5 = .ok (.astore_n 2, 1) := by decide +kernel
theorem dX7_dropOne_6 : decode cX7_dropOne 6 = .ok (.aload_n 2, 1) := by decide +kernel
theorem dX7_dropOne_7 : decode cX7_dropOne 7 = .ok (.ifnonnull 4, 3) := by decide +kernel
theorem dX7_dropOne_10 : decode cX7_dropOne 10 = .ok (.return_, 1) := by decide +kernel
theorem dX7_dropOne_11 : decode cX7_dropOne 11 = .ok (.aload_n 2, 1) := by decide +kernel
theorem dX7_dropOne_12 : decode cX7_dropOne 12 = .ok (.iconst 0, 1) := by decide +kernel
theorem dX7_dropOne_13 : decode cX7_dropOne 13 = .ok (.putfield 21, 3) := by decide +kernel
theorem dX7_dropOne_16 : decode cX7_dropOne 16 = .ok (.aload_n 0, 1) := by decide +kernel
theorem dX7_dropOne_17 : decode cX7_dropOne 17 = .ok (.iload_n 1, 1) := by decide +kernel
theorem dX7_dropOne_18 : decode cX7_dropOne 18 = .ok (.invokevirtual 35, 3) := by decide +kernel
theorem dX7_dropOne_21 : decode cX7_dropOne 21 = .ok (.iconst 0, 1) := by decide +kernel
theorem dX7_dropOne_22 : decode cX7_dropOne 22 = .ok (.istore_n 3, 1) := by decide +kernel
theorem dX7_dropOne_23 : decode cX7_dropOne 23 = .ok (.iload_n 3, 1) := by decide +kernel
theorem dX7_dropOne_24 : decode cX7_dropOne 24 = .ok (.aload_n 0, 1) := by decide +kernel
theorem dX7_dropOne_25 : decode cX7_dropOne 25 = .ok (.getfield 17, 3) := by decide +kernel
theorem dX7_dropOne_28 : decode cX7_dropOne 28 = .ok (.if_icmp .ge 30, 3) := by decide +kernel
theorem dX7_dropOne_31 : decode cX7_dropOne 31 = .ok (.aload_n 0, 1) := by decide +kernel
theorem dX7_dropOne_32 : decode cX7_dropOne 32 = .ok (.iload_n 3, 1) := by decide +kernel
theorem dX7_dropOne_33 : decode cX7_dropOne 33 = .ok (.invokevirtual 31, 3) := by decide +kernel
theorem dX7_dropOne_36 : decode cX7_dropOne 36 = .ok (.astore 4, 2) := by decide +kernel
theorem dX7_dropOne_38 : decode cX7_dropOne 38 = .ok (.aload 4, 2) := by decide +kernel
theorem dX7_dropOne_40 : decode cX7_dropOne 40 = .ok (.ifnull 12, 3) := by decide +kernel
theorem dX7_dropOne_43 : decode cX7_dropOne 43 = .ok (.aload 4, 2) := by decide +kernel
theorem dX7_dropOne_45 : decode cX7_dropOne 45 = .ok (.getfield 38, 3) := by decide +kernel
theorem dX7_dropOne_48 : decode cX7_dropOne 48 = .ok (.iload_n 1, 1) := by decide +kernel
theorem dX7_dropOne_49 : decode cX7_dropOne 49 = .ok (.invokevirtual 42, 3) := by decide +kernel
theorem dX7_dropOne_52 : decode cX7_dropOne 52 = .ok (.iinc 3 1, 3) := by decide +kernel
theorem dX7_dropOne_55 : decode cX7_dropOne 55 = .ok (.goto (-32), 3) := by decide +kernel
theorem dX7_dropOne_58 : decode cX7_dropOne 58 = .ok (.return_, 1) := by decide +kernel
theorem dX7_dropAll_0 : decode cX7_dropAll 0 = .ok (.aload_n 0, 1) := by decide +kernel
theorem dX7_dropAll_1 : decode cX7_dropAll 1 = .ok (.iconst 0, 1) := by decide +kernel
theorem dX7_dropAll_2 : decode cX7_dropAll 2 = .ok (.putfield 17, 3) := by decide +kernel
theorem dX7_dropAll_5 : decode cX7_dropAll 5 = .ok (.return_, 1) := by decide +kernel
theorem dX7_freeFrom_0 : decode cX7_freeFrom 0 = .ok (.iconst 0, 1) := by decide +kernel
theorem dX7_freeFrom_1 : decode cX7_freeFrom 1 = .ok (.istore_n 2, 1) := by decide +kernel
theorem dX7_freeFrom_2 : decode cX7_freeFrom 2 = .ok (.iload_n 2, 1) := by decide +kernel
theorem dX7_freeFrom_3 : decode cX7_freeFrom 3 = .ok (.aload_n 0, 1) := by decide +kernel
theorem dX7_freeFrom_4 : decode cX7_freeFrom 4 = .ok (.getfield 17, 3) := by decide +kernel
theorem dX7_freeFrom_7 : decode cX7_freeFrom 7 = .ok (.if_icmp .ge 33, 3) := by decide +kernel
theorem dX7_freeFrom_10 : decode cX7_freeFrom 10 = .ok (.aload_n 0, 1) := by decide +kernel
theorem dX7_freeFrom_11 : decode cX7_freeFrom 11 = .ok (.iload_n 2, 1) := by decide +kernel
theorem dX7_freeFrom_12 : decode cX7_freeFrom 12 = .ok (.invokevirtual 31, 3) := by decide +kernel
theorem dX7_freeFrom_15 : decode cX7_freeFrom 15 = .ok (.astore_n 3, 1) := by decide +kernel
theorem dX7_freeFrom_16 : decode cX7_freeFrom 16 = .ok (.aload_n 3, 1) := by decide +kernel
theorem dX7_freeFrom_17 : decode cX7_freeFrom 17 = .ok (.ifnull 17, 3) := by decide +kernel
theorem dX7_freeFrom_20 : decode cX7_freeFrom 20 = .ok (.aload_n 3, 1) := by decide +kernel
theorem dX7_freeFrom_21 : decode cX7_freeFrom 21 = .ok (.getfield 47, 3) := by decide +kernel
theorem dX7_freeFrom_24 : decode cX7_freeFrom 24 = .ok (.iload_n 1, 1) := by decide +kernel
theorem dX7_freeFrom_25 : decode cX7_freeFrom 25 = .ok (.if_icmp .ne 9, 3) := by decide +kernel
theorem dX7_freeFrom_28 : decode cX7_freeFrom 28 = .ok (.aload_n 3, 1) := by decide +kernel
theorem dX7_freeFrom_29 : decode cX7_freeFrom 29 = .ok (.bipush (-5), 2) := by decide +kernel
theorem dX7_freeFrom_31 : decode cX7_freeFrom 31 = .ok (.putfield 47, 3) := by decide +kernel
theorem dX7_freeFrom_34 : decode cX7_freeFrom 34 = .ok (.iinc 2 1, 3) := by decide +kernel
theorem dX7_freeFrom_37 : decode cX7_freeFrom 37 = .ok (.goto (-35), 3) := by decide +kernel
theorem dX7_freeFrom_40 : decode cX7_freeFrom 40 = .ok (.return_, 1) := by decide +kernel
theorem dX7_thereNow_0 : decode cX7_thereNow 0 = .ok (.iconst 0, 1) := by decide +kernel
theorem dX7_thereNow_1 : decode cX7_thereNow 1 = .ok (.istore_n 1, 1) := by decide +kernel
theorem dX7_thereNow_2 : decode cX7_thereNow 2 = .ok (.iconst 0, 1) := by decide +kernel
theorem dX7_thereNow_3 : decode cX7_thereNow 3 = .ok (.istore_n 2, 1) := by decide +kernel
theorem dX7_thereNow_4 : decode cX7_thereNow 4 = .ok (.iload_n 2, 1) := by decide +kernel
theorem dX7_thereNow_5 : decode cX7_thereNow 5 = .ok (.aload_n 0, 1) := by decide +kernel
theorem dX7_thereNow_6 : decode cX7_thereNow 6 = .ok (.getfield 17, 3) := by decide +kernel
theorem dX7_thereNow_9 : decode cX7_thereNow 9 = .ok (.if_icmp .ge 20, 3) := by decide +kernel
theorem dX7_thereNow_12 : decode cX7_thereNow 12 = .ok (.aload_n 0, 1) := by decide +kernel
theorem dX7_thereNow_13 : decode cX7_thereNow 13 = .ok (.iload_n 2, 1) := by decide +kernel
theorem dX7_thereNow_14 : decode cX7_thereNow 14 = .ok (.invokevirtual 31, 3) := by decide +kernel
theorem dX7_thereNow_17 : decode cX7_thereNow 17 = .ok (.ifnull 6, 3) := by decide +kernel
theorem dX7_thereNow_20 : decode cX7_thereNow 20 = .ok (.iinc 1 1, 3) := by decide +kernel
theorem dX7_thereNow_23 : decode cX7_thereNow 23 = .ok (.iinc 2 1, 3) := by decide +kernel
theorem dX7_thereNow_26 : decode cX7_thereNow 26 = .ok (.goto (-22), 3) := by decide +kernel
theorem dX7_thereNow_29 : decode cX7_thereNow 29 = .ok (.iload_n 1, 1) := by decide +kernel
theorem dX7_thereNow_30 : decode cX7_thereNow 30 = .ok (.ireturn, 1) := by decide +kernel
theorem dX7_lookFrom_0 : decode cX7_lookFrom 0 = .ok (.aload_n 1, 1) := by decide +kernel
theorem dX7_lookFrom_1 : decode cX7_lookFrom 1 = .ok (.iload_n 2, 1) := by decide +kernel
theorem dX7_lookFrom_2 : decode cX7_lookFrom 2 = .ok (.invokevirtual 50, 3) := by decide +kernel
theorem dX7_lookFrom_5 : decode cX7_lookFrom 5 = .ok (.astore_n 3, 1) := by decide +kernel
theorem dX7_lookFrom_6 : decode cX7_lookFrom 6 = .ok (.aload_n 3, 1) := by decide +kernel
theorem dX7_lookFrom_7 : decode cX7_lookFrom 7 = .ok (.ifnull 5, 3) := by decide +kernel
theorem dX7_lookFrom_10 : decode cX7_lookFrom 10 = .ok (.aload_n 3, 1) := by decide +kernel
theorem dX7_lookFrom_11 : decode cX7_lookFrom 11 = .ok (.areturn, 1) := by decide +kernel
theorem dX7_lookFrom_12 : decode cX7_lookFrom 12 = .ok (.iconst 0, 1) := by decide +kernel
theorem dX7_lookFrom_13 : decode cX7_lookFrom 13 = .ok (.istore 4, 2) := by decide +kernel
theorem dX7_lookFrom_15 : decode cX7_lookFrom 15 = .ok (.iload 4, 2) := by decide +kernel
theorem dX7_lookFrom_17 : decode cX7_lookFrom 17 = .ok (.aload_n 1, 1) := by decide +kernel
theorem dX7_lookFrom_18 : decode cX7_lookFrom 18 = .ok (.getfield 38, 3) := by decide +kernel
theorem dX7_lookFrom_21 : decode cX7_lookFrom 21 = .ok (.invokevirtual 54, 3) := by decide +kernel
theorem dX7_lookFrom_24 : decode cX7_lookFrom 24 = .ok (.if_icmp .ge 57, 3) := by decide +kernel
theorem dX7_lookFrom_27 : decode cX7_lookFrom 27 = .ok (.aload_n 0, 1) := by decide +kernel
theorem dX7_lookFrom_28 : decode cX7_lookFrom 28 = .ok (.aload_n 1, 1) := by decide +kernel
theorem dX7_lookFrom_29 : decode cX7_lookFrom 29 = .ok (.getfield 38, 3) := by decide +kernel
theorem dX7_lookFrom_32 : decode cX7_lookFrom 32 = .ok (.iload 4, 2) := by decide +kernel
theorem dX7_lookFrom_34 : decode cX7_lookFrom 34 = .ok (.invokevirtual 58, 3) := by decide +kernel
theorem dX7_lookFrom_37 : decode cX7_lookFrom 37 = .ok (.invokevirtual 31, 3) := by decide +kernel
theorem dX7_lookFrom_40 : decode cX7_lookFrom 40 = .ok (.astore 5, 2) := by decide +kernel
theorem dX7_lookFrom_42 : decode cX7_lookFrom 42 = .ok (.aload 5, 2) := by decide +kernel
theorem dX7_lookFrom_44 : decode cX7_lookFrom 44 = .ok (.ifnonnull 7, 3) := by decide +kernel
theorem dX7_lookFrom_47 : decode cX7_lookFrom 47 = .ok (.aconst_null, 1) := by decide +kernel
theorem dX7_lookFrom_48 : decode cX7_lookFrom 48 = .ok (.goto 9, 3) := by decide +kernel
theorem dX7_lookFrom_51 : decode cX7_lookFrom 51 = .ok (.aload 5, 2) := by decide +kernel
theorem dX7_lookFrom_53 : decode cX7_lookFrom 53 = .ok (.iload_n 2, 1) := by decide +kernel
theorem dX7_lookFrom_54 : decode cX7_lookFrom 54 = .ok (.invokevirtual 50, 3) := by decide +kernel
theorem dX7_lookFrom_57 : decode cX7_lookFrom 57 = .ok (.astore 6, 2) := by decide +kernel
theorem dX7_lookFrom_59 : decode cX7_lookFrom 59 = .ok (.aload 6, 2) := by decide +kernel
theorem dX7_lookFrom_61 : decode cX7_lookFrom 61 = .ok (.ifnull 14, 3) := by decide +kernel
theorem dX7_lookFrom_64 : decode cX7_lookFrom 64 = .ok (.aload 6, 2) := by decide +kernel
theorem dX7_lookFrom_66 : decode cX7_lookFrom 66 = .ok (.getfield 61, 3) := by decide +kernel
theorem dX7_lookFrom_69 : decode cX7_lookFrom 69 = .ok (.ifCond .ne 6, 3) := by decide +kernel
theorem dX7_lookFrom_72 : decode cX7_lookFrom 72 = .ok (.aload 6, 2) := by decide +kernel
theorem dX7_lookFrom_74 : decode cX7_lookFrom 74 = .ok (.areturn, 1) := by decide +kernel
theorem dX7_lookFrom_75 : decode cX7_lookFrom 75 = .ok (.iinc 4 1, 3) := by decide +kernel
theorem dX7_lookFrom_78 : decode cX7_lookFrom 78 = .ok (.goto (-63), 3) := by decide +kernel
theorem dX7_lookFrom_81 : decode cX7_lookFrom 81 = .ok (.aconst_null, 1) := by decide +kernel
theorem dX7_lookFrom_82 : decode cX7_lookFrom 82 = .ok (.areturn, 1) := by decide +kernel
theorem dX7_partOf_0 : decode cX7_partOf 0 = .ok (.aload_n 0, 1) := by decide +kernel
theorem dX7_partOf_1 : decode cX7_partOf 1 = .ok (.aload_n 1, 1) := by decide +kernel
theorem dX7_partOf_2 : decode cX7_partOf 2 = .ok (.getfield 66, 3) := by decide +kernel
theorem dX7_partOf_5 : decode cX7_partOf 5 = .ok (.invokevirtual 31, 3) := by decide +kernel
theorem dX7_partOf_8 : decode cX7_partOf 8 = .ok (.astore_n 3, 1) := by decide +kernel
theorem dX7_partOf_9 : decode cX7_partOf 9 = .ok (.aload_n 3, 1) := by decide +kernel
theorem dX7_partOf_10 : decode cX7_partOf 10 = .ok (.ifnonnull 7, 3) := by decide +kernel
theorem dX7_partOf_13 : decode cX7_partOf 13 = .ok (.aconst_null, 1) := by decide +kernel
theorem dX7_partOf_14 : decode cX7_partOf 14 = .ok (.goto 20, 3) := by decide +kernel
theorem dX7_partOf_17 : decode cX7_partOf 17 = .ok (.aload_n 0, 1) := by decide +kernel
theorem dX7_partOf_18 : decode cX7_partOf 18 = .ok (.aload_n 3, 1) := by decide +kernel
theorem dX7_partOf_19 : decode cX7_partOf 19 = .ok (.iconst 1, 1) := by decide +kernel
theorem dX7_partOf_20 : decode cX7_partOf 20 = .ok (.aload_n 1, 1) := by decide +kernel
theorem dX7_partOf_21 : decode cX7_partOf 21 = .ok (.getfield 69, 3) := by decide +kernel
theorem dX7_partOf_24 : decode cX7_partOf 24 = .ok (.iload_n 2, 1) := by decide +kernel
theorem dX7_partOf_25 : decode cX7_partOf 25 = .ok (.invokevirtual 58, 3) := by decide +kernel
theorem dX7_partOf_28 : decode cX7_partOf 28 = .ok (.invokestatic 72, 3) := by decide +kernel
theorem dX7_partOf_31 : decode cX7_partOf 31 = .ok (.invokevirtual 76, 3) := by decide +kernel
theorem dX7_partOf_34 : decode cX7_partOf 34 = .ok (.areturn, 1) := by decide +kernel
theorem dX7_missingOf_0 : decode cX7_missingOf 0 = .ok (.aload_n 1, 1) := by decide +kernel
theorem dX7_missingOf_1 : decode cX7_missingOf 1 = .ok (.invokevirtual 80, 3) := by decide +kernel
theorem dX7_missingOf_4 : decode cX7_missingOf 4 = .ok (.astore_n 2, 1) := by decide +kernel
theorem dX7_missingOf_5 : decode cX7_missingOf 5 = .ok (.iconst 0, 1) := by decide +kernel
theorem dX7_missingOf_6 : decode cX7_missingOf 6 = .ok (.istore_n 3, 1) := by decide +kernel
theorem dX7_missingOf_7 : decode cX7_missingOf 7 = .ok (.iconst 0, 1) := by decide +kernel
theorem dX7_missingOf_8 : decode cX7_missingOf 8 = .ok (.istore 4, 2) := by decide +kernel
theorem dX7_missingOf_10 : decode cX7_missingOf 10 = .ok (.iload 4, 2) := by decide +kernel
theorem dX7_missingOf_12 : decode cX7_missingOf 12 = .ok (.aload_n 2, 1) := by decide +kernel
theorem dX7_missingOf_13 : decode cX7_missingOf 13 = .ok (.invokevirtual 54, 3) := by decide +kernel
theorem dX7_missingOf_16 : decode cX7_missingOf 16 = .ok (.if_icmp .ge 26, 3) := by decide +kernel
theorem dX7_missingOf_19 : decode cX7_missingOf 19 = .ok (.aload_n 0, 1) := by decide +kernel
theorem dX7_missingOf_20 : decode cX7_missingOf 20 = .ok (.aload_n 1, 1) := by decide +kernel
theorem dX7_missingOf_21 : decode cX7_missingOf 21 = .ok (.aload_n 2, 1) := by decide +kernel
theorem dX7_missingOf_22 : decode cX7_missingOf 22 = .ok (.iload 4, 2) := by decide +kernel
theorem dX7_missingOf_24 : decode cX7_missingOf 24 = .ok (.invokevirtual 58, 3) := by decide +kernel
theorem dX7_missingOf_27 : decode cX7_missingOf 27 = .ok (.invokevirtual 76, 3) := by decide +kernel
theorem dX7_missingOf_30 : decode cX7_missingOf 30 = .ok (.ifnonnull 6, 3) := by decide +kernel
theorem dX7_missingOf_33 : decode cX7_missingOf 33 = .ok (.iinc 3 1, 3) := by decide +kernel
theorem dX7_missingOf_36 : decode cX7_missingOf 36 = .ok (.iinc 4 1, 3) := by decide +kernel
theorem dX7_missingOf_39 : decode cX7_missingOf 39 = .ok (.goto (-29), 3) := by decide +kernel
theorem dX7_missingOf_42 : decode cX7_missingOf 42 = .ok (.iload_n 3, 1) := by decide +kernel
theorem dX7_missingOf_43 : decode cX7_missingOf 43 = .ok (.ireturn, 1) := by decide +kernel
theorem dX7_nextTo_0 : decode cX7_nextTo 0 = .ok (.aload_n 1, 1) := by decide +kernel
theorem dX7_nextTo_1 : decode cX7_nextTo 1 = .ok (.invokevirtual 80, 3) := by decide +kernel
theorem dX7_nextTo_4 : decode cX7_nextTo 4 = .ok (.astore_n 2, 1) := by decide +kernel
theorem dX7_nextTo_5 : decode cX7_nextTo 5 = .ok (.aload_n 1, 1) := by decide +kernel
theorem dX7_nextTo_6 : decode cX7_nextTo 6 = .ok (.getfield 47, 3) := by decide +kernel
theorem dX7_nextTo_9 : decode cX7_nextTo 9 = .ok (.bipush (-5), 2) := by decide +kernel
theorem dX7_nextTo_11 : decode cX7_nextTo 11 = .ok (.if_icmp .ne 7, 3) := by decide +kernel
theorem dX7_nextTo_14 : decode cX7_nextTo 14 = .ok (.iconst 0, 1) := by decide +kernel
theorem dX7_nextTo_15 : decode cX7_nextTo 15 = .ok (.goto 9, 3) := by decide +kernel
theorem dX7_nextTo_18 : decode cX7_nextTo 18 = .ok (.iconst 1, 1) := by decide +kernel
theorem dX7_nextTo_19 : decode cX7_nextTo 19 = .ok (.aload_n 1, 1) := by decide +kernel
theorem dX7_nextTo_20 : decode cX7_nextTo 20 = .ok (.getfield 47, 3) := by decide +kernel
theorem dX7_nextTo_23 : decode cX7_nextTo 23 = .ok (.ishl, 1) := by decide +kernel
theorem dX7_nextTo_24 : decode cX7_nextTo 24 = .ok (.istore_n 3, 1) := by decide +kernel
theorem dX7_nextTo_25 : decode cX7_nextTo 25 = .ok (.iconst 0, 1) := by decide +kernel
theorem dX7_nextTo_26 : decode cX7_nextTo 26 = .ok (.istore 4, 2) := by decide +kernel
theorem dX7_nextTo_28 : decode cX7_nextTo 28 = .ok (.iload 4, 2) := by decide +kernel
theorem dX7_nextTo_30 : decode cX7_nextTo 30 = .ok (.aload_n 2, 1) := by decide +kernel
theorem dX7_nextTo_31 : decode cX7_nextTo 31 = .ok (.invokevirtual 54, 3) := by decide +kernel
theorem dX7_nextTo_34 : decode cX7_nextTo 34 = .ok (.if_icmp .ge 41, 3) := by decide +kernel
theorem dX7_nextTo_37 : decode cX7_nextTo 37 = .ok (.aload_n 0, 1) := by decide +kernel
theorem dX7_nextTo_38 : decode cX7_nextTo 38 = .ok (.aload_n 1, 1) := by decide +kernel
theorem dX7_nextTo_39 : decode cX7_nextTo 39 = .ok (.aload_n 2, 1) := by decide +kernel
theorem dX7_nextTo_40 : decode cX7_nextTo 40 = .ok (.iload 4, 2) := by decide +kernel
theorem dX7_nextTo_42 : decode cX7_nextTo 42 = .ok (.invokevirtual 58, 3) := by decide +kernel
theorem dX7_nextTo_45 : decode cX7_nextTo 45 = .ok (.invokevirtual 76, 3) := by decide +kernel
theorem dX7_nextTo_48 : decode cX7_nextTo 48 = .ok (.astore 5, 2) := by decide +kernel
theorem dX7_nextTo_50 : decode cX7_nextTo 50 = .ok (.iload_n 3, 1) := by decide +kernel
theorem dX7_nextTo_51 : decode cX7_nextTo 51 = .ok (.aload 5, 2) := by decide +kernel
theorem dX7_nextTo_53 : decode cX7_nextTo 53 = .ok (.ifnonnull 7, 3) := by decide +kernel
theorem dX7_nextTo_56 : decode cX7_nextTo 56 = .ok (.iconst 0, 1) := by decide +kernel
theorem dX7_nextTo_57 : decode cX7_nextTo 57 = .ok (.goto 10, 3) := by decide +kernel
theorem dX7_nextTo_60 : decode cX7_nextTo 60 = .ok (.iconst 1, 1) := by decide +kernel
theorem dX7_nextTo_61 : decode cX7_nextTo 61 = .ok (.aload 5, 2) := by decide +kernel
theorem dX7_nextTo_63 : decode cX7_nextTo 63 = .ok (.getfield 66, 3) := by decide +kernel
theorem dX7_nextTo_66 : decode cX7_nextTo 66 = .ok (.ishl, 1) := by decide +kernel
theorem dX7_nextTo_67 : decode cX7_nextTo 67 = .ok (.ior, 1) := by decide +kernel
theorem dX7_nextTo_68 : decode cX7_nextTo 68 = .ok (.istore_n 3, 1) := by decide +kernel
theorem dX7_nextTo_69 : decode cX7_nextTo 69 = .ok (.iinc 4 1, 3) := by decide +kernel
theorem dX7_nextTo_72 : decode cX7_nextTo 72 = .ok (.goto (-44), 3) := by decide +kernel
theorem dX7_nextTo_75 : decode cX7_nextTo 75 = .ok (.iload_n 3, 1) := by decide +kernel
theorem dX7_nextTo_76 : decode cX7_nextTo 76 = .ok (.ireturn, 1) := by decide +kernel
theorem dX8_init_0 : decode cX8_init 0 = .ok (.aload_n 0, 1) := by decide +kernel
theorem dX8_init_1 : decode cX8_init 1 = .ok (.invokespecial 3, 3) := by decide +kernel
theorem dX8_init_4 : decode cX8_init 4 = .ok (.aload_n 0, 1) := by decide +kernel
theorem dX8_init_5 : decode cX8_init 5 = .ok (.new 9, 3) := by decide +kernel
theorem dX8_init_8 : decode cX8_init 8 = .ok (.dup, 1) := by decide +kernel
theorem dX8_init_9 : decode cX8_init 9 = .ok (.invokespecial 11, 3) := by decide +kernel
theorem dX8_init_12 : decode cX8_init 12 = .ok (.putfield 12, 3) := by decide +kernel
theorem dX8_init_15 : decode cX8_init 15 = .ok (.aload_n 0, 1) := by decide +kernel
theorem dX8_init_16 : decode cX8_init 16 = .ok (.new 16, 3) := by decide +kernel
theorem dX8_init_19 : decode cX8_init 19 = .ok (.dup, 1) := by decide +kernel
theorem dX8_init_20 : decode cX8_init 20 = .ok (.invokespecial 18, 3) := by decide +kernel
theorem dX8_init_23 : decode cX8_init 23 = .ok (.putfield 19, 3) := by decide +kernel
theorem dX8_init_26 : decode cX8_init 26 = .ok (.aload_n 0, 1) := by decide +kernel
theorem dX8_init_27 : decode cX8_init 27 = .ok (.new 23, 3) := by decide +kernel
theorem dX8_init_30 : decode cX8_init 30 = .ok (.dup, 1) := by decide +kernel
theorem dX8_init_31 : decode cX8_init 31 = .ok (.invokespecial 25, 3) := by decide +kernel
theorem dX8_init_34 : decode cX8_init 34 = .ok (.putfield 26, 3) := by decide +kernel
theorem dX8_init_37 : decode cX8_init 37 = .ok (.aload_n 0, 1) := by decide +kernel
theorem dX8_init_38 : decode cX8_init 38 = .ok (.new 30, 3) := by decide +kernel
theorem dX8_init_41 : decode cX8_init 41 = .ok (.dup, 1) := by decide +kernel
theorem dX8_init_42 : decode cX8_init 42 = .ok (.invokespecial 32, 3) := by decide +kernel
theorem dX8_init_45 : decode cX8_init 45 = .ok (.putfield 33, 3) := by decide +kernel
theorem dX8_init_48 : decode cX8_init 48 = .ok (.aload_n 0, 1) := by decide +kernel
theorem dX8_init_49 : decode cX8_init 49 = .ok (.iconst 0, 1) := by decide +kernel
theorem dX8_init_50 : decode cX8_init 50 = .ok (.putfield 37, 3) := by decide +kernel
theorem dX8_init_53 : decode cX8_init 53 = .ok (.return_, 1) := by decide +kernel
theorem dX8_unit_0 : decode cX8_unit 0 = .ok (.aload_n 0, 1) := by decide +kernel
theorem dX8_unit_1 : decode cX8_unit 1 = .ok (.getfield 12, 3) := by decide +kernel
theorem dX8_unit_4 : decode cX8_unit 4 = .ok (.invokevirtual 41, 3) := by decide +kernel
theorem dX8_unit_7 : decode cX8_unit 7 = .ok (.astore_n 1, 1) := by decide +kernel
theorem dX8_unit_8 : decode cX8_unit 8 = .ok (.aload_n 1, 1) := by decide +kernel
theorem dX8_unit_9 : decode cX8_unit 9 = .ok (.ifnonnull 8, 3) := by decide +kernel
theorem dX8_unit_12 : decode cX8_unit 12 = .ok (.bipush (-4), 2) := by decide +kernel
theorem dX8_unit_14 : decode cX8_unit 14 = .ok (.goto 7, 3) := by decide +kernel
theorem dX8_unit_17 : decode cX8_unit 17 = .ok (.aload_n 1, 1) := by decide +kernel
theorem dX8_unit_18 : decode cX8_unit 18 = .ok (.getfield 45, 3) := by decide +kernel
theorem dX8_unit_21 : decode cX8_unit 21 = .ok (.ireturn, 1) := by decide +kernel
theorem dX8_give_0 : decode cX8_give 0 = .ok (.aload_n 0, 1) := by decide +kernel
theorem dX8_give_1 : decode cX8_give 1 = .ok (.getfield 12, 3) := by decide +kernel
theorem dX8_give_4 : decode cX8_give 4 = .ok (.iload_n 1, 1) := by decide +kernel
theorem dX8_give_5 : decode cX8_give 5 = .ok (.invokevirtual 50, 3) := by decide +kernel
theorem dX8_give_8 : decode cX8_give 8 = .ok (.astore 7, 2) := by decide +kernel
theorem dX8_give_10 : decode cX8_give 10 = .ok (.aload 7, 2) := by decide +kernel
theorem dX8_give_12 : decode cX8_give 12 = .ok (.ifnonnull 5, 3) := by decide +kernel
theorem dX8_give_15 : decode cX8_give 15 = .ok (.iconst (-1), 1) := by decide +kernel
theorem dX8_give_16 : decode cX8_give 16 = .ok (.ireturn, 1) := by decide +kernel
theorem dX8_give_17 : decode cX8_give 17 = .ok (.iload_n 2, 1) := by decide +kernel
theorem dX8_give_18 : decode cX8_give 18 = .ok (.iconst 3, 1) := by decide +kernel
theorem dX8_give_19 : decode cX8_give 19 = .ok (.invokestatic 54, 3) := by decide +kernel
theorem dX8_give_22 : decode cX8_give 22 = .ok (.ifCond .eq 12, 3) := by decide +kernel
theorem dX8_give_25 : decode cX8_give 25 = .ok (.iload_n 3, 1) := by decide +kernel
theorem dX8_give_26 : decode cX8_give 26 = .ok (.bipush 32, 2) := by decide +kernel
theorem dX8_give_28 : decode cX8_give 28 = .ok (.invokestatic 54, 3) := by decide +kernel
theorem dX8_give_31 : decode cX8_give 31 = .ok (.ifCond .ne 6, 3) := by decide +kernel
theorem dX8_give_34 : decode cX8_give 34 = .ok (.bipush (-2), 2) := by decide +kernel
theorem dX8_give_36 : decode cX8_give 36 = .ok (.ireturn, 1) := by decide +kernel
theorem dX8_give_37 : decode cX8_give 37 = .ok (.iload_n 2, 1) := by decide +kernel
theorem dX8_give_38 : decode cX8_give 38 = .ok (.iload_n 3, 1) := by decide +kernel
theorem dX8_give_39 : decode cX8_give 39 = .ok (.invokestatic 58, 3) := by decide +kernel
theorem dX8_give_42 : decode cX8_give 42 = .ok (.istore 8, 2) := by decide +kernel
theorem dX8_give_44 : decode cX8_give 44 = .ok (.aload 7, 2) := by decide +kernel
theorem dX8_give_46 : decode cX8_give 46 = .ok (.iload 8, 2) := by decide +kernel
theorem dX8_give_48 : decode cX8_give 48 = .ok (.invokevirtual 62, 3) := by decide +kernel
theorem dX8_give_51 : decode cX8_give 51 = .ok (.astore 9, 2) := by decide +kernel
theorem dX8_give_53 : decode cX8_give 53 = .ok (.aload 9, 2) := by decide +kernel
theorem dX8_give_55 : decode cX8_give 55 = .ok (.ifnonnull 13, 3) := by decide +kernel
theorem dX8_give_58 : decode cX8_give 58 = .ok (.aload 7, 2) := by decide +kernel
theorem dX8_give_60 : decode cX8_give 60 = .ok (.iload 8, 2) := by decide +kernel
theorem dX8_give_62 : decode cX8_give 62 = .ok (.invokevirtual 66, 3) := by decide +kernel
theorem dX8_give_65 : decode cX8_give 65 = .ok (.goto 5, 3) := by decide +kernel
theorem dX8_give_68 : decode cX8_give 68 = .ok (.aload 9, 2) := by decide +kernel
theorem dX8_give_70 : decode cX8_give 70 = .ok (.astore 10, 2) := by decide +kernel
theorem dX8_give_72 : decode cX8_give 72 = .ok (.aload 10, 2) := by decide +kernel
theorem dX8_give_74 : decode cX8_give 74 = .ok (.ifnonnull 6, 3) := by decide +kernel
theorem dX8_give_77 : decode cX8_give 77 = .ok (.bipush (-4), 2) := by decide +kernel
theorem dX8_give_79 : decode cX8_give 79 = .ok (.ireturn, 1) := by decide +kernel
theorem dX8_give_80 : decode cX8_give 80 = .ok (.aload 10, 2) := by decide +kernel
theorem dX8_give_82 : decode cX8_give 82 = .ok (.lload 4, 2) := by decide +kernel
theorem dX8_give_84 : decode cX8_give 84 = .ok (.putfield 69, 3) := by decide +kernel
theorem dX8_give_87 : decode cX8_give 87 = .ok (.aload 10, 2) := by decide +kernel
theorem dX8_give_89 : decode cX8_give 89 = .ok (.iload 6, 2) := by decide +kernel
theorem dX8_give_91 : decode cX8_give 91 = .ok (.putfield 75, 3) := by decide +kernel
theorem dX8_give_94 : decode cX8_give 94 = .ok (.aload 9, 2) := by decide +kernel
theorem dX8_give_96 : decode cX8_give 96 = .ok (.ifnonnull 7, 3) := by decide +kernel
theorem dX8_give_99 : decode cX8_give 99 = .ok (.iconst 1, 1) := by decide +kernel
theorem dX8_give_100 : decode cX8_give 100 = .ok (.goto 4, 3) := by decide +kernel
theorem dX8_give_103 : decode cX8_give 103 = .ok (.iconst 0, 1) := by decide +kernel
theorem dX8_give_104 : decode cX8_give 104 = .ok (.ireturn, 1) := by decide +kernel
theorem dX8_take_0 : decode cX8_take 0 = .ok (.aload_n 0, 1) := by decide +kernel
theorem dX8_take_1 : decode cX8_take 1 = .ok (.getfield 12, 3) := by decide +kernel
theorem dX8_take_4 : decode cX8_take 4 = .ok (.iload_n 1, 1) := by decide +kernel
theorem dX8_take_5 : decode cX8_take 5 = .ok (.invokevirtual 50, 3) := by decide +kernel
theorem dX8_take_8 : decode cX8_take 8 = .ok (.astore 4, 2) := by decide +kernel
theorem dX8_take_10 : decode cX8_take 10 = .ok (.aload 4, 2) := by decide +kernel
theorem dX8_take_12 : decode cX8_take 12 = .ok (.ifnonnull 5, 3) := by decide +kernel
theorem dX8_take_15 : decode cX8_take 15 = .ok (.iconst (-1), 1) := by decide +kernel
theorem dX8_take_16 : decode cX8_take 16 = .ok (.ireturn, 1) := by decide +kernel
theorem dX8_take_17 : decode cX8_take 17 = .ok (.iload_n 2, 1) := by decide +kernel
theorem dX8_take_18 : decode cX8_take 18 = .ok (.iconst 3, 1) := by decide +kernel
theorem dX8_take_19 : decode cX8_take 19 = .ok (.invokestatic 54, 3) := by decide +kernel
theorem dX8_take_22 : decode cX8_take 22 = .ok (.ifCond .eq 12, 3) := by decide +kernel
theorem dX8_take_25 : decode cX8_take 25 = .ok (.iload_n 3, 1) := by decide +kernel
theorem dX8_take_26 : decode cX8_take 26 = .ok (.bipush 32, 2) := by decide +kernel
theorem dX8_take_28 : decode cX8_take 28 = .ok (.invokestatic 54, 3) := by decide +kernel
theorem dX8_take_31 : decode cX8_take 31 = .ok (.ifCond .ne 6, 3) := by decide +kernel
theorem dX8_take_34 : decode cX8_take 34 = .ok (.bipush (-2), 2) := by decide +kernel
theorem dX8_take_36 : decode cX8_take 36 = .ok (.ireturn, 1) := by decide +kernel
theorem dX8_take_37 : decode cX8_take 37 = .ok (.aload 4, 2) := by decide +kernel
theorem dX8_take_39 : decode cX8_take 39 = .ok (.iload_n 2, 1) := by decide +kernel
theorem dX8_take_40 : decode cX8_take 40 = .ok (.iload_n 3, 1) := by decide +kernel
theorem dX8_take_41 : decode cX8_take 41 = .ok (.invokestatic 58, 3) := by decide +kernel
theorem dX8_take_44 : decode cX8_take 44 = .ok (.invokevirtual 79, 3) := by decide +kernel
theorem dX8_take_47 : decode cX8_take 47 = .ok (.ifCond .eq 7, 3) := by decide +kernel
theorem dX8_take_50 : decode cX8_take 50 = .ok (.iconst 1, 1) := by decide +kernel
theorem dX8_take_51 : decode cX8_take 51 = .ok (.goto 4, 3) := by decide +kernel
theorem dX8_take_54 : decode cX8_take 54 = .ok (.iconst (-1), 1) := by decide +kernel
theorem dX8_take_55 : decode cX8_take 55 = .ok (.ireturn, 1) := by decide +kernel
theorem dX8_build_0 : decode cX8_build 0 = .ok (.aload_n 0, 1) := by decide +kernel
theorem dX8_build_1 : decode cX8_build 1 = .ok (.getfield 12, 3) := by decide +kernel
theorem dX8_build_4 : decode cX8_build 4 = .ok (.iload_n 1, 1) := by decide +kernel
theorem dX8_build_5 : decode cX8_build 5 = .ok (.invokevirtual 50, 3) := by decide +kernel
theorem dX8_build_8 : decode cX8_build 8 = .ok (.astore 4, 2) := by decide +kernel
theorem dX8_build_10 : decode cX8_build 10 = .ok (.aload 4, 2) := by decide +kernel
theorem dX8_build_12 : decode cX8_build 12 = .ok (.ifnonnull 5, 3) := by decide +kernel
theorem dX8_build_15 : decode cX8_build 15 = .ok (.iconst (-1), 1) := by decide +kernel
theorem dX8_build_16 : decode cX8_build 16 = .ok (.ireturn, 1) := by decide +kernel
theorem dX8_build_17 : decode cX8_build 17 = .ok (.iload_n 2, 1) := by decide +kernel
theorem dX8_build_18 : decode cX8_build 18 = .ok (.bipush 32, 2) := by decide +kernel
theorem dX8_build_20 : decode cX8_build 20 = .ok (.invokestatic 54, 3) := by decide +kernel
theorem dX8_build_23 : decode cX8_build 23 = .ok (.ifCond .eq 12, 3) := by decide +kernel
theorem dX8_build_26 : decode cX8_build 26 = .ok (.iload_n 3, 1) := by decide +kernel
theorem dX8_build_27 : decode cX8_build 27 = .ok (.bipush 32, 2) := by decide +kernel
theorem dX8_build_29 : decode cX8_build 29 = .ok (.invokestatic 54, 3) := by decide +kernel
theorem dX8_build_32 : decode cX8_build 32 = .ok (.ifCond .ne 6, 3) := by decide +kernel
theorem dX8_build_35 : decode cX8_build 35 = .ok (.bipush (-2), 2) := by decide +kernel
theorem dX8_build_37 : decode cX8_build 37 = .ok (.ireturn, 1) := by decide +kernel
theorem dX8_build_38 : decode cX8_build 38 = .ok (.aload 4, 2) := by decide +kernel
theorem dX8_build_40 : decode cX8_build 40 = .ok (.iconst 1, 1) := by decide +kernel
theorem dX8_build_41 : decode cX8_build 41 = .ok (.iload_n 2, 1) := by decide +kernel
theorem dX8_build_42 : decode cX8_build 42 = .ok (.invokestatic 58, 3) := by decide +kernel
theorem dX8_build_45 : decode cX8_build 45 = .ok (.invokevirtual 62, 3) := by decide +kernel
theorem dX8_build_48 : decode cX8_build 48 = .ok (.astore 5, 2) := by decide +kernel
theorem dX8_build_50 : decode cX8_build 50 = .ok (.aload 5, 2) := by decide +kernel
theorem dX8_build_52 : decode cX8_build 52 = .ok (.ifnonnull 6, 3) := by decide +kernel
theorem dX8_build_55 : decode cX8_build 55 = .ok (.bipush (-3), 2) := by decide +kernel
theorem dX8_build_57 : decode cX8_build 57 = .ok (.ireturn, 1) := by decide +kernel
theorem dX8_build_58 : decode cX8_build 58 = .ok (.aload 5, 2) := by decide +kernel
theorem dX8_build_60 : decode cX8_build 60 = .ok (.getfield 83, 3) := by decide +kernel
theorem dX8_build_63 : decode cX8_build 63 = .ok (.iload_n 3, 1) := by decide +kernel
theorem dX8_build_64 : decode cX8_build 64 = .ok (.invokestatic 87, 3) := by decide +kernel
theorem dX8_build_67 : decode cX8_build 67 = .ok (.ireturn, 1) := by decide +kernel
theorem dX8_way_0 : decode cX8_way 0 = .ok (.aload_n 0, 1) := by decide +kernel
theorem dX8_way_1 : decode cX8_way 1 = .ok (.getfield 12, 3) := by decide +kernel
theorem dX8_way_4 : decode cX8_way 4 = .ok (.iload_n 1, 1) := by decide +kernel
theorem dX8_way_5 : decode cX8_way 5 = .ok (.invokevirtual 50, 3) := by decide +kernel
theorem dX8_way_8 : decode cX8_way 8 = .ok (.astore_n 3, 1) := by decide +kernel
theorem dX8_way_9 : decode cX8_way 9 = .ok (.aload_n 3, 1) := by decide +kernel
theorem dX8_way_10 : decode cX8_way 10 = .ok (.ifnull 14, 3) := by decide +kernel
theorem dX8_way_13 : decode cX8_way 13 = .ok (.aload_n 0, 1) := by decide +kernel
theorem dX8_way_14 : decode cX8_way 14 = .ok (.getfield 12, 3) := by decide +kernel
theorem dX8_way_17 : decode cX8_way 17 = .ok (.iload_n 2, 1) := by decide +kernel
theorem dX8_way_18 : decode cX8_way 18 = .ok (.invokevirtual 50, 3) := by decide +kernel
theorem dX8_way_21 : decode cX8_way 21 = .ok (.ifnonnull 5, 3) := by decide +kernel
theorem dX8_way_24 : decode cX8_way 24 = .ok (.iconst (-1), 1) := by decide +kernel
theorem dX8_way_25 : decode cX8_way 25 = .ok (.ireturn, 1) := by decide +kernel
theorem dX8_way_26 : decode cX8_way 26 = .ok (.iload_n 1, 1) := by decide +kernel
theorem dX8_way_27 : decode cX8_way 27 = .ok (.iload_n 2, 1) := by decide +kernel
theorem dX8_way_28 : decode cX8_way 28 = .ok (.if_icmp .eq 14, 3) := by decide +kernel
theorem dX8_way_31 : decode cX8_way 31 = .ok (.aload_n 3, 1) := by decide +kernel
theorem dX8_way_32 : decode cX8_way 32 = .ok (.getfield 91, 3) := by decide +kernel
theorem dX8_way_35 : decode cX8_way 35 = .ok (.iload_n 2, 1) := by decide +kernel
theorem dX8_way_36 : decode cX8_way 36 = .ok (.invokevirtual 94, 3) := by decide +kernel
theorem dX8_way_39 : decode cX8_way 39 = .ok (.ifCond .eq 6, 3) := by decide +kernel
theorem dX8_way_42 : decode cX8_way 42 = .ok (.bipush (-3), 2) := by decide +kernel
theorem dX8_way_44 : decode cX8_way 44 = .ok (.ireturn, 1) := by decide +kernel
theorem dX8_way_45 : decode cX8_way 45 = .ok (.aload_n 3, 1) := by decide +kernel
theorem dX8_way_46 : decode cX8_way 46 = .ok (.getfield 91, 3) := by decide +kernel
theorem dX8_way_49 : decode cX8_way 49 = .ok (.iload_n 2, 1) := by decide +kernel
theorem dX8_way_50 : decode cX8_way 50 = .ok (.invokestatic 87, 3) := by decide +kernel
theorem dX8_way_53 : decode cX8_way 53 = .ok (.ireturn, 1) := by decide +kernel
theorem dX8_unway_0 : decode cX8_unway 0 = .ok (.aload_n 0, 1) := by decide +kernel
theorem dX8_unway_1 : decode cX8_unway 1 = .ok (.getfield 12, 3) := by decide +kernel
theorem dX8_unway_4 : decode cX8_unway 4 = .ok (.iload_n 1, 1) := by decide +kernel
theorem dX8_unway_5 : decode cX8_unway 5 = .ok (.invokevirtual 50, 3) := by decide +kernel
theorem dX8_unway_8 : decode cX8_unway 8 = .ok (.astore_n 2, 1) := by decide +kernel
theorem dX8_unway_9 : decode cX8_unway 9 = .ok (.aload_n 2, 1) := by decide +kernel
theorem dX8_unway_10 : decode cX8_unway 10 = .ok (.ifnonnull 5, 3) := by decide +kernel
theorem dX8_unway_13 : decode cX8_unway 13 = .ok (.iconst (-1), 1) := by decide +kernel
theorem dX8_unway_14 : decode cX8_unway 14 = .ok (.ireturn, 1) := by decide +kernel
theorem dX8_unway_15 : decode cX8_unway 15 = .ok (.aload_n 2, 1) := by decide +kernel
theorem dX8_unway_16 : decode cX8_unway 16 = .ok (.getfield 91, 3) := by decide +kernel
theorem dX8_unway_19 : decode cX8_unway 19 = .ok (.invokevirtual 99, 3) := by decide +kernel
theorem dX8_unway_22 : decode cX8_unway 22 = .ok (.istore_n 3, 1) := by decide +kernel
theorem dX8_unway_23 : decode cX8_unway 23 = .ok (.aload_n 2, 1) := by decide +kernel
theorem dX8_unway_24 : decode cX8_unway 24 = .ok (.getfield 91, 3) := by decide +kernel
theorem dX8_unway_27 : decode cX8_unway 27 = .ok (.invokevirtual 103, 3) := by decide +kernel
theorem dX8_unway_30 : decode cX8_unway 30 = .ok (.iload_n 3, 1) := by decide +kernel
theorem dX8_unway_31 : decode cX8_unway 31 = .ok (.ireturn, 1) := by decide +kernel
theorem dX8_use_0 : decode cX8_use 0 = .ok (.aload_n 0, 1) := by decide +kernel
theorem dX8_use_1 : decode cX8_use 1 = .ok (.getfield 12, 3) := by decide +kernel
theorem dX8_use_4 : decode cX8_use 4 = .ok (.iload_n 1, 1) := by decide +kernel
theorem dX8_use_5 : decode cX8_use 5 = .ok (.invokevirtual 50, 3) := by decide +kernel
theorem dX8_use_8 : decode cX8_use 8 = .ok (.astore 4, 2) := by decide +kernel
theorem dX8_use_10 : decode cX8_use 10 = .ok (.aload 4, 2) := by decide +kernel
theorem dX8_use_12 : decode cX8_use 12 = .ok (.ifnonnull 5, 3) := by decide +kernel
theorem dX8_use_15 : decode cX8_use 15 = .ok (.iconst (-1), 1) := by decide +kernel
theorem dX8_use_16 : decode cX8_use 16 = .ok (.ireturn, 1) := by decide +kernel
theorem dX8_use_17 : decode cX8_use 17 = .ok (.iload_n 2, 1) := by decide +kernel
theorem dX8_use_18 : decode cX8_use 18 = .ok (.ifCond .eq 8, 3) := by decide +kernel
theorem dX8_use_21 : decode cX8_use 21 = .ok (.iload_n 2, 1) := by decide +kernel
theorem dX8_use_22 : decode cX8_use 22 = .ok (.iconst 1, 1) := by decide +kernel
theorem dX8_use_23 : decode cX8_use 23 = .ok (.if_icmp .ne 12, 3) := by decide +kernel
theorem dX8_use_26 : decode cX8_use 26 = .ok (.iload_n 3, 1) := by decide +kernel
theorem dX8_use_27 : decode cX8_use 27 = .ok (.bipush 32, 2) := by decide +kernel
theorem dX8_use_29 : decode cX8_use 29 = .ok (.invokestatic 54, 3) := by decide +kernel
theorem dX8_use_32 : decode cX8_use 32 = .ok (.ifCond .ne 6, 3) := by decide +kernel
theorem dX8_use_35 : decode cX8_use 35 = .ok (.bipush (-2), 2) := by decide +kernel
theorem dX8_use_37 : decode cX8_use 37 = .ok (.ireturn, 1) := by decide +kernel
theorem dX8_use_38 : decode cX8_use 38 = .ok (.iload_n 2, 1) := by decide +kernel
theorem dX8_use_39 : decode cX8_use 39 = .ok (.iload_n 3, 1) := by decide +kernel
theorem dX8_use_40 : decode cX8_use 40 = .ok (.invokestatic 58, 3) := by decide +kernel
theorem dX8_use_43 : decode cX8_use 43 = .ok (.istore 5, 2) := by decide +kernel
theorem dX8_use_45 : decode cX8_use 45 = .ok (.aload 4, 2) := by decide +kernel
theorem dX8_use_47 : decode cX8_use 47 = .ok (.getfield 106, 3) := by decide +kernel
theorem dX8_use_50 : decode cX8_use 50 = .ok (.iload 5, 2) := by decide +kernel
theorem dX8_use_52 : decode cX8_use 52 = .ok (.invokevirtual 94, 3) := by decide +kernel
theorem dX8_use_55 : decode cX8_use 55 = .ok (.ifCond .eq 6, 3) := by decide +kernel
theorem dX8_use_58 : decode cX8_use 58 = .ok (.bipush (-3), 2) := by decide +kernel
theorem dX8_use_60 : decode cX8_use 60 = .ok (.ireturn, 1) := by decide +kernel
theorem dX8_use_61 : decode cX8_use 61 = .ok (.aload 4, 2) := by decide +kernel
theorem dX8_use_63 : decode cX8_use 63 = .ok (.getfield 106, 3) := by decide +kernel
theorem dX8_use_66 : decode cX8_use 66 = .ok (.iload 5, 2) := by decide +kernel
theorem dX8_use_68 : decode cX8_use 68 = .ok (.invokestatic 87, 3) := by decide +kernel
theorem dX8_use_71 : decode cX8_use 71 = .ok (.ireturn, 1) := by decide +kernel
theorem dX8_unuse_0 : decode cX8_unuse 0 = .ok (.aload_n 0, 1) := by decide +kernel
theorem dX8_unuse_1 : decode cX8_unuse 1 = .ok (.getfield 12, 3) := by decide +kernel
theorem dX8_unuse_4 : decode cX8_unuse 4 = .ok (.iload_n 1, 1) := by decide +kernel
theorem dX8_unuse_5 : decode cX8_unuse 5 = .ok (.invokevirtual 50, 3) := by decide +kernel
theorem dX8_unuse_8 : decode cX8_unuse 8 = .ok (.astore_n 3, 1) := by decide +kernel
theorem dX8_unuse_9 : decode cX8_unuse 9 = .ok (.aload_n 3, 1) := by decide +kernel
theorem dX8_unuse_10 : decode cX8_unuse 10 = .ok (.ifnull 17, 3) := by decide +kernel
theorem dX8_unuse_13 : decode cX8_unuse 13 = .ok (.iload_n 2, 1) := by decide +kernel
theorem dX8_unuse_14 : decode cX8_unuse 14 = .ok (.aload_n 3, 1) := by decide +kernel
theorem dX8_unuse_15 : decode cX8_unuse 15 = .ok (.getfield 106, 3) := by decide +kernel
theorem dX8_unuse_18 : decode cX8_unuse 18 = .ok (.invokevirtual 99, 3) := by decide +kernel
theorem dX8_unuse_21 : decode cX8_unuse 21 = .ok (.invokestatic 54, 3) := by decide +kernel
theorem dX8_unuse_24 : decode cX8_unuse 24 = .ok (.ifCond .ne 5, 3) := by decide +kernel
theorem dX8_unuse_27 : decode cX8_unuse 27 = .ok (.iconst (-1), 1) := by decide +kernel
theorem dX8_unuse_28 : decode cX8_unuse 28 = .ok (.ireturn, 1) := by decide +kernel
theorem dX8_unuse_29 : decode cX8_unuse 29 = .ok (.aload_n 3, 1) := by decide +kernel
theorem dX8_unuse_30 : decode cX8_unuse 30 = .ok (.getfield 106, 3) := by decide +kernel
theorem dX8_unuse_33 : decode cX8_unuse 33 = .ok (.iload_n 2, 1) := by decide +kernel
theorem dX8_unuse_34 : decode cX8_unuse 34 = .ok (.invokevirtual 109, 3) := by decide +kernel
theorem dX8_unuse_37 : decode cX8_unuse 37 = .ok (.aload_n 3, 1) := by decide +kernel
theorem dX8_unuse_38 : decode cX8_unuse 38 = .ok (.getfield 106, 3) := by decide +kernel
theorem dX8_unuse_41 : decode cX8_unuse 41 = .ok (.invokevirtual 99, 3) := by decide +kernel
theorem dX8_unuse_44 : decode cX8_unuse 44 = .ok (.ireturn, 1) := by decide +kernel
theorem dX8_reader_0 : decode cX8_reader 0 = .ok (.aload_n 0, 1) := by decide +kernel
theorem dX8_reader_1 : decode cX8_reader 1 = .ok (.getfield 12, 3) := by decide +kernel
theorem dX8_reader_4 : decode cX8_reader 4 = .ok (.iload_n 1, 1) := by decide +kernel
theorem dX8_reader_5 : decode cX8_reader 5 = .ok (.invokevirtual 50, 3) := by decide +kernel
theorem dX8_reader_8 : decode cX8_reader 8 = .ok (.astore_n 3, 1) := by decide +kernel
theorem dX8_reader_9 : decode cX8_reader 9 = .ok (.aload_n 3, 1) := by decide +kernel
theorem dX8_reader_10 : decode cX8_reader 10 = .ok (.ifnonnull 5, 3) := by decide +kernel
theorem dX8_reader_13 : decode cX8_reader 13 = .ok (.iconst (-1), 1) := by decide +kernel
theorem dX8_reader_14 : decode cX8_reader 14 = .ok (.ireturn, 1) := by decide +kernel
theorem dX8_reader_15 : decode cX8_reader 15 = .ok (.aload_n 3, 1) := by decide +kernel
theorem dX8_reader_16 : decode cX8_reader 16 = .ok (.getfield 113, 3) := by decide +kernel
theorem dX8_reader_19 : decode cX8_reader 19 = .ok (.bipush (-5), 2) := by decide +kernel
theorem dX8_reader_21 : decode cX8_reader 21 = .ok (.if_icmp .eq 6, 3) := by decide +kernel
theorem dX8_reader_24 : decode cX8_reader 24 = .ok (.bipush (-3), 2) := by decide +kernel
theorem dX8_reader_26 : decode cX8_reader 26 = .ok (.ireturn, 1) := by decide +kernel
theorem dX8_reader_27 : decode cX8_reader 27 = .ok (.aload_n 3, 1) := by decide +kernel
theorem dX8_reader_28 : decode cX8_reader 28 = .ok (.getfield 116, 3) := by decide +kernel
theorem dX8_reader_31 : decode cX8_reader 31 = .ok (.ifCond .eq 7, 3) := by decide +kernel
theorem dX8_reader_34 : decode cX8_reader 34 = .ok (.iconst 1, 1) := by decide +kernel
theorem dX8_reader_35 : decode cX8_reader 35 = .ok (.goto 4, 3) := by decide +kernel
theorem dX8_reader_38 : decode cX8_reader 38 = .ok (.iconst 0, 1) := by decide +kernel
theorem dX8_reader_39 : decode cX8_reader 39 = .ok (.istore 4, 2) := by decide +kernel
theorem dX8_reader_41 : decode cX8_reader 41 = .ok (.aload_n 3, 1) := by decide +kernel
theorem dX8_reader_42 : decode cX8_reader 42 = .ok (.iload_n 2, 1) := by decide +kernel
theorem dX8_reader_43 : decode cX8_reader 43 = .ok (.putfield 116, 3) := by decide +kernel
theorem dX8_reader_46 : decode cX8_reader 46 = .ok (.iload_n 2, 1) := by decide +kernel
theorem dX8_reader_47 : decode cX8_reader 47 = .ok (.ifCond .ne 11, 3) := by decide +kernel
theorem dX8_reader_50 : decode cX8_reader 50 = .ok (.aload_n 0, 1) := by decide +kernel
theorem dX8_reader_51 : decode cX8_reader 51 = .ok (.getfield 12, 3) := by decide +kernel
theorem dX8_reader_54 : decode cX8_reader 54 = .ok (.iload_n 1, 1) := by decide +kernel
theorem dX8_reader_55 : decode cX8_reader 55 = .ok (.invokevirtual 119, 3) := by decide +kernel
theorem dX8_reader_58 : decode cX8_reader 58 = .ok (.iload 4, 2) := by decide +kernel
theorem dX8_reader_60 : decode cX8_reader 60 = .ok (.ireturn, 1) := by decide +kernel
theorem dX8_generated_0 : decode cX8_generated 0 = .ok (.aload_n 0, 1) := by decide +kernel
theorem dX8_generated_1 : decode cX8_generated 1 = .ok (.getfield 12, 3) := by decide +kernel
theorem dX8_generated_4 : decode cX8_generated 4 = .ok (.iload_n 1, 1) := by decide +kernel
theorem dX8_generated_5 : decode cX8_generated 5 = .ok (.invokevirtual 50, 3) := by decide +kernel
theorem dX8_generated_8 : decode cX8_generated 8 = .ok (.astore_n 3, 1) := by decide +kernel
theorem dX8_generated_9 : decode cX8_generated 9 = .ok (.aload_n 0, 1) := by decide +kernel
theorem dX8_generated_10 : decode cX8_generated 10 = .ok (.getfield 12, 3) := by decide +kernel
theorem dX8_generated_13 : decode cX8_generated 13 = .ok (.iload_n 2, 1) := by decide +kernel
theorem dX8_generated_14 : decode cX8_generated 14 = .ok (.invokevirtual 50, 3) := by decide +kernel
theorem dX8_generated_17 : decode cX8_generated 17 = .ok (.astore 4, 2) := by decide +kernel
theorem dX8_generated_19 : decode cX8_generated 19 = .ok (.aload_n 3, 1) := by decide +kernel
theorem dX8_generated_20 : decode cX8_generated 20 = .ok (.ifnull 14, 3) := by decide +kernel
theorem dX8_generated_23 : decode cX8_generated 23 = .ok (.aload 4, 2) := by decide +kernel
theorem dX8_generated_25 : decode cX8_generated 25 = .ok (.ifnonnull 11, 3) := by decide +kernel
theorem dX8_generated_28 : decode cX8_generated 28 = .ok (.iload_n 2, 1) := by decide +kernel
theorem dX8_generated_29 : decode cX8_generated 29 = .ok (.bipush (-5), 2) := by decide +kernel
theorem dX8_generated_31 : decode cX8_generated 31 = .ok (.if_icmp .eq 5, 3) := by decide +kernel
theorem dX8_generated_34 : decode cX8_generated 34 = .ok (.iconst (-1), 1) := by decide +kernel
theorem dX8_generated_35 : decode cX8_generated 35 = .ok (.ireturn, 1) := by decide +kernel
theorem dX8_generated_36 : decode cX8_generated 36 = .ok (.aload_n 3, 1) := by decide +kernel
theorem dX8_generated_37 : decode cX8_generated 37 = .ok (.getfield 116, 3) := by decide +kernel
theorem dX8_generated_40 : decode cX8_generated 40 = .ok (.ifCond .ne 16, 3) := by decide +kernel
theorem dX8_generated_43 : decode cX8_generated 43 = .ok (.aload 4, 2) := by decide +kernel
theorem dX8_generated_45 : decode cX8_generated 45 = .ok (.ifnull 14, 3) := by decide +kernel
theorem dX8_generated_48 : decode cX8_generated 48 = .ok (.aload 4, 2) := by decide +kernel
theorem dX8_generated_50 : decode cX8_generated 50 = .ok (.getfield 116, 3) := by decide +kernel
theorem dX8_generated_53 : decode cX8_generated 53 = .ok (.ifCond .ne 6, 3) := by decide +kernel
theorem dX8_generated_56 : decode cX8_generated 56 = .ok (.bipush (-3), 2) := by decide +kernel
theorem dX8_generated_58 : decode cX8_generated 58 = .ok (.ireturn, 1) := by decide +kernel
theorem dX8_generated_59 : decode cX8_generated 59 = .ok (.aload_n 3, 1) := by decide +kernel
theorem dX8_generated_60 : decode cX8_generated 60 = .ok (.iload_n 2, 1) := by decide +kernel
theorem dX8_generated_61 : decode cX8_generated 61 = .ok (.putfield 113, 3) := by decide +kernel
theorem dX8_generated_64 : decode cX8_generated 64 = .ok (.iconst 1, 1) := by decide +kernel
theorem dX8_generated_65 : decode cX8_generated 65 = .ok (.ireturn, 1) := by decide +kernel
theorem dX8_remove_0 : decode cX8_remove 0 = .ok (.aload_n 0, 1) := by decide +kernel
theorem dX8_remove_1 : decode cX8_remove 1 = .ok (.getfield 12, 3) := by decide +kernel
theorem dX8_remove_4 : decode cX8_remove 4 = .ok (.iload_n 1, 1) := by decide +kernel
theorem dX8_remove_5 : decode cX8_remove 5 = .ok (.invokevirtual 50, 3) := by decide +kernel
theorem dX8_remove_8 : decode cX8_remove 8 = .ok (.ifnonnull 5, 3) := by decide +kernel
theorem dX8_remove_11 : decode cX8_remove 11 = .ok (.iconst (-1), 1) := by decide +kernel
theorem dX8_remove_12 : decode cX8_remove 12 = .ok (.ireturn, 1) := by decide +kernel
theorem dX8_remove_13 : decode cX8_remove 13 = .ok (.aload_n 0, 1) := by decide +kernel
theorem dX8_remove_14 : decode cX8_remove 14 = .ok (.getfield 12, 3) := by decide +kernel
theorem dX8_remove_17 : decode cX8_remove 17 = .ok (.iload_n 1, 1) := by decide +kernel
theorem dX8_remove_18 : decode cX8_remove 18 = .ok (.invokevirtual 122, 3) := by decide +kernel
theorem dX8_remove_21 : decode cX8_remove 21 = .ok (.aload_n 0, 1) := by decide +kernel
theorem dX8_remove_22 : decode cX8_remove 22 = .ok (.getfield 12, 3) := by decide +kernel
theorem dX8_remove_25 : decode cX8_remove 25 = .ok (.invokevirtual 125, 3) := by decide +kernel
theorem dX8_remove_28 : decode cX8_remove 28 = .ok (.ireturn, 1) := by decide +kernel
theorem dX8_found_0 : decode cX8_found 0 = .ok (.aload_n 0, 1) := by decide +kernel
theorem dX8_found_1 : decode cX8_found 1 = .ok (.getfield 12, 3) := by decide +kernel
theorem dX8_found_4 : decode cX8_found 4 = .ok (.iload_n 1, 1) := by decide +kernel
theorem dX8_found_5 : decode cX8_found 5 = .ok (.invokevirtual 50, 3) := by decide +kernel
theorem dX8_found_8 : decode cX8_found 8 = .ok (.astore 4, 2) := by decide +kernel
theorem dX8_found_10 : decode cX8_found 10 = .ok (.aload 4, 2) := by decide +kernel
theorem dX8_found_12 : decode cX8_found 12 = .ok (.ifnonnull 5, 3) := by decide +kernel
theorem dX8_found_15 : decode cX8_found 15 = .ok (.iconst (-1), 1) := by decide +kernel
theorem dX8_found_16 : decode cX8_found 16 = .ok (.ireturn, 1) := by decide +kernel
theorem dX8_found_17 : decode cX8_found 17 = .ok (.iload_n 2, 1) := by decide +kernel
theorem dX8_found_18 : decode cX8_found 18 = .ok (.iconst 3, 1) := by decide +kernel
theorem dX8_found_19 : decode cX8_found 19 = .ok (.invokestatic 54, 3) := by decide +kernel
theorem dX8_found_22 : decode cX8_found 22 = .ok (.ifCond .eq 12, 3) := by decide +kernel
theorem dX8_found_25 : decode cX8_found 25 = .ok (.iload_n 3, 1) := by decide +kernel
theorem dX8_found_26 : decode cX8_found 26 = .ok (.bipush 32, 2) := by decide +kernel
theorem dX8_found_28 : decode cX8_found 28 = .ok (.invokestatic 54, 3) := by decide +kernel
theorem dX8_found_31 : decode cX8_found 31 = .ok (.ifCond .ne 6, 3) := by decide +kernel
theorem dX8_found_34 : decode cX8_found 34 = .ok (.bipush (-2), 2) := by decide +kernel
theorem dX8_found_36 : decode cX8_found 36 = .ok (.ireturn, 1) := by decide +kernel
theorem dX8_found_37 : decode cX8_found 37 = .ok (.aload_n 0, 1) := by decide +kernel
theorem dX8_found_38 : decode cX8_found 38 = .ok (.getfield 12, 3) := by decide +kernel
theorem dX8_found_41 : decode cX8_found 41 = .ok (.aload 4, 2) := by decide +kernel
theorem dX8_found_43 : decode cX8_found 43 = .ok (.iload_n 2, 1) := by decide +kernel
theorem dX8_found_44 : decode cX8_found 44 = .ok (.iload_n 3, 1) := by decide +kernel
theorem dX8_found_45 : decode cX8_found 45 = .ok (.invokestatic 58, 3) := by decide +kernel
theorem dX8_found_48 : decode cX8_found 48 = .ok (.invokevirtual 128, 3) := by decide +kernel
theorem dX8_found_51 : decode cX8_found 51 = .ok (.astore 5, 2) := by decide +kernel
theorem dX8_found_53 : decode cX8_found 53 = .ok (.aload 5, 2) := by decide +kernel
theorem dX8_found_55 : decode cX8_found 55 = .ok (.ifnonnull 8, 3) := by decide +kernel
theorem dX8_found_58 : decode cX8_found 58 = .ok (.bipush (-5), 2) := by decide +kernel
theorem dX8_found_60 : decode cX8_found 60 = .ok (.goto 8, 3) := by decide +kernel
theorem dX8_found_63 : decode cX8_found 63 = .ok (.aload 5, 2) := by decide +kernel
theorem dX8_found_65 : decode cX8_found 65 = .ok (.getfield 132, 3) := by decide +kernel
theorem dX8_found_68 : decode cX8_found 68 = .ok (.ireturn, 1) := by decide +kernel
theorem dX8_value_0 : decode cX8_value 0 = .ok (.aload_n 0, 1) := by decide +kernel
theorem dX8_value_1 : decode cX8_value 1 = .ok (.iload_n 1, 1) := by decide +kernel
theorem dX8_value_2 : decode cX8_value 2 = .ok (.iload_n 2, 1) := by decide +kernel
theorem dX8_value_3 : decode cX8_value 3 = .ok (.invokevirtual 135, 3) := by decide +kernel
theorem dX8_value_6 : decode cX8_value 6 = .ok (.astore_n 3, 1) := by decide +kernel
theorem dX8_value_7 : decode cX8_value 7 = .ok (.aload_n 3, 1) := by decide +kernel
theorem dX8_value_8 : decode cX8_value 8 = .ok (.ifnonnull 5, 3) := by decide +kernel
theorem dX8_value_11 : decode cX8_value 11 = .ok (.lconst 0, 1) := by decide +kernel
theorem dX8_value_12 : decode cX8_value 12 = .ok (.lreturn, 1) := by decide +kernel
theorem dX8_value_13 : decode cX8_value 13 = .ok (.aload_n 0, 1) := by decide +kernel
theorem dX8_value_14 : decode cX8_value 14 = .ok (.getfield 19, 3) := by decide +kernel
theorem dX8_value_17 : decode cX8_value 17 = .ok (.aload_n 0, 1) := by decide +kernel
theorem dX8_value_18 : decode cX8_value 18 = .ok (.getfield 12, 3) := by decide +kernel
theorem dX8_value_21 : decode cX8_value 21 = .ok (.invokevirtual 139, 3) := by decide +kernel
theorem dX8_value_24 : decode cX8_value 24 = .ok (.aload_n 3, 1) := by decide +kernel
theorem dX8_value_25 : decode cX8_value 25 = .ok (.getfield 143, 3) := by decide +kernel
theorem dX8_value_28 : decode cX8_value 28 = .ok (.lreturn, 1) := by decide +kernel
theorem dX8_round_0 : decode cX8_round 0 = .ok (.aload_n 0, 1) := by decide +kernel
theorem dX8_round_1 : decode cX8_round 1 = .ok (.iload_n 1, 1) := by decide +kernel
theorem dX8_round_2 : decode cX8_round 2 = .ok (.iload_n 2, 1) := by decide +kernel
theorem dX8_round_3 : decode cX8_round 3 = .ok (.invokevirtual 135, 3) := by decide +kernel
theorem dX8_round_6 : decode cX8_round 6 = .ok (.astore_n 3, 1) := by decide +kernel
theorem dX8_round_7 : decode cX8_round 7 = .ok (.aload_n 3, 1) := by decide +kernel
theorem dX8_round_8 : decode cX8_round 8 = .ok (.ifnonnull 5, 3) := by decide +kernel
theorem dX8_round_11 : decode cX8_round 11 = .ok (.iconst (-1), 1) := by decide +kernel
theorem dX8_round_12 : decode cX8_round 12 = .ok (.ireturn, 1) := by decide +kernel
theorem dX8_round_13 : decode cX8_round 13 = .ok (.aload_n 0, 1) := by decide +kernel
theorem dX8_round_14 : decode cX8_round 14 = .ok (.getfield 19, 3) := by decide +kernel
theorem dX8_round_17 : decode cX8_round 17 = .ok (.aload_n 0, 1) := by decide +kernel
theorem dX8_round_18 : decode cX8_round 18 = .ok (.getfield 12, 3) := by decide +kernel
theorem dX8_round_21 : decode cX8_round 21 = .ok (.invokevirtual 139, 3) := by decide +kernel
theorem dX8_round_24 : decode cX8_round 24 = .ok (.aload_n 3, 1) := by decide +kernel
theorem dX8_round_25 : decode cX8_round 25 = .ok (.getfield 146, 3) := by decide +kernel
theorem dX8_round_28 : decode cX8_round 28 = .ok (.ifCond .eq 7, 3) := by decide +kernel
theorem dX8_round_31 : decode cX8_round 31 = .ok (.iconst 1, 1) := by decide +kernel
theorem dX8_round_32 : decode cX8_round 32 = .ok (.goto 4, 3) := by decide +kernel
theorem dX8_round_35 : decode cX8_round 35 = .ok (.iconst 0, 1) := by decide +kernel
theorem dX8_round_36 : decode cX8_round 36 = .ok (.ireturn, 1) := by decide +kernel
theorem dX8_chain_0 : decode cX8_chain 0 = .ok (.aload_n 0, 1) := by decide +kernel
theorem dX8_chain_1 : decode cX8_chain 1 = .ok (.iload_n 1, 1) := by decide +kernel
theorem dX8_chain_2 : decode cX8_chain 2 = .ok (.iload_n 2, 1) := by decide +kernel
theorem dX8_chain_3 : decode cX8_chain 3 = .ok (.invokevirtual 135, 3) := by decide +kernel
theorem dX8_chain_6 : decode cX8_chain 6 = .ok (.astore 5, 2) := by decide +kernel
theorem dX8_chain_8 : decode cX8_chain 8 = .ok (.aload 5, 2) := by decide +kernel
theorem dX8_chain_10 : decode cX8_chain 10 = .ok (.ifnonnull 5, 3) := by decide +kernel
theorem dX8_chain_13 : decode cX8_chain 13 = .ok (.iconst (-1), 1) := by decide +kernel
theorem dX8_chain_14 : decode cX8_chain 14 = .ok (.ireturn, 1) := by decide +kernel
theorem dX8_chain_15 : decode cX8_chain 15 = .ok (.iload 4, 2) := by decide +kernel
theorem dX8_chain_17 : decode cX8_chain 17 = .ok (.ifCond .eq 12, 3) := by decide +kernel
theorem dX8_chain_20 : decode cX8_chain 20 = .ok (.iload 4, 2) := by decide +kernel
theorem dX8_chain_22 : decode cX8_chain 22 = .ok (.iconst 1, 1) := by decide +kernel
theorem dX8_chain_23 : decode cX8_chain 23 = .ok (.if_icmp .eq 6, 3) := by decide +kernel
theorem dX8_chain_26 : decode cX8_chain 26 = .ok (.bipush (-2), 2) := by decide +kernel
theorem dX8_chain_28 : decode cX8_chain 28 = .ok (.ireturn, 1) := by decide +kernel
theorem dX8_chain_29 : decode cX8_chain 29 = .ok (.aload_n 0, 1) := by decide +kernel
theorem dX8_chain_30 : decode cX8_chain 30 = .ok (.getfield 19, 3) := by decide +kernel
theorem dX8_chain_33 : decode cX8_chain 33 = .ok (.aload 5, 2) := by decide +kernel
theorem dX8_chain_35 : decode cX8_chain 35 = .ok (.aload_n 0, 1) := by decide +kernel
theorem dX8_chain_36 : decode cX8_chain 36 = .ok (.getfield 12, 3) := by decide +kernel
theorem dX8_chain_39 : decode cX8_chain 39 = .ok (.invokevirtual 149, 3) := by decide +kernel
theorem dX8_chain_42 : decode cX8_chain 42 = .ok (.aload_n 0, 1) := by decide +kernel
theorem dX8_chain_43 : decode cX8_chain 43 = .ok (.getfield 19, 3) := by decide +kernel
theorem dX8_chain_46 : decode cX8_chain 46 = .ok (.iload_n 3, 1) := by decide +kernel
theorem dX8_chain_47 : decode cX8_chain 47 = .ok (.invokevirtual 153, 3) := by decide +kernel
theorem dX8_chain_50 : decode cX8_chain 50 = .ok (.astore 6, 2) := by decide +kernel
theorem dX8_chain_52 : decode cX8_chain 52 = .ok (.aload 6, 2) := by decide +kernel
theorem dX8_chain_54 : decode cX8_chain 54 = .ok (.ifnonnull 6, 3) := by decide +kernel
theorem dX8_chain_57 : decode cX8_chain 57 = .ok (.bipush (-5), 2) := by decide +kernel
theorem dX8_chain_59 : decode cX8_chain 59 = .ok (.ireturn, 1) := by decide +kernel
theorem dX8_chain_60 : decode cX8_chain 60 = .ok (.iload 4, 2) := by decide +kernel
theorem dX8_chain_62 : decode cX8_chain 62 = .ok (.ifCond .ne 11, 3) := by decide +kernel
theorem dX8_chain_65 : decode cX8_chain 65 = .ok (.aload 6, 2) := by decide +kernel
theorem dX8_chain_67 : decode cX8_chain 67 = .ok (.getfield 132, 3) := by decide +kernel
theorem dX8_chain_70 : decode cX8_chain 70 = .ok (.goto 11, 3) := by decide +kernel
theorem dX8_chain_73 : decode cX8_chain 73 = .ok (.aload 6, 2) := by decide +kernel
theorem dX8_chain_75 : decode cX8_chain 75 = .ok (.getfield 156, 3) := by decide +kernel
theorem dX8_chain_78 : decode cX8_chain 78 = .ok (.invokestatic 159, 3) := by decide +kernel
theorem dX8_chain_81 : decode cX8_chain 81 = .ok (.ireturn, 1) := by decide +kernel
theorem dX8_missing_0 : decode cX8_missing 0 = .ok (.aload_n 0, 1) := by decide +kernel
theorem dX8_missing_1 : decode cX8_missing 1 = .ok (.getfield 12, 3) := by decide +kernel
theorem dX8_missing_4 : decode cX8_missing 4 = .ok (.iload_n 1, 1) := by decide +kernel
theorem dX8_missing_5 : decode cX8_missing 5 = .ok (.invokevirtual 50, 3) := by decide +kernel
theorem dX8_missing_8 : decode cX8_missing 8 = .ok (.astore_n 2, 1) := by decide +kernel
theorem dX8_missing_9 : decode cX8_missing 9 = .ok (.aload_n 2, 1) := by decide +kernel
theorem dX8_missing_10 : decode cX8_missing 10 = .ok (.ifnonnull 7, 3) := by decide +kernel
theorem dX8_missing_13 : decode cX8_missing 13 = .ok (.iconst (-1), 1) := by decide +kernel
theorem dX8_missing_14 : decode cX8_missing 14 = .ok (.goto 11, 3) := by decide +kernel
theorem dX8_missing_17 : decode cX8_missing 17 = .ok (.aload_n 0, 1) := by decide +kernel
theorem dX8_missing_18 : decode cX8_missing 18 = .ok (.getfield 12, 3) := by decide +kernel
theorem dX8_missing_21 : decode cX8_missing 21 = .ok (.aload_n 2, 1) := by decide +kernel
theorem dX8_missing_22 : decode cX8_missing 22 = .ok (.invokevirtual 163, 3) := by decide +kernel
theorem dX8_missing_25 : decode cX8_missing 25 = .ok (.ireturn, 1) := by decide +kernel
theorem dX8_size_0 : decode cX8_size 0 = .ok (.aload_n 0, 1) := by decide +kernel
theorem dX8_size_1 : decode cX8_size 1 = .ok (.getfield 12, 3) := by decide +kernel
theorem dX8_size_4 : decode cX8_size 4 = .ok (.iload_n 1, 1) := by decide +kernel
theorem dX8_size_5 : decode cX8_size 5 = .ok (.invokevirtual 50, 3) := by decide +kernel
theorem dX8_size_8 : decode cX8_size 8 = .ok (.astore_n 2, 1) := by decide +kernel
theorem dX8_size_9 : decode cX8_size 9 = .ok (.aload_n 2, 1) := by decide +kernel
theorem dX8_size_10 : decode cX8_size 10 = .ok (.ifnonnull 5, 3) := by decide +kernel
theorem dX8_size_13 : decode cX8_size 13 = .ok (.iconst (-1), 1) := by decide +kernel
theorem dX8_size_14 : decode cX8_size 14 = .ok (.ireturn, 1) := by decide +kernel
theorem dX8_size_15 : decode cX8_size 15 = .ok (.aload_n 0, 1) := by decide +kernel
theorem dX8_size_16 : decode cX8_size 16 = .ok (.getfield 19, 3) := by decide +kernel
theorem dX8_size_19 : decode cX8_size 19 = .ok (.aload_n 0, 1) := by decide +kernel
theorem dX8_size_20 : decode cX8_size 20 = .ok (.getfield 12, 3) := by decide +kernel
theorem dX8_size_23 : decode cX8_size 23 = .ok (.invokevirtual 139, 3) := by decide +kernel
theorem dX8_size_26 : decode cX8_size 26 = .ok (.aload_n 0, 1) := by decide +kernel
theorem dX8_size_27 : decode cX8_size 27 = .ok (.getfield 26, 3) := by decide +kernel
theorem dX8_size_30 : decode cX8_size 30 = .ok (.aload_n 2, 1) := by decide +kernel
theorem dX8_size_31 : decode cX8_size 31 = .ok (.aload_n 0, 1) := by decide +kernel
theorem dX8_size_32 : decode cX8_size 32 = .ok (.getfield 12, 3) := by decide +kernel
theorem dX8_size_35 : decode cX8_size 35 = .ok (.invokevirtual 167, 3) := by decide +kernel
theorem dX8_size_38 : decode cX8_size 38 = .ok (.invokevirtual 171, 3) := by decide +kernel
theorem dX8_size_41 : decode cX8_size 41 = .ok (.ireturn, 1) := by decide +kernel
theorem dX8_row_0 : decode cX8_row 0 = .ok (.aload_n 0, 1) := by decide +kernel
theorem dX8_row_1 : decode cX8_row 1 = .ok (.getfield 12, 3) := by decide +kernel
theorem dX8_row_4 : decode cX8_row 4 = .ok (.iload_n 1, 1) := by decide +kernel
theorem dX8_row_5 : decode cX8_row 5 = .ok (.invokevirtual 50, 3) := by decide +kernel
theorem dX8_row_8 : decode cX8_row 8 = .ok (.astore_n 3, 1) := by decide +kernel
theorem dX8_row_9 : decode cX8_row 9 = .ok (.aload_n 3, 1) := by decide +kernel
theorem dX8_row_10 : decode cX8_row 10 = .ok (.ifnonnull 5, 3) := by decide +kernel
theorem dX8_row_13 : decode cX8_row 13 = .ok (.lconst 0, 1) := by decide +kernel
theorem dX8_row_14 : decode cX8_row 14 = .ok (.lreturn, 1) := by decide +kernel
theorem dX8_row_15 : decode cX8_row 15 = .ok (.aload_n 0, 1) := by decide +kernel
theorem dX8_row_16 : decode cX8_row 16 = .ok (.getfield 19, 3) := by decide +kernel
theorem dX8_row_19 : decode cX8_row 19 = .ok (.aload_n 0, 1) := by decide +kernel
theorem dX8_row_20 : decode cX8_row 20 = .ok (.getfield 12, 3) := by decide +kernel
theorem dX8_row_23 : decode cX8_row 23 = .ok (.invokevirtual 139, 3) := by decide +kernel
theorem dX8_row_26 : decode cX8_row 26 = .ok (.aload_n 0, 1) := by decide +kernel
theorem dX8_row_27 : decode cX8_row 27 = .ok (.getfield 26, 3) := by decide +kernel
theorem dX8_row_30 : decode cX8_row 30 = .ok (.aload_n 3, 1) := by decide +kernel
theorem dX8_row_31 : decode cX8_row 31 = .ok (.aload_n 0, 1) := by decide +kernel
theorem dX8_row_32 : decode cX8_row 32 = .ok (.getfield 12, 3) := by decide +kernel
theorem dX8_row_35 : decode cX8_row 35 = .ok (.invokevirtual 167, 3) := by decide +kernel
theorem dX8_row_38 : decode cX8_row 38 = .ok (.astore 4, 2) := by decide +kernel
theorem dX8_row_40 : decode cX8_row 40 = .ok (.iload_n 2, 1) := by decide +kernel
theorem dX8_row_41 : decode cX8_row 41 = .ok (.aload 4, 2) := by decide +kernel
theorem dX8_row_43 : decode cX8_row 43 = .ok (.invokevirtual 171, 3) := by decide +kernel
theorem dX8_row_46 : decode cX8_row 46 = .ok (.invokestatic 54, 3) := by decide +kernel
theorem dX8_row_49 : decode cX8_row 49 = .ok (.ifCond .ne 13, 3) := by decide +kernel
theorem dX8_row_52 : decode cX8_row 52 = .ok (.new 174, 3) := by decide +kernel
theorem dX8_row_55 : decode cX8_row 55 = .ok (.dup, 1) := by decide +kernel
theorem dX8_row_56 : decode cX8_row 56 = .ok (.ldc 176, 2) := by decide +kernel
theorem dX8_row_58 : decode cX8_row 58 = .ok (.invokespecial 178, 3) := by decide +kernel
theorem dX8_row_61 : decode cX8_row 61 = .ok (.athrow, 1) := by decide +kernel
theorem dX8_row_62 : decode cX8_row 62 = .ok (.aload 4, 2) := by decide +kernel
theorem dX8_row_64 : decode cX8_row 64 = .ok (.iload_n 2, 1) := by decide +kernel
theorem dX8_row_65 : decode cX8_row 65 = .ok (.invokevirtual 181, 3) := by decide +kernel
theorem dX8_row_68 : decode cX8_row 68 = .ok (.lreturn, 1) := by decide +kernel
theorem dX8_kept_0 : decode cX8_kept 0 = .ok (.aload_n 0, 1) := by decide +kernel
theorem dX8_kept_1 : decode cX8_kept 1 = .ok (.getfield 12, 3) := by decide +kernel
theorem dX8_kept_4 : decode cX8_kept 4 = .ok (.iload_n 1, 1) := by decide +kernel
theorem dX8_kept_5 : decode cX8_kept 5 = .ok (.invokevirtual 50, 3) := by decide +kernel
theorem dX8_kept_8 : decode cX8_kept 8 = .ok (.astore_n 3, 1) := by decide +kernel
theorem dX8_kept_9 : decode cX8_kept 9 = .ok (.aload_n 3, 1) := by decide +kernel
theorem dX8_kept_10 : decode cX8_kept 10 = .ok (.ifnonnull 5, 3) := by decide +kernel
theorem dX8_kept_13 : decode cX8_kept 13 = .ok (.lconst 0, 1) := by decide +kernel
theorem dX8_kept_14 : decode cX8_kept 14 = .ok (.lreturn, 1) := by decide +kernel
theorem dX8_kept_15 : decode cX8_kept 15 = .ok (.aload_n 3, 1) := by decide +kernel
theorem dX8_kept_16 : decode cX8_kept 16 = .ok (.getfield 184, 3) := by decide +kernel
theorem dX8_kept_19 : decode cX8_kept 19 = .ok (.ifCond .ne 13, 3) := by decide +kernel
theorem dX8_kept_22 : decode cX8_kept 22 = .ok (.new 187, 3) := by decide +kernel
theorem dX8_kept_25 : decode cX8_kept 25 = .ok (.dup, 1) := by decide +kernel
theorem dX8_kept_26 : decode cX8_kept 26 = .ok (.ldc 189, 2) := by decide +kernel
theorem dX8_kept_28 : decode cX8_kept 28 = .ok (.invokespecial 191, 3) := by decide +kernel
theorem dX8_kept_31 : decode cX8_kept 31 = .ok (.athrow, 1) := by decide +kernel
theorem dX8_kept_32 : decode cX8_kept 32 = .ok (.iload_n 2, 1) := by decide +kernel
theorem dX8_kept_33 : decode cX8_kept 33 = .ok (.aload_n 3, 1) := by decide +kernel
theorem dX8_kept_34 : decode cX8_kept 34 = .ok (.getfield 192, 3) := by decide +kernel
theorem dX8_kept_37 : decode cX8_kept 37 = .ok (.invokevirtual 171, 3) := by decide +kernel
theorem dX8_kept_40 : decode cX8_kept 40 = .ok (.invokestatic 54, 3) := by decide +kernel
theorem dX8_kept_43 : decode cX8_kept 43 = .ok (.ifCond .ne 13, 3) := by decide +kernel
theorem dX8_kept_46 : decode cX8_kept 46 = .ok (.new 174, 3) := by decide +kernel
theorem dX8_kept_49 : decode cX8_kept 49 = .ok (.dup, 1) := by decide +kernel
theorem dX8_kept_50 : decode cX8_kept 50 = .ok (.ldc 196, 2) := by decide +kernel
theorem dX8_kept_52 : decode cX8_kept 52 = .ok (.invokespecial 178, 3) := by decide +kernel
theorem dX8_kept_55 : decode cX8_kept 55 = .ok (.athrow, 1) := by decide +kernel
theorem dX8_kept_56 : decode cX8_kept 56 = .ok (.aload_n 3, 1) := by decide +kernel
theorem dX8_kept_57 : decode cX8_kept 57 = .ok (.getfield 192, 3) := by decide +kernel
theorem dX8_kept_60 : decode cX8_kept 60 = .ok (.iload_n 2, 1) := by decide +kernel
theorem dX8_kept_61 : decode cX8_kept 61 = .ok (.invokevirtual 181, 3) := by decide +kernel
theorem dX8_kept_64 : decode cX8_kept 64 = .ok (.lreturn, 1) := by decide +kernel
theorem dX8_why_0 : decode cX8_why 0 = .ok (.aload_n 0, 1) := by decide +kernel
theorem dX8_why_1 : decode cX8_why 1 = .ok (.getfield 12, 3) := by decide +kernel
theorem dX8_why_4 : decode cX8_why 4 = .ok (.iload_n 1, 1) := by decide +kernel
theorem dX8_why_5 : decode cX8_why 5 = .ok (.invokevirtual 50, 3) := by decide +kernel
theorem dX8_why_8 : decode cX8_why 8 = .ok (.astore_n 2, 1) := by decide +kernel
theorem dX8_why_9 : decode cX8_why 9 = .ok (.aload_n 2, 1) := by decide +kernel
theorem dX8_why_10 : decode cX8_why 10 = .ok (.ifnonnull 5, 3) := by decide +kernel
theorem dX8_why_13 : decode cX8_why 13 = .ok (.iconst (-1), 1) := by decide +kernel
theorem dX8_why_14 : decode cX8_why 14 = .ok (.ireturn, 1) := by decide +kernel
theorem dX8_why_15 : decode cX8_why 15 = .ok (.aload_n 0, 1) := by decide +kernel
theorem dX8_why_16 : decode cX8_why 16 = .ok (.getfield 19, 3) := by decide +kernel
theorem dX8_why_19 : decode cX8_why 19 = .ok (.aload_n 0, 1) := by decide +kernel
theorem dX8_why_20 : decode cX8_why 20 = .ok (.getfield 12, 3) := by decide +kernel
theorem dX8_why_23 : decode cX8_why 23 = .ok (.invokevirtual 139, 3) := by decide +kernel
theorem dX8_why_26 : decode cX8_why 26 = .ok (.aload_n 0, 1) := by decide +kernel
theorem dX8_why_27 : decode cX8_why 27 = .ok (.getfield 26, 3) := by decide +kernel
theorem dX8_why_30 : decode cX8_why 30 = .ok (.aload_n 2, 1) := by decide +kernel
theorem dX8_why_31 : decode cX8_why 31 = .ok (.aload_n 0, 1) := by decide +kernel
theorem dX8_why_32 : decode cX8_why 32 = .ok (.getfield 12, 3) := by decide +kernel
theorem dX8_why_35 : decode cX8_why 35 = .ok (.invokevirtual 198, 3) := by decide +kernel
theorem dX8_why_38 : decode cX8_why 38 = .ok (.ireturn, 1) := by decide +kernel
theorem dX8_needs_0 : decode cX8_needs 0 = .ok (.aload_n 0, 1) := by decide +kernel
theorem dX8_needs_1 : decode cX8_needs 1 = .ok (.getfield 19, 3) := by decide +kernel
theorem dX8_needs_4 : decode cX8_needs 4 = .ok (.aload_n 0, 1) := by decide +kernel
theorem dX8_needs_5 : decode cX8_needs 5 = .ok (.getfield 12, 3) := by decide +kernel
theorem dX8_needs_8 : decode cX8_needs 8 = .ok (.invokevirtual 139, 3) := by decide +kernel
theorem dX8_needs_11 : decode cX8_needs 11 = .ok (.iconst 0, 1) := by decide +kernel
theorem dX8_needs_12 : decode cX8_needs 12 = .ok (.istore_n 1, 1) := by decide +kernel
theorem dX8_needs_13 : decode cX8_needs 13 = .ok (.iconst 0, 1) := by decide +kernel
theorem dX8_needs_14 : decode cX8_needs 14 = .ok (.istore_n 2, 1) := by decide +kernel
theorem dX8_needs_15 : decode cX8_needs 15 = .ok (.iload_n 2, 1) := by decide +kernel
theorem dX8_needs_16 : decode cX8_needs 16 = .ok (.bipush 16, 2) := by decide +kernel
theorem dX8_needs_18 : decode cX8_needs 18 = .ok (.if_icmp .ge 40, 3) := by decide +kernel
theorem dX8_needs_21 : decode cX8_needs 21 = .ok (.aload_n 0, 1) := by decide +kernel
theorem dX8_needs_22 : decode cX8_needs 22 = .ok (.getfield 12, 3) := by decide +kernel
theorem dX8_needs_25 : decode cX8_needs 25 = .ok (.iload_n 2, 1) := by decide +kernel
theorem dX8_needs_26 : decode cX8_needs 26 = .ok (.invokevirtual 50, 3) := by decide +kernel
theorem dX8_needs_29 : decode cX8_needs 29 = .ok (.astore_n 3, 1) := by decide +kernel
theorem dX8_needs_30 : decode cX8_needs 30 = .ok (.aload_n 3, 1) := by decide +kernel
theorem dX8_needs_31 : decode cX8_needs 31 = .ok (.ifnull 21, 3) := by decide +kernel
theorem dX8_needs_34 : decode cX8_needs 34 = .ok (.aload_n 0, 1) := by decide +kernel
theorem dX8_needs_35 : decode cX8_needs 35 = .ok (.getfield 26, 3) := by decide +kernel
theorem dX8_needs_38 : decode cX8_needs 38 = .ok (.aload_n 3, 1) := by decide +kernel
theorem dX8_needs_39 : decode cX8_needs 39 = .ok (.aload_n 0, 1) := by decide +kernel
theorem dX8_needs_40 : decode cX8_needs 40 = .ok (.getfield 12, 3) := by decide +kernel
theorem dX8_needs_43 : decode cX8_needs 43 = .ok (.invokevirtual 198, 3) := by decide +kernel
theorem dX8_needs_46 : decode cX8_needs 46 = .ok (.ifCond .eq 6, 3) := by decide +kernel
theorem dX8_needs_49 : decode cX8_needs 49 = .ok (.iinc 1 1, 3) := by decide +kernel
theorem dX8_needs_52 : decode cX8_needs 52 = .ok (.iinc 2 1, 3) := by decide +kernel
theorem dX8_needs_55 : decode cX8_needs 55 = .ok (.goto (-40), 3) := by decide +kernel
theorem dX8_needs_58 : decode cX8_needs 58 = .ok (.iload_n 1, 1) := by decide +kernel
theorem dX8_needs_59 : decode cX8_needs 59 = .ok (.ireturn, 1) := by decide +kernel
theorem dX8_make_0 : decode cX8_make 0 = .ok (.iload_n 1, 1) := by decide +kernel
theorem dX8_make_1 : decode cX8_make 1 = .ok (.ifCond .lt 9, 3) := by decide +kernel
theorem dX8_make_4 : decode cX8_make 4 = .ok (.iload_n 1, 1) := by decide +kernel
theorem dX8_make_5 : decode cX8_make 5 = .ok (.bipush 16, 2) := by decide +kernel
theorem dX8_make_7 : decode cX8_make 7 = .ok (.if_icmp .le 6, 3) := by decide +kernel
theorem dX8_make_10 : decode cX8_make 10 = .ok (.bipush (-2), 2) := by decide +kernel
theorem dX8_make_12 : decode cX8_make 12 = .ok (.ireturn, 1) := by decide +kernel
theorem dX8_make_13 : decode cX8_make 13 = .ok (.aload_n 0, 1) := by decide +kernel
theorem dX8_make_14 : decode cX8_make 14 = .ok (.getfield 19, 3) := by decide +kernel
theorem dX8_make_17 : decode cX8_make 17 = .ok (.aload_n 0, 1) := by decide +kernel
theorem dX8_make_18 : decode cX8_make 18 = .ok (.getfield 12, 3) := by decide +kernel
theorem dX8_make_21 : decode cX8_make 21 = .ok (.invokevirtual 139, 3) := by decide +kernel
theorem dX8_make_24 : decode cX8_make 24 = .ok (.aload_n 0, 1) := by decide +kernel
theorem dX8_make_25 : decode cX8_make 25 = .ok (.getfield 33, 3) := by decide +kernel
theorem dX8_make_28 : decode cX8_make 28 = .ok (.aload_n 0, 1) := by decide +kernel
theorem dX8_make_29 : decode cX8_make 29 = .ok (.getfield 12, 3) := by decide +kernel
theorem dX8_make_32 : decode cX8_make 32 = .ok (.invokevirtual 202, 3) := by decide +kernel
theorem dX8_make_35 : decode cX8_make 35 = .ok (.iconst 0, 1) := by decide +kernel
theorem dX8_make_36 : decode cX8_make 36 = .ok (.istore_n 2, 1) := by decide +kernel
theorem dX8_make_37 : decode cX8_make 37 = .ok (.iconst 0, 1) := by decide +kernel
theorem dX8_make_38 : decode cX8_make 38 = .ok (.istore_n 3, 1) := by decide +kernel
theorem dX8_make_39 : decode cX8_make 39 = .ok (.iload_n 3, 1) := by decide +kernel
theorem dX8_make_40 : decode cX8_make 40 = .ok (.aload_n 0, 1) := by decide +kernel
theorem dX8_make_41 : decode cX8_make 41 = .ok (.getfield 33, 3) := by decide +kernel
theorem dX8_make_44 : decode cX8_make 44 = .ok (.getfield 205, 3) := by decide +kernel
theorem dX8_make_47 : decode cX8_make 47 = .ok (.invokevirtual 99, 3) := by decide +kernel
theorem dX8_make_50 : decode cX8_make 50 = .ok (.if_icmp .ge 64, 3) := by decide +kernel
theorem dX8_make_53 : decode cX8_make 53 = .ok (.iload_n 2, 1) := by decide +kernel
theorem dX8_make_54 : decode cX8_make 54 = .ok (.iload_n 1, 1) := by decide +kernel
theorem dX8_make_55 : decode cX8_make 55 = .ok (.if_icmp .ge 59, 3) := by decide +kernel
theorem dX8_make_58 : decode cX8_make 58 = .ok (.aload_n 0, 1) := by decide +kernel
theorem dX8_make_59 : decode cX8_make 59 = .ok (.getfield 12, 3) := by decide +kernel
theorem dX8_make_62 : decode cX8_make 62 = .ok (.aload_n 0, 1) := by decide +kernel
theorem dX8_make_63 : decode cX8_make 63 = .ok (.getfield 33, 3) := by decide +kernel
theorem dX8_make_66 : decode cX8_make 66 = .ok (.getfield 205, 3) := by decide +kernel
theorem dX8_make_69 : decode cX8_make 69 = .ok (.iload_n 3, 1) := by decide +kernel
theorem dX8_make_70 : decode cX8_make 70 = .ok (.invokevirtual 208, 3) := by decide +kernel
theorem dX8_make_73 : decode cX8_make 73 = .ok (.invokevirtual 50, 3) := by decide +kernel
theorem dX8_make_76 : decode cX8_make 76 = .ok (.astore 4, 2) := by decide +kernel
theorem dX8_make_78 : decode cX8_make 78 = .ok (.aload 4, 2) := by decide +kernel
theorem dX8_make_80 : decode cX8_make 80 = .ok (.ifnull 28, 3) := by decide +kernel
theorem dX8_make_83 : decode cX8_make 83 = .ok (.aload_n 0, 1) := by decide +kernel
theorem dX8_make_84 : decode cX8_make 84 = .ok (.getfield 26, 3) := by decide +kernel
theorem dX8_make_87 : decode cX8_make 87 = .ok (.aload 4, 2) := by decide +kernel
theorem dX8_make_89 : decode cX8_make 89 = .ok (.aload_n 0, 1) := by decide +kernel
theorem dX8_make_90 : decode cX8_make 90 = .ok (.getfield 12, 3) := by decide +kernel
theorem dX8_make_93 : decode cX8_make 93 = .ok (.invokevirtual 198, 3) := by decide +kernel
theorem dX8_make_96 : decode cX8_make 96 = .ok (.ifCond .eq 12, 3) := by decide +kernel
theorem dX8_make_99 : decode cX8_make 99 = .ok (.aload_n 0, 1) := by decide +kernel
theorem dX8_make_100 : decode cX8_make 100 = .ok (.aload 4, 2) := by decide +kernel
theorem dX8_make_102 : decode cX8_make 102 = .ok (.invokevirtual 210, 3) := by decide +kernel
theorem dX8_make_105 : decode cX8_make 105 = .ok (.iinc 2 1, 3) := by decide +kernel
theorem dX8_make_108 : decode cX8_make 108 = .ok (.iinc 3 1, 3) := by decide +kernel
theorem dX8_make_111 : decode cX8_make 111 = .ok (.goto (-72), 3) := by decide +kernel
theorem dX8_make_114 : decode cX8_make 114 = .ok (.iload_n 2, 1) := by decide +kernel
theorem dX8_make_115 : decode cX8_make 115 = .ok (.ireturn, 1) := by decide +kernel
theorem dX8_force_0 : decode cX8_force 0 = .ok (.aload_n 0, 1) := by decide +kernel
theorem dX8_force_1 : decode cX8_force 1 = .ok (.getfield 12, 3) := by decide +kernel
theorem dX8_force_4 : decode cX8_force 4 = .ok (.iload_n 1, 1) := by decide +kernel
theorem dX8_force_5 : decode cX8_force 5 = .ok (.invokevirtual 50, 3) := by decide +kernel
theorem dX8_force_8 : decode cX8_force 8 = .ok (.astore_n 2, 1) := by decide +kernel
theorem dX8_force_9 : decode cX8_force 9 = .ok (.aload_n 2, 1) := by decide +kernel
theorem dX8_force_10 : decode cX8_force 10 = .ok (.ifnonnull 5, 3) := by decide +kernel
theorem dX8_force_13 : decode cX8_force 13 = .ok (.iconst (-1), 1) := by decide +kernel
theorem dX8_force_14 : decode cX8_force 14 = .ok (.ireturn, 1) := by decide +kernel
theorem dX8_force_15 : decode cX8_force 15 = .ok (.aload_n 0, 1) := by decide +kernel
theorem dX8_force_16 : decode cX8_force 16 = .ok (.getfield 19, 3) := by decide +kernel
theorem dX8_force_19 : decode cX8_force 19 = .ok (.aload_n 0, 1) := by decide +kernel
theorem dX8_force_20 : decode cX8_force 20 = .ok (.getfield 12, 3) := by decide +kernel
theorem dX8_force_23 : decode cX8_force 23 = .ok (.invokevirtual 139, 3) := by decide +kernel
theorem dX8_force_26 : decode cX8_force 26 = .ok (.aload_n 0, 1) := by decide +kernel
theorem dX8_force_27 : decode cX8_force 27 = .ok (.aload_n 2, 1) := by decide +kernel
theorem dX8_force_28 : decode cX8_force 28 = .ok (.invokevirtual 210, 3) := by decide +kernel
theorem dX8_force_31 : decode cX8_force 31 = .ok (.aload_n 2, 1) := by decide +kernel
theorem dX8_force_32 : decode cX8_force 32 = .ok (.getfield 184, 3) := by decide +kernel
theorem dX8_force_35 : decode cX8_force 35 = .ok (.ireturn, 1) := by decide +kernel
theorem dX8_output_0 : decode cX8_output 0 = .ok (.aload_n 0, 1) := by decide +kernel
theorem dX8_output_1 : decode cX8_output 1 = .ok (.getfield 12, 3) := by decide +kernel
theorem dX8_output_4 : decode cX8_output 4 = .ok (.iload_n 1, 1) := by decide +kernel
theorem dX8_output_5 : decode cX8_output 5 = .ok (.invokevirtual 50, 3) := by decide +kernel
theorem dX8_output_8 : decode cX8_output 8 = .ok (.astore_n 2, 1) := by decide +kernel
theorem dX8_output_9 : decode cX8_output 9 = .ok (.aload_n 2, 1) := by decide +kernel
theorem dX8_output_10 : decode cX8_output 10 = .ok (.ifnull 10, 3) := by decide +kernel
theorem dX8_output_13 : decode cX8_output 13 = .ok (.aload_n 2, 1) := by decide +kernel
theorem dX8_output_14 : decode cX8_output 14 = .ok (.getfield 184, 3) := by decide +kernel
theorem dX8_output_17 : decode cX8_output 17 = .ok (.ifCond .ne 7, 3) := by decide +kernel
theorem dX8_output_20 : decode cX8_output 20 = .ok (.lconst 0, 1) := by decide +kernel
theorem dX8_output_21 : decode cX8_output 21 = .ok (.goto 10, 3) := by decide +kernel
theorem dX8_output_24 : decode cX8_output 24 = .ok (.aload_n 2, 1) := by decide +kernel
theorem dX8_output_25 : decode cX8_output 25 = .ok (.getfield 192, 3) := by decide +kernel
theorem dX8_output_28 : decode cX8_output 28 = .ok (.invokevirtual 214, 3) := by decide +kernel
theorem dX8_output_31 : decode cX8_output 31 = .ok (.lreturn, 1) := by decide +kernel
theorem dX8_anew_0 : decode cX8_anew 0 = .ok (.aload_n 0, 1) := by decide +kernel
theorem dX8_anew_1 : decode cX8_anew 1 = .ok (.getfield 19, 3) := by decide +kernel
theorem dX8_anew_4 : decode cX8_anew 4 = .ok (.aload_n 0, 1) := by decide +kernel
theorem dX8_anew_5 : decode cX8_anew 5 = .ok (.getfield 12, 3) := by decide +kernel
theorem dX8_anew_8 : decode cX8_anew 8 = .ok (.invokevirtual 139, 3) := by decide +kernel
theorem dX8_anew_11 : decode cX8_anew 11 = .ok (.aload_n 0, 1) := by decide +kernel
theorem dX8_anew_12 : decode cX8_anew 12 = .ok (.getfield 33, 3) := by decide +kernel
theorem dX8_anew_15 : decode cX8_anew 15 = .ok (.aload_n 0, 1) := by decide +kernel
theorem dX8_anew_16 : decode cX8_anew 16 = .ok (.getfield 12, 3) := by decide +kernel
theorem dX8_anew_19 : decode cX8_anew 19 = .ok (.invokevirtual 202, 3) := by decide +kernel
theorem dX8_anew_22 : decode cX8_anew 22 = .ok (.ldc2_w 217, 3) := by decide +kernel
theorem dX8_anew_25 : decode cX8_anew 25 = .ok (.lstore_n 1, 1) := by decide +kernel
theorem dX8_anew_26 : decode cX8_anew 26 = .ok (.iconst 0, 1) := by decide +kernel
theorem dX8_anew_27 : decode cX8_anew 27 = .ok (.istore_n 3, 1) := by decide +kernel
theorem dX8_anew_28 : decode cX8_anew 28 = .ok (.iload_n 3, 1) := by decide +kernel
theorem dX8_anew_29 : decode cX8_anew 29 = .ok (.aload_n 0, 1) := by decide +kernel
theorem dX8_anew_30 : decode cX8_anew 30 = .ok (.getfield 33, 3) := by decide +kernel
theorem dX8_anew_33 : decode cX8_anew 33 = .ok (.getfield 205, 3) := by decide +kernel
theorem dX8_anew_36 : decode cX8_anew 36 = .ok (.invokevirtual 99, 3) := by decide +kernel
theorem dX8_anew_39 : decode cX8_anew 39 = .ok (.if_icmp .ge 55, 3) := by decide +kernel
theorem dX8_anew_42 : decode cX8_anew 42 = .ok (.aload_n 0, 1) := by decide +kernel
theorem dX8_anew_43 : decode cX8_anew 43 = .ok (.getfield 12, 3) := by decide +kernel
theorem dX8_anew_46 : decode cX8_anew 46 = .ok (.aload_n 0, 1) := by decide +kernel
theorem dX8_anew_47 : decode cX8_anew 47 = .ok (.getfield 33, 3) := by decide +kernel
theorem dX8_anew_50 : decode cX8_anew 50 = .ok (.getfield 205, 3) := by decide +kernel
theorem dX8_anew_53 : decode cX8_anew 53 = .ok (.iload_n 3, 1) := by decide +kernel
theorem dX8_anew_54 : decode cX8_anew 54 = .ok (.invokevirtual 208, 3) := by decide +kernel
theorem dX8_anew_57 : decode cX8_anew 57 = .ok (.invokevirtual 50, 3) := by decide +kernel
theorem dX8_anew_60 : decode cX8_anew 60 = .ok (.astore 4, 2) := by decide +kernel
theorem dX8_anew_62 : decode cX8_anew 62 = .ok (.aload 4, 2) := by decide +kernel
theorem dX8_anew_64 : decode cX8_anew 64 = .ok (.ifnull 24, 3) := by decide +kernel
theorem dX8_anew_67 : decode cX8_anew 67 = .ok (.lload_n 1, 1) := by decide +kernel
theorem dX8_anew_68 : decode cX8_anew 68 = .ok (.aload_n 0, 1) := by decide +kernel
theorem dX8_anew_69 : decode cX8_anew 69 = .ok (.getfield 26, 3) := by decide +kernel
theorem dX8_anew_72 : decode cX8_anew 72 = .ok (.aload 4, 2) := by decide +kernel
theorem dX8_anew_74 : decode cX8_anew 74 = .ok (.aload_n 0, 1) := by decide +kernel
theorem dX8_anew_75 : decode cX8_anew 75 = .ok (.getfield 12, 3) := by decide +kernel
theorem dX8_anew_78 : decode cX8_anew 78 = .ok (.invokevirtual 167, 3) := by decide +kernel
theorem dX8_anew_81 : decode cX8_anew 81 = .ok (.invokevirtual 214, 3) := by decide +kernel
theorem dX8_anew_84 : decode cX8_anew 84 = .ok (.invokestatic 219, 3) := by decide +kernel
theorem dX8_anew_87 : decode cX8_anew 87 = .ok (.lstore_n 1, 1) := by decide +kernel
theorem dX8_anew_88 : decode cX8_anew 88 = .ok (.iinc 3 1, 3) := by decide +kernel
theorem dX8_anew_91 : decode cX8_anew 91 = .ok (.goto (-63), 3) := by decide +kernel
theorem dX8_anew_94 : decode cX8_anew 94 = .ok (.lload_n 1, 1) := by decide +kernel
theorem dX8_anew_95 : decode cX8_anew 95 = .ok (.lreturn, 1) := by decide +kernel
theorem dX8_coarse_0 : decode cX8_coarse 0 = .ok (.aload_n 0, 1) := by decide +kernel
theorem dX8_coarse_1 : decode cX8_coarse 1 = .ok (.getfield 19, 3) := by decide +kernel
theorem dX8_coarse_4 : decode cX8_coarse 4 = .ok (.aload_n 0, 1) := by decide +kernel
theorem dX8_coarse_5 : decode cX8_coarse 5 = .ok (.getfield 12, 3) := by decide +kernel
theorem dX8_coarse_8 : decode cX8_coarse 8 = .ok (.invokevirtual 139, 3) := by decide +kernel
theorem dX8_coarse_11 : decode cX8_coarse 11 = .ok (.aload_n 0, 1) := by decide +kernel
theorem dX8_coarse_12 : decode cX8_coarse 12 = .ok (.getfield 33, 3) := by decide +kernel
theorem dX8_coarse_15 : decode cX8_coarse 15 = .ok (.aload_n 0, 1) := by decide +kernel
theorem dX8_coarse_16 : decode cX8_coarse 16 = .ok (.getfield 12, 3) := by decide +kernel
theorem dX8_coarse_19 : decode cX8_coarse 19 = .ok (.invokevirtual 202, 3) := by decide +kernel
theorem dX8_coarse_22 : decode cX8_coarse 22 = .ok (.iconst 0, 1) := by decide +kernel
theorem dX8_coarse_23 : decode cX8_coarse 23 = .ok (.istore_n 1, 1) := by decide +kernel
theorem dX8_coarse_24 : decode cX8_coarse 24 = .ok (.iconst 0, 1) := by decide +kernel
theorem dX8_coarse_25 : decode cX8_coarse 25 = .ok (.istore_n 2, 1) := by decide +kernel
theorem dX8_coarse_26 : decode cX8_coarse 26 = .ok (.iload_n 2, 1) := by decide +kernel
theorem dX8_coarse_27 : decode cX8_coarse 27 = .ok (.bipush 16, 2) := by decide +kernel
theorem dX8_coarse_29 : decode cX8_coarse 29 = .ok (.if_icmp .ge 58, 3) := by decide +kernel
theorem dX8_coarse_32 : decode cX8_coarse 32 = .ok (.aload_n 0, 1) := by decide +kernel
theorem dX8_coarse_33 : decode cX8_coarse 33 = .ok (.getfield 12, 3) := by decide +kernel
theorem dX8_coarse_36 : decode cX8_coarse 36 = .ok (.iload_n 2, 1) := by decide +kernel
theorem dX8_coarse_37 : decode cX8_coarse 37 = .ok (.invokevirtual 50, 3) := by decide +kernel
theorem dX8_coarse_40 : decode cX8_coarse 40 = .ok (.astore_n 3, 1) := by decide +kernel
theorem dX8_coarse_41 : decode cX8_coarse 41 = .ok (.aload_n 3, 1) := by decide +kernel
theorem dX8_coarse_42 : decode cX8_coarse 42 = .ok (.ifnonnull 7, 3) := by decide +kernel
theorem dX8_coarse_45 : decode cX8_coarse 45 = .ok (.iconst 0, 1) := by decide +kernel
theorem dX8_coarse_46 : decode cX8_coarse 46 = .ok (.goto 15, 3) := by decide +kernel
theorem dX8_coarse_49 : decode cX8_coarse 49 = .ok (.aload_n 0, 1) := by decide +kernel
theorem dX8_coarse_50 : decode cX8_coarse 50 = .ok (.getfield 26, 3) := by decide +kernel
theorem dX8_coarse_53 : decode cX8_coarse 53 = .ok (.aload_n 3, 1) := by decide +kernel
theorem dX8_coarse_54 : decode cX8_coarse 54 = .ok (.aload_n 0, 1) := by decide +kernel
theorem dX8_coarse_55 : decode cX8_coarse 55 = .ok (.getfield 12, 3) := by decide +kernel
theorem dX8_coarse_58 : decode cX8_coarse 58 = .ok (.invokevirtual 198, 3) := by decide +kernel
theorem dX8_coarse_61 : decode cX8_coarse 61 = .ok (.istore 4, 2) := by decide +kernel
theorem dX8_coarse_63 : decode cX8_coarse 63 = .ok (.iload 4, 2) := by decide +kernel
theorem dX8_coarse_65 : decode cX8_coarse 65 = .ok (.iconst 1, 1) := by decide +kernel
theorem dX8_coarse_66 : decode cX8_coarse 66 = .ok (.if_icmp .eq 9, 3) := by decide +kernel
theorem dX8_coarse_69 : decode cX8_coarse 69 = .ok (.iload 4, 2) := by decide +kernel
theorem dX8_coarse_71 : decode cX8_coarse 71 = .ok (.iconst 2, 1) := by decide +kernel
theorem dX8_coarse_72 : decode cX8_coarse 72 = .ok (.if_icmp .ne 9, 3) := by decide +kernel
theorem dX8_coarse_75 : decode cX8_coarse 75 = .ok (.iload_n 1, 1) := by decide +kernel
theorem dX8_coarse_76 : decode cX8_coarse 76 = .ok (.iconst 1, 1) := by decide +kernel
theorem dX8_coarse_77 : decode cX8_coarse 77 = .ok (.iload_n 2, 1) := by decide +kernel
theorem dX8_coarse_78 : decode cX8_coarse 78 = .ok (.ishl, 1) := by decide +kernel
theorem dX8_coarse_79 : decode cX8_coarse 79 = .ok (.ior, 1) := by decide +kernel
theorem dX8_coarse_80 : decode cX8_coarse 80 = .ok (.istore_n 1, 1) := by decide +kernel
theorem dX8_coarse_81 : decode cX8_coarse 81 = .ok (.iinc 2 1, 3) := by decide +kernel
theorem dX8_coarse_84 : decode cX8_coarse 84 = .ok (.goto (-58), 3) := by decide +kernel
theorem dX8_coarse_87 : decode cX8_coarse 87 = .ok (.iload_n 1, 1) := by decide +kernel
theorem dX8_coarse_88 : decode cX8_coarse 88 = .ok (.istore_n 2, 1) := by decide +kernel
theorem dX8_coarse_89 : decode cX8_coarse 89 = .ok (.iconst 0, 1) := by decide +kernel
theorem dX8_coarse_90 : decode cX8_coarse 90 = .ok (.istore_n 3, 1) := by decide +kernel
theorem dX8_coarse_91 : decode cX8_coarse 91 = .ok (.iload_n 3, 1) := by decide +kernel
theorem dX8_coarse_92 : decode cX8_coarse 92 = .ok (.bipush 16, 2) := by decide +kernel
theorem dX8_coarse_94 : decode cX8_coarse 94 = .ok (.if_icmp .ge 28, 3) := by decide +kernel
theorem dX8_coarse_97 : decode cX8_coarse 97 = .ok (.aload_n 0, 1) := by decide +kernel
theorem dX8_coarse_98 : decode cX8_coarse 98 = .ok (.getfield 33, 3) := by decide +kernel
theorem dX8_coarse_101 : decode cX8_coarse 101 = .ok (.iload_n 3, 1) := by decide +kernel
theorem dX8_coarse_102 : decode cX8_coarse 102 = .ok (.invokevirtual 223, 3) := by decide +kernel
theorem dX8_coarse_105 : decode cX8_coarse 105 = .ok (.iload_n 1, 1) := by decide +kernel
theorem dX8_coarse_106 : decode cX8_coarse 106 = .ok (.iand, 1) := by decide +kernel
theorem dX8_coarse_107 : decode cX8_coarse 107 = .ok (.ifCond .eq 9, 3) := by decide +kernel
theorem dX8_coarse_110 : decode cX8_coarse 110 = .ok (.iload_n 2, 1) := by decide +kernel
theorem dX8_coarse_111 : decode cX8_coarse 111 = .ok (.iconst 1, 1) := by decide +kernel
theorem dX8_coarse_112 : decode cX8_coarse 112 = .ok (.iload_n 3, 1) := by decide +kernel
theorem dX8_coarse_113 : decode cX8_coarse 113 = .ok (.ishl, 1) := by decide +kernel
theorem dX8_coarse_114 : decode cX8_coarse 114 = .ok (.ior, 1) := by decide +kernel
theorem dX8_coarse_115 : decode cX8_coarse 115 = .ok (.istore_n 2, 1) := by decide +kernel
theorem dX8_coarse_116 : decode cX8_coarse 116 = .ok (.iinc 3 1, 3) := by decide +kernel
theorem dX8_coarse_119 : decode cX8_coarse 119 = .ok (.goto (-28), 3) := by decide +kernel
theorem dX8_coarse_122 : decode cX8_coarse 122 = .ok (.iload_n 2, 1) := by decide +kernel
theorem dX8_coarse_123 : decode cX8_coarse 123 = .ok (.invokestatic 226, 3) := by decide +kernel
theorem dX8_coarse_126 : decode cX8_coarse 126 = .ok (.ireturn, 1) := by decide +kernel
theorem dX8_order_0 : decode cX8_order 0 = .ok (.aload_n 0, 1) := by decide +kernel
theorem dX8_order_1 : decode cX8_order 1 = .ok (.getfield 33, 3) := by decide +kernel
theorem dX8_order_4 : decode cX8_order 4 = .ok (.aload_n 0, 1) := by decide +kernel
theorem dX8_order_5 : decode cX8_order 5 = .ok (.getfield 12, 3) := by decide +kernel
theorem dX8_order_8 : decode cX8_order 8 = .ok (.invokevirtual 202, 3) := by decide +kernel
theorem dX8_order_11 : decode cX8_order 11 = .ok (.iload_n 1, 1) := by decide +kernel
theorem dX8_order_12 : decode cX8_order 12 = .ok (.aload_n 0, 1) := by decide +kernel
theorem dX8_order_13 : decode cX8_order 13 = .ok (.getfield 33, 3) := by decide +kernel
theorem dX8_order_16 : decode cX8_order 16 = .ok (.getfield 205, 3) := by decide +kernel
theorem dX8_order_19 : decode cX8_order 19 = .ok (.invokevirtual 99, 3) := by decide +kernel
theorem dX8_order_22 : decode cX8_order 22 = .ok (.invokestatic 54, 3) := by decide +kernel
theorem dX8_order_25 : decode cX8_order 25 = .ok (.ifCond .ne 13, 3) := by decide +kernel
theorem dX8_order_28 : decode cX8_order 28 = .ok (.new 174, 3) := by decide +kernel
theorem dX8_order_31 : decode cX8_order 31 = .ok (.dup, 1) := by decide +kernel
theorem dX8_order_32 : decode cX8_order 32 = .ok (.ldc 231, 2) := by decide +kernel
theorem dX8_order_34 : decode cX8_order 34 = .ok (.invokespecial 178, 3) := by decide +kernel
theorem dX8_order_37 : decode cX8_order 37 = .ok (.athrow, 1) := by decide +kernel
theorem dX8_order_38 : decode cX8_order 38 = .ok (.aload_n 0, 1) := by decide +kernel
theorem dX8_order_39 : decode cX8_order 39 = .ok (.getfield 33, 3) := by decide +kernel
theorem dX8_order_42 : decode cX8_order 42 = .ok (.getfield 205, 3) := by decide +kernel
theorem dX8_order_45 : decode cX8_order 45 = .ok (.iload_n 1, 1) := by decide +kernel
theorem dX8_order_46 : decode cX8_order 46 = .ok (.invokevirtual 208, 3) := by decide +kernel
theorem dX8_order_49 : decode cX8_order 49 = .ok (.ireturn, 1) := by decide +kernel
theorem dX8_ring_0 : decode cX8_ring 0 = .ok (.aload_n 0, 1) := by decide +kernel
theorem dX8_ring_1 : decode cX8_ring 1 = .ok (.getfield 12, 3) := by decide +kernel
theorem dX8_ring_4 : decode cX8_ring 4 = .ok (.iload_n 1, 1) := by decide +kernel
theorem dX8_ring_5 : decode cX8_ring 5 = .ok (.invokevirtual 50, 3) := by decide +kernel
theorem dX8_ring_8 : decode cX8_ring 8 = .ok (.ifnonnull 5, 3) := by decide +kernel
theorem dX8_ring_11 : decode cX8_ring 11 = .ok (.iconst (-1), 1) := by decide +kernel
theorem dX8_ring_12 : decode cX8_ring 12 = .ok (.ireturn, 1) := by decide +kernel
theorem dX8_ring_13 : decode cX8_ring 13 = .ok (.aload_n 0, 1) := by decide +kernel
theorem dX8_ring_14 : decode cX8_ring 14 = .ok (.getfield 33, 3) := by decide +kernel
theorem dX8_ring_17 : decode cX8_ring 17 = .ok (.aload_n 0, 1) := by decide +kernel
theorem dX8_ring_18 : decode cX8_ring 18 = .ok (.getfield 12, 3) := by decide +kernel
theorem dX8_ring_21 : decode cX8_ring 21 = .ok (.invokevirtual 202, 3) := by decide +kernel
theorem dX8_ring_24 : decode cX8_ring 24 = .ok (.aload_n 0, 1) := by decide +kernel
theorem dX8_ring_25 : decode cX8_ring 25 = .ok (.getfield 33, 3) := by decide +kernel
theorem dX8_ring_28 : decode cX8_ring 28 = .ok (.iload_n 1, 1) := by decide +kernel
theorem dX8_ring_29 : decode cX8_ring 29 = .ok (.invokevirtual 233, 3) := by decide +kernel
theorem dX8_ring_32 : decode cX8_ring 32 = .ok (.ireturn, 1) := by decide +kernel
theorem dX8_leads_0 : decode cX8_leads 0 = .ok (.aload_n 0, 1) := by decide +kernel
theorem dX8_leads_1 : decode cX8_leads 1 = .ok (.getfield 12, 3) := by decide +kernel
theorem dX8_leads_4 : decode cX8_leads 4 = .ok (.iload_n 1, 1) := by decide +kernel
theorem dX8_leads_5 : decode cX8_leads 5 = .ok (.invokevirtual 50, 3) := by decide +kernel
theorem dX8_leads_8 : decode cX8_leads 8 = .ok (.ifnull 14, 3) := by decide +kernel
theorem dX8_leads_11 : decode cX8_leads 11 = .ok (.aload_n 0, 1) := by decide +kernel
theorem dX8_leads_12 : decode cX8_leads 12 = .ok (.getfield 12, 3) := by decide +kernel
theorem dX8_leads_15 : decode cX8_leads 15 = .ok (.iload_n 2, 1) := by decide +kernel
theorem dX8_leads_16 : decode cX8_leads 16 = .ok (.invokevirtual 50, 3) := by decide +kernel
theorem dX8_leads_19 : decode cX8_leads 19 = .ok (.ifnonnull 5, 3) := by decide +kernel
theorem dX8_leads_22 : decode cX8_leads 22 = .ok (.iconst (-1), 1) := by decide +kernel
theorem dX8_leads_23 : decode cX8_leads 23 = .ok (.ireturn, 1) := by decide +kernel
theorem dX8_leads_24 : decode cX8_leads 24 = .ok (.aload_n 0, 1) := by decide +kernel
theorem dX8_leads_25 : decode cX8_leads 25 = .ok (.getfield 33, 3) := by decide +kernel
theorem dX8_leads_28 : decode cX8_leads 28 = .ok (.aload_n 0, 1) := by decide +kernel
theorem dX8_leads_29 : decode cX8_leads 29 = .ok (.getfield 12, 3) := by decide +kernel
theorem dX8_leads_32 : decode cX8_leads 32 = .ok (.invokevirtual 202, 3) := by decide +kernel
theorem dX8_leads_35 : decode cX8_leads 35 = .ok (.aload_n 0, 1) := by decide +kernel
theorem dX8_leads_36 : decode cX8_leads 36 = .ok (.getfield 33, 3) := by decide +kernel
theorem dX8_leads_39 : decode cX8_leads 39 = .ok (.iload_n 1, 1) := by decide +kernel
theorem dX8_leads_40 : decode cX8_leads 40 = .ok (.invokevirtual 223, 3) := by decide +kernel
theorem dX8_leads_43 : decode cX8_leads 43 = .ok (.iload_n 2, 1) := by decide +kernel
theorem dX8_leads_44 : decode cX8_leads 44 = .ok (.ishr, 1) := by decide +kernel
theorem dX8_leads_45 : decode cX8_leads 45 = .ok (.iconst 1, 1) := by decide +kernel
theorem dX8_leads_46 : decode cX8_leads 46 = .ok (.iand, 1) := by decide +kernel
theorem dX8_leads_47 : decode cX8_leads 47 = .ok (.ireturn, 1) := by decide +kernel
theorem dX8_count_0 : decode cX8_count 0 = .ok (.iload_n 1, 1) := by decide +kernel
theorem dX8_count_1 : decode cX8_count 1 = .ok (.tableswitch 94 0 4 #[35, 43, 51, 70, 89], 35) := by decide +kernel
theorem dX8_count_36 : decode cX8_count 36 = .ok (.aload_n 0, 1) := by decide +kernel
theorem dX8_count_37 : decode cX8_count 37 = .ok (.getfield 12, 3) := by decide +kernel
theorem dX8_count_40 : decode cX8_count 40 = .ok (.invokevirtual 125, 3) := by decide +kernel
theorem dX8_count_43 : decode cX8_count 43 = .ok (.ireturn, 1) := by decide +kernel
theorem dX8_count_44 : decode cX8_count 44 = .ok (.aload_n 0, 1) := by decide +kernel
theorem dX8_count_45 : decode cX8_count 45 = .ok (.getfield 12, 3) := by decide +kernel
theorem dX8_count_48 : decode cX8_count 48 = .ok (.getfield 236, 3) := by decide +kernel
theorem dX8_count_51 : decode cX8_count 51 = .ok (.ireturn, 1) := by decide +kernel
theorem dX8_count_52 : decode cX8_count 52 = .ok (.aload_n 0, 1) := by decide +kernel
theorem dX8_count_53 : decode cX8_count 53 = .ok (.getfield 33, 3) := by decide +kernel
theorem dX8_count_56 : decode cX8_count 56 = .ok (.aload_n 0, 1) := by decide +kernel
theorem dX8_count_57 : decode cX8_count 57 = .ok (.getfield 12, 3) := by decide +kernel
theorem dX8_count_60 : decode cX8_count 60 = .ok (.invokevirtual 202, 3) := by decide +kernel
theorem dX8_count_63 : decode cX8_count 63 = .ok (.aload_n 0, 1) := by decide +kernel
theorem dX8_count_64 : decode cX8_count 64 = .ok (.getfield 33, 3) := by decide +kernel
theorem dX8_count_67 : decode cX8_count 67 = .ok (.getfield 239, 3) := by decide +kernel
theorem dX8_count_70 : decode cX8_count 70 = .ok (.ireturn, 1) := by decide +kernel
theorem dX8_count_71 : decode cX8_count 71 = .ok (.aload_n 0, 1) := by decide +kernel
theorem dX8_count_72 : decode cX8_count 72 = .ok (.getfield 33, 3) := by decide +kernel
theorem dX8_count_75 : decode cX8_count 75 = .ok (.aload_n 0, 1) := by decide +kernel
theorem dX8_count_76 : decode cX8_count 76 = .ok (.getfield 12, 3) := by decide +kernel
theorem dX8_count_79 : decode cX8_count 79 = .ok (.invokevirtual 202, 3) := by decide +kernel
theorem dX8_count_82 : decode cX8_count 82 = .ok (.aload_n 0, 1) := by decide +kernel
theorem dX8_count_83 : decode cX8_count 83 = .ok (.getfield 33, 3) := by decide +kernel
theorem dX8_count_86 : decode cX8_count 86 = .ok (.getfield 242, 3) := by decide +kernel
theorem dX8_count_89 : decode cX8_count 89 = .ok (.ireturn, 1) := by decide +kernel
theorem dX8_count_90 : decode cX8_count 90 = .ok (.aload_n 0, 1) := by decide +kernel
theorem dX8_count_91 : decode cX8_count 91 = .ok (.getfield 37, 3) := by decide +kernel
theorem dX8_count_94 : decode cX8_count 94 = .ok (.ireturn, 1) := by decide +kernel
theorem dX8_count_95 : decode cX8_count 95 = .ok (.bipush (-2), 2) := by decide +kernel
theorem dX8_count_97 : decode cX8_count 97 = .ok (.ireturn, 1) := by decide +kernel
theorem dX8_clear_0 : decode cX8_clear 0 = .ok (.aload_n 0, 1) := by decide +kernel
theorem dX8_clear_1 : decode cX8_clear 1 = .ok (.getfield 12, 3) := by decide +kernel
theorem dX8_clear_4 : decode cX8_clear 4 = .ok (.invokevirtual 125, 3) := by decide +kernel
theorem dX8_clear_7 : decode cX8_clear 7 = .ok (.istore_n 1, 1) := by decide +kernel
theorem dX8_clear_8 : decode cX8_clear 8 = .ok (.aload_n 0, 1) := by decide +kernel
theorem dX8_clear_9 : decode cX8_clear 9 = .ok (.getfield 12, 3) := by decide +kernel
theorem dX8_clear_12 : decode cX8_clear 12 = .ok (.invokevirtual 245, 3) := by decide +kernel
theorem dX8_clear_15 : decode cX8_clear 15 = .ok (.aload_n 0, 1) := by decide +kernel
theorem dX8_clear_16 : decode cX8_clear 16 = .ok (.iconst 0, 1) := by decide +kernel
theorem dX8_clear_17 : decode cX8_clear 17 = .ok (.putfield 37, 3) := by decide +kernel
theorem dX8_clear_20 : decode cX8_clear 20 = .ok (.iload_n 1, 1) := by decide +kernel
theorem dX8_clear_21 : decode cX8_clear 21 = .ok (.ireturn, 1) := by decide +kernel
theorem dX8_isBelow_0 : decode cX8_isBelow 0 = .ok (.iload_n 0, 1) := by decide +kernel
theorem dX8_isBelow_1 : decode cX8_isBelow 1 = .ok (.ifCond .lt 12, 3) := by decide +kernel
theorem dX8_isBelow_4 : decode cX8_isBelow 4 = .ok (.iload_n 0, 1) := by decide +kernel
theorem dX8_isBelow_5 : decode cX8_isBelow 5 = .ok (.iload_n 1, 1) := by decide +kernel
theorem dX8_isBelow_6 : decode cX8_isBelow 6 = .ok (.if_icmp .ge 7, 3) := by decide +kernel
theorem dX8_isBelow_9 : decode cX8_isBelow 9 = .ok (.iconst 1, 1) := by decide +kernel
theorem dX8_isBelow_10 : decode cX8_isBelow 10 = .ok (.goto 4, 3) := by decide +kernel
theorem dX8_isBelow_13 : decode cX8_isBelow 13 = .ok (.iconst 0, 1) := by decide +kernel
theorem dX8_isBelow_14 : decode cX8_isBelow 14 = .ok (.ireturn, 1) := by decide +kernel
theorem dX8_keyOf_0 : decode cX8_keyOf 0 = .ok (.iload_n 0, 1) := by decide +kernel
theorem dX8_keyOf_1 : decode cX8_keyOf 1 = .ok (.bipush 32, 2) := by decide +kernel
theorem dX8_keyOf_3 : decode cX8_keyOf 3 = .ok (.imul, 1) := by decide +kernel
theorem dX8_keyOf_4 : decode cX8_keyOf 4 = .ok (.iload_n 1, 1) := by decide +kernel
theorem dX8_keyOf_5 : decode cX8_keyOf 5 = .ok (.iadd, 1) := by decide +kernel
theorem dX8_keyOf_6 : decode cX8_keyOf 6 = .ok (.ireturn, 1) := by decide +kernel
theorem dX8_sortOf_0 : decode cX8_sortOf 0 = .ok (.iload_n 0, 1) := by decide +kernel
theorem dX8_sortOf_1 : decode cX8_sortOf 1 = .ok (.bipush 32, 2) := by decide +kernel
theorem dX8_sortOf_3 : decode cX8_sortOf 3 = .ok (.idiv, 1) := by decide +kernel
theorem dX8_sortOf_4 : decode cX8_sortOf 4 = .ok (.ireturn, 1) := by decide +kernel
theorem dX8_nameOf_0 : decode cX8_nameOf 0 = .ok (.iload_n 0, 1) := by decide +kernel
theorem dX8_nameOf_1 : decode cX8_nameOf 1 = .ok (.bipush 32, 2) := by decide +kernel
theorem dX8_nameOf_3 : decode cX8_nameOf 3 = .ok (.irem, 1) := by decide +kernel
theorem dX8_nameOf_4 : decode cX8_nameOf 4 = .ok (.ireturn, 1) := by decide +kernel
theorem dX8_appendTo_0 : decode cX8_appendTo 0 = .ok (.aload_n 0, 1) := by decide +kernel
theorem dX8_appendTo_1 : decode cX8_appendTo 1 = .ok (.iload_n 1, 1) := by decide +kernel
theorem dX8_appendTo_2 : decode cX8_appendTo 2 = .ok (.invokevirtual 248, 3) := by decide +kernel
theorem dX8_appendTo_5 : decode cX8_appendTo 5 = .ok (.ifCond .eq 10, 3) := by decide +kernel
theorem dX8_appendTo_8 : decode cX8_appendTo 8 = .ok (.aload_n 0, 1) := by decide +kernel
theorem dX8_appendTo_9 : decode cX8_appendTo 9 = .ok (.invokevirtual 99, 3) := by decide +kernel
theorem dX8_appendTo_12 : decode cX8_appendTo 12 = .ok (.goto 5, 3) := by decide +kernel
theorem dX8_appendTo_15 : decode cX8_appendTo 15 = .ok (.bipush (-4), 2) := by decide +kernel
theorem dX8_appendTo_17 : decode cX8_appendTo 17 = .ok (.ireturn, 1) := by decide +kernel
theorem dX8_constantOf_0 : decode cX8_constantOf 0 = .ok (.aload_n 0, 1) := by decide +kernel
theorem dX8_constantOf_1 : decode cX8_constantOf 1 = .ok (.getfield 12, 3) := by decide +kernel
theorem dX8_constantOf_4 : decode cX8_constantOf 4 = .ok (.iload_n 1, 1) := by decide +kernel
theorem dX8_constantOf_5 : decode cX8_constantOf 5 = .ok (.invokevirtual 50, 3) := by decide +kernel
theorem dX8_constantOf_8 : decode cX8_constantOf 8 = .ok (.astore_n 3, 1) := by decide +kernel
theorem dX8_constantOf_9 : decode cX8_constantOf 9 = .ok (.aload_n 3, 1) := by decide +kernel
theorem dX8_constantOf_10 : decode cX8_constantOf 10 = .ok (.ifnull 12, 3) := by decide +kernel
theorem dX8_constantOf_13 : decode cX8_constantOf 13 = .ok (.iload_n 2, 1) := by decide +kernel
theorem dX8_constantOf_14 : decode cX8_constantOf 14 = .ok (.bipush 32, 2) := by decide +kernel
theorem dX8_constantOf_16 : decode cX8_constantOf 16 = .ok (.invokestatic 54, 3) := by decide +kernel
theorem dX8_constantOf_19 : decode cX8_constantOf 19 = .ok (.ifCond .ne 7, 3) := by decide +kernel
theorem dX8_constantOf_22 : decode cX8_constantOf 22 = .ok (.aconst_null, 1) := by decide +kernel
theorem dX8_constantOf_23 : decode cX8_constantOf 23 = .ok (.goto 12, 3) := by decide +kernel
theorem dX8_constantOf_26 : decode cX8_constantOf 26 = .ok (.aload_n 3, 1) := by decide +kernel
theorem dX8_constantOf_27 : decode cX8_constantOf 27 = .ok (.iconst 1, 1) := by decide +kernel
theorem dX8_constantOf_28 : decode cX8_constantOf 28 = .ok (.iload_n 2, 1) := by decide +kernel
theorem dX8_constantOf_29 : decode cX8_constantOf 29 = .ok (.invokestatic 58, 3) := by decide +kernel
theorem dX8_constantOf_32 : decode cX8_constantOf 32 = .ok (.invokevirtual 62, 3) := by decide +kernel
theorem dX8_constantOf_35 : decode cX8_constantOf 35 = .ok (.areturn, 1) := by decide +kernel
theorem dX8_makeOne_0 : decode cX8_makeOne 0 = .ok (.aload_n 0, 1) := by decide +kernel
theorem dX8_makeOne_1 : decode cX8_makeOne 1 = .ok (.getfield 26, 3) := by decide +kernel
theorem dX8_makeOne_4 : decode cX8_makeOne 4 = .ok (.aload_n 1, 1) := by decide +kernel
theorem dX8_makeOne_5 : decode cX8_makeOne 5 = .ok (.getfield 192, 3) := by decide +kernel
theorem dX8_makeOne_8 : decode cX8_makeOne 8 = .ok (.aload_n 1, 1) := by decide +kernel
theorem dX8_makeOne_9 : decode cX8_makeOne 9 = .ok (.aload_n 0, 1) := by decide +kernel
theorem dX8_makeOne_10 : decode cX8_makeOne 10 = .ok (.getfield 12, 3) := by decide +kernel
theorem dX8_makeOne_13 : decode cX8_makeOne 13 = .ok (.invokevirtual 251, 3) := by decide +kernel
theorem dX8_makeOne_16 : decode cX8_makeOne 16 = .ok (.aload_n 1, 1) := by decide +kernel
theorem dX8_makeOne_17 : decode cX8_makeOne 17 = .ok (.dup, 1) := by decide +kernel
theorem dX8_makeOne_18 : decode cX8_makeOne 18 = .ok (.getfield 184, 3) := by decide +kernel
theorem dX8_makeOne_21 : decode cX8_makeOne 21 = .ok (.iconst 1, 1) := by decide +kernel
theorem dX8_makeOne_22 : decode cX8_makeOne 22 = .ok (.iadd, 1) := by decide +kernel
theorem dX8_makeOne_23 : decode cX8_makeOne 23 = .ok (.putfield 184, 3) := by decide +kernel
theorem dX8_makeOne_26 : decode cX8_makeOne 26 = .ok (.aload_n 0, 1) := by decide +kernel
theorem dX8_makeOne_27 : decode cX8_makeOne 27 = .ok (.dup, 1) := by decide +kernel
theorem dX8_makeOne_28 : decode cX8_makeOne 28 = .ok (.getfield 37, 3) := by decide +kernel
theorem dX8_makeOne_31 : decode cX8_makeOne 31 = .ok (.iconst 1, 1) := by decide +kernel
theorem dX8_makeOne_32 : decode cX8_makeOne 32 = .ok (.iadd, 1) := by decide +kernel
theorem dX8_makeOne_33 : decode cX8_makeOne 33 = .ok (.putfield 37, 3) := by decide +kernel
theorem dX8_makeOne_36 : decode cX8_makeOne 36 = .ok (.return_, 1) := by decide +kernel
theorem dX9_init_0 : decode cX9_init 0 = .ok (.aload_n 0, 1) := by decide +kernel
theorem dX9_init_1 : decode cX9_init 1 = .ok (.invokespecial 1, 3) := by decide +kernel
theorem dX9_init_4 : decode cX9_init 4 = .ok (.aload_n 0, 1) := by decide +kernel
theorem dX9_init_5 : decode cX9_init 5 = .ok (.bipush 16, 2) := by decide +kernel
theorem dX9_init_7 : decode cX9_init 7 = .ok (.newarray .boolean, 2) := by decide +kernel
theorem dX9_init_9 : decode cX9_init 9 = .ok (.putfield 7, 3) := by decide +kernel
theorem dX9_init_12 : decode cX9_init 12 = .ok (.aload_n 0, 1) := by decide +kernel
theorem dX9_init_13 : decode cX9_init 13 = .ok (.bipush 16, 2) := by decide +kernel
theorem dX9_init_15 : decode cX9_init 15 = .ok (.newarray .int, 2) := by decide +kernel
theorem dX9_init_17 : decode cX9_init 17 = .ok (.putfield 13, 3) := by decide +kernel
theorem dX9_init_20 : decode cX9_init 20 = .ok (.aload_n 0, 1) := by decide +kernel
theorem dX9_init_21 : decode cX9_init 21 = .ok (.sipush 160, 3) := by decide +kernel
theorem dX9_init_24 : decode cX9_init 24 = .ok (.newarray .int, 2) := by decide +kernel
theorem dX9_init_26 : decode cX9_init 26 = .ok (.putfield 17, 3) := by decide +kernel
theorem dX9_init_29 : decode cX9_init 29 = .ok (.aload_n 0, 1) := by decide +kernel
theorem dX9_init_30 : decode cX9_init 30 = .ok (.sipush 160, 3) := by decide +kernel
theorem dX9_init_33 : decode cX9_init 33 = .ok (.newarray .long, 2) := by decide +kernel
theorem dX9_init_35 : decode cX9_init 35 = .ok (.putfield 20, 3) := by decide +kernel
theorem dX9_init_38 : decode cX9_init 38 = .ok (.aload_n 0, 1) := by decide +kernel
theorem dX9_init_39 : decode cX9_init 39 = .ok (.sipush 160, 3) := by decide +kernel
theorem dX9_init_42 : decode cX9_init 42 = .ok (.newarray .boolean, 2) := by decide +kernel
theorem dX9_init_44 : decode cX9_init 44 = .ok (.putfield 24, 3) := by decide +kernel
theorem dX9_init_47 : decode cX9_init 47 = .ok (.aload_n 0, 1) := by decide +kernel
theorem dX9_init_48 : decode cX9_init 48 = .ok (.sipush 160, 3) := by decide +kernel
theorem dX9_init_51 : decode cX9_init 51 = .ok (.newarray .int, 2) := by decide +kernel
theorem dX9_init_53 : decode cX9_init 53 = .ok (.putfield 27, 3) := by decide +kernel
theorem dX9_init_56 : decode cX9_init 56 = .ok (.aload_n 0, 1) := by decide +kernel
theorem dX9_init_57 : decode cX9_init 57 = .ok (.sipush 480, 3) := by decide +kernel
theorem dX9_init_60 : decode cX9_init 60 = .ok (.newarray .int, 2) := by decide +kernel
theorem dX9_init_62 : decode cX9_init 62 = .ok (.putfield 30, 3) := by decide +kernel
theorem dX9_init_65 : decode cX9_init 65 = .ok (.aload_n 0, 1) := by decide +kernel
theorem dX9_init_66 : decode cX9_init 66 = .ok (.bipush 16, 2) := by decide +kernel
theorem dX9_init_68 : decode cX9_init 68 = .ok (.newarray .int, 2) := by decide +kernel
theorem dX9_init_70 : decode cX9_init 70 = .ok (.putfield 33, 3) := by decide +kernel
theorem dX9_init_73 : decode cX9_init 73 = .ok (.aload_n 0, 1) := by decide +kernel
theorem dX9_init_74 : decode cX9_init 74 = .ok (.bipush 96, 2) := by decide +kernel
theorem dX9_init_76 : decode cX9_init 76 = .ok (.newarray .int, 2) := by decide +kernel
theorem dX9_init_78 : decode cX9_init 78 = .ok (.putfield 36, 3) := by decide +kernel
theorem dX9_init_81 : decode cX9_init 81 = .ok (.aload_n 0, 1) := by decide +kernel
theorem dX9_init_82 : decode cX9_init 82 = .ok (.bipush 16, 2) := by decide +kernel
theorem dX9_init_84 : decode cX9_init 84 = .ok (.newarray .int, 2) := by decide +kernel
theorem dX9_init_86 : decode cX9_init 86 = .ok (.putfield 39, 3) := by decide +kernel
theorem dX9_init_89 : decode cX9_init 89 = .ok (.aload_n 0, 1) := by decide +kernel
theorem dX9_init_90 : decode cX9_init 90 = .ok (.sipush 192, 3) := by decide +kernel
theorem dX9_init_93 : decode cX9_init 93 = .ok (.newarray .int, 2) := by decide +kernel
theorem dX9_init_95 : decode cX9_init 95 = .ok (.putfield 42, 3) := by decide +kernel
theorem dX9_init_98 : decode cX9_init 98 = .ok (.aload_n 0, 1) := by decide +kernel
theorem dX9_init_99 : decode cX9_init 99 = .ok (.bipush 16, 2) := by decide +kernel
theorem dX9_init_101 : decode cX9_init 101 = .ok (.newarray .boolean, 2) := by decide +kernel
theorem dX9_init_103 : decode cX9_init 103 = .ok (.putfield 45, 3) := by decide +kernel
theorem dX9_init_106 : decode cX9_init 106 = .ok (.aload_n 0, 1) := by decide +kernel
theorem dX9_init_107 : decode cX9_init 107 = .ok (.bipush 16, 2) := by decide +kernel
theorem dX9_init_109 : decode cX9_init 109 = .ok (.newarray .int, 2) := by decide +kernel
theorem dX9_init_111 : decode cX9_init 111 = .ok (.putfield 48, 3) := by decide +kernel
theorem dX9_init_114 : decode cX9_init 114 = .ok (.aload_n 0, 1) := by decide +kernel
theorem dX9_init_115 : decode cX9_init 115 = .ok (.sipush 11200, 3) := by decide +kernel
theorem dX9_init_118 : decode cX9_init 118 = .ok (.newarray .long, 2) := by decide +kernel
theorem dX9_init_120 : decode cX9_init 120 = .ok (.putfield 51, 3) := by decide +kernel
theorem dX9_init_123 : decode cX9_init 123 = .ok (.aload_n 0, 1) := by decide +kernel
theorem dX9_init_124 : decode cX9_init 124 = .ok (.bipush 96, 2) := by decide +kernel
theorem dX9_init_126 : decode cX9_init 126 = .ok (.newarray .int, 2) := by decide +kernel
theorem dX9_init_128 : decode cX9_init 128 = .ok (.putfield 54, 3) := by decide +kernel
theorem dX9_init_131 : decode cX9_init 131 = .ok (.aload_n 0, 1) := by decide +kernel
theorem dX9_init_132 : decode cX9_init 132 = .ok (.bipush 16, 2) := by decide +kernel
theorem dX9_init_134 : decode cX9_init 134 = .ok (.newarray .int, 2) := by decide +kernel
theorem dX9_init_136 : decode cX9_init 136 = .ok (.putfield 57, 3) := by decide +kernel
theorem dX9_init_139 : decode cX9_init 139 = .ok (.aload_n 0, 1) := by decide +kernel
theorem dX9_init_140 : decode cX9_init 140 = .ok (.sipush 480, 3) := by decide +kernel
theorem dX9_init_143 : decode cX9_init 143 = .ok (.newarray .int, 2) := by decide +kernel
theorem dX9_init_145 : decode cX9_init 145 = .ok (.putfield 60, 3) := by decide +kernel
theorem dX9_init_148 : decode cX9_init 148 = .ok (.aload_n 0, 1) := by decide +kernel
theorem dX9_init_149 : decode cX9_init 149 = .ok (.sipush 160, 3) := by decide +kernel
theorem dX9_init_152 : decode cX9_init 152 = .ok (.newarray .boolean, 2) := by decide +kernel
theorem dX9_init_154 : decode cX9_init 154 = .ok (.putfield 63, 3) := by decide +kernel
theorem dX9_init_157 : decode cX9_init 157 = .ok (.aload_n 0, 1) := by decide +kernel
theorem dX9_init_158 : decode cX9_init 158 = .ok (.sipush 160, 3) := by decide +kernel
theorem dX9_init_161 : decode cX9_init 161 = .ok (.newarray .long, 2) := by decide +kernel
theorem dX9_init_163 : decode cX9_init 163 = .ok (.putfield 66, 3) := by decide +kernel
theorem dX9_init_166 : decode cX9_init 166 = .ok (.aload_n 0, 1) := by decide +kernel
theorem dX9_init_167 : decode cX9_init 167 = .ok (.sipush 160, 3) := by decide +kernel
theorem dX9_init_170 : decode cX9_init 170 = .ok (.newarray .int, 2) := by decide +kernel
theorem dX9_init_172 : decode cX9_init 172 = .ok (.putfield 69, 3) := by decide +kernel
theorem dX9_init_175 : decode cX9_init 175 = .ok (.aload_n 0, 1) := by decide +kernel
theorem dX9_init_176 : decode cX9_init 176 = .ok (.sipush 160, 3) := by decide +kernel
theorem dX9_init_179 : decode cX9_init 179 = .ok (.newarray .boolean, 2) := by decide +kernel
theorem dX9_init_181 : decode cX9_init 181 = .ok (.putfield 72, 3) := by decide +kernel
theorem dX9_init_184 : decode cX9_init 184 = .ok (.aload_n 0, 1) := by decide +kernel
theorem dX9_init_185 : decode cX9_init 185 = .ok (.sipush 170, 3) := by decide +kernel
theorem dX9_init_188 : decode cX9_init 188 = .ok (.newarray .int, 2) := by decide +kernel
theorem dX9_init_190 : decode cX9_init 190 = .ok (.putfield 75, 3) := by decide +kernel
theorem dX9_init_193 : decode cX9_init 193 = .ok (.aload_n 0, 1) := by decide +kernel
theorem dX9_init_194 : decode cX9_init 194 = .ok (.sipush 170, 3) := by decide +kernel
theorem dX9_init_197 : decode cX9_init 197 = .ok (.newarray .int, 2) := by decide +kernel
theorem dX9_init_199 : decode cX9_init 199 = .ok (.putfield 78, 3) := by decide +kernel
theorem dX9_init_202 : decode cX9_init 202 = .ok (.aload_n 0, 1) := by decide +kernel
theorem dX9_init_203 : decode cX9_init 203 = .ok (.sipush 700, 3) := by decide +kernel
theorem dX9_init_206 : decode cX9_init 206 = .ok (.newarray .long, 2) := by decide +kernel
theorem dX9_init_208 : decode cX9_init 208 = .ok (.putfield 81, 3) := by decide +kernel
theorem dX9_init_211 : decode cX9_init 211 = .ok (.aload_n 0, 1) := by decide +kernel
theorem dX9_init_212 : decode cX9_init 212 = .ok (.bipush 6, 2) := by decide +kernel
theorem dX9_init_214 : decode cX9_init 214 = .ok (.newarray .int, 2) := by decide +kernel
theorem dX9_init_216 : decode cX9_init 216 = .ok (.putfield 84, 3) := by decide +kernel
theorem dX9_init_219 : decode cX9_init 219 = .ok (.aload_n 0, 1) := by decide +kernel
theorem dX9_init_220 : decode cX9_init 220 = .ok (.sipush 256, 3) := by decide +kernel
theorem dX9_init_223 : decode cX9_init 223 = .ok (.newarray .boolean, 2) := by decide +kernel
theorem dX9_init_225 : decode cX9_init 225 = .ok (.putfield 87, 3) := by decide +kernel
theorem dX9_init_228 : decode cX9_init 228 = .ok (.aload_n 0, 1) := by decide +kernel
theorem dX9_init_229 : decode cX9_init 229 = .ok (.bipush 16, 2) := by decide +kernel
theorem dX9_init_231 : decode cX9_init 231 = .ok (.newarray .int, 2) := by decide +kernel
theorem dX9_init_233 : decode cX9_init 233 = .ok (.putfield 90, 3) := by decide +kernel
theorem dX9_init_236 : decode cX9_init 236 = .ok (.aload_n 0, 1) := by decide +kernel
theorem dX9_init_237 : decode cX9_init 237 = .ok (.bipush 16, 2) := by decide +kernel
theorem dX9_init_239 : decode cX9_init 239 = .ok (.newarray .int, 2) := by decide +kernel
theorem dX9_init_241 : decode cX9_init 241 = .ok (.putfield 93, 3) := by decide +kernel
theorem dX9_init_244 : decode cX9_init 244 = .ok (.aload_n 0, 1) := by decide +kernel
theorem dX9_init_245 : decode cX9_init 245 = .ok (.bipush 16, 2) := by decide +kernel
theorem dX9_init_247 : decode cX9_init 247 = .ok (.newarray .boolean, 2) := by decide +kernel
theorem dX9_init_249 : decode cX9_init 249 = .ok (.putfield 96, 3) := by decide +kernel
theorem dX9_init_252 : decode cX9_init 252 = .ok (.return_, 1) := by decide +kernel
theorem dX9_in_0 : decode cX9_in 0 = .ok (.iload_n 0, 1) := by decide +kernel
theorem dX9_in_1 : decode cX9_in 1 = .ok (.iload_n 1, 1) := by decide +kernel
theorem dX9_in_2 : decode cX9_in 2 = .ok (.if_icmp .lt 12, 3) := by decide +kernel
theorem dX9_in_5 : decode cX9_in 5 = .ok (.iload_n 0, 1) := by decide +kernel
theorem dX9_in_6 : decode cX9_in 6 = .ok (.iload_n 2, 1) := by decide +kernel
theorem dX9_in_7 : decode cX9_in 7 = .ok (.if_icmp .gt 7, 3) := by decide +kernel
theorem dX9_in_10 : decode cX9_in 10 = .ok (.iconst 1, 1) := by decide +kernel
theorem dX9_in_11 : decode cX9_in 11 = .ok (.goto 4, 3) := by decide +kernel
theorem dX9_in_14 : decode cX9_in 14 = .ok (.iconst 0, 1) := by decide +kernel
theorem dX9_in_15 : decode cX9_in 15 = .ok (.ireturn, 1) := by decide +kernel
theorem dX9_isUnit_0 : decode cX9_isUnit 0 = .ok (.iload_n 1, 1) := by decide +kernel
theorem dX9_isUnit_1 : decode cX9_isUnit 1 = .ok (.iconst 0, 1) := by decide +kernel
theorem dX9_isUnit_2 : decode cX9_isUnit 2 = .ok (.aload_n 0, 1) := by decide +kernel
theorem dX9_isUnit_3 : decode cX9_isUnit 3 = .ok (.getfield 103, 3) := by decide +kernel
theorem dX9_isUnit_6 : decode cX9_isUnit 6 = .ok (.iconst 1, 1) := by decide +kernel
theorem dX9_isUnit_7 : decode cX9_isUnit 7 = .ok (.isub, 1) := by decide +kernel
theorem dX9_isUnit_8 : decode cX9_isUnit 8 = .ok (.invokestatic 106, 3) := by decide +kernel
theorem dX9_isUnit_11 : decode cX9_isUnit 11 = .ok (.ifCond .eq 16, 3) := by decide +kernel
theorem dX9_isUnit_14 : decode cX9_isUnit 14 = .ok (.aload_n 0, 1) := by decide +kernel
theorem dX9_isUnit_15 : decode cX9_isUnit 15 = .ok (.getfield 7, 3) := by decide +kernel
theorem dX9_isUnit_18 : decode cX9_isUnit 18 = .ok (.iload_n 1, 1) := by decide +kernel
theorem dX9_isUnit_19 : decode cX9_isUnit 19 = .ok (.baload, 1) := by decide +kernel
theorem dX9_isUnit_20 : decode cX9_isUnit 20 = .ok (.ifCond .eq 7, 3) := by decide +kernel
theorem dX9_isUnit_23 : decode cX9_isUnit 23 = .ok (.iconst 1, 1) := by decide +kernel
theorem dX9_isUnit_24 : decode cX9_isUnit 24 = .ok (.goto 4, 3) := by decide +kernel
theorem dX9_isUnit_27 : decode cX9_isUnit 27 = .ok (.iconst 0, 1) := by decide +kernel
theorem dX9_isUnit_28 : decode cX9_isUnit 28 = .ok (.ireturn, 1) := by decide +kernel
theorem dX9_isName_0 : decode cX9_isName 0 = .ok (.iload_n 0, 1) := by decide +kernel
theorem dX9_isName_1 : decode cX9_isName 1 = .ok (.iconst 0, 1) := by decide +kernel
theorem dX9_isName_2 : decode cX9_isName 2 = .ok (.bipush 31, 2) := by decide +kernel
theorem dX9_isName_4 : decode cX9_isName 4 = .ok (.invokestatic 106, 3) := by decide +kernel
theorem dX9_isName_7 : decode cX9_isName 7 = .ok (.ireturn, 1) := by decide +kernel
theorem dX9_unitsThere_0 : decode cX9_unitsThere 0 = .ok (.iconst 0, 1) := by decide +kernel
theorem dX9_unitsThere_1 : decode cX9_unitsThere 1 = .ok (.istore_n 1, 1) := by decide +kernel
theorem dX9_unitsThere_2 : decode cX9_unitsThere 2 = .ok (.iconst 0, 1) := by decide +kernel
theorem dX9_unitsThere_3 : decode cX9_unitsThere 3 = .ok (.istore_n 2, 1) := by decide +kernel
theorem dX9_unitsThere_4 : decode cX9_unitsThere 4 = .ok (.iload_n 2, 1) := by decide +kernel
theorem dX9_unitsThere_5 : decode cX9_unitsThere 5 = .ok (.aload_n 0, 1) := by decide +kernel
theorem dX9_unitsThere_6 : decode cX9_unitsThere 6 = .ok (.getfield 103, 3) := by decide +kernel
theorem dX9_unitsThere_9 : decode cX9_unitsThere 9 = .ok (.if_icmp .ge 26, 3) := by decide +kernel
theorem dX9_unitsThere_12 : decode cX9_unitsThere 12 = .ok (.iload_n 1, 1) := by decide +kernel
theorem dX9_unitsThere_13 : decode cX9_unitsThere 13 = .ok (.aload_n 0, 1) := by decide +kernel
theorem dX9_unitsThere_14 : decode cX9_unitsThere 14 = .ok (.getfield 7, 3) := by decide +kernel
theorem dX9_unitsThere_17 : decode cX9_unitsThere 17 = .ok (.iload_n 2, 1) := by decide +kernel
theorem dX9_unitsThere_18 : decode cX9_unitsThere 18 = .ok (.baload, 1) := by decide +kernel
theorem dX9_unitsThere_19 : decode cX9_unitsThere 19 = .ok (.ifCond .eq 7, 3) := by decide +kernel
theorem dX9_unitsThere_22 : decode cX9_unitsThere 22 = .ok (.iconst 1, 1) := by decide +kernel
theorem dX9_unitsThere_23 : decode cX9_unitsThere 23 = .ok (.goto 4, 3) := by decide +kernel
theorem dX9_unitsThere_26 : decode cX9_unitsThere 26 = .ok (.iconst 0, 1) := by decide +kernel
theorem dX9_unitsThere_27 : decode cX9_unitsThere 27 = .ok (.iadd, 1) := by decide +kernel
theorem dX9_unitsThere_28 : decode cX9_unitsThere 28 = .ok (.istore_n 1, 1) := by decide +kernel
theorem dX9_unitsThere_29 : decode cX9_unitsThere 29 = .ok (.iinc 2 1, 3) := by decide +kernel
theorem dX9_unitsThere_32 : decode cX9_unitsThere 32 = .ok (.goto (-28), 3) := by decide +kernel
theorem dX9_unitsThere_35 : decode cX9_unitsThere 35 = .ok (.iload_n 1, 1) := by decide +kernel
theorem dX9_unitsThere_36 : decode cX9_unitsThere 36 = .ok (.ireturn, 1) := by decide +kernel
theorem dX9_unit_0 : decode cX9_unit 0 = .ok (.aload_n 0, 1) := by decide +kernel
theorem dX9_unit_1 : decode cX9_unit 1 = .ok (.iconst 0, 1) := by decide +kernel
theorem dX9_unit_2 : decode cX9_unit 2 = .ok (.putfield 99, 3) := by decide +kernel
theorem dX9_unit_5 : decode cX9_unit 5 = .ok (.aload_n 0, 1) := by decide +kernel
theorem dX9_unit_6 : decode cX9_unit 6 = .ok (.getfield 103, 3) := by decide +kernel
theorem dX9_unit_9 : decode cX9_unit 9 = .ok (.bipush 16, 2) := by decide +kernel
theorem dX9_unit_11 : decode cX9_unit 11 = .ok (.if_icmp .ne 6, 3) := by decide +kernel
theorem dX9_unit_14 : decode cX9_unit 14 = .ok (.bipush (-4), 2) := by decide +kernel
theorem dX9_unit_16 : decode cX9_unit 16 = .ok (.ireturn, 1) := by decide +kernel
theorem dX9_unit_17 : decode cX9_unit 17 = .ok (.aload_n 0, 1) := by decide +kernel
theorem dX9_unit_18 : decode cX9_unit 18 = .ok (.getfield 103, 3) := by decide +kernel
theorem dX9_unit_21 : decode cX9_unit 21 = .ok (.istore_n 1, 1) := by decide +kernel
theorem dX9_unit_22 : decode cX9_unit 22 = .ok (.aload_n 0, 1) := by decide +kernel
theorem dX9_unit_23 : decode cX9_unit 23 = .ok (.dup, 1) := by decide +kernel
theorem dX9_unit_24 : decode cX9_unit 24 = .ok (.getfield 103, 3) := by decide +kernel
theorem dX9_unit_27 : decode cX9_unit 27 = .ok (.iconst 1, 1) := by decide +kernel
theorem dX9_unit_28 : decode cX9_unit 28 = .ok (.iadd, 1) := by decide +kernel
theorem dX9_unit_29 : decode cX9_unit 29 = .ok (.putfield 103, 3) := by decide +kernel
theorem dX9_unit_32 : decode cX9_unit 32 = .ok (.aload_n 0, 1) := by decide +kernel
theorem dX9_unit_33 : decode cX9_unit 33 = .ok (.getfield 7, 3) := by decide +kernel
theorem dX9_unit_36 : decode cX9_unit 36 = .ok (.iload_n 1, 1) := by decide +kernel
theorem dX9_unit_37 : decode cX9_unit 37 = .ok (.iconst 1, 1) := by decide +kernel
theorem dX9_unit_38 : decode cX9_unit 38 = .ok (.bastore, 1) := by decide +kernel
theorem dX9_unit_39 : decode cX9_unit 39 = .ok (.aload_n 0, 1) := by decide +kernel
theorem dX9_unit_40 : decode cX9_unit 40 = .ok (.getfield 13, 3) := by decide +kernel
theorem dX9_unit_43 : decode cX9_unit 43 = .ok (.iload_n 1, 1) := by decide +kernel
theorem dX9_unit_44 : decode cX9_unit 44 = .ok (.iconst 0, 1) := by decide +kernel
theorem dX9_unit_45 : decode cX9_unit 45 = .ok (.iastore, 1) := by decide +kernel
theorem dX9_unit_46 : decode cX9_unit 46 = .ok (.aload_n 0, 1) := by decide +kernel
theorem dX9_unit_47 : decode cX9_unit 47 = .ok (.getfield 33, 3) := by decide +kernel
theorem dX9_unit_50 : decode cX9_unit 50 = .ok (.iload_n 1, 1) := by decide +kernel
theorem dX9_unit_51 : decode cX9_unit 51 = .ok (.iconst 0, 1) := by decide +kernel
theorem dX9_unit_52 : decode cX9_unit 52 = .ok (.iastore, 1) := by decide +kernel
theorem dX9_unit_53 : decode cX9_unit 53 = .ok (.aload_n 0, 1) := by decide +kernel
theorem dX9_unit_54 : decode cX9_unit 54 = .ok (.getfield 39, 3) := by decide +kernel
theorem dX9_unit_57 : decode cX9_unit 57 = .ok (.iload_n 1, 1) := by decide +kernel
theorem dX9_unit_58 : decode cX9_unit 58 = .ok (.iconst 0, 1) := by decide +kernel
theorem dX9_unit_59 : decode cX9_unit 59 = .ok (.iastore, 1) := by decide +kernel
theorem dX9_unit_60 : decode cX9_unit 60 = .ok (.aload_n 0, 1) := by decide +kernel
theorem dX9_unit_61 : decode cX9_unit 61 = .ok (.getfield 45, 3) := by decide +kernel
theorem dX9_unit_64 : decode cX9_unit 64 = .ok (.iload_n 1, 1) := by decide +kernel
theorem dX9_unit_65 : decode cX9_unit 65 = .ok (.iconst 0, 1) := by decide +kernel
theorem dX9_unit_66 : decode cX9_unit 66 = .ok (.bastore, 1) := by decide +kernel
theorem dX9_unit_67 : decode cX9_unit 67 = .ok (.aload_n 0, 1) := by decide +kernel
theorem dX9_unit_68 : decode cX9_unit 68 = .ok (.getfield 48, 3) := by decide +kernel
theorem dX9_unit_71 : decode cX9_unit 71 = .ok (.iload_n 1, 1) := by decide +kernel
theorem dX9_unit_72 : decode cX9_unit 72 = .ok (.bipush (-5), 2) := by decide +kernel
theorem dX9_unit_74 : decode cX9_unit 74 = .ok (.iastore, 1) := by decide +kernel
theorem dX9_unit_75 : decode cX9_unit 75 = .ok (.aload_n 0, 1) := by decide +kernel
theorem dX9_unit_76 : decode cX9_unit 76 = .ok (.getfield 57, 3) := by decide +kernel
theorem dX9_unit_79 : decode cX9_unit 79 = .ok (.iload_n 1, 1) := by decide +kernel
theorem dX9_unit_80 : decode cX9_unit 80 = .ok (.iconst 0, 1) := by decide +kernel
theorem dX9_unit_81 : decode cX9_unit 81 = .ok (.iastore, 1) := by decide +kernel
theorem dX9_unit_82 : decode cX9_unit 82 = .ok (.iload_n 1, 1) := by decide +kernel
theorem dX9_unit_83 : decode cX9_unit 83 = .ok (.ireturn, 1) := by decide +kernel
theorem dX9_thingOf_0 : decode cX9_thingOf 0 = .ok (.bipush 10, 2) := by decide +kernel
theorem dX9_thingOf_2 : decode cX9_thingOf 2 = .ok (.iload_n 1, 1) := by decide +kernel
theorem dX9_thingOf_3 : decode cX9_thingOf 3 = .ok (.imul, 1) := by decide +kernel
theorem dX9_thingOf_4 : decode cX9_thingOf 4 = .ok (.istore_n 3, 1) := by decide +kernel
theorem dX9_thingOf_5 : decode cX9_thingOf 5 = .ok (.iload_n 3, 1) := by decide +kernel
theorem dX9_thingOf_6 : decode cX9_thingOf 6 = .ok (.bipush 10, 2) := by decide +kernel
theorem dX9_thingOf_8 : decode cX9_thingOf 8 = .ok (.iload_n 1, 1) := by decide +kernel
theorem dX9_thingOf_9 : decode cX9_thingOf 9 = .ok (.imul, 1) := by decide +kernel
theorem dX9_thingOf_10 : decode cX9_thingOf 10 = .ok (.aload_n 0, 1) := by decide +kernel
theorem dX9_thingOf_11 : decode cX9_thingOf 11 = .ok (.getfield 13, 3) := by decide +kernel
theorem dX9_thingOf_14 : decode cX9_thingOf 14 = .ok (.iload_n 1, 1) := by decide +kernel
theorem dX9_thingOf_15 : decode cX9_thingOf 15 = .ok (.iaload, 1) := by decide +kernel
theorem dX9_thingOf_16 : decode cX9_thingOf 16 = .ok (.iadd, 1) := by decide +kernel
theorem dX9_thingOf_17 : decode cX9_thingOf 17 = .ok (.if_icmp .ge 21, 3) := by decide +kernel
theorem dX9_thingOf_20 : decode cX9_thingOf 20 = .ok (.aload_n 0, 1) := by decide +kernel
theorem dX9_thingOf_21 : decode cX9_thingOf 21 = .ok (.getfield 17, 3) := by decide +kernel
theorem dX9_thingOf_24 : decode cX9_thingOf 24 = .ok (.iload_n 3, 1) := by decide +kernel
theorem dX9_thingOf_25 : decode cX9_thingOf 25 = .ok (.iaload, 1) := by decide +kernel
theorem dX9_thingOf_26 : decode cX9_thingOf 26 = .ok (.iload_n 2, 1) := by decide +kernel
theorem dX9_thingOf_27 : decode cX9_thingOf 27 = .ok (.if_icmp .ne 5, 3) := by decide +kernel
theorem dX9_thingOf_30 : decode cX9_thingOf 30 = .ok (.iload_n 3, 1) := by decide +kernel
theorem dX9_thingOf_31 : decode cX9_thingOf 31 = .ok (.ireturn, 1) := by decide +kernel
theorem dX9_thingOf_32 : decode cX9_thingOf 32 = .ok (.iinc 3 1, 3) := by decide +kernel
theorem dX9_thingOf_35 : decode cX9_thingOf 35 = .ok (.goto (-30), 3) := by decide +kernel
theorem dX9_thingOf_38 : decode cX9_thingOf 38 = .ok (.bipush (-5), 2) := by decide +kernel
theorem dX9_thingOf_40 : decode cX9_thingOf 40 = .ok (.ireturn, 1) := by decide +kernel
theorem dX9_move_0 : decode cX9_move 0 = .ok (.aload_n 0, 1) := by decide +kernel
theorem dX9_move_1 : decode cX9_move 1 = .ok (.getfield 17, 3) := by decide +kernel
theorem dX9_move_4 : decode cX9_move 4 = .ok (.iload_n 2, 1) := by decide +kernel
theorem dX9_move_5 : decode cX9_move 5 = .ok (.aload_n 0, 1) := by decide +kernel
theorem dX9_move_6 : decode cX9_move 6 = .ok (.getfield 17, 3) := by decide +kernel
theorem dX9_move_9 : decode cX9_move 9 = .ok (.iload_n 1, 1) := by decide +kernel
theorem dX9_move_10 : decode cX9_move 10 = .ok (.iaload, 1) := by decide +kernel
theorem dX9_move_11 : decode cX9_move 11 = .ok (.iastore, 1) := by decide +kernel
theorem dX9_move_12 : decode cX9_move 12 = .ok (.aload_n 0, 1) := by decide +kernel
theorem dX9_move_13 : decode cX9_move 13 = .ok (.getfield 20, 3) := by decide +kernel
theorem dX9_move_16 : decode cX9_move 16 = .ok (.iload_n 2, 1) := by decide +kernel
theorem dX9_move_17 : decode cX9_move 17 = .ok (.aload_n 0, 1) := by decide +kernel
theorem dX9_move_18 : decode cX9_move 18 = .ok (.getfield 20, 3) := by decide +kernel
theorem dX9_move_21 : decode cX9_move 21 = .ok (.iload_n 1, 1) := by decide +kernel
theorem dX9_move_22 : decode cX9_move 22 = .ok (.laload, 1) := by decide +kernel
theorem dX9_move_23 : decode cX9_move 23 = .ok (.lastore, 1) := by decide +kernel
theorem dX9_move_24 : decode cX9_move 24 = .ok (.aload_n 0, 1) := by decide +kernel
theorem dX9_move_25 : decode cX9_move 25 = .ok (.getfield 24, 3) := by decide +kernel
theorem dX9_move_28 : decode cX9_move 28 = .ok (.iload_n 2, 1) := by decide +kernel
theorem dX9_move_29 : decode cX9_move 29 = .ok (.aload_n 0, 1) := by decide +kernel
theorem dX9_move_30 : decode cX9_move 30 = .ok (.getfield 24, 3) := by decide +kernel
theorem dX9_move_33 : decode cX9_move 33 = .ok (.iload_n 1, 1) := by decide +kernel
theorem dX9_move_34 : decode cX9_move 34 = .ok (.baload, 1) := by decide +kernel
theorem dX9_move_35 : decode cX9_move 35 = .ok (.bastore, 1) := by decide +kernel
theorem dX9_move_36 : decode cX9_move 36 = .ok (.aload_n 0, 1) := by decide +kernel
theorem dX9_move_37 : decode cX9_move 37 = .ok (.getfield 27, 3) := by decide +kernel
theorem dX9_move_40 : decode cX9_move 40 = .ok (.iload_n 2, 1) := by decide +kernel
theorem dX9_move_41 : decode cX9_move 41 = .ok (.aload_n 0, 1) := by decide +kernel
theorem dX9_move_42 : decode cX9_move 42 = .ok (.getfield 27, 3) := by decide +kernel
theorem dX9_move_45 : decode cX9_move 45 = .ok (.iload_n 1, 1) := by decide +kernel
theorem dX9_move_46 : decode cX9_move 46 = .ok (.iaload, 1) := by decide +kernel
theorem dX9_move_47 : decode cX9_move 47 = .ok (.iastore, 1) := by decide +kernel
theorem dX9_move_48 : decode cX9_move 48 = .ok (.iconst 0, 1) := by decide +kernel
theorem dX9_move_49 : decode cX9_move 49 = .ok (.istore_n 3, 1) := by decide +kernel
theorem dX9_move_50 : decode cX9_move 50 = .ok (.iload_n 3, 1) := by decide +kernel
theorem dX9_move_51 : decode cX9_move 51 = .ok (.iconst 3, 1) := by decide +kernel
theorem dX9_move_52 : decode cX9_move 52 = .ok (.if_icmp .ge 29, 3) := by decide +kernel
theorem dX9_move_55 : decode cX9_move 55 = .ok (.aload_n 0, 1) := by decide +kernel
theorem dX9_move_56 : decode cX9_move 56 = .ok (.getfield 30, 3) := by decide +kernel
theorem dX9_move_59 : decode cX9_move 59 = .ok (.iconst 3, 1) := by decide +kernel
theorem dX9_move_60 : decode cX9_move 60 = .ok (.iload_n 2, 1) := by decide +kernel
theorem dX9_move_61 : decode cX9_move 61 = .ok (.imul, 1) := by decide +kernel
theorem dX9_move_62 : decode cX9_move 62 = .ok (.iload_n 3, 1) := by decide +kernel
theorem dX9_move_63 : decode cX9_move 63 = .ok (.iadd, 1) := by decide +kernel
theorem dX9_move_64 : decode cX9_move 64 = .ok (.aload_n 0, 1) := by decide +kernel
theorem dX9_move_65 : decode cX9_move 65 = .ok (.getfield 30, 3) := by decide +kernel
theorem dX9_move_68 : decode cX9_move 68 = .ok (.iconst 3, 1) := by decide +kernel
theorem dX9_move_69 : decode cX9_move 69 = .ok (.iload_n 1, 1) := by decide +kernel
theorem dX9_move_70 : decode cX9_move 70 = .ok (.imul, 1) := by decide +kernel
theorem dX9_move_71 : decode cX9_move 71 = .ok (.iload_n 3, 1) := by decide +kernel
theorem dX9_move_72 : decode cX9_move 72 = .ok (.iadd, 1) := by decide +kernel
theorem dX9_move_73 : decode cX9_move 73 = .ok (.iaload, 1) := by decide +kernel
theorem dX9_move_74 : decode cX9_move 74 = .ok (.iastore, 1) := by decide +kernel
theorem dX9_move_75 : decode cX9_move 75 = .ok (.iinc 3 1, 3) := by decide +kernel
theorem dX9_move_78 : decode cX9_move 78 = .ok (.goto (-28), 3) := by decide +kernel
theorem dX9_move_81 : decode cX9_move 81 = .ok (.return_, 1) := by decide +kernel
theorem dX9_give_0 : decode cX9_give 0 = .ok (.aload_n 0, 1) := by decide +kernel
theorem dX9_give_1 : decode cX9_give 1 = .ok (.iconst 0, 1) := by decide +kernel
theorem dX9_give_2 : decode cX9_give 2 = .ok (.putfield 99, 3) := by decide +kernel
theorem dX9_give_5 : decode cX9_give 5 = .ok (.aload_n 0, 1) := by decide +kernel
theorem dX9_give_6 : decode cX9_give 6 = .ok (.iload_n 1, 1) := by decide +kernel
theorem dX9_give_7 : decode cX9_give 7 = .ok (.invokevirtual 110, 3) := by decide +kernel
theorem dX9_give_10 : decode cX9_give 10 = .ok (.ifCond .ne 5, 3) := by decide +kernel
theorem dX9_give_13 : decode cX9_give 13 = .ok (.iconst (-1), 1) := by decide +kernel
theorem dX9_give_14 : decode cX9_give 14 = .ok (.ireturn, 1) := by decide +kernel
theorem dX9_give_15 : decode cX9_give 15 = .ok (.iload_n 2, 1) := by decide +kernel
theorem dX9_give_16 : decode cX9_give 16 = .ok (.iconst 0, 1) := by decide +kernel
theorem dX9_give_17 : decode cX9_give 17 = .ok (.iconst 2, 1) := by decide +kernel
theorem dX9_give_18 : decode cX9_give 18 = .ok (.invokestatic 106, 3) := by decide +kernel
theorem dX9_give_21 : decode cX9_give 21 = .ok (.ifCond .eq 10, 3) := by decide +kernel
theorem dX9_give_24 : decode cX9_give 24 = .ok (.iload_n 3, 1) := by decide +kernel
theorem dX9_give_25 : decode cX9_give 25 = .ok (.invokestatic 114, 3) := by decide +kernel
theorem dX9_give_28 : decode cX9_give 28 = .ok (.ifCond .ne 6, 3) := by decide +kernel
theorem dX9_give_31 : decode cX9_give 31 = .ok (.bipush (-2), 2) := by decide +kernel
theorem dX9_give_33 : decode cX9_give 33 = .ok (.ireturn, 1) := by decide +kernel
theorem dX9_give_34 : decode cX9_give 34 = .ok (.bipush 32, 2) := by decide +kernel
theorem dX9_give_36 : decode cX9_give 36 = .ok (.iload_n 2, 1) := by decide +kernel
theorem dX9_give_37 : decode cX9_give 37 = .ok (.imul, 1) := by decide +kernel
theorem dX9_give_38 : decode cX9_give 38 = .ok (.iload_n 3, 1) := by decide +kernel
theorem dX9_give_39 : decode cX9_give 39 = .ok (.iadd, 1) := by decide +kernel
theorem dX9_give_40 : decode cX9_give 40 = .ok (.istore 7, 2) := by decide +kernel
theorem dX9_give_42 : decode cX9_give 42 = .ok (.aload_n 0, 1) := by decide +kernel
theorem dX9_give_43 : decode cX9_give 43 = .ok (.iload_n 1, 1) := by decide +kernel
theorem dX9_give_44 : decode cX9_give 44 = .ok (.iload 7, 2) := by decide +kernel
theorem dX9_give_46 : decode cX9_give 46 = .ok (.invokevirtual 117, 3) := by decide +kernel
theorem dX9_give_49 : decode cX9_give 49 = .ok (.istore 8, 2) := by decide +kernel
theorem dX9_give_51 : decode cX9_give 51 = .ok (.iload 8, 2) := by decide +kernel
theorem dX9_give_53 : decode cX9_give 53 = .ok (.bipush (-5), 2) := by decide +kernel
theorem dX9_give_55 : decode cX9_give 55 = .ok (.if_icmp .eq 23, 3) := by decide +kernel
theorem dX9_give_58 : decode cX9_give 58 = .ok (.aload_n 0, 1) := by decide +kernel
theorem dX9_give_59 : decode cX9_give 59 = .ok (.getfield 20, 3) := by decide +kernel
theorem dX9_give_62 : decode cX9_give 62 = .ok (.iload 8, 2) := by decide +kernel
theorem dX9_give_64 : decode cX9_give 64 = .ok (.lload 4, 2) := by decide +kernel
theorem dX9_give_66 : decode cX9_give 66 = .ok (.lastore, 1) := by decide +kernel
theorem dX9_give_67 : decode cX9_give 67 = .ok (.aload_n 0, 1) := by decide +kernel
theorem dX9_give_68 : decode cX9_give 68 = .ok (.getfield 24, 3) := by decide +kernel
theorem dX9_give_71 : decode cX9_give 71 = .ok (.iload 8, 2) := by decide +kernel
theorem dX9_give_73 : decode cX9_give 73 = .ok (.iload 6, 2) := by decide +kernel
theorem dX9_give_75 : decode cX9_give 75 = .ok (.bastore, 1) := by decide +kernel
theorem dX9_give_76 : decode cX9_give 76 = .ok (.iconst 0, 1) := by decide +kernel
theorem dX9_give_77 : decode cX9_give 77 = .ok (.ireturn, 1) := by decide +kernel
theorem dX9_give_78 : decode cX9_give 78 = .ok (.aload_n 0, 1) := by decide +kernel
theorem dX9_give_79 : decode cX9_give 79 = .ok (.getfield 13, 3) := by decide +kernel
theorem dX9_give_82 : decode cX9_give 82 = .ok (.iload_n 1, 1) := by decide +kernel
theorem dX9_give_83 : decode cX9_give 83 = .ok (.iaload, 1) := by decide +kernel
theorem dX9_give_84 : decode cX9_give 84 = .ok (.bipush 10, 2) := by decide +kernel
theorem dX9_give_86 : decode cX9_give 86 = .ok (.if_icmp .ne 6, 3) := by decide +kernel
theorem dX9_give_89 : decode cX9_give 89 = .ok (.bipush (-4), 2) := by decide +kernel
theorem dX9_give_91 : decode cX9_give 91 = .ok (.ireturn, 1) := by decide +kernel
theorem dX9_give_92 : decode cX9_give 92 = .ok (.bipush 10, 2) := by decide +kernel
theorem dX9_give_94 : decode cX9_give 94 = .ok (.iload_n 1, 1) := by decide +kernel
theorem dX9_give_95 : decode cX9_give 95 = .ok (.imul, 1) := by decide +kernel
theorem dX9_give_96 : decode cX9_give 96 = .ok (.aload_n 0, 1) := by decide +kernel
theorem dX9_give_97 : decode cX9_give 97 = .ok (.getfield 13, 3) := by decide +kernel
theorem dX9_give_100 : decode cX9_give 100 = .ok (.iload_n 1, 1) := by decide +kernel
theorem dX9_give_101 : decode cX9_give 101 = .ok (.iaload, 1) := by decide +kernel
theorem dX9_give_102 : decode cX9_give 102 = .ok (.iadd, 1) := by decide +kernel
theorem dX9_give_103 : decode cX9_give 103 = .ok (.istore 8, 2) := by decide +kernel
theorem dX9_give_105 : decode cX9_give 105 = .ok (.iload 8, 2) := by decide +kernel
theorem dX9_give_107 : decode cX9_give 107 = .ok (.bipush 10, 2) := by decide +kernel
theorem dX9_give_109 : decode cX9_give 109 = .ok (.iload_n 1, 1) := by decide +kernel
theorem dX9_give_110 : decode cX9_give 110 = .ok (.imul, 1) := by decide +kernel
theorem dX9_give_111 : decode cX9_give 111 = .ok (.if_icmp .le 33, 3) := by decide +kernel
theorem dX9_give_114 : decode cX9_give 114 = .ok (.aload_n 0, 1) := by decide +kernel
theorem dX9_give_115 : decode cX9_give 115 = .ok (.getfield 17, 3) := by decide +kernel
theorem dX9_give_118 : decode cX9_give 118 = .ok (.iload 8, 2) := by decide +kernel
theorem dX9_give_120 : decode cX9_give 120 = .ok (.iconst 1, 1) := by decide +kernel
theorem dX9_give_121 : decode cX9_give 121 = .ok (.isub, 1) := by decide +kernel
theorem dX9_give_122 : decode cX9_give 122 = .ok (.iaload, 1) := by decide +kernel
theorem dX9_give_123 : decode cX9_give 123 = .ok (.iload 7, 2) := by decide +kernel
theorem dX9_give_125 : decode cX9_give 125 = .ok (.if_icmp .le 19, 3) := by decide +kernel
theorem dX9_give_128 : decode cX9_give 128 = .ok (.aload_n 0, 1) := by decide +kernel
theorem dX9_give_129 : decode cX9_give 129 = .ok (.iload 8, 2) := by decide +kernel
theorem dX9_give_131 : decode cX9_give 131 = .ok (.iconst 1, 1) := by decide +kernel
theorem dX9_give_132 : decode cX9_give 132 = .ok (.isub, 1) := by decide +kernel
theorem dX9_give_133 : decode cX9_give 133 = .ok (.iload 8, 2) := by decide +kernel
theorem dX9_give_135 : decode cX9_give 135 = .ok (.invokevirtual 121, 3) := by decide +kernel
theorem dX9_give_138 : decode cX9_give 138 = .ok (.iinc 8 (-1), 3) := by decide +kernel
theorem dX9_give_141 : decode cX9_give 141 = .ok (.goto (-36), 3) := by decide +kernel
theorem dX9_give_144 : decode cX9_give 144 = .ok (.aload_n 0, 1) := by decide +kernel
theorem dX9_give_145 : decode cX9_give 145 = .ok (.getfield 17, 3) := by decide +kernel
theorem dX9_give_148 : decode cX9_give 148 = .ok (.iload 8, 2) := by decide +kernel
theorem dX9_give_150 : decode cX9_give 150 = .ok (.iload 7, 2) := by decide +kernel
theorem dX9_give_152 : decode cX9_give 152 = .ok (.iastore, 1) := by decide +kernel
theorem dX9_give_153 : decode cX9_give 153 = .ok (.aload_n 0, 1) := by decide +kernel
theorem dX9_give_154 : decode cX9_give 154 = .ok (.getfield 20, 3) := by decide +kernel
theorem dX9_give_157 : decode cX9_give 157 = .ok (.iload 8, 2) := by decide +kernel
theorem dX9_give_159 : decode cX9_give 159 = .ok (.lload 4, 2) := by decide +kernel
theorem dX9_give_161 : decode cX9_give 161 = .ok (.lastore, 1) := by decide +kernel
theorem dX9_give_162 : decode cX9_give 162 = .ok (.aload_n 0, 1) := by decide +kernel
theorem dX9_give_163 : decode cX9_give 163 = .ok (.getfield 24, 3) := by decide +kernel
theorem dX9_give_166 : decode cX9_give 166 = .ok (.iload 8, 2) := by decide +kernel
theorem dX9_give_168 : decode cX9_give 168 = .ok (.iload 6, 2) := by decide +kernel
theorem dX9_give_170 : decode cX9_give 170 = .ok (.bastore, 1) := by decide +kernel
theorem dX9_give_171 : decode cX9_give 171 = .ok (.aload_n 0, 1) := by decide +kernel
theorem dX9_give_172 : decode cX9_give 172 = .ok (.getfield 27, 3) := by decide +kernel
theorem dX9_give_175 : decode cX9_give 175 = .ok (.iload 8, 2) := by decide +kernel
theorem dX9_give_177 : decode cX9_give 177 = .ok (.iconst 0, 1) := by decide +kernel
theorem dX9_give_178 : decode cX9_give 178 = .ok (.iastore, 1) := by decide +kernel
theorem dX9_give_179 : decode cX9_give 179 = .ok (.aload_n 0, 1) := by decide +kernel
theorem dX9_give_180 : decode cX9_give 180 = .ok (.getfield 13, 3) := by decide +kernel
theorem dX9_give_183 : decode cX9_give 183 = .ok (.iload_n 1, 1) := by decide +kernel
theorem dX9_give_184 : decode cX9_give 184 = .ok (.dup2, 1) := by decide +kernel
theorem dX9_give_185 : decode cX9_give 185 = .ok (.iaload, 1) := by decide +kernel
theorem dX9_give_186 : decode cX9_give 186 = .ok (.iconst 1, 1) := by decide +kernel
theorem dX9_give_187 : decode cX9_give 187 = .ok (.iadd, 1) := by decide +kernel
theorem dX9_give_188 : decode cX9_give 188 = .ok (.iastore, 1) := by decide +kernel
theorem dX9_give_189 : decode cX9_give 189 = .ok (.iconst 1, 1) := by decide +kernel
theorem dX9_give_190 : decode cX9_give 190 = .ok (.ireturn, 1) := by decide +kernel
theorem dX9_take_0 : decode cX9_take 0 = .ok (.aload_n 0, 1) := by decide +kernel
theorem dX9_take_1 : decode cX9_take 1 = .ok (.iconst 0, 1) := by decide +kernel
theorem dX9_take_2 : decode cX9_take 2 = .ok (.putfield 99, 3) := by decide +kernel
theorem dX9_take_5 : decode cX9_take 5 = .ok (.aload_n 0, 1) := by decide +kernel
theorem dX9_take_6 : decode cX9_take 6 = .ok (.iload_n 1, 1) := by decide +kernel
theorem dX9_take_7 : decode cX9_take 7 = .ok (.invokevirtual 110, 3) := by decide +kernel
theorem dX9_take_10 : decode cX9_take 10 = .ok (.ifCond .ne 5, 3) := by decide +kernel
theorem dX9_take_13 : decode cX9_take 13 = .ok (.iconst (-1), 1) := by decide +kernel
theorem dX9_take_14 : decode cX9_take 14 = .ok (.ireturn, 1) := by decide +kernel
theorem dX9_take_15 : decode cX9_take 15 = .ok (.iload_n 2, 1) := by decide +kernel
theorem dX9_take_16 : decode cX9_take 16 = .ok (.iconst 0, 1) := by decide +kernel
theorem dX9_take_17 : decode cX9_take 17 = .ok (.iconst 2, 1) := by decide +kernel
theorem dX9_take_18 : decode cX9_take 18 = .ok (.invokestatic 106, 3) := by decide +kernel
theorem dX9_take_21 : decode cX9_take 21 = .ok (.ifCond .eq 10, 3) := by decide +kernel
theorem dX9_take_24 : decode cX9_take 24 = .ok (.iload_n 3, 1) := by decide +kernel
theorem dX9_take_25 : decode cX9_take 25 = .ok (.invokestatic 114, 3) := by decide +kernel
theorem dX9_take_28 : decode cX9_take 28 = .ok (.ifCond .ne 6, 3) := by decide +kernel
theorem dX9_take_31 : decode cX9_take 31 = .ok (.bipush (-2), 2) := by decide +kernel
theorem dX9_take_33 : decode cX9_take 33 = .ok (.ireturn, 1) := by decide +kernel
theorem dX9_take_34 : decode cX9_take 34 = .ok (.aload_n 0, 1) := by decide +kernel
theorem dX9_take_35 : decode cX9_take 35 = .ok (.iload_n 1, 1) := by decide +kernel
theorem dX9_take_36 : decode cX9_take 36 = .ok (.bipush 32, 2) := by decide +kernel
theorem dX9_take_38 : decode cX9_take 38 = .ok (.iload_n 2, 1) := by decide +kernel
theorem dX9_take_39 : decode cX9_take 39 = .ok (.imul, 1) := by decide +kernel
theorem dX9_take_40 : decode cX9_take 40 = .ok (.iload_n 3, 1) := by decide +kernel
theorem dX9_take_41 : decode cX9_take 41 = .ok (.iadd, 1) := by decide +kernel
theorem dX9_take_42 : decode cX9_take 42 = .ok (.invokevirtual 117, 3) := by decide +kernel
theorem dX9_take_45 : decode cX9_take 45 = .ok (.istore 4, 2) := by decide +kernel
theorem dX9_take_47 : decode cX9_take 47 = .ok (.iload 4, 2) := by decide +kernel
theorem dX9_take_49 : decode cX9_take 49 = .ok (.bipush (-5), 2) := by decide +kernel
theorem dX9_take_51 : decode cX9_take 51 = .ok (.if_icmp .ne 5, 3) := by decide +kernel
theorem dX9_take_54 : decode cX9_take 54 = .ok (.iconst (-1), 1) := by decide +kernel
theorem dX9_take_55 : decode cX9_take 55 = .ok (.ireturn, 1) := by decide +kernel
theorem dX9_take_56 : decode cX9_take 56 = .ok (.aload_n 0, 1) := by decide +kernel
theorem dX9_take_57 : decode cX9_take 57 = .ok (.getfield 13, 3) := by decide +kernel
theorem dX9_take_60 : decode cX9_take 60 = .ok (.iload_n 1, 1) := by decide +kernel
theorem dX9_take_61 : decode cX9_take 61 = .ok (.dup2, 1) := by decide +kernel
theorem dX9_take_62 : decode cX9_take 62 = .ok (.iaload, 1) := by decide +kernel
theorem dX9_take_63 : decode cX9_take 63 = .ok (.iconst 1, 1) := by decide +kernel
theorem dX9_take_64 : decode cX9_take 64 = .ok (.isub, 1) := by decide +kernel
theorem dX9_take_65 : decode cX9_take 65 = .ok (.iastore, 1) := by decide +kernel
theorem dX9_take_66 : decode cX9_take 66 = .ok (.iload 4, 2) := by decide +kernel
theorem dX9_take_68 : decode cX9_take 68 = .ok (.istore 5, 2) := by decide +kernel
theorem dX9_take_70 : decode cX9_take 70 = .ok (.iload 5, 2) := by decide +kernel
theorem dX9_take_72 : decode cX9_take 72 = .ok (.bipush 10, 2) := by decide +kernel
theorem dX9_take_74 : decode cX9_take 74 = .ok (.iload_n 1, 1) := by decide +kernel
theorem dX9_take_75 : decode cX9_take 75 = .ok (.imul, 1) := by decide +kernel
theorem dX9_take_76 : decode cX9_take 76 = .ok (.aload_n 0, 1) := by decide +kernel
theorem dX9_take_77 : decode cX9_take 77 = .ok (.getfield 13, 3) := by decide +kernel
theorem dX9_take_80 : decode cX9_take 80 = .ok (.iload_n 1, 1) := by decide +kernel
theorem dX9_take_81 : decode cX9_take 81 = .ok (.iaload, 1) := by decide +kernel
theorem dX9_take_82 : decode cX9_take 82 = .ok (.iadd, 1) := by decide +kernel
theorem dX9_take_83 : decode cX9_take 83 = .ok (.if_icmp .ge 19, 3) := by decide +kernel
theorem dX9_take_86 : decode cX9_take 86 = .ok (.aload_n 0, 1) := by decide +kernel
theorem dX9_take_87 : decode cX9_take 87 = .ok (.iload 5, 2) := by decide +kernel
theorem dX9_take_89 : decode cX9_take 89 = .ok (.iconst 1, 1) := by decide +kernel
theorem dX9_take_90 : decode cX9_take 90 = .ok (.iadd, 1) := by decide +kernel
theorem dX9_take_91 : decode cX9_take 91 = .ok (.iload 5, 2) := by decide +kernel
theorem dX9_take_93 : decode cX9_take 93 = .ok (.invokevirtual 121, 3) := by decide +kernel
theorem dX9_take_96 : decode cX9_take 96 = .ok (.iinc 5 1, 3) := by decide +kernel
theorem dX9_take_99 : decode cX9_take 99 = .ok (.goto (-29), 3) := by decide +kernel
theorem dX9_take_102 : decode cX9_take 102 = .ok (.iconst 1, 1) := by decide +kernel
theorem dX9_take_103 : decode cX9_take 103 = .ok (.ireturn, 1) := by decide +kernel
theorem dX9_build_0 : decode cX9_build 0 = .ok (.aload_n 0, 1) := by decide +kernel
theorem dX9_build_1 : decode cX9_build 1 = .ok (.iconst 0, 1) := by decide +kernel
theorem dX9_build_2 : decode cX9_build 2 = .ok (.putfield 99, 3) := by decide +kernel
theorem dX9_build_5 : decode cX9_build 5 = .ok (.aload_n 0, 1) := by decide +kernel
theorem dX9_build_6 : decode cX9_build 6 = .ok (.iload_n 1, 1) := by decide +kernel
theorem dX9_build_7 : decode cX9_build 7 = .ok (.invokevirtual 110, 3) := by decide +kernel
theorem dX9_build_10 : decode cX9_build 10 = .ok (.ifCond .ne 5, 3) := by decide +kernel
theorem dX9_build_13 : decode cX9_build 13 = .ok (.iconst (-1), 1) := by decide +kernel
theorem dX9_build_14 : decode cX9_build 14 = .ok (.ireturn, 1) := by decide +kernel
theorem dX9_build_15 : decode cX9_build 15 = .ok (.iload_n 2, 1) := by decide +kernel
theorem dX9_build_16 : decode cX9_build 16 = .ok (.invokestatic 114, 3) := by decide +kernel
theorem dX9_build_19 : decode cX9_build 19 = .ok (.ifCond .eq 10, 3) := by decide +kernel
theorem dX9_build_22 : decode cX9_build 22 = .ok (.iload_n 3, 1) := by decide +kernel
theorem dX9_build_23 : decode cX9_build 23 = .ok (.invokestatic 114, 3) := by decide +kernel
theorem dX9_build_26 : decode cX9_build 26 = .ok (.ifCond .ne 6, 3) := by decide +kernel
theorem dX9_build_29 : decode cX9_build 29 = .ok (.bipush (-2), 2) := by decide +kernel
theorem dX9_build_31 : decode cX9_build 31 = .ok (.ireturn, 1) := by decide +kernel
theorem dX9_build_32 : decode cX9_build 32 = .ok (.aload_n 0, 1) := by decide +kernel
theorem dX9_build_33 : decode cX9_build 33 = .ok (.iload_n 1, 1) := by decide +kernel
theorem dX9_build_34 : decode cX9_build 34 = .ok (.bipush 32, 2) := by decide +kernel
theorem dX9_build_36 : decode cX9_build 36 = .ok (.iload_n 2, 1) := by decide +kernel
theorem dX9_build_37 : decode cX9_build 37 = .ok (.iadd, 1) := by decide +kernel
theorem dX9_build_38 : decode cX9_build 38 = .ok (.invokevirtual 117, 3) := by decide +kernel
theorem dX9_build_41 : decode cX9_build 41 = .ok (.istore 4, 2) := by decide +kernel
theorem dX9_build_43 : decode cX9_build 43 = .ok (.iload 4, 2) := by decide +kernel
theorem dX9_build_45 : decode cX9_build 45 = .ok (.bipush (-5), 2) := by decide +kernel
theorem dX9_build_47 : decode cX9_build 47 = .ok (.if_icmp .ne 6, 3) := by decide +kernel
theorem dX9_build_50 : decode cX9_build 50 = .ok (.bipush (-3), 2) := by decide +kernel
theorem dX9_build_52 : decode cX9_build 52 = .ok (.ireturn, 1) := by decide +kernel
theorem dX9_build_53 : decode cX9_build 53 = .ok (.aload_n 0, 1) := by decide +kernel
theorem dX9_build_54 : decode cX9_build 54 = .ok (.getfield 27, 3) := by decide +kernel
theorem dX9_build_57 : decode cX9_build 57 = .ok (.iload 4, 2) := by decide +kernel
theorem dX9_build_59 : decode cX9_build 59 = .ok (.iaload, 1) := by decide +kernel
theorem dX9_build_60 : decode cX9_build 60 = .ok (.iconst 3, 1) := by decide +kernel
theorem dX9_build_61 : decode cX9_build 61 = .ok (.if_icmp .ne 6, 3) := by decide +kernel
theorem dX9_build_64 : decode cX9_build 64 = .ok (.bipush (-4), 2) := by decide +kernel
theorem dX9_build_66 : decode cX9_build 66 = .ok (.ireturn, 1) := by decide +kernel
theorem dX9_build_67 : decode cX9_build 67 = .ok (.aload_n 0, 1) := by decide +kernel
theorem dX9_build_68 : decode cX9_build 68 = .ok (.getfield 30, 3) := by decide +kernel
theorem dX9_build_71 : decode cX9_build 71 = .ok (.iconst 3, 1) := by decide +kernel
theorem dX9_build_72 : decode cX9_build 72 = .ok (.iload 4, 2) := by decide +kernel
theorem dX9_build_74 : decode cX9_build 74 = .ok (.imul, 1) := by decide +kernel
theorem dX9_build_75 : decode cX9_build 75 = .ok (.aload_n 0, 1) := by decide +kernel
theorem dX9_build_76 : decode cX9_build 76 = .ok (.getfield 27, 3) := by decide +kernel
theorem dX9_build_79 : decode cX9_build 79 = .ok (.iload 4, 2) := by decide +kernel
theorem dX9_build_81 : decode cX9_build 81 = .ok (.iaload, 1) := by decide +kernel
theorem dX9_build_82 : decode cX9_build 82 = .ok (.iadd, 1) := by decide +kernel
theorem dX9_build_83 : decode cX9_build 83 = .ok (.iload_n 3, 1) := by decide +kernel
theorem dX9_build_84 : decode cX9_build 84 = .ok (.iastore, 1) := by decide +kernel
theorem dX9_build_85 : decode cX9_build 85 = .ok (.aload_n 0, 1) := by decide +kernel
theorem dX9_build_86 : decode cX9_build 86 = .ok (.getfield 27, 3) := by decide +kernel
theorem dX9_build_89 : decode cX9_build 89 = .ok (.iload 4, 2) := by decide +kernel
theorem dX9_build_91 : decode cX9_build 91 = .ok (.dup2, 1) := by decide +kernel
theorem dX9_build_92 : decode cX9_build 92 = .ok (.iaload, 1) := by decide +kernel
theorem dX9_build_93 : decode cX9_build 93 = .ok (.iconst 1, 1) := by decide +kernel
theorem dX9_build_94 : decode cX9_build 94 = .ok (.iadd, 1) := by decide +kernel
theorem dX9_build_95 : decode cX9_build 95 = .ok (.iastore, 1) := by decide +kernel
theorem dX9_build_96 : decode cX9_build 96 = .ok (.aload_n 0, 1) := by decide +kernel
theorem dX9_build_97 : decode cX9_build 97 = .ok (.getfield 27, 3) := by decide +kernel
theorem dX9_build_100 : decode cX9_build 100 = .ok (.iload 4, 2) := by decide +kernel
theorem dX9_build_102 : decode cX9_build 102 = .ok (.iaload, 1) := by decide +kernel
theorem dX9_build_103 : decode cX9_build 103 = .ok (.ireturn, 1) := by decide +kernel
theorem dX9_isOnWay_0 : decode cX9_isOnWay 0 = .ok (.iconst 0, 1) := by decide +kernel
theorem dX9_isOnWay_1 : decode cX9_isOnWay 1 = .ok (.istore_n 3, 1) := by decide +kernel
theorem dX9_isOnWay_2 : decode cX9_isOnWay 2 = .ok (.iconst 0, 1) := by decide +kernel
theorem dX9_isOnWay_3 : decode cX9_isOnWay 3 = .ok (.istore 4, 2) := by decide +kernel
theorem dX9_isOnWay_5 : decode cX9_isOnWay 5 = .ok (.iload 4, 2) := by decide +kernel
theorem dX9_isOnWay_7 : decode cX9_isOnWay 7 = .ok (.aload_n 0, 1) := by decide +kernel
theorem dX9_isOnWay_8 : decode cX9_isOnWay 8 = .ok (.getfield 33, 3) := by decide +kernel
theorem dX9_isOnWay_11 : decode cX9_isOnWay 11 = .ok (.iload_n 1, 1) := by decide +kernel
theorem dX9_isOnWay_12 : decode cX9_isOnWay 12 = .ok (.iaload, 1) := by decide +kernel
theorem dX9_isOnWay_13 : decode cX9_isOnWay 13 = .ok (.if_icmp .ge 35, 3) := by decide +kernel
theorem dX9_isOnWay_16 : decode cX9_isOnWay 16 = .ok (.iload_n 3, 1) := by decide +kernel
theorem dX9_isOnWay_17 : decode cX9_isOnWay 17 = .ok (.ifCond .ne 19, 3) := by decide +kernel
theorem dX9_isOnWay_20 : decode cX9_isOnWay 20 = .ok (.aload_n 0, 1) := by decide +kernel
theorem dX9_isOnWay_21 : decode cX9_isOnWay 21 = .ok (.getfield 36, 3) := by decide +kernel
theorem dX9_isOnWay_24 : decode cX9_isOnWay 24 = .ok (.bipush 6, 2) := by decide +kernel
theorem dX9_isOnWay_26 : decode cX9_isOnWay 26 = .ok (.iload_n 1, 1) := by decide +kernel
theorem dX9_isOnWay_27 : decode cX9_isOnWay 27 = .ok (.imul, 1) := by decide +kernel
theorem dX9_isOnWay_28 : decode cX9_isOnWay 28 = .ok (.iload 4, 2) := by decide +kernel
theorem dX9_isOnWay_30 : decode cX9_isOnWay 30 = .ok (.iadd, 1) := by decide +kernel
theorem dX9_isOnWay_31 : decode cX9_isOnWay 31 = .ok (.iaload, 1) := by decide +kernel
theorem dX9_isOnWay_32 : decode cX9_isOnWay 32 = .ok (.iload_n 2, 1) := by decide +kernel
theorem dX9_isOnWay_33 : decode cX9_isOnWay 33 = .ok (.if_icmp .ne 7, 3) := by decide +kernel
theorem dX9_isOnWay_36 : decode cX9_isOnWay 36 = .ok (.iconst 1, 1) := by decide +kernel
theorem dX9_isOnWay_37 : decode cX9_isOnWay 37 = .ok (.goto 4, 3) := by decide +kernel
theorem dX9_isOnWay_40 : decode cX9_isOnWay 40 = .ok (.iconst 0, 1) := by decide +kernel
theorem dX9_isOnWay_41 : decode cX9_isOnWay 41 = .ok (.istore_n 3, 1) := by decide +kernel
theorem dX9_isOnWay_42 : decode cX9_isOnWay 42 = .ok (.iinc 4 1, 3) := by decide +kernel
theorem dX9_isOnWay_45 : decode cX9_isOnWay 45 = .ok (.goto (-40), 3) := by decide +kernel
theorem dX9_isOnWay_48 : decode cX9_isOnWay 48 = .ok (.iload_n 3, 1) := by decide +kernel
theorem dX9_isOnWay_49 : decode cX9_isOnWay 49 = .ok (.ireturn, 1) := by decide +kernel
theorem dX9_way_0 : decode cX9_way 0 = .ok (.aload_n 0, 1) := by decide +kernel
theorem dX9_way_1 : decode cX9_way 1 = .ok (.iconst 0, 1) := by decide +kernel
theorem dX9_way_2 : decode cX9_way 2 = .ok (.putfield 99, 3) := by decide +kernel
theorem dX9_way_5 : decode cX9_way 5 = .ok (.aload_n 0, 1) := by decide +kernel
theorem dX9_way_6 : decode cX9_way 6 = .ok (.iload_n 1, 1) := by decide +kernel
theorem dX9_way_7 : decode cX9_way 7 = .ok (.invokevirtual 110, 3) := by decide +kernel
theorem dX9_way_10 : decode cX9_way 10 = .ok (.ifCond .eq 11, 3) := by decide +kernel
theorem dX9_way_13 : decode cX9_way 13 = .ok (.aload_n 0, 1) := by decide +kernel
theorem dX9_way_14 : decode cX9_way 14 = .ok (.iload_n 2, 1) := by decide +kernel
theorem dX9_way_15 : decode cX9_way 15 = .ok (.invokevirtual 110, 3) := by decide +kernel
theorem dX9_way_18 : decode cX9_way 18 = .ok (.ifCond .ne 5, 3) := by decide +kernel
theorem dX9_way_21 : decode cX9_way 21 = .ok (.iconst (-1), 1) := by decide +kernel
theorem dX9_way_22 : decode cX9_way 22 = .ok (.ireturn, 1) := by decide +kernel
theorem dX9_way_23 : decode cX9_way 23 = .ok (.iload_n 1, 1) := by decide +kernel
theorem dX9_way_24 : decode cX9_way 24 = .ok (.iload_n 2, 1) := by decide +kernel
theorem dX9_way_25 : decode cX9_way 25 = .ok (.if_icmp .eq 12, 3) := by decide +kernel
theorem dX9_way_28 : decode cX9_way 28 = .ok (.aload_n 0, 1) := by decide +kernel
theorem dX9_way_29 : decode cX9_way 29 = .ok (.iload_n 1, 1) := by decide +kernel
theorem dX9_way_30 : decode cX9_way 30 = .ok (.iload_n 2, 1) := by decide +kernel
theorem dX9_way_31 : decode cX9_way 31 = .ok (.invokevirtual 125, 3) := by decide +kernel
theorem dX9_way_34 : decode cX9_way 34 = .ok (.ifCond .eq 6, 3) := by decide +kernel
theorem dX9_way_37 : decode cX9_way 37 = .ok (.bipush (-3), 2) := by decide +kernel
theorem dX9_way_39 : decode cX9_way 39 = .ok (.ireturn, 1) := by decide +kernel
theorem dX9_way_40 : decode cX9_way 40 = .ok (.aload_n 0, 1) := by decide +kernel
theorem dX9_way_41 : decode cX9_way 41 = .ok (.getfield 33, 3) := by decide +kernel
theorem dX9_way_44 : decode cX9_way 44 = .ok (.iload_n 1, 1) := by decide +kernel
theorem dX9_way_45 : decode cX9_way 45 = .ok (.iaload, 1) := by decide +kernel
theorem dX9_way_46 : decode cX9_way 46 = .ok (.bipush 6, 2) := by decide +kernel
theorem dX9_way_48 : decode cX9_way 48 = .ok (.if_icmp .ne 6, 3) := by decide +kernel
theorem dX9_way_51 : decode cX9_way 51 = .ok (.bipush (-4), 2) := by decide +kernel
theorem dX9_way_53 : decode cX9_way 53 = .ok (.ireturn, 1) := by decide +kernel
theorem dX9_way_54 : decode cX9_way 54 = .ok (.aload_n 0, 1) := by decide +kernel
theorem dX9_way_55 : decode cX9_way 55 = .ok (.getfield 36, 3) := by decide +kernel
theorem dX9_way_58 : decode cX9_way 58 = .ok (.bipush 6, 2) := by decide +kernel
theorem dX9_way_60 : decode cX9_way 60 = .ok (.iload_n 1, 1) := by decide +kernel
theorem dX9_way_61 : decode cX9_way 61 = .ok (.imul, 1) := by decide +kernel
theorem dX9_way_62 : decode cX9_way 62 = .ok (.aload_n 0, 1) := by decide +kernel
theorem dX9_way_63 : decode cX9_way 63 = .ok (.getfield 33, 3) := by decide +kernel
theorem dX9_way_66 : decode cX9_way 66 = .ok (.iload_n 1, 1) := by decide +kernel
theorem dX9_way_67 : decode cX9_way 67 = .ok (.iaload, 1) := by decide +kernel
theorem dX9_way_68 : decode cX9_way 68 = .ok (.iadd, 1) := by decide +kernel
theorem dX9_way_69 : decode cX9_way 69 = .ok (.iload_n 2, 1) := by decide +kernel
theorem dX9_way_70 : decode cX9_way 70 = .ok (.iastore, 1) := by decide +kernel
theorem dX9_way_71 : decode cX9_way 71 = .ok (.aload_n 0, 1) := by decide +kernel
theorem dX9_way_72 : decode cX9_way 72 = .ok (.getfield 33, 3) := by decide +kernel
theorem dX9_way_75 : decode cX9_way 75 = .ok (.iload_n 1, 1) := by decide +kernel
theorem dX9_way_76 : decode cX9_way 76 = .ok (.dup2, 1) := by decide +kernel
theorem dX9_way_77 : decode cX9_way 77 = .ok (.iaload, 1) := by decide +kernel
theorem dX9_way_78 : decode cX9_way 78 = .ok (.iconst 1, 1) := by decide +kernel
theorem dX9_way_79 : decode cX9_way 79 = .ok (.iadd, 1) := by decide +kernel
theorem dX9_way_80 : decode cX9_way 80 = .ok (.iastore, 1) := by decide +kernel
theorem dX9_way_81 : decode cX9_way 81 = .ok (.aload_n 0, 1) := by decide +kernel
theorem dX9_way_82 : decode cX9_way 82 = .ok (.getfield 33, 3) := by decide +kernel
theorem dX9_way_85 : decode cX9_way 85 = .ok (.iload_n 1, 1) := by decide +kernel
theorem dX9_way_86 : decode cX9_way 86 = .ok (.iaload, 1) := by decide +kernel
theorem dX9_way_87 : decode cX9_way 87 = .ok (.ireturn, 1) := by decide +kernel
theorem dX9_unway_0 : decode cX9_unway 0 = .ok (.aload_n 0, 1) := by decide +kernel
theorem dX9_unway_1 : decode cX9_unway 1 = .ok (.iconst 0, 1) := by decide +kernel
theorem dX9_unway_2 : decode cX9_unway 2 = .ok (.putfield 99, 3) := by decide +kernel
theorem dX9_unway_5 : decode cX9_unway 5 = .ok (.aload_n 0, 1) := by decide +kernel
theorem dX9_unway_6 : decode cX9_unway 6 = .ok (.iload_n 1, 1) := by decide +kernel
theorem dX9_unway_7 : decode cX9_unway 7 = .ok (.invokevirtual 110, 3) := by decide +kernel
theorem dX9_unway_10 : decode cX9_unway 10 = .ok (.ifCond .ne 5, 3) := by decide +kernel
theorem dX9_unway_13 : decode cX9_unway 13 = .ok (.iconst (-1), 1) := by decide +kernel
theorem dX9_unway_14 : decode cX9_unway 14 = .ok (.ireturn, 1) := by decide +kernel
theorem dX9_unway_15 : decode cX9_unway 15 = .ok (.aload_n 0, 1) := by decide +kernel
theorem dX9_unway_16 : decode cX9_unway 16 = .ok (.getfield 33, 3) := by decide +kernel
theorem dX9_unway_19 : decode cX9_unway 19 = .ok (.iload_n 1, 1) := by decide +kernel
theorem dX9_unway_20 : decode cX9_unway 20 = .ok (.iaload, 1) := by decide +kernel
theorem dX9_unway_21 : decode cX9_unway 21 = .ok (.istore_n 2, 1) := by decide +kernel
theorem dX9_unway_22 : decode cX9_unway 22 = .ok (.aload_n 0, 1) := by decide +kernel
theorem dX9_unway_23 : decode cX9_unway 23 = .ok (.getfield 33, 3) := by decide +kernel
theorem dX9_unway_26 : decode cX9_unway 26 = .ok (.iload_n 1, 1) := by decide +kernel
theorem dX9_unway_27 : decode cX9_unway 27 = .ok (.iconst 0, 1) := by decide +kernel
theorem dX9_unway_28 : decode cX9_unway 28 = .ok (.iastore, 1) := by decide +kernel
theorem dX9_unway_29 : decode cX9_unway 29 = .ok (.iload_n 2, 1) := by decide +kernel
theorem dX9_unway_30 : decode cX9_unway 30 = .ok (.ireturn, 1) := by decide +kernel
theorem dX9_use_0 : decode cX9_use 0 = .ok (.aload_n 0, 1) := by decide +kernel
theorem dX9_use_1 : decode cX9_use 1 = .ok (.iconst 0, 1) := by decide +kernel
theorem dX9_use_2 : decode cX9_use 2 = .ok (.putfield 99, 3) := by decide +kernel
theorem dX9_use_5 : decode cX9_use 5 = .ok (.aload_n 0, 1) := by decide +kernel
theorem dX9_use_6 : decode cX9_use 6 = .ok (.iload_n 1, 1) := by decide +kernel
theorem dX9_use_7 : decode cX9_use 7 = .ok (.invokevirtual 110, 3) := by decide +kernel
theorem dX9_use_10 : decode cX9_use 10 = .ok (.ifCond .ne 5, 3) := by decide +kernel
theorem dX9_use_13 : decode cX9_use 13 = .ok (.iconst (-1), 1) := by decide +kernel
theorem dX9_use_14 : decode cX9_use 14 = .ok (.ireturn, 1) := by decide +kernel
theorem dX9_use_15 : decode cX9_use 15 = .ok (.iload_n 2, 1) := by decide +kernel
theorem dX9_use_16 : decode cX9_use 16 = .ok (.iconst 0, 1) := by decide +kernel
theorem dX9_use_17 : decode cX9_use 17 = .ok (.iconst 1, 1) := by decide +kernel
theorem dX9_use_18 : decode cX9_use 18 = .ok (.invokestatic 106, 3) := by decide +kernel
theorem dX9_use_21 : decode cX9_use 21 = .ok (.ifCond .eq 10, 3) := by decide +kernel
theorem dX9_use_24 : decode cX9_use 24 = .ok (.iload_n 3, 1) := by decide +kernel
theorem dX9_use_25 : decode cX9_use 25 = .ok (.invokestatic 114, 3) := by decide +kernel
theorem dX9_use_28 : decode cX9_use 28 = .ok (.ifCond .ne 6, 3) := by decide +kernel
theorem dX9_use_31 : decode cX9_use 31 = .ok (.bipush (-2), 2) := by decide +kernel
theorem dX9_use_33 : decode cX9_use 33 = .ok (.ireturn, 1) := by decide +kernel
theorem dX9_use_34 : decode cX9_use 34 = .ok (.iconst 0, 1) := by decide +kernel
theorem dX9_use_35 : decode cX9_use 35 = .ok (.istore 4, 2) := by decide +kernel
theorem dX9_use_37 : decode cX9_use 37 = .ok (.iload 4, 2) := by decide +kernel
theorem dX9_use_39 : decode cX9_use 39 = .ok (.aload_n 0, 1) := by decide +kernel
theorem dX9_use_40 : decode cX9_use 40 = .ok (.getfield 39, 3) := by decide +kernel
theorem dX9_use_43 : decode cX9_use 43 = .ok (.iload_n 1, 1) := by decide +kernel
theorem dX9_use_44 : decode cX9_use 44 = .ok (.iaload, 1) := by decide +kernel
theorem dX9_use_45 : decode cX9_use 45 = .ok (.if_icmp .ge 33, 3) := by decide +kernel
theorem dX9_use_48 : decode cX9_use 48 = .ok (.aload_n 0, 1) := by decide +kernel
theorem dX9_use_49 : decode cX9_use 49 = .ok (.getfield 42, 3) := by decide +kernel
theorem dX9_use_52 : decode cX9_use 52 = .ok (.bipush 12, 2) := by decide +kernel
theorem dX9_use_54 : decode cX9_use 54 = .ok (.iload_n 1, 1) := by decide +kernel
theorem dX9_use_55 : decode cX9_use 55 = .ok (.imul, 1) := by decide +kernel
theorem dX9_use_56 : decode cX9_use 56 = .ok (.iload 4, 2) := by decide +kernel
theorem dX9_use_58 : decode cX9_use 58 = .ok (.iadd, 1) := by decide +kernel
theorem dX9_use_59 : decode cX9_use 59 = .ok (.iaload, 1) := by decide +kernel
theorem dX9_use_60 : decode cX9_use 60 = .ok (.bipush 32, 2) := by decide +kernel
theorem dX9_use_62 : decode cX9_use 62 = .ok (.iload_n 2, 1) := by decide +kernel
theorem dX9_use_63 : decode cX9_use 63 = .ok (.imul, 1) := by decide +kernel
theorem dX9_use_64 : decode cX9_use 64 = .ok (.iload_n 3, 1) := by decide +kernel
theorem dX9_use_65 : decode cX9_use 65 = .ok (.iadd, 1) := by decide +kernel
theorem dX9_use_66 : decode cX9_use 66 = .ok (.if_icmp .ne 6, 3) := by decide +kernel
theorem dX9_use_69 : decode cX9_use 69 = .ok (.bipush (-3), 2) := by decide +kernel
theorem dX9_use_71 : decode cX9_use 71 = .ok (.ireturn, 1) := by decide +kernel
theorem dX9_use_72 : decode cX9_use 72 = .ok (.iinc 4 1, 3) := by decide +kernel
theorem dX9_use_75 : decode cX9_use 75 = .ok (.goto (-38), 3) := by decide +kernel
theorem dX9_use_78 : decode cX9_use 78 = .ok (.aload_n 0, 1) := by decide +kernel
theorem dX9_use_79 : decode cX9_use 79 = .ok (.getfield 39, 3) := by decide +kernel
theorem dX9_use_82 : decode cX9_use 82 = .ok (.iload_n 1, 1) := by decide +kernel
theorem dX9_use_83 : decode cX9_use 83 = .ok (.iaload, 1) := by decide +kernel
theorem dX9_use_84 : decode cX9_use 84 = .ok (.bipush 12, 2) := by decide +kernel
theorem dX9_use_86 : decode cX9_use 86 = .ok (.if_icmp .ne 6, 3) := by decide +kernel
theorem dX9_use_89 : decode cX9_use 89 = .ok (.bipush (-4), 2) := by decide +kernel
theorem dX9_use_91 : decode cX9_use 91 = .ok (.ireturn, 1) := by decide +kernel
theorem dX9_use_92 : decode cX9_use 92 = .ok (.aload_n 0, 1) := by decide +kernel
theorem dX9_use_93 : decode cX9_use 93 = .ok (.getfield 42, 3) := by decide +kernel
theorem dX9_use_96 : decode cX9_use 96 = .ok (.bipush 12, 2) := by decide +kernel
theorem dX9_use_98 : decode cX9_use 98 = .ok (.iload_n 1, 1) := by decide +kernel
theorem dX9_use_99 : decode cX9_use 99 = .ok (.imul, 1) := by decide +kernel
theorem dX9_use_100 : decode cX9_use 100 = .ok (.aload_n 0, 1) := by decide +kernel
theorem dX9_use_101 : decode cX9_use 101 = .ok (.getfield 39, 3) := by decide +kernel
theorem dX9_use_104 : decode cX9_use 104 = .ok (.iload_n 1, 1) := by decide +kernel
theorem dX9_use_105 : decode cX9_use 105 = .ok (.iaload, 1) := by decide +kernel
theorem dX9_use_106 : decode cX9_use 106 = .ok (.iadd, 1) := by decide +kernel
theorem dX9_use_107 : decode cX9_use 107 = .ok (.bipush 32, 2) := by decide +kernel
theorem dX9_use_109 : decode cX9_use 109 = .ok (.iload_n 2, 1) := by decide +kernel
theorem dX9_use_110 : decode cX9_use 110 = .ok (.imul, 1) := by decide +kernel
theorem dX9_use_111 : decode cX9_use 111 = .ok (.iload_n 3, 1) := by decide +kernel
theorem dX9_use_112 : decode cX9_use 112 = .ok (.iadd, 1) := by decide +kernel
theorem dX9_use_113 : decode cX9_use 113 = .ok (.iastore, 1) := by decide +kernel
theorem dX9_use_114 : decode cX9_use 114 = .ok (.aload_n 0, 1) := by decide +kernel
theorem dX9_use_115 : decode cX9_use 115 = .ok (.getfield 39, 3) := by decide +kernel
theorem dX9_use_118 : decode cX9_use 118 = .ok (.iload_n 1, 1) := by decide +kernel
theorem dX9_use_119 : decode cX9_use 119 = .ok (.dup2, 1) := by decide +kernel
theorem dX9_use_120 : decode cX9_use 120 = .ok (.iaload, 1) := by decide +kernel
theorem dX9_use_121 : decode cX9_use 121 = .ok (.iconst 1, 1) := by decide +kernel
theorem dX9_use_122 : decode cX9_use 122 = .ok (.iadd, 1) := by decide +kernel
theorem dX9_use_123 : decode cX9_use 123 = .ok (.iastore, 1) := by decide +kernel
theorem dX9_use_124 : decode cX9_use 124 = .ok (.aload_n 0, 1) := by decide +kernel
theorem dX9_use_125 : decode cX9_use 125 = .ok (.getfield 39, 3) := by decide +kernel
theorem dX9_use_128 : decode cX9_use 128 = .ok (.iload_n 1, 1) := by decide +kernel
theorem dX9_use_129 : decode cX9_use 129 = .ok (.iaload, 1) := by decide +kernel
theorem dX9_use_130 : decode cX9_use 130 = .ok (.ireturn, 1) := by decide +kernel
theorem dX9_unuse_0 : decode cX9_unuse 0 = .ok (.aload_n 0, 1) := by decide +kernel
theorem dX9_unuse_1 : decode cX9_unuse 1 = .ok (.iconst 0, 1) := by decide +kernel
theorem dX9_unuse_2 : decode cX9_unuse 2 = .ok (.putfield 99, 3) := by decide +kernel
theorem dX9_unuse_5 : decode cX9_unuse 5 = .ok (.aload_n 0, 1) := by decide +kernel
theorem dX9_unuse_6 : decode cX9_unuse 6 = .ok (.iload_n 1, 1) := by decide +kernel
theorem dX9_unuse_7 : decode cX9_unuse 7 = .ok (.invokevirtual 110, 3) := by decide +kernel
theorem dX9_unuse_10 : decode cX9_unuse 10 = .ok (.ifCond .eq 19, 3) := by decide +kernel
theorem dX9_unuse_13 : decode cX9_unuse 13 = .ok (.iload_n 2, 1) := by decide +kernel
theorem dX9_unuse_14 : decode cX9_unuse 14 = .ok (.iconst 0, 1) := by decide +kernel
theorem dX9_unuse_15 : decode cX9_unuse 15 = .ok (.aload_n 0, 1) := by decide +kernel
theorem dX9_unuse_16 : decode cX9_unuse 16 = .ok (.getfield 39, 3) := by decide +kernel
theorem dX9_unuse_19 : decode cX9_unuse 19 = .ok (.iload_n 1, 1) := by decide +kernel
theorem dX9_unuse_20 : decode cX9_unuse 20 = .ok (.iaload, 1) := by decide +kernel
theorem dX9_unuse_21 : decode cX9_unuse 21 = .ok (.iconst 1, 1) := by decide +kernel
theorem dX9_unuse_22 : decode cX9_unuse 22 = .ok (.isub, 1) := by decide +kernel
theorem dX9_unuse_23 : decode cX9_unuse 23 = .ok (.invokestatic 106, 3) := by decide +kernel
theorem dX9_unuse_26 : decode cX9_unuse 26 = .ok (.ifCond .ne 5, 3) := by decide +kernel
theorem dX9_unuse_29 : decode cX9_unuse 29 = .ok (.iconst (-1), 1) := by decide +kernel
theorem dX9_unuse_30 : decode cX9_unuse 30 = .ok (.ireturn, 1) := by decide +kernel
theorem dX9_unuse_31 : decode cX9_unuse 31 = .ok (.aload_n 0, 1) := by decide +kernel
theorem dX9_unuse_32 : decode cX9_unuse 32 = .ok (.getfield 39, 3) := by decide +kernel
theorem dX9_unuse_35 : decode cX9_unuse 35 = .ok (.iload_n 1, 1) := by decide +kernel
theorem dX9_unuse_36 : decode cX9_unuse 36 = .ok (.dup2, 1) := by decide +kernel
theorem dX9_unuse_37 : decode cX9_unuse 37 = .ok (.iaload, 1) := by decide +kernel
theorem dX9_unuse_38 : decode cX9_unuse 38 = .ok (.iconst 1, 1) := by decide +kernel
theorem dX9_unuse_39 : decode cX9_unuse 39 = .ok (.isub, 1) := by decide +kernel
theorem dX9_unuse_40 : decode cX9_unuse 40 = .ok (.iastore, 1) := by decide +kernel
theorem dX9_unuse_41 : decode cX9_unuse 41 = .ok (.iload_n 2, 1) := by decide +kernel
theorem dX9_unuse_42 : decode cX9_unuse 42 = .ok (.istore_n 3, 1) := by decide +kernel
theorem dX9_unuse_43 : decode cX9_unuse 43 = .ok (.iload_n 3, 1) := by decide +kernel
theorem dX9_unuse_44 : decode cX9_unuse 44 = .ok (.aload_n 0, 1) := by decide +kernel
theorem dX9_unuse_45 : decode cX9_unuse 45 = .ok (.getfield 39, 3) := by decide +kernel
theorem dX9_unuse_48 : decode cX9_unuse 48 = .ok (.iload_n 1, 1) := by decide +kernel
theorem dX9_unuse_49 : decode cX9_unuse 49 = .ok (.iaload, 1) := by decide +kernel
theorem dX9_unuse_50 : decode cX9_unuse 50 = .ok (.if_icmp .ge 33, 3) := by decide +kernel
theorem dX9_unuse_53 : decode cX9_unuse 53 = .ok (.aload_n 0, 1) := by decide +kernel
theorem dX9_unuse_54 : decode cX9_unuse 54 = .ok (.getfield 42, 3) := by decide +kernel
theorem dX9_unuse_57 : decode cX9_unuse 57 = .ok (.bipush 12, 2) := by decide +kernel
theorem dX9_unuse_59 : decode cX9_unuse 59 = .ok (.iload_n 1, 1) := by decide +kernel
theorem dX9_unuse_60 : decode cX9_unuse 60 = .ok (.imul, 1) := by decide +kernel
theorem dX9_unuse_61 : decode cX9_unuse 61 = .ok (.iload_n 3, 1) := by decide +kernel
theorem dX9_unuse_62 : decode cX9_unuse 62 = .ok (.iadd, 1) := by decide +kernel
theorem dX9_unuse_63 : decode cX9_unuse 63 = .ok (.aload_n 0, 1) := by decide +kernel
theorem dX9_unuse_64 : decode cX9_unuse 64 = .ok (.getfield 42, 3) := by decide +kernel
theorem dX9_unuse_67 : decode cX9_unuse 67 = .ok (.bipush 12, 2) := by decide +kernel
theorem dX9_unuse_69 : decode cX9_unuse 69 = .ok (.iload_n 1, 1) := by decide +kernel
theorem dX9_unuse_70 : decode cX9_unuse 70 = .ok (.imul, 1) := by decide +kernel
theorem dX9_unuse_71 : decode cX9_unuse 71 = .ok (.iload_n 3, 1) := by decide +kernel
theorem dX9_unuse_72 : decode cX9_unuse 72 = .ok (.iadd, 1) := by decide +kernel
theorem dX9_unuse_73 : decode cX9_unuse 73 = .ok (.iconst 1, 1) := by decide +kernel
theorem dX9_unuse_74 : decode cX9_unuse 74 = .ok (.iadd, 1) := by decide +kernel
theorem dX9_unuse_75 : decode cX9_unuse 75 = .ok (.iaload, 1) := by decide +kernel
theorem dX9_unuse_76 : decode cX9_unuse 76 = .ok (.iastore, 1) := by decide +kernel
theorem dX9_unuse_77 : decode cX9_unuse 77 = .ok (.iinc 3 1, 3) := by decide +kernel
theorem dX9_unuse_80 : decode cX9_unuse 80 = .ok (.goto (-37), 3) := by decide +kernel
theorem dX9_unuse_83 : decode cX9_unuse 83 = .ok (.aload_n 0, 1) := by decide +kernel
theorem dX9_unuse_84 : decode cX9_unuse 84 = .ok (.getfield 39, 3) := by decide +kernel
theorem dX9_unuse_87 : decode cX9_unuse 87 = .ok (.iload_n 1, 1) := by decide +kernel
theorem dX9_unuse_88 : decode cX9_unuse 88 = .ok (.iaload, 1) := by decide +kernel
theorem dX9_unuse_89 : decode cX9_unuse 89 = .ok (.ireturn, 1) := by decide +kernel
theorem dX9_frees_0 : decode cX9_frees 0 = .ok (.iconst 0, 1) := by decide +kernel
theorem dX9_frees_1 : decode cX9_frees 1 = .ok (.istore_n 2, 1) := by decide +kernel
theorem dX9_frees_2 : decode cX9_frees 2 = .ok (.iload_n 2, 1) := by decide +kernel
theorem dX9_frees_3 : decode cX9_frees 3 = .ok (.aload_n 0, 1) := by decide +kernel
theorem dX9_frees_4 : decode cX9_frees 4 = .ok (.getfield 103, 3) := by decide +kernel
theorem dX9_frees_7 : decode cX9_frees 7 = .ok (.if_icmp .ge 36, 3) := by decide +kernel
theorem dX9_frees_10 : decode cX9_frees 10 = .ok (.aload_n 0, 1) := by decide +kernel
theorem dX9_frees_11 : decode cX9_frees 11 = .ok (.getfield 48, 3) := by decide +kernel
theorem dX9_frees_14 : decode cX9_frees 14 = .ok (.iload_n 2, 1) := by decide +kernel
theorem dX9_frees_15 : decode cX9_frees 15 = .ok (.aload_n 0, 1) := by decide +kernel
theorem dX9_frees_16 : decode cX9_frees 16 = .ok (.getfield 48, 3) := by decide +kernel
theorem dX9_frees_19 : decode cX9_frees 19 = .ok (.iload_n 2, 1) := by decide +kernel
theorem dX9_frees_20 : decode cX9_frees 20 = .ok (.iaload, 1) := by decide +kernel
theorem dX9_frees_21 : decode cX9_frees 21 = .ok (.iload_n 1, 1) := by decide +kernel
theorem dX9_frees_22 : decode cX9_frees 22 = .ok (.if_icmp .ne 8, 3) := by decide +kernel
theorem dX9_frees_25 : decode cX9_frees 25 = .ok (.bipush (-5), 2) := by decide +kernel
theorem dX9_frees_27 : decode cX9_frees 27 = .ok (.goto 9, 3) := by decide +kernel
theorem dX9_frees_30 : decode cX9_frees 30 = .ok (.aload_n 0, 1) := by decide +kernel
theorem dX9_frees_31 : decode cX9_frees 31 = .ok (.getfield 48, 3) := by decide +kernel
theorem dX9_frees_34 : decode cX9_frees 34 = .ok (.iload_n 2, 1) := by decide +kernel
theorem dX9_frees_35 : decode cX9_frees 35 = .ok (.iaload, 1) := by decide +kernel
theorem dX9_frees_36 : decode cX9_frees 36 = .ok (.iastore, 1) := by decide +kernel
theorem dX9_frees_37 : decode cX9_frees 37 = .ok (.iinc 2 1, 3) := by decide +kernel
theorem dX9_frees_40 : decode cX9_frees 40 = .ok (.goto (-38), 3) := by decide +kernel
theorem dX9_frees_43 : decode cX9_frees 43 = .ok (.return_, 1) := by decide +kernel
theorem dX9_reader_0 : decode cX9_reader 0 = .ok (.aload_n 0, 1) := by decide +kernel
theorem dX9_reader_1 : decode cX9_reader 1 = .ok (.iconst 0, 1) := by decide +kernel
theorem dX9_reader_2 : decode cX9_reader 2 = .ok (.putfield 99, 3) := by decide +kernel
theorem dX9_reader_5 : decode cX9_reader 5 = .ok (.aload_n 0, 1) := by decide +kernel
theorem dX9_reader_6 : decode cX9_reader 6 = .ok (.iload_n 1, 1) := by decide +kernel
theorem dX9_reader_7 : decode cX9_reader 7 = .ok (.invokevirtual 110, 3) := by decide +kernel
theorem dX9_reader_10 : decode cX9_reader 10 = .ok (.ifCond .ne 5, 3) := by decide +kernel
theorem dX9_reader_13 : decode cX9_reader 13 = .ok (.iconst (-1), 1) := by decide +kernel
theorem dX9_reader_14 : decode cX9_reader 14 = .ok (.ireturn, 1) := by decide +kernel
theorem dX9_reader_15 : decode cX9_reader 15 = .ok (.aload_n 0, 1) := by decide +kernel
theorem dX9_reader_16 : decode cX9_reader 16 = .ok (.getfield 48, 3) := by decide +kernel
theorem dX9_reader_19 : decode cX9_reader 19 = .ok (.iload_n 1, 1) := by decide +kernel
theorem dX9_reader_20 : decode cX9_reader 20 = .ok (.iaload, 1) := by decide +kernel
theorem dX9_reader_21 : decode cX9_reader 21 = .ok (.bipush (-5), 2) := by decide +kernel
theorem dX9_reader_23 : decode cX9_reader 23 = .ok (.if_icmp .eq 6, 3) := by decide +kernel
theorem dX9_reader_26 : decode cX9_reader 26 = .ok (.bipush (-3), 2) := by decide +kernel
theorem dX9_reader_28 : decode cX9_reader 28 = .ok (.ireturn, 1) := by decide +kernel
theorem dX9_reader_29 : decode cX9_reader 29 = .ok (.aload_n 0, 1) := by decide +kernel
theorem dX9_reader_30 : decode cX9_reader 30 = .ok (.getfield 45, 3) := by decide +kernel
theorem dX9_reader_33 : decode cX9_reader 33 = .ok (.iload_n 1, 1) := by decide +kernel
theorem dX9_reader_34 : decode cX9_reader 34 = .ok (.baload, 1) := by decide +kernel
theorem dX9_reader_35 : decode cX9_reader 35 = .ok (.ifCond .eq 7, 3) := by decide +kernel
theorem dX9_reader_38 : decode cX9_reader 38 = .ok (.iconst 1, 1) := by decide +kernel
theorem dX9_reader_39 : decode cX9_reader 39 = .ok (.goto 4, 3) := by decide +kernel
theorem dX9_reader_42 : decode cX9_reader 42 = .ok (.iconst 0, 1) := by decide +kernel
theorem dX9_reader_43 : decode cX9_reader 43 = .ok (.istore_n 3, 1) := by decide +kernel
theorem dX9_reader_44 : decode cX9_reader 44 = .ok (.aload_n 0, 1) := by decide +kernel
theorem dX9_reader_45 : decode cX9_reader 45 = .ok (.getfield 45, 3) := by decide +kernel
theorem dX9_reader_48 : decode cX9_reader 48 = .ok (.iload_n 1, 1) := by decide +kernel
theorem dX9_reader_49 : decode cX9_reader 49 = .ok (.iload_n 2, 1) := by decide +kernel
theorem dX9_reader_50 : decode cX9_reader 50 = .ok (.bastore, 1) := by decide +kernel
theorem dX9_reader_51 : decode cX9_reader 51 = .ok (.iload_n 2, 1) := by decide +kernel
theorem dX9_reader_52 : decode cX9_reader 52 = .ok (.ifCond .ne 8, 3) := by decide +kernel
theorem dX9_reader_55 : decode cX9_reader 55 = .ok (.aload_n 0, 1) := by decide +kernel
theorem dX9_reader_56 : decode cX9_reader 56 = .ok (.iload_n 1, 1) := by decide +kernel
theorem dX9_reader_57 : decode cX9_reader 57 = .ok (.invokevirtual 129, 3) := by decide +kernel
theorem dX9_reader_60 : decode cX9_reader 60 = .ok (.iload_n 3, 1) := by decide +kernel
theorem dX9_reader_61 : decode cX9_reader 61 = .ok (.ireturn, 1) := by decide +kernel
theorem dX9_generated_0 : decode cX9_generated 0 = .ok (.aload_n 0, 1) := by decide +kernel
theorem dX9_generated_1 : decode cX9_generated 1 = .ok (.iconst 0, 1) := by decide +kernel
theorem dX9_generated_2 : decode cX9_generated 2 = .ok (.putfield 99, 3) := by decide +kernel
theorem dX9_generated_5 : decode cX9_generated 5 = .ok (.aload_n 0, 1) := by decide +kernel
theorem dX9_generated_6 : decode cX9_generated 6 = .ok (.iload_n 1, 1) := by decide +kernel
theorem dX9_generated_7 : decode cX9_generated 7 = .ok (.invokevirtual 110, 3) := by decide +kernel
theorem dX9_generated_10 : decode cX9_generated 10 = .ok (.ifCond .eq 17, 3) := by decide +kernel
theorem dX9_generated_13 : decode cX9_generated 13 = .ok (.iload_n 2, 1) := by decide +kernel
theorem dX9_generated_14 : decode cX9_generated 14 = .ok (.bipush (-5), 2) := by decide +kernel
theorem dX9_generated_16 : decode cX9_generated 16 = .ok (.if_icmp .eq 13, 3) := by decide +kernel
theorem dX9_generated_19 : decode cX9_generated 19 = .ok (.aload_n 0, 1) := by decide +kernel
theorem dX9_generated_20 : decode cX9_generated 20 = .ok (.iload_n 2, 1) := by decide +kernel
theorem dX9_generated_21 : decode cX9_generated 21 = .ok (.invokevirtual 110, 3) := by decide +kernel
theorem dX9_generated_24 : decode cX9_generated 24 = .ok (.ifCond .ne 5, 3) := by decide +kernel
theorem dX9_generated_27 : decode cX9_generated 27 = .ok (.iconst (-1), 1) := by decide +kernel
theorem dX9_generated_28 : decode cX9_generated 28 = .ok (.ireturn, 1) := by decide +kernel
theorem dX9_generated_29 : decode cX9_generated 29 = .ok (.iload_n 2, 1) := by decide +kernel
theorem dX9_generated_30 : decode cX9_generated 30 = .ok (.bipush (-5), 2) := by decide +kernel
theorem dX9_generated_32 : decode cX9_generated 32 = .ok (.if_icmp .eq 24, 3) := by decide +kernel
theorem dX9_generated_35 : decode cX9_generated 35 = .ok (.aload_n 0, 1) := by decide +kernel
theorem dX9_generated_36 : decode cX9_generated 36 = .ok (.getfield 45, 3) := by decide +kernel
theorem dX9_generated_39 : decode cX9_generated 39 = .ok (.iload_n 2, 1) := by decide +kernel
theorem dX9_generated_40 : decode cX9_generated 40 = .ok (.baload, 1) := by decide +kernel
theorem dX9_generated_41 : decode cX9_generated 41 = .ok (.ifCond .eq 12, 3) := by decide +kernel
theorem dX9_generated_44 : decode cX9_generated 44 = .ok (.aload_n 0, 1) := by decide +kernel
theorem dX9_generated_45 : decode cX9_generated 45 = .ok (.getfield 45, 3) := by decide +kernel
theorem dX9_generated_48 : decode cX9_generated 48 = .ok (.iload_n 1, 1) := by decide +kernel
theorem dX9_generated_49 : decode cX9_generated 49 = .ok (.baload, 1) := by decide +kernel
theorem dX9_generated_50 : decode cX9_generated 50 = .ok (.ifCond .eq 6, 3) := by decide +kernel
theorem dX9_generated_53 : decode cX9_generated 53 = .ok (.bipush (-3), 2) := by decide +kernel
theorem dX9_generated_55 : decode cX9_generated 55 = .ok (.ireturn, 1) := by decide +kernel
theorem dX9_generated_56 : decode cX9_generated 56 = .ok (.aload_n 0, 1) := by decide +kernel
theorem dX9_generated_57 : decode cX9_generated 57 = .ok (.getfield 48, 3) := by decide +kernel
theorem dX9_generated_60 : decode cX9_generated 60 = .ok (.iload_n 1, 1) := by decide +kernel
theorem dX9_generated_61 : decode cX9_generated 61 = .ok (.iload_n 2, 1) := by decide +kernel
theorem dX9_generated_62 : decode cX9_generated 62 = .ok (.iastore, 1) := by decide +kernel
theorem dX9_generated_63 : decode cX9_generated 63 = .ok (.iconst 1, 1) := by decide +kernel
theorem dX9_generated_64 : decode cX9_generated 64 = .ok (.ireturn, 1) := by decide +kernel
theorem dX9_remove_0 : decode cX9_remove 0 = .ok (.aload_n 0, 1) := by decide +kernel
theorem dX9_remove_1 : decode cX9_remove 1 = .ok (.iconst 0, 1) := by decide +kernel
theorem dX9_remove_2 : decode cX9_remove 2 = .ok (.putfield 99, 3) := by decide +kernel
theorem dX9_remove_5 : decode cX9_remove 5 = .ok (.aload_n 0, 1) := by decide +kernel
theorem dX9_remove_6 : decode cX9_remove 6 = .ok (.iload_n 1, 1) := by decide +kernel
theorem dX9_remove_7 : decode cX9_remove 7 = .ok (.invokevirtual 110, 3) := by decide +kernel
theorem dX9_remove_10 : decode cX9_remove 10 = .ok (.ifCond .ne 5, 3) := by decide +kernel
theorem dX9_remove_13 : decode cX9_remove 13 = .ok (.iconst (-1), 1) := by decide +kernel
theorem dX9_remove_14 : decode cX9_remove 14 = .ok (.ireturn, 1) := by decide +kernel
theorem dX9_remove_15 : decode cX9_remove 15 = .ok (.aload_n 0, 1) := by decide +kernel
theorem dX9_remove_16 : decode cX9_remove 16 = .ok (.getfield 7, 3) := by decide +kernel
theorem dX9_remove_19 : decode cX9_remove 19 = .ok (.iload_n 1, 1) := by decide +kernel
theorem dX9_remove_20 : decode cX9_remove 20 = .ok (.iconst 0, 1) := by decide +kernel
theorem dX9_remove_21 : decode cX9_remove 21 = .ok (.bastore, 1) := by decide +kernel
theorem dX9_remove_22 : decode cX9_remove 22 = .ok (.aload_n 0, 1) := by decide +kernel
theorem dX9_remove_23 : decode cX9_remove 23 = .ok (.iload_n 1, 1) := by decide +kernel
theorem dX9_remove_24 : decode cX9_remove 24 = .ok (.invokevirtual 129, 3) := by decide +kernel
theorem dX9_remove_27 : decode cX9_remove 27 = .ok (.iconst 0, 1) := by decide +kernel
theorem dX9_remove_28 : decode cX9_remove 28 = .ok (.istore_n 2, 1) := by decide +kernel
theorem dX9_remove_29 : decode cX9_remove 29 = .ok (.iload_n 2, 1) := by decide +kernel
theorem dX9_remove_30 : decode cX9_remove 30 = .ok (.aload_n 0, 1) := by decide +kernel
theorem dX9_remove_31 : decode cX9_remove 31 = .ok (.getfield 103, 3) := by decide +kernel
theorem dX9_remove_34 : decode cX9_remove 34 = .ok (.if_icmp .ge 80, 3) := by decide +kernel
theorem dX9_remove_37 : decode cX9_remove 37 = .ok (.iconst 0, 1) := by decide +kernel
theorem dX9_remove_38 : decode cX9_remove 38 = .ok (.istore_n 3, 1) := by decide +kernel
theorem dX9_remove_39 : decode cX9_remove 39 = .ok (.iconst 0, 1) := by decide +kernel
theorem dX9_remove_40 : decode cX9_remove 40 = .ok (.istore 4, 2) := by decide +kernel
theorem dX9_remove_42 : decode cX9_remove 42 = .ok (.iload 4, 2) := by decide +kernel
theorem dX9_remove_44 : decode cX9_remove 44 = .ok (.aload_n 0, 1) := by decide +kernel
theorem dX9_remove_45 : decode cX9_remove 45 = .ok (.getfield 33, 3) := by decide +kernel
theorem dX9_remove_48 : decode cX9_remove 48 = .ok (.iload_n 2, 1) := by decide +kernel
theorem dX9_remove_49 : decode cX9_remove 49 = .ok (.iaload, 1) := by decide +kernel
theorem dX9_remove_50 : decode cX9_remove 50 = .ok (.if_icmp .ge 51, 3) := by decide +kernel
theorem dX9_remove_53 : decode cX9_remove 53 = .ok (.aload_n 0, 1) := by decide +kernel
theorem dX9_remove_54 : decode cX9_remove 54 = .ok (.getfield 36, 3) := by decide +kernel
theorem dX9_remove_57 : decode cX9_remove 57 = .ok (.bipush 6, 2) := by decide +kernel
theorem dX9_remove_59 : decode cX9_remove 59 = .ok (.iload_n 2, 1) := by decide +kernel
theorem dX9_remove_60 : decode cX9_remove 60 = .ok (.imul, 1) := by decide +kernel
theorem dX9_remove_61 : decode cX9_remove 61 = .ok (.iload 4, 2) := by decide +kernel
theorem dX9_remove_63 : decode cX9_remove 63 = .ok (.iadd, 1) := by decide +kernel
theorem dX9_remove_64 : decode cX9_remove 64 = .ok (.iaload, 1) := by decide +kernel
theorem dX9_remove_65 : decode cX9_remove 65 = .ok (.iload_n 1, 1) := by decide +kernel
theorem dX9_remove_66 : decode cX9_remove 66 = .ok (.if_icmp .eq 29, 3) := by decide +kernel
theorem dX9_remove_69 : decode cX9_remove 69 = .ok (.aload_n 0, 1) := by decide +kernel
theorem dX9_remove_70 : decode cX9_remove 70 = .ok (.getfield 36, 3) := by decide +kernel
theorem dX9_remove_73 : decode cX9_remove 73 = .ok (.bipush 6, 2) := by decide +kernel
theorem dX9_remove_75 : decode cX9_remove 75 = .ok (.iload_n 2, 1) := by decide +kernel
theorem dX9_remove_76 : decode cX9_remove 76 = .ok (.imul, 1) := by decide +kernel
theorem dX9_remove_77 : decode cX9_remove 77 = .ok (.iload_n 3, 1) := by decide +kernel
theorem dX9_remove_78 : decode cX9_remove 78 = .ok (.iadd, 1) := by decide +kernel
theorem dX9_remove_79 : decode cX9_remove 79 = .ok (.aload_n 0, 1) := by decide +kernel
theorem dX9_remove_80 : decode cX9_remove 80 = .ok (.getfield 36, 3) := by decide +kernel
theorem dX9_remove_83 : decode cX9_remove 83 = .ok (.bipush 6, 2) := by decide +kernel
theorem dX9_remove_85 : decode cX9_remove 85 = .ok (.iload_n 2, 1) := by decide +kernel
theorem dX9_remove_86 : decode cX9_remove 86 = .ok (.imul, 1) := by decide +kernel
theorem dX9_remove_87 : decode cX9_remove 87 = .ok (.iload 4, 2) := by decide +kernel
theorem dX9_remove_89 : decode cX9_remove 89 = .ok (.iadd, 1) := by decide +kernel
theorem dX9_remove_90 : decode cX9_remove 90 = .ok (.iaload, 1) := by decide +kernel
theorem dX9_remove_91 : decode cX9_remove 91 = .ok (.iastore, 1) := by decide +kernel
theorem dX9_remove_92 : decode cX9_remove 92 = .ok (.iinc 3 1, 3) := by decide +kernel
theorem dX9_remove_95 : decode cX9_remove 95 = .ok (.iinc 4 1, 3) := by decide +kernel
theorem dX9_remove_98 : decode cX9_remove 98 = .ok (.goto (-56), 3) := by decide +kernel
theorem dX9_remove_101 : decode cX9_remove 101 = .ok (.aload_n 0, 1) := by decide +kernel
theorem dX9_remove_102 : decode cX9_remove 102 = .ok (.getfield 33, 3) := by decide +kernel
theorem dX9_remove_105 : decode cX9_remove 105 = .ok (.iload_n 2, 1) := by decide +kernel
theorem dX9_remove_106 : decode cX9_remove 106 = .ok (.iload_n 3, 1) := by decide +kernel
theorem dX9_remove_107 : decode cX9_remove 107 = .ok (.iastore, 1) := by decide +kernel
theorem dX9_remove_108 : decode cX9_remove 108 = .ok (.iinc 2 1, 3) := by decide +kernel
theorem dX9_remove_111 : decode cX9_remove 111 = .ok (.goto (-82), 3) := by decide +kernel
theorem dX9_remove_114 : decode cX9_remove 114 = .ok (.aload_n 0, 1) := by decide +kernel
theorem dX9_remove_115 : decode cX9_remove 115 = .ok (.invokevirtual 133, 3) := by decide +kernel
theorem dX9_remove_118 : decode cX9_remove 118 = .ok (.ireturn, 1) := by decide +kernel
theorem dX9_find_0 : decode cX9_find 0 = .ok (.aload_n 0, 1) := by decide +kernel
theorem dX9_find_1 : decode cX9_find 1 = .ok (.iload_n 1, 1) := by decide +kernel
theorem dX9_find_2 : decode cX9_find 2 = .ok (.iload_n 2, 1) := by decide +kernel
theorem dX9_find_3 : decode cX9_find 3 = .ok (.invokevirtual 117, 3) := by decide +kernel
theorem dX9_find_6 : decode cX9_find 6 = .ok (.istore_n 3, 1) := by decide +kernel
theorem dX9_find_7 : decode cX9_find 7 = .ok (.iconst 0, 1) := by decide +kernel
theorem dX9_find_8 : decode cX9_find 8 = .ok (.istore 4, 2) := by decide +kernel
theorem dX9_find_10 : decode cX9_find 10 = .ok (.iload 4, 2) := by decide +kernel
theorem dX9_find_12 : decode cX9_find 12 = .ok (.aload_n 0, 1) := by decide +kernel
theorem dX9_find_13 : decode cX9_find 13 = .ok (.getfield 33, 3) := by decide +kernel
theorem dX9_find_16 : decode cX9_find 16 = .ok (.iload_n 1, 1) := by decide +kernel
theorem dX9_find_17 : decode cX9_find 17 = .ok (.iaload, 1) := by decide +kernel
theorem dX9_find_18 : decode cX9_find 18 = .ok (.if_icmp .ge 59, 3) := by decide +kernel
theorem dX9_find_21 : decode cX9_find 21 = .ok (.iload_n 3, 1) := by decide +kernel
theorem dX9_find_22 : decode cX9_find 22 = .ok (.bipush (-5), 2) := by decide +kernel
theorem dX9_find_24 : decode cX9_find 24 = .ok (.if_icmp .ne 53, 3) := by decide +kernel
theorem dX9_find_27 : decode cX9_find 27 = .ok (.aload_n 0, 1) := by decide +kernel
theorem dX9_find_28 : decode cX9_find 28 = .ok (.aload_n 0, 1) := by decide +kernel
theorem dX9_find_29 : decode cX9_find 29 = .ok (.getfield 36, 3) := by decide +kernel
theorem dX9_find_32 : decode cX9_find 32 = .ok (.bipush 6, 2) := by decide +kernel
theorem dX9_find_34 : decode cX9_find 34 = .ok (.iload_n 1, 1) := by decide +kernel
theorem dX9_find_35 : decode cX9_find 35 = .ok (.imul, 1) := by decide +kernel
theorem dX9_find_36 : decode cX9_find 36 = .ok (.iload 4, 2) := by decide +kernel
theorem dX9_find_38 : decode cX9_find 38 = .ok (.iadd, 1) := by decide +kernel
theorem dX9_find_39 : decode cX9_find 39 = .ok (.iaload, 1) := by decide +kernel
theorem dX9_find_40 : decode cX9_find 40 = .ok (.iload_n 2, 1) := by decide +kernel
theorem dX9_find_41 : decode cX9_find 41 = .ok (.invokevirtual 117, 3) := by decide +kernel
theorem dX9_find_44 : decode cX9_find 44 = .ok (.istore 5, 2) := by decide +kernel
theorem dX9_find_46 : decode cX9_find 46 = .ok (.iload 5, 2) := by decide +kernel
theorem dX9_find_48 : decode cX9_find 48 = .ok (.bipush (-5), 2) := by decide +kernel
theorem dX9_find_50 : decode cX9_find 50 = .ok (.if_icmp .eq 18, 3) := by decide +kernel
theorem dX9_find_53 : decode cX9_find 53 = .ok (.aload_n 0, 1) := by decide +kernel
theorem dX9_find_54 : decode cX9_find 54 = .ok (.getfield 24, 3) := by decide +kernel
theorem dX9_find_57 : decode cX9_find 57 = .ok (.iload 5, 2) := by decide +kernel
theorem dX9_find_59 : decode cX9_find 59 = .ok (.baload, 1) := by decide +kernel
theorem dX9_find_60 : decode cX9_find 60 = .ok (.ifCond .ne 8, 3) := by decide +kernel
theorem dX9_find_63 : decode cX9_find 63 = .ok (.iload 5, 2) := by decide +kernel
theorem dX9_find_65 : decode cX9_find 65 = .ok (.goto 5, 3) := by decide +kernel
theorem dX9_find_68 : decode cX9_find 68 = .ok (.bipush (-5), 2) := by decide +kernel
theorem dX9_find_70 : decode cX9_find 70 = .ok (.istore_n 3, 1) := by decide +kernel
theorem dX9_find_71 : decode cX9_find 71 = .ok (.iinc 4 1, 3) := by decide +kernel
theorem dX9_find_74 : decode cX9_find 74 = .ok (.goto (-64), 3) := by decide +kernel
theorem dX9_find_77 : decode cX9_find 77 = .ok (.iload_n 3, 1) := by decide +kernel
theorem dX9_find_78 : decode cX9_find 78 = .ok (.ireturn, 1) := by decide +kernel
theorem dX9_found_0 : decode cX9_found 0 = .ok (.aload_n 0, 1) := by decide +kernel
theorem dX9_found_1 : decode cX9_found 1 = .ok (.iconst 0, 1) := by decide +kernel
theorem dX9_found_2 : decode cX9_found 2 = .ok (.putfield 99, 3) := by decide +kernel
theorem dX9_found_5 : decode cX9_found 5 = .ok (.aload_n 0, 1) := by decide +kernel
theorem dX9_found_6 : decode cX9_found 6 = .ok (.iload_n 1, 1) := by decide +kernel
theorem dX9_found_7 : decode cX9_found 7 = .ok (.invokevirtual 110, 3) := by decide +kernel
theorem dX9_found_10 : decode cX9_found 10 = .ok (.ifCond .ne 5, 3) := by decide +kernel
theorem dX9_found_13 : decode cX9_found 13 = .ok (.iconst (-1), 1) := by decide +kernel
theorem dX9_found_14 : decode cX9_found 14 = .ok (.ireturn, 1) := by decide +kernel
theorem dX9_found_15 : decode cX9_found 15 = .ok (.iload_n 2, 1) := by decide +kernel
theorem dX9_found_16 : decode cX9_found 16 = .ok (.iconst 0, 1) := by decide +kernel
theorem dX9_found_17 : decode cX9_found 17 = .ok (.iconst 2, 1) := by decide +kernel
theorem dX9_found_18 : decode cX9_found 18 = .ok (.invokestatic 106, 3) := by decide +kernel
theorem dX9_found_21 : decode cX9_found 21 = .ok (.ifCond .eq 10, 3) := by decide +kernel
theorem dX9_found_24 : decode cX9_found 24 = .ok (.iload_n 3, 1) := by decide +kernel
theorem dX9_found_25 : decode cX9_found 25 = .ok (.invokestatic 114, 3) := by decide +kernel
theorem dX9_found_28 : decode cX9_found 28 = .ok (.ifCond .ne 6, 3) := by decide +kernel
theorem dX9_found_31 : decode cX9_found 31 = .ok (.bipush (-2), 2) := by decide +kernel
theorem dX9_found_33 : decode cX9_found 33 = .ok (.ireturn, 1) := by decide +kernel
theorem dX9_found_34 : decode cX9_found 34 = .ok (.aload_n 0, 1) := by decide +kernel
theorem dX9_found_35 : decode cX9_found 35 = .ok (.iload_n 1, 1) := by decide +kernel
theorem dX9_found_36 : decode cX9_found 36 = .ok (.bipush 32, 2) := by decide +kernel
theorem dX9_found_38 : decode cX9_found 38 = .ok (.iload_n 2, 1) := by decide +kernel
theorem dX9_found_39 : decode cX9_found 39 = .ok (.imul, 1) := by decide +kernel
theorem dX9_found_40 : decode cX9_found 40 = .ok (.iload_n 3, 1) := by decide +kernel
theorem dX9_found_41 : decode cX9_found 41 = .ok (.iadd, 1) := by decide +kernel
theorem dX9_found_42 : decode cX9_found 42 = .ok (.invokevirtual 137, 3) := by decide +kernel
theorem dX9_found_45 : decode cX9_found 45 = .ok (.istore 4, 2) := by decide +kernel
theorem dX9_found_47 : decode cX9_found 47 = .ok (.iload 4, 2) := by decide +kernel
theorem dX9_found_49 : decode cX9_found 49 = .ok (.bipush (-5), 2) := by decide +kernel
theorem dX9_found_51 : decode cX9_found 51 = .ok (.if_icmp .ne 8, 3) := by decide +kernel
theorem dX9_found_54 : decode cX9_found 54 = .ok (.bipush (-5), 2) := by decide +kernel
theorem dX9_found_56 : decode cX9_found 56 = .ok (.goto 8, 3) := by decide +kernel
theorem dX9_found_59 : decode cX9_found 59 = .ok (.iload 4, 2) := by decide +kernel
theorem dX9_found_61 : decode cX9_found 61 = .ok (.bipush 10, 2) := by decide +kernel
theorem dX9_found_63 : decode cX9_found 63 = .ok (.idiv, 1) := by decide +kernel
theorem dX9_found_64 : decode cX9_found 64 = .ok (.ireturn, 1) := by decide +kernel
theorem dX9_isConstant_0 : decode cX9_isConstant 0 = .ok (.iload_n 1, 1) := by decide +kernel
theorem dX9_isConstant_1 : decode cX9_isConstant 1 = .ok (.bipush 10, 2) := by decide +kernel
theorem dX9_isConstant_3 : decode cX9_isConstant 3 = .ok (.idiv, 1) := by decide +kernel
theorem dX9_isConstant_4 : decode cX9_isConstant 4 = .ok (.istore_n 2, 1) := by decide +kernel
theorem dX9_isConstant_5 : decode cX9_isConstant 5 = .ok (.aload_n 0, 1) := by decide +kernel
theorem dX9_isConstant_6 : decode cX9_isConstant 6 = .ok (.getfield 7, 3) := by decide +kernel
theorem dX9_isConstant_9 : decode cX9_isConstant 9 = .ok (.iload_n 2, 1) := by decide +kernel
theorem dX9_isConstant_10 : decode cX9_isConstant 10 = .ok (.baload, 1) := by decide +kernel
theorem dX9_isConstant_11 : decode cX9_isConstant 11 = .ok (.ifCond .eq 33, 3) := by decide +kernel
theorem dX9_isConstant_14 : decode cX9_isConstant 14 = .ok (.iload_n 1, 1) := by decide +kernel
theorem dX9_isConstant_15 : decode cX9_isConstant 15 = .ok (.bipush 10, 2) := by decide +kernel
theorem dX9_isConstant_17 : decode cX9_isConstant 17 = .ok (.irem, 1) := by decide +kernel
theorem dX9_isConstant_18 : decode cX9_isConstant 18 = .ok (.aload_n 0, 1) := by decide +kernel
theorem dX9_isConstant_19 : decode cX9_isConstant 19 = .ok (.getfield 13, 3) := by decide +kernel
theorem dX9_isConstant_22 : decode cX9_isConstant 22 = .ok (.iload_n 2, 1) := by decide +kernel
theorem dX9_isConstant_23 : decode cX9_isConstant 23 = .ok (.iaload, 1) := by decide +kernel
theorem dX9_isConstant_24 : decode cX9_isConstant 24 = .ok (.if_icmp .ge 20, 3) := by decide +kernel
theorem dX9_isConstant_27 : decode cX9_isConstant 27 = .ok (.aload_n 0, 1) := by decide +kernel
theorem dX9_isConstant_28 : decode cX9_isConstant 28 = .ok (.getfield 17, 3) := by decide +kernel
theorem dX9_isConstant_31 : decode cX9_isConstant 31 = .ok (.iload_n 1, 1) := by decide +kernel
theorem dX9_isConstant_32 : decode cX9_isConstant 32 = .ok (.iaload, 1) := by decide +kernel
theorem dX9_isConstant_33 : decode cX9_isConstant 33 = .ok (.bipush 32, 2) := by decide +kernel
theorem dX9_isConstant_35 : decode cX9_isConstant 35 = .ok (.idiv, 1) := by decide +kernel
theorem dX9_isConstant_36 : decode cX9_isConstant 36 = .ok (.iconst 1, 1) := by decide +kernel
theorem dX9_isConstant_37 : decode cX9_isConstant 37 = .ok (.if_icmp .ne 7, 3) := by decide +kernel
theorem dX9_isConstant_40 : decode cX9_isConstant 40 = .ok (.iconst 1, 1) := by decide +kernel
theorem dX9_isConstant_41 : decode cX9_isConstant 41 = .ok (.goto 4, 3) := by decide +kernel
theorem dX9_isConstant_44 : decode cX9_isConstant 44 = .ok (.iconst 0, 1) := by decide +kernel
theorem dX9_isConstant_45 : decode cX9_isConstant 45 = .ok (.ireturn, 1) := by decide +kernel
theorem dX9_reckon_0 : decode cX9_reckon 0 = .ok (.iconst 0, 1) := by decide +kernel
theorem dX9_reckon_1 : decode cX9_reckon 1 = .ok (.istore_n 1, 1) := by decide +kernel
theorem dX9_reckon_2 : decode cX9_reckon 2 = .ok (.iload_n 1, 1) := by decide +kernel
theorem dX9_reckon_3 : decode cX9_reckon 3 = .ok (.bipush 10, 2) := by decide +kernel
theorem dX9_reckon_5 : decode cX9_reckon 5 = .ok (.aload_n 0, 1) := by decide +kernel
theorem dX9_reckon_6 : decode cX9_reckon 6 = .ok (.getfield 103, 3) := by decide +kernel
theorem dX9_reckon_9 : decode cX9_reckon 9 = .ok (.imul, 1) := by decide +kernel
theorem dX9_reckon_10 : decode cX9_reckon 10 = .ok (.if_icmp .ge 90, 3) := by decide +kernel
theorem dX9_reckon_13 : decode cX9_reckon 13 = .ok (.aload_n 0, 1) := by decide +kernel
theorem dX9_reckon_14 : decode cX9_reckon 14 = .ok (.getfield 63, 3) := by decide +kernel
theorem dX9_reckon_17 : decode cX9_reckon 17 = .ok (.iload_n 1, 1) := by decide +kernel
theorem dX9_reckon_18 : decode cX9_reckon 18 = .ok (.iconst 0, 1) := by decide +kernel
theorem dX9_reckon_19 : decode cX9_reckon 19 = .ok (.bastore, 1) := by decide +kernel
theorem dX9_reckon_20 : decode cX9_reckon 20 = .ok (.aload_n 0, 1) := by decide +kernel
theorem dX9_reckon_21 : decode cX9_reckon 21 = .ok (.getfield 66, 3) := by decide +kernel
theorem dX9_reckon_24 : decode cX9_reckon 24 = .ok (.iload_n 1, 1) := by decide +kernel
theorem dX9_reckon_25 : decode cX9_reckon 25 = .ok (.lconst 0, 1) := by decide +kernel
theorem dX9_reckon_26 : decode cX9_reckon 26 = .ok (.lastore, 1) := by decide +kernel
theorem dX9_reckon_27 : decode cX9_reckon 27 = .ok (.iconst 0, 1) := by decide +kernel
theorem dX9_reckon_28 : decode cX9_reckon 28 = .ok (.istore_n 2, 1) := by decide +kernel
theorem dX9_reckon_29 : decode cX9_reckon 29 = .ok (.iload_n 2, 1) := by decide +kernel
theorem dX9_reckon_30 : decode cX9_reckon 30 = .ok (.iconst 3, 1) := by decide +kernel
theorem dX9_reckon_31 : decode cX9_reckon 31 = .ok (.if_icmp .ge 63, 3) := by decide +kernel
theorem dX9_reckon_34 : decode cX9_reckon 34 = .ok (.aload_n 0, 1) := by decide +kernel
theorem dX9_reckon_35 : decode cX9_reckon 35 = .ok (.getfield 60, 3) := by decide +kernel
theorem dX9_reckon_38 : decode cX9_reckon 38 = .ok (.iconst 3, 1) := by decide +kernel
theorem dX9_reckon_39 : decode cX9_reckon 39 = .ok (.iload_n 1, 1) := by decide +kernel
theorem dX9_reckon_40 : decode cX9_reckon 40 = .ok (.imul, 1) := by decide +kernel
theorem dX9_reckon_41 : decode cX9_reckon 41 = .ok (.iload_n 2, 1) := by decide +kernel
theorem dX9_reckon_42 : decode cX9_reckon 42 = .ok (.iadd, 1) := by decide +kernel
theorem dX9_reckon_43 : decode cX9_reckon 43 = .ok (.aload_n 0, 1) := by decide +kernel
theorem dX9_reckon_44 : decode cX9_reckon 44 = .ok (.iload_n 1, 1) := by decide +kernel
theorem dX9_reckon_45 : decode cX9_reckon 45 = .ok (.invokevirtual 140, 3) := by decide +kernel
theorem dX9_reckon_48 : decode cX9_reckon 48 = .ok (.ifCond .eq 37, 3) := by decide +kernel
theorem dX9_reckon_51 : decode cX9_reckon 51 = .ok (.iload_n 2, 1) := by decide +kernel
theorem dX9_reckon_52 : decode cX9_reckon 52 = .ok (.aload_n 0, 1) := by decide +kernel
theorem dX9_reckon_53 : decode cX9_reckon 53 = .ok (.getfield 27, 3) := by decide +kernel
theorem dX9_reckon_56 : decode cX9_reckon 56 = .ok (.iload_n 1, 1) := by decide +kernel
theorem dX9_reckon_57 : decode cX9_reckon 57 = .ok (.iaload, 1) := by decide +kernel
theorem dX9_reckon_58 : decode cX9_reckon 58 = .ok (.if_icmp .ge 27, 3) := by decide +kernel
theorem dX9_reckon_61 : decode cX9_reckon 61 = .ok (.aload_n 0, 1) := by decide +kernel
theorem dX9_reckon_62 : decode cX9_reckon 62 = .ok (.iload_n 1, 1) := by decide +kernel
theorem dX9_reckon_63 : decode cX9_reckon 63 = .ok (.bipush 10, 2) := by decide +kernel
theorem dX9_reckon_65 : decode cX9_reckon 65 = .ok (.idiv, 1) := by decide +kernel
theorem dX9_reckon_66 : decode cX9_reckon 66 = .ok (.bipush 32, 2) := by decide +kernel
theorem dX9_reckon_68 : decode cX9_reckon 68 = .ok (.aload_n 0, 1) := by decide +kernel
theorem dX9_reckon_69 : decode cX9_reckon 69 = .ok (.getfield 30, 3) := by decide +kernel
theorem dX9_reckon_72 : decode cX9_reckon 72 = .ok (.iconst 3, 1) := by decide +kernel
theorem dX9_reckon_73 : decode cX9_reckon 73 = .ok (.iload_n 1, 1) := by decide +kernel
theorem dX9_reckon_74 : decode cX9_reckon 74 = .ok (.imul, 1) := by decide +kernel
theorem dX9_reckon_75 : decode cX9_reckon 75 = .ok (.iload_n 2, 1) := by decide +kernel
theorem dX9_reckon_76 : decode cX9_reckon 76 = .ok (.iadd, 1) := by decide +kernel
theorem dX9_reckon_77 : decode cX9_reckon 77 = .ok (.iaload, 1) := by decide +kernel
theorem dX9_reckon_78 : decode cX9_reckon 78 = .ok (.iadd, 1) := by decide +kernel
theorem dX9_reckon_79 : decode cX9_reckon 79 = .ok (.invokevirtual 137, 3) := by decide +kernel
theorem dX9_reckon_82 : decode cX9_reckon 82 = .ok (.goto 5, 3) := by decide +kernel
theorem dX9_reckon_85 : decode cX9_reckon 85 = .ok (.bipush (-5), 2) := by decide +kernel
theorem dX9_reckon_87 : decode cX9_reckon 87 = .ok (.iastore, 1) := by decide +kernel
theorem dX9_reckon_88 : decode cX9_reckon 88 = .ok (.iinc 2 1, 3) := by decide +kernel
theorem dX9_reckon_91 : decode cX9_reckon 91 = .ok (.goto (-62), 3) := by decide +kernel
theorem dX9_reckon_94 : decode cX9_reckon 94 = .ok (.iinc 1 1, 3) := by decide +kernel
theorem dX9_reckon_97 : decode cX9_reckon 97 = .ok (.goto (-95), 3) := by decide +kernel
theorem dX9_reckon_100 : decode cX9_reckon 100 = .ok (.iconst 1, 1) := by decide +kernel
theorem dX9_reckon_101 : decode cX9_reckon 101 = .ok (.istore_n 1, 1) := by decide +kernel
theorem dX9_reckon_102 : decode cX9_reckon 102 = .ok (.iload_n 1, 1) := by decide +kernel
theorem dX9_reckon_103 : decode cX9_reckon 103 = .ok (.ifCond .eq 129, 3) := by decide +kernel
theorem dX9_reckon_106 : decode cX9_reckon 106 = .ok (.iconst 0, 1) := by decide +kernel
theorem dX9_reckon_107 : decode cX9_reckon 107 = .ok (.istore_n 1, 1) := by decide +kernel
theorem dX9_reckon_108 : decode cX9_reckon 108 = .ok (.iconst 0, 1) := by decide +kernel
theorem dX9_reckon_109 : decode cX9_reckon 109 = .ok (.istore_n 2, 1) := by decide +kernel
theorem dX9_reckon_110 : decode cX9_reckon 110 = .ok (.iload_n 2, 1) := by decide +kernel
theorem dX9_reckon_111 : decode cX9_reckon 111 = .ok (.bipush 10, 2) := by decide +kernel
theorem dX9_reckon_113 : decode cX9_reckon 113 = .ok (.aload_n 0, 1) := by decide +kernel
theorem dX9_reckon_114 : decode cX9_reckon 114 = .ok (.getfield 103, 3) := by decide +kernel
theorem dX9_reckon_117 : decode cX9_reckon 117 = .ok (.imul, 1) := by decide +kernel
theorem dX9_reckon_118 : decode cX9_reckon 118 = .ok (.if_icmp .ge 111, 3) := by decide +kernel
theorem dX9_reckon_121 : decode cX9_reckon 121 = .ok (.aload_n 0, 1) := by decide +kernel
theorem dX9_reckon_122 : decode cX9_reckon 122 = .ok (.iload_n 2, 1) := by decide +kernel
theorem dX9_reckon_123 : decode cX9_reckon 123 = .ok (.invokevirtual 140, 3) := by decide +kernel
theorem dX9_reckon_126 : decode cX9_reckon 126 = .ok (.ifCond .eq 97, 3) := by decide +kernel
theorem dX9_reckon_129 : decode cX9_reckon 129 = .ok (.aload_n 0, 1) := by decide +kernel
theorem dX9_reckon_130 : decode cX9_reckon 130 = .ok (.getfield 63, 3) := by decide +kernel
theorem dX9_reckon_133 : decode cX9_reckon 133 = .ok (.iload_n 2, 1) := by decide +kernel
theorem dX9_reckon_134 : decode cX9_reckon 134 = .ok (.baload, 1) := by decide +kernel
theorem dX9_reckon_135 : decode cX9_reckon 135 = .ok (.ifCond .ne 88, 3) := by decide +kernel
theorem dX9_reckon_138 : decode cX9_reckon 138 = .ok (.aload_n 0, 1) := by decide +kernel
theorem dX9_reckon_139 : decode cX9_reckon 139 = .ok (.iload_n 2, 1) := by decide +kernel
theorem dX9_reckon_140 : decode cX9_reckon 140 = .ok (.invokevirtual 143, 3) := by decide +kernel
theorem dX9_reckon_143 : decode cX9_reckon 143 = .ok (.ifCond .eq 80, 3) := by decide +kernel
theorem dX9_reckon_146 : decode cX9_reckon 146 = .ok (.aload_n 0, 1) := by decide +kernel
theorem dX9_reckon_147 : decode cX9_reckon 147 = .ok (.getfield 20, 3) := by decide +kernel
theorem dX9_reckon_150 : decode cX9_reckon 150 = .ok (.iload_n 2, 1) := by decide +kernel
theorem dX9_reckon_151 : decode cX9_reckon 151 = .ok (.laload, 1) := by decide +kernel
theorem dX9_reckon_152 : decode cX9_reckon 152 = .ok (.lstore_n 3, 1) := by decide +kernel
theorem dX9_reckon_153 : decode cX9_reckon 153 = .ok (.iconst 0, 1) := by decide +kernel
theorem dX9_reckon_154 : decode cX9_reckon 154 = .ok (.istore 5, 2) := by decide +kernel
theorem dX9_reckon_156 : decode cX9_reckon 156 = .ok (.iload 5, 2) := by decide +kernel
theorem dX9_reckon_158 : decode cX9_reckon 158 = .ok (.iconst 3, 1) := by decide +kernel
theorem dX9_reckon_159 : decode cX9_reckon 159 = .ok (.if_icmp .ge 48, 3) := by decide +kernel
theorem dX9_reckon_162 : decode cX9_reckon 162 = .ok (.lload_n 3, 1) := by decide +kernel
theorem dX9_reckon_163 : decode cX9_reckon 163 = .ok (.aload_n 0, 1) := by decide +kernel
theorem dX9_reckon_164 : decode cX9_reckon 164 = .ok (.getfield 60, 3) := by decide +kernel
theorem dX9_reckon_167 : decode cX9_reckon 167 = .ok (.iconst 3, 1) := by decide +kernel
theorem dX9_reckon_168 : decode cX9_reckon 168 = .ok (.iload_n 2, 1) := by decide +kernel
theorem dX9_reckon_169 : decode cX9_reckon 169 = .ok (.imul, 1) := by decide +kernel
theorem dX9_reckon_170 : decode cX9_reckon 170 = .ok (.iload 5, 2) := by decide +kernel
theorem dX9_reckon_172 : decode cX9_reckon 172 = .ok (.iadd, 1) := by decide +kernel
theorem dX9_reckon_173 : decode cX9_reckon 173 = .ok (.iaload, 1) := by decide +kernel
theorem dX9_reckon_174 : decode cX9_reckon 174 = .ok (.bipush (-5), 2) := by decide +kernel
theorem dX9_reckon_176 : decode cX9_reckon 176 = .ok (.if_icmp .ne 7, 3) := by decide +kernel
theorem dX9_reckon_179 : decode cX9_reckon 179 = .ok (.lconst 0, 1) := by decide +kernel
theorem dX9_reckon_180 : decode cX9_reckon 180 = .ok (.goto 19, 3) := by decide +kernel
theorem dX9_reckon_183 : decode cX9_reckon 183 = .ok (.aload_n 0, 1) := by decide +kernel
theorem dX9_reckon_184 : decode cX9_reckon 184 = .ok (.getfield 66, 3) := by decide +kernel
theorem dX9_reckon_187 : decode cX9_reckon 187 = .ok (.aload_n 0, 1) := by decide +kernel
theorem dX9_reckon_188 : decode cX9_reckon 188 = .ok (.getfield 60, 3) := by decide +kernel
theorem dX9_reckon_191 : decode cX9_reckon 191 = .ok (.iconst 3, 1) := by decide +kernel
theorem dX9_reckon_192 : decode cX9_reckon 192 = .ok (.iload_n 2, 1) := by decide +kernel
theorem dX9_reckon_193 : decode cX9_reckon 193 = .ok (.imul, 1) := by decide +kernel
theorem dX9_reckon_194 : decode cX9_reckon 194 = .ok (.iload 5, 2) := by decide +kernel
theorem dX9_reckon_196 : decode cX9_reckon 196 = .ok (.iadd, 1) := by decide +kernel
theorem dX9_reckon_197 : decode cX9_reckon 197 = .ok (.iaload, 1) := by decide +kernel
theorem dX9_reckon_198 : decode cX9_reckon 198 = .ok (.laload, 1) := by decide +kernel
theorem dX9_reckon_199 : decode cX9_reckon 199 = .ok (.ladd, 1) := by decide +kernel
theorem dX9_reckon_200 : decode cX9_reckon 200 = .ok (.lstore_n 3, 1) := by decide +kernel
theorem dX9_reckon_201 : decode cX9_reckon 201 = .ok (.iinc 5 1, 3) := by decide +kernel
theorem dX9_reckon_204 : decode cX9_reckon 204 = .ok (.goto (-48), 3) := by decide +kernel
theorem dX9_reckon_207 : decode cX9_reckon 207 = .ok (.aload_n 0, 1) := by decide +kernel
theorem dX9_reckon_208 : decode cX9_reckon 208 = .ok (.getfield 66, 3) := by decide +kernel
theorem dX9_reckon_211 : decode cX9_reckon 211 = .ok (.iload_n 2, 1) := by decide +kernel
theorem dX9_reckon_212 : decode cX9_reckon 212 = .ok (.lload_n 3, 1) := by decide +kernel
theorem dX9_reckon_213 : decode cX9_reckon 213 = .ok (.lastore, 1) := by decide +kernel
theorem dX9_reckon_214 : decode cX9_reckon 214 = .ok (.aload_n 0, 1) := by decide +kernel
theorem dX9_reckon_215 : decode cX9_reckon 215 = .ok (.getfield 63, 3) := by decide +kernel
theorem dX9_reckon_218 : decode cX9_reckon 218 = .ok (.iload_n 2, 1) := by decide +kernel
theorem dX9_reckon_219 : decode cX9_reckon 219 = .ok (.iconst 1, 1) := by decide +kernel
theorem dX9_reckon_220 : decode cX9_reckon 220 = .ok (.bastore, 1) := by decide +kernel
theorem dX9_reckon_221 : decode cX9_reckon 221 = .ok (.iconst 1, 1) := by decide +kernel
theorem dX9_reckon_222 : decode cX9_reckon 222 = .ok (.istore_n 1, 1) := by decide +kernel
theorem dX9_reckon_223 : decode cX9_reckon 223 = .ok (.iinc 2 1, 3) := by decide +kernel
theorem dX9_reckon_226 : decode cX9_reckon 226 = .ok (.goto (-116), 3) := by decide +kernel
theorem dX9_reckon_229 : decode cX9_reckon 229 = .ok (.goto (-127), 3) := by decide +kernel
theorem dX9_reckon_232 : decode cX9_reckon 232 = .ok (.return_, 1) := by decide +kernel
theorem dX9_waitsForNone_0 : decode cX9_waitsForNone 0 = .ok (.iconst 1, 1) := by decide +kernel
theorem dX9_waitsForNone_1 : decode cX9_waitsForNone 1 = .ok (.istore_n 2, 1) := by decide +kernel
theorem dX9_waitsForNone_2 : decode cX9_waitsForNone 2 = .ok (.iconst 0, 1) := by decide +kernel
theorem dX9_waitsForNone_3 : decode cX9_waitsForNone 3 = .ok (.istore_n 3, 1) := by decide +kernel
theorem dX9_waitsForNone_4 : decode cX9_waitsForNone 4 = .ok (.iload_n 3, 1) := by decide +kernel
theorem dX9_waitsForNone_5 : decode cX9_waitsForNone 5 = .ok (.iconst 3, 1) := by decide +kernel
theorem dX9_waitsForNone_6 : decode cX9_waitsForNone 6 = .ok (.if_icmp .ge 52, 3) := by decide +kernel
theorem dX9_waitsForNone_9 : decode cX9_waitsForNone 9 = .ok (.iload_n 2, 1) := by decide +kernel
theorem dX9_waitsForNone_10 : decode cX9_waitsForNone 10 = .ok (.ifCond .eq 40, 3) := by decide +kernel
theorem dX9_waitsForNone_13 : decode cX9_waitsForNone 13 = .ok (.aload_n 0, 1) := by decide +kernel
theorem dX9_waitsForNone_14 : decode cX9_waitsForNone 14 = .ok (.getfield 60, 3) := by decide +kernel
theorem dX9_waitsForNone_17 : decode cX9_waitsForNone 17 = .ok (.iconst 3, 1) := by decide +kernel
theorem dX9_waitsForNone_18 : decode cX9_waitsForNone 18 = .ok (.iload_n 1, 1) := by decide +kernel
theorem dX9_waitsForNone_19 : decode cX9_waitsForNone 19 = .ok (.imul, 1) := by decide +kernel
theorem dX9_waitsForNone_20 : decode cX9_waitsForNone 20 = .ok (.iload_n 3, 1) := by decide +kernel
theorem dX9_waitsForNone_21 : decode cX9_waitsForNone 21 = .ok (.iadd, 1) := by decide +kernel
theorem dX9_waitsForNone_22 : decode cX9_waitsForNone 22 = .ok (.iaload, 1) := by decide +kernel
theorem dX9_waitsForNone_23 : decode cX9_waitsForNone 23 = .ok (.bipush (-5), 2) := by decide +kernel
theorem dX9_waitsForNone_25 : decode cX9_waitsForNone 25 = .ok (.if_icmp .eq 21, 3) := by decide +kernel
theorem dX9_waitsForNone_28 : decode cX9_waitsForNone 28 = .ok (.aload_n 0, 1) := by decide +kernel
theorem dX9_waitsForNone_29 : decode cX9_waitsForNone 29 = .ok (.getfield 63, 3) := by decide +kernel
theorem dX9_waitsForNone_32 : decode cX9_waitsForNone 32 = .ok (.aload_n 0, 1) := by decide +kernel
theorem dX9_waitsForNone_33 : decode cX9_waitsForNone 33 = .ok (.getfield 60, 3) := by decide +kernel
theorem dX9_waitsForNone_36 : decode cX9_waitsForNone 36 = .ok (.iconst 3, 1) := by decide +kernel
theorem dX9_waitsForNone_37 : decode cX9_waitsForNone 37 = .ok (.iload_n 1, 1) := by decide +kernel
theorem dX9_waitsForNone_38 : decode cX9_waitsForNone 38 = .ok (.imul, 1) := by decide +kernel
theorem dX9_waitsForNone_39 : decode cX9_waitsForNone 39 = .ok (.iload_n 3, 1) := by decide +kernel
theorem dX9_waitsForNone_40 : decode cX9_waitsForNone 40 = .ok (.iadd, 1) := by decide +kernel
theorem dX9_waitsForNone_41 : decode cX9_waitsForNone 41 = .ok (.iaload, 1) := by decide +kernel
theorem dX9_waitsForNone_42 : decode cX9_waitsForNone 42 = .ok (.baload, 1) := by decide +kernel
theorem dX9_waitsForNone_43 : decode cX9_waitsForNone 43 = .ok (.ifCond .eq 7, 3) := by decide +kernel
theorem dX9_waitsForNone_46 : decode cX9_waitsForNone 46 = .ok (.iconst 1, 1) := by decide +kernel
theorem dX9_waitsForNone_47 : decode cX9_waitsForNone 47 = .ok (.goto 4, 3) := by decide +kernel
theorem dX9_waitsForNone_50 : decode cX9_waitsForNone 50 = .ok (.iconst 0, 1) := by decide +kernel
theorem dX9_waitsForNone_51 : decode cX9_waitsForNone 51 = .ok (.istore_n 2, 1) := by decide +kernel
theorem dX9_waitsForNone_52 : decode cX9_waitsForNone 52 = .ok (.iinc 3 1, 3) := by decide +kernel
theorem dX9_waitsForNone_55 : decode cX9_waitsForNone 55 = .ok (.goto (-51), 3) := by decide +kernel
theorem dX9_waitsForNone_58 : decode cX9_waitsForNone 58 = .ok (.iload_n 2, 1) := by decide +kernel
theorem dX9_waitsForNone_59 : decode cX9_waitsForNone 59 = .ok (.ireturn, 1) := by decide +kernel
theorem dX9_value_0 : decode cX9_value 0 = .ok (.aload_n 0, 1) := by decide +kernel
theorem dX9_value_1 : decode cX9_value 1 = .ok (.iconst 0, 1) := by decide +kernel
theorem dX9_value_2 : decode cX9_value 2 = .ok (.putfield 99, 3) := by decide +kernel
theorem dX9_value_5 : decode cX9_value 5 = .ok (.aload_n 0, 1) := by decide +kernel
theorem dX9_value_6 : decode cX9_value 6 = .ok (.iload_n 1, 1) := by decide +kernel
theorem dX9_value_7 : decode cX9_value 7 = .ok (.invokevirtual 110, 3) := by decide +kernel
theorem dX9_value_10 : decode cX9_value 10 = .ok (.ifCond .eq 24, 3) := by decide +kernel
theorem dX9_value_13 : decode cX9_value 13 = .ok (.iload_n 2, 1) := by decide +kernel
theorem dX9_value_14 : decode cX9_value 14 = .ok (.invokestatic 114, 3) := by decide +kernel
theorem dX9_value_17 : decode cX9_value 17 = .ok (.ifCond .eq 17, 3) := by decide +kernel
theorem dX9_value_20 : decode cX9_value 20 = .ok (.aload_n 0, 1) := by decide +kernel
theorem dX9_value_21 : decode cX9_value 21 = .ok (.iload_n 1, 1) := by decide +kernel
theorem dX9_value_22 : decode cX9_value 22 = .ok (.bipush 32, 2) := by decide +kernel
theorem dX9_value_24 : decode cX9_value 24 = .ok (.iload_n 2, 1) := by decide +kernel
theorem dX9_value_25 : decode cX9_value 25 = .ok (.iadd, 1) := by decide +kernel
theorem dX9_value_26 : decode cX9_value 26 = .ok (.invokevirtual 117, 3) := by decide +kernel
theorem dX9_value_29 : decode cX9_value 29 = .ok (.bipush (-5), 2) := by decide +kernel
theorem dX9_value_31 : decode cX9_value 31 = .ok (.if_icmp .ne 5, 3) := by decide +kernel
theorem dX9_value_34 : decode cX9_value 34 = .ok (.lconst 0, 1) := by decide +kernel
theorem dX9_value_35 : decode cX9_value 35 = .ok (.lreturn, 1) := by decide +kernel
theorem dX9_value_36 : decode cX9_value 36 = .ok (.aload_n 0, 1) := by decide +kernel
theorem dX9_value_37 : decode cX9_value 37 = .ok (.invokevirtual 146, 3) := by decide +kernel
theorem dX9_value_40 : decode cX9_value 40 = .ok (.aload_n 0, 1) := by decide +kernel
theorem dX9_value_41 : decode cX9_value 41 = .ok (.getfield 66, 3) := by decide +kernel
theorem dX9_value_44 : decode cX9_value 44 = .ok (.aload_n 0, 1) := by decide +kernel
theorem dX9_value_45 : decode cX9_value 45 = .ok (.iload_n 1, 1) := by decide +kernel
theorem dX9_value_46 : decode cX9_value 46 = .ok (.bipush 32, 2) := by decide +kernel
theorem dX9_value_48 : decode cX9_value 48 = .ok (.iload_n 2, 1) := by decide +kernel
theorem dX9_value_49 : decode cX9_value 49 = .ok (.iadd, 1) := by decide +kernel
theorem dX9_value_50 : decode cX9_value 50 = .ok (.invokevirtual 117, 3) := by decide +kernel
theorem dX9_value_53 : decode cX9_value 53 = .ok (.laload, 1) := by decide +kernel
theorem dX9_value_54 : decode cX9_value 54 = .ok (.lreturn, 1) := by decide +kernel
theorem dX9_round_0 : decode cX9_round 0 = .ok (.aload_n 0, 1) := by decide +kernel
theorem dX9_round_1 : decode cX9_round 1 = .ok (.iconst 0, 1) := by decide +kernel
theorem dX9_round_2 : decode cX9_round 2 = .ok (.putfield 99, 3) := by decide +kernel
theorem dX9_round_5 : decode cX9_round 5 = .ok (.aload_n 0, 1) := by decide +kernel
theorem dX9_round_6 : decode cX9_round 6 = .ok (.iload_n 1, 1) := by decide +kernel
theorem dX9_round_7 : decode cX9_round 7 = .ok (.invokevirtual 110, 3) := by decide +kernel
theorem dX9_round_10 : decode cX9_round 10 = .ok (.ifCond .eq 24, 3) := by decide +kernel
theorem dX9_round_13 : decode cX9_round 13 = .ok (.iload_n 2, 1) := by decide +kernel
theorem dX9_round_14 : decode cX9_round 14 = .ok (.invokestatic 114, 3) := by decide +kernel
theorem dX9_round_17 : decode cX9_round 17 = .ok (.ifCond .eq 17, 3) := by decide +kernel
theorem dX9_round_20 : decode cX9_round 20 = .ok (.aload_n 0, 1) := by decide +kernel
theorem dX9_round_21 : decode cX9_round 21 = .ok (.iload_n 1, 1) := by decide +kernel
theorem dX9_round_22 : decode cX9_round 22 = .ok (.bipush 32, 2) := by decide +kernel
theorem dX9_round_24 : decode cX9_round 24 = .ok (.iload_n 2, 1) := by decide +kernel
theorem dX9_round_25 : decode cX9_round 25 = .ok (.iadd, 1) := by decide +kernel
theorem dX9_round_26 : decode cX9_round 26 = .ok (.invokevirtual 117, 3) := by decide +kernel
theorem dX9_round_29 : decode cX9_round 29 = .ok (.bipush (-5), 2) := by decide +kernel
theorem dX9_round_31 : decode cX9_round 31 = .ok (.if_icmp .ne 5, 3) := by decide +kernel
theorem dX9_round_34 : decode cX9_round 34 = .ok (.iconst (-1), 1) := by decide +kernel
theorem dX9_round_35 : decode cX9_round 35 = .ok (.ireturn, 1) := by decide +kernel
theorem dX9_round_36 : decode cX9_round 36 = .ok (.aload_n 0, 1) := by decide +kernel
theorem dX9_round_37 : decode cX9_round 37 = .ok (.invokevirtual 146, 3) := by decide +kernel
theorem dX9_round_40 : decode cX9_round 40 = .ok (.aload_n 0, 1) := by decide +kernel
theorem dX9_round_41 : decode cX9_round 41 = .ok (.getfield 63, 3) := by decide +kernel
theorem dX9_round_44 : decode cX9_round 44 = .ok (.aload_n 0, 1) := by decide +kernel
theorem dX9_round_45 : decode cX9_round 45 = .ok (.iload_n 1, 1) := by decide +kernel
theorem dX9_round_46 : decode cX9_round 46 = .ok (.bipush 32, 2) := by decide +kernel
theorem dX9_round_48 : decode cX9_round 48 = .ok (.iload_n 2, 1) := by decide +kernel
theorem dX9_round_49 : decode cX9_round 49 = .ok (.iadd, 1) := by decide +kernel
theorem dX9_round_50 : decode cX9_round 50 = .ok (.invokevirtual 117, 3) := by decide +kernel
theorem dX9_round_53 : decode cX9_round 53 = .ok (.baload, 1) := by decide +kernel
theorem dX9_round_54 : decode cX9_round 54 = .ok (.ifCond .eq 7, 3) := by decide +kernel
theorem dX9_round_57 : decode cX9_round 57 = .ok (.iconst 0, 1) := by decide +kernel
theorem dX9_round_58 : decode cX9_round 58 = .ok (.goto 4, 3) := by decide +kernel
theorem dX9_round_61 : decode cX9_round 61 = .ok (.iconst 1, 1) := by decide +kernel
theorem dX9_round_62 : decode cX9_round 62 = .ok (.ireturn, 1) := by decide +kernel
theorem dX9_follow_0 : decode cX9_follow 0 = .ok (.iconst 0, 1) := by decide +kernel
theorem dX9_follow_1 : decode cX9_follow 1 = .ok (.istore_n 2, 1) := by decide +kernel
theorem dX9_follow_2 : decode cX9_follow 2 = .ok (.iload_n 2, 1) := by decide +kernel
theorem dX9_follow_3 : decode cX9_follow 3 = .ok (.sipush 160, 3) := by decide +kernel
theorem dX9_follow_6 : decode cX9_follow 6 = .ok (.if_icmp .ge 16, 3) := by decide +kernel
theorem dX9_follow_9 : decode cX9_follow 9 = .ok (.aload_n 0, 1) := by decide +kernel
theorem dX9_follow_10 : decode cX9_follow 10 = .ok (.getfield 72, 3) := by decide +kernel
theorem dX9_follow_13 : decode cX9_follow 13 = .ok (.iload_n 2, 1) := by decide +kernel
theorem dX9_follow_14 : decode cX9_follow 14 = .ok (.iconst 0, 1) := by decide +kernel
theorem dX9_follow_15 : decode cX9_follow 15 = .ok (.bastore, 1) := by decide +kernel
theorem dX9_follow_16 : decode cX9_follow 16 = .ok (.iinc 2 1, 3) := by decide +kernel
theorem dX9_follow_19 : decode cX9_follow 19 = .ok (.goto (-17), 3) := by decide +kernel
theorem dX9_follow_22 : decode cX9_follow 22 = .ok (.aload_n 0, 1) := by decide +kernel
theorem dX9_follow_23 : decode cX9_follow 23 = .ok (.iconst 0, 1) := by decide +kernel
theorem dX9_follow_24 : decode cX9_follow 24 = .ok (.putfield 149, 3) := by decide +kernel
theorem dX9_follow_27 : decode cX9_follow 27 = .ok (.iconst 1, 1) := by decide +kernel
theorem dX9_follow_28 : decode cX9_follow 28 = .ok (.istore_n 2, 1) := by decide +kernel
theorem dX9_follow_29 : decode cX9_follow 29 = .ok (.aload_n 0, 1) := by decide +kernel
theorem dX9_follow_30 : decode cX9_follow 30 = .ok (.getfield 75, 3) := by decide +kernel
theorem dX9_follow_33 : decode cX9_follow 33 = .ok (.iconst 0, 1) := by decide +kernel
theorem dX9_follow_34 : decode cX9_follow 34 = .ok (.iload_n 1, 1) := by decide +kernel
theorem dX9_follow_35 : decode cX9_follow 35 = .ok (.iastore, 1) := by decide +kernel
theorem dX9_follow_36 : decode cX9_follow 36 = .ok (.aload_n 0, 1) := by decide +kernel
theorem dX9_follow_37 : decode cX9_follow 37 = .ok (.getfield 78, 3) := by decide +kernel
theorem dX9_follow_40 : decode cX9_follow 40 = .ok (.iconst 0, 1) := by decide +kernel
theorem dX9_follow_41 : decode cX9_follow 41 = .ok (.iconst 0, 1) := by decide +kernel
theorem dX9_follow_42 : decode cX9_follow 42 = .ok (.iastore, 1) := by decide +kernel
theorem dX9_follow_43 : decode cX9_follow 43 = .ok (.iload_n 2, 1) := by decide +kernel
theorem dX9_follow_44 : decode cX9_follow 44 = .ok (.ifCond .le 128, 3) := by decide +kernel
theorem dX9_follow_47 : decode cX9_follow 47 = .ok (.iload_n 2, 1) := by decide +kernel
theorem dX9_follow_48 : decode cX9_follow 48 = .ok (.iconst 1, 1) := by decide +kernel
theorem dX9_follow_49 : decode cX9_follow 49 = .ok (.isub, 1) := by decide +kernel
theorem dX9_follow_50 : decode cX9_follow 50 = .ok (.istore_n 3, 1) := by decide +kernel
theorem dX9_follow_51 : decode cX9_follow 51 = .ok (.aload_n 0, 1) := by decide +kernel
theorem dX9_follow_52 : decode cX9_follow 52 = .ok (.getfield 78, 3) := by decide +kernel
theorem dX9_follow_55 : decode cX9_follow 55 = .ok (.iload_n 3, 1) := by decide +kernel
theorem dX9_follow_56 : decode cX9_follow 56 = .ok (.iaload, 1) := by decide +kernel
theorem dX9_follow_57 : decode cX9_follow 57 = .ok (.iconst 3, 1) := by decide +kernel
theorem dX9_follow_58 : decode cX9_follow 58 = .ok (.if_icmp .ne 9, 3) := by decide +kernel
theorem dX9_follow_61 : decode cX9_follow 61 = .ok (.iinc 2 (-1), 3) := by decide +kernel
theorem dX9_follow_64 : decode cX9_follow 64 = .ok (.goto 105, 3) := by decide +kernel
theorem dX9_follow_67 : decode cX9_follow 67 = .ok (.aload_n 0, 1) := by decide +kernel
theorem dX9_follow_68 : decode cX9_follow 68 = .ok (.getfield 60, 3) := by decide +kernel
theorem dX9_follow_71 : decode cX9_follow 71 = .ok (.iconst 3, 1) := by decide +kernel
theorem dX9_follow_72 : decode cX9_follow 72 = .ok (.aload_n 0, 1) := by decide +kernel
theorem dX9_follow_73 : decode cX9_follow 73 = .ok (.getfield 75, 3) := by decide +kernel
theorem dX9_follow_76 : decode cX9_follow 76 = .ok (.iload_n 3, 1) := by decide +kernel
theorem dX9_follow_77 : decode cX9_follow 77 = .ok (.iaload, 1) := by decide +kernel
theorem dX9_follow_78 : decode cX9_follow 78 = .ok (.imul, 1) := by decide +kernel
theorem dX9_follow_79 : decode cX9_follow 79 = .ok (.aload_n 0, 1) := by decide +kernel
theorem dX9_follow_80 : decode cX9_follow 80 = .ok (.getfield 78, 3) := by decide +kernel
theorem dX9_follow_83 : decode cX9_follow 83 = .ok (.iload_n 3, 1) := by decide +kernel
theorem dX9_follow_84 : decode cX9_follow 84 = .ok (.iaload, 1) := by decide +kernel
theorem dX9_follow_85 : decode cX9_follow 85 = .ok (.iadd, 1) := by decide +kernel
theorem dX9_follow_86 : decode cX9_follow 86 = .ok (.iaload, 1) := by decide +kernel
theorem dX9_follow_87 : decode cX9_follow 87 = .ok (.istore 4, 2) := by decide +kernel
theorem dX9_follow_89 : decode cX9_follow 89 = .ok (.aload_n 0, 1) := by decide +kernel
theorem dX9_follow_90 : decode cX9_follow 90 = .ok (.getfield 78, 3) := by decide +kernel
theorem dX9_follow_93 : decode cX9_follow 93 = .ok (.iload_n 3, 1) := by decide +kernel
theorem dX9_follow_94 : decode cX9_follow 94 = .ok (.dup2, 1) := by decide +kernel
theorem dX9_follow_95 : decode cX9_follow 95 = .ok (.iaload, 1) := by decide +kernel
theorem dX9_follow_96 : decode cX9_follow 96 = .ok (.iconst 1, 1) := by decide +kernel
theorem dX9_follow_97 : decode cX9_follow 97 = .ok (.iadd, 1) := by decide +kernel
theorem dX9_follow_98 : decode cX9_follow 98 = .ok (.iastore, 1) := by decide +kernel
theorem dX9_follow_99 : decode cX9_follow 99 = .ok (.iload 4, 2) := by decide +kernel
theorem dX9_follow_101 : decode cX9_follow 101 = .ok (.bipush (-5), 2) := by decide +kernel
theorem dX9_follow_103 : decode cX9_follow 103 = .ok (.if_icmp .eq 66, 3) := by decide +kernel
theorem dX9_follow_106 : decode cX9_follow 106 = .ok (.aload_n 0, 1) := by decide +kernel
theorem dX9_follow_107 : decode cX9_follow 107 = .ok (.getfield 72, 3) := by decide +kernel
theorem dX9_follow_110 : decode cX9_follow 110 = .ok (.iload 4, 2) := by decide +kernel
theorem dX9_follow_112 : decode cX9_follow 112 = .ok (.baload, 1) := by decide +kernel
theorem dX9_follow_113 : decode cX9_follow 113 = .ok (.ifCond .ne 56, 3) := by decide +kernel
theorem dX9_follow_116 : decode cX9_follow 116 = .ok (.aload_n 0, 1) := by decide +kernel
theorem dX9_follow_117 : decode cX9_follow 117 = .ok (.getfield 72, 3) := by decide +kernel
theorem dX9_follow_120 : decode cX9_follow 120 = .ok (.iload 4, 2) := by decide +kernel
theorem dX9_follow_122 : decode cX9_follow 122 = .ok (.iconst 1, 1) := by decide +kernel
theorem dX9_follow_123 : decode cX9_follow 123 = .ok (.bastore, 1) := by decide +kernel
theorem dX9_follow_124 : decode cX9_follow 124 = .ok (.aload_n 0, 1) := by decide +kernel
theorem dX9_follow_125 : decode cX9_follow 125 = .ok (.getfield 69, 3) := by decide +kernel
theorem dX9_follow_128 : decode cX9_follow 128 = .ok (.aload_n 0, 1) := by decide +kernel
theorem dX9_follow_129 : decode cX9_follow 129 = .ok (.getfield 149, 3) := by decide +kernel
theorem dX9_follow_132 : decode cX9_follow 132 = .ok (.iload 4, 2) := by decide +kernel
theorem dX9_follow_134 : decode cX9_follow 134 = .ok (.iastore, 1) := by decide +kernel
theorem dX9_follow_135 : decode cX9_follow 135 = .ok (.aload_n 0, 1) := by decide +kernel
theorem dX9_follow_136 : decode cX9_follow 136 = .ok (.dup, 1) := by decide +kernel
theorem dX9_follow_137 : decode cX9_follow 137 = .ok (.getfield 149, 3) := by decide +kernel
theorem dX9_follow_140 : decode cX9_follow 140 = .ok (.iconst 1, 1) := by decide +kernel
theorem dX9_follow_141 : decode cX9_follow 141 = .ok (.iadd, 1) := by decide +kernel
theorem dX9_follow_142 : decode cX9_follow 142 = .ok (.putfield 149, 3) := by decide +kernel
theorem dX9_follow_145 : decode cX9_follow 145 = .ok (.iload 4, 2) := by decide +kernel
theorem dX9_follow_147 : decode cX9_follow 147 = .ok (.iload_n 1, 1) := by decide +kernel
theorem dX9_follow_148 : decode cX9_follow 148 = .ok (.if_icmp .eq 21, 3) := by decide +kernel
theorem dX9_follow_151 : decode cX9_follow 151 = .ok (.aload_n 0, 1) := by decide +kernel
theorem dX9_follow_152 : decode cX9_follow 152 = .ok (.getfield 75, 3) := by decide +kernel
theorem dX9_follow_155 : decode cX9_follow 155 = .ok (.iload_n 2, 1) := by decide +kernel
theorem dX9_follow_156 : decode cX9_follow 156 = .ok (.iload 4, 2) := by decide +kernel
theorem dX9_follow_158 : decode cX9_follow 158 = .ok (.iastore, 1) := by decide +kernel
theorem dX9_follow_159 : decode cX9_follow 159 = .ok (.aload_n 0, 1) := by decide +kernel
theorem dX9_follow_160 : decode cX9_follow 160 = .ok (.getfield 78, 3) := by decide +kernel
theorem dX9_follow_163 : decode cX9_follow 163 = .ok (.iload_n 2, 1) := by decide +kernel
theorem dX9_follow_164 : decode cX9_follow 164 = .ok (.iconst 0, 1) := by decide +kernel
theorem dX9_follow_165 : decode cX9_follow 165 = .ok (.iastore, 1) := by decide +kernel
theorem dX9_follow_166 : decode cX9_follow 166 = .ok (.iinc 2 1, 3) := by decide +kernel
theorem dX9_follow_169 : decode cX9_follow 169 = .ok (.goto (-126), 3) := by decide +kernel
theorem dX9_follow_172 : decode cX9_follow 172 = .ok (.return_, 1) := by decide +kernel
theorem dX9_chain_0 : decode cX9_chain 0 = .ok (.aload_n 0, 1) := by decide +kernel
theorem dX9_chain_1 : decode cX9_chain 1 = .ok (.iconst 0, 1) := by decide +kernel
theorem dX9_chain_2 : decode cX9_chain 2 = .ok (.putfield 99, 3) := by decide +kernel
theorem dX9_chain_5 : decode cX9_chain 5 = .ok (.aload_n 0, 1) := by decide +kernel
theorem dX9_chain_6 : decode cX9_chain 6 = .ok (.iload_n 1, 1) := by decide +kernel
theorem dX9_chain_7 : decode cX9_chain 7 = .ok (.invokevirtual 110, 3) := by decide +kernel
theorem dX9_chain_10 : decode cX9_chain 10 = .ok (.ifCond .eq 24, 3) := by decide +kernel
theorem dX9_chain_13 : decode cX9_chain 13 = .ok (.iload_n 2, 1) := by decide +kernel
theorem dX9_chain_14 : decode cX9_chain 14 = .ok (.invokestatic 114, 3) := by decide +kernel
theorem dX9_chain_17 : decode cX9_chain 17 = .ok (.ifCond .eq 17, 3) := by decide +kernel
theorem dX9_chain_20 : decode cX9_chain 20 = .ok (.aload_n 0, 1) := by decide +kernel
theorem dX9_chain_21 : decode cX9_chain 21 = .ok (.iload_n 1, 1) := by decide +kernel
theorem dX9_chain_22 : decode cX9_chain 22 = .ok (.bipush 32, 2) := by decide +kernel
theorem dX9_chain_24 : decode cX9_chain 24 = .ok (.iload_n 2, 1) := by decide +kernel
theorem dX9_chain_25 : decode cX9_chain 25 = .ok (.iadd, 1) := by decide +kernel
theorem dX9_chain_26 : decode cX9_chain 26 = .ok (.invokevirtual 117, 3) := by decide +kernel
theorem dX9_chain_29 : decode cX9_chain 29 = .ok (.bipush (-5), 2) := by decide +kernel
theorem dX9_chain_31 : decode cX9_chain 31 = .ok (.if_icmp .ne 5, 3) := by decide +kernel
theorem dX9_chain_34 : decode cX9_chain 34 = .ok (.iconst (-1), 1) := by decide +kernel
theorem dX9_chain_35 : decode cX9_chain 35 = .ok (.ireturn, 1) := by decide +kernel
theorem dX9_chain_36 : decode cX9_chain 36 = .ok (.iload 4, 2) := by decide +kernel
theorem dX9_chain_38 : decode cX9_chain 38 = .ok (.iconst 0, 1) := by decide +kernel
theorem dX9_chain_39 : decode cX9_chain 39 = .ok (.iconst 1, 1) := by decide +kernel
theorem dX9_chain_40 : decode cX9_chain 40 = .ok (.invokestatic 106, 3) := by decide +kernel
theorem dX9_chain_43 : decode cX9_chain 43 = .ok (.ifCond .ne 6, 3) := by decide +kernel
theorem dX9_chain_46 : decode cX9_chain 46 = .ok (.bipush (-2), 2) := by decide +kernel
theorem dX9_chain_48 : decode cX9_chain 48 = .ok (.ireturn, 1) := by decide +kernel
theorem dX9_chain_49 : decode cX9_chain 49 = .ok (.aload_n 0, 1) := by decide +kernel
theorem dX9_chain_50 : decode cX9_chain 50 = .ok (.invokevirtual 146, 3) := by decide +kernel
theorem dX9_chain_53 : decode cX9_chain 53 = .ok (.aload_n 0, 1) := by decide +kernel
theorem dX9_chain_54 : decode cX9_chain 54 = .ok (.aload_n 0, 1) := by decide +kernel
theorem dX9_chain_55 : decode cX9_chain 55 = .ok (.iload_n 1, 1) := by decide +kernel
theorem dX9_chain_56 : decode cX9_chain 56 = .ok (.bipush 32, 2) := by decide +kernel
theorem dX9_chain_58 : decode cX9_chain 58 = .ok (.iload_n 2, 1) := by decide +kernel
theorem dX9_chain_59 : decode cX9_chain 59 = .ok (.iadd, 1) := by decide +kernel
theorem dX9_chain_60 : decode cX9_chain 60 = .ok (.invokevirtual 117, 3) := by decide +kernel
theorem dX9_chain_63 : decode cX9_chain 63 = .ok (.invokevirtual 152, 3) := by decide +kernel
theorem dX9_chain_66 : decode cX9_chain 66 = .ok (.iload_n 3, 1) := by decide +kernel
theorem dX9_chain_67 : decode cX9_chain 67 = .ok (.iconst 0, 1) := by decide +kernel
theorem dX9_chain_68 : decode cX9_chain 68 = .ok (.aload_n 0, 1) := by decide +kernel
theorem dX9_chain_69 : decode cX9_chain 69 = .ok (.getfield 149, 3) := by decide +kernel
theorem dX9_chain_72 : decode cX9_chain 72 = .ok (.iconst 1, 1) := by decide +kernel
theorem dX9_chain_73 : decode cX9_chain 73 = .ok (.isub, 1) := by decide +kernel
theorem dX9_chain_74 : decode cX9_chain 74 = .ok (.invokestatic 106, 3) := by decide +kernel
theorem dX9_chain_77 : decode cX9_chain 77 = .ok (.ifCond .ne 8, 3) := by decide +kernel
theorem dX9_chain_80 : decode cX9_chain 80 = .ok (.bipush (-5), 2) := by decide +kernel
theorem dX9_chain_82 : decode cX9_chain 82 = .ok (.goto 34, 3) := by decide +kernel
theorem dX9_chain_85 : decode cX9_chain 85 = .ok (.iload 4, 2) := by decide +kernel
theorem dX9_chain_87 : decode cX9_chain 87 = .ok (.ifCond .ne 15, 3) := by decide +kernel
theorem dX9_chain_90 : decode cX9_chain 90 = .ok (.aload_n 0, 1) := by decide +kernel
theorem dX9_chain_91 : decode cX9_chain 91 = .ok (.getfield 69, 3) := by decide +kernel
theorem dX9_chain_94 : decode cX9_chain 94 = .ok (.iload_n 3, 1) := by decide +kernel
theorem dX9_chain_95 : decode cX9_chain 95 = .ok (.iaload, 1) := by decide +kernel
theorem dX9_chain_96 : decode cX9_chain 96 = .ok (.bipush 10, 2) := by decide +kernel
theorem dX9_chain_98 : decode cX9_chain 98 = .ok (.idiv, 1) := by decide +kernel
theorem dX9_chain_99 : decode cX9_chain 99 = .ok (.goto 17, 3) := by decide +kernel
theorem dX9_chain_102 : decode cX9_chain 102 = .ok (.aload_n 0, 1) := by decide +kernel
theorem dX9_chain_103 : decode cX9_chain 103 = .ok (.getfield 17, 3) := by decide +kernel
theorem dX9_chain_106 : decode cX9_chain 106 = .ok (.aload_n 0, 1) := by decide +kernel
theorem dX9_chain_107 : decode cX9_chain 107 = .ok (.getfield 69, 3) := by decide +kernel
theorem dX9_chain_110 : decode cX9_chain 110 = .ok (.iload_n 3, 1) := by decide +kernel
theorem dX9_chain_111 : decode cX9_chain 111 = .ok (.iaload, 1) := by decide +kernel
theorem dX9_chain_112 : decode cX9_chain 112 = .ok (.iaload, 1) := by decide +kernel
theorem dX9_chain_113 : decode cX9_chain 113 = .ok (.bipush 32, 2) := by decide +kernel
theorem dX9_chain_115 : decode cX9_chain 115 = .ok (.irem, 1) := by decide +kernel
theorem dX9_chain_116 : decode cX9_chain 116 = .ok (.ireturn, 1) := by decide +kernel
theorem dX9_missing_0 : decode cX9_missing 0 = .ok (.aload_n 0, 1) := by decide +kernel
theorem dX9_missing_1 : decode cX9_missing 1 = .ok (.iconst 0, 1) := by decide +kernel
theorem dX9_missing_2 : decode cX9_missing 2 = .ok (.putfield 99, 3) := by decide +kernel
theorem dX9_missing_5 : decode cX9_missing 5 = .ok (.aload_n 0, 1) := by decide +kernel
theorem dX9_missing_6 : decode cX9_missing 6 = .ok (.iload_n 1, 1) := by decide +kernel
theorem dX9_missing_7 : decode cX9_missing 7 = .ok (.invokevirtual 110, 3) := by decide +kernel
theorem dX9_missing_10 : decode cX9_missing 10 = .ok (.ifCond .ne 5, 3) := by decide +kernel
theorem dX9_missing_13 : decode cX9_missing 13 = .ok (.iconst (-1), 1) := by decide +kernel
theorem dX9_missing_14 : decode cX9_missing 14 = .ok (.ireturn, 1) := by decide +kernel
theorem dX9_missing_15 : decode cX9_missing 15 = .ok (.iconst 0, 1) := by decide +kernel
theorem dX9_missing_16 : decode cX9_missing 16 = .ok (.istore_n 2, 1) := by decide +kernel
theorem dX9_missing_17 : decode cX9_missing 17 = .ok (.iconst 0, 1) := by decide +kernel
theorem dX9_missing_18 : decode cX9_missing 18 = .ok (.istore_n 3, 1) := by decide +kernel
theorem dX9_missing_19 : decode cX9_missing 19 = .ok (.iload_n 3, 1) := by decide +kernel
theorem dX9_missing_20 : decode cX9_missing 20 = .ok (.aload_n 0, 1) := by decide +kernel
theorem dX9_missing_21 : decode cX9_missing 21 = .ok (.getfield 39, 3) := by decide +kernel
theorem dX9_missing_24 : decode cX9_missing 24 = .ok (.iload_n 1, 1) := by decide +kernel
theorem dX9_missing_25 : decode cX9_missing 25 = .ok (.iaload, 1) := by decide +kernel
theorem dX9_missing_26 : decode cX9_missing 26 = .ok (.if_icmp .ge 38, 3) := by decide +kernel
theorem dX9_missing_29 : decode cX9_missing 29 = .ok (.iload_n 2, 1) := by decide +kernel
theorem dX9_missing_30 : decode cX9_missing 30 = .ok (.aload_n 0, 1) := by decide +kernel
theorem dX9_missing_31 : decode cX9_missing 31 = .ok (.iload_n 1, 1) := by decide +kernel
theorem dX9_missing_32 : decode cX9_missing 32 = .ok (.aload_n 0, 1) := by decide +kernel
theorem dX9_missing_33 : decode cX9_missing 33 = .ok (.getfield 42, 3) := by decide +kernel
theorem dX9_missing_36 : decode cX9_missing 36 = .ok (.bipush 12, 2) := by decide +kernel
theorem dX9_missing_38 : decode cX9_missing 38 = .ok (.iload_n 1, 1) := by decide +kernel
theorem dX9_missing_39 : decode cX9_missing 39 = .ok (.imul, 1) := by decide +kernel
theorem dX9_missing_40 : decode cX9_missing 40 = .ok (.iload_n 3, 1) := by decide +kernel
theorem dX9_missing_41 : decode cX9_missing 41 = .ok (.iadd, 1) := by decide +kernel
theorem dX9_missing_42 : decode cX9_missing 42 = .ok (.iaload, 1) := by decide +kernel
theorem dX9_missing_43 : decode cX9_missing 43 = .ok (.invokevirtual 137, 3) := by decide +kernel
theorem dX9_missing_46 : decode cX9_missing 46 = .ok (.bipush (-5), 2) := by decide +kernel
theorem dX9_missing_48 : decode cX9_missing 48 = .ok (.if_icmp .ne 7, 3) := by decide +kernel
theorem dX9_missing_51 : decode cX9_missing 51 = .ok (.iconst 1, 1) := by decide +kernel
theorem dX9_missing_52 : decode cX9_missing 52 = .ok (.goto 4, 3) := by decide +kernel
theorem dX9_missing_55 : decode cX9_missing 55 = .ok (.iconst 0, 1) := by decide +kernel
theorem dX9_missing_56 : decode cX9_missing 56 = .ok (.iadd, 1) := by decide +kernel
theorem dX9_missing_57 : decode cX9_missing 57 = .ok (.istore_n 2, 1) := by decide +kernel
theorem dX9_missing_58 : decode cX9_missing 58 = .ok (.iinc 3 1, 3) := by decide +kernel
theorem dX9_missing_61 : decode cX9_missing 61 = .ok (.goto (-42), 3) := by decide +kernel
theorem dX9_missing_64 : decode cX9_missing 64 = .ok (.bipush 10, 2) := by decide +kernel
theorem dX9_missing_66 : decode cX9_missing 66 = .ok (.iload_n 1, 1) := by decide +kernel
theorem dX9_missing_67 : decode cX9_missing 67 = .ok (.imul, 1) := by decide +kernel
theorem dX9_missing_68 : decode cX9_missing 68 = .ok (.istore_n 3, 1) := by decide +kernel
theorem dX9_missing_69 : decode cX9_missing 69 = .ok (.iload_n 3, 1) := by decide +kernel
theorem dX9_missing_70 : decode cX9_missing 70 = .ok (.bipush 10, 2) := by decide +kernel
theorem dX9_missing_72 : decode cX9_missing 72 = .ok (.iload_n 1, 1) := by decide +kernel
theorem dX9_missing_73 : decode cX9_missing 73 = .ok (.imul, 1) := by decide +kernel
theorem dX9_missing_74 : decode cX9_missing 74 = .ok (.aload_n 0, 1) := by decide +kernel
theorem dX9_missing_75 : decode cX9_missing 75 = .ok (.getfield 13, 3) := by decide +kernel
theorem dX9_missing_78 : decode cX9_missing 78 = .ok (.iload_n 1, 1) := by decide +kernel
theorem dX9_missing_79 : decode cX9_missing 79 = .ok (.iaload, 1) := by decide +kernel
theorem dX9_missing_80 : decode cX9_missing 80 = .ok (.iadd, 1) := by decide +kernel
theorem dX9_missing_81 : decode cX9_missing 81 = .ok (.if_icmp .ge 61, 3) := by decide +kernel
theorem dX9_missing_84 : decode cX9_missing 84 = .ok (.iconst 0, 1) := by decide +kernel
theorem dX9_missing_85 : decode cX9_missing 85 = .ok (.istore 4, 2) := by decide +kernel
theorem dX9_missing_87 : decode cX9_missing 87 = .ok (.iload 4, 2) := by decide +kernel
theorem dX9_missing_89 : decode cX9_missing 89 = .ok (.aload_n 0, 1) := by decide +kernel
theorem dX9_missing_90 : decode cX9_missing 90 = .ok (.getfield 27, 3) := by decide +kernel
theorem dX9_missing_93 : decode cX9_missing 93 = .ok (.iload_n 3, 1) := by decide +kernel
theorem dX9_missing_94 : decode cX9_missing 94 = .ok (.iaload, 1) := by decide +kernel
theorem dX9_missing_95 : decode cX9_missing 95 = .ok (.if_icmp .ge 41, 3) := by decide +kernel
theorem dX9_missing_98 : decode cX9_missing 98 = .ok (.iload_n 2, 1) := by decide +kernel
theorem dX9_missing_99 : decode cX9_missing 99 = .ok (.aload_n 0, 1) := by decide +kernel
theorem dX9_missing_100 : decode cX9_missing 100 = .ok (.iload_n 1, 1) := by decide +kernel
theorem dX9_missing_101 : decode cX9_missing 101 = .ok (.bipush 32, 2) := by decide +kernel
theorem dX9_missing_103 : decode cX9_missing 103 = .ok (.aload_n 0, 1) := by decide +kernel
theorem dX9_missing_104 : decode cX9_missing 104 = .ok (.getfield 30, 3) := by decide +kernel
theorem dX9_missing_107 : decode cX9_missing 107 = .ok (.iconst 3, 1) := by decide +kernel
theorem dX9_missing_108 : decode cX9_missing 108 = .ok (.iload_n 3, 1) := by decide +kernel
theorem dX9_missing_109 : decode cX9_missing 109 = .ok (.imul, 1) := by decide +kernel
theorem dX9_missing_110 : decode cX9_missing 110 = .ok (.iload 4, 2) := by decide +kernel
theorem dX9_missing_112 : decode cX9_missing 112 = .ok (.iadd, 1) := by decide +kernel
theorem dX9_missing_113 : decode cX9_missing 113 = .ok (.iaload, 1) := by decide +kernel
theorem dX9_missing_114 : decode cX9_missing 114 = .ok (.iadd, 1) := by decide +kernel
theorem dX9_missing_115 : decode cX9_missing 115 = .ok (.invokevirtual 137, 3) := by decide +kernel
theorem dX9_missing_118 : decode cX9_missing 118 = .ok (.bipush (-5), 2) := by decide +kernel
theorem dX9_missing_120 : decode cX9_missing 120 = .ok (.if_icmp .ne 7, 3) := by decide +kernel
theorem dX9_missing_123 : decode cX9_missing 123 = .ok (.iconst 1, 1) := by decide +kernel
theorem dX9_missing_124 : decode cX9_missing 124 = .ok (.goto 4, 3) := by decide +kernel
theorem dX9_missing_127 : decode cX9_missing 127 = .ok (.iconst 0, 1) := by decide +kernel
theorem dX9_missing_128 : decode cX9_missing 128 = .ok (.iadd, 1) := by decide +kernel
theorem dX9_missing_129 : decode cX9_missing 129 = .ok (.istore_n 2, 1) := by decide +kernel
theorem dX9_missing_130 : decode cX9_missing 130 = .ok (.iinc 4 1, 3) := by decide +kernel
theorem dX9_missing_133 : decode cX9_missing 133 = .ok (.goto (-46), 3) := by decide +kernel
theorem dX9_missing_136 : decode cX9_missing 136 = .ok (.iinc 3 1, 3) := by decide +kernel
theorem dX9_missing_139 : decode cX9_missing 139 = .ok (.goto (-70), 3) := by decide +kernel
theorem dX9_missing_142 : decode cX9_missing 142 = .ok (.iload_n 2, 1) := by decide +kernel
theorem dX9_missing_143 : decode cX9_missing 143 = .ok (.ireturn, 1) := by decide +kernel
theorem dX9_lay_0 : decode cX9_lay 0 = .ok (.aload_n 0, 1) := by decide +kernel
theorem dX9_lay_1 : decode cX9_lay 1 = .ok (.getfield 81, 3) := by decide +kernel
theorem dX9_lay_4 : decode cX9_lay 4 = .ok (.aload_n 0, 1) := by decide +kernel
theorem dX9_lay_5 : decode cX9_lay 5 = .ok (.getfield 155, 3) := by decide +kernel
theorem dX9_lay_8 : decode cX9_lay 8 = .ok (.lload_n 1, 1) := by decide +kernel
theorem dX9_lay_9 : decode cX9_lay 9 = .ok (.lastore, 1) := by decide +kernel
theorem dX9_lay_10 : decode cX9_lay 10 = .ok (.aload_n 0, 1) := by decide +kernel
theorem dX9_lay_11 : decode cX9_lay 11 = .ok (.dup, 1) := by decide +kernel
theorem dX9_lay_12 : decode cX9_lay 12 = .ok (.getfield 155, 3) := by decide +kernel
theorem dX9_lay_15 : decode cX9_lay 15 = .ok (.iconst 1, 1) := by decide +kernel
theorem dX9_lay_16 : decode cX9_lay 16 = .ok (.iadd, 1) := by decide +kernel
theorem dX9_lay_17 : decode cX9_lay 17 = .ok (.putfield 155, 3) := by decide +kernel
theorem dX9_lay_20 : decode cX9_lay 20 = .ok (.return_, 1) := by decide +kernel
theorem dX9_layFound_0 : decode cX9_layFound 0 = .ok (.aload_n 0, 1) := by decide +kernel
theorem dX9_layFound_1 : decode cX9_layFound 1 = .ok (.iload_n 1, 1) := by decide +kernel
theorem dX9_layFound_2 : decode cX9_layFound 2 = .ok (.bipush (-5), 2) := by decide +kernel
theorem dX9_layFound_4 : decode cX9_layFound 4 = .ok (.if_icmp .ne 9, 3) := by decide +kernel
theorem dX9_layFound_7 : decode cX9_layFound 7 = .ok (.ldc2_w 158, 3) := by decide +kernel
theorem dX9_layFound_10 : decode cX9_layFound 10 = .ok (.goto 8, 3) := by decide +kernel
theorem dX9_layFound_13 : decode cX9_layFound 13 = .ok (.iload_n 1, 1) := by decide +kernel
theorem dX9_layFound_14 : decode cX9_layFound 14 = .ok (.bipush 10, 2) := by decide +kernel
theorem dX9_layFound_16 : decode cX9_layFound 16 = .ok (.idiv, 1) := by decide +kernel
theorem dX9_layFound_17 : decode cX9_layFound 17 = .ok (.i2l, 1) := by decide +kernel
theorem dX9_layFound_18 : decode cX9_layFound 18 = .ok (.invokevirtual 160, 3) := by decide +kernel
theorem dX9_layFound_21 : decode cX9_layFound 21 = .ok (.aload_n 0, 1) := by decide +kernel
theorem dX9_layFound_22 : decode cX9_layFound 22 = .ok (.iload_n 1, 1) := by decide +kernel
theorem dX9_layFound_23 : decode cX9_layFound 23 = .ok (.bipush (-5), 2) := by decide +kernel
theorem dX9_layFound_25 : decode cX9_layFound 25 = .ok (.if_icmp .ne 7, 3) := by decide +kernel
theorem dX9_layFound_28 : decode cX9_layFound 28 = .ok (.lconst 0, 1) := by decide +kernel
theorem dX9_layFound_29 : decode cX9_layFound 29 = .ok (.goto 31, 3) := by decide +kernel
theorem dX9_layFound_32 : decode cX9_layFound 32 = .ok (.aload_n 0, 1) := by decide +kernel
theorem dX9_layFound_33 : decode cX9_layFound 33 = .ok (.getfield 17, 3) := by decide +kernel
theorem dX9_layFound_36 : decode cX9_layFound 36 = .ok (.iload_n 1, 1) := by decide +kernel
theorem dX9_layFound_37 : decode cX9_layFound 37 = .ok (.iaload, 1) := by decide +kernel
theorem dX9_layFound_38 : decode cX9_layFound 38 = .ok (.bipush 32, 2) := by decide +kernel
theorem dX9_layFound_40 : decode cX9_layFound 40 = .ok (.idiv, 1) := by decide +kernel
theorem dX9_layFound_41 : decode cX9_layFound 41 = .ok (.iconst 1, 1) := by decide +kernel
theorem dX9_layFound_42 : decode cX9_layFound 42 = .ok (.if_icmp .ne 12, 3) := by decide +kernel
theorem dX9_layFound_45 : decode cX9_layFound 45 = .ok (.aload_n 0, 1) := by decide +kernel
theorem dX9_layFound_46 : decode cX9_layFound 46 = .ok (.getfield 66, 3) := by decide +kernel
theorem dX9_layFound_49 : decode cX9_layFound 49 = .ok (.iload_n 1, 1) := by decide +kernel
theorem dX9_layFound_50 : decode cX9_layFound 50 = .ok (.laload, 1) := by decide +kernel
theorem dX9_layFound_51 : decode cX9_layFound 51 = .ok (.goto 9, 3) := by decide +kernel
theorem dX9_layFound_54 : decode cX9_layFound 54 = .ok (.aload_n 0, 1) := by decide +kernel
theorem dX9_layFound_55 : decode cX9_layFound 55 = .ok (.getfield 20, 3) := by decide +kernel
theorem dX9_layFound_58 : decode cX9_layFound 58 = .ok (.iload_n 1, 1) := by decide +kernel
theorem dX9_layFound_59 : decode cX9_layFound 59 = .ok (.laload, 1) := by decide +kernel
theorem dX9_layFound_60 : decode cX9_layFound 60 = .ok (.invokevirtual 160, 3) := by decide +kernel
theorem dX9_layFound_63 : decode cX9_layFound 63 = .ok (.return_, 1) := by decide +kernel
theorem dX9_mixed_0 : decode cX9_mixed 0 = .ok (.lload_n 0, 1) := by decide +kernel
theorem dX9_mixed_1 : decode cX9_mixed 1 = .ok (.lload_n 2, 1) := by decide +kernel
theorem dX9_mixed_2 : decode cX9_mixed 2 = .ok (.lxor, 1) := by decide +kernel
theorem dX9_mixed_3 : decode cX9_mixed 3 = .ok (.ldc2_w 164, 3) := by decide +kernel
theorem dX9_mixed_6 : decode cX9_mixed 6 = .ok (.lmul, 1) := by decide +kernel
theorem dX9_mixed_7 : decode cX9_mixed 7 = .ok (.lstore 4, 2) := by decide +kernel
theorem dX9_mixed_9 : decode cX9_mixed 9 = .ok (.lload 4, 2) := by decide +kernel
theorem dX9_mixed_11 : decode cX9_mixed 11 = .ok (.lload 4, 2) := by decide +kernel
theorem dX9_mixed_13 : decode cX9_mixed 13 = .ok (.bipush 29, 2) := by decide +kernel
theorem dX9_mixed_15 : decode cX9_mixed 15 = .ok (.lushr, 1) := by decide +kernel
theorem dX9_mixed_16 : decode cX9_mixed 16 = .ok (.lxor, 1) := by decide +kernel
theorem dX9_mixed_17 : decode cX9_mixed 17 = .ok (.lreturn, 1) := by decide +kernel
theorem dX9_lineDigest_0 : decode cX9_lineDigest 0 = .ok (.ldc2_w 166, 3) := by decide +kernel
theorem dX9_lineDigest_3 : decode cX9_lineDigest 3 = .ok (.lstore_n 1, 1) := by decide +kernel
theorem dX9_lineDigest_4 : decode cX9_lineDigest 4 = .ok (.iconst 0, 1) := by decide +kernel
theorem dX9_lineDigest_5 : decode cX9_lineDigest 5 = .ok (.istore_n 3, 1) := by decide +kernel
theorem dX9_lineDigest_6 : decode cX9_lineDigest 6 = .ok (.iload_n 3, 1) := by decide +kernel
theorem dX9_lineDigest_7 : decode cX9_lineDigest 7 = .ok (.aload_n 0, 1) := by decide +kernel
theorem dX9_lineDigest_8 : decode cX9_lineDigest 8 = .ok (.getfield 155, 3) := by decide +kernel
theorem dX9_lineDigest_11 : decode cX9_lineDigest 11 = .ok (.if_icmp .ge 20, 3) := by decide +kernel
theorem dX9_lineDigest_14 : decode cX9_lineDigest 14 = .ok (.lload_n 1, 1) := by decide +kernel
theorem dX9_lineDigest_15 : decode cX9_lineDigest 15 = .ok (.aload_n 0, 1) := by decide +kernel
theorem dX9_lineDigest_16 : decode cX9_lineDigest 16 = .ok (.getfield 81, 3) := by decide +kernel
theorem dX9_lineDigest_19 : decode cX9_lineDigest 19 = .ok (.iload_n 3, 1) := by decide +kernel
theorem dX9_lineDigest_20 : decode cX9_lineDigest 20 = .ok (.laload, 1) := by decide +kernel
theorem dX9_lineDigest_21 : decode cX9_lineDigest 21 = .ok (.invokestatic 168, 3) := by decide +kernel
theorem dX9_lineDigest_24 : decode cX9_lineDigest 24 = .ok (.lstore_n 1, 1) := by decide +kernel
theorem dX9_lineDigest_25 : decode cX9_lineDigest 25 = .ok (.iinc 3 1, 3) := by decide +kernel
theorem dX9_lineDigest_28 : decode cX9_lineDigest 28 = .ok (.goto (-22), 3) := by decide +kernel
theorem dX9_lineDigest_31 : decode cX9_lineDigest 31 = .ok (.lload_n 1, 1) := by decide +kernel
theorem dX9_lineDigest_32 : decode cX9_lineDigest 32 = .ok (.lreturn, 1) := by decide +kernel
theorem dX9_layParts_0 : decode cX9_layParts 0 = .ok (.aload_n 0, 1) := by decide +kernel
theorem dX9_layParts_1 : decode cX9_layParts 1 = .ok (.iconst 0, 1) := by decide +kernel
theorem dX9_layParts_2 : decode cX9_layParts 2 = .ok (.putfield 155, 3) := by decide +kernel
theorem dX9_layParts_5 : decode cX9_layParts 5 = .ok (.aload_n 0, 1) := by decide +kernel
theorem dX9_layParts_6 : decode cX9_layParts 6 = .ok (.aload_n 0, 1) := by decide +kernel
theorem dX9_layParts_7 : decode cX9_layParts 7 = .ok (.getfield 13, 3) := by decide +kernel
theorem dX9_layParts_10 : decode cX9_layParts 10 = .ok (.iload_n 1, 1) := by decide +kernel
theorem dX9_layParts_11 : decode cX9_layParts 11 = .ok (.iaload, 1) := by decide +kernel
theorem dX9_layParts_12 : decode cX9_layParts 12 = .ok (.i2l, 1) := by decide +kernel
theorem dX9_layParts_13 : decode cX9_layParts 13 = .ok (.invokevirtual 160, 3) := by decide +kernel
theorem dX9_layParts_16 : decode cX9_layParts 16 = .ok (.bipush 10, 2) := by decide +kernel
theorem dX9_layParts_18 : decode cX9_layParts 18 = .ok (.iload_n 1, 1) := by decide +kernel
theorem dX9_layParts_19 : decode cX9_layParts 19 = .ok (.imul, 1) := by decide +kernel
theorem dX9_layParts_20 : decode cX9_layParts 20 = .ok (.istore_n 2, 1) := by decide +kernel
theorem dX9_layParts_21 : decode cX9_layParts 21 = .ok (.iload_n 2, 1) := by decide +kernel
theorem dX9_layParts_22 : decode cX9_layParts 22 = .ok (.bipush 10, 2) := by decide +kernel
theorem dX9_layParts_24 : decode cX9_layParts 24 = .ok (.iload_n 1, 1) := by decide +kernel
theorem dX9_layParts_25 : decode cX9_layParts 25 = .ok (.imul, 1) := by decide +kernel
theorem dX9_layParts_26 : decode cX9_layParts 26 = .ok (.aload_n 0, 1) := by decide +kernel
theorem dX9_layParts_27 : decode cX9_layParts 27 = .ok (.getfield 13, 3) := by decide +kernel
theorem dX9_layParts_30 : decode cX9_layParts 30 = .ok (.iload_n 1, 1) := by decide +kernel
theorem dX9_layParts_31 : decode cX9_layParts 31 = .ok (.iaload, 1) := by decide +kernel
theorem dX9_layParts_32 : decode cX9_layParts 32 = .ok (.iadd, 1) := by decide +kernel
theorem dX9_layParts_33 : decode cX9_layParts 33 = .ok (.if_icmp .ge 109, 3) := by decide +kernel
theorem dX9_layParts_36 : decode cX9_layParts 36 = .ok (.aload_n 0, 1) := by decide +kernel
theorem dX9_layParts_37 : decode cX9_layParts 37 = .ok (.aload_n 0, 1) := by decide +kernel
theorem dX9_layParts_38 : decode cX9_layParts 38 = .ok (.getfield 17, 3) := by decide +kernel
theorem dX9_layParts_41 : decode cX9_layParts 41 = .ok (.iload_n 2, 1) := by decide +kernel
theorem dX9_layParts_42 : decode cX9_layParts 42 = .ok (.iaload, 1) := by decide +kernel
theorem dX9_layParts_43 : decode cX9_layParts 43 = .ok (.bipush 32, 2) := by decide +kernel
theorem dX9_layParts_45 : decode cX9_layParts 45 = .ok (.idiv, 1) := by decide +kernel
theorem dX9_layParts_46 : decode cX9_layParts 46 = .ok (.i2l, 1) := by decide +kernel
theorem dX9_layParts_47 : decode cX9_layParts 47 = .ok (.invokevirtual 160, 3) := by decide +kernel
theorem dX9_layParts_50 : decode cX9_layParts 50 = .ok (.aload_n 0, 1) := by decide +kernel
theorem dX9_layParts_51 : decode cX9_layParts 51 = .ok (.aload_n 0, 1) := by decide +kernel
theorem dX9_layParts_52 : decode cX9_layParts 52 = .ok (.getfield 17, 3) := by decide +kernel
theorem dX9_layParts_55 : decode cX9_layParts 55 = .ok (.iload_n 2, 1) := by decide +kernel
theorem dX9_layParts_56 : decode cX9_layParts 56 = .ok (.iaload, 1) := by decide +kernel
theorem dX9_layParts_57 : decode cX9_layParts 57 = .ok (.bipush 32, 2) := by decide +kernel
theorem dX9_layParts_59 : decode cX9_layParts 59 = .ok (.irem, 1) := by decide +kernel
theorem dX9_layParts_60 : decode cX9_layParts 60 = .ok (.i2l, 1) := by decide +kernel
theorem dX9_layParts_61 : decode cX9_layParts 61 = .ok (.invokevirtual 160, 3) := by decide +kernel
theorem dX9_layParts_64 : decode cX9_layParts 64 = .ok (.aload_n 0, 1) := by decide +kernel
theorem dX9_layParts_65 : decode cX9_layParts 65 = .ok (.aload_n 0, 1) := by decide +kernel
theorem dX9_layParts_66 : decode cX9_layParts 66 = .ok (.getfield 20, 3) := by decide +kernel
theorem dX9_layParts_69 : decode cX9_layParts 69 = .ok (.iload_n 2, 1) := by decide +kernel
theorem dX9_layParts_70 : decode cX9_layParts 70 = .ok (.laload, 1) := by decide +kernel
theorem dX9_layParts_71 : decode cX9_layParts 71 = .ok (.invokevirtual 160, 3) := by decide +kernel
theorem dX9_layParts_74 : decode cX9_layParts 74 = .ok (.aload_n 0, 1) := by decide +kernel
theorem dX9_layParts_75 : decode cX9_layParts 75 = .ok (.aload_n 0, 1) := by decide +kernel
theorem dX9_layParts_76 : decode cX9_layParts 76 = .ok (.getfield 24, 3) := by decide +kernel
theorem dX9_layParts_79 : decode cX9_layParts 79 = .ok (.iload_n 2, 1) := by decide +kernel
theorem dX9_layParts_80 : decode cX9_layParts 80 = .ok (.baload, 1) := by decide +kernel
theorem dX9_layParts_81 : decode cX9_layParts 81 = .ok (.ifCond .eq 7, 3) := by decide +kernel
theorem dX9_layParts_84 : decode cX9_layParts 84 = .ok (.lconst 1, 1) := by decide +kernel
theorem dX9_layParts_85 : decode cX9_layParts 85 = .ok (.goto 4, 3) := by decide +kernel
theorem dX9_layParts_88 : decode cX9_layParts 88 = .ok (.lconst 0, 1) := by decide +kernel
theorem dX9_layParts_89 : decode cX9_layParts 89 = .ok (.invokevirtual 160, 3) := by decide +kernel
theorem dX9_layParts_92 : decode cX9_layParts 92 = .ok (.aload_n 0, 1) := by decide +kernel
theorem dX9_layParts_93 : decode cX9_layParts 93 = .ok (.aload_n 0, 1) := by decide +kernel
theorem dX9_layParts_94 : decode cX9_layParts 94 = .ok (.getfield 27, 3) := by decide +kernel
theorem dX9_layParts_97 : decode cX9_layParts 97 = .ok (.iload_n 2, 1) := by decide +kernel
theorem dX9_layParts_98 : decode cX9_layParts 98 = .ok (.iaload, 1) := by decide +kernel
theorem dX9_layParts_99 : decode cX9_layParts 99 = .ok (.i2l, 1) := by decide +kernel
theorem dX9_layParts_100 : decode cX9_layParts 100 = .ok (.invokevirtual 160, 3) := by decide +kernel
theorem dX9_layParts_103 : decode cX9_layParts 103 = .ok (.iconst 0, 1) := by decide +kernel
theorem dX9_layParts_104 : decode cX9_layParts 104 = .ok (.istore_n 3, 1) := by decide +kernel
theorem dX9_layParts_105 : decode cX9_layParts 105 = .ok (.iload_n 3, 1) := by decide +kernel
theorem dX9_layParts_106 : decode cX9_layParts 106 = .ok (.aload_n 0, 1) := by decide +kernel
theorem dX9_layParts_107 : decode cX9_layParts 107 = .ok (.getfield 27, 3) := by decide +kernel
theorem dX9_layParts_110 : decode cX9_layParts 110 = .ok (.iload_n 2, 1) := by decide +kernel
theorem dX9_layParts_111 : decode cX9_layParts 111 = .ok (.iaload, 1) := by decide +kernel
theorem dX9_layParts_112 : decode cX9_layParts 112 = .ok (.if_icmp .ge 24, 3) := by decide +kernel
theorem dX9_layParts_115 : decode cX9_layParts 115 = .ok (.aload_n 0, 1) := by decide +kernel
theorem dX9_layParts_116 : decode cX9_layParts 116 = .ok (.aload_n 0, 1) := by decide +kernel
theorem dX9_layParts_117 : decode cX9_layParts 117 = .ok (.getfield 30, 3) := by decide +kernel
theorem dX9_layParts_120 : decode cX9_layParts 120 = .ok (.iconst 3, 1) := by decide +kernel
theorem dX9_layParts_121 : decode cX9_layParts 121 = .ok (.iload_n 2, 1) := by decide +kernel
theorem dX9_layParts_122 : decode cX9_layParts 122 = .ok (.imul, 1) := by decide +kernel
theorem dX9_layParts_123 : decode cX9_layParts 123 = .ok (.iload_n 3, 1) := by decide +kernel
theorem dX9_layParts_124 : decode cX9_layParts 124 = .ok (.iadd, 1) := by decide +kernel
theorem dX9_layParts_125 : decode cX9_layParts 125 = .ok (.iaload, 1) := by decide +kernel
theorem dX9_layParts_126 : decode cX9_layParts 126 = .ok (.i2l, 1) := by decide +kernel
theorem dX9_layParts_127 : decode cX9_layParts 127 = .ok (.invokevirtual 160, 3) := by decide +kernel
theorem dX9_layParts_130 : decode cX9_layParts 130 = .ok (.iinc 3 1, 3) := by decide +kernel
theorem dX9_layParts_133 : decode cX9_layParts 133 = .ok (.goto (-28), 3) := by decide +kernel
theorem dX9_layParts_136 : decode cX9_layParts 136 = .ok (.iinc 2 1, 3) := by decide +kernel
theorem dX9_layParts_139 : decode cX9_layParts 139 = .ok (.goto (-118), 3) := by decide +kernel
theorem dX9_layParts_142 : decode cX9_layParts 142 = .ok (.aload_n 0, 1) := by decide +kernel
theorem dX9_layParts_143 : decode cX9_layParts 143 = .ok (.getfield 84, 3) := by decide +kernel
theorem dX9_layParts_146 : decode cX9_layParts 146 = .ok (.iconst 0, 1) := by decide +kernel
theorem dX9_layParts_147 : decode cX9_layParts 147 = .ok (.aload_n 0, 1) := by decide +kernel
theorem dX9_layParts_148 : decode cX9_layParts 148 = .ok (.getfield 155, 3) := by decide +kernel
theorem dX9_layParts_151 : decode cX9_layParts 151 = .ok (.iastore, 1) := by decide +kernel
theorem dX9_layParts_152 : decode cX9_layParts 152 = .ok (.aload_n 0, 1) := by decide +kernel
theorem dX9_layParts_153 : decode cX9_layParts 153 = .ok (.aload_n 0, 1) := by decide +kernel
theorem dX9_layParts_154 : decode cX9_layParts 154 = .ok (.getfield 33, 3) := by decide +kernel
theorem dX9_layParts_157 : decode cX9_layParts 157 = .ok (.iload_n 1, 1) := by decide +kernel
theorem dX9_layParts_158 : decode cX9_layParts 158 = .ok (.iaload, 1) := by decide +kernel
theorem dX9_layParts_159 : decode cX9_layParts 159 = .ok (.i2l, 1) := by decide +kernel
theorem dX9_layParts_160 : decode cX9_layParts 160 = .ok (.invokevirtual 160, 3) := by decide +kernel
theorem dX9_layParts_163 : decode cX9_layParts 163 = .ok (.iconst 0, 1) := by decide +kernel
theorem dX9_layParts_164 : decode cX9_layParts 164 = .ok (.istore_n 2, 1) := by decide +kernel
theorem dX9_layParts_165 : decode cX9_layParts 165 = .ok (.iload_n 2, 1) := by decide +kernel
theorem dX9_layParts_166 : decode cX9_layParts 166 = .ok (.aload_n 0, 1) := by decide +kernel
theorem dX9_layParts_167 : decode cX9_layParts 167 = .ok (.getfield 33, 3) := by decide +kernel
theorem dX9_layParts_170 : decode cX9_layParts 170 = .ok (.iload_n 1, 1) := by decide +kernel
theorem dX9_layParts_171 : decode cX9_layParts 171 = .ok (.iaload, 1) := by decide +kernel
theorem dX9_layParts_172 : decode cX9_layParts 172 = .ok (.if_icmp .ge 25, 3) := by decide +kernel
theorem dX9_layParts_175 : decode cX9_layParts 175 = .ok (.aload_n 0, 1) := by decide +kernel
theorem dX9_layParts_176 : decode cX9_layParts 176 = .ok (.aload_n 0, 1) := by decide +kernel
theorem dX9_layParts_177 : decode cX9_layParts 177 = .ok (.getfield 36, 3) := by decide +kernel
theorem dX9_layParts_180 : decode cX9_layParts 180 = .ok (.bipush 6, 2) := by decide +kernel
theorem dX9_layParts_182 : decode cX9_layParts 182 = .ok (.iload_n 1, 1) := by decide +kernel
theorem dX9_layParts_183 : decode cX9_layParts 183 = .ok (.imul, 1) := by decide +kernel
theorem dX9_layParts_184 : decode cX9_layParts 184 = .ok (.iload_n 2, 1) := by decide +kernel
theorem dX9_layParts_185 : decode cX9_layParts 185 = .ok (.iadd, 1) := by decide +kernel
theorem dX9_layParts_186 : decode cX9_layParts 186 = .ok (.iaload, 1) := by decide +kernel
theorem dX9_layParts_187 : decode cX9_layParts 187 = .ok (.i2l, 1) := by decide +kernel
theorem dX9_layParts_188 : decode cX9_layParts 188 = .ok (.invokevirtual 160, 3) := by decide +kernel
theorem dX9_layParts_191 : decode cX9_layParts 191 = .ok (.iinc 2 1, 3) := by decide +kernel
theorem dX9_layParts_194 : decode cX9_layParts 194 = .ok (.goto (-29), 3) := by decide +kernel
theorem dX9_layParts_197 : decode cX9_layParts 197 = .ok (.aload_n 0, 1) := by decide +kernel
theorem dX9_layParts_198 : decode cX9_layParts 198 = .ok (.getfield 84, 3) := by decide +kernel
theorem dX9_layParts_201 : decode cX9_layParts 201 = .ok (.iconst 1, 1) := by decide +kernel
theorem dX9_layParts_202 : decode cX9_layParts 202 = .ok (.aload_n 0, 1) := by decide +kernel
theorem dX9_layParts_203 : decode cX9_layParts 203 = .ok (.getfield 155, 3) := by decide +kernel
theorem dX9_layParts_206 : decode cX9_layParts 206 = .ok (.iastore, 1) := by decide +kernel
theorem dX9_layParts_207 : decode cX9_layParts 207 = .ok (.aload_n 0, 1) := by decide +kernel
theorem dX9_layParts_208 : decode cX9_layParts 208 = .ok (.aload_n 0, 1) := by decide +kernel
theorem dX9_layParts_209 : decode cX9_layParts 209 = .ok (.getfield 39, 3) := by decide +kernel
theorem dX9_layParts_212 : decode cX9_layParts 212 = .ok (.iload_n 1, 1) := by decide +kernel
theorem dX9_layParts_213 : decode cX9_layParts 213 = .ok (.iaload, 1) := by decide +kernel
theorem dX9_layParts_214 : decode cX9_layParts 214 = .ok (.i2l, 1) := by decide +kernel
theorem dX9_layParts_215 : decode cX9_layParts 215 = .ok (.invokevirtual 160, 3) := by decide +kernel
theorem dX9_layParts_218 : decode cX9_layParts 218 = .ok (.iconst 0, 1) := by decide +kernel
theorem dX9_layParts_219 : decode cX9_layParts 219 = .ok (.istore_n 2, 1) := by decide +kernel
theorem dX9_layParts_220 : decode cX9_layParts 220 = .ok (.iload_n 2, 1) := by decide +kernel
theorem dX9_layParts_221 : decode cX9_layParts 221 = .ok (.aload_n 0, 1) := by decide +kernel
theorem dX9_layParts_222 : decode cX9_layParts 222 = .ok (.getfield 39, 3) := by decide +kernel
theorem dX9_layParts_225 : decode cX9_layParts 225 = .ok (.iload_n 1, 1) := by decide +kernel
theorem dX9_layParts_226 : decode cX9_layParts 226 = .ok (.iaload, 1) := by decide +kernel
theorem dX9_layParts_227 : decode cX9_layParts 227 = .ok (.if_icmp .ge 67, 3) := by decide +kernel
theorem dX9_layParts_230 : decode cX9_layParts 230 = .ok (.aload_n 0, 1) := by decide +kernel
theorem dX9_layParts_231 : decode cX9_layParts 231 = .ok (.aload_n 0, 1) := by decide +kernel
theorem dX9_layParts_232 : decode cX9_layParts 232 = .ok (.getfield 42, 3) := by decide +kernel
theorem dX9_layParts_235 : decode cX9_layParts 235 = .ok (.bipush 12, 2) := by decide +kernel
theorem dX9_layParts_237 : decode cX9_layParts 237 = .ok (.iload_n 1, 1) := by decide +kernel
theorem dX9_layParts_238 : decode cX9_layParts 238 = .ok (.imul, 1) := by decide +kernel
theorem dX9_layParts_239 : decode cX9_layParts 239 = .ok (.iload_n 2, 1) := by decide +kernel
theorem dX9_layParts_240 : decode cX9_layParts 240 = .ok (.iadd, 1) := by decide +kernel
theorem dX9_layParts_241 : decode cX9_layParts 241 = .ok (.iaload, 1) := by decide +kernel
theorem dX9_layParts_242 : decode cX9_layParts 242 = .ok (.bipush 32, 2) := by decide +kernel
theorem dX9_layParts_244 : decode cX9_layParts 244 = .ok (.idiv, 1) := by decide +kernel
theorem dX9_layParts_245 : decode cX9_layParts 245 = .ok (.i2l, 1) := by decide +kernel
theorem dX9_layParts_246 : decode cX9_layParts 246 = .ok (.invokevirtual 160, 3) := by decide +kernel
theorem dX9_layParts_249 : decode cX9_layParts 249 = .ok (.aload_n 0, 1) := by decide +kernel
theorem dX9_layParts_250 : decode cX9_layParts 250 = .ok (.aload_n 0, 1) := by decide +kernel
theorem dX9_layParts_251 : decode cX9_layParts 251 = .ok (.getfield 42, 3) := by decide +kernel
theorem dX9_layParts_254 : decode cX9_layParts 254 = .ok (.bipush 12, 2) := by decide +kernel
theorem dX9_layParts_256 : decode cX9_layParts 256 = .ok (.iload_n 1, 1) := by decide +kernel
theorem dX9_layParts_257 : decode cX9_layParts 257 = .ok (.imul, 1) := by decide +kernel
theorem dX9_layParts_258 : decode cX9_layParts 258 = .ok (.iload_n 2, 1) := by decide +kernel
theorem dX9_layParts_259 : decode cX9_layParts 259 = .ok (.iadd, 1) := by decide +kernel
theorem dX9_layParts_260 : decode cX9_layParts 260 = .ok (.iaload, 1) := by decide +kernel
theorem dX9_layParts_261 : decode cX9_layParts 261 = .ok (.bipush 32, 2) := by decide +kernel
theorem dX9_layParts_263 : decode cX9_layParts 263 = .ok (.irem, 1) := by decide +kernel
theorem dX9_layParts_264 : decode cX9_layParts 264 = .ok (.i2l, 1) := by decide +kernel
theorem dX9_layParts_265 : decode cX9_layParts 265 = .ok (.invokevirtual 160, 3) := by decide +kernel
theorem dX9_layParts_268 : decode cX9_layParts 268 = .ok (.aload_n 0, 1) := by decide +kernel
theorem dX9_layParts_269 : decode cX9_layParts 269 = .ok (.aload_n 0, 1) := by decide +kernel
theorem dX9_layParts_270 : decode cX9_layParts 270 = .ok (.iload_n 1, 1) := by decide +kernel
theorem dX9_layParts_271 : decode cX9_layParts 271 = .ok (.aload_n 0, 1) := by decide +kernel
theorem dX9_layParts_272 : decode cX9_layParts 272 = .ok (.getfield 42, 3) := by decide +kernel
theorem dX9_layParts_275 : decode cX9_layParts 275 = .ok (.bipush 12, 2) := by decide +kernel
theorem dX9_layParts_277 : decode cX9_layParts 277 = .ok (.iload_n 1, 1) := by decide +kernel
theorem dX9_layParts_278 : decode cX9_layParts 278 = .ok (.imul, 1) := by decide +kernel
theorem dX9_layParts_279 : decode cX9_layParts 279 = .ok (.iload_n 2, 1) := by decide +kernel
theorem dX9_layParts_280 : decode cX9_layParts 280 = .ok (.iadd, 1) := by decide +kernel
theorem dX9_layParts_281 : decode cX9_layParts 281 = .ok (.iaload, 1) := by decide +kernel
theorem dX9_layParts_282 : decode cX9_layParts 282 = .ok (.invokevirtual 137, 3) := by decide +kernel
theorem dX9_layParts_285 : decode cX9_layParts 285 = .ok (.invokevirtual 172, 3) := by decide +kernel
theorem dX9_layParts_288 : decode cX9_layParts 288 = .ok (.iinc 2 1, 3) := by decide +kernel
theorem dX9_layParts_291 : decode cX9_layParts 291 = .ok (.goto (-71), 3) := by decide +kernel
theorem dX9_layParts_294 : decode cX9_layParts 294 = .ok (.aload_n 0, 1) := by decide +kernel
theorem dX9_layParts_295 : decode cX9_layParts 295 = .ok (.getfield 84, 3) := by decide +kernel
theorem dX9_layParts_298 : decode cX9_layParts 298 = .ok (.iconst 2, 1) := by decide +kernel
theorem dX9_layParts_299 : decode cX9_layParts 299 = .ok (.aload_n 0, 1) := by decide +kernel
theorem dX9_layParts_300 : decode cX9_layParts 300 = .ok (.getfield 155, 3) := by decide +kernel
theorem dX9_layParts_303 : decode cX9_layParts 303 = .ok (.iastore, 1) := by decide +kernel
theorem dX9_layParts_304 : decode cX9_layParts 304 = .ok (.bipush 10, 2) := by decide +kernel
theorem dX9_layParts_306 : decode cX9_layParts 306 = .ok (.iload_n 1, 1) := by decide +kernel
theorem dX9_layParts_307 : decode cX9_layParts 307 = .ok (.imul, 1) := by decide +kernel
theorem dX9_layParts_308 : decode cX9_layParts 308 = .ok (.istore_n 2, 1) := by decide +kernel
theorem dX9_layParts_309 : decode cX9_layParts 309 = .ok (.iload_n 2, 1) := by decide +kernel
theorem dX9_layParts_310 : decode cX9_layParts 310 = .ok (.bipush 10, 2) := by decide +kernel
theorem dX9_layParts_312 : decode cX9_layParts 312 = .ok (.iload_n 1, 1) := by decide +kernel
theorem dX9_layParts_313 : decode cX9_layParts 313 = .ok (.imul, 1) := by decide +kernel
theorem dX9_layParts_314 : decode cX9_layParts 314 = .ok (.aload_n 0, 1) := by decide +kernel
theorem dX9_layParts_315 : decode cX9_layParts 315 = .ok (.getfield 13, 3) := by decide +kernel
theorem dX9_layParts_318 : decode cX9_layParts 318 = .ok (.iload_n 1, 1) := by decide +kernel
theorem dX9_layParts_319 : decode cX9_layParts 319 = .ok (.iaload, 1) := by decide +kernel
theorem dX9_layParts_320 : decode cX9_layParts 320 = .ok (.iadd, 1) := by decide +kernel
theorem dX9_layParts_321 : decode cX9_layParts 321 = .ok (.if_icmp .ge 49, 3) := by decide +kernel
theorem dX9_layParts_324 : decode cX9_layParts 324 = .ok (.iconst 0, 1) := by decide +kernel
theorem dX9_layParts_325 : decode cX9_layParts 325 = .ok (.istore_n 3, 1) := by decide +kernel
theorem dX9_layParts_326 : decode cX9_layParts 326 = .ok (.iload_n 3, 1) := by decide +kernel
theorem dX9_layParts_327 : decode cX9_layParts 327 = .ok (.aload_n 0, 1) := by decide +kernel
theorem dX9_layParts_328 : decode cX9_layParts 328 = .ok (.getfield 27, 3) := by decide +kernel
theorem dX9_layParts_331 : decode cX9_layParts 331 = .ok (.iload_n 2, 1) := by decide +kernel
theorem dX9_layParts_332 : decode cX9_layParts 332 = .ok (.iaload, 1) := by decide +kernel
theorem dX9_layParts_333 : decode cX9_layParts 333 = .ok (.if_icmp .ge 31, 3) := by decide +kernel
theorem dX9_layParts_336 : decode cX9_layParts 336 = .ok (.aload_n 0, 1) := by decide +kernel
theorem dX9_layParts_337 : decode cX9_layParts 337 = .ok (.aload_n 0, 1) := by decide +kernel
theorem dX9_layParts_338 : decode cX9_layParts 338 = .ok (.iload_n 1, 1) := by decide +kernel
theorem dX9_layParts_339 : decode cX9_layParts 339 = .ok (.bipush 32, 2) := by decide +kernel
theorem dX9_layParts_341 : decode cX9_layParts 341 = .ok (.aload_n 0, 1) := by decide +kernel
theorem dX9_layParts_342 : decode cX9_layParts 342 = .ok (.getfield 30, 3) := by decide +kernel
theorem dX9_layParts_345 : decode cX9_layParts 345 = .ok (.iconst 3, 1) := by decide +kernel
theorem dX9_layParts_346 : decode cX9_layParts 346 = .ok (.iload_n 2, 1) := by decide +kernel
theorem dX9_layParts_347 : decode cX9_layParts 347 = .ok (.imul, 1) := by decide +kernel
theorem dX9_layParts_348 : decode cX9_layParts 348 = .ok (.iload_n 3, 1) := by decide +kernel
theorem dX9_layParts_349 : decode cX9_layParts 349 = .ok (.iadd, 1) := by decide +kernel
theorem dX9_layParts_350 : decode cX9_layParts 350 = .ok (.iaload, 1) := by decide +kernel
theorem dX9_layParts_351 : decode cX9_layParts 351 = .ok (.iadd, 1) := by decide +kernel
theorem dX9_layParts_352 : decode cX9_layParts 352 = .ok (.invokevirtual 137, 3) := by decide +kernel
theorem dX9_layParts_355 : decode cX9_layParts 355 = .ok (.invokevirtual 172, 3) := by decide +kernel
theorem dX9_layParts_358 : decode cX9_layParts 358 = .ok (.iinc 3 1, 3) := by decide +kernel
theorem dX9_layParts_361 : decode cX9_layParts 361 = .ok (.goto (-35), 3) := by decide +kernel
theorem dX9_layParts_364 : decode cX9_layParts 364 = .ok (.iinc 2 1, 3) := by decide +kernel
theorem dX9_layParts_367 : decode cX9_layParts 367 = .ok (.goto (-58), 3) := by decide +kernel
theorem dX9_layParts_370 : decode cX9_layParts 370 = .ok (.aload_n 0, 1) := by decide +kernel
theorem dX9_layParts_371 : decode cX9_layParts 371 = .ok (.getfield 84, 3) := by decide +kernel
theorem dX9_layParts_374 : decode cX9_layParts 374 = .ok (.iconst 3, 1) := by decide +kernel
theorem dX9_layParts_375 : decode cX9_layParts 375 = .ok (.aload_n 0, 1) := by decide +kernel
theorem dX9_layParts_376 : decode cX9_layParts 376 = .ok (.getfield 155, 3) := by decide +kernel
theorem dX9_layParts_379 : decode cX9_layParts 379 = .ok (.iastore, 1) := by decide +kernel
theorem dX9_layParts_380 : decode cX9_layParts 380 = .ok (.aload_n 0, 1) := by decide +kernel
theorem dX9_layParts_381 : decode cX9_layParts 381 = .ok (.aload_n 0, 1) := by decide +kernel
theorem dX9_layParts_382 : decode cX9_layParts 382 = .ok (.getfield 45, 3) := by decide +kernel
theorem dX9_layParts_385 : decode cX9_layParts 385 = .ok (.iload_n 1, 1) := by decide +kernel
theorem dX9_layParts_386 : decode cX9_layParts 386 = .ok (.baload, 1) := by decide +kernel
theorem dX9_layParts_387 : decode cX9_layParts 387 = .ok (.ifCond .eq 7, 3) := by decide +kernel
theorem dX9_layParts_390 : decode cX9_layParts 390 = .ok (.lconst 1, 1) := by decide +kernel
theorem dX9_layParts_391 : decode cX9_layParts 391 = .ok (.goto 4, 3) := by decide +kernel
theorem dX9_layParts_394 : decode cX9_layParts 394 = .ok (.lconst 0, 1) := by decide +kernel
theorem dX9_layParts_395 : decode cX9_layParts 395 = .ok (.invokevirtual 160, 3) := by decide +kernel
theorem dX9_layParts_398 : decode cX9_layParts 398 = .ok (.iconst 0, 1) := by decide +kernel
theorem dX9_layParts_399 : decode cX9_layParts 399 = .ok (.istore_n 2, 1) := by decide +kernel
theorem dX9_layParts_400 : decode cX9_layParts 400 = .ok (.iload_n 2, 1) := by decide +kernel
theorem dX9_layParts_401 : decode cX9_layParts 401 = .ok (.bipush 10, 2) := by decide +kernel
theorem dX9_layParts_403 : decode cX9_layParts 403 = .ok (.aload_n 0, 1) := by decide +kernel
theorem dX9_layParts_404 : decode cX9_layParts 404 = .ok (.getfield 103, 3) := by decide +kernel
theorem dX9_layParts_407 : decode cX9_layParts 407 = .ok (.imul, 1) := by decide +kernel
theorem dX9_layParts_408 : decode cX9_layParts 408 = .ok (.if_icmp .ge 92, 3) := by decide +kernel
theorem dX9_layParts_411 : decode cX9_layParts 411 = .ok (.aload_n 0, 1) := by decide +kernel
theorem dX9_layParts_412 : decode cX9_layParts 412 = .ok (.getfield 45, 3) := by decide +kernel
theorem dX9_layParts_415 : decode cX9_layParts 415 = .ok (.iload_n 1, 1) := by decide +kernel
theorem dX9_layParts_416 : decode cX9_layParts 416 = .ok (.baload, 1) := by decide +kernel
theorem dX9_layParts_417 : decode cX9_layParts 417 = .ok (.ifCond .eq 83, 3) := by decide +kernel
theorem dX9_layParts_420 : decode cX9_layParts 420 = .ok (.aload_n 0, 1) := by decide +kernel
theorem dX9_layParts_421 : decode cX9_layParts 421 = .ok (.getfield 7, 3) := by decide +kernel
theorem dX9_layParts_424 : decode cX9_layParts 424 = .ok (.iload_n 2, 1) := by decide +kernel
theorem dX9_layParts_425 : decode cX9_layParts 425 = .ok (.bipush 10, 2) := by decide +kernel
theorem dX9_layParts_427 : decode cX9_layParts 427 = .ok (.idiv, 1) := by decide +kernel
theorem dX9_layParts_428 : decode cX9_layParts 428 = .ok (.baload, 1) := by decide +kernel
theorem dX9_layParts_429 : decode cX9_layParts 429 = .ok (.ifCond .eq 65, 3) := by decide +kernel
theorem dX9_layParts_432 : decode cX9_layParts 432 = .ok (.iload_n 2, 1) := by decide +kernel
theorem dX9_layParts_433 : decode cX9_layParts 433 = .ok (.bipush 10, 2) := by decide +kernel
theorem dX9_layParts_435 : decode cX9_layParts 435 = .ok (.irem, 1) := by decide +kernel
theorem dX9_layParts_436 : decode cX9_layParts 436 = .ok (.aload_n 0, 1) := by decide +kernel
theorem dX9_layParts_437 : decode cX9_layParts 437 = .ok (.getfield 13, 3) := by decide +kernel
theorem dX9_layParts_440 : decode cX9_layParts 440 = .ok (.iload_n 2, 1) := by decide +kernel
theorem dX9_layParts_441 : decode cX9_layParts 441 = .ok (.bipush 10, 2) := by decide +kernel
theorem dX9_layParts_443 : decode cX9_layParts 443 = .ok (.idiv, 1) := by decide +kernel
theorem dX9_layParts_444 : decode cX9_layParts 444 = .ok (.iaload, 1) := by decide +kernel
theorem dX9_layParts_445 : decode cX9_layParts 445 = .ok (.if_icmp .ge 49, 3) := by decide +kernel
theorem dX9_layParts_448 : decode cX9_layParts 448 = .ok (.aload_n 0, 1) := by decide +kernel
theorem dX9_layParts_449 : decode cX9_layParts 449 = .ok (.getfield 17, 3) := by decide +kernel
theorem dX9_layParts_452 : decode cX9_layParts 452 = .ok (.iload_n 2, 1) := by decide +kernel
theorem dX9_layParts_453 : decode cX9_layParts 453 = .ok (.iaload, 1) := by decide +kernel
theorem dX9_layParts_454 : decode cX9_layParts 454 = .ok (.bipush 32, 2) := by decide +kernel
theorem dX9_layParts_456 : decode cX9_layParts 456 = .ok (.idiv, 1) := by decide +kernel
theorem dX9_layParts_457 : decode cX9_layParts 457 = .ok (.iconst 2, 1) := by decide +kernel
theorem dX9_layParts_458 : decode cX9_layParts 458 = .ok (.if_icmp .ne 36, 3) := by decide +kernel
theorem dX9_layParts_461 : decode cX9_layParts 461 = .ok (.aload_n 0, 1) := by decide +kernel
theorem dX9_layParts_462 : decode cX9_layParts 462 = .ok (.iload_n 2, 1) := by decide +kernel
theorem dX9_layParts_463 : decode cX9_layParts 463 = .ok (.bipush 10, 2) := by decide +kernel
theorem dX9_layParts_465 : decode cX9_layParts 465 = .ok (.idiv, 1) := by decide +kernel
theorem dX9_layParts_466 : decode cX9_layParts 466 = .ok (.i2l, 1) := by decide +kernel
theorem dX9_layParts_467 : decode cX9_layParts 467 = .ok (.invokevirtual 160, 3) := by decide +kernel
theorem dX9_layParts_470 : decode cX9_layParts 470 = .ok (.aload_n 0, 1) := by decide +kernel
theorem dX9_layParts_471 : decode cX9_layParts 471 = .ok (.aload_n 0, 1) := by decide +kernel
theorem dX9_layParts_472 : decode cX9_layParts 472 = .ok (.getfield 17, 3) := by decide +kernel
theorem dX9_layParts_475 : decode cX9_layParts 475 = .ok (.iload_n 2, 1) := by decide +kernel
theorem dX9_layParts_476 : decode cX9_layParts 476 = .ok (.iaload, 1) := by decide +kernel
theorem dX9_layParts_477 : decode cX9_layParts 477 = .ok (.bipush 32, 2) := by decide +kernel
theorem dX9_layParts_479 : decode cX9_layParts 479 = .ok (.irem, 1) := by decide +kernel
theorem dX9_layParts_480 : decode cX9_layParts 480 = .ok (.i2l, 1) := by decide +kernel
theorem dX9_layParts_481 : decode cX9_layParts 481 = .ok (.invokevirtual 160, 3) := by decide +kernel
theorem dX9_layParts_484 : decode cX9_layParts 484 = .ok (.aload_n 0, 1) := by decide +kernel
theorem dX9_layParts_485 : decode cX9_layParts 485 = .ok (.aload_n 0, 1) := by decide +kernel
theorem dX9_layParts_486 : decode cX9_layParts 486 = .ok (.getfield 20, 3) := by decide +kernel
theorem dX9_layParts_489 : decode cX9_layParts 489 = .ok (.iload_n 2, 1) := by decide +kernel
theorem dX9_layParts_490 : decode cX9_layParts 490 = .ok (.laload, 1) := by decide +kernel
theorem dX9_layParts_491 : decode cX9_layParts 491 = .ok (.invokevirtual 160, 3) := by decide +kernel
theorem dX9_layParts_494 : decode cX9_layParts 494 = .ok (.iinc 2 1, 3) := by decide +kernel
theorem dX9_layParts_497 : decode cX9_layParts 497 = .ok (.goto (-97), 3) := by decide +kernel
theorem dX9_layParts_500 : decode cX9_layParts 500 = .ok (.aload_n 0, 1) := by decide +kernel
theorem dX9_layParts_501 : decode cX9_layParts 501 = .ok (.getfield 84, 3) := by decide +kernel
theorem dX9_layParts_504 : decode cX9_layParts 504 = .ok (.iconst 4, 1) := by decide +kernel
theorem dX9_layParts_505 : decode cX9_layParts 505 = .ok (.aload_n 0, 1) := by decide +kernel
theorem dX9_layParts_506 : decode cX9_layParts 506 = .ok (.getfield 155, 3) := by decide +kernel
theorem dX9_layParts_509 : decode cX9_layParts 509 = .ok (.iastore, 1) := by decide +kernel
theorem dX9_layParts_510 : decode cX9_layParts 510 = .ok (.return_, 1) := by decide +kernel
theorem dX9_layRow_0 : decode cX9_layRow 0 = .ok (.lconst 0, 1) := by decide +kernel
theorem dX9_layRow_1 : decode cX9_layRow 1 = .ok (.lstore_n 2, 1) := by decide +kernel
theorem dX9_layRow_2 : decode cX9_layRow 2 = .ok (.aload_n 0, 1) := by decide +kernel
theorem dX9_layRow_3 : decode cX9_layRow 3 = .ok (.getfield 48, 3) := by decide +kernel
theorem dX9_layRow_6 : decode cX9_layRow 6 = .ok (.iload_n 1, 1) := by decide +kernel
theorem dX9_layRow_7 : decode cX9_layRow 7 = .ok (.iaload, 1) := by decide +kernel
theorem dX9_layRow_8 : decode cX9_layRow 8 = .ok (.bipush (-5), 2) := by decide +kernel
theorem dX9_layRow_10 : decode cX9_layRow 10 = .ok (.if_icmp .eq 23, 3) := by decide +kernel
theorem dX9_layRow_13 : decode cX9_layRow 13 = .ok (.aload_n 0, 1) := by decide +kernel
theorem dX9_layRow_14 : decode cX9_layRow 14 = .ok (.aload_n 0, 1) := by decide +kernel
theorem dX9_layRow_15 : decode cX9_layRow 15 = .ok (.getfield 48, 3) := by decide +kernel
theorem dX9_layRow_18 : decode cX9_layRow 18 = .ok (.iload_n 1, 1) := by decide +kernel
theorem dX9_layRow_19 : decode cX9_layRow 19 = .ok (.iaload, 1) := by decide +kernel
theorem dX9_layRow_20 : decode cX9_layRow 20 = .ok (.invokevirtual 175, 3) := by decide +kernel
theorem dX9_layRow_23 : decode cX9_layRow 23 = .ok (.aload_n 0, 1) := by decide +kernel
theorem dX9_layRow_24 : decode cX9_layRow 24 = .ok (.lconst 0, 1) := by decide +kernel
theorem dX9_layRow_25 : decode cX9_layRow 25 = .ok (.invokevirtual 160, 3) := by decide +kernel
theorem dX9_layRow_28 : decode cX9_layRow 28 = .ok (.aload_n 0, 1) := by decide +kernel
theorem dX9_layRow_29 : decode cX9_layRow 29 = .ok (.invokevirtual 178, 3) := by decide +kernel
theorem dX9_layRow_32 : decode cX9_layRow 32 = .ok (.lstore_n 2, 1) := by decide +kernel
theorem dX9_layRow_33 : decode cX9_layRow 33 = .ok (.aload_n 0, 1) := by decide +kernel
theorem dX9_layRow_34 : decode cX9_layRow 34 = .ok (.iload_n 1, 1) := by decide +kernel
theorem dX9_layRow_35 : decode cX9_layRow 35 = .ok (.invokevirtual 175, 3) := by decide +kernel
theorem dX9_layRow_38 : decode cX9_layRow 38 = .ok (.aload_n 0, 1) := by decide +kernel
theorem dX9_layRow_39 : decode cX9_layRow 39 = .ok (.aload_n 0, 1) := by decide +kernel
theorem dX9_layRow_40 : decode cX9_layRow 40 = .ok (.getfield 48, 3) := by decide +kernel
theorem dX9_layRow_43 : decode cX9_layRow 43 = .ok (.iload_n 1, 1) := by decide +kernel
theorem dX9_layRow_44 : decode cX9_layRow 44 = .ok (.iaload, 1) := by decide +kernel
theorem dX9_layRow_45 : decode cX9_layRow 45 = .ok (.bipush (-5), 2) := by decide +kernel
theorem dX9_layRow_47 : decode cX9_layRow 47 = .ok (.if_icmp .eq 7, 3) := by decide +kernel
theorem dX9_layRow_50 : decode cX9_layRow 50 = .ok (.lconst 1, 1) := by decide +kernel
theorem dX9_layRow_51 : decode cX9_layRow 51 = .ok (.goto 4, 3) := by decide +kernel
theorem dX9_layRow_54 : decode cX9_layRow 54 = .ok (.lconst 0, 1) := by decide +kernel
theorem dX9_layRow_55 : decode cX9_layRow 55 = .ok (.invokevirtual 160, 3) := by decide +kernel
theorem dX9_layRow_58 : decode cX9_layRow 58 = .ok (.aload_n 0, 1) := by decide +kernel
theorem dX9_layRow_59 : decode cX9_layRow 59 = .ok (.getfield 48, 3) := by decide +kernel
theorem dX9_layRow_62 : decode cX9_layRow 62 = .ok (.iload_n 1, 1) := by decide +kernel
theorem dX9_layRow_63 : decode cX9_layRow 63 = .ok (.iaload, 1) := by decide +kernel
theorem dX9_layRow_64 : decode cX9_layRow 64 = .ok (.bipush (-5), 2) := by decide +kernel
theorem dX9_layRow_66 : decode cX9_layRow 66 = .ok (.if_icmp .eq 8, 3) := by decide +kernel
theorem dX9_layRow_69 : decode cX9_layRow 69 = .ok (.aload_n 0, 1) := by decide +kernel
theorem dX9_layRow_70 : decode cX9_layRow 70 = .ok (.lload_n 2, 1) := by decide +kernel
theorem dX9_layRow_71 : decode cX9_layRow 71 = .ok (.invokevirtual 160, 3) := by decide +kernel
theorem dX9_layRow_74 : decode cX9_layRow 74 = .ok (.aload_n 0, 1) := by decide +kernel
theorem dX9_layRow_75 : decode cX9_layRow 75 = .ok (.getfield 84, 3) := by decide +kernel
theorem dX9_layRow_78 : decode cX9_layRow 78 = .ok (.iconst 5, 1) := by decide +kernel
theorem dX9_layRow_79 : decode cX9_layRow 79 = .ok (.aload_n 0, 1) := by decide +kernel
theorem dX9_layRow_80 : decode cX9_layRow 80 = .ok (.getfield 155, 3) := by decide +kernel
theorem dX9_layRow_83 : decode cX9_layRow 83 = .ok (.iastore, 1) := by decide +kernel
theorem dX9_layRow_84 : decode cX9_layRow 84 = .ok (.return_, 1) := by decide +kernel
theorem dX9_rowOf_0 : decode cX9_rowOf 0 = .ok (.aload_n 0, 1) := by decide +kernel
theorem dX9_rowOf_1 : decode cX9_rowOf 1 = .ok (.invokevirtual 146, 3) := by decide +kernel
theorem dX9_rowOf_4 : decode cX9_rowOf 4 = .ok (.aload_n 0, 1) := by decide +kernel
theorem dX9_rowOf_5 : decode cX9_rowOf 5 = .ok (.iload_n 1, 1) := by decide +kernel
theorem dX9_rowOf_6 : decode cX9_rowOf 6 = .ok (.invokevirtual 182, 3) := by decide +kernel
theorem dX9_rowOf_9 : decode cX9_rowOf 9 = .ok (.return_, 1) := by decide +kernel
theorem dX9_size_0 : decode cX9_size 0 = .ok (.aload_n 0, 1) := by decide +kernel
theorem dX9_size_1 : decode cX9_size 1 = .ok (.iconst 0, 1) := by decide +kernel
theorem dX9_size_2 : decode cX9_size 2 = .ok (.putfield 99, 3) := by decide +kernel
theorem dX9_size_5 : decode cX9_size 5 = .ok (.aload_n 0, 1) := by decide +kernel
theorem dX9_size_6 : decode cX9_size 6 = .ok (.iload_n 1, 1) := by decide +kernel
theorem dX9_size_7 : decode cX9_size 7 = .ok (.invokevirtual 110, 3) := by decide +kernel
theorem dX9_size_10 : decode cX9_size 10 = .ok (.ifCond .ne 5, 3) := by decide +kernel
theorem dX9_size_13 : decode cX9_size 13 = .ok (.iconst (-1), 1) := by decide +kernel
theorem dX9_size_14 : decode cX9_size 14 = .ok (.ireturn, 1) := by decide +kernel
theorem dX9_size_15 : decode cX9_size 15 = .ok (.aload_n 0, 1) := by decide +kernel
theorem dX9_size_16 : decode cX9_size 16 = .ok (.iload_n 1, 1) := by decide +kernel
theorem dX9_size_17 : decode cX9_size 17 = .ok (.invokevirtual 185, 3) := by decide +kernel
theorem dX9_size_20 : decode cX9_size 20 = .ok (.aload_n 0, 1) := by decide +kernel
theorem dX9_size_21 : decode cX9_size 21 = .ok (.getfield 155, 3) := by decide +kernel
theorem dX9_size_24 : decode cX9_size 24 = .ok (.ireturn, 1) := by decide +kernel
theorem dX9_row_0 : decode cX9_row 0 = .ok (.aload_n 0, 1) := by decide +kernel
theorem dX9_row_1 : decode cX9_row 1 = .ok (.iconst 0, 1) := by decide +kernel
theorem dX9_row_2 : decode cX9_row 2 = .ok (.putfield 99, 3) := by decide +kernel
theorem dX9_row_5 : decode cX9_row 5 = .ok (.aload_n 0, 1) := by decide +kernel
theorem dX9_row_6 : decode cX9_row 6 = .ok (.iload_n 1, 1) := by decide +kernel
theorem dX9_row_7 : decode cX9_row 7 = .ok (.invokevirtual 110, 3) := by decide +kernel
theorem dX9_row_10 : decode cX9_row 10 = .ok (.ifCond .ne 5, 3) := by decide +kernel
theorem dX9_row_13 : decode cX9_row 13 = .ok (.lconst 0, 1) := by decide +kernel
theorem dX9_row_14 : decode cX9_row 14 = .ok (.lreturn, 1) := by decide +kernel
theorem dX9_row_15 : decode cX9_row 15 = .ok (.aload_n 0, 1) := by decide +kernel
theorem dX9_row_16 : decode cX9_row 16 = .ok (.iload_n 1, 1) := by decide +kernel
theorem dX9_row_17 : decode cX9_row 17 = .ok (.invokevirtual 185, 3) := by decide +kernel
theorem dX9_row_20 : decode cX9_row 20 = .ok (.aload_n 0, 1) := by decide +kernel
theorem dX9_row_21 : decode cX9_row 21 = .ok (.iload_n 2, 1) := by decide +kernel
theorem dX9_row_22 : decode cX9_row 22 = .ok (.iconst 0, 1) := by decide +kernel
theorem dX9_row_23 : decode cX9_row 23 = .ok (.aload_n 0, 1) := by decide +kernel
theorem dX9_row_24 : decode cX9_row 24 = .ok (.getfield 155, 3) := by decide +kernel
theorem dX9_row_27 : decode cX9_row 27 = .ok (.iconst 1, 1) := by decide +kernel
theorem dX9_row_28 : decode cX9_row 28 = .ok (.isub, 1) := by decide +kernel
theorem dX9_row_29 : decode cX9_row 29 = .ok (.invokestatic 106, 3) := by decide +kernel
theorem dX9_row_32 : decode cX9_row 32 = .ok (.ifCond .eq 7, 3) := by decide +kernel
theorem dX9_row_35 : decode cX9_row 35 = .ok (.iconst 0, 1) := by decide +kernel
theorem dX9_row_36 : decode cX9_row 36 = .ok (.goto 4, 3) := by decide +kernel
theorem dX9_row_39 : decode cX9_row 39 = .ok (.iconst 1, 1) := by decide +kernel
theorem dX9_row_40 : decode cX9_row 40 = .ok (.putfield 99, 3) := by decide +kernel
theorem dX9_row_43 : decode cX9_row 43 = .ok (.aload_n 0, 1) := by decide +kernel
theorem dX9_row_44 : decode cX9_row 44 = .ok (.getfield 99, 3) := by decide +kernel
theorem dX9_row_47 : decode cX9_row 47 = .ok (.ifCond .ne 12, 3) := by decide +kernel
theorem dX9_row_50 : decode cX9_row 50 = .ok (.aload_n 0, 1) := by decide +kernel
theorem dX9_row_51 : decode cX9_row 51 = .ok (.getfield 81, 3) := by decide +kernel
theorem dX9_row_54 : decode cX9_row 54 = .ok (.iload_n 2, 1) := by decide +kernel
theorem dX9_row_55 : decode cX9_row 55 = .ok (.laload, 1) := by decide +kernel
theorem dX9_row_56 : decode cX9_row 56 = .ok (.goto 4, 3) := by decide +kernel
theorem dX9_row_59 : decode cX9_row 59 = .ok (.lconst 0, 1) := by decide +kernel
theorem dX9_row_60 : decode cX9_row 60 = .ok (.lreturn, 1) := by decide +kernel
theorem dX9_kept_0 : decode cX9_kept 0 = .ok (.aload_n 0, 1) := by decide +kernel
theorem dX9_kept_1 : decode cX9_kept 1 = .ok (.iconst 0, 1) := by decide +kernel
theorem dX9_kept_2 : decode cX9_kept 2 = .ok (.putfield 99, 3) := by decide +kernel
theorem dX9_kept_5 : decode cX9_kept 5 = .ok (.aload_n 0, 1) := by decide +kernel
theorem dX9_kept_6 : decode cX9_kept 6 = .ok (.iload_n 1, 1) := by decide +kernel
theorem dX9_kept_7 : decode cX9_kept 7 = .ok (.invokevirtual 110, 3) := by decide +kernel
theorem dX9_kept_10 : decode cX9_kept 10 = .ok (.ifCond .ne 5, 3) := by decide +kernel
theorem dX9_kept_13 : decode cX9_kept 13 = .ok (.lconst 0, 1) := by decide +kernel
theorem dX9_kept_14 : decode cX9_kept 14 = .ok (.lreturn, 1) := by decide +kernel
theorem dX9_kept_15 : decode cX9_kept 15 = .ok (.aload_n 0, 1) := by decide +kernel
theorem dX9_kept_16 : decode cX9_kept 16 = .ok (.aload_n 0, 1) := by decide +kernel
theorem dX9_kept_17 : decode cX9_kept 17 = .ok (.getfield 57, 3) := by decide +kernel
theorem dX9_kept_20 : decode cX9_kept 20 = .ok (.iload_n 1, 1) := by decide +kernel
theorem dX9_kept_21 : decode cX9_kept 21 = .ok (.iaload, 1) := by decide +kernel
theorem dX9_kept_22 : decode cX9_kept 22 = .ok (.ifCond .ne 7, 3) := by decide +kernel
theorem dX9_kept_25 : decode cX9_kept 25 = .ok (.iconst 1, 1) := by decide +kernel
theorem dX9_kept_26 : decode cX9_kept 26 = .ok (.goto 29, 3) := by decide +kernel
theorem dX9_kept_29 : decode cX9_kept 29 = .ok (.iload_n 2, 1) := by decide +kernel
theorem dX9_kept_30 : decode cX9_kept 30 = .ok (.iconst 0, 1) := by decide +kernel
theorem dX9_kept_31 : decode cX9_kept 31 = .ok (.aload_n 0, 1) := by decide +kernel
theorem dX9_kept_32 : decode cX9_kept 32 = .ok (.getfield 54, 3) := by decide +kernel
theorem dX9_kept_35 : decode cX9_kept 35 = .ok (.bipush 6, 2) := by decide +kernel
theorem dX9_kept_37 : decode cX9_kept 37 = .ok (.iload_n 1, 1) := by decide +kernel
theorem dX9_kept_38 : decode cX9_kept 38 = .ok (.imul, 1) := by decide +kernel
theorem dX9_kept_39 : decode cX9_kept 39 = .ok (.iconst 5, 1) := by decide +kernel
theorem dX9_kept_40 : decode cX9_kept 40 = .ok (.iadd, 1) := by decide +kernel
theorem dX9_kept_41 : decode cX9_kept 41 = .ok (.iaload, 1) := by decide +kernel
theorem dX9_kept_42 : decode cX9_kept 42 = .ok (.iconst 1, 1) := by decide +kernel
theorem dX9_kept_43 : decode cX9_kept 43 = .ok (.isub, 1) := by decide +kernel
theorem dX9_kept_44 : decode cX9_kept 44 = .ok (.invokestatic 106, 3) := by decide +kernel
theorem dX9_kept_47 : decode cX9_kept 47 = .ok (.ifCond .eq 7, 3) := by decide +kernel
theorem dX9_kept_50 : decode cX9_kept 50 = .ok (.iconst 0, 1) := by decide +kernel
theorem dX9_kept_51 : decode cX9_kept 51 = .ok (.goto 4, 3) := by decide +kernel
theorem dX9_kept_54 : decode cX9_kept 54 = .ok (.iconst 2, 1) := by decide +kernel
theorem dX9_kept_55 : decode cX9_kept 55 = .ok (.putfield 99, 3) := by decide +kernel
theorem dX9_kept_58 : decode cX9_kept 58 = .ok (.aload_n 0, 1) := by decide +kernel
theorem dX9_kept_59 : decode cX9_kept 59 = .ok (.getfield 99, 3) := by decide +kernel
theorem dX9_kept_62 : decode cX9_kept 62 = .ok (.ifCond .ne 18, 3) := by decide +kernel
theorem dX9_kept_65 : decode cX9_kept 65 = .ok (.aload_n 0, 1) := by decide +kernel
theorem dX9_kept_66 : decode cX9_kept 66 = .ok (.getfield 51, 3) := by decide +kernel
theorem dX9_kept_69 : decode cX9_kept 69 = .ok (.sipush 700, 3) := by decide +kernel
theorem dX9_kept_72 : decode cX9_kept 72 = .ok (.iload_n 1, 1) := by decide +kernel
theorem dX9_kept_73 : decode cX9_kept 73 = .ok (.imul, 1) := by decide +kernel
theorem dX9_kept_74 : decode cX9_kept 74 = .ok (.iload_n 2, 1) := by decide +kernel
theorem dX9_kept_75 : decode cX9_kept 75 = .ok (.iadd, 1) := by decide +kernel
theorem dX9_kept_76 : decode cX9_kept 76 = .ok (.laload, 1) := by decide +kernel
theorem dX9_kept_77 : decode cX9_kept 77 = .ok (.goto 4, 3) := by decide +kernel
theorem dX9_kept_80 : decode cX9_kept 80 = .ok (.lconst 0, 1) := by decide +kernel
theorem dX9_kept_81 : decode cX9_kept 81 = .ok (.lreturn, 1) := by decide +kernel
theorem dX9_isAs_0 : decode cX9_isAs 0 = .ok (.iconst 1, 1) := by decide +kernel
theorem dX9_isAs_1 : decode cX9_isAs 1 = .ok (.istore 4, 2) := by decide +kernel
theorem dX9_isAs_3 : decode cX9_isAs 3 = .ok (.iload_n 2, 1) := by decide +kernel
theorem dX9_isAs_4 : decode cX9_isAs 4 = .ok (.istore 5, 2) := by decide +kernel
theorem dX9_isAs_6 : decode cX9_isAs 6 = .ok (.iload 5, 2) := by decide +kernel
theorem dX9_isAs_8 : decode cX9_isAs 8 = .ok (.iload_n 3, 1) := by decide +kernel
theorem dX9_isAs_9 : decode cX9_isAs 9 = .ok (.if_icmp .ge 45, 3) := by decide +kernel
theorem dX9_isAs_12 : decode cX9_isAs 12 = .ok (.iload 4, 2) := by decide +kernel
theorem dX9_isAs_14 : decode cX9_isAs 14 = .ok (.ifCond .eq 31, 3) := by decide +kernel
theorem dX9_isAs_17 : decode cX9_isAs 17 = .ok (.aload_n 0, 1) := by decide +kernel
theorem dX9_isAs_18 : decode cX9_isAs 18 = .ok (.getfield 81, 3) := by decide +kernel
theorem dX9_isAs_21 : decode cX9_isAs 21 = .ok (.iload 5, 2) := by decide +kernel
theorem dX9_isAs_23 : decode cX9_isAs 23 = .ok (.laload, 1) := by decide +kernel
theorem dX9_isAs_24 : decode cX9_isAs 24 = .ok (.aload_n 0, 1) := by decide +kernel
theorem dX9_isAs_25 : decode cX9_isAs 25 = .ok (.getfield 51, 3) := by decide +kernel
theorem dX9_isAs_28 : decode cX9_isAs 28 = .ok (.sipush 700, 3) := by decide +kernel
theorem dX9_isAs_31 : decode cX9_isAs 31 = .ok (.iload_n 1, 1) := by decide +kernel
theorem dX9_isAs_32 : decode cX9_isAs 32 = .ok (.imul, 1) := by decide +kernel
theorem dX9_isAs_33 : decode cX9_isAs 33 = .ok (.iload 5, 2) := by decide +kernel
theorem dX9_isAs_35 : decode cX9_isAs 35 = .ok (.iadd, 1) := by decide +kernel
theorem dX9_isAs_36 : decode cX9_isAs 36 = .ok (.laload, 1) := by decide +kernel
theorem dX9_isAs_37 : decode cX9_isAs 37 = .ok (.lcmp, 1) := by decide +kernel
theorem dX9_isAs_38 : decode cX9_isAs 38 = .ok (.ifCond .ne 7, 3) := by decide +kernel
theorem dX9_isAs_41 : decode cX9_isAs 41 = .ok (.iconst 1, 1) := by decide +kernel
theorem dX9_isAs_42 : decode cX9_isAs 42 = .ok (.goto 4, 3) := by decide +kernel
theorem dX9_isAs_45 : decode cX9_isAs 45 = .ok (.iconst 0, 1) := by decide +kernel
theorem dX9_isAs_46 : decode cX9_isAs 46 = .ok (.istore 4, 2) := by decide +kernel
theorem dX9_isAs_48 : decode cX9_isAs 48 = .ok (.iinc 5 1, 3) := by decide +kernel
theorem dX9_isAs_51 : decode cX9_isAs 51 = .ok (.goto (-45), 3) := by decide +kernel
theorem dX9_isAs_54 : decode cX9_isAs 54 = .ok (.iload 4, 2) := by decide +kernel
theorem dX9_isAs_56 : decode cX9_isAs 56 = .ok (.ireturn, 1) := by decide +kernel
theorem dX9_whyOf_0 : decode cX9_whyOf 0 = .ok (.aload_n 0, 1) := by decide +kernel
theorem dX9_whyOf_1 : decode cX9_whyOf 1 = .ok (.getfield 57, 3) := by decide +kernel
theorem dX9_whyOf_4 : decode cX9_whyOf 4 = .ok (.iload_n 1, 1) := by decide +kernel
theorem dX9_whyOf_5 : decode cX9_whyOf 5 = .ok (.iaload, 1) := by decide +kernel
theorem dX9_whyOf_6 : decode cX9_whyOf 6 = .ok (.ifCond .ne 5, 3) := by decide +kernel
theorem dX9_whyOf_9 : decode cX9_whyOf 9 = .ok (.iconst 1, 1) := by decide +kernel
theorem dX9_whyOf_10 : decode cX9_whyOf 10 = .ok (.ireturn, 1) := by decide +kernel
theorem dX9_whyOf_11 : decode cX9_whyOf 11 = .ok (.iconst 0, 1) := by decide +kernel
theorem dX9_whyOf_12 : decode cX9_whyOf 12 = .ok (.istore_n 2, 1) := by decide +kernel
theorem dX9_whyOf_13 : decode cX9_whyOf 13 = .ok (.iload_n 2, 1) := by decide +kernel
theorem dX9_whyOf_14 : decode cX9_whyOf 14 = .ok (.iconst 4, 1) := by decide +kernel
theorem dX9_whyOf_15 : decode cX9_whyOf 15 = .ok (.if_icmp .ge 31, 3) := by decide +kernel
theorem dX9_whyOf_18 : decode cX9_whyOf 18 = .ok (.aload_n 0, 1) := by decide +kernel
theorem dX9_whyOf_19 : decode cX9_whyOf 19 = .ok (.getfield 84, 3) := by decide +kernel
theorem dX9_whyOf_22 : decode cX9_whyOf 22 = .ok (.iload_n 2, 1) := by decide +kernel
theorem dX9_whyOf_23 : decode cX9_whyOf 23 = .ok (.iaload, 1) := by decide +kernel
theorem dX9_whyOf_24 : decode cX9_whyOf 24 = .ok (.aload_n 0, 1) := by decide +kernel
theorem dX9_whyOf_25 : decode cX9_whyOf 25 = .ok (.getfield 54, 3) := by decide +kernel
theorem dX9_whyOf_28 : decode cX9_whyOf 28 = .ok (.bipush 6, 2) := by decide +kernel
theorem dX9_whyOf_30 : decode cX9_whyOf 30 = .ok (.iload_n 1, 1) := by decide +kernel
theorem dX9_whyOf_31 : decode cX9_whyOf 31 = .ok (.imul, 1) := by decide +kernel
theorem dX9_whyOf_32 : decode cX9_whyOf 32 = .ok (.iload_n 2, 1) := by decide +kernel
theorem dX9_whyOf_33 : decode cX9_whyOf 33 = .ok (.iadd, 1) := by decide +kernel
theorem dX9_whyOf_34 : decode cX9_whyOf 34 = .ok (.iaload, 1) := by decide +kernel
theorem dX9_whyOf_35 : decode cX9_whyOf 35 = .ok (.if_icmp .eq 5, 3) := by decide +kernel
theorem dX9_whyOf_38 : decode cX9_whyOf 38 = .ok (.iconst 2, 1) := by decide +kernel
theorem dX9_whyOf_39 : decode cX9_whyOf 39 = .ok (.ireturn, 1) := by decide +kernel
theorem dX9_whyOf_40 : decode cX9_whyOf 40 = .ok (.iinc 2 1, 3) := by decide +kernel
theorem dX9_whyOf_43 : decode cX9_whyOf 43 = .ok (.goto (-30), 3) := by decide +kernel
theorem dX9_whyOf_46 : decode cX9_whyOf 46 = .ok (.aload_n 0, 1) := by decide +kernel
theorem dX9_whyOf_47 : decode cX9_whyOf 47 = .ok (.iload_n 1, 1) := by decide +kernel
theorem dX9_whyOf_48 : decode cX9_whyOf 48 = .ok (.iconst 0, 1) := by decide +kernel
theorem dX9_whyOf_49 : decode cX9_whyOf 49 = .ok (.aload_n 0, 1) := by decide +kernel
theorem dX9_whyOf_50 : decode cX9_whyOf 50 = .ok (.getfield 84, 3) := by decide +kernel
theorem dX9_whyOf_53 : decode cX9_whyOf 53 = .ok (.iconst 1, 1) := by decide +kernel
theorem dX9_whyOf_54 : decode cX9_whyOf 54 = .ok (.iaload, 1) := by decide +kernel
theorem dX9_whyOf_55 : decode cX9_whyOf 55 = .ok (.iconst 1, 1) := by decide +kernel
theorem dX9_whyOf_56 : decode cX9_whyOf 56 = .ok (.iadd, 1) := by decide +kernel
theorem dX9_whyOf_57 : decode cX9_whyOf 57 = .ok (.invokevirtual 188, 3) := by decide +kernel
theorem dX9_whyOf_60 : decode cX9_whyOf 60 = .ok (.istore_n 2, 1) := by decide +kernel
theorem dX9_whyOf_61 : decode cX9_whyOf 61 = .ok (.aload_n 0, 1) := by decide +kernel
theorem dX9_whyOf_62 : decode cX9_whyOf 62 = .ok (.getfield 84, 3) := by decide +kernel
theorem dX9_whyOf_65 : decode cX9_whyOf 65 = .ok (.iconst 1, 1) := by decide +kernel
theorem dX9_whyOf_66 : decode cX9_whyOf 66 = .ok (.iaload, 1) := by decide +kernel
theorem dX9_whyOf_67 : decode cX9_whyOf 67 = .ok (.iconst 1, 1) := by decide +kernel
theorem dX9_whyOf_68 : decode cX9_whyOf 68 = .ok (.iadd, 1) := by decide +kernel
theorem dX9_whyOf_69 : decode cX9_whyOf 69 = .ok (.istore_n 3, 1) := by decide +kernel
theorem dX9_whyOf_70 : decode cX9_whyOf 70 = .ok (.iload_n 3, 1) := by decide +kernel
theorem dX9_whyOf_71 : decode cX9_whyOf 71 = .ok (.aload_n 0, 1) := by decide +kernel
theorem dX9_whyOf_72 : decode cX9_whyOf 72 = .ok (.getfield 84, 3) := by decide +kernel
theorem dX9_whyOf_75 : decode cX9_whyOf 75 = .ok (.iconst 2, 1) := by decide +kernel
theorem dX9_whyOf_76 : decode cX9_whyOf 76 = .ok (.iaload, 1) := by decide +kernel
theorem dX9_whyOf_77 : decode cX9_whyOf 77 = .ok (.if_icmp .ge 31, 3) := by decide +kernel
theorem dX9_whyOf_80 : decode cX9_whyOf 80 = .ok (.iload_n 2, 1) := by decide +kernel
theorem dX9_whyOf_81 : decode cX9_whyOf 81 = .ok (.ifCond .eq 19, 3) := by decide +kernel
theorem dX9_whyOf_84 : decode cX9_whyOf 84 = .ok (.aload_n 0, 1) := by decide +kernel
theorem dX9_whyOf_85 : decode cX9_whyOf 85 = .ok (.iload_n 1, 1) := by decide +kernel
theorem dX9_whyOf_86 : decode cX9_whyOf 86 = .ok (.iload_n 3, 1) := by decide +kernel
theorem dX9_whyOf_87 : decode cX9_whyOf 87 = .ok (.iload_n 3, 1) := by decide +kernel
theorem dX9_whyOf_88 : decode cX9_whyOf 88 = .ok (.iconst 2, 1) := by decide +kernel
theorem dX9_whyOf_89 : decode cX9_whyOf 89 = .ok (.iadd, 1) := by decide +kernel
theorem dX9_whyOf_90 : decode cX9_whyOf 90 = .ok (.invokevirtual 188, 3) := by decide +kernel
theorem dX9_whyOf_93 : decode cX9_whyOf 93 = .ok (.ifCond .eq 7, 3) := by decide +kernel
theorem dX9_whyOf_96 : decode cX9_whyOf 96 = .ok (.iconst 1, 1) := by decide +kernel
theorem dX9_whyOf_97 : decode cX9_whyOf 97 = .ok (.goto 4, 3) := by decide +kernel
theorem dX9_whyOf_100 : decode cX9_whyOf 100 = .ok (.iconst 0, 1) := by decide +kernel
theorem dX9_whyOf_101 : decode cX9_whyOf 101 = .ok (.istore_n 2, 1) := by decide +kernel
theorem dX9_whyOf_102 : decode cX9_whyOf 102 = .ok (.iinc 3 4, 3) := by decide +kernel
theorem dX9_whyOf_105 : decode cX9_whyOf 105 = .ok (.goto (-35), 3) := by decide +kernel
theorem dX9_whyOf_108 : decode cX9_whyOf 108 = .ok (.iload_n 2, 1) := by decide +kernel
theorem dX9_whyOf_109 : decode cX9_whyOf 109 = .ok (.ifCond .ne 5, 3) := by decide +kernel
theorem dX9_whyOf_112 : decode cX9_whyOf 112 = .ok (.iconst 2, 1) := by decide +kernel
theorem dX9_whyOf_113 : decode cX9_whyOf 113 = .ok (.ireturn, 1) := by decide +kernel
theorem dX9_whyOf_114 : decode cX9_whyOf 114 = .ok (.aload_n 0, 1) := by decide +kernel
theorem dX9_whyOf_115 : decode cX9_whyOf 115 = .ok (.iload_n 1, 1) := by decide +kernel
theorem dX9_whyOf_116 : decode cX9_whyOf 116 = .ok (.aload_n 0, 1) := by decide +kernel
theorem dX9_whyOf_117 : decode cX9_whyOf 117 = .ok (.getfield 84, 3) := by decide +kernel
theorem dX9_whyOf_120 : decode cX9_whyOf 120 = .ok (.iconst 1, 1) := by decide +kernel
theorem dX9_whyOf_121 : decode cX9_whyOf 121 = .ok (.iaload, 1) := by decide +kernel
theorem dX9_whyOf_122 : decode cX9_whyOf 122 = .ok (.aload_n 0, 1) := by decide +kernel
theorem dX9_whyOf_123 : decode cX9_whyOf 123 = .ok (.getfield 84, 3) := by decide +kernel
theorem dX9_whyOf_126 : decode cX9_whyOf 126 = .ok (.iconst 3, 1) := by decide +kernel
theorem dX9_whyOf_127 : decode cX9_whyOf 127 = .ok (.iaload, 1) := by decide +kernel
theorem dX9_whyOf_128 : decode cX9_whyOf 128 = .ok (.invokevirtual 188, 3) := by decide +kernel
theorem dX9_whyOf_131 : decode cX9_whyOf 131 = .ok (.ifCond .ne 5, 3) := by decide +kernel
theorem dX9_whyOf_134 : decode cX9_whyOf 134 = .ok (.iconst 3, 1) := by decide +kernel
theorem dX9_whyOf_135 : decode cX9_whyOf 135 = .ok (.ireturn, 1) := by decide +kernel
theorem dX9_whyOf_136 : decode cX9_whyOf 136 = .ok (.aload_n 0, 1) := by decide +kernel
theorem dX9_whyOf_137 : decode cX9_whyOf 137 = .ok (.getfield 84, 3) := by decide +kernel
theorem dX9_whyOf_140 : decode cX9_whyOf 140 = .ok (.iconst 4, 1) := by decide +kernel
theorem dX9_whyOf_141 : decode cX9_whyOf 141 = .ok (.iaload, 1) := by decide +kernel
theorem dX9_whyOf_142 : decode cX9_whyOf 142 = .ok (.aload_n 0, 1) := by decide +kernel
theorem dX9_whyOf_143 : decode cX9_whyOf 143 = .ok (.getfield 54, 3) := by decide +kernel
theorem dX9_whyOf_146 : decode cX9_whyOf 146 = .ok (.bipush 6, 2) := by decide +kernel
theorem dX9_whyOf_148 : decode cX9_whyOf 148 = .ok (.iload_n 1, 1) := by decide +kernel
theorem dX9_whyOf_149 : decode cX9_whyOf 149 = .ok (.imul, 1) := by decide +kernel
theorem dX9_whyOf_150 : decode cX9_whyOf 150 = .ok (.iconst 4, 1) := by decide +kernel
theorem dX9_whyOf_151 : decode cX9_whyOf 151 = .ok (.iadd, 1) := by decide +kernel
theorem dX9_whyOf_152 : decode cX9_whyOf 152 = .ok (.iaload, 1) := by decide +kernel
theorem dX9_whyOf_153 : decode cX9_whyOf 153 = .ok (.if_icmp .ne 23, 3) := by decide +kernel
theorem dX9_whyOf_156 : decode cX9_whyOf 156 = .ok (.aload_n 0, 1) := by decide +kernel
theorem dX9_whyOf_157 : decode cX9_whyOf 157 = .ok (.iload_n 1, 1) := by decide +kernel
theorem dX9_whyOf_158 : decode cX9_whyOf 158 = .ok (.aload_n 0, 1) := by decide +kernel
theorem dX9_whyOf_159 : decode cX9_whyOf 159 = .ok (.getfield 84, 3) := by decide +kernel
theorem dX9_whyOf_162 : decode cX9_whyOf 162 = .ok (.iconst 3, 1) := by decide +kernel
theorem dX9_whyOf_163 : decode cX9_whyOf 163 = .ok (.iaload, 1) := by decide +kernel
theorem dX9_whyOf_164 : decode cX9_whyOf 164 = .ok (.aload_n 0, 1) := by decide +kernel
theorem dX9_whyOf_165 : decode cX9_whyOf 165 = .ok (.getfield 84, 3) := by decide +kernel
theorem dX9_whyOf_168 : decode cX9_whyOf 168 = .ok (.iconst 4, 1) := by decide +kernel
theorem dX9_whyOf_169 : decode cX9_whyOf 169 = .ok (.iaload, 1) := by decide +kernel
theorem dX9_whyOf_170 : decode cX9_whyOf 170 = .ok (.invokevirtual 188, 3) := by decide +kernel
theorem dX9_whyOf_173 : decode cX9_whyOf 173 = .ok (.ifCond .ne 5, 3) := by decide +kernel
theorem dX9_whyOf_176 : decode cX9_whyOf 176 = .ok (.iconst 4, 1) := by decide +kernel
theorem dX9_whyOf_177 : decode cX9_whyOf 177 = .ok (.ireturn, 1) := by decide +kernel
theorem dX9_whyOf_178 : decode cX9_whyOf 178 = .ok (.aload_n 0, 1) := by decide +kernel
theorem dX9_whyOf_179 : decode cX9_whyOf 179 = .ok (.getfield 84, 3) := by decide +kernel
theorem dX9_whyOf_182 : decode cX9_whyOf 182 = .ok (.iconst 5, 1) := by decide +kernel
theorem dX9_whyOf_183 : decode cX9_whyOf 183 = .ok (.iaload, 1) := by decide +kernel
theorem dX9_whyOf_184 : decode cX9_whyOf 184 = .ok (.aload_n 0, 1) := by decide +kernel
theorem dX9_whyOf_185 : decode cX9_whyOf 185 = .ok (.getfield 54, 3) := by decide +kernel
theorem dX9_whyOf_188 : decode cX9_whyOf 188 = .ok (.bipush 6, 2) := by decide +kernel
theorem dX9_whyOf_190 : decode cX9_whyOf 190 = .ok (.iload_n 1, 1) := by decide +kernel
theorem dX9_whyOf_191 : decode cX9_whyOf 191 = .ok (.imul, 1) := by decide +kernel
theorem dX9_whyOf_192 : decode cX9_whyOf 192 = .ok (.iconst 5, 1) := by decide +kernel
theorem dX9_whyOf_193 : decode cX9_whyOf 193 = .ok (.iadd, 1) := by decide +kernel
theorem dX9_whyOf_194 : decode cX9_whyOf 194 = .ok (.iaload, 1) := by decide +kernel
theorem dX9_whyOf_195 : decode cX9_whyOf 195 = .ok (.if_icmp .ne 23, 3) := by decide +kernel
theorem dX9_whyOf_198 : decode cX9_whyOf 198 = .ok (.aload_n 0, 1) := by decide +kernel
theorem dX9_whyOf_199 : decode cX9_whyOf 199 = .ok (.iload_n 1, 1) := by decide +kernel
theorem dX9_whyOf_200 : decode cX9_whyOf 200 = .ok (.aload_n 0, 1) := by decide +kernel
theorem dX9_whyOf_201 : decode cX9_whyOf 201 = .ok (.getfield 84, 3) := by decide +kernel
theorem dX9_whyOf_204 : decode cX9_whyOf 204 = .ok (.iconst 4, 1) := by decide +kernel
theorem dX9_whyOf_205 : decode cX9_whyOf 205 = .ok (.iaload, 1) := by decide +kernel
theorem dX9_whyOf_206 : decode cX9_whyOf 206 = .ok (.aload_n 0, 1) := by decide +kernel
theorem dX9_whyOf_207 : decode cX9_whyOf 207 = .ok (.getfield 84, 3) := by decide +kernel
theorem dX9_whyOf_210 : decode cX9_whyOf 210 = .ok (.iconst 5, 1) := by decide +kernel
theorem dX9_whyOf_211 : decode cX9_whyOf 211 = .ok (.iaload, 1) := by decide +kernel
theorem dX9_whyOf_212 : decode cX9_whyOf 212 = .ok (.invokevirtual 188, 3) := by decide +kernel
theorem dX9_whyOf_215 : decode cX9_whyOf 215 = .ok (.ifCond .ne 7, 3) := by decide +kernel
theorem dX9_whyOf_218 : decode cX9_whyOf 218 = .ok (.iconst 5, 1) := by decide +kernel
theorem dX9_whyOf_219 : decode cX9_whyOf 219 = .ok (.goto 4, 3) := by decide +kernel
theorem dX9_whyOf_222 : decode cX9_whyOf 222 = .ok (.iconst 0, 1) := by decide +kernel
theorem dX9_whyOf_223 : decode cX9_whyOf 223 = .ok (.ireturn, 1) := by decide +kernel
theorem dX9_why_0 : decode cX9_why 0 = .ok (.aload_n 0, 1) := by decide +kernel
theorem dX9_why_1 : decode cX9_why 1 = .ok (.iconst 0, 1) := by decide +kernel
theorem dX9_why_2 : decode cX9_why 2 = .ok (.putfield 99, 3) := by decide +kernel
theorem dX9_why_5 : decode cX9_why 5 = .ok (.aload_n 0, 1) := by decide +kernel
theorem dX9_why_6 : decode cX9_why 6 = .ok (.iload_n 1, 1) := by decide +kernel
theorem dX9_why_7 : decode cX9_why 7 = .ok (.invokevirtual 110, 3) := by decide +kernel
theorem dX9_why_10 : decode cX9_why 10 = .ok (.ifCond .ne 5, 3) := by decide +kernel
theorem dX9_why_13 : decode cX9_why 13 = .ok (.iconst (-1), 1) := by decide +kernel
theorem dX9_why_14 : decode cX9_why 14 = .ok (.ireturn, 1) := by decide +kernel
theorem dX9_why_15 : decode cX9_why 15 = .ok (.aload_n 0, 1) := by decide +kernel
theorem dX9_why_16 : decode cX9_why 16 = .ok (.iload_n 1, 1) := by decide +kernel
theorem dX9_why_17 : decode cX9_why 17 = .ok (.invokevirtual 185, 3) := by decide +kernel
theorem dX9_why_20 : decode cX9_why 20 = .ok (.aload_n 0, 1) := by decide +kernel
theorem dX9_why_21 : decode cX9_why 21 = .ok (.iload_n 1, 1) := by decide +kernel
theorem dX9_why_22 : decode cX9_why 22 = .ok (.invokevirtual 191, 3) := by decide +kernel
theorem dX9_why_25 : decode cX9_why 25 = .ok (.ireturn, 1) := by decide +kernel
theorem dX9_needs_0 : decode cX9_needs 0 = .ok (.aload_n 0, 1) := by decide +kernel
theorem dX9_needs_1 : decode cX9_needs 1 = .ok (.iconst 0, 1) := by decide +kernel
theorem dX9_needs_2 : decode cX9_needs 2 = .ok (.putfield 99, 3) := by decide +kernel
theorem dX9_needs_5 : decode cX9_needs 5 = .ok (.aload_n 0, 1) := by decide +kernel
theorem dX9_needs_6 : decode cX9_needs 6 = .ok (.invokevirtual 146, 3) := by decide +kernel
theorem dX9_needs_9 : decode cX9_needs 9 = .ok (.iconst 0, 1) := by decide +kernel
theorem dX9_needs_10 : decode cX9_needs 10 = .ok (.istore_n 1, 1) := by decide +kernel
theorem dX9_needs_11 : decode cX9_needs 11 = .ok (.iconst 0, 1) := by decide +kernel
theorem dX9_needs_12 : decode cX9_needs 12 = .ok (.istore_n 2, 1) := by decide +kernel
theorem dX9_needs_13 : decode cX9_needs 13 = .ok (.iload_n 2, 1) := by decide +kernel
theorem dX9_needs_14 : decode cX9_needs 14 = .ok (.aload_n 0, 1) := by decide +kernel
theorem dX9_needs_15 : decode cX9_needs 15 = .ok (.getfield 103, 3) := by decide +kernel
theorem dX9_needs_18 : decode cX9_needs 18 = .ok (.if_icmp .ge 39, 3) := by decide +kernel
theorem dX9_needs_21 : decode cX9_needs 21 = .ok (.aload_n 0, 1) := by decide +kernel
theorem dX9_needs_22 : decode cX9_needs 22 = .ok (.getfield 7, 3) := by decide +kernel
theorem dX9_needs_25 : decode cX9_needs 25 = .ok (.iload_n 2, 1) := by decide +kernel
theorem dX9_needs_26 : decode cX9_needs 26 = .ok (.baload, 1) := by decide +kernel
theorem dX9_needs_27 : decode cX9_needs 27 = .ok (.ifCond .eq 24, 3) := by decide +kernel
theorem dX9_needs_30 : decode cX9_needs 30 = .ok (.aload_n 0, 1) := by decide +kernel
theorem dX9_needs_31 : decode cX9_needs 31 = .ok (.iload_n 2, 1) := by decide +kernel
theorem dX9_needs_32 : decode cX9_needs 32 = .ok (.invokevirtual 182, 3) := by decide +kernel
theorem dX9_needs_35 : decode cX9_needs 35 = .ok (.iload_n 1, 1) := by decide +kernel
theorem dX9_needs_36 : decode cX9_needs 36 = .ok (.aload_n 0, 1) := by decide +kernel
theorem dX9_needs_37 : decode cX9_needs 37 = .ok (.iload_n 2, 1) := by decide +kernel
theorem dX9_needs_38 : decode cX9_needs 38 = .ok (.invokevirtual 191, 3) := by decide +kernel
theorem dX9_needs_41 : decode cX9_needs 41 = .ok (.ifCond .le 7, 3) := by decide +kernel
theorem dX9_needs_44 : decode cX9_needs 44 = .ok (.iconst 1, 1) := by decide +kernel
theorem dX9_needs_45 : decode cX9_needs 45 = .ok (.goto 4, 3) := by decide +kernel
theorem dX9_needs_48 : decode cX9_needs 48 = .ok (.iconst 0, 1) := by decide +kernel
theorem dX9_needs_49 : decode cX9_needs 49 = .ok (.iadd, 1) := by decide +kernel
theorem dX9_needs_50 : decode cX9_needs 50 = .ok (.istore_n 1, 1) := by decide +kernel
theorem dX9_needs_51 : decode cX9_needs 51 = .ok (.iinc 2 1, 3) := by decide +kernel
theorem dX9_needs_54 : decode cX9_needs 54 = .ok (.goto (-41), 3) := by decide +kernel
theorem dX9_needs_57 : decode cX9_needs 57 = .ok (.iload_n 1, 1) := by decide +kernel
theorem dX9_needs_58 : decode cX9_needs 58 = .ok (.ireturn, 1) := by decide +kernel
theorem dX9_keep_0 : decode cX9_keep 0 = .ok (.iconst 0, 1) := by decide +kernel
theorem dX9_keep_1 : decode cX9_keep 1 = .ok (.istore_n 2, 1) := by decide +kernel
theorem dX9_keep_2 : decode cX9_keep 2 = .ok (.iload_n 2, 1) := by decide +kernel
theorem dX9_keep_3 : decode cX9_keep 3 = .ok (.aload_n 0, 1) := by decide +kernel
theorem dX9_keep_4 : decode cX9_keep 4 = .ok (.getfield 155, 3) := by decide +kernel
theorem dX9_keep_7 : decode cX9_keep 7 = .ok (.if_icmp .ge 27, 3) := by decide +kernel
theorem dX9_keep_10 : decode cX9_keep 10 = .ok (.aload_n 0, 1) := by decide +kernel
theorem dX9_keep_11 : decode cX9_keep 11 = .ok (.getfield 51, 3) := by decide +kernel
theorem dX9_keep_14 : decode cX9_keep 14 = .ok (.sipush 700, 3) := by decide +kernel
theorem dX9_keep_17 : decode cX9_keep 17 = .ok (.iload_n 1, 1) := by decide +kernel
theorem dX9_keep_18 : decode cX9_keep 18 = .ok (.imul, 1) := by decide +kernel
theorem dX9_keep_19 : decode cX9_keep 19 = .ok (.iload_n 2, 1) := by decide +kernel
theorem dX9_keep_20 : decode cX9_keep 20 = .ok (.iadd, 1) := by decide +kernel
theorem dX9_keep_21 : decode cX9_keep 21 = .ok (.aload_n 0, 1) := by decide +kernel
theorem dX9_keep_22 : decode cX9_keep 22 = .ok (.getfield 81, 3) := by decide +kernel
theorem dX9_keep_25 : decode cX9_keep 25 = .ok (.iload_n 2, 1) := by decide +kernel
theorem dX9_keep_26 : decode cX9_keep 26 = .ok (.laload, 1) := by decide +kernel
theorem dX9_keep_27 : decode cX9_keep 27 = .ok (.lastore, 1) := by decide +kernel
theorem dX9_keep_28 : decode cX9_keep 28 = .ok (.iinc 2 1, 3) := by decide +kernel
theorem dX9_keep_31 : decode cX9_keep 31 = .ok (.goto (-29), 3) := by decide +kernel
theorem dX9_keep_34 : decode cX9_keep 34 = .ok (.iconst 0, 1) := by decide +kernel
theorem dX9_keep_35 : decode cX9_keep 35 = .ok (.istore_n 2, 1) := by decide +kernel
theorem dX9_keep_36 : decode cX9_keep 36 = .ok (.iload_n 2, 1) := by decide +kernel
theorem dX9_keep_37 : decode cX9_keep 37 = .ok (.bipush 6, 2) := by decide +kernel
theorem dX9_keep_39 : decode cX9_keep 39 = .ok (.if_icmp .ge 26, 3) := by decide +kernel
theorem dX9_keep_42 : decode cX9_keep 42 = .ok (.aload_n 0, 1) := by decide +kernel
theorem dX9_keep_43 : decode cX9_keep 43 = .ok (.getfield 54, 3) := by decide +kernel
theorem dX9_keep_46 : decode cX9_keep 46 = .ok (.bipush 6, 2) := by decide +kernel
theorem dX9_keep_48 : decode cX9_keep 48 = .ok (.iload_n 1, 1) := by decide +kernel
theorem dX9_keep_49 : decode cX9_keep 49 = .ok (.imul, 1) := by decide +kernel
theorem dX9_keep_50 : decode cX9_keep 50 = .ok (.iload_n 2, 1) := by decide +kernel
theorem dX9_keep_51 : decode cX9_keep 51 = .ok (.iadd, 1) := by decide +kernel
theorem dX9_keep_52 : decode cX9_keep 52 = .ok (.aload_n 0, 1) := by decide +kernel
theorem dX9_keep_53 : decode cX9_keep 53 = .ok (.getfield 84, 3) := by decide +kernel
theorem dX9_keep_56 : decode cX9_keep 56 = .ok (.iload_n 2, 1) := by decide +kernel
theorem dX9_keep_57 : decode cX9_keep 57 = .ok (.iaload, 1) := by decide +kernel
theorem dX9_keep_58 : decode cX9_keep 58 = .ok (.iastore, 1) := by decide +kernel
theorem dX9_keep_59 : decode cX9_keep 59 = .ok (.iinc 2 1, 3) := by decide +kernel
theorem dX9_keep_62 : decode cX9_keep 62 = .ok (.goto (-26), 3) := by decide +kernel
theorem dX9_keep_65 : decode cX9_keep 65 = .ok (.aload_n 0, 1) := by decide +kernel
theorem dX9_keep_66 : decode cX9_keep 66 = .ok (.getfield 57, 3) := by decide +kernel
theorem dX9_keep_69 : decode cX9_keep 69 = .ok (.iload_n 1, 1) := by decide +kernel
theorem dX9_keep_70 : decode cX9_keep 70 = .ok (.dup2, 1) := by decide +kernel
theorem dX9_keep_71 : decode cX9_keep 71 = .ok (.iaload, 1) := by decide +kernel
theorem dX9_keep_72 : decode cX9_keep 72 = .ok (.iconst 1, 1) := by decide +kernel
theorem dX9_keep_73 : decode cX9_keep 73 = .ok (.iadd, 1) := by decide +kernel
theorem dX9_keep_74 : decode cX9_keep 74 = .ok (.iastore, 1) := by decide +kernel
theorem dX9_keep_75 : decode cX9_keep 75 = .ok (.aload_n 0, 1) := by decide +kernel
theorem dX9_keep_76 : decode cX9_keep 76 = .ok (.dup, 1) := by decide +kernel
theorem dX9_keep_77 : decode cX9_keep 77 = .ok (.getfield 195, 3) := by decide +kernel
theorem dX9_keep_80 : decode cX9_keep 80 = .ok (.iconst 1, 1) := by decide +kernel
theorem dX9_keep_81 : decode cX9_keep 81 = .ok (.iadd, 1) := by decide +kernel
theorem dX9_keep_82 : decode cX9_keep 82 = .ok (.putfield 195, 3) := by decide +kernel
theorem dX9_keep_85 : decode cX9_keep 85 = .ok (.return_, 1) := by decide +kernel
theorem dX9_make_0 : decode cX9_make 0 = .ok (.aload_n 0, 1) := by decide +kernel
theorem dX9_make_1 : decode cX9_make 1 = .ok (.iconst 0, 1) := by decide +kernel
theorem dX9_make_2 : decode cX9_make 2 = .ok (.putfield 99, 3) := by decide +kernel
theorem dX9_make_5 : decode cX9_make 5 = .ok (.iload_n 1, 1) := by decide +kernel
theorem dX9_make_6 : decode cX9_make 6 = .ok (.iconst 0, 1) := by decide +kernel
theorem dX9_make_7 : decode cX9_make 7 = .ok (.bipush 16, 2) := by decide +kernel
theorem dX9_make_9 : decode cX9_make 9 = .ok (.invokestatic 106, 3) := by decide +kernel
theorem dX9_make_12 : decode cX9_make 12 = .ok (.ifCond .ne 6, 3) := by decide +kernel
theorem dX9_make_15 : decode cX9_make 15 = .ok (.bipush (-2), 2) := by decide +kernel
theorem dX9_make_17 : decode cX9_make 17 = .ok (.ireturn, 1) := by decide +kernel
theorem dX9_make_18 : decode cX9_make 18 = .ok (.aload_n 0, 1) := by decide +kernel
theorem dX9_make_19 : decode cX9_make 19 = .ok (.invokevirtual 198, 3) := by decide +kernel
theorem dX9_make_22 : decode cX9_make 22 = .ok (.aload_n 0, 1) := by decide +kernel
theorem dX9_make_23 : decode cX9_make 23 = .ok (.invokevirtual 146, 3) := by decide +kernel
theorem dX9_make_26 : decode cX9_make 26 = .ok (.iconst 0, 1) := by decide +kernel
theorem dX9_make_27 : decode cX9_make 27 = .ok (.istore_n 2, 1) := by decide +kernel
theorem dX9_make_28 : decode cX9_make 28 = .ok (.iconst 0, 1) := by decide +kernel
theorem dX9_make_29 : decode cX9_make 29 = .ok (.istore_n 3, 1) := by decide +kernel
theorem dX9_make_30 : decode cX9_make 30 = .ok (.iload_n 3, 1) := by decide +kernel
theorem dX9_make_31 : decode cX9_make 31 = .ok (.aload_n 0, 1) := by decide +kernel
theorem dX9_make_32 : decode cX9_make 32 = .ok (.getfield 201, 3) := by decide +kernel
theorem dX9_make_35 : decode cX9_make 35 = .ok (.if_icmp .ge 50, 3) := by decide +kernel
theorem dX9_make_38 : decode cX9_make 38 = .ok (.iload_n 2, 1) := by decide +kernel
theorem dX9_make_39 : decode cX9_make 39 = .ok (.iload_n 1, 1) := by decide +kernel
theorem dX9_make_40 : decode cX9_make 40 = .ok (.if_icmp .ge 45, 3) := by decide +kernel
theorem dX9_make_43 : decode cX9_make 43 = .ok (.aload_n 0, 1) := by decide +kernel
theorem dX9_make_44 : decode cX9_make 44 = .ok (.aload_n 0, 1) := by decide +kernel
theorem dX9_make_45 : decode cX9_make 45 = .ok (.getfield 93, 3) := by decide +kernel
theorem dX9_make_48 : decode cX9_make 48 = .ok (.iload_n 3, 1) := by decide +kernel
theorem dX9_make_49 : decode cX9_make 49 = .ok (.iaload, 1) := by decide +kernel
theorem dX9_make_50 : decode cX9_make 50 = .ok (.invokevirtual 182, 3) := by decide +kernel
theorem dX9_make_53 : decode cX9_make 53 = .ok (.aload_n 0, 1) := by decide +kernel
theorem dX9_make_54 : decode cX9_make 54 = .ok (.aload_n 0, 1) := by decide +kernel
theorem dX9_make_55 : decode cX9_make 55 = .ok (.getfield 93, 3) := by decide +kernel
theorem dX9_make_58 : decode cX9_make 58 = .ok (.iload_n 3, 1) := by decide +kernel
theorem dX9_make_59 : decode cX9_make 59 = .ok (.iaload, 1) := by decide +kernel
theorem dX9_make_60 : decode cX9_make 60 = .ok (.invokevirtual 191, 3) := by decide +kernel
theorem dX9_make_63 : decode cX9_make 63 = .ok (.ifCond .le 16, 3) := by decide +kernel
theorem dX9_make_66 : decode cX9_make 66 = .ok (.aload_n 0, 1) := by decide +kernel
theorem dX9_make_67 : decode cX9_make 67 = .ok (.aload_n 0, 1) := by decide +kernel
theorem dX9_make_68 : decode cX9_make 68 = .ok (.getfield 93, 3) := by decide +kernel
theorem dX9_make_71 : decode cX9_make 71 = .ok (.iload_n 3, 1) := by decide +kernel
theorem dX9_make_72 : decode cX9_make 72 = .ok (.iaload, 1) := by decide +kernel
theorem dX9_make_73 : decode cX9_make 73 = .ok (.invokevirtual 204, 3) := by decide +kernel
theorem dX9_make_76 : decode cX9_make 76 = .ok (.iinc 2 1, 3) := by decide +kernel
theorem dX9_make_79 : decode cX9_make 79 = .ok (.iinc 3 1, 3) := by decide +kernel
theorem dX9_make_82 : decode cX9_make 82 = .ok (.goto (-52), 3) := by decide +kernel
theorem dX9_make_85 : decode cX9_make 85 = .ok (.iload_n 2, 1) := by decide +kernel
theorem dX9_make_86 : decode cX9_make 86 = .ok (.ireturn, 1) := by decide +kernel
theorem dX9_force_0 : decode cX9_force 0 = .ok (.aload_n 0, 1) := by decide +kernel
theorem dX9_force_1 : decode cX9_force 1 = .ok (.iconst 0, 1) := by decide +kernel
theorem dX9_force_2 : decode cX9_force 2 = .ok (.putfield 99, 3) := by decide +kernel
theorem dX9_force_5 : decode cX9_force 5 = .ok (.aload_n 0, 1) := by decide +kernel
theorem dX9_force_6 : decode cX9_force 6 = .ok (.iload_n 1, 1) := by decide +kernel
theorem dX9_force_7 : decode cX9_force 7 = .ok (.invokevirtual 110, 3) := by decide +kernel
theorem dX9_force_10 : decode cX9_force 10 = .ok (.ifCond .ne 5, 3) := by decide +kernel
theorem dX9_force_13 : decode cX9_force 13 = .ok (.iconst (-1), 1) := by decide +kernel
theorem dX9_force_14 : decode cX9_force 14 = .ok (.ireturn, 1) := by decide +kernel
theorem dX9_force_15 : decode cX9_force 15 = .ok (.aload_n 0, 1) := by decide +kernel
theorem dX9_force_16 : decode cX9_force 16 = .ok (.iload_n 1, 1) := by decide +kernel
theorem dX9_force_17 : decode cX9_force 17 = .ok (.invokevirtual 185, 3) := by decide +kernel
theorem dX9_force_20 : decode cX9_force 20 = .ok (.aload_n 0, 1) := by decide +kernel
theorem dX9_force_21 : decode cX9_force 21 = .ok (.iload_n 1, 1) := by decide +kernel
theorem dX9_force_22 : decode cX9_force 22 = .ok (.invokevirtual 204, 3) := by decide +kernel
theorem dX9_force_25 : decode cX9_force 25 = .ok (.aload_n 0, 1) := by decide +kernel
theorem dX9_force_26 : decode cX9_force 26 = .ok (.getfield 57, 3) := by decide +kernel
theorem dX9_force_29 : decode cX9_force 29 = .ok (.iload_n 1, 1) := by decide +kernel
theorem dX9_force_30 : decode cX9_force 30 = .ok (.iaload, 1) := by decide +kernel
theorem dX9_force_31 : decode cX9_force 31 = .ok (.ireturn, 1) := by decide +kernel
theorem dX9_output_0 : decode cX9_output 0 = .ok (.aload_n 0, 1) := by decide +kernel
theorem dX9_output_1 : decode cX9_output 1 = .ok (.iconst 0, 1) := by decide +kernel
theorem dX9_output_2 : decode cX9_output 2 = .ok (.putfield 99, 3) := by decide +kernel
theorem dX9_output_5 : decode cX9_output 5 = .ok (.aload_n 0, 1) := by decide +kernel
theorem dX9_output_6 : decode cX9_output 6 = .ok (.iload_n 1, 1) := by decide +kernel
theorem dX9_output_7 : decode cX9_output 7 = .ok (.invokevirtual 110, 3) := by decide +kernel
theorem dX9_output_10 : decode cX9_output 10 = .ok (.ifCond .eq 12, 3) := by decide +kernel
theorem dX9_output_13 : decode cX9_output 13 = .ok (.aload_n 0, 1) := by decide +kernel
theorem dX9_output_14 : decode cX9_output 14 = .ok (.getfield 57, 3) := by decide +kernel
theorem dX9_output_17 : decode cX9_output 17 = .ok (.iload_n 1, 1) := by decide +kernel
theorem dX9_output_18 : decode cX9_output 18 = .ok (.iaload, 1) := by decide +kernel
theorem dX9_output_19 : decode cX9_output 19 = .ok (.ifCond .ne 5, 3) := by decide +kernel
theorem dX9_output_22 : decode cX9_output 22 = .ok (.lconst 0, 1) := by decide +kernel
theorem dX9_output_23 : decode cX9_output 23 = .ok (.lreturn, 1) := by decide +kernel
theorem dX9_output_24 : decode cX9_output 24 = .ok (.ldc2_w 166, 3) := by decide +kernel
theorem dX9_output_27 : decode cX9_output 27 = .ok (.lstore_n 2, 1) := by decide +kernel
theorem dX9_output_28 : decode cX9_output 28 = .ok (.iconst 0, 1) := by decide +kernel
theorem dX9_output_29 : decode cX9_output 29 = .ok (.istore 4, 2) := by decide +kernel
theorem dX9_output_31 : decode cX9_output 31 = .ok (.iload 4, 2) := by decide +kernel
theorem dX9_output_33 : decode cX9_output 33 = .ok (.aload_n 0, 1) := by decide +kernel
theorem dX9_output_34 : decode cX9_output 34 = .ok (.getfield 54, 3) := by decide +kernel
theorem dX9_output_37 : decode cX9_output 37 = .ok (.bipush 6, 2) := by decide +kernel
theorem dX9_output_39 : decode cX9_output 39 = .ok (.iload_n 1, 1) := by decide +kernel
theorem dX9_output_40 : decode cX9_output 40 = .ok (.imul, 1) := by decide +kernel
theorem dX9_output_41 : decode cX9_output 41 = .ok (.iconst 5, 1) := by decide +kernel
theorem dX9_output_42 : decode cX9_output 42 = .ok (.iadd, 1) := by decide +kernel
theorem dX9_output_43 : decode cX9_output 43 = .ok (.iaload, 1) := by decide +kernel
theorem dX9_output_44 : decode cX9_output 44 = .ok (.if_icmp .ge 27, 3) := by decide +kernel
theorem dX9_output_47 : decode cX9_output 47 = .ok (.lload_n 2, 1) := by decide +kernel
theorem dX9_output_48 : decode cX9_output 48 = .ok (.aload_n 0, 1) := by decide +kernel
theorem dX9_output_49 : decode cX9_output 49 = .ok (.getfield 51, 3) := by decide +kernel
theorem dX9_output_52 : decode cX9_output 52 = .ok (.sipush 700, 3) := by decide +kernel
theorem dX9_output_55 : decode cX9_output 55 = .ok (.iload_n 1, 1) := by decide +kernel
theorem dX9_output_56 : decode cX9_output 56 = .ok (.imul, 1) := by decide +kernel
theorem dX9_output_57 : decode cX9_output 57 = .ok (.iload 4, 2) := by decide +kernel
theorem dX9_output_59 : decode cX9_output 59 = .ok (.iadd, 1) := by decide +kernel
theorem dX9_output_60 : decode cX9_output 60 = .ok (.laload, 1) := by decide +kernel
theorem dX9_output_61 : decode cX9_output 61 = .ok (.invokestatic 168, 3) := by decide +kernel
theorem dX9_output_64 : decode cX9_output 64 = .ok (.lstore_n 2, 1) := by decide +kernel
theorem dX9_output_65 : decode cX9_output 65 = .ok (.iinc 4 1, 3) := by decide +kernel
theorem dX9_output_68 : decode cX9_output 68 = .ok (.goto (-37), 3) := by decide +kernel
theorem dX9_output_71 : decode cX9_output 71 = .ok (.lload_n 2, 1) := by decide +kernel
theorem dX9_output_72 : decode cX9_output 72 = .ok (.lreturn, 1) := by decide +kernel
theorem dX9_anew_0 : decode cX9_anew 0 = .ok (.aload_n 0, 1) := by decide +kernel
theorem dX9_anew_1 : decode cX9_anew 1 = .ok (.iconst 0, 1) := by decide +kernel
theorem dX9_anew_2 : decode cX9_anew 2 = .ok (.putfield 99, 3) := by decide +kernel
theorem dX9_anew_5 : decode cX9_anew 5 = .ok (.aload_n 0, 1) := by decide +kernel
theorem dX9_anew_6 : decode cX9_anew 6 = .ok (.invokevirtual 198, 3) := by decide +kernel
theorem dX9_anew_9 : decode cX9_anew 9 = .ok (.aload_n 0, 1) := by decide +kernel
theorem dX9_anew_10 : decode cX9_anew 10 = .ok (.invokevirtual 146, 3) := by decide +kernel
theorem dX9_anew_13 : decode cX9_anew 13 = .ok (.ldc2_w 166, 3) := by decide +kernel
theorem dX9_anew_16 : decode cX9_anew 16 = .ok (.lstore_n 1, 1) := by decide +kernel
theorem dX9_anew_17 : decode cX9_anew 17 = .ok (.iconst 0, 1) := by decide +kernel
theorem dX9_anew_18 : decode cX9_anew 18 = .ok (.istore_n 3, 1) := by decide +kernel
theorem dX9_anew_19 : decode cX9_anew 19 = .ok (.iload_n 3, 1) := by decide +kernel
theorem dX9_anew_20 : decode cX9_anew 20 = .ok (.aload_n 0, 1) := by decide +kernel
theorem dX9_anew_21 : decode cX9_anew 21 = .ok (.getfield 201, 3) := by decide +kernel
theorem dX9_anew_24 : decode cX9_anew 24 = .ok (.if_icmp .ge 28, 3) := by decide +kernel
theorem dX9_anew_27 : decode cX9_anew 27 = .ok (.aload_n 0, 1) := by decide +kernel
theorem dX9_anew_28 : decode cX9_anew 28 = .ok (.aload_n 0, 1) := by decide +kernel
theorem dX9_anew_29 : decode cX9_anew 29 = .ok (.getfield 93, 3) := by decide +kernel
theorem dX9_anew_32 : decode cX9_anew 32 = .ok (.iload_n 3, 1) := by decide +kernel
theorem dX9_anew_33 : decode cX9_anew 33 = .ok (.iaload, 1) := by decide +kernel
theorem dX9_anew_34 : decode cX9_anew 34 = .ok (.invokevirtual 182, 3) := by decide +kernel
theorem dX9_anew_37 : decode cX9_anew 37 = .ok (.lload_n 1, 1) := by decide +kernel
theorem dX9_anew_38 : decode cX9_anew 38 = .ok (.aload_n 0, 1) := by decide +kernel
theorem dX9_anew_39 : decode cX9_anew 39 = .ok (.invokevirtual 178, 3) := by decide +kernel
theorem dX9_anew_42 : decode cX9_anew 42 = .ok (.invokestatic 168, 3) := by decide +kernel
theorem dX9_anew_45 : decode cX9_anew 45 = .ok (.lstore_n 1, 1) := by decide +kernel
theorem dX9_anew_46 : decode cX9_anew 46 = .ok (.iinc 3 1, 3) := by decide +kernel
theorem dX9_anew_49 : decode cX9_anew 49 = .ok (.goto (-30), 3) := by decide +kernel
theorem dX9_anew_52 : decode cX9_anew 52 = .ok (.lload_n 1, 1) := by decide +kernel
theorem dX9_anew_53 : decode cX9_anew 53 = .ok (.lreturn, 1) := by decide +kernel
theorem dX9_points_0 : decode cX9_points 0 = .ok (.iload_n 2, 1) := by decide +kernel
theorem dX9_points_1 : decode cX9_points 1 = .ok (.bipush (-5), 2) := by decide +kernel
theorem dX9_points_3 : decode cX9_points 3 = .ok (.if_icmp .eq 18, 3) := by decide +kernel
theorem dX9_points_6 : decode cX9_points 6 = .ok (.aload_n 0, 1) := by decide +kernel
theorem dX9_points_7 : decode cX9_points 7 = .ok (.getfield 87, 3) := by decide +kernel
theorem dX9_points_10 : decode cX9_points 10 = .ok (.bipush 16, 2) := by decide +kernel
theorem dX9_points_12 : decode cX9_points 12 = .ok (.iload_n 1, 1) := by decide +kernel
theorem dX9_points_13 : decode cX9_points 13 = .ok (.imul, 1) := by decide +kernel
theorem dX9_points_14 : decode cX9_points 14 = .ok (.iload_n 2, 1) := by decide +kernel
theorem dX9_points_15 : decode cX9_points 15 = .ok (.bipush 10, 2) := by decide +kernel
theorem dX9_points_17 : decode cX9_points 17 = .ok (.idiv, 1) := by decide +kernel
theorem dX9_points_18 : decode cX9_points 18 = .ok (.iadd, 1) := by decide +kernel
theorem dX9_points_19 : decode cX9_points 19 = .ok (.iconst 1, 1) := by decide +kernel
theorem dX9_points_20 : decode cX9_points 20 = .ok (.bastore, 1) := by decide +kernel
theorem dX9_points_21 : decode cX9_points 21 = .ok (.return_, 1) := by decide +kernel
theorem dX9_findLeads_0 : decode cX9_findLeads 0 = .ok (.iconst 0, 1) := by decide +kernel
theorem dX9_findLeads_1 : decode cX9_findLeads 1 = .ok (.istore_n 1, 1) := by decide +kernel
theorem dX9_findLeads_2 : decode cX9_findLeads 2 = .ok (.iload_n 1, 1) := by decide +kernel
theorem dX9_findLeads_3 : decode cX9_findLeads 3 = .ok (.sipush 256, 3) := by decide +kernel
theorem dX9_findLeads_6 : decode cX9_findLeads 6 = .ok (.if_icmp .ge 16, 3) := by decide +kernel
theorem dX9_findLeads_9 : decode cX9_findLeads 9 = .ok (.aload_n 0, 1) := by decide +kernel
theorem dX9_findLeads_10 : decode cX9_findLeads 10 = .ok (.getfield 87, 3) := by decide +kernel
theorem dX9_findLeads_13 : decode cX9_findLeads 13 = .ok (.iload_n 1, 1) := by decide +kernel
theorem dX9_findLeads_14 : decode cX9_findLeads 14 = .ok (.iconst 0, 1) := by decide +kernel
theorem dX9_findLeads_15 : decode cX9_findLeads 15 = .ok (.bastore, 1) := by decide +kernel
theorem dX9_findLeads_16 : decode cX9_findLeads 16 = .ok (.iinc 1 1, 3) := by decide +kernel
theorem dX9_findLeads_19 : decode cX9_findLeads 19 = .ok (.goto (-17), 3) := by decide +kernel
theorem dX9_findLeads_22 : decode cX9_findLeads 22 = .ok (.iconst 0, 1) := by decide +kernel
theorem dX9_findLeads_23 : decode cX9_findLeads 23 = .ok (.istore_n 1, 1) := by decide +kernel
theorem dX9_findLeads_24 : decode cX9_findLeads 24 = .ok (.iload_n 1, 1) := by decide +kernel
theorem dX9_findLeads_25 : decode cX9_findLeads 25 = .ok (.aload_n 0, 1) := by decide +kernel
theorem dX9_findLeads_26 : decode cX9_findLeads 26 = .ok (.getfield 103, 3) := by decide +kernel
theorem dX9_findLeads_29 : decode cX9_findLeads 29 = .ok (.if_icmp .ge 152, 3) := by decide +kernel
theorem dX9_findLeads_32 : decode cX9_findLeads 32 = .ok (.aload_n 0, 1) := by decide +kernel
theorem dX9_findLeads_33 : decode cX9_findLeads 33 = .ok (.getfield 7, 3) := by decide +kernel
theorem dX9_findLeads_36 : decode cX9_findLeads 36 = .ok (.iload_n 1, 1) := by decide +kernel
theorem dX9_findLeads_37 : decode cX9_findLeads 37 = .ok (.baload, 1) := by decide +kernel
theorem dX9_findLeads_38 : decode cX9_findLeads 38 = .ok (.ifCond .eq 137, 3) := by decide +kernel
theorem dX9_findLeads_41 : decode cX9_findLeads 41 = .ok (.iconst 0, 1) := by decide +kernel
theorem dX9_findLeads_42 : decode cX9_findLeads 42 = .ok (.istore_n 2, 1) := by decide +kernel
theorem dX9_findLeads_43 : decode cX9_findLeads 43 = .ok (.iload_n 2, 1) := by decide +kernel
theorem dX9_findLeads_44 : decode cX9_findLeads 44 = .ok (.aload_n 0, 1) := by decide +kernel
theorem dX9_findLeads_45 : decode cX9_findLeads 45 = .ok (.getfield 39, 3) := by decide +kernel
theorem dX9_findLeads_48 : decode cX9_findLeads 48 = .ok (.iload_n 1, 1) := by decide +kernel
theorem dX9_findLeads_49 : decode cX9_findLeads 49 = .ok (.iaload, 1) := by decide +kernel
theorem dX9_findLeads_50 : decode cX9_findLeads 50 = .ok (.if_icmp .ge 30, 3) := by decide +kernel
theorem dX9_findLeads_53 : decode cX9_findLeads 53 = .ok (.aload_n 0, 1) := by decide +kernel
theorem dX9_findLeads_54 : decode cX9_findLeads 54 = .ok (.iload_n 1, 1) := by decide +kernel
theorem dX9_findLeads_55 : decode cX9_findLeads 55 = .ok (.aload_n 0, 1) := by decide +kernel
theorem dX9_findLeads_56 : decode cX9_findLeads 56 = .ok (.iload_n 1, 1) := by decide +kernel
theorem dX9_findLeads_57 : decode cX9_findLeads 57 = .ok (.aload_n 0, 1) := by decide +kernel
theorem dX9_findLeads_58 : decode cX9_findLeads 58 = .ok (.getfield 42, 3) := by decide +kernel
theorem dX9_findLeads_61 : decode cX9_findLeads 61 = .ok (.bipush 12, 2) := by decide +kernel
theorem dX9_findLeads_63 : decode cX9_findLeads 63 = .ok (.iload_n 1, 1) := by decide +kernel
theorem dX9_findLeads_64 : decode cX9_findLeads 64 = .ok (.imul, 1) := by decide +kernel
theorem dX9_findLeads_65 : decode cX9_findLeads 65 = .ok (.iload_n 2, 1) := by decide +kernel
theorem dX9_findLeads_66 : decode cX9_findLeads 66 = .ok (.iadd, 1) := by decide +kernel
theorem dX9_findLeads_67 : decode cX9_findLeads 67 = .ok (.iaload, 1) := by decide +kernel
theorem dX9_findLeads_68 : decode cX9_findLeads 68 = .ok (.invokevirtual 137, 3) := by decide +kernel
theorem dX9_findLeads_71 : decode cX9_findLeads 71 = .ok (.invokevirtual 207, 3) := by decide +kernel
theorem dX9_findLeads_74 : decode cX9_findLeads 74 = .ok (.iinc 2 1, 3) := by decide +kernel
theorem dX9_findLeads_77 : decode cX9_findLeads 77 = .ok (.goto (-34), 3) := by decide +kernel
theorem dX9_findLeads_80 : decode cX9_findLeads 80 = .ok (.bipush 10, 2) := by decide +kernel
theorem dX9_findLeads_82 : decode cX9_findLeads 82 = .ok (.iload_n 1, 1) := by decide +kernel
theorem dX9_findLeads_83 : decode cX9_findLeads 83 = .ok (.imul, 1) := by decide +kernel
theorem dX9_findLeads_84 : decode cX9_findLeads 84 = .ok (.istore_n 2, 1) := by decide +kernel
theorem dX9_findLeads_85 : decode cX9_findLeads 85 = .ok (.iload_n 2, 1) := by decide +kernel
theorem dX9_findLeads_86 : decode cX9_findLeads 86 = .ok (.bipush 10, 2) := by decide +kernel
theorem dX9_findLeads_88 : decode cX9_findLeads 88 = .ok (.iload_n 1, 1) := by decide +kernel
theorem dX9_findLeads_89 : decode cX9_findLeads 89 = .ok (.imul, 1) := by decide +kernel
theorem dX9_findLeads_90 : decode cX9_findLeads 90 = .ok (.aload_n 0, 1) := by decide +kernel
theorem dX9_findLeads_91 : decode cX9_findLeads 91 = .ok (.getfield 13, 3) := by decide +kernel
theorem dX9_findLeads_94 : decode cX9_findLeads 94 = .ok (.iload_n 1, 1) := by decide +kernel
theorem dX9_findLeads_95 : decode cX9_findLeads 95 = .ok (.iaload, 1) := by decide +kernel
theorem dX9_findLeads_96 : decode cX9_findLeads 96 = .ok (.iadd, 1) := by decide +kernel
theorem dX9_findLeads_97 : decode cX9_findLeads 97 = .ok (.if_icmp .ge 50, 3) := by decide +kernel
theorem dX9_findLeads_100 : decode cX9_findLeads 100 = .ok (.iconst 0, 1) := by decide +kernel
theorem dX9_findLeads_101 : decode cX9_findLeads 101 = .ok (.istore_n 3, 1) := by decide +kernel
theorem dX9_findLeads_102 : decode cX9_findLeads 102 = .ok (.iload_n 3, 1) := by decide +kernel
theorem dX9_findLeads_103 : decode cX9_findLeads 103 = .ok (.aload_n 0, 1) := by decide +kernel
theorem dX9_findLeads_104 : decode cX9_findLeads 104 = .ok (.getfield 27, 3) := by decide +kernel
theorem dX9_findLeads_107 : decode cX9_findLeads 107 = .ok (.iload_n 2, 1) := by decide +kernel
theorem dX9_findLeads_108 : decode cX9_findLeads 108 = .ok (.iaload, 1) := by decide +kernel
theorem dX9_findLeads_109 : decode cX9_findLeads 109 = .ok (.if_icmp .ge 32, 3) := by decide +kernel
theorem dX9_findLeads_112 : decode cX9_findLeads 112 = .ok (.aload_n 0, 1) := by decide +kernel
theorem dX9_findLeads_113 : decode cX9_findLeads 113 = .ok (.iload_n 1, 1) := by decide +kernel
theorem dX9_findLeads_114 : decode cX9_findLeads 114 = .ok (.aload_n 0, 1) := by decide +kernel
theorem dX9_findLeads_115 : decode cX9_findLeads 115 = .ok (.iload_n 1, 1) := by decide +kernel
theorem dX9_findLeads_116 : decode cX9_findLeads 116 = .ok (.bipush 32, 2) := by decide +kernel
theorem dX9_findLeads_118 : decode cX9_findLeads 118 = .ok (.aload_n 0, 1) := by decide +kernel
theorem dX9_findLeads_119 : decode cX9_findLeads 119 = .ok (.getfield 30, 3) := by decide +kernel
theorem dX9_findLeads_122 : decode cX9_findLeads 122 = .ok (.iconst 3, 1) := by decide +kernel
theorem dX9_findLeads_123 : decode cX9_findLeads 123 = .ok (.iload_n 2, 1) := by decide +kernel
theorem dX9_findLeads_124 : decode cX9_findLeads 124 = .ok (.imul, 1) := by decide +kernel
theorem dX9_findLeads_125 : decode cX9_findLeads 125 = .ok (.iload_n 3, 1) := by decide +kernel
theorem dX9_findLeads_126 : decode cX9_findLeads 126 = .ok (.iadd, 1) := by decide +kernel
theorem dX9_findLeads_127 : decode cX9_findLeads 127 = .ok (.iaload, 1) := by decide +kernel
theorem dX9_findLeads_128 : decode cX9_findLeads 128 = .ok (.iadd, 1) := by decide +kernel
theorem dX9_findLeads_129 : decode cX9_findLeads 129 = .ok (.invokevirtual 137, 3) := by decide +kernel
theorem dX9_findLeads_132 : decode cX9_findLeads 132 = .ok (.invokevirtual 207, 3) := by decide +kernel
theorem dX9_findLeads_135 : decode cX9_findLeads 135 = .ok (.iinc 3 1, 3) := by decide +kernel
theorem dX9_findLeads_138 : decode cX9_findLeads 138 = .ok (.goto (-36), 3) := by decide +kernel
theorem dX9_findLeads_141 : decode cX9_findLeads 141 = .ok (.iinc 2 1, 3) := by decide +kernel
theorem dX9_findLeads_144 : decode cX9_findLeads 144 = .ok (.goto (-59), 3) := by decide +kernel
theorem dX9_findLeads_147 : decode cX9_findLeads 147 = .ok (.aload_n 0, 1) := by decide +kernel
theorem dX9_findLeads_148 : decode cX9_findLeads 148 = .ok (.getfield 48, 3) := by decide +kernel
theorem dX9_findLeads_151 : decode cX9_findLeads 151 = .ok (.iload_n 1, 1) := by decide +kernel
theorem dX9_findLeads_152 : decode cX9_findLeads 152 = .ok (.iaload, 1) := by decide +kernel
theorem dX9_findLeads_153 : decode cX9_findLeads 153 = .ok (.bipush (-5), 2) := by decide +kernel
theorem dX9_findLeads_155 : decode cX9_findLeads 155 = .ok (.if_icmp .eq 20, 3) := by decide +kernel
theorem dX9_findLeads_158 : decode cX9_findLeads 158 = .ok (.aload_n 0, 1) := by decide +kernel
theorem dX9_findLeads_159 : decode cX9_findLeads 159 = .ok (.getfield 87, 3) := by decide +kernel
theorem dX9_findLeads_162 : decode cX9_findLeads 162 = .ok (.bipush 16, 2) := by decide +kernel
theorem dX9_findLeads_164 : decode cX9_findLeads 164 = .ok (.iload_n 1, 1) := by decide +kernel
theorem dX9_findLeads_165 : decode cX9_findLeads 165 = .ok (.imul, 1) := by decide +kernel
theorem dX9_findLeads_166 : decode cX9_findLeads 166 = .ok (.aload_n 0, 1) := by decide +kernel
theorem dX9_findLeads_167 : decode cX9_findLeads 167 = .ok (.getfield 48, 3) := by decide +kernel
theorem dX9_findLeads_170 : decode cX9_findLeads 170 = .ok (.iload_n 1, 1) := by decide +kernel
theorem dX9_findLeads_171 : decode cX9_findLeads 171 = .ok (.iaload, 1) := by decide +kernel
theorem dX9_findLeads_172 : decode cX9_findLeads 172 = .ok (.iadd, 1) := by decide +kernel
theorem dX9_findLeads_173 : decode cX9_findLeads 173 = .ok (.iconst 1, 1) := by decide +kernel
theorem dX9_findLeads_174 : decode cX9_findLeads 174 = .ok (.bastore, 1) := by decide +kernel
theorem dX9_findLeads_175 : decode cX9_findLeads 175 = .ok (.iinc 1 1, 3) := by decide +kernel
theorem dX9_findLeads_178 : decode cX9_findLeads 178 = .ok (.goto (-154), 3) := by decide +kernel
theorem dX9_findLeads_181 : decode cX9_findLeads 181 = .ok (.iconst 0, 1) := by decide +kernel
theorem dX9_findLeads_182 : decode cX9_findLeads 182 = .ok (.istore_n 1, 1) := by decide +kernel
theorem dX9_findLeads_183 : decode cX9_findLeads 183 = .ok (.iload_n 1, 1) := by decide +kernel
theorem dX9_findLeads_184 : decode cX9_findLeads 184 = .ok (.bipush 16, 2) := by decide +kernel
theorem dX9_findLeads_186 : decode cX9_findLeads 186 = .ok (.if_icmp .ge 95, 3) := by decide +kernel
theorem dX9_findLeads_189 : decode cX9_findLeads 189 = .ok (.iconst 0, 1) := by decide +kernel
theorem dX9_findLeads_190 : decode cX9_findLeads 190 = .ok (.istore_n 2, 1) := by decide +kernel
theorem dX9_findLeads_191 : decode cX9_findLeads 191 = .ok (.iload_n 2, 1) := by decide +kernel
theorem dX9_findLeads_192 : decode cX9_findLeads 192 = .ok (.bipush 16, 2) := by decide +kernel
theorem dX9_findLeads_194 : decode cX9_findLeads 194 = .ok (.if_icmp .ge 81, 3) := by decide +kernel
theorem dX9_findLeads_197 : decode cX9_findLeads 197 = .ok (.iconst 0, 1) := by decide +kernel
theorem dX9_findLeads_198 : decode cX9_findLeads 198 = .ok (.istore_n 3, 1) := by decide +kernel
theorem dX9_findLeads_199 : decode cX9_findLeads 199 = .ok (.iload_n 3, 1) := by decide +kernel
theorem dX9_findLeads_200 : decode cX9_findLeads 200 = .ok (.bipush 16, 2) := by decide +kernel
theorem dX9_findLeads_202 : decode cX9_findLeads 202 = .ok (.if_icmp .ge 67, 3) := by decide +kernel
theorem dX9_findLeads_205 : decode cX9_findLeads 205 = .ok (.aload_n 0, 1) := by decide +kernel
theorem dX9_findLeads_206 : decode cX9_findLeads 206 = .ok (.getfield 87, 3) := by decide +kernel
theorem dX9_findLeads_209 : decode cX9_findLeads 209 = .ok (.bipush 16, 2) := by decide +kernel
theorem dX9_findLeads_211 : decode cX9_findLeads 211 = .ok (.iload_n 2, 1) := by decide +kernel
theorem dX9_findLeads_212 : decode cX9_findLeads 212 = .ok (.imul, 1) := by decide +kernel
theorem dX9_findLeads_213 : decode cX9_findLeads 213 = .ok (.iload_n 3, 1) := by decide +kernel
theorem dX9_findLeads_214 : decode cX9_findLeads 214 = .ok (.iadd, 1) := by decide +kernel
theorem dX9_findLeads_215 : decode cX9_findLeads 215 = .ok (.aload_n 0, 1) := by decide +kernel
theorem dX9_findLeads_216 : decode cX9_findLeads 216 = .ok (.getfield 87, 3) := by decide +kernel
theorem dX9_findLeads_219 : decode cX9_findLeads 219 = .ok (.bipush 16, 2) := by decide +kernel
theorem dX9_findLeads_221 : decode cX9_findLeads 221 = .ok (.iload_n 2, 1) := by decide +kernel
theorem dX9_findLeads_222 : decode cX9_findLeads 222 = .ok (.imul, 1) := by decide +kernel
theorem dX9_findLeads_223 : decode cX9_findLeads 223 = .ok (.iload_n 3, 1) := by decide +kernel
theorem dX9_findLeads_224 : decode cX9_findLeads 224 = .ok (.iadd, 1) := by decide +kernel
theorem dX9_findLeads_225 : decode cX9_findLeads 225 = .ok (.baload, 1) := by decide +kernel
theorem dX9_findLeads_226 : decode cX9_findLeads 226 = .ok (.ifCond .ne 31, 3) := by decide +kernel
theorem dX9_findLeads_229 : decode cX9_findLeads 229 = .ok (.aload_n 0, 1) := by decide +kernel
theorem dX9_findLeads_230 : decode cX9_findLeads 230 = .ok (.getfield 87, 3) := by decide +kernel
theorem dX9_findLeads_233 : decode cX9_findLeads 233 = .ok (.bipush 16, 2) := by decide +kernel
theorem dX9_findLeads_235 : decode cX9_findLeads 235 = .ok (.iload_n 2, 1) := by decide +kernel
theorem dX9_findLeads_236 : decode cX9_findLeads 236 = .ok (.imul, 1) := by decide +kernel
theorem dX9_findLeads_237 : decode cX9_findLeads 237 = .ok (.iload_n 1, 1) := by decide +kernel
theorem dX9_findLeads_238 : decode cX9_findLeads 238 = .ok (.iadd, 1) := by decide +kernel
theorem dX9_findLeads_239 : decode cX9_findLeads 239 = .ok (.baload, 1) := by decide +kernel
theorem dX9_findLeads_240 : decode cX9_findLeads 240 = .ok (.ifCond .eq 21, 3) := by decide +kernel
theorem dX9_findLeads_243 : decode cX9_findLeads 243 = .ok (.aload_n 0, 1) := by decide +kernel
theorem dX9_findLeads_244 : decode cX9_findLeads 244 = .ok (.getfield 87, 3) := by decide +kernel
theorem dX9_findLeads_247 : decode cX9_findLeads 247 = .ok (.bipush 16, 2) := by decide +kernel
theorem dX9_findLeads_249 : decode cX9_findLeads 249 = .ok (.iload_n 1, 1) := by decide +kernel
theorem dX9_findLeads_250 : decode cX9_findLeads 250 = .ok (.imul, 1) := by decide +kernel
theorem dX9_findLeads_251 : decode cX9_findLeads 251 = .ok (.iload_n 3, 1) := by decide +kernel
theorem dX9_findLeads_252 : decode cX9_findLeads 252 = .ok (.iadd, 1) := by decide +kernel
theorem dX9_findLeads_253 : decode cX9_findLeads 253 = .ok (.baload, 1) := by decide +kernel
theorem dX9_findLeads_254 : decode cX9_findLeads 254 = .ok (.ifCond .eq 7, 3) := by decide +kernel
theorem dX9_findLeads_257 : decode cX9_findLeads 257 = .ok (.iconst 1, 1) := by decide +kernel
theorem dX9_findLeads_258 : decode cX9_findLeads 258 = .ok (.goto 4, 3) := by decide +kernel
theorem dX9_findLeads_261 : decode cX9_findLeads 261 = .ok (.iconst 0, 1) := by decide +kernel
theorem dX9_findLeads_262 : decode cX9_findLeads 262 = .ok (.bastore, 1) := by decide +kernel
theorem dX9_findLeads_263 : decode cX9_findLeads 263 = .ok (.iinc 3 1, 3) := by decide +kernel
theorem dX9_findLeads_266 : decode cX9_findLeads 266 = .ok (.goto (-67), 3) := by decide +kernel
theorem dX9_findLeads_269 : decode cX9_findLeads 269 = .ok (.iinc 2 1, 3) := by decide +kernel
theorem dX9_findLeads_272 : decode cX9_findLeads 272 = .ok (.goto (-81), 3) := by decide +kernel
theorem dX9_findLeads_275 : decode cX9_findLeads 275 = .ok (.iinc 1 1, 3) := by decide +kernel
theorem dX9_findLeads_278 : decode cX9_findLeads 278 = .ok (.goto (-95), 3) := by decide +kernel
theorem dX9_findLeads_281 : decode cX9_findLeads 281 = .ok (.return_, 1) := by decide +kernel
theorem dX9_areOne_0 : decode cX9_areOne 0 = .ok (.iload_n 1, 1) := by decide +kernel
theorem dX9_areOne_1 : decode cX9_areOne 1 = .ok (.iload_n 2, 1) := by decide +kernel
theorem dX9_areOne_2 : decode cX9_areOne 2 = .ok (.if_icmp .eq 31, 3) := by decide +kernel
theorem dX9_areOne_5 : decode cX9_areOne 5 = .ok (.aload_n 0, 1) := by decide +kernel
theorem dX9_areOne_6 : decode cX9_areOne 6 = .ok (.getfield 87, 3) := by decide +kernel
theorem dX9_areOne_9 : decode cX9_areOne 9 = .ok (.bipush 16, 2) := by decide +kernel
theorem dX9_areOne_11 : decode cX9_areOne 11 = .ok (.iload_n 1, 1) := by decide +kernel
theorem dX9_areOne_12 : decode cX9_areOne 12 = .ok (.imul, 1) := by decide +kernel
theorem dX9_areOne_13 : decode cX9_areOne 13 = .ok (.iload_n 2, 1) := by decide +kernel
theorem dX9_areOne_14 : decode cX9_areOne 14 = .ok (.iadd, 1) := by decide +kernel
theorem dX9_areOne_15 : decode cX9_areOne 15 = .ok (.baload, 1) := by decide +kernel
theorem dX9_areOne_16 : decode cX9_areOne 16 = .ok (.ifCond .eq 21, 3) := by decide +kernel
theorem dX9_areOne_19 : decode cX9_areOne 19 = .ok (.aload_n 0, 1) := by decide +kernel
theorem dX9_areOne_20 : decode cX9_areOne 20 = .ok (.getfield 87, 3) := by decide +kernel
theorem dX9_areOne_23 : decode cX9_areOne 23 = .ok (.bipush 16, 2) := by decide +kernel
theorem dX9_areOne_25 : decode cX9_areOne 25 = .ok (.iload_n 2, 1) := by decide +kernel
theorem dX9_areOne_26 : decode cX9_areOne 26 = .ok (.imul, 1) := by decide +kernel
theorem dX9_areOne_27 : decode cX9_areOne 27 = .ok (.iload_n 1, 1) := by decide +kernel
theorem dX9_areOne_28 : decode cX9_areOne 28 = .ok (.iadd, 1) := by decide +kernel
theorem dX9_areOne_29 : decode cX9_areOne 29 = .ok (.baload, 1) := by decide +kernel
theorem dX9_areOne_30 : decode cX9_areOne 30 = .ok (.ifCond .eq 7, 3) := by decide +kernel
theorem dX9_areOne_33 : decode cX9_areOne 33 = .ok (.iconst 1, 1) := by decide +kernel
theorem dX9_areOne_34 : decode cX9_areOne 34 = .ok (.goto 4, 3) := by decide +kernel
theorem dX9_areOne_37 : decode cX9_areOne 37 = .ok (.iconst 0, 1) := by decide +kernel
theorem dX9_areOne_38 : decode cX9_areOne 38 = .ok (.ireturn, 1) := by decide +kernel
theorem dX9_mayCome_0 : decode cX9_mayCome 0 = .ok (.iconst 1, 1) := by decide +kernel
theorem dX9_mayCome_1 : decode cX9_mayCome 1 = .ok (.istore_n 2, 1) := by decide +kernel
theorem dX9_mayCome_2 : decode cX9_mayCome 2 = .ok (.iconst 0, 1) := by decide +kernel
theorem dX9_mayCome_3 : decode cX9_mayCome 3 = .ok (.istore_n 3, 1) := by decide +kernel
theorem dX9_mayCome_4 : decode cX9_mayCome 4 = .ok (.iload_n 3, 1) := by decide +kernel
theorem dX9_mayCome_5 : decode cX9_mayCome 5 = .ok (.aload_n 0, 1) := by decide +kernel
theorem dX9_mayCome_6 : decode cX9_mayCome 6 = .ok (.getfield 103, 3) := by decide +kernel
theorem dX9_mayCome_9 : decode cX9_mayCome 9 = .ok (.if_icmp .ge 62, 3) := by decide +kernel
theorem dX9_mayCome_12 : decode cX9_mayCome 12 = .ok (.iload_n 2, 1) := by decide +kernel
theorem dX9_mayCome_13 : decode cX9_mayCome 13 = .ok (.ifCond .eq 50, 3) := by decide +kernel
theorem dX9_mayCome_16 : decode cX9_mayCome 16 = .ok (.aload_n 0, 1) := by decide +kernel
theorem dX9_mayCome_17 : decode cX9_mayCome 17 = .ok (.getfield 7, 3) := by decide +kernel
theorem dX9_mayCome_20 : decode cX9_mayCome 20 = .ok (.iload_n 3, 1) := by decide +kernel
theorem dX9_mayCome_21 : decode cX9_mayCome 21 = .ok (.baload, 1) := by decide +kernel
theorem dX9_mayCome_22 : decode cX9_mayCome 22 = .ok (.ifCond .eq 37, 3) := by decide +kernel
theorem dX9_mayCome_25 : decode cX9_mayCome 25 = .ok (.aload_n 0, 1) := by decide +kernel
theorem dX9_mayCome_26 : decode cX9_mayCome 26 = .ok (.getfield 87, 3) := by decide +kernel
theorem dX9_mayCome_29 : decode cX9_mayCome 29 = .ok (.bipush 16, 2) := by decide +kernel
theorem dX9_mayCome_31 : decode cX9_mayCome 31 = .ok (.iload_n 1, 1) := by decide +kernel
theorem dX9_mayCome_32 : decode cX9_mayCome 32 = .ok (.imul, 1) := by decide +kernel
theorem dX9_mayCome_33 : decode cX9_mayCome 33 = .ok (.iload_n 3, 1) := by decide +kernel
theorem dX9_mayCome_34 : decode cX9_mayCome 34 = .ok (.iadd, 1) := by decide +kernel
theorem dX9_mayCome_35 : decode cX9_mayCome 35 = .ok (.baload, 1) := by decide +kernel
theorem dX9_mayCome_36 : decode cX9_mayCome 36 = .ok (.ifCond .eq 23, 3) := by decide +kernel
theorem dX9_mayCome_39 : decode cX9_mayCome 39 = .ok (.aload_n 0, 1) := by decide +kernel
theorem dX9_mayCome_40 : decode cX9_mayCome 40 = .ok (.getfield 90, 3) := by decide +kernel
theorem dX9_mayCome_43 : decode cX9_mayCome 43 = .ok (.iload_n 3, 1) := by decide +kernel
theorem dX9_mayCome_44 : decode cX9_mayCome 44 = .ok (.iaload, 1) := by decide +kernel
theorem dX9_mayCome_45 : decode cX9_mayCome 45 = .ok (.bipush (-5), 2) := by decide +kernel
theorem dX9_mayCome_47 : decode cX9_mayCome 47 = .ok (.if_icmp .ne 12, 3) := by decide +kernel
theorem dX9_mayCome_50 : decode cX9_mayCome 50 = .ok (.aload_n 0, 1) := by decide +kernel
theorem dX9_mayCome_51 : decode cX9_mayCome 51 = .ok (.iload_n 1, 1) := by decide +kernel
theorem dX9_mayCome_52 : decode cX9_mayCome 52 = .ok (.iload_n 3, 1) := by decide +kernel
theorem dX9_mayCome_53 : decode cX9_mayCome 53 = .ok (.invokevirtual 210, 3) := by decide +kernel
theorem dX9_mayCome_56 : decode cX9_mayCome 56 = .ok (.ifCond .eq 7, 3) := by decide +kernel
theorem dX9_mayCome_59 : decode cX9_mayCome 59 = .ok (.iconst 1, 1) := by decide +kernel
theorem dX9_mayCome_60 : decode cX9_mayCome 60 = .ok (.goto 4, 3) := by decide +kernel
theorem dX9_mayCome_63 : decode cX9_mayCome 63 = .ok (.iconst 0, 1) := by decide +kernel
theorem dX9_mayCome_64 : decode cX9_mayCome 64 = .ok (.istore_n 2, 1) := by decide +kernel
theorem dX9_mayCome_65 : decode cX9_mayCome 65 = .ok (.iinc 3 1, 3) := by decide +kernel
theorem dX9_mayCome_68 : decode cX9_mayCome 68 = .ok (.goto (-64), 3) := by decide +kernel
theorem dX9_mayCome_71 : decode cX9_mayCome 71 = .ok (.iload_n 2, 1) := by decide +kernel
theorem dX9_mayCome_72 : decode cX9_mayCome 72 = .ok (.ireturn, 1) := by decide +kernel
theorem dX9_findOrder_0 : decode cX9_findOrder 0 = .ok (.aload_n 0, 1) := by decide +kernel
theorem dX9_findOrder_1 : decode cX9_findOrder 1 = .ok (.invokevirtual 213, 3) := by decide +kernel
theorem dX9_findOrder_4 : decode cX9_findOrder 4 = .ok (.iconst 0, 1) := by decide +kernel
theorem dX9_findOrder_5 : decode cX9_findOrder 5 = .ok (.istore_n 1, 1) := by decide +kernel
theorem dX9_findOrder_6 : decode cX9_findOrder 6 = .ok (.iload_n 1, 1) := by decide +kernel
theorem dX9_findOrder_7 : decode cX9_findOrder 7 = .ok (.bipush 16, 2) := by decide +kernel
theorem dX9_findOrder_9 : decode cX9_findOrder 9 = .ok (.if_icmp .ge 17, 3) := by decide +kernel
theorem dX9_findOrder_12 : decode cX9_findOrder 12 = .ok (.aload_n 0, 1) := by decide +kernel
theorem dX9_findOrder_13 : decode cX9_findOrder 13 = .ok (.getfield 90, 3) := by decide +kernel
theorem dX9_findOrder_16 : decode cX9_findOrder 16 = .ok (.iload_n 1, 1) := by decide +kernel
theorem dX9_findOrder_17 : decode cX9_findOrder 17 = .ok (.bipush (-5), 2) := by decide +kernel
theorem dX9_findOrder_19 : decode cX9_findOrder 19 = .ok (.iastore, 1) := by decide +kernel
theorem dX9_findOrder_20 : decode cX9_findOrder 20 = .ok (.iinc 1 1, 3) := by decide +kernel
theorem dX9_findOrder_23 : decode cX9_findOrder 23 = .ok (.goto (-17), 3) := by decide +kernel
theorem dX9_findOrder_26 : decode cX9_findOrder 26 = .ok (.aload_n 0, 1) := by decide +kernel
theorem dX9_findOrder_27 : decode cX9_findOrder 27 = .ok (.iconst 0, 1) := by decide +kernel
theorem dX9_findOrder_28 : decode cX9_findOrder 28 = .ok (.putfield 201, 3) := by decide +kernel
theorem dX9_findOrder_31 : decode cX9_findOrder 31 = .ok (.aload_n 0, 1) := by decide +kernel
theorem dX9_findOrder_32 : decode cX9_findOrder 32 = .ok (.iconst 0, 1) := by decide +kernel
theorem dX9_findOrder_33 : decode cX9_findOrder 33 = .ok (.putfield 216, 3) := by decide +kernel
theorem dX9_findOrder_36 : decode cX9_findOrder 36 = .ok (.aload_n 0, 1) := by decide +kernel
theorem dX9_findOrder_37 : decode cX9_findOrder 37 = .ok (.invokevirtual 133, 3) := by decide +kernel
theorem dX9_findOrder_40 : decode cX9_findOrder 40 = .ok (.istore_n 1, 1) := by decide +kernel
theorem dX9_findOrder_41 : decode cX9_findOrder 41 = .ok (.aload_n 0, 1) := by decide +kernel
theorem dX9_findOrder_42 : decode cX9_findOrder 42 = .ok (.getfield 201, 3) := by decide +kernel
theorem dX9_findOrder_45 : decode cX9_findOrder 45 = .ok (.iload_n 1, 1) := by decide +kernel
theorem dX9_findOrder_46 : decode cX9_findOrder 46 = .ok (.if_icmp .ge 116, 3) := by decide +kernel
theorem dX9_findOrder_49 : decode cX9_findOrder 49 = .ok (.iconst 0, 1) := by decide +kernel
theorem dX9_findOrder_50 : decode cX9_findOrder 50 = .ok (.istore_n 2, 1) := by decide +kernel
theorem dX9_findOrder_51 : decode cX9_findOrder 51 = .ok (.aload_n 0, 1) := by decide +kernel
theorem dX9_findOrder_52 : decode cX9_findOrder 52 = .ok (.getfield 7, 3) := by decide +kernel
theorem dX9_findOrder_55 : decode cX9_findOrder 55 = .ok (.iload_n 2, 1) := by decide +kernel
theorem dX9_findOrder_56 : decode cX9_findOrder 56 = .ok (.baload, 1) := by decide +kernel
theorem dX9_findOrder_57 : decode cX9_findOrder 57 = .ok (.ifCond .eq 22, 3) := by decide +kernel
theorem dX9_findOrder_60 : decode cX9_findOrder 60 = .ok (.aload_n 0, 1) := by decide +kernel
theorem dX9_findOrder_61 : decode cX9_findOrder 61 = .ok (.getfield 90, 3) := by decide +kernel
theorem dX9_findOrder_64 : decode cX9_findOrder 64 = .ok (.iload_n 2, 1) := by decide +kernel
theorem dX9_findOrder_65 : decode cX9_findOrder 65 = .ok (.iaload, 1) := by decide +kernel
theorem dX9_findOrder_66 : decode cX9_findOrder 66 = .ok (.bipush (-5), 2) := by decide +kernel
theorem dX9_findOrder_68 : decode cX9_findOrder 68 = .ok (.if_icmp .ne 11, 3) := by decide +kernel
theorem dX9_findOrder_71 : decode cX9_findOrder 71 = .ok (.aload_n 0, 1) := by decide +kernel
theorem dX9_findOrder_72 : decode cX9_findOrder 72 = .ok (.iload_n 2, 1) := by decide +kernel
theorem dX9_findOrder_73 : decode cX9_findOrder 73 = .ok (.invokevirtual 219, 3) := by decide +kernel
theorem dX9_findOrder_76 : decode cX9_findOrder 76 = .ok (.ifCond .ne 9, 3) := by decide +kernel
theorem dX9_findOrder_79 : decode cX9_findOrder 79 = .ok (.iinc 2 1, 3) := by decide +kernel
theorem dX9_findOrder_82 : decode cX9_findOrder 82 = .ok (.goto (-31), 3) := by decide +kernel
theorem dX9_findOrder_85 : decode cX9_findOrder 85 = .ok (.iload_n 2, 1) := by decide +kernel
theorem dX9_findOrder_86 : decode cX9_findOrder 86 = .ok (.istore_n 3, 1) := by decide +kernel
theorem dX9_findOrder_87 : decode cX9_findOrder 87 = .ok (.iload_n 3, 1) := by decide +kernel
theorem dX9_findOrder_88 : decode cX9_findOrder 88 = .ok (.aload_n 0, 1) := by decide +kernel
theorem dX9_findOrder_89 : decode cX9_findOrder 89 = .ok (.getfield 103, 3) := by decide +kernel
theorem dX9_findOrder_92 : decode cX9_findOrder 92 = .ok (.if_icmp .ge 57, 3) := by decide +kernel
theorem dX9_findOrder_95 : decode cX9_findOrder 95 = .ok (.aload_n 0, 1) := by decide +kernel
theorem dX9_findOrder_96 : decode cX9_findOrder 96 = .ok (.getfield 7, 3) := by decide +kernel
theorem dX9_findOrder_99 : decode cX9_findOrder 99 = .ok (.iload_n 3, 1) := by decide +kernel
theorem dX9_findOrder_100 : decode cX9_findOrder 100 = .ok (.baload, 1) := by decide +kernel
theorem dX9_findOrder_101 : decode cX9_findOrder 101 = .ok (.ifCond .eq 42, 3) := by decide +kernel
theorem dX9_findOrder_104 : decode cX9_findOrder 104 = .ok (.aload_n 0, 1) := by decide +kernel
theorem dX9_findOrder_105 : decode cX9_findOrder 105 = .ok (.iload_n 2, 1) := by decide +kernel
theorem dX9_findOrder_106 : decode cX9_findOrder 106 = .ok (.iload_n 3, 1) := by decide +kernel
theorem dX9_findOrder_107 : decode cX9_findOrder 107 = .ok (.invokevirtual 210, 3) := by decide +kernel
theorem dX9_findOrder_110 : decode cX9_findOrder 110 = .ok (.ifCond .eq 33, 3) := by decide +kernel
theorem dX9_findOrder_113 : decode cX9_findOrder 113 = .ok (.aload_n 0, 1) := by decide +kernel
theorem dX9_findOrder_114 : decode cX9_findOrder 114 = .ok (.getfield 90, 3) := by decide +kernel
theorem dX9_findOrder_117 : decode cX9_findOrder 117 = .ok (.iload_n 3, 1) := by decide +kernel
theorem dX9_findOrder_118 : decode cX9_findOrder 118 = .ok (.aload_n 0, 1) := by decide +kernel
theorem dX9_findOrder_119 : decode cX9_findOrder 119 = .ok (.getfield 216, 3) := by decide +kernel
theorem dX9_findOrder_122 : decode cX9_findOrder 122 = .ok (.iastore, 1) := by decide +kernel
theorem dX9_findOrder_123 : decode cX9_findOrder 123 = .ok (.aload_n 0, 1) := by decide +kernel
theorem dX9_findOrder_124 : decode cX9_findOrder 124 = .ok (.getfield 93, 3) := by decide +kernel
theorem dX9_findOrder_127 : decode cX9_findOrder 127 = .ok (.aload_n 0, 1) := by decide +kernel
theorem dX9_findOrder_128 : decode cX9_findOrder 128 = .ok (.getfield 201, 3) := by decide +kernel
theorem dX9_findOrder_131 : decode cX9_findOrder 131 = .ok (.iload_n 3, 1) := by decide +kernel
theorem dX9_findOrder_132 : decode cX9_findOrder 132 = .ok (.iastore, 1) := by decide +kernel
theorem dX9_findOrder_133 : decode cX9_findOrder 133 = .ok (.aload_n 0, 1) := by decide +kernel
theorem dX9_findOrder_134 : decode cX9_findOrder 134 = .ok (.dup, 1) := by decide +kernel
theorem dX9_findOrder_135 : decode cX9_findOrder 135 = .ok (.getfield 201, 3) := by decide +kernel
theorem dX9_findOrder_138 : decode cX9_findOrder 138 = .ok (.iconst 1, 1) := by decide +kernel
theorem dX9_findOrder_139 : decode cX9_findOrder 139 = .ok (.iadd, 1) := by decide +kernel
theorem dX9_findOrder_140 : decode cX9_findOrder 140 = .ok (.putfield 201, 3) := by decide +kernel
theorem dX9_findOrder_143 : decode cX9_findOrder 143 = .ok (.iinc 3 1, 3) := by decide +kernel
theorem dX9_findOrder_146 : decode cX9_findOrder 146 = .ok (.goto (-59), 3) := by decide +kernel
theorem dX9_findOrder_149 : decode cX9_findOrder 149 = .ok (.aload_n 0, 1) := by decide +kernel
theorem dX9_findOrder_150 : decode cX9_findOrder 150 = .ok (.dup, 1) := by decide +kernel
theorem dX9_findOrder_151 : decode cX9_findOrder 151 = .ok (.getfield 216, 3) := by decide +kernel
theorem dX9_findOrder_154 : decode cX9_findOrder 154 = .ok (.iconst 1, 1) := by decide +kernel
theorem dX9_findOrder_155 : decode cX9_findOrder 155 = .ok (.iadd, 1) := by decide +kernel
theorem dX9_findOrder_156 : decode cX9_findOrder 156 = .ok (.putfield 216, 3) := by decide +kernel
theorem dX9_findOrder_159 : decode cX9_findOrder 159 = .ok (.goto (-118), 3) := by decide +kernel
theorem dX9_findOrder_162 : decode cX9_findOrder 162 = .ok (.return_, 1) := by decide +kernel
theorem dX9_coarse_0 : decode cX9_coarse 0 = .ok (.aload_n 0, 1) := by decide +kernel
theorem dX9_coarse_1 : decode cX9_coarse 1 = .ok (.iconst 0, 1) := by decide +kernel
theorem dX9_coarse_2 : decode cX9_coarse 2 = .ok (.putfield 99, 3) := by decide +kernel
theorem dX9_coarse_5 : decode cX9_coarse 5 = .ok (.aload_n 0, 1) := by decide +kernel
theorem dX9_coarse_6 : decode cX9_coarse 6 = .ok (.invokevirtual 213, 3) := by decide +kernel
theorem dX9_coarse_9 : decode cX9_coarse 9 = .ok (.aload_n 0, 1) := by decide +kernel
theorem dX9_coarse_10 : decode cX9_coarse 10 = .ok (.invokevirtual 146, 3) := by decide +kernel
theorem dX9_coarse_13 : decode cX9_coarse 13 = .ok (.iconst 0, 1) := by decide +kernel
theorem dX9_coarse_14 : decode cX9_coarse 14 = .ok (.istore_n 1, 1) := by decide +kernel
theorem dX9_coarse_15 : decode cX9_coarse 15 = .ok (.iload_n 1, 1) := by decide +kernel
theorem dX9_coarse_16 : decode cX9_coarse 16 = .ok (.aload_n 0, 1) := by decide +kernel
theorem dX9_coarse_17 : decode cX9_coarse 17 = .ok (.getfield 103, 3) := by decide +kernel
theorem dX9_coarse_20 : decode cX9_coarse 20 = .ok (.if_icmp .ge 46, 3) := by decide +kernel
theorem dX9_coarse_23 : decode cX9_coarse 23 = .ok (.aload_n 0, 1) := by decide +kernel
theorem dX9_coarse_24 : decode cX9_coarse 24 = .ok (.getfield 96, 3) := by decide +kernel
theorem dX9_coarse_27 : decode cX9_coarse 27 = .ok (.iload_n 1, 1) := by decide +kernel
theorem dX9_coarse_28 : decode cX9_coarse 28 = .ok (.iconst 0, 1) := by decide +kernel
theorem dX9_coarse_29 : decode cX9_coarse 29 = .ok (.bastore, 1) := by decide +kernel
theorem dX9_coarse_30 : decode cX9_coarse 30 = .ok (.aload_n 0, 1) := by decide +kernel
theorem dX9_coarse_31 : decode cX9_coarse 31 = .ok (.getfield 7, 3) := by decide +kernel
theorem dX9_coarse_34 : decode cX9_coarse 34 = .ok (.iload_n 1, 1) := by decide +kernel
theorem dX9_coarse_35 : decode cX9_coarse 35 = .ok (.baload, 1) := by decide +kernel
theorem dX9_coarse_36 : decode cX9_coarse 36 = .ok (.ifCond .eq 24, 3) := by decide +kernel
theorem dX9_coarse_39 : decode cX9_coarse 39 = .ok (.aload_n 0, 1) := by decide +kernel
theorem dX9_coarse_40 : decode cX9_coarse 40 = .ok (.iload_n 1, 1) := by decide +kernel
theorem dX9_coarse_41 : decode cX9_coarse 41 = .ok (.invokevirtual 182, 3) := by decide +kernel
theorem dX9_coarse_44 : decode cX9_coarse 44 = .ok (.aload_n 0, 1) := by decide +kernel
theorem dX9_coarse_45 : decode cX9_coarse 45 = .ok (.getfield 96, 3) := by decide +kernel
theorem dX9_coarse_48 : decode cX9_coarse 48 = .ok (.iload_n 1, 1) := by decide +kernel
theorem dX9_coarse_49 : decode cX9_coarse 49 = .ok (.aload_n 0, 1) := by decide +kernel
theorem dX9_coarse_50 : decode cX9_coarse 50 = .ok (.iload_n 1, 1) := by decide +kernel
theorem dX9_coarse_51 : decode cX9_coarse 51 = .ok (.invokevirtual 191, 3) := by decide +kernel
theorem dX9_coarse_54 : decode cX9_coarse 54 = .ok (.iconst 1, 1) := by decide +kernel
theorem dX9_coarse_55 : decode cX9_coarse 55 = .ok (.iconst 2, 1) := by decide +kernel
theorem dX9_coarse_56 : decode cX9_coarse 56 = .ok (.invokestatic 106, 3) := by decide +kernel
theorem dX9_coarse_59 : decode cX9_coarse 59 = .ok (.bastore, 1) := by decide +kernel
theorem dX9_coarse_60 : decode cX9_coarse 60 = .ok (.iinc 1 1, 3) := by decide +kernel
theorem dX9_coarse_63 : decode cX9_coarse 63 = .ok (.goto (-48), 3) := by decide +kernel
theorem dX9_coarse_66 : decode cX9_coarse 66 = .ok (.iconst 0, 1) := by decide +kernel
theorem dX9_coarse_67 : decode cX9_coarse 67 = .ok (.istore_n 1, 1) := by decide +kernel
theorem dX9_coarse_68 : decode cX9_coarse 68 = .ok (.iconst 0, 1) := by decide +kernel
theorem dX9_coarse_69 : decode cX9_coarse 69 = .ok (.istore_n 2, 1) := by decide +kernel
theorem dX9_coarse_70 : decode cX9_coarse 70 = .ok (.iload_n 2, 1) := by decide +kernel
theorem dX9_coarse_71 : decode cX9_coarse 71 = .ok (.aload_n 0, 1) := by decide +kernel
theorem dX9_coarse_72 : decode cX9_coarse 72 = .ok (.getfield 103, 3) := by decide +kernel
theorem dX9_coarse_75 : decode cX9_coarse 75 = .ok (.if_icmp .ge 90, 3) := by decide +kernel
theorem dX9_coarse_78 : decode cX9_coarse 78 = .ok (.aload_n 0, 1) := by decide +kernel
theorem dX9_coarse_79 : decode cX9_coarse 79 = .ok (.getfield 96, 3) := by decide +kernel
theorem dX9_coarse_82 : decode cX9_coarse 82 = .ok (.iload_n 2, 1) := by decide +kernel
theorem dX9_coarse_83 : decode cX9_coarse 83 = .ok (.baload, 1) := by decide +kernel
theorem dX9_coarse_84 : decode cX9_coarse 84 = .ok (.istore_n 3, 1) := by decide +kernel
theorem dX9_coarse_85 : decode cX9_coarse 85 = .ok (.iconst 0, 1) := by decide +kernel
theorem dX9_coarse_86 : decode cX9_coarse 86 = .ok (.istore 4, 2) := by decide +kernel
theorem dX9_coarse_88 : decode cX9_coarse 88 = .ok (.iload 4, 2) := by decide +kernel
theorem dX9_coarse_90 : decode cX9_coarse 90 = .ok (.aload_n 0, 1) := by decide +kernel
theorem dX9_coarse_91 : decode cX9_coarse 91 = .ok (.getfield 103, 3) := by decide +kernel
theorem dX9_coarse_94 : decode cX9_coarse 94 = .ok (.if_icmp .ge 53, 3) := by decide +kernel
theorem dX9_coarse_97 : decode cX9_coarse 97 = .ok (.iload_n 3, 1) := by decide +kernel
theorem dX9_coarse_98 : decode cX9_coarse 98 = .ok (.ifCond .ne 37, 3) := by decide +kernel
theorem dX9_coarse_101 : decode cX9_coarse 101 = .ok (.aload_n 0, 1) := by decide +kernel
theorem dX9_coarse_102 : decode cX9_coarse 102 = .ok (.getfield 7, 3) := by decide +kernel
theorem dX9_coarse_105 : decode cX9_coarse 105 = .ok (.iload_n 2, 1) := by decide +kernel
theorem dX9_coarse_106 : decode cX9_coarse 106 = .ok (.baload, 1) := by decide +kernel
theorem dX9_coarse_107 : decode cX9_coarse 107 = .ok (.ifCond .eq 32, 3) := by decide +kernel
theorem dX9_coarse_110 : decode cX9_coarse 110 = .ok (.aload_n 0, 1) := by decide +kernel
theorem dX9_coarse_111 : decode cX9_coarse 111 = .ok (.getfield 96, 3) := by decide +kernel
theorem dX9_coarse_114 : decode cX9_coarse 114 = .ok (.iload 4, 2) := by decide +kernel
theorem dX9_coarse_116 : decode cX9_coarse 116 = .ok (.baload, 1) := by decide +kernel
theorem dX9_coarse_117 : decode cX9_coarse 117 = .ok (.ifCond .eq 22, 3) := by decide +kernel
theorem dX9_coarse_120 : decode cX9_coarse 120 = .ok (.aload_n 0, 1) := by decide +kernel
theorem dX9_coarse_121 : decode cX9_coarse 121 = .ok (.getfield 87, 3) := by decide +kernel
theorem dX9_coarse_124 : decode cX9_coarse 124 = .ok (.bipush 16, 2) := by decide +kernel
theorem dX9_coarse_126 : decode cX9_coarse 126 = .ok (.iload_n 2, 1) := by decide +kernel
theorem dX9_coarse_127 : decode cX9_coarse 127 = .ok (.imul, 1) := by decide +kernel
theorem dX9_coarse_128 : decode cX9_coarse 128 = .ok (.iload 4, 2) := by decide +kernel
theorem dX9_coarse_130 : decode cX9_coarse 130 = .ok (.iadd, 1) := by decide +kernel
theorem dX9_coarse_131 : decode cX9_coarse 131 = .ok (.baload, 1) := by decide +kernel
theorem dX9_coarse_132 : decode cX9_coarse 132 = .ok (.ifCond .eq 7, 3) := by decide +kernel
theorem dX9_coarse_135 : decode cX9_coarse 135 = .ok (.iconst 1, 1) := by decide +kernel
theorem dX9_coarse_136 : decode cX9_coarse 136 = .ok (.goto 4, 3) := by decide +kernel
theorem dX9_coarse_139 : decode cX9_coarse 139 = .ok (.iconst 0, 1) := by decide +kernel
theorem dX9_coarse_140 : decode cX9_coarse 140 = .ok (.istore_n 3, 1) := by decide +kernel
theorem dX9_coarse_141 : decode cX9_coarse 141 = .ok (.iinc 4 1, 3) := by decide +kernel
theorem dX9_coarse_144 : decode cX9_coarse 144 = .ok (.goto (-56), 3) := by decide +kernel
theorem dX9_coarse_147 : decode cX9_coarse 147 = .ok (.iload_n 1, 1) := by decide +kernel
theorem dX9_coarse_148 : decode cX9_coarse 148 = .ok (.iload_n 3, 1) := by decide +kernel
theorem dX9_coarse_149 : decode cX9_coarse 149 = .ok (.ifCond .eq 7, 3) := by decide +kernel
theorem dX9_coarse_152 : decode cX9_coarse 152 = .ok (.iconst 1, 1) := by decide +kernel
theorem dX9_coarse_153 : decode cX9_coarse 153 = .ok (.goto 4, 3) := by decide +kernel
theorem dX9_coarse_156 : decode cX9_coarse 156 = .ok (.iconst 0, 1) := by decide +kernel
theorem dX9_coarse_157 : decode cX9_coarse 157 = .ok (.iadd, 1) := by decide +kernel
theorem dX9_coarse_158 : decode cX9_coarse 158 = .ok (.istore_n 1, 1) := by decide +kernel
theorem dX9_coarse_159 : decode cX9_coarse 159 = .ok (.iinc 2 1, 3) := by decide +kernel
theorem dX9_coarse_162 : decode cX9_coarse 162 = .ok (.goto (-92), 3) := by decide +kernel
theorem dX9_coarse_165 : decode cX9_coarse 165 = .ok (.iload_n 1, 1) := by decide +kernel
theorem dX9_coarse_166 : decode cX9_coarse 166 = .ok (.ireturn, 1) := by decide +kernel
theorem dX9_order_0 : decode cX9_order 0 = .ok (.aload_n 0, 1) := by decide +kernel
theorem dX9_order_1 : decode cX9_order 1 = .ok (.iconst 0, 1) := by decide +kernel
theorem dX9_order_2 : decode cX9_order 2 = .ok (.putfield 99, 3) := by decide +kernel
theorem dX9_order_5 : decode cX9_order 5 = .ok (.aload_n 0, 1) := by decide +kernel
theorem dX9_order_6 : decode cX9_order 6 = .ok (.invokevirtual 198, 3) := by decide +kernel
theorem dX9_order_9 : decode cX9_order 9 = .ok (.aload_n 0, 1) := by decide +kernel
theorem dX9_order_10 : decode cX9_order 10 = .ok (.iload_n 1, 1) := by decide +kernel
theorem dX9_order_11 : decode cX9_order 11 = .ok (.iconst 0, 1) := by decide +kernel
theorem dX9_order_12 : decode cX9_order 12 = .ok (.aload_n 0, 1) := by decide +kernel
theorem dX9_order_13 : decode cX9_order 13 = .ok (.getfield 201, 3) := by decide +kernel
theorem dX9_order_16 : decode cX9_order 16 = .ok (.iconst 1, 1) := by decide +kernel
theorem dX9_order_17 : decode cX9_order 17 = .ok (.isub, 1) := by decide +kernel
theorem dX9_order_18 : decode cX9_order 18 = .ok (.invokestatic 106, 3) := by decide +kernel
theorem dX9_order_21 : decode cX9_order 21 = .ok (.ifCond .eq 7, 3) := by decide +kernel
theorem dX9_order_24 : decode cX9_order 24 = .ok (.iconst 0, 1) := by decide +kernel
theorem dX9_order_25 : decode cX9_order 25 = .ok (.goto 4, 3) := by decide +kernel
theorem dX9_order_28 : decode cX9_order 28 = .ok (.iconst 1, 1) := by decide +kernel
theorem dX9_order_29 : decode cX9_order 29 = .ok (.putfield 99, 3) := by decide +kernel
theorem dX9_order_32 : decode cX9_order 32 = .ok (.aload_n 0, 1) := by decide +kernel
theorem dX9_order_33 : decode cX9_order 33 = .ok (.getfield 99, 3) := by decide +kernel
theorem dX9_order_36 : decode cX9_order 36 = .ok (.ifCond .ne 12, 3) := by decide +kernel
theorem dX9_order_39 : decode cX9_order 39 = .ok (.aload_n 0, 1) := by decide +kernel
theorem dX9_order_40 : decode cX9_order 40 = .ok (.getfield 93, 3) := by decide +kernel
theorem dX9_order_43 : decode cX9_order 43 = .ok (.iload_n 1, 1) := by decide +kernel
theorem dX9_order_44 : decode cX9_order 44 = .ok (.iaload, 1) := by decide +kernel
theorem dX9_order_45 : decode cX9_order 45 = .ok (.goto 4, 3) := by decide +kernel
theorem dX9_order_48 : decode cX9_order 48 = .ok (.iconst 0, 1) := by decide +kernel
theorem dX9_order_49 : decode cX9_order 49 = .ok (.ireturn, 1) := by decide +kernel
theorem dX9_ring_0 : decode cX9_ring 0 = .ok (.aload_n 0, 1) := by decide +kernel
theorem dX9_ring_1 : decode cX9_ring 1 = .ok (.iconst 0, 1) := by decide +kernel
theorem dX9_ring_2 : decode cX9_ring 2 = .ok (.putfield 99, 3) := by decide +kernel
theorem dX9_ring_5 : decode cX9_ring 5 = .ok (.aload_n 0, 1) := by decide +kernel
theorem dX9_ring_6 : decode cX9_ring 6 = .ok (.iload_n 1, 1) := by decide +kernel
theorem dX9_ring_7 : decode cX9_ring 7 = .ok (.invokevirtual 110, 3) := by decide +kernel
theorem dX9_ring_10 : decode cX9_ring 10 = .ok (.ifCond .ne 5, 3) := by decide +kernel
theorem dX9_ring_13 : decode cX9_ring 13 = .ok (.iconst (-1), 1) := by decide +kernel
theorem dX9_ring_14 : decode cX9_ring 14 = .ok (.ireturn, 1) := by decide +kernel
theorem dX9_ring_15 : decode cX9_ring 15 = .ok (.aload_n 0, 1) := by decide +kernel
theorem dX9_ring_16 : decode cX9_ring 16 = .ok (.invokevirtual 198, 3) := by decide +kernel
theorem dX9_ring_19 : decode cX9_ring 19 = .ok (.aload_n 0, 1) := by decide +kernel
theorem dX9_ring_20 : decode cX9_ring 20 = .ok (.getfield 90, 3) := by decide +kernel
theorem dX9_ring_23 : decode cX9_ring 23 = .ok (.iload_n 1, 1) := by decide +kernel
theorem dX9_ring_24 : decode cX9_ring 24 = .ok (.iaload, 1) := by decide +kernel
theorem dX9_ring_25 : decode cX9_ring 25 = .ok (.ireturn, 1) := by decide +kernel
theorem dX9_leads_0 : decode cX9_leads 0 = .ok (.aload_n 0, 1) := by decide +kernel
theorem dX9_leads_1 : decode cX9_leads 1 = .ok (.iconst 0, 1) := by decide +kernel
theorem dX9_leads_2 : decode cX9_leads 2 = .ok (.putfield 99, 3) := by decide +kernel
theorem dX9_leads_5 : decode cX9_leads 5 = .ok (.aload_n 0, 1) := by decide +kernel
theorem dX9_leads_6 : decode cX9_leads 6 = .ok (.iload_n 1, 1) := by decide +kernel
theorem dX9_leads_7 : decode cX9_leads 7 = .ok (.invokevirtual 110, 3) := by decide +kernel
theorem dX9_leads_10 : decode cX9_leads 10 = .ok (.ifCond .eq 11, 3) := by decide +kernel
theorem dX9_leads_13 : decode cX9_leads 13 = .ok (.aload_n 0, 1) := by decide +kernel
theorem dX9_leads_14 : decode cX9_leads 14 = .ok (.iload_n 2, 1) := by decide +kernel
theorem dX9_leads_15 : decode cX9_leads 15 = .ok (.invokevirtual 110, 3) := by decide +kernel
theorem dX9_leads_18 : decode cX9_leads 18 = .ok (.ifCond .ne 5, 3) := by decide +kernel
theorem dX9_leads_21 : decode cX9_leads 21 = .ok (.iconst (-1), 1) := by decide +kernel
theorem dX9_leads_22 : decode cX9_leads 22 = .ok (.ireturn, 1) := by decide +kernel
theorem dX9_leads_23 : decode cX9_leads 23 = .ok (.aload_n 0, 1) := by decide +kernel
theorem dX9_leads_24 : decode cX9_leads 24 = .ok (.invokevirtual 213, 3) := by decide +kernel
theorem dX9_leads_27 : decode cX9_leads 27 = .ok (.aload_n 0, 1) := by decide +kernel
theorem dX9_leads_28 : decode cX9_leads 28 = .ok (.getfield 87, 3) := by decide +kernel
theorem dX9_leads_31 : decode cX9_leads 31 = .ok (.bipush 16, 2) := by decide +kernel
theorem dX9_leads_33 : decode cX9_leads 33 = .ok (.iload_n 1, 1) := by decide +kernel
theorem dX9_leads_34 : decode cX9_leads 34 = .ok (.imul, 1) := by decide +kernel
theorem dX9_leads_35 : decode cX9_leads 35 = .ok (.iload_n 2, 1) := by decide +kernel
theorem dX9_leads_36 : decode cX9_leads 36 = .ok (.iadd, 1) := by decide +kernel
theorem dX9_leads_37 : decode cX9_leads 37 = .ok (.baload, 1) := by decide +kernel
theorem dX9_leads_38 : decode cX9_leads 38 = .ok (.ifCond .eq 7, 3) := by decide +kernel
theorem dX9_leads_41 : decode cX9_leads 41 = .ok (.iconst 1, 1) := by decide +kernel
theorem dX9_leads_42 : decode cX9_leads 42 = .ok (.goto 4, 3) := by decide +kernel
theorem dX9_leads_45 : decode cX9_leads 45 = .ok (.iconst 0, 1) := by decide +kernel
theorem dX9_leads_46 : decode cX9_leads 46 = .ok (.ireturn, 1) := by decide +kernel
theorem dX9_count_0 : decode cX9_count 0 = .ok (.aload_n 0, 1) := by decide +kernel
theorem dX9_count_1 : decode cX9_count 1 = .ok (.iconst 0, 1) := by decide +kernel
theorem dX9_count_2 : decode cX9_count 2 = .ok (.putfield 99, 3) := by decide +kernel
theorem dX9_count_5 : decode cX9_count 5 = .ok (.aload_n 0, 1) := by decide +kernel
theorem dX9_count_6 : decode cX9_count 6 = .ok (.invokevirtual 198, 3) := by decide +kernel
theorem dX9_count_9 : decode cX9_count 9 = .ok (.iconst 0, 1) := by decide +kernel
theorem dX9_count_10 : decode cX9_count 10 = .ok (.istore_n 2, 1) := by decide +kernel
theorem dX9_count_11 : decode cX9_count 11 = .ok (.iconst 1, 1) := by decide +kernel
theorem dX9_count_12 : decode cX9_count 12 = .ok (.istore_n 3, 1) := by decide +kernel
theorem dX9_count_13 : decode cX9_count 13 = .ok (.iload_n 3, 1) := by decide +kernel
theorem dX9_count_14 : decode cX9_count 14 = .ok (.aload_n 0, 1) := by decide +kernel
theorem dX9_count_15 : decode cX9_count 15 = .ok (.getfield 201, 3) := by decide +kernel
theorem dX9_count_18 : decode cX9_count 18 = .ok (.if_icmp .ge 88, 3) := by decide +kernel
theorem dX9_count_21 : decode cX9_count 21 = .ok (.iload_n 3, 1) := by decide +kernel
theorem dX9_count_22 : decode cX9_count 22 = .ok (.iconst 1, 1) := by decide +kernel
theorem dX9_count_23 : decode cX9_count 23 = .ok (.if_icmp .eq 30, 3) := by decide +kernel
theorem dX9_count_26 : decode cX9_count 26 = .ok (.aload_n 0, 1) := by decide +kernel
theorem dX9_count_27 : decode cX9_count 27 = .ok (.getfield 90, 3) := by decide +kernel
theorem dX9_count_30 : decode cX9_count 30 = .ok (.aload_n 0, 1) := by decide +kernel
theorem dX9_count_31 : decode cX9_count 31 = .ok (.getfield 93, 3) := by decide +kernel
theorem dX9_count_34 : decode cX9_count 34 = .ok (.iload_n 3, 1) := by decide +kernel
theorem dX9_count_35 : decode cX9_count 35 = .ok (.iconst 2, 1) := by decide +kernel
theorem dX9_count_36 : decode cX9_count 36 = .ok (.isub, 1) := by decide +kernel
theorem dX9_count_37 : decode cX9_count 37 = .ok (.iaload, 1) := by decide +kernel
theorem dX9_count_38 : decode cX9_count 38 = .ok (.iaload, 1) := by decide +kernel
theorem dX9_count_39 : decode cX9_count 39 = .ok (.aload_n 0, 1) := by decide +kernel
theorem dX9_count_40 : decode cX9_count 40 = .ok (.getfield 90, 3) := by decide +kernel
theorem dX9_count_43 : decode cX9_count 43 = .ok (.aload_n 0, 1) := by decide +kernel
theorem dX9_count_44 : decode cX9_count 44 = .ok (.getfield 93, 3) := by decide +kernel
theorem dX9_count_47 : decode cX9_count 47 = .ok (.iload_n 3, 1) := by decide +kernel
theorem dX9_count_48 : decode cX9_count 48 = .ok (.iaload, 1) := by decide +kernel
theorem dX9_count_49 : decode cX9_count 49 = .ok (.iaload, 1) := by decide +kernel
theorem dX9_count_50 : decode cX9_count 50 = .ok (.if_icmp .eq 7, 3) := by decide +kernel
theorem dX9_count_53 : decode cX9_count 53 = .ok (.iconst 1, 1) := by decide +kernel
theorem dX9_count_54 : decode cX9_count 54 = .ok (.goto 4, 3) := by decide +kernel
theorem dX9_count_57 : decode cX9_count 57 = .ok (.iconst 0, 1) := by decide +kernel
theorem dX9_count_58 : decode cX9_count 58 = .ok (.istore 4, 2) := by decide +kernel
theorem dX9_count_60 : decode cX9_count 60 = .ok (.iload_n 2, 1) := by decide +kernel
theorem dX9_count_61 : decode cX9_count 61 = .ok (.aload_n 0, 1) := by decide +kernel
theorem dX9_count_62 : decode cX9_count 62 = .ok (.getfield 90, 3) := by decide +kernel
theorem dX9_count_65 : decode cX9_count 65 = .ok (.aload_n 0, 1) := by decide +kernel
theorem dX9_count_66 : decode cX9_count 66 = .ok (.getfield 93, 3) := by decide +kernel
theorem dX9_count_69 : decode cX9_count 69 = .ok (.iload_n 3, 1) := by decide +kernel
theorem dX9_count_70 : decode cX9_count 70 = .ok (.iaload, 1) := by decide +kernel
theorem dX9_count_71 : decode cX9_count 71 = .ok (.iaload, 1) := by decide +kernel
theorem dX9_count_72 : decode cX9_count 72 = .ok (.aload_n 0, 1) := by decide +kernel
theorem dX9_count_73 : decode cX9_count 73 = .ok (.getfield 90, 3) := by decide +kernel
theorem dX9_count_76 : decode cX9_count 76 = .ok (.aload_n 0, 1) := by decide +kernel
theorem dX9_count_77 : decode cX9_count 77 = .ok (.getfield 93, 3) := by decide +kernel
theorem dX9_count_80 : decode cX9_count 80 = .ok (.iload_n 3, 1) := by decide +kernel
theorem dX9_count_81 : decode cX9_count 81 = .ok (.iconst 1, 1) := by decide +kernel
theorem dX9_count_82 : decode cX9_count 82 = .ok (.isub, 1) := by decide +kernel
theorem dX9_count_83 : decode cX9_count 83 = .ok (.iaload, 1) := by decide +kernel
theorem dX9_count_84 : decode cX9_count 84 = .ok (.iaload, 1) := by decide +kernel
theorem dX9_count_85 : decode cX9_count 85 = .ok (.if_icmp .ne 12, 3) := by decide +kernel
theorem dX9_count_88 : decode cX9_count 88 = .ok (.iload 4, 2) := by decide +kernel
theorem dX9_count_90 : decode cX9_count 90 = .ok (.ifCond .eq 7, 3) := by decide +kernel
theorem dX9_count_93 : decode cX9_count 93 = .ok (.iconst 1, 1) := by decide +kernel
theorem dX9_count_94 : decode cX9_count 94 = .ok (.goto 4, 3) := by decide +kernel
theorem dX9_count_97 : decode cX9_count 97 = .ok (.iconst 0, 1) := by decide +kernel
theorem dX9_count_98 : decode cX9_count 98 = .ok (.iadd, 1) := by decide +kernel
theorem dX9_count_99 : decode cX9_count 99 = .ok (.istore_n 2, 1) := by decide +kernel
theorem dX9_count_100 : decode cX9_count 100 = .ok (.iinc 3 1, 3) := by decide +kernel
theorem dX9_count_103 : decode cX9_count 103 = .ok (.goto (-90), 3) := by decide +kernel
theorem dX9_count_106 : decode cX9_count 106 = .ok (.iload_n 1, 1) := by decide +kernel
theorem dX9_count_107 : decode cX9_count 107 = .ok (.tableswitch 55 0 4 #[33, 38, 43, 48, 50], 33) := by decide +kernel
theorem dX9_count_140 : decode cX9_count 140 = .ok (.aload_n 0, 1) := by decide +kernel
theorem dX9_count_141 : decode cX9_count 141 = .ok (.getfield 201, 3) := by decide +kernel
theorem dX9_count_144 : decode cX9_count 144 = .ok (.ireturn, 1) := by decide +kernel
theorem dX9_count_145 : decode cX9_count 145 = .ok (.aload_n 0, 1) := by decide +kernel
theorem dX9_count_146 : decode cX9_count 146 = .ok (.getfield 103, 3) := by decide +kernel
theorem dX9_count_149 : decode cX9_count 149 = .ok (.ireturn, 1) := by decide +kernel
theorem dX9_count_150 : decode cX9_count 150 = .ok (.aload_n 0, 1) := by decide +kernel
theorem dX9_count_151 : decode cX9_count 151 = .ok (.getfield 216, 3) := by decide +kernel
theorem dX9_count_154 : decode cX9_count 154 = .ok (.ireturn, 1) := by decide +kernel
theorem dX9_count_155 : decode cX9_count 155 = .ok (.iload_n 2, 1) := by decide +kernel
theorem dX9_count_156 : decode cX9_count 156 = .ok (.ireturn, 1) := by decide +kernel
theorem dX9_count_157 : decode cX9_count 157 = .ok (.aload_n 0, 1) := by decide +kernel
theorem dX9_count_158 : decode cX9_count 158 = .ok (.getfield 195, 3) := by decide +kernel
theorem dX9_count_161 : decode cX9_count 161 = .ok (.ireturn, 1) := by decide +kernel
theorem dX9_count_162 : decode cX9_count 162 = .ok (.bipush (-2), 2) := by decide +kernel
theorem dX9_count_164 : decode cX9_count 164 = .ok (.ireturn, 1) := by decide +kernel
theorem dX9_clear_0 : decode cX9_clear 0 = .ok (.aload_n 0, 1) := by decide +kernel
theorem dX9_clear_1 : decode cX9_clear 1 = .ok (.iconst 0, 1) := by decide +kernel
theorem dX9_clear_2 : decode cX9_clear 2 = .ok (.putfield 99, 3) := by decide +kernel
theorem dX9_clear_5 : decode cX9_clear 5 = .ok (.aload_n 0, 1) := by decide +kernel
theorem dX9_clear_6 : decode cX9_clear 6 = .ok (.invokevirtual 133, 3) := by decide +kernel
theorem dX9_clear_9 : decode cX9_clear 9 = .ok (.istore_n 1, 1) := by decide +kernel
theorem dX9_clear_10 : decode cX9_clear 10 = .ok (.aload_n 0, 1) := by decide +kernel
theorem dX9_clear_11 : decode cX9_clear 11 = .ok (.iconst 0, 1) := by decide +kernel
theorem dX9_clear_12 : decode cX9_clear 12 = .ok (.putfield 103, 3) := by decide +kernel
theorem dX9_clear_15 : decode cX9_clear 15 = .ok (.aload_n 0, 1) := by decide +kernel
theorem dX9_clear_16 : decode cX9_clear 16 = .ok (.iconst 0, 1) := by decide +kernel
theorem dX9_clear_17 : decode cX9_clear 17 = .ok (.putfield 195, 3) := by decide +kernel
theorem dX9_clear_20 : decode cX9_clear 20 = .ok (.iconst 0, 1) := by decide +kernel
theorem dX9_clear_21 : decode cX9_clear 21 = .ok (.istore_n 2, 1) := by decide +kernel
theorem dX9_clear_22 : decode cX9_clear 22 = .ok (.iload_n 2, 1) := by decide +kernel
theorem dX9_clear_23 : decode cX9_clear 23 = .ok (.bipush 16, 2) := by decide +kernel
theorem dX9_clear_25 : decode cX9_clear 25 = .ok (.if_icmp .ge 16, 3) := by decide +kernel
theorem dX9_clear_28 : decode cX9_clear 28 = .ok (.aload_n 0, 1) := by decide +kernel
theorem dX9_clear_29 : decode cX9_clear 29 = .ok (.getfield 7, 3) := by decide +kernel
theorem dX9_clear_32 : decode cX9_clear 32 = .ok (.iload_n 2, 1) := by decide +kernel
theorem dX9_clear_33 : decode cX9_clear 33 = .ok (.iconst 0, 1) := by decide +kernel
theorem dX9_clear_34 : decode cX9_clear 34 = .ok (.bastore, 1) := by decide +kernel
theorem dX9_clear_35 : decode cX9_clear 35 = .ok (.iinc 2 1, 3) := by decide +kernel
theorem dX9_clear_38 : decode cX9_clear 38 = .ok (.goto (-16), 3) := by decide +kernel
theorem dX9_clear_41 : decode cX9_clear 41 = .ok (.iload_n 1, 1) := by decide +kernel
theorem dX9_clear_42 : decode cX9_clear 42 = .ok (.ireturn, 1) := by decide +kernel
theorem dJx00060_init_a7421_0 : decode cJx00060_init_a7421 0 = .ok (.aload_n 0, 1) := by decide +kernel
theorem dJx00060_init_a7421_1 : decode cJx00060_init_a7421 1 = .ok (.aload_n 1, 1) := by decide +kernel
theorem dJx00060_init_a7421_2 : decode cJx00060_init_a7421 2 = .ok (.invokespecial 7, 3) := by decide +kernel
theorem dJx00060_init_a7421_5 : decode cJx00060_init_a7421 5 = .ok (.return_, 1) := by decide +kernel
theorem dJ6_bitCount_0f7a4_0 : decode cJ6_bitCount_0f7a4 0 = .ok (.iload_n 0, 1) := by decide +kernel
theorem dJ6_bitCount_0f7a4_1 : decode cJ6_bitCount_0f7a4 1 = .ok (.iload_n 0, 1) := by decide +kernel
theorem dJ6_bitCount_0f7a4_2 : decode cJ6_bitCount_0f7a4 2 = .ok (.iconst 1, 1) := by decide +kernel
theorem dJ6_bitCount_0f7a4_3 : decode cJ6_bitCount_0f7a4 3 = .ok (.iushr, 1) := by decide +kernel
theorem dJ6_bitCount_0f7a4_4 : decode cJ6_bitCount_0f7a4 4 = .ok (.ldc_w 265, 3) := by decide +kernel
theorem dJ6_bitCount_0f7a4_7 : decode cJ6_bitCount_0f7a4 7 = .ok (.iand, 1) := by decide +kernel
theorem dJ6_bitCount_0f7a4_8 : decode cJ6_bitCount_0f7a4 8 = .ok (.isub, 1) := by decide +kernel
theorem dJ6_bitCount_0f7a4_9 : decode cJ6_bitCount_0f7a4 9 = .ok (.istore_n 0, 1) := by decide +kernel
theorem dJ6_bitCount_0f7a4_10 : decode cJ6_bitCount_0f7a4 10 = .ok (.iload_n 0, 1) := by decide +kernel
theorem dJ6_bitCount_0f7a4_11 : decode cJ6_bitCount_0f7a4 11 = .ok (.ldc_w 266, 3) := by decide +kernel
theorem dJ6_bitCount_0f7a4_14 : decode cJ6_bitCount_0f7a4 14 = .ok (.iand, 1) := by decide +kernel
theorem dJ6_bitCount_0f7a4_15 : decode cJ6_bitCount_0f7a4 15 = .ok (.iload_n 0, 1) := by decide +kernel
theorem dJ6_bitCount_0f7a4_16 : decode cJ6_bitCount_0f7a4 16 = .ok (.iconst 2, 1) := by decide +kernel
theorem dJ6_bitCount_0f7a4_17 : decode cJ6_bitCount_0f7a4 17 = .ok (.iushr, 1) := by decide +kernel
theorem dJ6_bitCount_0f7a4_18 : decode cJ6_bitCount_0f7a4 18 = .ok (.ldc_w 266, 3) := by decide +kernel
theorem dJ6_bitCount_0f7a4_21 : decode cJ6_bitCount_0f7a4 21 = .ok (.iand, 1) := by decide +kernel
theorem dJ6_bitCount_0f7a4_22 : decode cJ6_bitCount_0f7a4 22 = .ok (.iadd, 1) := by decide +kernel
theorem dJ6_bitCount_0f7a4_23 : decode cJ6_bitCount_0f7a4 23 = .ok (.istore_n 0, 1) := by decide +kernel
theorem dJ6_bitCount_0f7a4_24 : decode cJ6_bitCount_0f7a4 24 = .ok (.iload_n 0, 1) := by decide +kernel
theorem dJ6_bitCount_0f7a4_25 : decode cJ6_bitCount_0f7a4 25 = .ok (.iload_n 0, 1) := by decide +kernel
theorem dJ6_bitCount_0f7a4_26 : decode cJ6_bitCount_0f7a4 26 = .ok (.iconst 4, 1) := by decide +kernel
theorem dJ6_bitCount_0f7a4_27 : decode cJ6_bitCount_0f7a4 27 = .ok (.iushr, 1) := by decide +kernel
theorem dJ6_bitCount_0f7a4_28 : decode cJ6_bitCount_0f7a4 28 = .ok (.iadd, 1) := by decide +kernel
theorem dJ6_bitCount_0f7a4_29 : decode cJ6_bitCount_0f7a4 29 = .ok (.ldc_w 267, 3) := by decide +kernel
theorem dJ6_bitCount_0f7a4_32 : decode cJ6_bitCount_0f7a4 32 = .ok (.iand, 1) := by decide +kernel
theorem dJ6_bitCount_0f7a4_33 : decode cJ6_bitCount_0f7a4 33 = .ok (.istore_n 0, 1) := by decide +kernel
theorem dJ6_bitCount_0f7a4_34 : decode cJ6_bitCount_0f7a4 34 = .ok (.iload_n 0, 1) := by decide +kernel
theorem dJ6_bitCount_0f7a4_35 : decode cJ6_bitCount_0f7a4 35 = .ok (.iload_n 0, 1) := by decide +kernel
theorem dJ6_bitCount_0f7a4_36 : decode cJ6_bitCount_0f7a4 36 = .ok (.bipush 8, 2) := by decide +kernel
theorem dJ6_bitCount_0f7a4_38 : decode cJ6_bitCount_0f7a4 38 = .ok (.iushr, 1) := by decide +kernel
theorem dJ6_bitCount_0f7a4_39 : decode cJ6_bitCount_0f7a4 39 = .ok (.iadd, 1) := by decide +kernel
theorem dJ6_bitCount_0f7a4_40 : decode cJ6_bitCount_0f7a4 40 = .ok (.istore_n 0, 1) := by decide +kernel
theorem dJ6_bitCount_0f7a4_41 : decode cJ6_bitCount_0f7a4 41 = .ok (.iload_n 0, 1) := by decide +kernel
theorem dJ6_bitCount_0f7a4_42 : decode cJ6_bitCount_0f7a4 42 = .ok (.iload_n 0, 1) := by decide +kernel
theorem dJ6_bitCount_0f7a4_43 : decode cJ6_bitCount_0f7a4 43 = .ok (.bipush 16, 2) := by decide +kernel
theorem dJ6_bitCount_0f7a4_45 : decode cJ6_bitCount_0f7a4 45 = .ok (.iushr, 1) := by decide +kernel
theorem dJ6_bitCount_0f7a4_46 : decode cJ6_bitCount_0f7a4 46 = .ok (.iadd, 1) := by decide +kernel
theorem dJ6_bitCount_0f7a4_47 : decode cJ6_bitCount_0f7a4 47 = .ok (.istore_n 0, 1) := by decide +kernel
theorem dJ6_bitCount_0f7a4_48 : decode cJ6_bitCount_0f7a4 48 = .ok (.iload_n 0, 1) := by decide +kernel
theorem dJ6_bitCount_0f7a4_49 : decode cJ6_bitCount_0f7a4 49 = .ok (.bipush 63, 2) := by decide +kernel
theorem dJ6_bitCount_0f7a4_51 : decode cJ6_bitCount_0f7a4 51 = .ok (.iand, 1) := by decide +kernel
theorem dJ6_bitCount_0f7a4_52 : decode cJ6_bitCount_0f7a4 52 = .ok (.ireturn, 1) := by decide +kernel
theorem dJ9_max_7cf53_0 : decode cJ9_max_7cf53 0 = .ok (.iload_n 0, 1) := by decide +kernel
theorem dJ9_max_7cf53_1 : decode cJ9_max_7cf53 1 = .ok (.iload_n 1, 1) := by decide +kernel
theorem dJ9_max_7cf53_2 : decode cJ9_max_7cf53 2 = .ok (.if_icmp .lt 7, 3) := by decide +kernel
theorem dJ9_max_7cf53_5 : decode cJ9_max_7cf53 5 = .ok (.iload_n 0, 1) := by decide +kernel
theorem dJ9_max_7cf53_6 : decode cJ9_max_7cf53 6 = .ok (.goto 4, 3) := by decide +kernel
theorem dJ9_max_7cf53_9 : decode cJ9_max_7cf53 9 = .ok (.iload_n 1, 1) := by decide +kernel
theorem dJ9_max_7cf53_10 : decode cJ9_max_7cf53 10 = .ok (.ireturn, 1) := by decide +kernel
theorem dJx5d777_init_da8c8_0 : decode cJx5d777_init_da8c8 0 = .ok (.aload_n 0, 1) := by decide +kernel
theorem dJx5d777_init_da8c8_1 : decode cJx5d777_init_da8c8 1 = .ok (.invokespecial 1, 3) := by decide +kernel
theorem dJx5d777_init_da8c8_4 : decode cJx5d777_init_da8c8 4 = .ok (.return_, 1) := by decide +kernel
theorem dJx5d777_init_a7421_0 : decode cJx5d777_init_a7421 0 = .ok (.aload_n 0, 1) := by decide +kernel
theorem dJx5d777_init_a7421_1 : decode cJx5d777_init_a7421 1 = .ok (.aload_n 1, 1) := by decide +kernel
theorem dJx5d777_init_a7421_2 : decode cJx5d777_init_a7421 2 = .ok (.invokespecial 7, 3) := by decide +kernel
theorem dJx5d777_init_a7421_5 : decode cJx5d777_init_a7421 5 = .ok (.return_, 1) := by decide +kernel
theorem dJx5d777_fillInStackTrace_cddbd_0 : decode cJx5d777_fillInStackTrace_cddbd 0 = .ok (.aload_n 0, 1) := by decide +kernel
theorem dJx5d777_fillInStackTrace_cddbd_1 : decode cJx5d777_fillInStackTrace_cddbd 1 = .ok (.getfield 10, 3) := by decide +kernel
theorem dJx5d777_fillInStackTrace_cddbd_4 : decode cJx5d777_fillInStackTrace_cddbd 4 = .ok (.ifCond .ne 11, 3) := by decide +kernel
theorem dJx5d777_fillInStackTrace_cddbd_7 : decode cJx5d777_fillInStackTrace_cddbd 7 = .ok (.aload_n 0, 1) := by decide +kernel
theorem dJx5d777_fillInStackTrace_cddbd_8 : decode cJx5d777_fillInStackTrace_cddbd 8 = .ok (.iconst 1, 1) := by decide +kernel
theorem dJx5d777_fillInStackTrace_cddbd_9 : decode cJx5d777_fillInStackTrace_cddbd 9 = .ok (.putfield 10, 3) := by decide +kernel
theorem dJx5d777_fillInStackTrace_cddbd_12 : decode cJx5d777_fillInStackTrace_cddbd 12 = .ok (.goto 24, 3) := by decide +kernel
theorem dJx5d777_fillInStackTrace_cddbd_15 : decode cJx5d777_fillInStackTrace_cddbd 15 = .ok (.aload_n 0, 1) := by decide +kernel
theorem dJx5d777_fillInStackTrace_cddbd_16 : decode cJx5d777_fillInStackTrace_cddbd 16 = .ok (.getfield 10, 3) := by decide +kernel
theorem dJx5d777_fillInStackTrace_cddbd_19 : decode cJx5d777_fillInStackTrace_cddbd 19 = .ok (.iconst 1, 1) := by decide +kernel
theorem dJx5d777_fillInStackTrace_cddbd_20 : decode cJx5d777_fillInStackTrace_cddbd 20 = .ok (.if_icmp .ne 16, 3) := by decide +kernel
theorem dJx5d777_fillInStackTrace_cddbd_23 : decode cJx5d777_fillInStackTrace_cddbd 23 = .ok (.aload_n 0, 1) := by decide +kernel
theorem dJx5d777_fillInStackTrace_cddbd_24 : decode cJx5d777_fillInStackTrace_cddbd 24 = .ok (.aload_n 0, 1) := by decide +kernel
theorem dJx5d777_fillInStackTrace_cddbd_25 : decode cJx5d777_fillInStackTrace_cddbd 25 = .ok (.invokevirtual 16, 3) := by decide +kernel
theorem dJx5d777_fillInStackTrace_cddbd_28 : decode cJx5d777_fillInStackTrace_cddbd 28 = .ok (.putfield 20, 3) := by decide +kernel
theorem dJx5d777_fillInStackTrace_cddbd_31 : decode cJx5d777_fillInStackTrace_cddbd 31 = .ok (.aload_n 0, 1) := by decide +kernel
theorem dJx5d777_fillInStackTrace_cddbd_32 : decode cJx5d777_fillInStackTrace_cddbd 32 = .ok (.iconst 2, 1) := by decide +kernel
theorem dJx5d777_fillInStackTrace_cddbd_33 : decode cJx5d777_fillInStackTrace_cddbd 33 = .ok (.putfield 10, 3) := by decide +kernel
theorem dJx5d777_fillInStackTrace_cddbd_36 : decode cJx5d777_fillInStackTrace_cddbd 36 = .ok (.aload_n 0, 1) := by decide +kernel
theorem dJx5d777_fillInStackTrace_cddbd_37 : decode cJx5d777_fillInStackTrace_cddbd 37 = .ok (.invokespecial 24, 3) := by decide +kernel
theorem dJx5d777_fillInStackTrace_cddbd_40 : decode cJx5d777_fillInStackTrace_cddbd 40 = .ok (.areturn, 1) := by decide +kernel
theorem dL_row_0 : decode cL_row 0 = .ok (.aload_n 3, 1) := by decide +kernel
theorem dL_row_1 : decode cL_row 1 = .ok (.iconst 0, 1) := by decide +kernel
theorem dL_row_2 : decode cL_row 2 = .ok (.aload_n 0, 1) := by decide +kernel
theorem dL_row_3 : decode cL_row 3 = .ok (.iload_n 1, 1) := by decide +kernel
theorem dL_row_4 : decode cL_row 4 = .ok (.iload_n 2, 1) := by decide +kernel
theorem dL_row_5 : decode cL_row 5 = .ok (.invokevirtual 7, 3) := by decide +kernel
theorem dL_row_8 : decode cL_row 8 = .ok (.lastore, 1) := by decide +kernel
theorem dL_row_9 : decode cL_row 9 = .ok (.goto 7, 3) := by decide +kernel
theorem dL_row_12 : decode cL_row 12 = .ok (.astore 4, 2) := by decide +kernel
theorem dL_row_14 : decode cL_row 14 = .ok (.iconst 1, 1) := by decide +kernel
theorem dL_row_15 : decode cL_row 15 = .ok (.ireturn, 1) := by decide +kernel
theorem dL_row_16 : decode cL_row 16 = .ok (.iconst 0, 1) := by decide +kernel
theorem dL_row_17 : decode cL_row 17 = .ok (.ireturn, 1) := by decide +kernel
theorem dL_kept_0 : decode cL_kept 0 = .ok (.aload_n 3, 1) := by decide +kernel
theorem dL_kept_1 : decode cL_kept 1 = .ok (.iconst 0, 1) := by decide +kernel
theorem dL_kept_2 : decode cL_kept 2 = .ok (.aload_n 0, 1) := by decide +kernel
theorem dL_kept_3 : decode cL_kept 3 = .ok (.iload_n 1, 1) := by decide +kernel
theorem dL_kept_4 : decode cL_kept 4 = .ok (.iload_n 2, 1) := by decide +kernel
theorem dL_kept_5 : decode cL_kept 5 = .ok (.invokevirtual 15, 3) := by decide +kernel
theorem dL_kept_8 : decode cL_kept 8 = .ok (.lastore, 1) := by decide +kernel
theorem dL_kept_9 : decode cL_kept 9 = .ok (.goto 11, 3) := by decide +kernel
theorem dL_kept_12 : decode cL_kept 12 = .ok (.astore 4, 2) := by decide +kernel
theorem dL_kept_14 : decode cL_kept 14 = .ok (.iconst 1, 1) := by decide +kernel
theorem dL_kept_15 : decode cL_kept 15 = .ok (.ireturn, 1) := by decide +kernel
theorem dL_kept_16 : decode cL_kept 16 = .ok (.astore 4, 2) := by decide +kernel
theorem dL_kept_18 : decode cL_kept 18 = .ok (.iconst 2, 1) := by decide +kernel
theorem dL_kept_19 : decode cL_kept 19 = .ok (.ireturn, 1) := by decide +kernel
theorem dL_kept_20 : decode cL_kept 20 = .ok (.iconst 0, 1) := by decide +kernel
theorem dL_kept_21 : decode cL_kept 21 = .ok (.ireturn, 1) := by decide +kernel
theorem dL_order_0 : decode cL_order 0 = .ok (.aload_n 2, 1) := by decide +kernel
theorem dL_order_1 : decode cL_order 1 = .ok (.iconst 0, 1) := by decide +kernel
theorem dL_order_2 : decode cL_order 2 = .ok (.aload_n 0, 1) := by decide +kernel
theorem dL_order_3 : decode cL_order 3 = .ok (.iload_n 1, 1) := by decide +kernel
theorem dL_order_4 : decode cL_order 4 = .ok (.invokevirtual 20, 3) := by decide +kernel
theorem dL_order_7 : decode cL_order 7 = .ok (.i2l, 1) := by decide +kernel
theorem dL_order_8 : decode cL_order 8 = .ok (.lastore, 1) := by decide +kernel
theorem dL_order_9 : decode cL_order 9 = .ok (.goto 6, 3) := by decide +kernel
theorem dL_order_12 : decode cL_order 12 = .ok (.astore_n 3, 1) := by decide +kernel
theorem dL_order_13 : decode cL_order 13 = .ok (.iconst 1, 1) := by decide +kernel
theorem dL_order_14 : decode cL_order 14 = .ok (.ireturn, 1) := by decide +kernel
theorem dL_order_15 : decode cL_order 15 = .ok (.iconst 0, 1) := by decide +kernel
theorem dL_order_16 : decode cL_order 16 = .ok (.ireturn, 1) := by decide +kernel
theorem dL_law_0 : decode cL_law 0 = .ok (.new 8, 3) := by decide +kernel
theorem dL_law_3 : decode cL_law 3 = .ok (.dup, 1) := by decide +kernel
theorem dL_law_4 : decode cL_law 4 = .ok (.invokespecial 24, 3) := by decide +kernel
theorem dL_law_7 : decode cL_law 7 = .ok (.astore_n 1, 1) := by decide +kernel
theorem dL_law_8 : decode cL_law 8 = .ok (.new 25, 3) := by decide +kernel
theorem dL_law_11 : decode cL_law 11 = .ok (.dup, 1) := by decide +kernel
theorem dL_law_12 : decode cL_law 12 = .ok (.invokespecial 27, 3) := by decide +kernel
theorem dL_law_15 : decode cL_law 15 = .ok (.astore_n 2, 1) := by decide +kernel
theorem dL_law_16 : decode cL_law 16 = .ok (.iconst 1, 1) := by decide +kernel
theorem dL_law_17 : decode cL_law 17 = .ok (.newarray .long, 2) := by decide +kernel
theorem dL_law_19 : decode cL_law 19 = .ok (.astore_n 3, 1) := by decide +kernel
theorem dL_law_20 : decode cL_law 20 = .ok (.iconst 0, 1) := by decide +kernel
theorem dL_law_21 : decode cL_law 21 = .ok (.istore 4, 2) := by decide +kernel
theorem dL_law_23 : decode cL_law 23 = .ok (.iload 4, 2) := by decide +kernel
theorem dL_law_25 : decode cL_law 25 = .ok (.aload_n 0, 1) := by decide +kernel
theorem dL_law_26 : decode cL_law 26 = .ok (.arraylength, 1) := by decide +kernel
theorem dL_law_27 : decode cL_law 27 = .ok (.bipush 7, 2) := by decide +kernel
theorem dL_law_29 : decode cL_law 29 = .ok (.isub, 1) := by decide +kernel
theorem dL_law_30 : decode cL_law 30 = .ok (.if_icmp .gt 1234, 3) := by decide +kernel
theorem dL_law_33 : decode cL_law 33 = .ok (.aload_n 0, 1) := by decide +kernel
theorem dL_law_34 : decode cL_law 34 = .ok (.iload 4, 2) := by decide +kernel
theorem dL_law_36 : decode cL_law 36 = .ok (.iaload, 1) := by decide +kernel
theorem dL_law_37 : decode cL_law 37 = .ok (.bipush 31, 2) := by decide +kernel
theorem dL_law_39 : decode cL_law 39 = .ok (.iand, 1) := by decide +kernel
theorem dL_law_40 : decode cL_law 40 = .ok (.tableswitch 1218 0 30 #[140, 153, 276, 325, 374, 411, 436, 485, 522, 575, 612, 637, 686, 723, 760, 821, 846, 871, 911, 951, 976, 989, 1014, 1039, 1064, 1077, 1090, 1118, 1143, 1180, 1205], 140) := by decide +kernel
theorem dL_law_180 : decode cL_law 180 = .ok (.aload_n 1, 1) := by decide +kernel
theorem dL_law_181 : decode cL_law 181 = .ok (.invokevirtual 28, 3) := by decide +kernel
theorem dL_law_184 : decode cL_law 184 = .ok (.pop, 1) := by decide +kernel
theorem dL_law_185 : decode cL_law 185 = .ok (.aload_n 2, 1) := by decide +kernel
theorem dL_law_186 : decode cL_law 186 = .ok (.invokevirtual 32, 3) := by decide +kernel
theorem dL_law_189 : decode cL_law 189 = .ok (.pop, 1) := by decide +kernel
theorem dL_law_190 : decode cL_law 190 = .ok (.goto 1068, 3) := by decide +kernel
theorem dL_law_193 : decode cL_law 193 = .ok (.aload_n 1, 1) := by decide +kernel
theorem dL_law_194 : decode cL_law 194 = .ok (.aload_n 0, 1) := by decide +kernel
theorem dL_law_195 : decode cL_law 195 = .ok (.iload 4, 2) := by decide +kernel
theorem dL_law_197 : decode cL_law 197 = .ok (.iconst 1, 1) := by decide +kernel
theorem dL_law_198 : decode cL_law 198 = .ok (.iadd, 1) := by decide +kernel
theorem dL_law_199 : decode cL_law 199 = .ok (.iaload, 1) := by decide +kernel
theorem dL_law_200 : decode cL_law 200 = .ok (.aload_n 0, 1) := by decide +kernel
theorem dL_law_201 : decode cL_law 201 = .ok (.iload 4, 2) := by decide +kernel
theorem dL_law_203 : decode cL_law 203 = .ok (.iconst 2, 1) := by decide +kernel
theorem dL_law_204 : decode cL_law 204 = .ok (.iadd, 1) := by decide +kernel
theorem dL_law_205 : decode cL_law 205 = .ok (.iaload, 1) := by decide +kernel
theorem dL_law_206 : decode cL_law 206 = .ok (.aload_n 0, 1) := by decide +kernel
theorem dL_law_207 : decode cL_law 207 = .ok (.iload 4, 2) := by decide +kernel
theorem dL_law_209 : decode cL_law 209 = .ok (.iconst 3, 1) := by decide +kernel
theorem dL_law_210 : decode cL_law 210 = .ok (.iadd, 1) := by decide +kernel
theorem dL_law_211 : decode cL_law 211 = .ok (.iaload, 1) := by decide +kernel
theorem dL_law_212 : decode cL_law 212 = .ok (.aload_n 0, 1) := by decide +kernel
theorem dL_law_213 : decode cL_law 213 = .ok (.iload 4, 2) := by decide +kernel
theorem dL_law_215 : decode cL_law 215 = .ok (.iconst 4, 1) := by decide +kernel
theorem dL_law_216 : decode cL_law 216 = .ok (.iadd, 1) := by decide +kernel
theorem dL_law_217 : decode cL_law 217 = .ok (.iaload, 1) := by decide +kernel
theorem dL_law_218 : decode cL_law 218 = .ok (.i2l, 1) := by decide +kernel
theorem dL_law_219 : decode cL_law 219 = .ok (.bipush 32, 2) := by decide +kernel
theorem dL_law_221 : decode cL_law 221 = .ok (.lshl, 1) := by decide +kernel
theorem dL_law_222 : decode cL_law 222 = .ok (.aload_n 0, 1) := by decide +kernel
theorem dL_law_223 : decode cL_law 223 = .ok (.iload 4, 2) := by decide +kernel
theorem dL_law_225 : decode cL_law 225 = .ok (.iconst 5, 1) := by decide +kernel
theorem dL_law_226 : decode cL_law 226 = .ok (.iadd, 1) := by decide +kernel
theorem dL_law_227 : decode cL_law 227 = .ok (.iaload, 1) := by decide +kernel
theorem dL_law_228 : decode cL_law 228 = .ok (.i2l, 1) := by decide +kernel
theorem dL_law_229 : decode cL_law 229 = .ok (.ldc2_w 33, 3) := by decide +kernel
theorem dL_law_232 : decode cL_law 232 = .ok (.land, 1) := by decide +kernel
theorem dL_law_233 : decode cL_law 233 = .ok (.lor, 1) := by decide +kernel
theorem dL_law_234 : decode cL_law 234 = .ok (.aload_n 0, 1) := by decide +kernel
theorem dL_law_235 : decode cL_law 235 = .ok (.iload 4, 2) := by decide +kernel
theorem dL_law_237 : decode cL_law 237 = .ok (.bipush 6, 2) := by decide +kernel
theorem dL_law_239 : decode cL_law 239 = .ok (.iadd, 1) := by decide +kernel
theorem dL_law_240 : decode cL_law 240 = .ok (.iaload, 1) := by decide +kernel
theorem dL_law_241 : decode cL_law 241 = .ok (.ifCond .eq 7, 3) := by decide +kernel
theorem dL_law_244 : decode cL_law 244 = .ok (.iconst 1, 1) := by decide +kernel
theorem dL_law_245 : decode cL_law 245 = .ok (.goto 4, 3) := by decide +kernel
theorem dL_law_248 : decode cL_law 248 = .ok (.iconst 0, 1) := by decide +kernel
theorem dL_law_249 : decode cL_law 249 = .ok (.invokevirtual 35, 3) := by decide +kernel
theorem dL_law_252 : decode cL_law 252 = .ok (.pop, 1) := by decide +kernel
theorem dL_law_253 : decode cL_law 253 = .ok (.aload_n 2, 1) := by decide +kernel
theorem dL_law_254 : decode cL_law 254 = .ok (.aload_n 0, 1) := by decide +kernel
theorem dL_law_255 : decode cL_law 255 = .ok (.iload 4, 2) := by decide +kernel
theorem dL_law_257 : decode cL_law 257 = .ok (.iconst 1, 1) := by decide +kernel
theorem dL_law_258 : decode cL_law 258 = .ok (.iadd, 1) := by decide +kernel
theorem dL_law_259 : decode cL_law 259 = .ok (.iaload, 1) := by decide +kernel
theorem dL_law_260 : decode cL_law 260 = .ok (.aload_n 0, 1) := by decide +kernel
theorem dL_law_261 : decode cL_law 261 = .ok (.iload 4, 2) := by decide +kernel
theorem dL_law_263 : decode cL_law 263 = .ok (.iconst 2, 1) := by decide +kernel
theorem dL_law_264 : decode cL_law 264 = .ok (.iadd, 1) := by decide +kernel
theorem dL_law_265 : decode cL_law 265 = .ok (.iaload, 1) := by decide +kernel
theorem dL_law_266 : decode cL_law 266 = .ok (.aload_n 0, 1) := by decide +kernel
theorem dL_law_267 : decode cL_law 267 = .ok (.iload 4, 2) := by decide +kernel
theorem dL_law_269 : decode cL_law 269 = .ok (.iconst 3, 1) := by decide +kernel
theorem dL_law_270 : decode cL_law 270 = .ok (.iadd, 1) := by decide +kernel
theorem dL_law_271 : decode cL_law 271 = .ok (.iaload, 1) := by decide +kernel
theorem dL_law_272 : decode cL_law 272 = .ok (.aload_n 0, 1) := by decide +kernel
theorem dL_law_273 : decode cL_law 273 = .ok (.iload 4, 2) := by decide +kernel
theorem dL_law_275 : decode cL_law 275 = .ok (.iconst 4, 1) := by decide +kernel
theorem dL_law_276 : decode cL_law 276 = .ok (.iadd, 1) := by decide +kernel
theorem dL_law_277 : decode cL_law 277 = .ok (.iaload, 1) := by decide +kernel
theorem dL_law_278 : decode cL_law 278 = .ok (.i2l, 1) := by decide +kernel
theorem dL_law_279 : decode cL_law 279 = .ok (.bipush 32, 2) := by decide +kernel
theorem dL_law_281 : decode cL_law 281 = .ok (.lshl, 1) := by decide +kernel
theorem dL_law_282 : decode cL_law 282 = .ok (.aload_n 0, 1) := by decide +kernel
theorem dL_law_283 : decode cL_law 283 = .ok (.iload 4, 2) := by decide +kernel
theorem dL_law_285 : decode cL_law 285 = .ok (.iconst 5, 1) := by decide +kernel
theorem dL_law_286 : decode cL_law 286 = .ok (.iadd, 1) := by decide +kernel
theorem dL_law_287 : decode cL_law 287 = .ok (.iaload, 1) := by decide +kernel
theorem dL_law_288 : decode cL_law 288 = .ok (.i2l, 1) := by decide +kernel
theorem dL_law_289 : decode cL_law 289 = .ok (.ldc2_w 33, 3) := by decide +kernel
theorem dL_law_292 : decode cL_law 292 = .ok (.land, 1) := by decide +kernel
theorem dL_law_293 : decode cL_law 293 = .ok (.lor, 1) := by decide +kernel
theorem dL_law_294 : decode cL_law 294 = .ok (.aload_n 0, 1) := by decide +kernel
theorem dL_law_295 : decode cL_law 295 = .ok (.iload 4, 2) := by decide +kernel
theorem dL_law_297 : decode cL_law 297 = .ok (.bipush 6, 2) := by decide +kernel
theorem dL_law_299 : decode cL_law 299 = .ok (.iadd, 1) := by decide +kernel
theorem dL_law_300 : decode cL_law 300 = .ok (.iaload, 1) := by decide +kernel
theorem dL_law_301 : decode cL_law 301 = .ok (.ifCond .eq 7, 3) := by decide +kernel
theorem dL_law_304 : decode cL_law 304 = .ok (.iconst 1, 1) := by decide +kernel
theorem dL_law_305 : decode cL_law 305 = .ok (.goto 4, 3) := by decide +kernel
theorem dL_law_308 : decode cL_law 308 = .ok (.iconst 0, 1) := by decide +kernel
theorem dL_law_309 : decode cL_law 309 = .ok (.invokevirtual 39, 3) := by decide +kernel
theorem dL_law_312 : decode cL_law 312 = .ok (.pop, 1) := by decide +kernel
theorem dL_law_313 : decode cL_law 313 = .ok (.goto 945, 3) := by decide +kernel
theorem dL_law_316 : decode cL_law 316 = .ok (.aload_n 1, 1) := by decide +kernel
theorem dL_law_317 : decode cL_law 317 = .ok (.aload_n 0, 1) := by decide +kernel
theorem dL_law_318 : decode cL_law 318 = .ok (.iload 4, 2) := by decide +kernel
theorem dL_law_320 : decode cL_law 320 = .ok (.iconst 1, 1) := by decide +kernel
theorem dL_law_321 : decode cL_law 321 = .ok (.iadd, 1) := by decide +kernel
theorem dL_law_322 : decode cL_law 322 = .ok (.iaload, 1) := by decide +kernel
theorem dL_law_323 : decode cL_law 323 = .ok (.aload_n 0, 1) := by decide +kernel
theorem dL_law_324 : decode cL_law 324 = .ok (.iload 4, 2) := by decide +kernel
theorem dL_law_326 : decode cL_law 326 = .ok (.iconst 2, 1) := by decide +kernel
theorem dL_law_327 : decode cL_law 327 = .ok (.iadd, 1) := by decide +kernel
theorem dL_law_328 : decode cL_law 328 = .ok (.iaload, 1) := by decide +kernel
theorem dL_law_329 : decode cL_law 329 = .ok (.aload_n 0, 1) := by decide +kernel
theorem dL_law_330 : decode cL_law 330 = .ok (.iload 4, 2) := by decide +kernel
theorem dL_law_332 : decode cL_law 332 = .ok (.iconst 3, 1) := by decide +kernel
theorem dL_law_333 : decode cL_law 333 = .ok (.iadd, 1) := by decide +kernel
theorem dL_law_334 : decode cL_law 334 = .ok (.iaload, 1) := by decide +kernel
theorem dL_law_335 : decode cL_law 335 = .ok (.invokevirtual 40, 3) := by decide +kernel
theorem dL_law_338 : decode cL_law 338 = .ok (.pop, 1) := by decide +kernel
theorem dL_law_339 : decode cL_law 339 = .ok (.aload_n 2, 1) := by decide +kernel
theorem dL_law_340 : decode cL_law 340 = .ok (.aload_n 0, 1) := by decide +kernel
theorem dL_law_341 : decode cL_law 341 = .ok (.iload 4, 2) := by decide +kernel
theorem dL_law_343 : decode cL_law 343 = .ok (.iconst 1, 1) := by decide +kernel
theorem dL_law_344 : decode cL_law 344 = .ok (.iadd, 1) := by decide +kernel
theorem dL_law_345 : decode cL_law 345 = .ok (.iaload, 1) := by decide +kernel
theorem dL_law_346 : decode cL_law 346 = .ok (.aload_n 0, 1) := by decide +kernel
theorem dL_law_347 : decode cL_law 347 = .ok (.iload 4, 2) := by decide +kernel
theorem dL_law_349 : decode cL_law 349 = .ok (.iconst 2, 1) := by decide +kernel
theorem dL_law_350 : decode cL_law 350 = .ok (.iadd, 1) := by decide +kernel
theorem dL_law_351 : decode cL_law 351 = .ok (.iaload, 1) := by decide +kernel
theorem dL_law_352 : decode cL_law 352 = .ok (.aload_n 0, 1) := by decide +kernel
theorem dL_law_353 : decode cL_law 353 = .ok (.iload 4, 2) := by decide +kernel
theorem dL_law_355 : decode cL_law 355 = .ok (.iconst 3, 1) := by decide +kernel
theorem dL_law_356 : decode cL_law 356 = .ok (.iadd, 1) := by decide +kernel
theorem dL_law_357 : decode cL_law 357 = .ok (.iaload, 1) := by decide +kernel
theorem dL_law_358 : decode cL_law 358 = .ok (.invokevirtual 44, 3) := by decide +kernel
theorem dL_law_361 : decode cL_law 361 = .ok (.pop, 1) := by decide +kernel
theorem dL_law_362 : decode cL_law 362 = .ok (.goto 896, 3) := by decide +kernel
theorem dL_law_365 : decode cL_law 365 = .ok (.aload_n 1, 1) := by decide +kernel
theorem dL_law_366 : decode cL_law 366 = .ok (.aload_n 0, 1) := by decide +kernel
theorem dL_law_367 : decode cL_law 367 = .ok (.iload 4, 2) := by decide +kernel
theorem dL_law_369 : decode cL_law 369 = .ok (.iconst 1, 1) := by decide +kernel
theorem dL_law_370 : decode cL_law 370 = .ok (.iadd, 1) := by decide +kernel
theorem dL_law_371 : decode cL_law 371 = .ok (.iaload, 1) := by decide +kernel
theorem dL_law_372 : decode cL_law 372 = .ok (.aload_n 0, 1) := by decide +kernel
theorem dL_law_373 : decode cL_law 373 = .ok (.iload 4, 2) := by decide +kernel
theorem dL_law_375 : decode cL_law 375 = .ok (.iconst 2, 1) := by decide +kernel
theorem dL_law_376 : decode cL_law 376 = .ok (.iadd, 1) := by decide +kernel
theorem dL_law_377 : decode cL_law 377 = .ok (.iaload, 1) := by decide +kernel
theorem dL_law_378 : decode cL_law 378 = .ok (.aload_n 0, 1) := by decide +kernel
theorem dL_law_379 : decode cL_law 379 = .ok (.iload 4, 2) := by decide +kernel
theorem dL_law_381 : decode cL_law 381 = .ok (.iconst 3, 1) := by decide +kernel
theorem dL_law_382 : decode cL_law 382 = .ok (.iadd, 1) := by decide +kernel
theorem dL_law_383 : decode cL_law 383 = .ok (.iaload, 1) := by decide +kernel
theorem dL_law_384 : decode cL_law 384 = .ok (.invokevirtual 45, 3) := by decide +kernel
theorem dL_law_387 : decode cL_law 387 = .ok (.pop, 1) := by decide +kernel
theorem dL_law_388 : decode cL_law 388 = .ok (.aload_n 2, 1) := by decide +kernel
theorem dL_law_389 : decode cL_law 389 = .ok (.aload_n 0, 1) := by decide +kernel
theorem dL_law_390 : decode cL_law 390 = .ok (.iload 4, 2) := by decide +kernel
theorem dL_law_392 : decode cL_law 392 = .ok (.iconst 1, 1) := by decide +kernel
theorem dL_law_393 : decode cL_law 393 = .ok (.iadd, 1) := by decide +kernel
theorem dL_law_394 : decode cL_law 394 = .ok (.iaload, 1) := by decide +kernel
theorem dL_law_395 : decode cL_law 395 = .ok (.aload_n 0, 1) := by decide +kernel
theorem dL_law_396 : decode cL_law 396 = .ok (.iload 4, 2) := by decide +kernel
theorem dL_law_398 : decode cL_law 398 = .ok (.iconst 2, 1) := by decide +kernel
theorem dL_law_399 : decode cL_law 399 = .ok (.iadd, 1) := by decide +kernel
theorem dL_law_400 : decode cL_law 400 = .ok (.iaload, 1) := by decide +kernel
theorem dL_law_401 : decode cL_law 401 = .ok (.aload_n 0, 1) := by decide +kernel
theorem dL_law_402 : decode cL_law 402 = .ok (.iload 4, 2) := by decide +kernel
theorem dL_law_404 : decode cL_law 404 = .ok (.iconst 3, 1) := by decide +kernel
theorem dL_law_405 : decode cL_law 405 = .ok (.iadd, 1) := by decide +kernel
theorem dL_law_406 : decode cL_law 406 = .ok (.iaload, 1) := by decide +kernel
theorem dL_law_407 : decode cL_law 407 = .ok (.invokevirtual 48, 3) := by decide +kernel
theorem dL_law_410 : decode cL_law 410 = .ok (.pop, 1) := by decide +kernel
theorem dL_law_411 : decode cL_law 411 = .ok (.goto 847, 3) := by decide +kernel
theorem dL_law_414 : decode cL_law 414 = .ok (.aload_n 1, 1) := by decide +kernel
theorem dL_law_415 : decode cL_law 415 = .ok (.aload_n 0, 1) := by decide +kernel
theorem dL_law_416 : decode cL_law 416 = .ok (.iload 4, 2) := by decide +kernel
theorem dL_law_418 : decode cL_law 418 = .ok (.iconst 1, 1) := by decide +kernel
theorem dL_law_419 : decode cL_law 419 = .ok (.iadd, 1) := by decide +kernel
theorem dL_law_420 : decode cL_law 420 = .ok (.iaload, 1) := by decide +kernel
theorem dL_law_421 : decode cL_law 421 = .ok (.aload_n 0, 1) := by decide +kernel
theorem dL_law_422 : decode cL_law 422 = .ok (.iload 4, 2) := by decide +kernel
theorem dL_law_424 : decode cL_law 424 = .ok (.iconst 2, 1) := by decide +kernel
theorem dL_law_425 : decode cL_law 425 = .ok (.iadd, 1) := by decide +kernel
theorem dL_law_426 : decode cL_law 426 = .ok (.iaload, 1) := by decide +kernel
theorem dL_law_427 : decode cL_law 427 = .ok (.invokevirtual 49, 3) := by decide +kernel
theorem dL_law_430 : decode cL_law 430 = .ok (.pop, 1) := by decide +kernel
theorem dL_law_431 : decode cL_law 431 = .ok (.aload_n 2, 1) := by decide +kernel
theorem dL_law_432 : decode cL_law 432 = .ok (.aload_n 0, 1) := by decide +kernel
theorem dL_law_433 : decode cL_law 433 = .ok (.iload 4, 2) := by decide +kernel
theorem dL_law_435 : decode cL_law 435 = .ok (.iconst 1, 1) := by decide +kernel
theorem dL_law_436 : decode cL_law 436 = .ok (.iadd, 1) := by decide +kernel
theorem dL_law_437 : decode cL_law 437 = .ok (.iaload, 1) := by decide +kernel
theorem dL_law_438 : decode cL_law 438 = .ok (.aload_n 0, 1) := by decide +kernel
theorem dL_law_439 : decode cL_law 439 = .ok (.iload 4, 2) := by decide +kernel
theorem dL_law_441 : decode cL_law 441 = .ok (.iconst 2, 1) := by decide +kernel
theorem dL_law_442 : decode cL_law 442 = .ok (.iadd, 1) := by decide +kernel
theorem dL_law_443 : decode cL_law 443 = .ok (.iaload, 1) := by decide +kernel
theorem dL_law_444 : decode cL_law 444 = .ok (.invokevirtual 53, 3) := by decide +kernel
theorem dL_law_447 : decode cL_law 447 = .ok (.pop, 1) := by decide +kernel
theorem dL_law_448 : decode cL_law 448 = .ok (.goto 810, 3) := by decide +kernel
theorem dL_law_451 : decode cL_law 451 = .ok (.aload_n 1, 1) := by decide +kernel
theorem dL_law_452 : decode cL_law 452 = .ok (.aload_n 0, 1) := by decide +kernel
theorem dL_law_453 : decode cL_law 453 = .ok (.iload 4, 2) := by decide +kernel
theorem dL_law_455 : decode cL_law 455 = .ok (.iconst 1, 1) := by decide +kernel
theorem dL_law_456 : decode cL_law 456 = .ok (.iadd, 1) := by decide +kernel
theorem dL_law_457 : decode cL_law 457 = .ok (.iaload, 1) := by decide +kernel
theorem dL_law_458 : decode cL_law 458 = .ok (.invokevirtual 54, 3) := by decide +kernel
theorem dL_law_461 : decode cL_law 461 = .ok (.pop, 1) := by decide +kernel
theorem dL_law_462 : decode cL_law 462 = .ok (.aload_n 2, 1) := by decide +kernel
theorem dL_law_463 : decode cL_law 463 = .ok (.aload_n 0, 1) := by decide +kernel
theorem dL_law_464 : decode cL_law 464 = .ok (.iload 4, 2) := by decide +kernel
theorem dL_law_466 : decode cL_law 466 = .ok (.iconst 1, 1) := by decide +kernel
theorem dL_law_467 : decode cL_law 467 = .ok (.iadd, 1) := by decide +kernel
theorem dL_law_468 : decode cL_law 468 = .ok (.iaload, 1) := by decide +kernel
theorem dL_law_469 : decode cL_law 469 = .ok (.invokevirtual 57, 3) := by decide +kernel
theorem dL_law_472 : decode cL_law 472 = .ok (.pop, 1) := by decide +kernel
theorem dL_law_473 : decode cL_law 473 = .ok (.goto 785, 3) := by decide +kernel
theorem dL_law_476 : decode cL_law 476 = .ok (.aload_n 1, 1) := by decide +kernel
theorem dL_law_477 : decode cL_law 477 = .ok (.aload_n 0, 1) := by decide +kernel
theorem dL_law_478 : decode cL_law 478 = .ok (.iload 4, 2) := by decide +kernel
theorem dL_law_480 : decode cL_law 480 = .ok (.iconst 1, 1) := by decide +kernel
theorem dL_law_481 : decode cL_law 481 = .ok (.iadd, 1) := by decide +kernel
theorem dL_law_482 : decode cL_law 482 = .ok (.iaload, 1) := by decide +kernel
theorem dL_law_483 : decode cL_law 483 = .ok (.aload_n 0, 1) := by decide +kernel
theorem dL_law_484 : decode cL_law 484 = .ok (.iload 4, 2) := by decide +kernel
theorem dL_law_486 : decode cL_law 486 = .ok (.iconst 2, 1) := by decide +kernel
theorem dL_law_487 : decode cL_law 487 = .ok (.iadd, 1) := by decide +kernel
theorem dL_law_488 : decode cL_law 488 = .ok (.iaload, 1) := by decide +kernel
theorem dL_law_489 : decode cL_law 489 = .ok (.aload_n 0, 1) := by decide +kernel
theorem dL_law_490 : decode cL_law 490 = .ok (.iload 4, 2) := by decide +kernel
theorem dL_law_492 : decode cL_law 492 = .ok (.iconst 3, 1) := by decide +kernel
theorem dL_law_493 : decode cL_law 493 = .ok (.iadd, 1) := by decide +kernel
theorem dL_law_494 : decode cL_law 494 = .ok (.iaload, 1) := by decide +kernel
theorem dL_law_495 : decode cL_law 495 = .ok (.invokevirtual 58, 3) := by decide +kernel
theorem dL_law_498 : decode cL_law 498 = .ok (.pop, 1) := by decide +kernel
theorem dL_law_499 : decode cL_law 499 = .ok (.aload_n 2, 1) := by decide +kernel
theorem dL_law_500 : decode cL_law 500 = .ok (.aload_n 0, 1) := by decide +kernel
theorem dL_law_501 : decode cL_law 501 = .ok (.iload 4, 2) := by decide +kernel
theorem dL_law_503 : decode cL_law 503 = .ok (.iconst 1, 1) := by decide +kernel
theorem dL_law_504 : decode cL_law 504 = .ok (.iadd, 1) := by decide +kernel
theorem dL_law_505 : decode cL_law 505 = .ok (.iaload, 1) := by decide +kernel
theorem dL_law_506 : decode cL_law 506 = .ok (.aload_n 0, 1) := by decide +kernel
theorem dL_law_507 : decode cL_law 507 = .ok (.iload 4, 2) := by decide +kernel
theorem dL_law_509 : decode cL_law 509 = .ok (.iconst 2, 1) := by decide +kernel
theorem dL_law_510 : decode cL_law 510 = .ok (.iadd, 1) := by decide +kernel
theorem dL_law_511 : decode cL_law 511 = .ok (.iaload, 1) := by decide +kernel
theorem dL_law_512 : decode cL_law 512 = .ok (.aload_n 0, 1) := by decide +kernel
theorem dL_law_513 : decode cL_law 513 = .ok (.iload 4, 2) := by decide +kernel
theorem dL_law_515 : decode cL_law 515 = .ok (.iconst 3, 1) := by decide +kernel
theorem dL_law_516 : decode cL_law 516 = .ok (.iadd, 1) := by decide +kernel
theorem dL_law_517 : decode cL_law 517 = .ok (.iaload, 1) := by decide +kernel
theorem dL_law_518 : decode cL_law 518 = .ok (.invokevirtual 61, 3) := by decide +kernel
theorem dL_law_521 : decode cL_law 521 = .ok (.pop, 1) := by decide +kernel
theorem dL_law_522 : decode cL_law 522 = .ok (.goto 736, 3) := by decide +kernel
theorem dL_law_525 : decode cL_law 525 = .ok (.aload_n 1, 1) := by decide +kernel
theorem dL_law_526 : decode cL_law 526 = .ok (.aload_n 0, 1) := by decide +kernel
theorem dL_law_527 : decode cL_law 527 = .ok (.iload 4, 2) := by decide +kernel
theorem dL_law_529 : decode cL_law 529 = .ok (.iconst 1, 1) := by decide +kernel
theorem dL_law_530 : decode cL_law 530 = .ok (.iadd, 1) := by decide +kernel
theorem dL_law_531 : decode cL_law 531 = .ok (.iaload, 1) := by decide +kernel
theorem dL_law_532 : decode cL_law 532 = .ok (.aload_n 0, 1) := by decide +kernel
theorem dL_law_533 : decode cL_law 533 = .ok (.iload 4, 2) := by decide +kernel
theorem dL_law_535 : decode cL_law 535 = .ok (.iconst 2, 1) := by decide +kernel
theorem dL_law_536 : decode cL_law 536 = .ok (.iadd, 1) := by decide +kernel
theorem dL_law_537 : decode cL_law 537 = .ok (.iaload, 1) := by decide +kernel
theorem dL_law_538 : decode cL_law 538 = .ok (.invokevirtual 62, 3) := by decide +kernel
theorem dL_law_541 : decode cL_law 541 = .ok (.pop, 1) := by decide +kernel
theorem dL_law_542 : decode cL_law 542 = .ok (.aload_n 2, 1) := by decide +kernel
theorem dL_law_543 : decode cL_law 543 = .ok (.aload_n 0, 1) := by decide +kernel
theorem dL_law_544 : decode cL_law 544 = .ok (.iload 4, 2) := by decide +kernel
theorem dL_law_546 : decode cL_law 546 = .ok (.iconst 1, 1) := by decide +kernel
theorem dL_law_547 : decode cL_law 547 = .ok (.iadd, 1) := by decide +kernel
theorem dL_law_548 : decode cL_law 548 = .ok (.iaload, 1) := by decide +kernel
theorem dL_law_549 : decode cL_law 549 = .ok (.aload_n 0, 1) := by decide +kernel
theorem dL_law_550 : decode cL_law 550 = .ok (.iload 4, 2) := by decide +kernel
theorem dL_law_552 : decode cL_law 552 = .ok (.iconst 2, 1) := by decide +kernel
theorem dL_law_553 : decode cL_law 553 = .ok (.iadd, 1) := by decide +kernel
theorem dL_law_554 : decode cL_law 554 = .ok (.iaload, 1) := by decide +kernel
theorem dL_law_555 : decode cL_law 555 = .ok (.invokevirtual 65, 3) := by decide +kernel
theorem dL_law_558 : decode cL_law 558 = .ok (.pop, 1) := by decide +kernel
theorem dL_law_559 : decode cL_law 559 = .ok (.goto 699, 3) := by decide +kernel
theorem dL_law_562 : decode cL_law 562 = .ok (.aload_n 1, 1) := by decide +kernel
theorem dL_law_563 : decode cL_law 563 = .ok (.aload_n 0, 1) := by decide +kernel
theorem dL_law_564 : decode cL_law 564 = .ok (.iload 4, 2) := by decide +kernel
theorem dL_law_566 : decode cL_law 566 = .ok (.iconst 1, 1) := by decide +kernel
theorem dL_law_567 : decode cL_law 567 = .ok (.iadd, 1) := by decide +kernel
theorem dL_law_568 : decode cL_law 568 = .ok (.iaload, 1) := by decide +kernel
theorem dL_law_569 : decode cL_law 569 = .ok (.aload_n 0, 1) := by decide +kernel
theorem dL_law_570 : decode cL_law 570 = .ok (.iload 4, 2) := by decide +kernel
theorem dL_law_572 : decode cL_law 572 = .ok (.iconst 2, 1) := by decide +kernel
theorem dL_law_573 : decode cL_law 573 = .ok (.iadd, 1) := by decide +kernel
theorem dL_law_574 : decode cL_law 574 = .ok (.iaload, 1) := by decide +kernel
theorem dL_law_575 : decode cL_law 575 = .ok (.ifCond .eq 7, 3) := by decide +kernel
theorem dL_law_578 : decode cL_law 578 = .ok (.iconst 1, 1) := by decide +kernel
theorem dL_law_579 : decode cL_law 579 = .ok (.goto 4, 3) := by decide +kernel
theorem dL_law_582 : decode cL_law 582 = .ok (.iconst 0, 1) := by decide +kernel
theorem dL_law_583 : decode cL_law 583 = .ok (.invokevirtual 66, 3) := by decide +kernel
theorem dL_law_586 : decode cL_law 586 = .ok (.pop, 1) := by decide +kernel
theorem dL_law_587 : decode cL_law 587 = .ok (.aload_n 2, 1) := by decide +kernel
theorem dL_law_588 : decode cL_law 588 = .ok (.aload_n 0, 1) := by decide +kernel
theorem dL_law_589 : decode cL_law 589 = .ok (.iload 4, 2) := by decide +kernel
theorem dL_law_591 : decode cL_law 591 = .ok (.iconst 1, 1) := by decide +kernel
theorem dL_law_592 : decode cL_law 592 = .ok (.iadd, 1) := by decide +kernel
theorem dL_law_593 : decode cL_law 593 = .ok (.iaload, 1) := by decide +kernel
theorem dL_law_594 : decode cL_law 594 = .ok (.aload_n 0, 1) := by decide +kernel
theorem dL_law_595 : decode cL_law 595 = .ok (.iload 4, 2) := by decide +kernel
theorem dL_law_597 : decode cL_law 597 = .ok (.iconst 2, 1) := by decide +kernel
theorem dL_law_598 : decode cL_law 598 = .ok (.iadd, 1) := by decide +kernel
theorem dL_law_599 : decode cL_law 599 = .ok (.iaload, 1) := by decide +kernel
theorem dL_law_600 : decode cL_law 600 = .ok (.ifCond .eq 7, 3) := by decide +kernel
theorem dL_law_603 : decode cL_law 603 = .ok (.iconst 1, 1) := by decide +kernel
theorem dL_law_604 : decode cL_law 604 = .ok (.goto 4, 3) := by decide +kernel
theorem dL_law_607 : decode cL_law 607 = .ok (.iconst 0, 1) := by decide +kernel
theorem dL_law_608 : decode cL_law 608 = .ok (.invokevirtual 70, 3) := by decide +kernel
theorem dL_law_611 : decode cL_law 611 = .ok (.pop, 1) := by decide +kernel
theorem dL_law_612 : decode cL_law 612 = .ok (.goto 646, 3) := by decide +kernel
theorem dL_law_615 : decode cL_law 615 = .ok (.aload_n 1, 1) := by decide +kernel
theorem dL_law_616 : decode cL_law 616 = .ok (.aload_n 0, 1) := by decide +kernel
theorem dL_law_617 : decode cL_law 617 = .ok (.iload 4, 2) := by decide +kernel
theorem dL_law_619 : decode cL_law 619 = .ok (.iconst 1, 1) := by decide +kernel
theorem dL_law_620 : decode cL_law 620 = .ok (.iadd, 1) := by decide +kernel
theorem dL_law_621 : decode cL_law 621 = .ok (.iaload, 1) := by decide +kernel
theorem dL_law_622 : decode cL_law 622 = .ok (.aload_n 0, 1) := by decide +kernel
theorem dL_law_623 : decode cL_law 623 = .ok (.iload 4, 2) := by decide +kernel
theorem dL_law_625 : decode cL_law 625 = .ok (.iconst 2, 1) := by decide +kernel
theorem dL_law_626 : decode cL_law 626 = .ok (.iadd, 1) := by decide +kernel
theorem dL_law_627 : decode cL_law 627 = .ok (.iaload, 1) := by decide +kernel
theorem dL_law_628 : decode cL_law 628 = .ok (.invokevirtual 71, 3) := by decide +kernel
theorem dL_law_631 : decode cL_law 631 = .ok (.pop, 1) := by decide +kernel
theorem dL_law_632 : decode cL_law 632 = .ok (.aload_n 2, 1) := by decide +kernel
theorem dL_law_633 : decode cL_law 633 = .ok (.aload_n 0, 1) := by decide +kernel
theorem dL_law_634 : decode cL_law 634 = .ok (.iload 4, 2) := by decide +kernel
theorem dL_law_636 : decode cL_law 636 = .ok (.iconst 1, 1) := by decide +kernel
theorem dL_law_637 : decode cL_law 637 = .ok (.iadd, 1) := by decide +kernel
theorem dL_law_638 : decode cL_law 638 = .ok (.iaload, 1) := by decide +kernel
theorem dL_law_639 : decode cL_law 639 = .ok (.aload_n 0, 1) := by decide +kernel
theorem dL_law_640 : decode cL_law 640 = .ok (.iload 4, 2) := by decide +kernel
theorem dL_law_642 : decode cL_law 642 = .ok (.iconst 2, 1) := by decide +kernel
theorem dL_law_643 : decode cL_law 643 = .ok (.iadd, 1) := by decide +kernel
theorem dL_law_644 : decode cL_law 644 = .ok (.iaload, 1) := by decide +kernel
theorem dL_law_645 : decode cL_law 645 = .ok (.invokevirtual 74, 3) := by decide +kernel
theorem dL_law_648 : decode cL_law 648 = .ok (.pop, 1) := by decide +kernel
theorem dL_law_649 : decode cL_law 649 = .ok (.goto 609, 3) := by decide +kernel
theorem dL_law_652 : decode cL_law 652 = .ok (.aload_n 1, 1) := by decide +kernel
theorem dL_law_653 : decode cL_law 653 = .ok (.aload_n 0, 1) := by decide +kernel
theorem dL_law_654 : decode cL_law 654 = .ok (.iload 4, 2) := by decide +kernel
theorem dL_law_656 : decode cL_law 656 = .ok (.iconst 1, 1) := by decide +kernel
theorem dL_law_657 : decode cL_law 657 = .ok (.iadd, 1) := by decide +kernel
theorem dL_law_658 : decode cL_law 658 = .ok (.iaload, 1) := by decide +kernel
theorem dL_law_659 : decode cL_law 659 = .ok (.invokevirtual 75, 3) := by decide +kernel
theorem dL_law_662 : decode cL_law 662 = .ok (.pop, 1) := by decide +kernel
theorem dL_law_663 : decode cL_law 663 = .ok (.aload_n 2, 1) := by decide +kernel
theorem dL_law_664 : decode cL_law 664 = .ok (.aload_n 0, 1) := by decide +kernel
theorem dL_law_665 : decode cL_law 665 = .ok (.iload 4, 2) := by decide +kernel
theorem dL_law_667 : decode cL_law 667 = .ok (.iconst 1, 1) := by decide +kernel
theorem dL_law_668 : decode cL_law 668 = .ok (.iadd, 1) := by decide +kernel
theorem dL_law_669 : decode cL_law 669 = .ok (.iaload, 1) := by decide +kernel
theorem dL_law_670 : decode cL_law 670 = .ok (.invokevirtual 78, 3) := by decide +kernel
theorem dL_law_673 : decode cL_law 673 = .ok (.pop, 1) := by decide +kernel
theorem dL_law_674 : decode cL_law 674 = .ok (.goto 584, 3) := by decide +kernel
theorem dL_law_677 : decode cL_law 677 = .ok (.aload_n 1, 1) := by decide +kernel
theorem dL_law_678 : decode cL_law 678 = .ok (.aload_n 0, 1) := by decide +kernel
theorem dL_law_679 : decode cL_law 679 = .ok (.iload 4, 2) := by decide +kernel
theorem dL_law_681 : decode cL_law 681 = .ok (.iconst 1, 1) := by decide +kernel
theorem dL_law_682 : decode cL_law 682 = .ok (.iadd, 1) := by decide +kernel
theorem dL_law_683 : decode cL_law 683 = .ok (.iaload, 1) := by decide +kernel
theorem dL_law_684 : decode cL_law 684 = .ok (.aload_n 0, 1) := by decide +kernel
theorem dL_law_685 : decode cL_law 685 = .ok (.iload 4, 2) := by decide +kernel
theorem dL_law_687 : decode cL_law 687 = .ok (.iconst 2, 1) := by decide +kernel
theorem dL_law_688 : decode cL_law 688 = .ok (.iadd, 1) := by decide +kernel
theorem dL_law_689 : decode cL_law 689 = .ok (.iaload, 1) := by decide +kernel
theorem dL_law_690 : decode cL_law 690 = .ok (.aload_n 0, 1) := by decide +kernel
theorem dL_law_691 : decode cL_law 691 = .ok (.iload 4, 2) := by decide +kernel
theorem dL_law_693 : decode cL_law 693 = .ok (.iconst 3, 1) := by decide +kernel
theorem dL_law_694 : decode cL_law 694 = .ok (.iadd, 1) := by decide +kernel
theorem dL_law_695 : decode cL_law 695 = .ok (.iaload, 1) := by decide +kernel
theorem dL_law_696 : decode cL_law 696 = .ok (.invokevirtual 79, 3) := by decide +kernel
theorem dL_law_699 : decode cL_law 699 = .ok (.pop, 1) := by decide +kernel
theorem dL_law_700 : decode cL_law 700 = .ok (.aload_n 2, 1) := by decide +kernel
theorem dL_law_701 : decode cL_law 701 = .ok (.aload_n 0, 1) := by decide +kernel
theorem dL_law_702 : decode cL_law 702 = .ok (.iload 4, 2) := by decide +kernel
theorem dL_law_704 : decode cL_law 704 = .ok (.iconst 1, 1) := by decide +kernel
theorem dL_law_705 : decode cL_law 705 = .ok (.iadd, 1) := by decide +kernel
theorem dL_law_706 : decode cL_law 706 = .ok (.iaload, 1) := by decide +kernel
theorem dL_law_707 : decode cL_law 707 = .ok (.aload_n 0, 1) := by decide +kernel
theorem dL_law_708 : decode cL_law 708 = .ok (.iload 4, 2) := by decide +kernel
theorem dL_law_710 : decode cL_law 710 = .ok (.iconst 2, 1) := by decide +kernel
theorem dL_law_711 : decode cL_law 711 = .ok (.iadd, 1) := by decide +kernel
theorem dL_law_712 : decode cL_law 712 = .ok (.iaload, 1) := by decide +kernel
theorem dL_law_713 : decode cL_law 713 = .ok (.aload_n 0, 1) := by decide +kernel
theorem dL_law_714 : decode cL_law 714 = .ok (.iload 4, 2) := by decide +kernel
theorem dL_law_716 : decode cL_law 716 = .ok (.iconst 3, 1) := by decide +kernel
theorem dL_law_717 : decode cL_law 717 = .ok (.iadd, 1) := by decide +kernel
theorem dL_law_718 : decode cL_law 718 = .ok (.iaload, 1) := by decide +kernel
theorem dL_law_719 : decode cL_law 719 = .ok (.invokevirtual 82, 3) := by decide +kernel
theorem dL_law_722 : decode cL_law 722 = .ok (.pop, 1) := by decide +kernel
theorem dL_law_723 : decode cL_law 723 = .ok (.goto 535, 3) := by decide +kernel
theorem dL_law_726 : decode cL_law 726 = .ok (.aload_n 1, 1) := by decide +kernel
theorem dL_law_727 : decode cL_law 727 = .ok (.aload_n 0, 1) := by decide +kernel
theorem dL_law_728 : decode cL_law 728 = .ok (.iload 4, 2) := by decide +kernel
theorem dL_law_730 : decode cL_law 730 = .ok (.iconst 1, 1) := by decide +kernel
theorem dL_law_731 : decode cL_law 731 = .ok (.iadd, 1) := by decide +kernel
theorem dL_law_732 : decode cL_law 732 = .ok (.iaload, 1) := by decide +kernel
theorem dL_law_733 : decode cL_law 733 = .ok (.aload_n 0, 1) := by decide +kernel
theorem dL_law_734 : decode cL_law 734 = .ok (.iload 4, 2) := by decide +kernel
theorem dL_law_736 : decode cL_law 736 = .ok (.iconst 2, 1) := by decide +kernel
theorem dL_law_737 : decode cL_law 737 = .ok (.iadd, 1) := by decide +kernel
theorem dL_law_738 : decode cL_law 738 = .ok (.iaload, 1) := by decide +kernel
theorem dL_law_739 : decode cL_law 739 = .ok (.invokevirtual 83, 3) := by decide +kernel
theorem dL_law_742 : decode cL_law 742 = .ok (.pop2, 1) := by decide +kernel
theorem dL_law_743 : decode cL_law 743 = .ok (.aload_n 2, 1) := by decide +kernel
theorem dL_law_744 : decode cL_law 744 = .ok (.aload_n 0, 1) := by decide +kernel
theorem dL_law_745 : decode cL_law 745 = .ok (.iload 4, 2) := by decide +kernel
theorem dL_law_747 : decode cL_law 747 = .ok (.iconst 1, 1) := by decide +kernel
theorem dL_law_748 : decode cL_law 748 = .ok (.iadd, 1) := by decide +kernel
theorem dL_law_749 : decode cL_law 749 = .ok (.iaload, 1) := by decide +kernel
theorem dL_law_750 : decode cL_law 750 = .ok (.aload_n 0, 1) := by decide +kernel
theorem dL_law_751 : decode cL_law 751 = .ok (.iload 4, 2) := by decide +kernel
theorem dL_law_753 : decode cL_law 753 = .ok (.iconst 2, 1) := by decide +kernel
theorem dL_law_754 : decode cL_law 754 = .ok (.iadd, 1) := by decide +kernel
theorem dL_law_755 : decode cL_law 755 = .ok (.iaload, 1) := by decide +kernel
theorem dL_law_756 : decode cL_law 756 = .ok (.invokevirtual 86, 3) := by decide +kernel
theorem dL_law_759 : decode cL_law 759 = .ok (.pop2, 1) := by decide +kernel
theorem dL_law_760 : decode cL_law 760 = .ok (.goto 498, 3) := by decide +kernel
theorem dL_law_763 : decode cL_law 763 = .ok (.aload_n 1, 1) := by decide +kernel
theorem dL_law_764 : decode cL_law 764 = .ok (.aload_n 0, 1) := by decide +kernel
theorem dL_law_765 : decode cL_law 765 = .ok (.iload 4, 2) := by decide +kernel
theorem dL_law_767 : decode cL_law 767 = .ok (.iconst 1, 1) := by decide +kernel
theorem dL_law_768 : decode cL_law 768 = .ok (.iadd, 1) := by decide +kernel
theorem dL_law_769 : decode cL_law 769 = .ok (.iaload, 1) := by decide +kernel
theorem dL_law_770 : decode cL_law 770 = .ok (.aload_n 0, 1) := by decide +kernel
theorem dL_law_771 : decode cL_law 771 = .ok (.iload 4, 2) := by decide +kernel
theorem dL_law_773 : decode cL_law 773 = .ok (.iconst 2, 1) := by decide +kernel
theorem dL_law_774 : decode cL_law 774 = .ok (.iadd, 1) := by decide +kernel
theorem dL_law_775 : decode cL_law 775 = .ok (.iaload, 1) := by decide +kernel
theorem dL_law_776 : decode cL_law 776 = .ok (.invokevirtual 87, 3) := by decide +kernel
theorem dL_law_779 : decode cL_law 779 = .ok (.pop, 1) := by decide +kernel
theorem dL_law_780 : decode cL_law 780 = .ok (.aload_n 2, 1) := by decide +kernel
theorem dL_law_781 : decode cL_law 781 = .ok (.aload_n 0, 1) := by decide +kernel
theorem dL_law_782 : decode cL_law 782 = .ok (.iload 4, 2) := by decide +kernel
theorem dL_law_784 : decode cL_law 784 = .ok (.iconst 1, 1) := by decide +kernel
theorem dL_law_785 : decode cL_law 785 = .ok (.iadd, 1) := by decide +kernel
theorem dL_law_786 : decode cL_law 786 = .ok (.iaload, 1) := by decide +kernel
theorem dL_law_787 : decode cL_law 787 = .ok (.aload_n 0, 1) := by decide +kernel
theorem dL_law_788 : decode cL_law 788 = .ok (.iload 4, 2) := by decide +kernel
theorem dL_law_790 : decode cL_law 790 = .ok (.iconst 2, 1) := by decide +kernel
theorem dL_law_791 : decode cL_law 791 = .ok (.iadd, 1) := by decide +kernel
theorem dL_law_792 : decode cL_law 792 = .ok (.iaload, 1) := by decide +kernel
theorem dL_law_793 : decode cL_law 793 = .ok (.invokevirtual 90, 3) := by decide +kernel
theorem dL_law_796 : decode cL_law 796 = .ok (.pop, 1) := by decide +kernel
theorem dL_law_797 : decode cL_law 797 = .ok (.goto 461, 3) := by decide +kernel
theorem dL_law_800 : decode cL_law 800 = .ok (.aload_n 1, 1) := by decide +kernel
theorem dL_law_801 : decode cL_law 801 = .ok (.aload_n 0, 1) := by decide +kernel
theorem dL_law_802 : decode cL_law 802 = .ok (.iload 4, 2) := by decide +kernel
theorem dL_law_804 : decode cL_law 804 = .ok (.iconst 1, 1) := by decide +kernel
theorem dL_law_805 : decode cL_law 805 = .ok (.iadd, 1) := by decide +kernel
theorem dL_law_806 : decode cL_law 806 = .ok (.iaload, 1) := by decide +kernel
theorem dL_law_807 : decode cL_law 807 = .ok (.aload_n 0, 1) := by decide +kernel
theorem dL_law_808 : decode cL_law 808 = .ok (.iload 4, 2) := by decide +kernel
theorem dL_law_810 : decode cL_law 810 = .ok (.iconst 2, 1) := by decide +kernel
theorem dL_law_811 : decode cL_law 811 = .ok (.iadd, 1) := by decide +kernel
theorem dL_law_812 : decode cL_law 812 = .ok (.iaload, 1) := by decide +kernel
theorem dL_law_813 : decode cL_law 813 = .ok (.aload_n 0, 1) := by decide +kernel
theorem dL_law_814 : decode cL_law 814 = .ok (.iload 4, 2) := by decide +kernel
theorem dL_law_816 : decode cL_law 816 = .ok (.iconst 3, 1) := by decide +kernel
theorem dL_law_817 : decode cL_law 817 = .ok (.iadd, 1) := by decide +kernel
theorem dL_law_818 : decode cL_law 818 = .ok (.iaload, 1) := by decide +kernel
theorem dL_law_819 : decode cL_law 819 = .ok (.aload_n 0, 1) := by decide +kernel
theorem dL_law_820 : decode cL_law 820 = .ok (.iload 4, 2) := by decide +kernel
theorem dL_law_822 : decode cL_law 822 = .ok (.iconst 4, 1) := by decide +kernel
theorem dL_law_823 : decode cL_law 823 = .ok (.iadd, 1) := by decide +kernel
theorem dL_law_824 : decode cL_law 824 = .ok (.iaload, 1) := by decide +kernel
theorem dL_law_825 : decode cL_law 825 = .ok (.invokevirtual 91, 3) := by decide +kernel
theorem dL_law_828 : decode cL_law 828 = .ok (.pop, 1) := by decide +kernel
theorem dL_law_829 : decode cL_law 829 = .ok (.aload_n 2, 1) := by decide +kernel
theorem dL_law_830 : decode cL_law 830 = .ok (.aload_n 0, 1) := by decide +kernel
theorem dL_law_831 : decode cL_law 831 = .ok (.iload 4, 2) := by decide +kernel
theorem dL_law_833 : decode cL_law 833 = .ok (.iconst 1, 1) := by decide +kernel
theorem dL_law_834 : decode cL_law 834 = .ok (.iadd, 1) := by decide +kernel
theorem dL_law_835 : decode cL_law 835 = .ok (.iaload, 1) := by decide +kernel
theorem dL_law_836 : decode cL_law 836 = .ok (.aload_n 0, 1) := by decide +kernel
theorem dL_law_837 : decode cL_law 837 = .ok (.iload 4, 2) := by decide +kernel
theorem dL_law_839 : decode cL_law 839 = .ok (.iconst 2, 1) := by decide +kernel
theorem dL_law_840 : decode cL_law 840 = .ok (.iadd, 1) := by decide +kernel
theorem dL_law_841 : decode cL_law 841 = .ok (.iaload, 1) := by decide +kernel
theorem dL_law_842 : decode cL_law 842 = .ok (.aload_n 0, 1) := by decide +kernel
theorem dL_law_843 : decode cL_law 843 = .ok (.iload 4, 2) := by decide +kernel
theorem dL_law_845 : decode cL_law 845 = .ok (.iconst 3, 1) := by decide +kernel
theorem dL_law_846 : decode cL_law 846 = .ok (.iadd, 1) := by decide +kernel
theorem dL_law_847 : decode cL_law 847 = .ok (.iaload, 1) := by decide +kernel
theorem dL_law_848 : decode cL_law 848 = .ok (.aload_n 0, 1) := by decide +kernel
theorem dL_law_849 : decode cL_law 849 = .ok (.iload 4, 2) := by decide +kernel
theorem dL_law_851 : decode cL_law 851 = .ok (.iconst 4, 1) := by decide +kernel
theorem dL_law_852 : decode cL_law 852 = .ok (.iadd, 1) := by decide +kernel
theorem dL_law_853 : decode cL_law 853 = .ok (.iaload, 1) := by decide +kernel
theorem dL_law_854 : decode cL_law 854 = .ok (.invokevirtual 95, 3) := by decide +kernel
theorem dL_law_857 : decode cL_law 857 = .ok (.pop, 1) := by decide +kernel
theorem dL_law_858 : decode cL_law 858 = .ok (.goto 400, 3) := by decide +kernel
theorem dL_law_861 : decode cL_law 861 = .ok (.aload_n 1, 1) := by decide +kernel
theorem dL_law_862 : decode cL_law 862 = .ok (.aload_n 0, 1) := by decide +kernel
theorem dL_law_863 : decode cL_law 863 = .ok (.iload 4, 2) := by decide +kernel
theorem dL_law_865 : decode cL_law 865 = .ok (.iconst 1, 1) := by decide +kernel
theorem dL_law_866 : decode cL_law 866 = .ok (.iadd, 1) := by decide +kernel
theorem dL_law_867 : decode cL_law 867 = .ok (.iaload, 1) := by decide +kernel
theorem dL_law_868 : decode cL_law 868 = .ok (.invokevirtual 96, 3) := by decide +kernel
theorem dL_law_871 : decode cL_law 871 = .ok (.pop, 1) := by decide +kernel
theorem dL_law_872 : decode cL_law 872 = .ok (.aload_n 2, 1) := by decide +kernel
theorem dL_law_873 : decode cL_law 873 = .ok (.aload_n 0, 1) := by decide +kernel
theorem dL_law_874 : decode cL_law 874 = .ok (.iload 4, 2) := by decide +kernel
theorem dL_law_876 : decode cL_law 876 = .ok (.iconst 1, 1) := by decide +kernel
theorem dL_law_877 : decode cL_law 877 = .ok (.iadd, 1) := by decide +kernel
theorem dL_law_878 : decode cL_law 878 = .ok (.iaload, 1) := by decide +kernel
theorem dL_law_879 : decode cL_law 879 = .ok (.invokevirtual 99, 3) := by decide +kernel
theorem dL_law_882 : decode cL_law 882 = .ok (.pop, 1) := by decide +kernel
theorem dL_law_883 : decode cL_law 883 = .ok (.goto 375, 3) := by decide +kernel
theorem dL_law_886 : decode cL_law 886 = .ok (.aload_n 1, 1) := by decide +kernel
theorem dL_law_887 : decode cL_law 887 = .ok (.aload_n 0, 1) := by decide +kernel
theorem dL_law_888 : decode cL_law 888 = .ok (.iload 4, 2) := by decide +kernel
theorem dL_law_890 : decode cL_law 890 = .ok (.iconst 1, 1) := by decide +kernel
theorem dL_law_891 : decode cL_law 891 = .ok (.iadd, 1) := by decide +kernel
theorem dL_law_892 : decode cL_law 892 = .ok (.iaload, 1) := by decide +kernel
theorem dL_law_893 : decode cL_law 893 = .ok (.invokevirtual 100, 3) := by decide +kernel
theorem dL_law_896 : decode cL_law 896 = .ok (.pop, 1) := by decide +kernel
theorem dL_law_897 : decode cL_law 897 = .ok (.aload_n 2, 1) := by decide +kernel
theorem dL_law_898 : decode cL_law 898 = .ok (.aload_n 0, 1) := by decide +kernel
theorem dL_law_899 : decode cL_law 899 = .ok (.iload 4, 2) := by decide +kernel
theorem dL_law_901 : decode cL_law 901 = .ok (.iconst 1, 1) := by decide +kernel
theorem dL_law_902 : decode cL_law 902 = .ok (.iadd, 1) := by decide +kernel
theorem dL_law_903 : decode cL_law 903 = .ok (.iaload, 1) := by decide +kernel
theorem dL_law_904 : decode cL_law 904 = .ok (.invokevirtual 103, 3) := by decide +kernel
theorem dL_law_907 : decode cL_law 907 = .ok (.pop, 1) := by decide +kernel
theorem dL_law_908 : decode cL_law 908 = .ok (.goto 350, 3) := by decide +kernel
theorem dL_law_911 : decode cL_law 911 = .ok (.aload_n 1, 1) := by decide +kernel
theorem dL_law_912 : decode cL_law 912 = .ok (.aload_n 0, 1) := by decide +kernel
theorem dL_law_913 : decode cL_law 913 = .ok (.iload 4, 2) := by decide +kernel
theorem dL_law_915 : decode cL_law 915 = .ok (.iconst 1, 1) := by decide +kernel
theorem dL_law_916 : decode cL_law 916 = .ok (.iadd, 1) := by decide +kernel
theorem dL_law_917 : decode cL_law 917 = .ok (.iaload, 1) := by decide +kernel
theorem dL_law_918 : decode cL_law 918 = .ok (.aload_n 0, 1) := by decide +kernel
theorem dL_law_919 : decode cL_law 919 = .ok (.iload 4, 2) := by decide +kernel
theorem dL_law_921 : decode cL_law 921 = .ok (.iconst 2, 1) := by decide +kernel
theorem dL_law_922 : decode cL_law 922 = .ok (.iadd, 1) := by decide +kernel
theorem dL_law_923 : decode cL_law 923 = .ok (.iaload, 1) := by decide +kernel
theorem dL_law_924 : decode cL_law 924 = .ok (.aload_n 3, 1) := by decide +kernel
theorem dL_law_925 : decode cL_law 925 = .ok (.invokestatic 104, 3) := by decide +kernel
theorem dL_law_928 : decode cL_law 928 = .ok (.istore 5, 2) := by decide +kernel
theorem dL_law_930 : decode cL_law 930 = .ok (.aload_n 2, 1) := by decide +kernel
theorem dL_law_931 : decode cL_law 931 = .ok (.aload_n 0, 1) := by decide +kernel
theorem dL_law_932 : decode cL_law 932 = .ok (.iload 4, 2) := by decide +kernel
theorem dL_law_934 : decode cL_law 934 = .ok (.iconst 1, 1) := by decide +kernel
theorem dL_law_935 : decode cL_law 935 = .ok (.iadd, 1) := by decide +kernel
theorem dL_law_936 : decode cL_law 936 = .ok (.iaload, 1) := by decide +kernel
theorem dL_law_937 : decode cL_law 937 = .ok (.aload_n 0, 1) := by decide +kernel
theorem dL_law_938 : decode cL_law 938 = .ok (.iload 4, 2) := by decide +kernel
theorem dL_law_940 : decode cL_law 940 = .ok (.iconst 2, 1) := by decide +kernel
theorem dL_law_941 : decode cL_law 941 = .ok (.iadd, 1) := by decide +kernel
theorem dL_law_942 : decode cL_law 942 = .ok (.iaload, 1) := by decide +kernel
theorem dL_law_943 : decode cL_law 943 = .ok (.invokevirtual 109, 3) := by decide +kernel
theorem dL_law_946 : decode cL_law 946 = .ok (.lstore 6, 2) := by decide +kernel
theorem dL_law_948 : decode cL_law 948 = .ok (.goto 310, 3) := by decide +kernel
theorem dL_law_951 : decode cL_law 951 = .ok (.aload_n 1, 1) := by decide +kernel
theorem dL_law_952 : decode cL_law 952 = .ok (.aload_n 0, 1) := by decide +kernel
theorem dL_law_953 : decode cL_law 953 = .ok (.iload 4, 2) := by decide +kernel
theorem dL_law_955 : decode cL_law 955 = .ok (.iconst 1, 1) := by decide +kernel
theorem dL_law_956 : decode cL_law 956 = .ok (.iadd, 1) := by decide +kernel
theorem dL_law_957 : decode cL_law 957 = .ok (.iaload, 1) := by decide +kernel
theorem dL_law_958 : decode cL_law 958 = .ok (.aload_n 0, 1) := by decide +kernel
theorem dL_law_959 : decode cL_law 959 = .ok (.iload 4, 2) := by decide +kernel
theorem dL_law_961 : decode cL_law 961 = .ok (.iconst 2, 1) := by decide +kernel
theorem dL_law_962 : decode cL_law 962 = .ok (.iadd, 1) := by decide +kernel
theorem dL_law_963 : decode cL_law 963 = .ok (.iaload, 1) := by decide +kernel
theorem dL_law_964 : decode cL_law 964 = .ok (.aload_n 3, 1) := by decide +kernel
theorem dL_law_965 : decode cL_law 965 = .ok (.invokestatic 110, 3) := by decide +kernel
theorem dL_law_968 : decode cL_law 968 = .ok (.istore 5, 2) := by decide +kernel
theorem dL_law_970 : decode cL_law 970 = .ok (.aload_n 2, 1) := by decide +kernel
theorem dL_law_971 : decode cL_law 971 = .ok (.aload_n 0, 1) := by decide +kernel
theorem dL_law_972 : decode cL_law 972 = .ok (.iload 4, 2) := by decide +kernel
theorem dL_law_974 : decode cL_law 974 = .ok (.iconst 1, 1) := by decide +kernel
theorem dL_law_975 : decode cL_law 975 = .ok (.iadd, 1) := by decide +kernel
theorem dL_law_976 : decode cL_law 976 = .ok (.iaload, 1) := by decide +kernel
theorem dL_law_977 : decode cL_law 977 = .ok (.aload_n 0, 1) := by decide +kernel
theorem dL_law_978 : decode cL_law 978 = .ok (.iload 4, 2) := by decide +kernel
theorem dL_law_980 : decode cL_law 980 = .ok (.iconst 2, 1) := by decide +kernel
theorem dL_law_981 : decode cL_law 981 = .ok (.iadd, 1) := by decide +kernel
theorem dL_law_982 : decode cL_law 982 = .ok (.iaload, 1) := by decide +kernel
theorem dL_law_983 : decode cL_law 983 = .ok (.invokevirtual 112, 3) := by decide +kernel
theorem dL_law_986 : decode cL_law 986 = .ok (.lstore 6, 2) := by decide +kernel
theorem dL_law_988 : decode cL_law 988 = .ok (.goto 270, 3) := by decide +kernel
theorem dL_law_991 : decode cL_law 991 = .ok (.aload_n 1, 1) := by decide +kernel
theorem dL_law_992 : decode cL_law 992 = .ok (.aload_n 0, 1) := by decide +kernel
theorem dL_law_993 : decode cL_law 993 = .ok (.iload 4, 2) := by decide +kernel
theorem dL_law_995 : decode cL_law 995 = .ok (.iconst 1, 1) := by decide +kernel
theorem dL_law_996 : decode cL_law 996 = .ok (.iadd, 1) := by decide +kernel
theorem dL_law_997 : decode cL_law 997 = .ok (.iaload, 1) := by decide +kernel
theorem dL_law_998 : decode cL_law 998 = .ok (.invokevirtual 113, 3) := by decide +kernel
theorem dL_law_1001 : decode cL_law 1001 = .ok (.pop, 1) := by decide +kernel
theorem dL_law_1002 : decode cL_law 1002 = .ok (.aload_n 2, 1) := by decide +kernel
theorem dL_law_1003 : decode cL_law 1003 = .ok (.aload_n 0, 1) := by decide +kernel
theorem dL_law_1004 : decode cL_law 1004 = .ok (.iload 4, 2) := by decide +kernel
theorem dL_law_1006 : decode cL_law 1006 = .ok (.iconst 1, 1) := by decide +kernel
theorem dL_law_1007 : decode cL_law 1007 = .ok (.iadd, 1) := by decide +kernel
theorem dL_law_1008 : decode cL_law 1008 = .ok (.iaload, 1) := by decide +kernel
theorem dL_law_1009 : decode cL_law 1009 = .ok (.invokevirtual 116, 3) := by decide +kernel
theorem dL_law_1012 : decode cL_law 1012 = .ok (.pop, 1) := by decide +kernel
theorem dL_law_1013 : decode cL_law 1013 = .ok (.goto 245, 3) := by decide +kernel
theorem dL_law_1016 : decode cL_law 1016 = .ok (.aload_n 1, 1) := by decide +kernel
theorem dL_law_1017 : decode cL_law 1017 = .ok (.invokevirtual 117, 3) := by decide +kernel
theorem dL_law_1020 : decode cL_law 1020 = .ok (.pop, 1) := by decide +kernel
theorem dL_law_1021 : decode cL_law 1021 = .ok (.aload_n 2, 1) := by decide +kernel
theorem dL_law_1022 : decode cL_law 1022 = .ok (.invokevirtual 120, 3) := by decide +kernel
theorem dL_law_1025 : decode cL_law 1025 = .ok (.pop, 1) := by decide +kernel
theorem dL_law_1026 : decode cL_law 1026 = .ok (.goto 232, 3) := by decide +kernel
theorem dL_law_1029 : decode cL_law 1029 = .ok (.aload_n 1, 1) := by decide +kernel
theorem dL_law_1030 : decode cL_law 1030 = .ok (.aload_n 0, 1) := by decide +kernel
theorem dL_law_1031 : decode cL_law 1031 = .ok (.iload 4, 2) := by decide +kernel
theorem dL_law_1033 : decode cL_law 1033 = .ok (.iconst 1, 1) := by decide +kernel
theorem dL_law_1034 : decode cL_law 1034 = .ok (.iadd, 1) := by decide +kernel
theorem dL_law_1035 : decode cL_law 1035 = .ok (.iaload, 1) := by decide +kernel
theorem dL_law_1036 : decode cL_law 1036 = .ok (.invokevirtual 121, 3) := by decide +kernel
theorem dL_law_1039 : decode cL_law 1039 = .ok (.pop, 1) := by decide +kernel
theorem dL_law_1040 : decode cL_law 1040 = .ok (.aload_n 2, 1) := by decide +kernel
theorem dL_law_1041 : decode cL_law 1041 = .ok (.aload_n 0, 1) := by decide +kernel
theorem dL_law_1042 : decode cL_law 1042 = .ok (.iload 4, 2) := by decide +kernel
theorem dL_law_1044 : decode cL_law 1044 = .ok (.iconst 1, 1) := by decide +kernel
theorem dL_law_1045 : decode cL_law 1045 = .ok (.iadd, 1) := by decide +kernel
theorem dL_law_1046 : decode cL_law 1046 = .ok (.iaload, 1) := by decide +kernel
theorem dL_law_1047 : decode cL_law 1047 = .ok (.invokevirtual 124, 3) := by decide +kernel
theorem dL_law_1050 : decode cL_law 1050 = .ok (.pop, 1) := by decide +kernel
theorem dL_law_1051 : decode cL_law 1051 = .ok (.goto 207, 3) := by decide +kernel
theorem dL_law_1054 : decode cL_law 1054 = .ok (.aload_n 1, 1) := by decide +kernel
theorem dL_law_1055 : decode cL_law 1055 = .ok (.aload_n 0, 1) := by decide +kernel
theorem dL_law_1056 : decode cL_law 1056 = .ok (.iload 4, 2) := by decide +kernel
theorem dL_law_1058 : decode cL_law 1058 = .ok (.iconst 1, 1) := by decide +kernel
theorem dL_law_1059 : decode cL_law 1059 = .ok (.iadd, 1) := by decide +kernel
theorem dL_law_1060 : decode cL_law 1060 = .ok (.iaload, 1) := by decide +kernel
theorem dL_law_1061 : decode cL_law 1061 = .ok (.invokevirtual 125, 3) := by decide +kernel
theorem dL_law_1064 : decode cL_law 1064 = .ok (.pop, 1) := by decide +kernel
theorem dL_law_1065 : decode cL_law 1065 = .ok (.aload_n 2, 1) := by decide +kernel
theorem dL_law_1066 : decode cL_law 1066 = .ok (.aload_n 0, 1) := by decide +kernel
theorem dL_law_1067 : decode cL_law 1067 = .ok (.iload 4, 2) := by decide +kernel
theorem dL_law_1069 : decode cL_law 1069 = .ok (.iconst 1, 1) := by decide +kernel
theorem dL_law_1070 : decode cL_law 1070 = .ok (.iadd, 1) := by decide +kernel
theorem dL_law_1071 : decode cL_law 1071 = .ok (.iaload, 1) := by decide +kernel
theorem dL_law_1072 : decode cL_law 1072 = .ok (.invokevirtual 128, 3) := by decide +kernel
theorem dL_law_1075 : decode cL_law 1075 = .ok (.pop, 1) := by decide +kernel
theorem dL_law_1076 : decode cL_law 1076 = .ok (.goto 182, 3) := by decide +kernel
theorem dL_law_1079 : decode cL_law 1079 = .ok (.aload_n 1, 1) := by decide +kernel
theorem dL_law_1080 : decode cL_law 1080 = .ok (.aload_n 0, 1) := by decide +kernel
theorem dL_law_1081 : decode cL_law 1081 = .ok (.iload 4, 2) := by decide +kernel
theorem dL_law_1083 : decode cL_law 1083 = .ok (.iconst 1, 1) := by decide +kernel
theorem dL_law_1084 : decode cL_law 1084 = .ok (.iadd, 1) := by decide +kernel
theorem dL_law_1085 : decode cL_law 1085 = .ok (.iaload, 1) := by decide +kernel
theorem dL_law_1086 : decode cL_law 1086 = .ok (.invokevirtual 129, 3) := by decide +kernel
theorem dL_law_1089 : decode cL_law 1089 = .ok (.pop2, 1) := by decide +kernel
theorem dL_law_1090 : decode cL_law 1090 = .ok (.aload_n 2, 1) := by decide +kernel
theorem dL_law_1091 : decode cL_law 1091 = .ok (.aload_n 0, 1) := by decide +kernel
theorem dL_law_1092 : decode cL_law 1092 = .ok (.iload 4, 2) := by decide +kernel
theorem dL_law_1094 : decode cL_law 1094 = .ok (.iconst 1, 1) := by decide +kernel
theorem dL_law_1095 : decode cL_law 1095 = .ok (.iadd, 1) := by decide +kernel
theorem dL_law_1096 : decode cL_law 1096 = .ok (.iaload, 1) := by decide +kernel
theorem dL_law_1097 : decode cL_law 1097 = .ok (.invokevirtual 133, 3) := by decide +kernel
theorem dL_law_1100 : decode cL_law 1100 = .ok (.pop2, 1) := by decide +kernel
theorem dL_law_1101 : decode cL_law 1101 = .ok (.goto 157, 3) := by decide +kernel
theorem dL_law_1104 : decode cL_law 1104 = .ok (.aload_n 1, 1) := by decide +kernel
theorem dL_law_1105 : decode cL_law 1105 = .ok (.invokevirtual 134, 3) := by decide +kernel
theorem dL_law_1108 : decode cL_law 1108 = .ok (.pop2, 1) := by decide +kernel
theorem dL_law_1109 : decode cL_law 1109 = .ok (.aload_n 2, 1) := by decide +kernel
theorem dL_law_1110 : decode cL_law 1110 = .ok (.invokevirtual 138, 3) := by decide +kernel
theorem dL_law_1113 : decode cL_law 1113 = .ok (.pop2, 1) := by decide +kernel
theorem dL_law_1114 : decode cL_law 1114 = .ok (.goto 144, 3) := by decide +kernel
theorem dL_law_1117 : decode cL_law 1117 = .ok (.aload_n 1, 1) := by decide +kernel
theorem dL_law_1118 : decode cL_law 1118 = .ok (.invokevirtual 139, 3) := by decide +kernel
theorem dL_law_1121 : decode cL_law 1121 = .ok (.pop, 1) := by decide +kernel
theorem dL_law_1122 : decode cL_law 1122 = .ok (.aload_n 2, 1) := by decide +kernel
theorem dL_law_1123 : decode cL_law 1123 = .ok (.invokevirtual 142, 3) := by decide +kernel
theorem dL_law_1126 : decode cL_law 1126 = .ok (.pop, 1) := by decide +kernel
theorem dL_law_1127 : decode cL_law 1127 = .ok (.goto 131, 3) := by decide +kernel
theorem dL_law_1130 : decode cL_law 1130 = .ok (.aload_n 1, 1) := by decide +kernel
theorem dL_law_1131 : decode cL_law 1131 = .ok (.aload_n 0, 1) := by decide +kernel
theorem dL_law_1132 : decode cL_law 1132 = .ok (.iload 4, 2) := by decide +kernel
theorem dL_law_1134 : decode cL_law 1134 = .ok (.iconst 1, 1) := by decide +kernel
theorem dL_law_1135 : decode cL_law 1135 = .ok (.iadd, 1) := by decide +kernel
theorem dL_law_1136 : decode cL_law 1136 = .ok (.iaload, 1) := by decide +kernel
theorem dL_law_1137 : decode cL_law 1137 = .ok (.aload_n 3, 1) := by decide +kernel
theorem dL_law_1138 : decode cL_law 1138 = .ok (.invokestatic 143, 3) := by decide +kernel
theorem dL_law_1141 : decode cL_law 1141 = .ok (.istore 5, 2) := by decide +kernel
theorem dL_law_1143 : decode cL_law 1143 = .ok (.aload_n 2, 1) := by decide +kernel
theorem dL_law_1144 : decode cL_law 1144 = .ok (.aload_n 0, 1) := by decide +kernel
theorem dL_law_1145 : decode cL_law 1145 = .ok (.iload 4, 2) := by decide +kernel
theorem dL_law_1147 : decode cL_law 1147 = .ok (.iconst 1, 1) := by decide +kernel
theorem dL_law_1148 : decode cL_law 1148 = .ok (.iadd, 1) := by decide +kernel
theorem dL_law_1149 : decode cL_law 1149 = .ok (.iaload, 1) := by decide +kernel
theorem dL_law_1150 : decode cL_law 1150 = .ok (.invokevirtual 146, 3) := by decide +kernel
theorem dL_law_1153 : decode cL_law 1153 = .ok (.istore 6, 2) := by decide +kernel
theorem dL_law_1155 : decode cL_law 1155 = .ok (.goto 103, 3) := by decide +kernel
theorem dL_law_1158 : decode cL_law 1158 = .ok (.aload_n 1, 1) := by decide +kernel
theorem dL_law_1159 : decode cL_law 1159 = .ok (.aload_n 0, 1) := by decide +kernel
theorem dL_law_1160 : decode cL_law 1160 = .ok (.iload 4, 2) := by decide +kernel
theorem dL_law_1162 : decode cL_law 1162 = .ok (.iconst 1, 1) := by decide +kernel
theorem dL_law_1163 : decode cL_law 1163 = .ok (.iadd, 1) := by decide +kernel
theorem dL_law_1164 : decode cL_law 1164 = .ok (.iaload, 1) := by decide +kernel
theorem dL_law_1165 : decode cL_law 1165 = .ok (.invokevirtual 147, 3) := by decide +kernel
theorem dL_law_1168 : decode cL_law 1168 = .ok (.pop, 1) := by decide +kernel
theorem dL_law_1169 : decode cL_law 1169 = .ok (.aload_n 2, 1) := by decide +kernel
theorem dL_law_1170 : decode cL_law 1170 = .ok (.aload_n 0, 1) := by decide +kernel
theorem dL_law_1171 : decode cL_law 1171 = .ok (.iload 4, 2) := by decide +kernel
theorem dL_law_1173 : decode cL_law 1173 = .ok (.iconst 1, 1) := by decide +kernel
theorem dL_law_1174 : decode cL_law 1174 = .ok (.iadd, 1) := by decide +kernel
theorem dL_law_1175 : decode cL_law 1175 = .ok (.iaload, 1) := by decide +kernel
theorem dL_law_1176 : decode cL_law 1176 = .ok (.invokevirtual 150, 3) := by decide +kernel
theorem dL_law_1179 : decode cL_law 1179 = .ok (.pop, 1) := by decide +kernel
theorem dL_law_1180 : decode cL_law 1180 = .ok (.goto 78, 3) := by decide +kernel
theorem dL_law_1183 : decode cL_law 1183 = .ok (.aload_n 1, 1) := by decide +kernel
theorem dL_law_1184 : decode cL_law 1184 = .ok (.aload_n 0, 1) := by decide +kernel
theorem dL_law_1185 : decode cL_law 1185 = .ok (.iload 4, 2) := by decide +kernel
theorem dL_law_1187 : decode cL_law 1187 = .ok (.iconst 1, 1) := by decide +kernel
theorem dL_law_1188 : decode cL_law 1188 = .ok (.iadd, 1) := by decide +kernel
theorem dL_law_1189 : decode cL_law 1189 = .ok (.iaload, 1) := by decide +kernel
theorem dL_law_1190 : decode cL_law 1190 = .ok (.aload_n 0, 1) := by decide +kernel
theorem dL_law_1191 : decode cL_law 1191 = .ok (.iload 4, 2) := by decide +kernel
theorem dL_law_1193 : decode cL_law 1193 = .ok (.iconst 2, 1) := by decide +kernel
theorem dL_law_1194 : decode cL_law 1194 = .ok (.iadd, 1) := by decide +kernel
theorem dL_law_1195 : decode cL_law 1195 = .ok (.iaload, 1) := by decide +kernel
theorem dL_law_1196 : decode cL_law 1196 = .ok (.invokevirtual 151, 3) := by decide +kernel
theorem dL_law_1199 : decode cL_law 1199 = .ok (.aload_n 2, 1) := by decide +kernel
theorem dL_law_1200 : decode cL_law 1200 = .ok (.aload_n 0, 1) := by decide +kernel
theorem dL_law_1201 : decode cL_law 1201 = .ok (.iload 4, 2) := by decide +kernel
theorem dL_law_1203 : decode cL_law 1203 = .ok (.iconst 1, 1) := by decide +kernel
theorem dL_law_1204 : decode cL_law 1204 = .ok (.iadd, 1) := by decide +kernel
theorem dL_law_1205 : decode cL_law 1205 = .ok (.iaload, 1) := by decide +kernel
theorem dL_law_1206 : decode cL_law 1206 = .ok (.aload_n 0, 1) := by decide +kernel
theorem dL_law_1207 : decode cL_law 1207 = .ok (.iload 4, 2) := by decide +kernel
theorem dL_law_1209 : decode cL_law 1209 = .ok (.iconst 2, 1) := by decide +kernel
theorem dL_law_1210 : decode cL_law 1210 = .ok (.iadd, 1) := by decide +kernel
theorem dL_law_1211 : decode cL_law 1211 = .ok (.iaload, 1) := by decide +kernel
theorem dL_law_1212 : decode cL_law 1212 = .ok (.invokevirtual 154, 3) := by decide +kernel
theorem dL_law_1215 : decode cL_law 1215 = .ok (.if_icmp .eq 43, 3) := by decide +kernel
theorem dL_law_1218 : decode cL_law 1218 = .ok (.iconst 0, 1) := by decide +kernel
theorem dL_law_1219 : decode cL_law 1219 = .ok (.ireturn, 1) := by decide +kernel
theorem dL_law_1220 : decode cL_law 1220 = .ok (.aload_n 1, 1) := by decide +kernel
theorem dL_law_1221 : decode cL_law 1221 = .ok (.aload_n 0, 1) := by decide +kernel
theorem dL_law_1222 : decode cL_law 1222 = .ok (.iload 4, 2) := by decide +kernel
theorem dL_law_1224 : decode cL_law 1224 = .ok (.iconst 1, 1) := by decide +kernel
theorem dL_law_1225 : decode cL_law 1225 = .ok (.iadd, 1) := by decide +kernel
theorem dL_law_1226 : decode cL_law 1226 = .ok (.iaload, 1) := by decide +kernel
theorem dL_law_1227 : decode cL_law 1227 = .ok (.invokevirtual 155, 3) := by decide +kernel
theorem dL_law_1230 : decode cL_law 1230 = .ok (.pop, 1) := by decide +kernel
theorem dL_law_1231 : decode cL_law 1231 = .ok (.aload_n 2, 1) := by decide +kernel
theorem dL_law_1232 : decode cL_law 1232 = .ok (.aload_n 0, 1) := by decide +kernel
theorem dL_law_1233 : decode cL_law 1233 = .ok (.iload 4, 2) := by decide +kernel
theorem dL_law_1235 : decode cL_law 1235 = .ok (.iconst 1, 1) := by decide +kernel
theorem dL_law_1236 : decode cL_law 1236 = .ok (.iadd, 1) := by decide +kernel
theorem dL_law_1237 : decode cL_law 1237 = .ok (.iaload, 1) := by decide +kernel
theorem dL_law_1238 : decode cL_law 1238 = .ok (.invokevirtual 158, 3) := by decide +kernel
theorem dL_law_1241 : decode cL_law 1241 = .ok (.pop, 1) := by decide +kernel
theorem dL_law_1242 : decode cL_law 1242 = .ok (.goto 16, 3) := by decide +kernel
theorem dL_law_1245 : decode cL_law 1245 = .ok (.aload_n 1, 1) := by decide +kernel
theorem dL_law_1246 : decode cL_law 1246 = .ok (.invokevirtual 159, 3) := by decide +kernel
theorem dL_law_1249 : decode cL_law 1249 = .ok (.pop, 1) := by decide +kernel
theorem dL_law_1250 : decode cL_law 1250 = .ok (.aload_n 2, 1) := by decide +kernel
theorem dL_law_1251 : decode cL_law 1251 = .ok (.invokevirtual 162, 3) := by decide +kernel
theorem dL_law_1254 : decode cL_law 1254 = .ok (.pop, 1) := by decide +kernel
theorem dL_law_1255 : decode cL_law 1255 = .ok (.goto 3, 3) := by decide +kernel
theorem dL_law_1258 : decode cL_law 1258 = .ok (.iinc 4 7, 3) := by decide +kernel
theorem dL_law_1261 : decode cL_law 1261 = .ok (.goto (-1238), 3) := by decide +kernel
theorem dL_law_1264 : decode cL_law 1264 = .ok (.iconst 1, 1) := by decide +kernel
theorem dL_law_1265 : decode cL_law 1265 = .ok (.ireturn, 1) := by decide +kernel
