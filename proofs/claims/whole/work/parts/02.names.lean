def RX0 : String := "RoughTables$Command"
def TX0 : u_T := fun k => match k with
  | 0 => ("RoughTables$Command", "numbers", "[I", true)
  | 1 => ("RoughTables$Command", "letter", "C", false)
  | _ => ("RoughTables$Command", "end", "I", false)
def tyX0 : Nat → FieldType := fun k => match k with
  | 0 => .array .int
  | 1 => .char
  | _ => .int
abbrev wsX00 : List Cond := u_ws RX0 TX0 3
theorem nmX0 : ∀ a, a < 3 → ∀ b, b < 3 → a ≠ b → (TX0 a).2.1 ≠ (TX0 b).2.1 := by decide +kernel
theorem tyX0_ok : ∀ k, k < 3 → parseFieldDescriptor (TX0 k).2.2.1 = some (tyX0 k) := by decide +kernel
abbrev cX0_init : ByteArray := prog_2_method_1_code
def yX0_init : MethodName := ⟨RX0, "<init>", "()V"⟩
abbrev cX0_put : ByteArray := prog_2_method_2_code
def yX0_put : MethodName := ⟨RX0, "put", "(CII)V"⟩
abbrev cX0_putMore : ByteArray := prog_2_method_3_code
def yX0_putMore : MethodName := ⟨RX0, "putMore", "(II)V"⟩
abbrev cX0_numberAt : ByteArray := prog_2_method_4_code
def yX0_numberAt : MethodName := ⟨RX0, "numberAt", "(I)I"⟩
abbrev cX0_read : ByteArray := prog_2_method_5_code
def yX0_read : MethodName := ⟨RX0, "read", "(LRoughTables$Text;I)Z"⟩
abbrev cX0_numbersWanted : ByteArray := prog_2_method_6_code
def yX0_numbersWanted : MethodName := ⟨RX0, "numbersWanted", "()I"⟩
def RX1 : String := "RoughTables$History"
def TX1 : u_T := fun k => match k with
  | 0 => ("RoughTables$History", "slots", "[LRoughTables$State;", true)
  | _ => ("RoughTables$History", "size", "I", false)
def tyX1 : Nat → FieldType := fun k => match k with
  | 0 => .array (.object "RoughTables$State")
  | _ => .int
abbrev wsX10 : List Cond := u_ws RX1 TX1 2
theorem nmX1 : ∀ a, a < 2 → ∀ b, b < 2 → a ≠ b → (TX1 a).2.1 ≠ (TX1 b).2.1 := by decide +kernel
theorem tyX1_ok : ∀ k, k < 2 → parseFieldDescriptor (TX1 k).2.2.1 = some (tyX1 k) := by decide +kernel
abbrev cX1_init : ByteArray := prog_3_method_1_code
def yX1_init : MethodName := ⟨RX1, "<init>", "()V"⟩
abbrev cX1_record : ByteArray := prog_3_method_2_code
def yX1_record : MethodName := ⟨RX1, "record", "(LRoughTables$State;)V"⟩
abbrev cX1_restore : ByteArray := prog_3_method_3_code
def yX1_restore : MethodName := ⟨RX1, "restore", "(LRoughTables$State;)V"⟩
abbrev cX1_slotAt : ByteArray := prog_3_method_4_code
def yX1_slotAt : MethodName := ⟨RX1, "slotAt", "(I)LRoughTables$State;"⟩
abbrev cX1_dropOldest : ByteArray := prog_3_method_5_code
def yX1_dropOldest : MethodName := ⟨RX1, "dropOldest", "()V"⟩
def RX2 : String := "RoughTables$Log"
def TX2 : u_T := fun k => match k with
  | 0 => ("RoughTables$Log", "size", "I", false)
  | 1 => ("RoughTables$Log", "numbers", "[I", true)
  | 2 => ("RoughTables$Log", "told", "[I", true)
  | _ => ("RoughTables$Log", "exact", "[I", true)
def tyX2 : Nat → FieldType := fun k => match k with
  | 0 => .int
  | 1 => .array .int
  | 2 => .array .int
  | _ => .array .int
abbrev wsX20 : List Cond := u_ws RX2 TX2 4
theorem nmX2 : ∀ a, a < 4 → ∀ b, b < 4 → a ≠ b → (TX2 a).2.1 ≠ (TX2 b).2.1 := by decide +kernel
theorem tyX2_ok : ∀ k, k < 4 → parseFieldDescriptor (TX2 k).2.2.1 = some (tyX2 k) := by decide +kernel
abbrev cX2_init : ByteArray := prog_4_method_1_code
def yX2_init : MethodName := ⟨RX2, "<init>", "()V"⟩
abbrev cX2_write : ByteArray := prog_4_method_2_code
def yX2_write : MethodName := ⟨RX2, "write", "(III)V"⟩
abbrev cX2_entry : ByteArray := prog_4_method_3_code
def yX2_entry : MethodName := ⟨RX2, "entry", "(II)I"⟩
abbrev cX2_copyFrom : ByteArray := prog_4_method_4_code
def yX2_copyFrom : MethodName := ⟨RX2, "copyFrom", "(LRoughTables$Log;)V"⟩
def RX3 : String := "RoughTables$Sketch"
def TX3 : u_T := fun k => match k with
  | 0 => ("RoughTables$Sketch", "kind", "I", false)
  | 1 => ("RoughTables$Sketch", "seed", "I", false)
  | 2 => ("RoughTables$Sketch", "additions", "I", false)
  | 3 => ("RoughTables$Sketch", "lit", "I", false)
  | 4 => ("RoughTables$Sketch", "kept", "I", false)
  | 5 => ("RoughTables$Sketch", "hashes", "[I", true)
  | _ => ("RoughTables$Sketch", "registers", "[I", true)
def tyX3 : Nat → FieldType := fun k => match k with
  | 0 => .int
  | 1 => .int
  | 2 => .int
  | 3 => .int
  | 4 => .int
  | 5 => .array .int
  | _ => .array .int
abbrev wsX30 : List Cond := u_ws RX3 TX3 7
theorem nmX3 : ∀ a, a < 7 → ∀ b, b < 7 → a ≠ b → (TX3 a).2.1 ≠ (TX3 b).2.1 := by decide +kernel
theorem tyX3_ok : ∀ k, k < 7 → parseFieldDescriptor (TX3 k).2.2.1 = some (tyX3 k) := by decide +kernel
abbrev cX3_init : ByteArray := prog_5_method_1_code
def yX3_init : MethodName := ⟨RX3, "<init>", "()V"⟩
abbrev cX3_begin : ByteArray := prog_5_method_2_code
def yX3_begin : MethodName := ⟨RX3, "begin", "(II)V"⟩
abbrev cX3_copyFrom : ByteArray := prog_5_method_3_code
def yX3_copyFrom : MethodName := ⟨RX3, "copyFrom", "(LRoughTables$Sketch;)V"⟩
abbrev cX3_isLike : ByteArray := prog_5_method_4_code
def yX3_isLike : MethodName := ⟨RX3, "isLike", "(LRoughTables$Sketch;)Z"⟩
abbrev cX3_take : ByteArray := prog_5_method_5_code
def yX3_take : MethodName := ⟨RX3, "take", "(I)V"⟩
abbrev cX3_unite : ByteArray := prog_5_method_6_code
def yX3_unite : MethodName := ⟨RX3, "unite", "(LRoughTables$Sketch;)V"⟩
abbrev cX3_staysWith : ByteArray := prog_5_method_7_code
def yX3_staysWith : MethodName := ⟨RX3, "staysWith", "(I)Z"⟩
abbrev cX3_lowestRaising : ByteArray := prog_5_method_8_code
def yX3_lowestRaising : MethodName := ⟨RX3, "lowestRaising", "()I"⟩
abbrev cX3_bitOf : ByteArray := prog_5_method_9_code
def yX3_bitOf : MethodName := ⟨RX3, "bitOf", "(I)I"⟩
abbrev cX3_registerOf : ByteArray := prog_5_method_10_code
def yX3_registerOf : MethodName := ⟨RX3, "registerOf", "(I)I"⟩
abbrev cX3_raise : ByteArray := prog_5_method_11_code
def yX3_raise : MethodName := ⟨RX3, "raise", "(II)V"⟩
abbrev cX3_placeOf : ByteArray := prog_5_method_12_code
def yX3_placeOf : MethodName := ⟨RX3, "placeOf", "(I)I"⟩
abbrev cX3_keepHash : ByteArray := prog_5_method_13_code
def yX3_keepHash : MethodName := ⟨RX3, "keepHash", "(I)V"⟩
abbrev cX3_filledRegisters : ByteArray := prog_5_method_14_code
def yX3_filledRegisters : MethodName := ⟨RX3, "filledRegisters", "()I"⟩
abbrev cX3_low : ByteArray := prog_5_method_15_code
def yX3_low : MethodName := ⟨RX3, "low", "()I"⟩
abbrev cX3_high : ByteArray := prog_5_method_16_code
def yX3_high : MethodName := ⟨RX3, "high", "()I"⟩
abbrev cX3_rough : ByteArray := prog_5_method_17_code
def yX3_rough : MethodName := ⟨RX3, "rough", "()I"⟩
abbrev cX3_roughByHashes : ByteArray := prog_5_method_18_code
def yX3_roughByHashes : MethodName := ⟨RX3, "roughByHashes", "()I"⟩
abbrev cX3_roughByRanks : ByteArray := prog_5_method_19_code
def yX3_roughByRanks : MethodName := ⟨RX3, "roughByRanks", "()I"⟩
abbrev cX3_told : ByteArray := prog_5_method_20_code
def yX3_told : MethodName := ⟨RX3, "told", "()I"⟩
abbrev cX3_partAt : ByteArray := prog_5_method_21_code
def yX3_partAt : MethodName := ⟨RX3, "partAt", "(I)I"⟩
def RX4 : String := "RoughTables$State"
def TX4 : u_T := fun k => match k with
  | 0 => ("RoughTables$State", "tables", "[LRoughTables$Table;", true)
  | 1 => ("RoughTables$State", "log", "LRoughTables$Log;", true)
  | 2 => ("RoughTables$State", "made", "I", false)
  | _ => ("RoughTables$State", "time", "I", false)
def tyX4 : Nat → FieldType := fun k => match k with
  | 0 => .array (.object "RoughTables$Table")
  | 1 => .object "RoughTables$Log"
  | 2 => .int
  | _ => .int
abbrev wsX40 : List Cond := u_ws RX4 TX4 4
theorem nmX4 : ∀ a, a < 4 → ∀ b, b < 4 → a ≠ b → (TX4 a).2.1 ≠ (TX4 b).2.1 := by decide +kernel
theorem tyX4_ok : ∀ k, k < 4 → parseFieldDescriptor (TX4 k).2.2.1 = some (tyX4 k) := by decide +kernel
abbrev cX4_init : ByteArray := prog_6_method_1_code
def yX4_init : MethodName := ⟨RX4, "<init>", "()V"⟩
abbrev cX4_find : ByteArray := prog_6_method_2_code
def yX4_find : MethodName := ⟨RX4, "find", "(I)LRoughTables$Table;"⟩
abbrev cX4_copyFrom : ByteArray := prog_6_method_3_code
def yX4_copyFrom : MethodName := ⟨RX4, "copyFrom", "(LRoughTables$State;)V"⟩
abbrev cX4_refusalOf : ByteArray := prog_6_method_4_code
def yX4_refusalOf : MethodName := ⟨RX4, "refusalOf", "(LRoughTables$Command;)I"⟩
abbrev cX4_refusalOfTable : ByteArray := prog_6_method_5_code
def yX4_refusalOfTable : MethodName := ⟨RX4, "refusalOfTable", "(II)I"⟩
abbrev cX4_refusalOfRow : ByteArray := prog_6_method_6_code
def yX4_refusalOfRow : MethodName := ⟨RX4, "refusalOfRow", "(IIII)I"⟩
abbrev cX4_refusalOfMerge : ByteArray := prog_6_method_7_code
def yX4_refusalOfMerge : MethodName := ⟨RX4, "refusalOfMerge", "(II)I"⟩
abbrev cX4_carryOut : ByteArray := prog_6_method_8_code
def yX4_carryOut : MethodName := ⟨RX4, "carryOut", "(LRoughTables$Command;)I"⟩
abbrev cX4_makeTable : ByteArray := prog_6_method_9_code
def yX4_makeTable : MethodName := ⟨RX4, "makeTable", "(II)I"⟩
abbrev cX4_putRow : ByteArray := prog_6_method_10_code
def yX4_putRow : MethodName := ⟨RX4, "putRow", "(IIII)I"⟩
abbrev cX4_unite : ByteArray := prog_6_method_11_code
def yX4_unite : MethodName := ⟨RX4, "unite", "(II)I"⟩
abbrev cX4_empty : ByteArray := prog_6_method_12_code
def yX4_empty : MethodName := ⟨RX4, "empty", "(I)I"⟩
abbrev cX4_tablesWithThing : ByteArray := prog_6_method_13_code
def yX4_tablesWithThing : MethodName := ⟨RX4, "tablesWithThing", "(I)I"⟩
abbrev cX4_thingsOfAny : ByteArray := prog_6_method_14_code
def yX4_thingsOfAny : MethodName := ⟨RX4, "thingsOfAny", "()I"⟩
abbrev cX4_thingsOfAll : ByteArray := prog_6_method_15_code
def yX4_thingsOfAll : MethodName := ⟨RX4, "thingsOfAll", "()I"⟩
abbrev cX4_tablesWithoutError : ByteArray := prog_6_method_16_code
def yX4_tablesWithoutError : MethodName := ⟨RX4, "tablesWithoutError", "()I"⟩
abbrev cX4_placeByError : ByteArray := prog_6_method_17_code
def yX4_placeByError : MethodName := ⟨RX4, "placeByError", "(I)I"⟩
abbrev cX4_errorSize : ByteArray := prog_6_method_18_code
def yX4_errorSize : MethodName := ⟨RX4, "errorSize", "(I)I"⟩
def RX5 : String := "RoughTables$Table"
def TX5 : u_T := fun k => match k with
  | 0 => ("RoughTables$Table", "sketch", "LRoughTables$Sketch;", true)
  | 1 => ("RoughTables$Table", "times", "[I", true)
  | 2 => ("RoughTables$Table", "exact", "I", false)
  | _ => ("RoughTables$Table", "resets", "I", false)
def tyX5 : Nat → FieldType := fun k => match k with
  | 0 => .object "RoughTables$Sketch"
  | 1 => .array .int
  | 2 => .int
  | _ => .int
abbrev wsX50 : List Cond := u_ws RX5 TX5 4
theorem nmX5 : ∀ a, a < 4 → ∀ b, b < 4 → a ≠ b → (TX5 a).2.1 ≠ (TX5 b).2.1 := by decide +kernel
theorem tyX5_ok : ∀ k, k < 4 → parseFieldDescriptor (TX5 k).2.2.1 = some (tyX5 k) := by decide +kernel
abbrev cX5_init : ByteArray := prog_7_method_1_code
def yX5_init : MethodName := ⟨RX5, "<init>", "()V"⟩
abbrev cX5_begin : ByteArray := prog_7_method_2_code
def yX5_begin : MethodName := ⟨RX5, "begin", "(II)V"⟩
abbrev cX5_beginAgain : ByteArray := prog_7_method_3_code
def yX5_beginAgain : MethodName := ⟨RX5, "beginAgain", "()V"⟩
abbrev cX5_copyFrom : ByteArray := prog_7_method_4_code
def yX5_copyFrom : MethodName := ⟨RX5, "copyFrom", "(LRoughTables$Table;)V"⟩
abbrev cX5_saw : ByteArray := prog_7_method_5_code
def yX5_saw : MethodName := ⟨RX5, "saw", "(I)Z"⟩
abbrev cX5_timeOf : ByteArray := prog_7_method_6_code
def yX5_timeOf : MethodName := ⟨RX5, "timeOf", "(I)I"⟩
abbrev cX5_knowAllOf : ByteArray := prog_7_method_7_code
def yX5_knowAllOf : MethodName := ⟨RX5, "knowAllOf", "(LRoughTables$Table;)V"⟩
abbrev cX5_know : ByteArray := prog_7_method_8_code
def yX5_know : MethodName := ⟨RX5, "know", "(II)V"⟩
abbrev cX5_thingAt : ByteArray := prog_7_method_9_code
def yX5_thingAt : MethodName := ⟨RX5, "thingAt", "(I)I"⟩
abbrev cX5_sawToo : ByteArray := prog_7_method_10_code
def yX5_sawToo : MethodName := ⟨RX5, "sawToo", "(LRoughTables$Table;)I"⟩
abbrev cX5_sawEither : ByteArray := prog_7_method_11_code
def yX5_sawEither : MethodName := ⟨RX5, "sawEither", "(LRoughTables$Table;)I"⟩
abbrev cX5_error : ByteArray := prog_7_method_12_code
def yX5_error : MethodName := ⟨RX5, "error", "()I"⟩
abbrev cX5_property : ByteArray := prog_7_method_13_code
def yX5_property : MethodName := ⟨RX5, "property", "(I)I"⟩
def RX6 : String := "RoughTables$Text"
def TX6 : u_T := fun k => match k with
  | 0 => ("RoughTables$Text", "signs", "[C", true)
  | _ => ("RoughTables$Text", "length", "I", false)
def tyX6 : Nat → FieldType := fun k => match k with
  | 0 => .array .char
  | _ => .int
abbrev wsX60 : List Cond := u_ws RX6 TX6 2
theorem nmX6 : ∀ a, a < 2 → ∀ b, b < 2 → a ≠ b → (TX6 a).2.1 ≠ (TX6 b).2.1 := by decide +kernel
theorem tyX6_ok : ∀ k, k < 2 → parseFieldDescriptor (TX6 k).2.2.1 = some (tyX6 k) := by decide +kernel
abbrev cX6_init : ByteArray := prog_8_method_1_code
def yX6_init : MethodName := ⟨RX6, "<init>", "()V"⟩
abbrev cX6_append : ByteArray := prog_8_method_2_code
def yX6_append : MethodName := ⟨RX6, "append", "(C)Z"⟩
abbrev cX6_empty : ByteArray := prog_8_method_3_code
def yX6_empty : MethodName := ⟨RX6, "empty", "()I"⟩
abbrev cX6_signAt : ByteArray := prog_8_method_4_code
def yX6_signAt : MethodName := ⟨RX6, "signAt", "(I)C"⟩
abbrev cX6_digitsAt : ByteArray := prog_8_method_5_code
def yX6_digitsAt : MethodName := ⟨RX6, "digitsAt", "(I)I"⟩
abbrev cX6_numberAt : ByteArray := prog_8_method_6_code
def yX6_numberAt : MethodName := ⟨RX6, "numberAt", "(II)I"⟩
def RX7 : String := "RoughTables$Trial"
def TX7 : u_T := fun k => match k with
  | 0 => ("RoughTables$Trial", "state", "LRoughTables$State;", true)
  | 1 => ("RoughTables$Trial", "command", "LRoughTables$Command;", true)
  | 2 => ("RoughTables$Trial", "done", "I", false)
  | 3 => ("RoughTables$Trial", "at", "I", false)
  | 4 => ("RoughTables$Trial", "reason", "I", false)
  | _ => ("RoughTables$Trial", "cause", "I", false)
def tyX7 : Nat → FieldType := fun k => match k with
  | 0 => .object "RoughTables$State"
  | 1 => .object "RoughTables$Command"
  | 2 => .int
  | 3 => .int
  | 4 => .int
  | _ => .int
abbrev wsX70 : List Cond := u_ws RX7 TX7 6
theorem nmX7 : ∀ a, a < 6 → ∀ b, b < 6 → a ≠ b → (TX7 a).2.1 ≠ (TX7 b).2.1 := by decide +kernel
theorem tyX7_ok : ∀ k, k < 6 → parseFieldDescriptor (TX7 k).2.2.1 = some (tyX7 k) := by decide +kernel
abbrev cX7_init : ByteArray := prog_9_method_1_code
def yX7_init : MethodName := ⟨RX7, "<init>", "()V"⟩
abbrev cX7_run : ByteArray := prog_9_method_2_code
def yX7_run : MethodName := ⟨RX7, "run", "(LRoughTables$Text;LRoughTables$State;)V"⟩
abbrev cX7_faultOfNext : ByteArray := prog_9_method_3_code
def yX7_faultOfNext : MethodName := ⟨RX7, "faultOfNext", "(LRoughTables$Text;)I"⟩
def RX8 : String := "RoughTables"
def TX8 : u_T := fun k => match k with
  | 0 => ("RoughTables", "now", "LRoughTables$State;", true)
  | 1 => ("RoughTables", "history", "LRoughTables$History;", true)
  | 2 => ("RoughTables", "text", "LRoughTables$Text;", true)
  | 3 => ("RoughTables", "order", "LRoughTables$Command;", true)
  | 4 => ("RoughTables", "trial", "LRoughTables$Trial;", true)
  | _ => ("RoughTables", "scratch", "LRoughTables$Sketch;", true)
def tyX8 : Nat → FieldType := fun k => match k with
  | 0 => .object "RoughTables$State"
  | 1 => .object "RoughTables$History"
  | 2 => .object "RoughTables$Text"
  | 3 => .object "RoughTables$Command"
  | 4 => .object "RoughTables$Trial"
  | _ => .object "RoughTables$Sketch"
abbrev wsX80 : List Cond := u_ws RX8 TX8 6
theorem nmX8 : ∀ a, a < 6 → ∀ b, b < 6 → a ≠ b → (TX8 a).2.1 ≠ (TX8 b).2.1 := by decide +kernel
theorem tyX8_ok : ∀ k, k < 6 → parseFieldDescriptor (TX8 k).2.2.1 = some (tyX8 k) := by decide +kernel
abbrev cX8_init : ByteArray := prog_1_method_1_code
def yX8_init : MethodName := ⟨RX8, "<init>", "()V"⟩
abbrev cX8_table : ByteArray := prog_1_method_2_code
def yX8_table : MethodName := ⟨RX8, "table", "(II)I"⟩
abbrev cX8_add : ByteArray := prog_1_method_3_code
def yX8_add : MethodName := ⟨RX8, "add", "(II)I"⟩
abbrev cX8_addRow : ByteArray := prog_1_method_4_code
def yX8_addRow : MethodName := ⟨RX8, "addRow", "(IIII)I"⟩
abbrev cX8_merge : ByteArray := prog_1_method_5_code
def yX8_merge : MethodName := ⟨RX8, "merge", "(II)I"⟩
abbrev cX8_reset : ByteArray := prog_1_method_6_code
def yX8_reset : MethodName := ⟨RX8, "reset", "(I)I"⟩
abbrev cX8_change : ByteArray := prog_1_method_7_code
def yX8_change : MethodName := ⟨RX8, "change", "()I"⟩
abbrev cX8_tableOf : ByteArray := prog_1_method_8_code
def yX8_tableOf : MethodName := ⟨RX8, "tableOf", "(II)I"⟩
abbrev cX8_keptAt : ByteArray := prog_1_method_9_code
def yX8_keptAt : MethodName := ⟨RX8, "keptAt", "(II)I"⟩
abbrev cX8_sawAt : ByteArray := prog_1_method_10_code
def yX8_sawAt : MethodName := ⟨RX8, "sawAt", "(III)I"⟩
abbrev cX8_hash : ByteArray := prog_1_method_11_code
def yX8_hash : MethodName := ⟨RX8, "hash", "(II)I"⟩
abbrev cX8_has : ByteArray := prog_1_method_12_code
def yX8_has : MethodName := ⟨RX8, "has", "(III)I"⟩
abbrev cX8_logAt : ByteArray := prog_1_method_13_code
def yX8_logAt : MethodName := ⟨RX8, "logAt", "(II)I"⟩
abbrev cX8_count : ByteArray := prog_1_method_14_code
def yX8_count : MethodName := ⟨RX8, "count", "(I)I"⟩
abbrev cX8_errorBits : ByteArray := prog_1_method_15_code
def yX8_errorBits : MethodName := ⟨RX8, "errorBits", "(I)I"⟩
abbrev cX8_byError : ByteArray := prog_1_method_16_code
def yX8_byError : MethodName := ⟨RX8, "byError", "(I)I"⟩
abbrev cX8_would : ByteArray := prog_1_method_17_code
def yX8_would : MethodName := ⟨RX8, "would", "(II)I"⟩
abbrev cX8_raises : ByteArray := prog_1_method_18_code
def yX8_raises : MethodName := ⟨RX8, "raises", "(I)I"⟩
abbrev cX8_both : ByteArray := prog_1_method_19_code
def yX8_both : MethodName := ⟨RX8, "both", "(III)I"⟩
abbrev cX8_undo : ByteArray := prog_1_method_20_code
def yX8_undo : MethodName := ⟨RX8, "undo", "()I"⟩
abbrev cX8_type : ByteArray := prog_1_method_21_code
def yX8_type : MethodName := ⟨RX8, "type", "(I)I"⟩
abbrev cX8_clearText : ByteArray := prog_1_method_22_code
def yX8_clearText : MethodName := ⟨RX8, "clearText", "()I"⟩
abbrev cX8_fault : ByteArray := prog_1_method_23_code
def yX8_fault : MethodName := ⟨RX8, "fault", "(I)I"⟩
abbrev cX8_play : ByteArray := prog_1_method_24_code
def yX8_play : MethodName := ⟨RX8, "play", "()I"⟩
abbrev cX8_within : ByteArray := prog_1_method_25_code
def yX8_within : MethodName := ⟨RX8, "within", "(II)Z"⟩
abbrev cX8_isThing : ByteArray := prog_1_method_26_code
def yX8_isThing : MethodName := ⟨RX8, "isThing", "(I)Z"⟩
abbrev cX8_hashOf : ByteArray := prog_1_method_27_code
def yX8_hashOf : MethodName := ⟨RX8, "hashOf", "(II)I"⟩
abbrev cX8_rankOf : ByteArray := prog_1_method_28_code
def yX8_rankOf : MethodName := ⟨RX8, "rankOf", "(I)I"⟩
abbrev cX8_spread : ByteArray := prog_1_method_29_code
def yX8_spread : MethodName := ⟨RX8, "spread", "(II)I"⟩
abbrev cX8_bitsOfQuotient : ByteArray := prog_1_method_30_code
def yX8_bitsOfQuotient : MethodName := ⟨RX8, "bitsOfQuotient", "(II)I"⟩
def RX9 : String := "RoughTablesModel"
def TX9 : u_T := fun k => match k with
  | 0 => ("RoughTablesModel", "now", "[I", true)
  | 1 => ("RoughTablesModel", "aside", "[I", true)
  | 2 => ("RoughTablesModel", "past0", "[I", true)
  | 3 => ("RoughTablesModel", "past1", "[I", true)
  | 4 => ("RoughTablesModel", "past2", "[I", true)
  | 5 => ("RoughTablesModel", "past3", "[I", true)
  | 6 => ("RoughTablesModel", "oldest", "I", false)
  | 7 => ("RoughTablesModel", "states", "I", false)
  | 8 => ("RoughTablesModel", "mix", "[I", true)
  | 9 => ("RoughTablesModel", "text", "[I", true)
  | 10 => ("RoughTablesModel", "length", "I", false)
  | 11 => ("RoughTablesModel", "at", "I", false)
  | 12 => ("RoughTablesModel", "isForm", "Z", false)
  | 13 => ("RoughTablesModel", "reason", "I", false)
  | _ => ("RoughTablesModel", "cause", "I", false)
def tyX9 : Nat → FieldType := fun k => match k with
  | 0 => .array .int
  | 1 => .array .int
  | 2 => .array .int
  | 3 => .array .int
  | 4 => .array .int
  | 5 => .array .int
  | 6 => .int
  | 7 => .int
  | 8 => .array .int
  | 9 => .array .int
  | 10 => .int
  | 11 => .int
  | 12 => .boolean
  | 13 => .int
  | _ => .int
abbrev wsX90 : List Cond := u_ws RX9 TX9 15
theorem nmX9 : ∀ a, a < 15 → ∀ b, b < 15 → a ≠ b → (TX9 a).2.1 ≠ (TX9 b).2.1 := by decide +kernel
theorem tyX9_ok : ∀ k, k < 15 → parseFieldDescriptor (TX9 k).2.2.1 = some (tyX9 k) := by decide +kernel
abbrev cX9_init : ByteArray := prog_11_method_1_code
def yX9_init : MethodName := ⟨RX9, "<init>", "()V"⟩
abbrev cX9_in : ByteArray := prog_11_method_3_code
def yX9_in : MethodName := ⟨RX9, "in", "(III)Z"⟩
abbrev cX9_copy : ByteArray := prog_11_method_4_code
def yX9_copy : MethodName := ⟨RX9, "copy", "([I[I)V"⟩
abbrev cX9_lays : ByteArray := prog_11_method_5_code
def yX9_lays : MethodName := ⟨RX9, "lays", "(I)V"⟩
abbrev cX9_brings : ByteArray := prog_11_method_6_code
def yX9_brings : MethodName := ⟨RX9, "brings", "(I)V"⟩
abbrev cX9_records : ByteArray := prog_11_method_7_code
def yX9_records : MethodName := ⟨RX9, "records", "()V"⟩
abbrev cX9_isTable : ByteArray := prog_11_method_8_code
def yX9_isTable : MethodName := ⟨RX9, "isTable", "(I)Z"⟩
abbrev cX9_isThing : ByteArray := prog_11_method_9_code
def yX9_isThing : MethodName := ⟨RX9, "isThing", "(I)Z"⟩
abbrev cX9_hashOf : ByteArray := prog_11_method_10_code
def yX9_hashOf : MethodName := ⟨RX9, "hashOf", "(II)I"⟩
abbrev cX9_rank : ByteArray := prog_11_method_11_code
def yX9_rank : MethodName := ⟨RX9, "rank", "(I)I"⟩
abbrev cX9_keepHash : ByteArray := prog_11_method_12_code
def yX9_keepHash : MethodName := ⟨RX9, "keepHash", "([III)V"⟩
abbrev cX9_keepRegister : ByteArray := prog_11_method_13_code
def yX9_keepRegister : MethodName := ⟨RX9, "keepRegister", "([IIII)V"⟩
abbrev cX9_keeps : ByteArray := prog_11_method_14_code
def yX9_keeps : MethodName := ⟨RX9, "keeps", "([III)V"⟩
abbrev cX9_lit : ByteArray := prog_11_method_15_code
def yX9_lit : MethodName := ⟨RX9, "lit", "(I)I"⟩
abbrev cX9_filled : ByteArray := prog_11_method_16_code
def yX9_filled : MethodName := ⟨RX9, "filled", "([II)I"⟩
abbrev cX9_low : ByteArray := prog_11_method_17_code
def yX9_low : MethodName := ⟨RX9, "low", "([II)I"⟩
abbrev cX9_harmonic : ByteArray := prog_11_method_18_code
def yX9_harmonic : MethodName := ⟨RX9, "harmonic", "(II)I"⟩
abbrev cX9_byRegisters : ByteArray := prog_11_method_19_code
def yX9_byRegisters : MethodName := ⟨RX9, "byRegisters", "([II)I"⟩
abbrev cX9_rough : ByteArray := prog_11_method_20_code
def yX9_rough : MethodName := ⟨RX9, "rough", "([II)I"⟩
abbrev cX9_high : ByteArray := prog_11_method_21_code
def yX9_high : MethodName := ⟨RX9, "high", "([II)I"⟩
abbrev cX9_told : ByteArray := prog_11_method_22_code
def yX9_told : MethodName := ⟨RX9, "told", "([II)I"⟩
abbrev cX9_toldOf : ByteArray := prog_11_method_23_code
def yX9_toldOf : MethodName := ⟨RX9, "toldOf", "(I)I"⟩
abbrev cX9_exact : ByteArray := prog_11_method_24_code
def yX9_exact : MethodName := ⟨RX9, "exact", "(I)I"⟩
abbrev cX9_error : ByteArray := prog_11_method_25_code
def yX9_error : MethodName := ⟨RX9, "error", "(I)I"⟩
abbrev cX9_added : ByteArray := prog_11_method_26_code
def yX9_added : MethodName := ⟨RX9, "added", "(II)I"⟩
abbrev cX9_makeTable : ByteArray := prog_11_method_27_code
def yX9_makeTable : MethodName := ⟨RX9, "makeTable", "(II)I"⟩
abbrev cX9_forgets : ByteArray := prog_11_method_28_code
def yX9_forgets : MethodName := ⟨RX9, "forgets", "(I)V"⟩
abbrev cX9_sees : ByteArray := prog_11_method_29_code
def yX9_sees : MethodName := ⟨RX9, "sees", "(II)V"⟩
abbrev cX9_seesRow : ByteArray := prog_11_method_30_code
def yX9_seesRow : MethodName := ⟨RX9, "seesRow", "(IIII)I"⟩
abbrev cX9_mingles : ByteArray := prog_11_method_31_code
def yX9_mingles : MethodName := ⟨RX9, "mingles", "([II[II)V"⟩
abbrev cX9_areAlike : ByteArray := prog_11_method_32_code
def yX9_areAlike : MethodName := ⟨RX9, "areAlike", "(II)Z"⟩
abbrev cX9_mergesInto : ByteArray := prog_11_method_33_code
def yX9_mergesInto : MethodName := ⟨RX9, "mergesInto", "(II)I"⟩
abbrev cX9_resetsOne : ByteArray := prog_11_method_34_code
def yX9_resetsOne : MethodName := ⟨RX9, "resetsOne", "(I)I"⟩
abbrev cX9_ends : ByteArray := prog_11_method_35_code
def yX9_ends : MethodName := ⟨RX9, "ends", "(I)I"⟩
abbrev cX9_swap : ByteArray := prog_11_method_36_code
def yX9_swap : MethodName := ⟨RX9, "swap", "()V"⟩
abbrev cX9_table : ByteArray := prog_11_method_37_code
def yX9_table : MethodName := ⟨RX9, "table", "(II)I"⟩
abbrev cX9_add : ByteArray := prog_11_method_38_code
def yX9_add : MethodName := ⟨RX9, "add", "(II)I"⟩
abbrev cX9_addRow : ByteArray := prog_11_method_39_code
def yX9_addRow : MethodName := ⟨RX9, "addRow", "(IIII)I"⟩
abbrev cX9_merge : ByteArray := prog_11_method_40_code
def yX9_merge : MethodName := ⟨RX9, "merge", "(II)I"⟩
abbrev cX9_reset : ByteArray := prog_11_method_41_code
def yX9_reset : MethodName := ⟨RX9, "reset", "(I)I"⟩
abbrev cX9_tableOf : ByteArray := prog_11_method_42_code
def yX9_tableOf : MethodName := ⟨RX9, "tableOf", "(II)I"⟩
abbrev cX9_keptAt : ByteArray := prog_11_method_43_code
def yX9_keptAt : MethodName := ⟨RX9, "keptAt", "(II)I"⟩
abbrev cX9_sawAt : ByteArray := prog_11_method_44_code
def yX9_sawAt : MethodName := ⟨RX9, "sawAt", "(III)I"⟩
abbrev cX9_hash : ByteArray := prog_11_method_45_code
def yX9_hash : MethodName := ⟨RX9, "hash", "(II)I"⟩
abbrev cX9_laysMix : ByteArray := prog_11_method_46_code
def yX9_laysMix : MethodName := ⟨RX9, "laysMix", "(I)V"⟩
abbrev cX9_couldHave : ByteArray := prog_11_method_47_code
def yX9_couldHave : MethodName := ⟨RX9, "couldHave", "(II)Z"⟩
abbrev cX9_has : ByteArray := prog_11_method_48_code
def yX9_has : MethodName := ⟨RX9, "has", "(III)I"⟩
abbrev cX9_logAt : ByteArray := prog_11_method_49_code
def yX9_logAt : MethodName := ⟨RX9, "logAt", "(II)I"⟩
abbrev cX9_seenBy : ByteArray := prog_11_method_50_code
def yX9_seenBy : MethodName := ⟨RX9, "seenBy", "(Z)I"⟩
abbrev cX9_rightOnes : ByteArray := prog_11_method_51_code
def yX9_rightOnes : MethodName := ⟨RX9, "rightOnes", "()I"⟩
abbrev cX9_count : ByteArray := prog_11_method_52_code
def yX9_count : MethodName := ⟨RX9, "count", "(I)I"⟩
abbrev cX9_errorBits : ByteArray := prog_11_method_53_code
def yX9_errorBits : MethodName := ⟨RX9, "errorBits", "(I)I"⟩
abbrev cX9_amount : ByteArray := prog_11_method_54_code
def yX9_amount : MethodName := ⟨RX9, "amount", "(I)I"⟩
abbrev cX9_byError : ByteArray := prog_11_method_55_code
def yX9_byError : MethodName := ⟨RX9, "byError", "(I)I"⟩
abbrev cX9_would : ByteArray := prog_11_method_56_code
def yX9_would : MethodName := ⟨RX9, "would", "(II)I"⟩
abbrev cX9_raises : ByteArray := prog_11_method_57_code
def yX9_raises : MethodName := ⟨RX9, "raises", "(I)I"⟩
abbrev cX9_toldOfBoth : ByteArray := prog_11_method_58_code
def yX9_toldOfBoth : MethodName := ⟨RX9, "toldOfBoth", "(II)I"⟩
abbrev cX9_seenByBoth : ByteArray := prog_11_method_59_code
def yX9_seenByBoth : MethodName := ⟨RX9, "seenByBoth", "(III)I"⟩
abbrev cX9_both : ByteArray := prog_11_method_60_code
def yX9_both : MethodName := ⟨RX9, "both", "(III)I"⟩
abbrev cX9_undo : ByteArray := prog_11_method_61_code
def yX9_undo : MethodName := ⟨RX9, "undo", "()I"⟩
abbrev cX9_type : ByteArray := prog_11_method_62_code
def yX9_type : MethodName := ⟨RX9, "type", "(I)I"⟩
abbrev cX9_clearText : ByteArray := prog_11_method_63_code
def yX9_clearText : MethodName := ⟨RX9, "clearText", "()I"⟩
abbrev cX9_here : ByteArray := prog_11_method_64_code
def yX9_here : MethodName := ⟨RX9, "here", "()I"⟩
abbrev cX9_must : ByteArray := prog_11_method_65_code
def yX9_must : MethodName := ⟨RX9, "must", "(I)V"⟩
abbrev cX9_number : ByteArray := prog_11_method_66_code
def yX9_number : MethodName := ⟨RX9, "number", "(I)I"⟩
abbrev cX9_command : ByteArray := prog_11_method_67_code
def yX9_command : MethodName := ⟨RX9, "command", "()I"⟩
abbrev cX9_does : ByteArray := prog_11_method_68_code
def yX9_does : MethodName := ⟨RX9, "does", "()I"⟩
abbrev cX9_fault : ByteArray := prog_11_method_69_code
def yX9_fault : MethodName := ⟨RX9, "fault", "(I)I"⟩
abbrev cX9_play : ByteArray := prog_11_method_70_code
def yX9_play : MethodName := ⟨RX9, "play", "()I"⟩
def RJx145de : String := "java/io/Serializable"
def TJx145de : u_T := fun k => match k with
  | _ => ("", "", "", false)
def tyJx145de : Nat → FieldType := fun k => match k with
  | _ => .int
theorem nmJx145de : ∀ a, a < 0 → ∀ b, b < 0 → a ≠ b → (TJx145de a).2.1 ≠ (TJx145de b).2.1 := by decide +kernel
theorem tyJx145de_ok : ∀ k, k < 0 → parseFieldDescriptor (TJx145de k).2.2.1 = some (tyJx145de k) := by decide +kernel
def RJxb160c : String := "java/lang/Comparable"
def TJxb160c : u_T := fun k => match k with
  | _ => ("", "", "", false)
def tyJxb160c : Nat → FieldType := fun k => match k with
  | _ => .int
theorem nmJxb160c : ∀ a, a < 0 → ∀ b, b < 0 → a ≠ b → (TJxb160c a).2.1 ≠ (TJxb160c b).2.1 := by decide +kernel
theorem tyJxb160c_ok : ∀ k, k < 0 → parseFieldDescriptor (TJxb160c k).2.2.1 = some (tyJxb160c k) := by decide +kernel
def RJxf58ca : String := "java/lang/Float"
def TJxf58ca : u_T := fun k => match k with
  | _ => ("", "", "", false)
def tyJxf58ca : Nat → FieldType := fun k => match k with
  | _ => .int
theorem nmJxf58ca : ∀ a, a < 0 → ∀ b, b < 0 → a ≠ b → (TJxf58ca a).2.1 ≠ (TJxf58ca b).2.1 := by decide +kernel
theorem tyJxf58ca_ok : ∀ k, k < 0 → parseFieldDescriptor (TJxf58ca k).2.2.1 = some (tyJxf58ca k) := by decide +kernel
abbrev cJxf58ca_isNaN_12338 : ByteArray := prog_12_method_6_code
def yJxf58ca_isNaN_12338 : MethodName := ⟨RJxf58ca, "isNaN", "(F)Z"⟩
abbrev cJxf58ca_floatToIntBits_5c35a : ByteArray := prog_12_method_24_code
def yJxf58ca_floatToIntBits_5c35a : MethodName := ⟨RJxf58ca, "floatToIntBits", "(F)I"⟩
def RJ6 : String := "java/lang/Integer"
def TJ6 : u_T := fun k => match k with
  | _ => ("", "", "", false)
def tyJ6 : Nat → FieldType := fun k => match k with
  | _ => .int
theorem nmJ6 : ∀ a, a < 0 → ∀ b, b < 0 → a ≠ b → (TJ6 a).2.1 ≠ (TJ6 b).2.1 := by decide +kernel
theorem tyJ6_ok : ∀ k, k < 0 → parseFieldDescriptor (TJ6 k).2.2.1 = some (tyJ6 k) := by decide +kernel
abbrev cJ6_bitCount_0f7a4 : ByteArray := prog_13_method_49_code
def yJ6_bitCount_0f7a4 : MethodName := ⟨RJ6, "bitCount", "(I)I"⟩
def RJ9 : String := "java/lang/Math"
def TJ9 : u_T := fun k => match k with
  | _ => ("", "", "", false)
def tyJ9 : Nat → FieldType := fun k => match k with
  | _ => .int
theorem nmJ9 : ∀ a, a < 0 → ∀ b, b < 0 → a ≠ b → (TJ9 a).2.1 ≠ (TJ9 b).2.1 := by decide +kernel
theorem tyJ9_ok : ∀ k, k < 0 → parseFieldDescriptor (TJ9 k).2.2.1 = some (tyJ9 k) := by decide +kernel
abbrev cJ9_abs_0f7a4 : ByteArray := prog_14_method_59_code
def yJ9_abs_0f7a4 : MethodName := ⟨RJ9, "abs", "(I)I"⟩
abbrev cJ9_max_7cf53 : ByteArray := prog_14_method_65_code
def yJ9_max_7cf53 : MethodName := ⟨RJ9, "max", "(II)I"⟩
abbrev cJ9_min_7cf53 : ByteArray := prog_14_method_69_code
def yJ9_min_7cf53 : MethodName := ⟨RJ9, "min", "(II)I"⟩
def RJxd2413 : String := "java/lang/Number"
def TJxd2413 : u_T := fun k => match k with
  | _ => ("", "", "", false)
def tyJxd2413 : Nat → FieldType := fun k => match k with
  | _ => .int
theorem nmJxd2413 : ∀ a, a < 0 → ∀ b, b < 0 → a ≠ b → (TJxd2413 a).2.1 ≠ (TJxd2413 b).2.1 := by decide +kernel
theorem tyJxd2413_ok : ∀ k, k < 0 → parseFieldDescriptor (TJxd2413 k).2.2.1 = some (tyJxd2413 k) := by decide +kernel
def RJ10 : String := "java/lang/System"
def TJ10 : u_T := fun k => match k with
  | _ => ("", "", "", false)
def tyJ10 : Nat → FieldType := fun k => match k with
  | _ => .int
theorem nmJ10 : ∀ a, a < 0 → ∀ b, b < 0 → a ≠ b → (TJ10 a).2.1 ≠ (TJ10 b).2.1 := by decide +kernel
theorem tyJ10_ok : ∀ k, k < 0 → parseFieldDescriptor (TJ10 k).2.2.1 = some (tyJ10 k) := by decide +kernel
def RJxfd54e : String := "java/lang/constant/Constable"
def TJxfd54e : u_T := fun k => match k with
  | _ => ("", "", "", false)
def tyJxfd54e : Nat → FieldType := fun k => match k with
  | _ => .int
theorem nmJxfd54e : ∀ a, a < 0 → ∀ b, b < 0 → a ≠ b → (TJxfd54e a).2.1 ≠ (TJxfd54e b).2.1 := by decide +kernel
theorem tyJxfd54e_ok : ∀ k, k < 0 → parseFieldDescriptor (TJxfd54e k).2.2.1 = some (tyJxfd54e k) := by decide +kernel
def RJx3cf43 : String := "java/lang/constant/ConstantDesc"
def TJx3cf43 : u_T := fun k => match k with
  | _ => ("", "", "", false)
def tyJx3cf43 : Nat → FieldType := fun k => match k with
  | _ => .int
theorem nmJx3cf43 : ∀ a, a < 0 → ∀ b, b < 0 → a ≠ b → (TJx3cf43 a).2.1 ≠ (TJx3cf43 b).2.1 := by decide +kernel
theorem tyJx3cf43_ok : ∀ k, k < 0 → parseFieldDescriptor (TJx3cf43 k).2.2.1 = some (tyJx3cf43 k) := by decide +kernel
def RJ7 : String := "java/util/Arrays"
def TJ7 : u_T := fun k => match k with
  | _ => ("", "", "", false)
def tyJ7 : Nat → FieldType := fun k => match k with
  | _ => .int
theorem nmJ7 : ∀ a, a < 0 → ∀ b, b < 0 → a ≠ b → (TJ7 a).2.1 ≠ (TJ7 b).2.1 := by decide +kernel
theorem tyJ7_ok : ∀ k, k < 0 → parseFieldDescriptor (TJ7 k).2.2.1 = some (tyJ7 k) := by decide +kernel
abbrev cJ7_fill_53178 : ByteArray := prog_17_method_103_code
def yJ7_fill_53178 : MethodName := ⟨RJ7, "fill", "([II)V"⟩
def RL : String := "RoughTablesLaw"
abbrev cL_law : ByteArray := code
def yL_law : MethodName := ⟨RL, "law", "([I)Z"⟩
def wsL_law_r1 : List Cond := [Cond.classLink RL 7 RX8, Cond.instantiable RX8 6, Cond.initialized RX8, Cond.classLink RL 10 RX9, Cond.instantiable RX9 15, Cond.initialized RX9, Cond.methodLink RL 9 yX8_init, Cond.instanceMethod yX8_init, Cond.code yX8_init cX8_init 1 none, Cond.methodLink RX8 1 objectInit, Cond.instanceMethod objectInit, Cond.code objectInit ⟨#[0xb1]⟩ 1 none, Cond.classLink RX8 7 RX4, Cond.instantiable RX4 4, Cond.initialized RX4, Cond.fieldLink RX8 10 "RoughTables" "now" "LRoughTables$State;", Cond.classLink RX8 16 RX1, Cond.instantiable RX1 2, Cond.initialized RX1, Cond.fieldLink RX8 19 "RoughTables" "history" "LRoughTables$History;", Cond.classLink RX8 23 RX6, Cond.instantiable RX6 2, Cond.initialized RX6, Cond.fieldLink RX8 26 "RoughTables" "text" "LRoughTables$Text;"]
def wsL_law_r2 : List Cond := [Cond.classLink RX8 30 RX0, Cond.instantiable RX0 3, Cond.initialized RX0, Cond.fieldLink RX8 33 "RoughTables" "order" "LRoughTables$Command;", Cond.classLink RX8 37 RX7, Cond.instantiable RX7 6, Cond.initialized RX7, Cond.fieldLink RX8 40 "RoughTables" "trial" "LRoughTables$Trial;", Cond.classLink RX8 44 RX3, Cond.instantiable RX3 7, Cond.initialized RX3, Cond.fieldLink RX8 47 "RoughTables" "scratch" "LRoughTables$Sketch;", Cond.methodLink RX8 9 yX4_init, Cond.instanceMethod yX4_init, Cond.code yX4_init cX4_init 2 none, Cond.methodLink RX4 3 objectInit, Cond.classLink RX4 9 RX5, Cond.fieldLink RX4 11 "RoughTables$State" "tables" "[LRoughTables$Table;", Cond.classLink RX4 17 RX2, Cond.instantiable RX2 4, Cond.initialized RX2, Cond.fieldLink RX4 20 "RoughTables$State" "log" "LRoughTables$Log;", Cond.instantiable RX5 4, Cond.initialized RX5]
def wsL_law_r3 : List Cond := [Cond.instanceMethod yX2_init, Cond.code yX2_init cX2_init 1 none, Cond.methodLink RX2 3 objectInit, Cond.arrayClass .int, Cond.fieldLink RX2 9 "RoughTables$Log" "numbers" "[I", Cond.fieldLink RX2 15 "RoughTables$Log" "told" "[I", Cond.fieldLink RX2 18 "RoughTables$Log" "exact" "[I", Cond.instanceMethod yX5_init, Cond.code yX5_init cX5_init 1 none, Cond.methodLink RX5 3 objectInit, Cond.classLink RX5 9 RX3, Cond.fieldLink RX5 12 "RoughTables$Table" "sketch" "LRoughTables$Sketch;", Cond.fieldLink RX5 18 "RoughTables$Table" "times" "[I", Cond.instanceMethod yX3_init, Cond.code yX3_init cX3_init 1 none, Cond.methodLink RX3 3 objectInit, Cond.fieldLink RX3 9 "RoughTables$Sketch" "hashes" "[I", Cond.fieldLink RX3 15 "RoughTables$Sketch" "registers" "[I", Cond.methodLink RX8 18 yX1_init, Cond.instanceMethod yX1_init, Cond.code yX1_init cX1_init 2 none, Cond.methodLink RX1 3 objectInit, Cond.classLink RX1 9 RX4, Cond.fieldLink RX1 11 "RoughTables$History" "slots" "[LRoughTables$State;"]
def wsL_law_r4 : List Cond := [Cond.methodLink RX1 17 yX4_init, Cond.instanceMethod yX6_init, Cond.code yX6_init cX6_init 1 none, Cond.methodLink RX6 3 objectInit, Cond.arrayClass .char, Cond.fieldLink RX6 9 "RoughTables$Text" "signs" "[C", Cond.instanceMethod yX0_init, Cond.code yX0_init cX0_init 1 none, Cond.methodLink RX0 1 objectInit, Cond.fieldLink RX0 7 "RoughTables$Command" "numbers" "[I", Cond.instanceMethod yX7_init, Cond.code yX7_init cX7_init 1 none, Cond.methodLink RX7 3 objectInit, Cond.classLink RX7 9 RX4, Cond.fieldLink RX7 12 "RoughTables$Trial" "state" "LRoughTables$State;", Cond.classLink RX7 18 RX0, Cond.fieldLink RX7 21 "RoughTables$Trial" "command" "LRoughTables$Command;", Cond.methodLink RX7 11 yX4_init, Cond.methodLink RL 12 yX9_init, Cond.instanceMethod yX9_init, Cond.code yX9_init cX9_init 1 none, Cond.methodLink RX9 1 objectInit, Cond.fieldLink RX9 7 "RoughTablesModel" "now" "[I", Cond.fieldLink RX9 13 "RoughTablesModel" "aside" "[I"]
def wsL_law_r5 : List Cond := [Cond.fieldLink RX9 16 "RoughTablesModel" "past0" "[I", Cond.fieldLink RX9 19 "RoughTablesModel" "past1" "[I", Cond.fieldLink RX9 22 "RoughTablesModel" "past2" "[I", Cond.fieldLink RX9 25 "RoughTablesModel" "past3" "[I", Cond.fieldLink RX9 28 "RoughTablesModel" "mix" "[I", Cond.fieldLink RX9 31 "RoughTablesModel" "text" "[I", Cond.methodLink RL 13 yX8_table, Cond.instanceMethod yX8_table, Cond.selects RX8 yX8_table yX8_table, Cond.code yX8_table cX8_table 3 (some .int), Cond.methodLink RX8 51 yX0_put, Cond.instanceMethod yX0_put, Cond.selects RX0 yX0_put yX0_put, Cond.code yX0_put cX0_put 4 none, Cond.fieldLink RX0 13 "RoughTables$Command" "letter" "C", Cond.methodLink RX8 55 yX8_change, Cond.instanceMethod yX8_change, Cond.selects RX8 yX8_change yX8_change, Cond.code yX8_change cX8_change 2 (some .int), Cond.methodLink RX8 63 yX4_refusalOf, Cond.instanceMethod yX4_refusalOf, Cond.selects RX4 yX4_refusalOf yX4_refusalOf, Cond.code yX4_refusalOf cX4_refusalOf 4 (some .int), Cond.fieldLink RX4 49 "RoughTables$Command" "letter" "C"]
def wsL_law_r6 : List Cond := [Cond.methodLink RX4 43 yX0_numberAt, Cond.instanceMethod yX0_numberAt, Cond.selects RX0 yX0_numberAt yX0_numberAt, Cond.code yX0_numberAt cX0_numberAt 2 (some .int), Cond.methodLink RX4 53 yX4_refusalOfTable, Cond.instanceMethod yX4_refusalOfTable, Cond.selects RX4 yX4_refusalOfTable yX4_refusalOfTable, Cond.code yX4_refusalOfTable cX4_refusalOfTable 3 (some .int), Cond.fieldLink RX4 25 "RoughTables$State" "made" "I", Cond.static yX8_within, Cond.code yX8_within cX8_within 2 (some .boolean), Cond.methodLink RX4 57 yX4_refusalOfRow, Cond.instanceMethod yX4_refusalOfRow, Cond.selects RX4 yX4_refusalOfRow yX4_refusalOfRow, Cond.code yX4_refusalOfRow cX4_refusalOfRow 5 (some .int), Cond.fieldLink RX4 29 "RoughTables$State" "time" "I", Cond.methodLink RX4 36 yX4_find, Cond.instanceMethod yX4_find, Cond.selects RX4 yX4_find yX4_find, Cond.code yX4_find cX4_find 2 (some (.object "RoughTables$Table")), Cond.static yX8_isThing, Cond.code yX8_isThing cX8_isThing 1 (some .boolean), Cond.methodLink RX4 61 yX4_refusalOfMerge, Cond.instanceMethod yX4_refusalOfMerge]
def wsL_law_r7 : List Cond := [Cond.selects RX4 yX4_refusalOfMerge yX4_refusalOfMerge, Cond.code yX4_refusalOfMerge cX4_refusalOfMerge 5 (some .int), Cond.fieldLink RX4 72 "RoughTables$Table" "sketch" "LRoughTables$Sketch;", Cond.methodLink RX4 76 yX3_isLike, Cond.instanceMethod yX3_isLike, Cond.selects RX3 yX3_isLike yX3_isLike, Cond.code yX3_isLike cX3_isLike 2 (some .boolean), Cond.fieldLink RX3 18 "RoughTables$Sketch" "kind" "I", Cond.fieldLink RX3 22 "RoughTables$Sketch" "seed" "I", Cond.methodLink RX8 67 yX1_record, Cond.instanceMethod yX1_record, Cond.selects RX1 yX1_record yX1_record, Cond.code yX1_record cX1_record 3 none, Cond.fieldLink RX1 18 "RoughTables$History" "size" "I", Cond.methodLink RX1 22 yX1_dropOldest, Cond.instanceMethod yX1_dropOldest, Cond.selects RX1 yX1_dropOldest yX1_dropOldest, Cond.code yX1_dropOldest cX1_dropOldest 3 none, Cond.methodLink RX1 25 yX1_slotAt, Cond.instanceMethod yX1_slotAt, Cond.selects RX1 yX1_slotAt yX1_slotAt, Cond.code yX1_slotAt cX1_slotAt 2 (some (.object "RoughTables$State")), Cond.methodLink RX1 29 yX4_copyFrom, Cond.instanceMethod yX4_copyFrom]
def wsL_law_r8 : List Cond := [Cond.selects RX4 yX4_copyFrom yX4_copyFrom, Cond.code yX4_copyFrom cX4_copyFrom 5 none, Cond.methodLink RX4 32 yX2_copyFrom, Cond.instanceMethod yX2_copyFrom, Cond.selects RX2 yX2_copyFrom yX2_copyFrom, Cond.code yX2_copyFrom cX2_copyFrom 2 none, Cond.fieldLink RX2 21 "RoughTables$Log" "size" "I", Cond.methodLink RX2 31 arraycopyName, Cond.native arraycopyName, Cond.static arraycopyName, Cond.initialized "java/lang/System", Cond.methodLink RX4 40 yX5_copyFrom, Cond.instanceMethod yX5_copyFrom, Cond.selects RX5 yX5_copyFrom yX5_copyFrom, Cond.code yX5_copyFrom cX5_copyFrom 2 none, Cond.methodLink RX5 50 arraycopyName, Cond.fieldLink RX5 32 "RoughTables$Table" "exact" "I", Cond.fieldLink RX5 36 "RoughTables$Table" "resets" "I", Cond.methodLink RX5 46 yX3_copyFrom, Cond.instanceMethod yX3_copyFrom, Cond.selects RX3 yX3_copyFrom yX3_copyFrom, Cond.code yX3_copyFrom cX3_copyFrom 2 none, Cond.fieldLink RX3 25 "RoughTables$Sketch" "additions" "I", Cond.fieldLink RX3 28 "RoughTables$Sketch" "lit" "I"]
def wsL_law_r9 : List Cond := [Cond.fieldLink RX3 31 "RoughTables$Sketch" "kept" "I", Cond.methodLink RX3 40 arraycopyName, Cond.methodLink RX8 71 yX4_carryOut, Cond.instanceMethod yX4_carryOut, Cond.selects RX4 yX4_carryOut yX4_carryOut, Cond.code yX4_carryOut cX4_carryOut 4 (some .int), Cond.methodLink RX4 82 yX4_makeTable, Cond.instanceMethod yX4_makeTable, Cond.selects RX4 yX4_makeTable yX4_makeTable, Cond.code yX4_makeTable cX4_makeTable 4 (some .int), Cond.methodLink RX4 94 Lib.Math.min.name, Cond.static Lib.Math.min.name, Cond.initialized "java/lang/Math", Cond.code Lib.Math.min.name Lib.Math.min.code 2 (some .int), Cond.methodLink RX4 99 yX5_begin, Cond.instanceMethod yX5_begin, Cond.selects RX5 yX5_begin yX5_begin, Cond.code yX5_begin cX5_begin 3 none, Cond.methodLink RX5 22 yX3_begin, Cond.instanceMethod yX3_begin, Cond.selects RX3 yX3_begin yX3_begin, Cond.code yX3_begin cX3_begin 3 none, Cond.methodLink RX3 34 yJ7_fill_53178, Cond.static yJ7_fill_53178]
def wsL_law_r10 : List Cond := [Cond.initialized RJ7, Cond.code yJ7_fill_53178 cJ7_fill_53178 4 none, Cond.methodLink RX5 26 yJ7_fill_53178, Cond.methodLink RX4 85 yX4_putRow, Cond.instanceMethod yX4_putRow, Cond.selects RX4 yX4_putRow yX4_putRow, Cond.code yX4_putRow cX4_putRow 8 (some .int), Cond.methodLink RX4 103 yX3_take, Cond.instanceMethod yX3_take, Cond.selects RX3 yX3_take yX3_take, Cond.code yX3_take cX3_take 3 none, Cond.constant RX3 50 (1000000000), Cond.methodLink RX3 51 Lib.Math.min.name, Cond.static yX8_hashOf, Cond.code yX8_hashOf cX8_hashOf 3 (some .int), Cond.constant RX8 222 (40503), Cond.constant RX8 223 (65536), Cond.methodLink RX3 56 yX3_bitOf, Cond.instanceMethod yX3_bitOf, Cond.selects RX3 yX3_bitOf yX3_bitOf, Cond.code yX3_bitOf cX3_bitOf 2 (some .int), Cond.methodLink RX3 60 yX3_keepHash, Cond.instanceMethod yX3_keepHash, Cond.selects RX3 yX3_keepHash yX3_keepHash]
def wsL_law_r11 : List Cond := [Cond.code yX3_keepHash cX3_keepHash 4 none, Cond.methodLink RX3 74 yX3_placeOf, Cond.instanceMethod yX3_placeOf, Cond.selects RX3 yX3_placeOf yX3_placeOf, Cond.code yX3_placeOf cX3_placeOf 3 (some .int), Cond.methodLink RX3 64 yX3_registerOf, Cond.instanceMethod yX3_registerOf, Cond.selects RX3 yX3_registerOf yX3_registerOf, Cond.code yX3_registerOf cX3_registerOf 2 (some .int), Cond.static yX8_rankOf, Cond.code yX8_rankOf cX8_rankOf 3 (some .int), Cond.methodLink RX3 70 yX3_raise, Cond.instanceMethod yX3_raise, Cond.selects RX3 yX3_raise yX3_raise, Cond.code yX3_raise cX3_raise 3 none, Cond.methodLink RX3 81 Lib.Math.max.name, Cond.static Lib.Math.max.name, Cond.code Lib.Math.max.name Lib.Math.max.code 2 (some .int), Cond.methodLink RX4 107 yX5_know, Cond.instanceMethod yX5_know, Cond.selects RX5 yX5_know yX5_know, Cond.code yX5_know cX5_know 3 none, Cond.methodLink RX5 67 Lib.Math.min.name, Cond.methodLink RX4 110 yX3_told]
def wsL_law_r12 : List Cond := [Cond.instanceMethod yX3_told, Cond.selects RX3 yX3_told yX3_told, Cond.code yX3_told cX3_told 1 (some .int), Cond.methodLink RX3 104 yX3_low, Cond.instanceMethod yX3_low, Cond.selects RX3 yX3_low yX3_low, Cond.code yX3_low cX3_low 1 (some .int), Cond.methodLink RX3 84 yJ6_bitCount_0f7a4, Cond.static yJ6_bitCount_0f7a4, Cond.initialized RJ6, Cond.code yJ6_bitCount_0f7a4 cJ6_bitCount_0f7a4 1 (some .int), Cond.constant RJ6 265 (1431655765), Cond.constant RJ6 266 (858993459), Cond.constant RJ6 267 (252645135), Cond.methodLink RX3 89 yX3_filledRegisters, Cond.instanceMethod yX3_filledRegisters, Cond.selects RX3 yX3_filledRegisters yX3_filledRegisters, Cond.code yX3_filledRegisters cX3_filledRegisters 6 (some .int), Cond.methodLink RX3 107 yX3_rough, Cond.instanceMethod yX3_rough, Cond.selects RX3 yX3_rough yX3_rough, Cond.code yX3_rough cX3_rough 2 (some .int), Cond.static yX8_spread, Cond.code yX8_spread cX8_spread 4 (some .int)]
def wsL_law_r13 : List Cond := [Cond.methodLink RX3 96 yX3_roughByHashes, Cond.instanceMethod yX3_roughByHashes, Cond.selects RX3 yX3_roughByHashes yX3_roughByHashes, Cond.code yX3_roughByHashes cX3_roughByHashes 2 (some .int), Cond.constant RX3 102 (458752), Cond.methodLink RX3 99 yX3_roughByRanks, Cond.instanceMethod yX3_roughByRanks, Cond.selects RX3 yX3_roughByRanks yX3_roughByRanks, Cond.code yX3_roughByRanks cX3_roughByRanks 6 (some .int), Cond.constant RX3 103 (655360), Cond.methodLink RX3 110 yX3_high, Cond.instanceMethod yX3_high, Cond.selects RX3 yX3_high yX3_high, Cond.code yX3_high cX3_high 1 (some .int), Cond.methodLink RX4 88 yX4_unite, Cond.instanceMethod yX4_unite, Cond.selects RX4 yX4_unite yX4_unite, Cond.code yX4_unite cX4_unite 5 (some .int), Cond.methodLink RX4 114 yX3_unite, Cond.instanceMethod yX3_unite, Cond.selects RX3 yX3_unite yX3_unite, Cond.code yX3_unite cX3_unite 3 none, Cond.methodLink RX4 117 yX5_knowAllOf, Cond.instanceMethod yX5_knowAllOf]
def wsL_law_r14 : List Cond := [Cond.selects RX5 yX5_knowAllOf yX5_knowAllOf, Cond.code yX5_knowAllOf cX5_knowAllOf 3 none, Cond.methodLink RX5 64 yX5_know, Cond.methodLink RX4 91 yX4_empty, Cond.instanceMethod yX4_empty, Cond.selects RX4 yX4_empty yX4_empty, Cond.code yX4_empty cX4_empty 4 (some .int), Cond.fieldLink RX4 120 "RoughTables$Table" "exact" "I", Cond.methodLink RX4 123 yX2_write, Cond.instanceMethod yX2_write, Cond.selects RX2 yX2_write yX2_write, Cond.code yX2_write cX2_write 5 none, Cond.methodLink RX2 25 Lib.Math.min.name, Cond.methodLink RX4 127 yX5_beginAgain, Cond.instanceMethod yX5_beginAgain, Cond.selects RX5 yX5_beginAgain yX5_beginAgain, Cond.code yX5_beginAgain cX5_beginAgain 2 none, Cond.fieldLink RX5 39 "RoughTables$Sketch" "kind" "I", Cond.fieldLink RX5 42 "RoughTables$Sketch" "seed" "I", Cond.methodLink RX5 45 yX5_begin, Cond.methodLink RL 17 yX9_table, Cond.instanceMethod yX9_table, Cond.selects RX9 yX9_table yX9_table, Cond.code yX9_table cX9_table 3 (some .int)]
def wsL_law_r15 : List Cond := [Cond.methodLink RX9 34 yX9_copy, Cond.static yX9_copy, Cond.code yX9_copy cX9_copy 3 none, Cond.methodLink RX9 141 yX9_makeTable, Cond.instanceMethod yX9_makeTable, Cond.selects RX9 yX9_makeTable yX9_makeTable, Cond.code yX9_makeTable cX9_makeTable 5 (some .int), Cond.methodLink RX9 49 yX9_in, Cond.static yX9_in, Cond.code yX9_in cX9_in 3 (some .boolean), Cond.methodLink RX9 104 yX9_forgets, Cond.instanceMethod yX9_forgets, Cond.selects RX9 yX9_forgets yX9_forgets, Cond.code yX9_forgets cX9_forgets 3 none, Cond.methodLink RX9 144 yX9_ends, Cond.instanceMethod yX9_ends, Cond.selects RX9 yX9_ends yX9_ends, Cond.code yX9_ends cX9_ends 3 (some .int), Cond.methodLink RX9 135 yX9_swap, Cond.instanceMethod yX9_swap, Cond.selects RX9 yX9_swap yX9_swap, Cond.code yX9_swap cX9_swap 3 none, Cond.methodLink RX9 138 yX9_records, Cond.instanceMethod yX9_records]
def wsL_law_r16 : List Cond := [Cond.selects RX9 yX9_records yX9_records, Cond.code yX9_records cX9_records 1 none, Cond.fieldLink RX9 38 "RoughTablesModel" "states" "I", Cond.fieldLink RX9 42 "RoughTablesModel" "oldest" "I", Cond.methodLink RX9 45 yX9_lays, Cond.instanceMethod yX9_lays, Cond.selects RX9 yX9_lays yX9_lays, Cond.code yX9_lays cX9_lays 2 none, Cond.methodLink RL 18 yX8_add, Cond.instanceMethod yX8_add, Cond.selects RX8 yX8_add yX8_add, Cond.code yX8_add cX8_add 3 (some .int), Cond.methodLink RL 21 yX9_add, Cond.instanceMethod yX9_add, Cond.selects RX9 yX9_add yX9_add, Cond.code yX9_add cX9_add 3 (some .int), Cond.methodLink RX9 147 yX9_seesRow, Cond.instanceMethod yX9_seesRow, Cond.selects RX9 yX9_seesRow yX9_seesRow, Cond.code yX9_seesRow cX9_seesRow 7 (some .int), Cond.methodLink RX9 116 yX9_isTable, Cond.instanceMethod yX9_isTable, Cond.selects RX9 yX9_isTable yX9_isTable, Cond.code yX9_isTable cX9_isTable 2 (some .boolean)]
def wsL_law_r17 : List Cond := [Cond.methodLink RX9 120 yX9_isThing, Cond.static yX9_isThing, Cond.code yX9_isThing cX9_isThing 1 (some .boolean), Cond.methodLink RX9 123 yX9_sees, Cond.instanceMethod yX9_sees, Cond.selects RX9 yX9_sees yX9_sees, Cond.code yX9_sees cX9_sees 5 none, Cond.methodLink RX9 107 yX9_hashOf, Cond.static yX9_hashOf, Cond.code yX9_hashOf cX9_hashOf 3 (some .int), Cond.constant RX9 53 (40503), Cond.constant RX9 54 (65536), Cond.methodLink RX9 110 yX9_keeps, Cond.static yX9_keeps, Cond.code yX9_keeps cX9_keeps 3 none, Cond.methodLink RX9 55 yX9_keepHash, Cond.static yX9_keepHash, Cond.code yX9_keepHash cX9_keepHash 7 none, Cond.methodLink RX9 59 yX9_rank, Cond.static yX9_rank, Cond.code yX9_rank cX9_rank 3 (some .int), Cond.methodLink RX9 63 yX9_keepRegister, Cond.static yX9_keepRegister, Cond.code yX9_keepRegister cX9_keepRegister 5 none]
def wsL_law_r18 : List Cond := [Cond.methodLink RX9 113 yX9_added, Cond.instanceMethod yX9_added, Cond.selects RX9 yX9_added yX9_added, Cond.code yX9_added cX9_added 5 (some .int), Cond.constantLong RX9 101 (1000000000), Cond.constant RX9 103 (1000000000), Cond.methodLink RX9 95 yX9_toldOf, Cond.instanceMethod yX9_toldOf, Cond.selects RX9 yX9_toldOf yX9_toldOf, Cond.code yX9_toldOf cX9_toldOf 2 (some .int), Cond.methodLink RX9 92 yX9_told, Cond.static yX9_told, Cond.code yX9_told cX9_told 5 (some .int), Cond.methodLink RX9 83 yX9_rough, Cond.static yX9_rough, Cond.code yX9_rough cX9_rough 2 (some .int), Cond.constant RX9 79 (458752), Cond.methodLink RX9 67 yX9_lit, Cond.static yX9_lit, Cond.code yX9_lit cX9_lit 3 (some .int), Cond.methodLink RX9 74 yX9_harmonic, Cond.static yX9_harmonic, Cond.code yX9_harmonic cX9_harmonic 4 (some .int), Cond.methodLink RX9 80 yX9_byRegisters]
def wsL_law_r19 : List Cond := [Cond.static yX9_byRegisters, Cond.code yX9_byRegisters cX9_byRegisters 5 (some .int), Cond.constant RX9 78 (655360), Cond.methodLink RX9 70 yX9_filled, Cond.static yX9_filled, Cond.code yX9_filled cX9_filled 4 (some .int), Cond.methodLink RX9 86 yX9_low, Cond.static yX9_low, Cond.code yX9_low cX9_low 3 (some .int), Cond.methodLink RX9 89 yX9_high, Cond.static yX9_high, Cond.code yX9_high cX9_high 2 (some .int), Cond.methodLink RL 22 yX8_addRow, Cond.instanceMethod yX8_addRow, Cond.selects RX8 yX8_addRow yX8_addRow, Cond.code yX8_addRow cX8_addRow 5 (some .int), Cond.methodLink RX8 59 yX0_putMore, Cond.instanceMethod yX0_putMore, Cond.selects RX0 yX0_putMore yX0_putMore, Cond.code yX0_putMore cX0_putMore 3 none, Cond.methodLink RL 26 yX9_addRow, Cond.instanceMethod yX9_addRow, Cond.selects RX9 yX9_addRow yX9_addRow, Cond.code yX9_addRow cX9_addRow 5 (some .int)]
def wsL_law_r20 : List Cond := [Cond.methodLink RL 27 yX8_merge, Cond.instanceMethod yX8_merge, Cond.selects RX8 yX8_merge yX8_merge, Cond.code yX8_merge cX8_merge 3 (some .int), Cond.methodLink RL 30 yX9_merge, Cond.instanceMethod yX9_merge, Cond.selects RX9 yX9_merge yX9_merge, Cond.code yX9_merge cX9_merge 3 (some .int), Cond.methodLink RX9 151 yX9_mergesInto, Cond.instanceMethod yX9_mergesInto, Cond.selects RX9 yX9_mergesInto yX9_mergesInto, Cond.code yX9_mergesInto cX9_mergesInto 6 (some .int), Cond.methodLink RX9 127 yX9_areAlike, Cond.instanceMethod yX9_areAlike, Cond.selects RX9 yX9_areAlike yX9_areAlike, Cond.code yX9_areAlike cX9_areAlike 3 (some .boolean), Cond.methodLink RX9 131 yX9_mingles, Cond.static yX9_mingles, Cond.code yX9_mingles cX9_mingles 5 none, Cond.methodLink RL 31 yX8_reset, Cond.instanceMethod yX8_reset, Cond.selects RX8 yX8_reset yX8_reset, Cond.code yX8_reset cX8_reset 2 (some .int), Cond.methodLink RL 35 yX9_reset]
def wsL_law_r21 : List Cond := [Cond.instanceMethod yX9_reset, Cond.selects RX9 yX9_reset yX9_reset, Cond.code yX9_reset cX9_reset 2 (some .int), Cond.methodLink RX9 154 yX9_resetsOne, Cond.instanceMethod yX9_resetsOne, Cond.selects RX9 yX9_resetsOne yX9_resetsOne, Cond.code yX9_resetsOne cX9_resetsOne 5 (some .int), Cond.methodLink RX9 98 yX9_exact, Cond.instanceMethod yX9_exact, Cond.selects RX9 yX9_exact yX9_exact, Cond.code yX9_exact cX9_exact 2 (some .int), Cond.methodLink RL 36 yX8_tableOf, Cond.instanceMethod yX8_tableOf, Cond.selects RX8 yX8_tableOf yX8_tableOf, Cond.code yX8_tableOf cX8_tableOf 4 (some .int), Cond.methodLink RX8 74 yX4_find, Cond.methodLink RX8 78 yX8_within, Cond.methodLink RX8 82 yX5_property, Cond.instanceMethod yX5_property, Cond.selects RX5 yX5_property yX5_property, Cond.code yX5_property cX5_property 2 (some .int), Cond.fieldLink RX5 90 "RoughTables$Sketch" "additions" "I", Cond.methodLink RX5 77 yX3_told, Cond.methodLink RX5 81 yX3_low]
def wsL_law_r22 : List Cond := [Cond.methodLink RX5 84 yX3_high, Cond.methodLink RX5 87 yX5_error, Cond.instanceMethod yX5_error, Cond.selects RX5 yX5_error yX5_error, Cond.code yX5_error cX5_error 1 (some .int), Cond.methodLink RX5 93 yX3_rough, Cond.methodLink RL 39 yX9_tableOf, Cond.instanceMethod yX9_tableOf, Cond.selects RX9 yX9_tableOf yX9_tableOf, Cond.code yX9_tableOf cX9_tableOf 4 (some .int), Cond.methodLink RX9 157 yX9_error, Cond.instanceMethod yX9_error, Cond.selects RX9 yX9_error yX9_error, Cond.code yX9_error cX9_error 2 (some .int), Cond.methodLink RL 40 yX8_keptAt, Cond.instanceMethod yX8_keptAt, Cond.selects RX8 yX8_keptAt yX8_keptAt, Cond.code yX8_keptAt cX8_keptAt 4 (some .int), Cond.fieldLink RX8 88 "RoughTables$Table" "sketch" "LRoughTables$Sketch;", Cond.methodLink RX8 91 yX3_partAt, Cond.instanceMethod yX3_partAt, Cond.selects RX3 yX3_partAt yX3_partAt, Cond.code yX3_partAt cX3_partAt 2 (some .int), Cond.methodLink RL 43 yX9_keptAt]
def wsL_law_r23 : List Cond := [Cond.instanceMethod yX9_keptAt, Cond.selects RX9 yX9_keptAt yX9_keptAt, Cond.code yX9_keptAt cX9_keptAt 4 (some .int), Cond.methodLink RL 44 yX8_sawAt, Cond.instanceMethod yX8_sawAt, Cond.selects RX8 yX8_sawAt yX8_sawAt, Cond.code yX8_sawAt cX8_sawAt 6 (some .int), Cond.methodLink RX8 94 yX5_thingAt, Cond.instanceMethod yX5_thingAt, Cond.selects RX5 yX5_thingAt yX5_thingAt, Cond.code yX5_thingAt cX5_thingAt 4 (some .int), Cond.methodLink RX8 97 yX5_timeOf, Cond.instanceMethod yX5_timeOf, Cond.selects RX5 yX5_timeOf yX5_timeOf, Cond.code yX5_timeOf cX5_timeOf 2 (some .int), Cond.methodLink RL 48 yX9_sawAt, Cond.instanceMethod yX9_sawAt, Cond.selects RX9 yX9_sawAt yX9_sawAt, Cond.code yX9_sawAt cX9_sawAt 7 (some .int), Cond.methodLink RL 49 yX8_hash, Cond.instanceMethod yX8_hash, Cond.selects RX8 yX8_hash yX8_hash, Cond.code yX8_hash cX8_hash 3 (some .int), Cond.methodLink RX8 100 yX8_isThing]
def wsL_law_r24 : List Cond := [Cond.methodLink RX8 104 yX8_hashOf, Cond.methodLink RL 52 yX9_hash, Cond.instanceMethod yX9_hash, Cond.selects RX9 yX9_hash yX9_hash, Cond.code yX9_hash cX9_hash 3 (some .int), Cond.methodLink RL 53 yX8_has, Cond.instanceMethod yX8_has, Cond.selects RX8 yX8_has yX8_has, Cond.code yX8_has cX8_has 6 (some .int), Cond.methodLink RX8 108 yX5_saw, Cond.instanceMethod yX5_saw, Cond.selects RX5 yX5_saw yX5_saw, Cond.code yX5_saw cX5_saw 2 (some .boolean), Cond.methodLink RX5 56 yX5_timeOf, Cond.methodLink RX8 111 yX3_staysWith, Cond.instanceMethod yX3_staysWith, Cond.selects RX3 yX3_staysWith yX3_staysWith, Cond.code yX3_staysWith cX3_staysWith 4 (some .boolean), Cond.methodLink RL 56 yX9_has, Cond.instanceMethod yX9_has, Cond.selects RX9 yX9_has yX9_has, Cond.code yX9_has cX9_has 5 (some .int), Cond.methodLink RX9 163 yX9_couldHave, Cond.instanceMethod yX9_couldHave]
def wsL_law_r25 : List Cond := [Cond.selects RX9 yX9_couldHave yX9_couldHave, Cond.code yX9_couldHave cX9_couldHave 5 (some .boolean), Cond.methodLink RX9 160 yX9_laysMix, Cond.instanceMethod yX9_laysMix, Cond.selects RX9 yX9_laysMix yX9_laysMix, Cond.code yX9_laysMix cX9_laysMix 3 none, Cond.methodLink RL 57 yX8_logAt, Cond.instanceMethod yX8_logAt, Cond.selects RX8 yX8_logAt yX8_logAt, Cond.code yX8_logAt cX8_logAt 3 (some .int), Cond.fieldLink RX8 114 "RoughTables$State" "log" "LRoughTables$Log;", Cond.methodLink RX8 118 yX2_entry, Cond.instanceMethod yX2_entry, Cond.selects RX2 yX2_entry yX2_entry, Cond.code yX2_entry cX2_entry 3 (some .int), Cond.methodLink RL 60 yX9_logAt, Cond.instanceMethod yX9_logAt, Cond.selects RX9 yX9_logAt yX9_logAt, Cond.code yX9_logAt cX9_logAt 3 (some .int), Cond.methodLink RL 61 yX8_count, Cond.instanceMethod yX8_count, Cond.selects RX8 yX8_count yX8_count, Cond.code yX8_count cX8_count 2 (some .int), Cond.fieldLink RX8 123 "RoughTables$State" "made" "I"]
def wsL_law_r26 : List Cond := [Cond.fieldLink RX8 127 "RoughTables$State" "time" "I", Cond.fieldLink RX8 136 "RoughTables$Log" "size" "I", Cond.fieldLink RX8 142 "RoughTables$History" "size" "I", Cond.fieldLink RX8 143 "RoughTables$Text" "length" "I", Cond.methodLink RX8 130 yX4_thingsOfAny, Cond.instanceMethod yX4_thingsOfAny, Cond.selects RX4 yX4_thingsOfAny yX4_thingsOfAny, Cond.code yX4_thingsOfAny cX4_thingsOfAny 3 (some .int), Cond.methodLink RX4 133 yX4_tablesWithThing, Cond.instanceMethod yX4_tablesWithThing, Cond.selects RX4 yX4_tablesWithThing yX4_tablesWithThing, Cond.code yX4_tablesWithThing cX4_tablesWithThing 5 (some .int), Cond.methodLink RX4 130 yX5_saw, Cond.methodLink RX8 133 yX4_thingsOfAll, Cond.instanceMethod yX4_thingsOfAll, Cond.selects RX4 yX4_thingsOfAll yX4_thingsOfAll, Cond.code yX4_thingsOfAll cX4_thingsOfAll 3 (some .int), Cond.methodLink RX8 139 yX4_tablesWithoutError, Cond.instanceMethod yX4_tablesWithoutError, Cond.selects RX4 yX4_tablesWithoutError yX4_tablesWithoutError, Cond.code yX4_tablesWithoutError cX4_tablesWithoutError 4 (some .int), Cond.methodLink RX4 136 yX5_error, Cond.methodLink RL 64 yX9_count, Cond.instanceMethod yX9_count]
def wsL_law_r27 : List Cond := [Cond.selects RX9 yX9_count yX9_count, Cond.code yX9_count cX9_count 2 (some .int), Cond.fieldLink RX9 174 "RoughTablesModel" "length" "I", Cond.methodLink RX9 166 yX9_seenBy, Cond.instanceMethod yX9_seenBy, Cond.selects RX9 yX9_seenBy yX9_seenBy, Cond.code yX9_seenBy cX9_seenBy 6 (some .int), Cond.methodLink RX9 170 yX9_rightOnes, Cond.instanceMethod yX9_rightOnes, Cond.selects RX9 yX9_rightOnes yX9_rightOnes, Cond.code yX9_rightOnes cX9_rightOnes 3 (some .int), Cond.methodLink RL 65 yX8_errorBits, Cond.instanceMethod yX8_errorBits, Cond.selects RX8 yX8_errorBits yX8_errorBits, Cond.code yX8_errorBits cX8_errorBits 3 (some .int), Cond.fieldLink RX8 146 "RoughTables$Table" "exact" "I", Cond.methodLink RX8 149 yX5_error, Cond.methodLink RX8 152 yX8_bitsOfQuotient, Cond.static yX8_bitsOfQuotient, Cond.code yX8_bitsOfQuotient cX8_bitsOfQuotient 9 (some .int), Cond.methodLink RX8 224 Lib.Math.abs.name, Cond.static Lib.Math.abs.name, Cond.code Lib.Math.abs.name Lib.Math.abs.code 1 (some .int), Cond.constantLong RX8 227 (2)]
def wsL_law_r28 : List Cond := [Cond.constant RX8 229 (8388608), Cond.constant RX8 230 (-2147483648), Cond.methodLink RL 68 yX9_errorBits, Cond.instanceMethod yX9_errorBits, Cond.selects RX9 yX9_errorBits yX9_errorBits, Cond.code yX9_errorBits cX9_errorBits 4 (some .int), Cond.methodLink RX9 177 yJxf58ca_floatToIntBits_5c35a, Cond.static yJxf58ca_floatToIntBits_5c35a, Cond.initialized RJxf58ca, Cond.code yJxf58ca_floatToIntBits_5c35a cJxf58ca_floatToIntBits_5c35a 1 (some .int), Cond.methodLink RJxf58ca 74 ⟨"java/lang/Float", "floatToRawIntBits", "(F)I"⟩, Cond.native ⟨"java/lang/Float", "floatToRawIntBits", "(F)I"⟩, Cond.static ⟨"java/lang/Float", "floatToRawIntBits", "(F)I"⟩, Cond.initialized "java/lang/Float", Cond.constant RJxf58ca 77 (2143289344), Cond.methodLink RJxf58ca 59 yJxf58ca_isNaN_12338, Cond.static yJxf58ca_isNaN_12338, Cond.code yJxf58ca_isNaN_12338 cJxf58ca_isNaN_12338 1 (some .boolean), Cond.methodLink RL 69 yX8_byError, Cond.instanceMethod yX8_byError, Cond.selects RX8 yX8_byError yX8_byError, Cond.code yX8_byError cX8_byError 3 (some .int), Cond.methodLink RX8 155 yX4_placeByError, Cond.instanceMethod yX4_placeByError]
def wsL_law_r29 : List Cond := [Cond.selects RX4 yX4_placeByError yX4_placeByError, Cond.code yX4_placeByError cX4_placeByError 6 (some .int), Cond.methodLink RX4 139 yX4_errorSize, Cond.instanceMethod yX4_errorSize, Cond.selects RX4 yX4_errorSize yX4_errorSize, Cond.code yX4_errorSize cX4_errorSize 3 (some .int), Cond.methodLink RX4 142 Lib.Math.abs.name, Cond.methodLink RL 72 yX9_byError, Cond.instanceMethod yX9_byError, Cond.selects RX9 yX9_byError yX9_byError, Cond.code yX9_byError cX9_byError 5 (some .int), Cond.methodLink RX9 183 yX9_amount, Cond.instanceMethod yX9_amount, Cond.selects RX9 yX9_amount yX9_amount, Cond.code yX9_amount cX9_amount 3 (some .int), Cond.methodLink RL 73 yX8_would, Cond.instanceMethod yX8_would, Cond.selects RX8 yX8_would yX8_would, Cond.code yX8_would cX8_would 4 (some .int), Cond.methodLink RX8 158 yX3_copyFrom, Cond.methodLink RX8 162 yX3_take, Cond.methodLink RX8 166 yX3_told, Cond.methodLink RL 76 yX9_would, Cond.instanceMethod yX9_would]
def wsL_law_r30 : List Cond := [Cond.selects RX9 yX9_would yX9_would, Cond.code yX9_would cX9_would 3 (some .int), Cond.methodLink RL 77 yX8_raises, Cond.instanceMethod yX8_raises, Cond.selects RX8 yX8_raises yX8_raises, Cond.code yX8_raises cX8_raises 3 (some .int), Cond.methodLink RX8 169 yX3_lowestRaising, Cond.instanceMethod yX3_lowestRaising, Cond.selects RX3 yX3_lowestRaising yX3_lowestRaising, Cond.code yX3_lowestRaising cX3_lowestRaising 2 (some .int), Cond.methodLink RX3 77 yX3_staysWith, Cond.methodLink RL 80 yX9_raises, Cond.instanceMethod yX9_raises, Cond.selects RX9 yX9_raises yX9_raises, Cond.code yX9_raises cX9_raises 3 (some .int), Cond.methodLink RL 81 yX8_both, Cond.instanceMethod yX8_both, Cond.selects RX8 yX8_both yX8_both, Cond.code yX8_both cX8_both 7 (some .int), Cond.methodLink RX8 186 Lib.Math.max.name, Cond.methodLink RX8 172 yX5_sawEither, Cond.instanceMethod yX5_sawEither, Cond.selects RX5 yX5_sawEither yX5_sawEither, Cond.code yX5_sawEither cX5_sawEither 2 (some .int)]
def wsL_law_r31 : List Cond := [Cond.methodLink RX5 73 yX5_sawToo, Cond.instanceMethod yX5_sawToo, Cond.selects RX5 yX5_sawToo yX5_sawToo, Cond.code yX5_sawToo cX5_sawToo 4 (some .int), Cond.methodLink RX8 176 yX5_sawToo, Cond.methodLink RX8 179 yX3_isLike, Cond.methodLink RX8 183 yX3_unite, Cond.methodLink RL 84 yX9_both, Cond.instanceMethod yX9_both, Cond.selects RX9 yX9_both yX9_both, Cond.code yX9_both cX9_both 6 (some .int), Cond.methodLink RX9 186 yX9_seenByBoth, Cond.instanceMethod yX9_seenByBoth, Cond.selects RX9 yX9_seenByBoth yX9_seenByBoth, Cond.code yX9_seenByBoth cX9_seenByBoth 7 (some .int), Cond.methodLink RX9 190 yX9_toldOfBoth, Cond.instanceMethod yX9_toldOfBoth, Cond.selects RX9 yX9_toldOfBoth yX9_toldOfBoth, Cond.code yX9_toldOfBoth cX9_toldOfBoth 3 (some .int), Cond.methodLink RL 85 yX8_undo, Cond.instanceMethod yX8_undo, Cond.selects RX8 yX8_undo yX8_undo, Cond.code yX8_undo cX8_undo 1 (some .int), Cond.methodLink RX8 191 yX1_restore]
def wsL_law_r32 : List Cond := [Cond.instanceMethod yX1_restore, Cond.selects RX1 yX1_restore yX1_restore, Cond.code yX1_restore cX1_restore 3 none, Cond.methodLink RL 89 yX9_undo, Cond.instanceMethod yX9_undo, Cond.selects RX9 yX9_undo yX9_undo, Cond.code yX9_undo cX9_undo 1 (some .int), Cond.methodLink RX9 193 yX9_brings, Cond.instanceMethod yX9_brings, Cond.selects RX9 yX9_brings yX9_brings, Cond.code yX9_brings cX9_brings 2 none, Cond.methodLink RL 90 yX8_type, Cond.instanceMethod yX8_type, Cond.selects RX8 yX8_type yX8_type, Cond.code yX8_type cX8_type 2 (some .int), Cond.methodLink RX8 194 yX6_append, Cond.instanceMethod yX6_append, Cond.selects RX6 yX6_append yX6_append, Cond.code yX6_append cX6_append 2 (some .boolean), Cond.fieldLink RX6 15 "RoughTables$Text" "length" "I", Cond.methodLink RL 93 yX9_type, Cond.instanceMethod yX9_type, Cond.selects RX9 yX9_type yX9_type, Cond.code yX9_type cX9_type 2 (some .int)]
def wsL_law_r33 : List Cond := [Cond.methodLink RL 94 yX8_clearText, Cond.instanceMethod yX8_clearText, Cond.selects RX8 yX8_clearText yX8_clearText, Cond.code yX8_clearText cX8_clearText 1 (some .int), Cond.methodLink RX8 198 yX6_empty, Cond.instanceMethod yX6_empty, Cond.selects RX6 yX6_empty yX6_empty, Cond.code yX6_empty cX6_empty 2 (some .int), Cond.methodLink RL 97 yX9_clearText, Cond.instanceMethod yX9_clearText, Cond.selects RX9 yX9_clearText yX9_clearText, Cond.code yX9_clearText cX9_clearText 2 (some .int), Cond.methodLink RL 98 yX8_fault, Cond.instanceMethod yX8_fault, Cond.selects RX8 yX8_fault yX8_fault, Cond.code yX8_fault cX8_fault 2 (some .int), Cond.fieldLink RX8 205 "RoughTables$Trial" "reason" "I", Cond.fieldLink RX8 208 "RoughTables$Trial" "at" "I", Cond.fieldLink RX8 211 "RoughTables$Trial" "cause" "I", Cond.methodLink RX8 201 yX7_run, Cond.instanceMethod yX7_run, Cond.selects RX7 yX7_run yX7_run, Cond.code yX7_run cX7_run 4 none, Cond.fieldLink RX7 29 "RoughTables$Trial" "done" "I"]
def wsL_law_r34 : List Cond := [Cond.fieldLink RX7 33 "RoughTables$Trial" "at" "I", Cond.fieldLink RX7 36 "RoughTables$Trial" "reason" "I", Cond.fieldLink RX7 39 "RoughTables$Trial" "cause" "I", Cond.fieldLink RX7 42 "RoughTables$Text" "length" "I", Cond.fieldLink RX7 55 "RoughTables$Command" "end" "I", Cond.methodLink RX7 25 yX4_copyFrom, Cond.methodLink RX7 47 yX7_faultOfNext, Cond.instanceMethod yX7_faultOfNext, Cond.selects RX7 yX7_faultOfNext yX7_faultOfNext, Cond.code yX7_faultOfNext cX7_faultOfNext 2 (some .int), Cond.methodLink RX7 58 yX0_read, Cond.instanceMethod yX0_read, Cond.selects RX0 yX0_read yX0_read, Cond.code yX0_read cX0_read 8 (some .boolean), Cond.fieldLink RX0 35 "RoughTables$Command" "end" "I", Cond.methodLink RX0 17 yX6_signAt, Cond.instanceMethod yX6_signAt, Cond.selects RX6 yX6_signAt yX6_signAt, Cond.code yX6_signAt cX6_signAt 2 (some .char), Cond.methodLink RX0 23 yX0_numbersWanted, Cond.instanceMethod yX0_numbersWanted, Cond.selects RX0 yX0_numbersWanted yX0_numbersWanted, Cond.code yX0_numbersWanted cX0_numbersWanted 1 (some .int), Cond.methodLink RX0 27 yX6_digitsAt]
def wsL_law_r35 : List Cond := [Cond.instanceMethod yX6_digitsAt, Cond.selects RX6 yX6_digitsAt yX6_digitsAt, Cond.code yX6_digitsAt cX6_digitsAt 3 (some .int), Cond.methodLink RX6 19 yX6_signAt, Cond.methodLink RX0 31 yX6_numberAt, Cond.instanceMethod yX6_numberAt, Cond.selects RX6 yX6_numberAt yX6_numberAt, Cond.code yX6_numberAt cX6_numberAt 5 (some .int), Cond.methodLink RX7 62 yX4_refusalOf, Cond.methodLink RX7 51 yX4_carryOut, Cond.methodLink RL 101 yX9_fault, Cond.instanceMethod yX9_fault, Cond.selects RX9 yX9_fault yX9_fault, Cond.code yX9_fault cX9_fault 3 (some .int), Cond.fieldLink RX9 215 "RoughTablesModel" "reason" "I", Cond.fieldLink RX9 218 "RoughTablesModel" "cause" "I", Cond.methodLink RX9 221 yX9_does, Cond.instanceMethod yX9_does, Cond.selects RX9 yX9_does yX9_does, Cond.code yX9_does cX9_does 4 (some .int), Cond.fieldLink RX9 196 "RoughTablesModel" "at" "I", Cond.fieldLink RX9 199 "RoughTablesModel" "isForm" "Z", Cond.methodLink RX9 212 yX9_command, Cond.instanceMethod yX9_command]
def wsL_law_r36 : List Cond := [Cond.selects RX9 yX9_command yX9_command, Cond.code yX9_command cX9_command 6 (some .int), Cond.methodLink RX9 203 yX9_here, Cond.instanceMethod yX9_here, Cond.selects RX9 yX9_here yX9_here, Cond.code yX9_here cX9_here 1 (some .int), Cond.methodLink RX9 209 yX9_number, Cond.instanceMethod yX9_number, Cond.selects RX9 yX9_number yX9_number, Cond.code yX9_number cX9_number 4 (some .int), Cond.methodLink RX9 206 yX9_must, Cond.instanceMethod yX9_must, Cond.selects RX9 yX9_must yX9_must, Cond.code yX9_must cX9_must 2 none, Cond.methodLink RL 102 yX8_play, Cond.instanceMethod yX8_play, Cond.selects RX8 yX8_play yX8_play, Cond.code yX8_play cX8_play 1 (some .int), Cond.fieldLink RX8 214 "RoughTables$Trial" "state" "LRoughTables$State;", Cond.fieldLink RX8 219 "RoughTables$Trial" "done" "I", Cond.methodLink RX8 217 yX4_copyFrom, Cond.methodLink RL 105 yX9_play, Cond.instanceMethod yX9_play, Cond.selects RX9 yX9_play yX9_play]
def wsL_law_r37 : List Cond := [Cond.code yX9_play cX9_play 2 (some .int)]
def wsL_law : List Cond := (wsL_law_r1 ++ (wsL_law_r2 ++ (wsL_law_r3 ++ (wsL_law_r4 ++ (wsL_law_r5 ++ (wsL_law_r6 ++ (wsL_law_r7 ++ (wsL_law_r8 ++ (wsL_law_r9 ++ (wsL_law_r10 ++ (wsL_law_r11 ++ (wsL_law_r12 ++ (wsL_law_r13 ++ (wsL_law_r14 ++ (wsL_law_r15 ++ (wsL_law_r16 ++ (wsL_law_r17 ++ (wsL_law_r18 ++ (wsL_law_r19 ++ (wsL_law_r20 ++ (wsL_law_r21 ++ (wsL_law_r22 ++ (wsL_law_r23 ++ (wsL_law_r24 ++ (wsL_law_r25 ++ (wsL_law_r26 ++ (wsL_law_r27 ++ (wsL_law_r28 ++ (wsL_law_r29 ++ (wsL_law_r30 ++ (wsL_law_r31 ++ (wsL_law_r32 ++ (wsL_law_r33 ++ (wsL_law_r34 ++ (wsL_law_r35 ++ (wsL_law_r36 ++ wsL_law_r37)))))))))))))))))))))))))))))))))))) ++ wsX80 ++ wsX90 ++ wsX40 ++ wsX10 ++ wsX60 ++ wsX00 ++ wsX70 ++ wsX30 ++ wsX20 ++ wsX50 ++ ([] : List Cond)
set_option maxRecDepth 20000 in
theorem inlX0 : ∀ w ∈ wsX00, w ∈ wsL_law := fun _ h => List.mem_append_left _ (List.mem_append_left _ (List.mem_append_left _ (List.mem_append_left _ (List.mem_append_left _ (List.mem_append_right _ h)))))
theorem inlX1 : ∀ w ∈ wsX10, w ∈ wsL_law := fun _ h => List.mem_append_left _ (List.mem_append_left _ (List.mem_append_left _ (List.mem_append_left _ (List.mem_append_left _ (List.mem_append_left _ (List.mem_append_left _ (List.mem_append_right _ h)))))))
theorem inlX2 : ∀ w ∈ wsX20, w ∈ wsL_law := fun _ h => List.mem_append_left _ (List.mem_append_left _ (List.mem_append_right _ h))
theorem inlX3 : ∀ w ∈ wsX30, w ∈ wsL_law := fun _ h => List.mem_append_left _ (List.mem_append_left _ (List.mem_append_left _ (List.mem_append_right _ h)))
theorem inlX4 : ∀ w ∈ wsX40, w ∈ wsL_law := fun _ h => List.mem_append_left _ (List.mem_append_left _ (List.mem_append_left _ (List.mem_append_left _ (List.mem_append_left _ (List.mem_append_left _ (List.mem_append_left _ (List.mem_append_left _ (List.mem_append_right _ h))))))))
theorem inlX5 : ∀ w ∈ wsX50, w ∈ wsL_law := fun _ h => List.mem_append_left _ (List.mem_append_right _ h)
theorem inlX6 : ∀ w ∈ wsX60, w ∈ wsL_law := fun _ h => List.mem_append_left _ (List.mem_append_left _ (List.mem_append_left _ (List.mem_append_left _ (List.mem_append_left _ (List.mem_append_left _ (List.mem_append_right _ h))))))
theorem inlX7 : ∀ w ∈ wsX70, w ∈ wsL_law := fun _ h => List.mem_append_left _ (List.mem_append_left _ (List.mem_append_left _ (List.mem_append_left _ (List.mem_append_right _ h))))
theorem inlX8 : ∀ w ∈ wsX80, w ∈ wsL_law := fun _ h => List.mem_append_left _ (List.mem_append_left _ (List.mem_append_left _ (List.mem_append_left _ (List.mem_append_left _ (List.mem_append_left _ (List.mem_append_left _ (List.mem_append_left _ (List.mem_append_left _ (List.mem_append_left _ (List.mem_append_right _ h))))))))))
theorem inlX9 : ∀ w ∈ wsX90, w ∈ wsL_law := fun _ h => List.mem_append_left _ (List.mem_append_left _ (List.mem_append_left _ (List.mem_append_left _ (List.mem_append_left _ (List.mem_append_left _ (List.mem_append_left _ (List.mem_append_left _ (List.mem_append_left _ (List.mem_append_right _ h)))))))))
abbrev vwCl : List vw_C := [(RX0, TX0, 3), (RX1, TX1, 2), (RX2, TX2, 4), (RX3, TX3, 7), (RX4, TX4, 4), (RX5, TX5, 4), (RX6, TX6, 2), (RX7, TX7, 6), (RX8, TX8, 6), (RX9, TX9, 15)]
