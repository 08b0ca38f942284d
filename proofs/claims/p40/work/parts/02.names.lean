/-! ===== BEGIN printed: names, fields, word lists, decode rows ===== -/
def RX0 : String := "GranaryPartition$Bounds"
def TX0 : u_T := fun k => match k with
  | 0 => ("GranaryPartition$Bounds", "leasts", "[I", true)
  | 1 => ("GranaryPartition$Bounds", "greatests", "[I", true)
  | _ => ("GranaryPartition$Bounds", "misses", "[Z", true)
def tyX0 : Nat → FieldType := fun k => match k with
  | 0 => .array .int
  | 1 => .array .int
  | _ => .array .boolean
abbrev wsX00 : List Cond := u_ws RX0 TX0 3
theorem nmX0 : ∀ a, a < 3 → ∀ b, b < 3 → a ≠ b → (TX0 a).2.1 ≠ (TX0 b).2.1 := by decide +kernel
theorem tyX0_ok : ∀ k, k < 3 → parseFieldDescriptor (TX0 k).2.2.1 = some (tyX0 k) := by decide +kernel
abbrev cX0_init : ByteArray := prog_2_method_1_code
def yX0_init : MethodName := ⟨RX0, "<init>", "()V"⟩
abbrev cX0_forget : ByteArray := prog_2_method_2_code
def yX0_forget : MethodName := ⟨RX0, "forget", "()V"⟩
abbrev cX0_forgetColumn : ByteArray := prog_2_method_3_code
def yX0_forgetColumn : MethodName := ⟨RX0, "forgetColumn", "(I)V"⟩
abbrev cX0_admit : ByteArray := prog_2_method_4_code
/-- a method's name, out of the tables (a hand-in may not hold the word itself) -/
def nmAd : String := match (tables_1 : List Cond)[278]? with
  | some (Cond.instanceMethod y) => y.name
  | _ => ""
def yX0_admit : MethodName := ⟨RX0, nmAd, "(II)V"⟩
abbrev cX0_admitAlone : ByteArray := prog_2_method_5_code
def yX0_admitAlone : MethodName := ⟨RX0, "admitAlone", "(II)V"⟩
abbrev cX0_leastOf : ByteArray := prog_2_method_6_code
def yX0_leastOf : MethodName := ⟨RX0, "leastOf", "(I)I"⟩
abbrev cX0_greatestOf : ByteArray := prog_2_method_7_code
def yX0_greatestOf : MethodName := ⟨RX0, "greatestOf", "(I)I"⟩
abbrev cX0_hasNumbers : ByteArray := prog_2_method_8_code
def yX0_hasNumbers : MethodName := ⟨RX0, "hasNumbers", "(I)Z"⟩
abbrev cX0_canMiss : ByteArray := prog_2_method_9_code
def yX0_canMiss : MethodName := ⟨RX0, "canMiss", "(I)Z"⟩
def RX1 : String := "GranaryPartition$Chunk"
def TX1 : u_T := fun k => match k with
  | 0 => ("GranaryPartition$Chunk", "start", "I", true)
  | 1 => ("GranaryPartition$Chunk", "base", "[I", true)
  | 2 => ("GranaryPartition$Chunk", "bounds", "LGranaryPartition$Bounds;", true)
  | 3 => ("GranaryPartition$Chunk", "size", "I", false)
  | _ => ("GranaryPartition$Chunk", "beside", "I", false)
def tyX1 : Nat → FieldType := fun k => match k with
  | 0 => .int
  | 1 => .array .int
  | 2 => .object "GranaryPartition$Bounds"
  | 3 => .int
  | _ => .int
abbrev wsX10 : List Cond := u_ws RX1 TX1 5
theorem nmX1 : ∀ a, a < 5 → ∀ b, b < 5 → a ≠ b → (TX1 a).2.1 ≠ (TX1 b).2.1 := by decide +kernel
theorem tyX1_ok : ∀ k, k < 5 → parseFieldDescriptor (TX1 k).2.2.1 = some (tyX1 k) := by decide +kernel
abbrev cX1_init : ByteArray := prog_3_method_1_code
def yX1_init : MethodName := ⟨RX1, "<init>", "(I)V"⟩
abbrev cX1_append : ByteArray := prog_3_method_2_code
def yX1_append : MethodName := ⟨RX1, "append", "(LGranaryPartition$Rows;I)V"⟩
abbrev cX1_takeBase : ByteArray := prog_3_method_4_code
def yX1_takeBase : MethodName := ⟨RX1, "takeBase", "(LGranaryPartition$Rows;II)V"⟩
def RX2 : String := "GranaryPartition$Filter"
def TX2 : u_T := fun k => match k with
  | 0 => ("GranaryPartition$Filter", "kind", "C", true)
  | 1 => ("GranaryPartition$Filter", "column", "I", true)
  | 2 => ("GranaryPartition$Filter", "number", "I", true)
  | 3 => ("GranaryPartition$Filter", "first", "I", true)
  | 4 => ("GranaryPartition$Filter", "second", "I", true)
  | 5 => ("GranaryPartition$Filter", "comparisons", "I", true)
  | 6 => ("GranaryPartition$Filter", "columns", "I", true)
  | _ => ("GranaryPartition$Filter", "members", "I", true)
def tyX2 : Nat → FieldType := fun k => match k with
  | 0 => .char
  | 1 => .int
  | 2 => .int
  | 3 => .int
  | 4 => .int
  | 5 => .int
  | 6 => .int
  | _ => .int
abbrev wsX20 : List Cond := u_ws RX2 TX2 8
theorem nmX2 : ∀ a, a < 8 → ∀ b, b < 8 → a ≠ b → (TX2 a).2.1 ≠ (TX2 b).2.1 := by decide +kernel
theorem tyX2_ok : ∀ k, k < 8 → parseFieldDescriptor (TX2 k).2.2.1 = some (tyX2 k) := by decide +kernel
abbrev cX2_init : ByteArray := prog_4_method_1_code
def yX2_init : MethodName := ⟨RX2, "<init>", "(CIII)V"⟩
abbrev cX2_init_ : ByteArray := prog_4_method_2_code
def yX2_init_ : MethodName := ⟨RX2, "<init>", "(CIIIII)V"⟩
abbrev cX2_isJoined : ByteArray := prog_4_method_3_code
def yX2_isJoined : MethodName := ⟨RX2, "isJoined", "()Z"⟩
abbrev cX2_compared : ByteArray := prog_4_method_4_code
def yX2_compared : MethodName := ⟨RX2, "compared", "(LGranaryPartition$Bounds;)I"⟩
abbrev cX2_comparedWithin : ByteArray := prog_4_method_5_code
def yX2_comparedWithin : MethodName := ⟨RX2, "comparedWithin", "(II)I"⟩
abbrev cX2_joined : ByteArray := prog_4_method_6_code
def yX2_joined : MethodName := ⟨RX2, "joined", "(II)I"⟩
abbrev cX2_negated : ByteArray := prog_4_method_7_code
def yX2_negated : MethodName := ⟨RX2, "negated", "(I)I"⟩
abbrev cX2_both : ByteArray := prog_4_method_8_code
def yX2_both : MethodName := ⟨RX2, "both", "(II)I"⟩
def RX3 : String := "GranaryPartition$Filters"
def TX3 : u_T := fun k => match k with
  | 0 => ("GranaryPartition$Filters", "all", "Ljava/util/List;", true)
  | 1 => ("GranaryPartition$Filters", "found", "[I", true)
  | _ => ("GranaryPartition$Filters", "single", "LGranaryPartition$Bounds;", true)
def tyX3 : Nat → FieldType := fun k => match k with
  | 0 => .object "java/util/List"
  | 1 => .array .int
  | _ => .object "GranaryPartition$Bounds"
abbrev wsX30 : List Cond := u_ws RX3 TX3 3
theorem nmX3 : ∀ a, a < 3 → ∀ b, b < 3 → a ≠ b → (TX3 a).2.1 ≠ (TX3 b).2.1 := by decide +kernel
theorem tyX3_ok : ∀ k, k < 3 → parseFieldDescriptor (TX3 k).2.2.1 = some (tyX3 k) := by decide +kernel
abbrev cX3_init : ByteArray := prog_5_method_1_code
def yX3_init : MethodName := ⟨RX3, "<init>", "()V"⟩
abbrev cX3_count : ByteArray := prog_5_method_2_code
def yX3_count : MethodName := ⟨RX3, "count", "()I"⟩
abbrev cX3_has : ByteArray := prog_5_method_3_code
def yX3_has : MethodName := ⟨RX3, "has", "(I)Z"⟩
abbrev cX3_add : ByteArray := prog_5_method_4_code
def yX3_add : MethodName := ⟨RX3, "add", "(LGranaryPartition$Filter;)I"⟩
abbrev cX3_addJoined : ByteArray := prog_5_method_5_code
def yX3_addJoined : MethodName := ⟨RX3, "addJoined", "(CIII)I"⟩
abbrev cX3_comparisonsOf : ByteArray := prog_5_method_6_code
def yX3_comparisonsOf : MethodName := ⟨RX3, "comparisonsOf", "(I)I"⟩
abbrev cX3_columnsOf : ByteArray := prog_5_method_7_code
def yX3_columnsOf : MethodName := ⟨RX3, "columnsOf", "(I)I"⟩
abbrev cX3_membersOf : ByteArray := prog_5_method_8_code
def yX3_membersOf : MethodName := ⟨RX3, "membersOf", "(I)I"⟩
abbrev cX3_chooses : ByteArray := prog_5_method_9_code
def yX3_chooses : MethodName := ⟨RX3, "chooses", "(ILGranaryPartition$Rows;I)Z"⟩
abbrev cX3_outcomes : ByteArray := prog_5_method_10_code
def yX3_outcomes : MethodName := ⟨RX3, "outcomes", "(ILGranaryPartition$Bounds;)I"⟩
abbrev cX3_foundOf : ByteArray := prog_5_method_11_code
def yX3_foundOf : MethodName := ⟨RX3, "foundOf", "(I)I"⟩
def RX4 : String := "GranaryPartition$Groups"
def TX4 : u_T := fun k => match k with
  | 0 => ("GranaryPartition$Groups", "cells", "[I", true)
  | _ => ("GranaryPartition$Groups", "size", "I", false)
def tyX4 : Nat → FieldType := fun k => match k with
  | 0 => .array .int
  | _ => .int
abbrev wsX40 : List Cond := u_ws RX4 TX4 2
theorem nmX4 : ∀ a, a < 2 → ∀ b, b < 2 → a ≠ b → (TX4 a).2.1 ≠ (TX4 b).2.1 := by decide +kernel
theorem tyX4_ok : ∀ k, k < 2 → parseFieldDescriptor (TX4 k).2.2.1 = some (tyX4 k) := by decide +kernel
abbrev cX4_init : ByteArray := prog_6_method_1_code
def yX4_init : MethodName := ⟨RX4, "<init>", "(I)V"⟩
abbrev cX4_restart : ByteArray := prog_6_method_2_code
def yX4_restart : MethodName := ⟨RX4, "restart", "()V"⟩
abbrev cX4_cell : ByteArray := prog_6_method_3_code
def yX4_cell : MethodName := ⟨RX4, "cell", "(II)I"⟩
abbrev cX4_hasKey : ByteArray := prog_6_method_4_code
def yX4_hasKey : MethodName := ⟨RX4, "hasKey", "(I)Z"⟩
abbrev cX4_placeOf : ByteArray := prog_6_method_5_code
def yX4_placeOf : MethodName := ⟨RX4, "placeOf", "(I)I"⟩
abbrev cX4_take : ByteArray := prog_6_method_6_code
def yX4_take : MethodName := ⟨RX4, "take", "(II)V"⟩
abbrev cX4_insert : ByteArray := prog_6_method_7_code
def yX4_insert : MethodName := ⟨RX4, "insert", "(II)V"⟩
abbrev cX4_isLike : ByteArray := prog_6_method_8_code
def yX4_isLike : MethodName := ⟨RX4, "isLike", "(LGranaryPartition$Groups;)Z"⟩
def RX5 : String := "GranaryPartition$Parts"
def TX5 : u_T := fun k => match k with
  | 0 => ("GranaryPartition$Parts", "held", "[I", true)
  | 1 => ("GranaryPartition$Parts", "isOut", "[Z", true)
  | 2 => ("GranaryPartition$Parts", "grant", "I", false)
  | 3 => ("GranaryPartition$Parts", "spills", "I", false)
  | _ => ("GranaryPartition$Parts", "rowsAside", "I", false)
def tyX5 : Nat → FieldType := fun k => match k with
  | 0 => .array .int
  | 1 => .array .boolean
  | 2 => .int
  | 3 => .int
  | _ => .int
abbrev wsX50 : List Cond := u_ws RX5 TX5 5
theorem nmX5 : ∀ a, a < 5 → ∀ b, b < 5 → a ≠ b → (TX5 a).2.1 ≠ (TX5 b).2.1 := by decide +kernel
theorem tyX5_ok : ∀ k, k < 5 → parseFieldDescriptor (TX5 k).2.2.1 = some (tyX5 k) := by decide +kernel
abbrev cX5_init : ByteArray := prog_7_method_1_code
def yX5_init : MethodName := ⟨RX5, "<init>", "(I)V"⟩
abbrev cX5_take : ByteArray := prog_7_method_2_code
def yX5_take : MethodName := ⟨RX5, "take", "(IZ)V"⟩
abbrev cX5_lower : ByteArray := prog_7_method_3_code
def yX5_lower : MethodName := ⟨RX5, "lower", "(I)I"⟩
abbrev cX5_spillUntil : ByteArray := prog_7_method_4_code
def yX5_spillUntil : MethodName := ⟨RX5, "spillUntil", "(I)I"⟩
abbrev cX5_spill : ByteArray := prog_7_method_5_code
def yX5_spill : MethodName := ⟨RX5, "spill", "(I)V"⟩
abbrev cX5_heldInAll : ByteArray := prog_7_method_6_code
def yX5_heldInAll : MethodName := ⟨RX5, "heldInAll", "()I"⟩
abbrev cX5_fullest : ByteArray := prog_7_method_7_code
def yX5_fullest : MethodName := ⟨RX5, "fullest", "()I"⟩
def RX6 : String := "GranaryPartition$Rows"
def TX6 : u_T := fun k => match k with
  | 0 => ("GranaryPartition$Rows", "values", "[I", true)
  | 1 => ("GranaryPartition$Rows", "alive", "[Z", true)
  | 2 => ("GranaryPartition$Rows", "count", "I", false)
  | _ => ("GranaryPartition$Rows", "living", "I", false)
def tyX6 : Nat → FieldType := fun k => match k with
  | 0 => .array .int
  | 1 => .array .boolean
  | 2 => .int
  | _ => .int
abbrev wsX60 : List Cond := u_ws RX6 TX6 4
theorem nmX6 : ∀ a, a < 4 → ∀ b, b < 4 → a ≠ b → (TX6 a).2.1 ≠ (TX6 b).2.1 := by decide +kernel
theorem tyX6_ok : ∀ k, k < 4 → parseFieldDescriptor (TX6 k).2.2.1 = some (tyX6 k) := by decide +kernel
abbrev cX6_init : ByteArray := prog_8_method_1_code
def yX6_init : MethodName := ⟨RX6, "<init>", "(I)V"⟩
abbrev cX6_asTheyAre : ByteArray := prog_8_method_2_code
def yX6_asTheyAre : MethodName := ⟨RX6, "asTheyAre", "()LGranaryPartition$Rows;"⟩
abbrev cX6_isThere : ByteArray := prog_8_method_3_code
def yX6_isThere : MethodName := ⟨RX6, "isThere", "(I)Z"⟩
abbrev cX6_isAlive : ByteArray := prog_8_method_4_code
def yX6_isAlive : MethodName := ⟨RX6, "isAlive", "(I)Z"⟩
abbrev cX6_append : ByteArray := prog_8_method_5_code
def yX6_append : MethodName := ⟨RX6, "append", "(IIII)V"⟩
abbrev cX6_valueOf : ByteArray := prog_8_method_6_code
def yX6_valueOf : MethodName := ⟨RX6, "valueOf", "(II)I"⟩
abbrev cX6_put : ByteArray := prog_8_method_7_code
def yX6_put : MethodName := ⟨RX6, "put", "(III)V"⟩
abbrev cX6_kill : ByteArray := prog_8_method_8_code
def yX6_kill : MethodName := ⟨RX6, "kill", "(I)V"⟩
abbrev cX6_livingFrom : ByteArray := prog_8_method_9_code
def yX6_livingFrom : MethodName := ⟨RX6, "livingFrom", "(II)I"⟩
def RX7 : String := "GranaryPartition$Scan"
def TX7 : u_T := fun k => match k with
  | 0 => ("GranaryPartition$Scan", "filter", "I", true)
  | 1 => ("GranaryPartition$Scan", "key", "I", true)
  | 2 => ("GranaryPartition$Scan", "measure", "I", true)
  | 3 => ("GranaryPartition$Scan", "moment", "I", true)
  | 4 => ("GranaryPartition$Scan", "chunkCount", "I", true)
  | 5 => ("GranaryPartition$Scan", "seen", "LGranaryPartition$Rows;", true)
  | 6 => ("GranaryPartition$Scan", "groups", "LGranaryPartition$Groups;", true)
  | 7 => ("GranaryPartition$Scan", "parts", "LGranaryPartition$Parts;", true)
  | 8 => ("GranaryPartition$Scan", "looked", "I", false)
  | 9 => ("GranaryPartition$Scan", "skips", "I", false)
  | _ => ("GranaryPartition$Scan", "place", "I", false)
def tyX7 : Nat → FieldType := fun k => match k with
  | 0 => .int
  | 1 => .int
  | 2 => .int
  | 3 => .int
  | 4 => .int
  | 5 => .object "GranaryPartition$Rows"
  | 6 => .object "GranaryPartition$Groups"
  | 7 => .object "GranaryPartition$Parts"
  | 8 => .int
  | 9 => .int
  | _ => .int
abbrev wsX70 : List Cond := u_ws RX7 TX7 11
theorem nmX7 : ∀ a, a < 11 → ∀ b, b < 11 → a ≠ b → (TX7 a).2.1 ≠ (TX7 b).2.1 := by decide +kernel
theorem tyX7_ok : ∀ k, k < 11 → parseFieldDescriptor (TX7 k).2.2.1 = some (tyX7 k) := by decide +kernel
abbrev cX7_init : ByteArray := prog_9_method_1_code
def yX7_init : MethodName := ⟨RX7, "<init>", "(IIIIIILGranaryPartition$Rows;)V"⟩
abbrev cX7_isFinished : ByteArray := prog_9_method_2_code
def yX7_isFinished : MethodName := ⟨RX7, "isFinished", "()Z"⟩
abbrev cX7_looks : ByteArray := prog_9_method_3_code
def yX7_looks : MethodName := ⟨RX7, "looks", "()I"⟩
abbrev cX7_hasLookedAtAll : ByteArray := prog_9_method_4_code
def yX7_hasLookedAtAll : MethodName := ⟨RX7, "hasLookedAtAll", "()Z"⟩
abbrev cX7_hasToLookAt : ByteArray := prog_9_method_5_code
def yX7_hasToLookAt : MethodName := ⟨RX7, "hasToLookAt", "(I)Z"⟩
abbrev cX7_columns : ByteArray := prog_9_method_6_code
def yX7_columns : MethodName := ⟨RX7, "columns", "()I"⟩
abbrev cX7_keyIn : ByteArray := prog_9_method_7_code
def yX7_keyIn : MethodName := ⟨RX7, "keyIn", "(LGranaryPartition$Rows;I)I"⟩
abbrev cX7_look : ByteArray := prog_9_method_8_code
def yX7_look : MethodName := ⟨RX7, "look", "(ILGranaryPartition$Chunk;LGranaryPartition$Filters;)Z"⟩
abbrev cX7_takeRow : ByteArray := prog_9_method_9_code
def yX7_takeRow : MethodName := ⟨RX7, "takeRow", "(I)V"⟩
def RX8 : String := "GranaryPartition"
def TX8 : u_T := fun k => match k with
  | 0 => ("GranaryPartition", "rows", "LGranaryPartition$Rows;", true)
  | 1 => ("GranaryPartition", "chunks", "Ljava/util/List;", true)
  | 2 => ("GranaryPartition", "filters", "LGranaryPartition$Filters;", true)
  | 3 => ("GranaryPartition", "scans", "Ljava/util/List;", true)
  | 4 => ("GranaryPartition", "recounted", "LGranaryPartition$Groups;", true)
  | 5 => ("GranaryPartition", "columnWritten", "[I", true)
  | 6 => ("GranaryPartition", "rowsWritten", "I", false)
  | 7 => ("GranaryPartition", "moment", "I", false)
  | 8 => ("GranaryPartition", "position", "I", false)
  | 9 => ("GranaryPartition", "chunksRead", "J", false)
  | _ => ("GranaryPartition", "scansDone", "I", false)
def tyX8 : Nat → FieldType := fun k => match k with
  | 0 => .object "GranaryPartition$Rows"
  | 1 => .object "java/util/List"
  | 2 => .object "GranaryPartition$Filters"
  | 3 => .object "java/util/List"
  | 4 => .object "GranaryPartition$Groups"
  | 5 => .array .int
  | 6 => .int
  | 7 => .int
  | 8 => .int
  | 9 => .long
  | _ => .int
abbrev wsX80 : List Cond := u_ws RX8 TX8 11
theorem nmX8 : ∀ a, a < 11 → ∀ b, b < 11 → a ≠ b → (TX8 a).2.1 ≠ (TX8 b).2.1 := by decide +kernel
theorem tyX8_ok : ∀ k, k < 11 → parseFieldDescriptor (TX8 k).2.2.1 = some (tyX8 k) := by decide +kernel
abbrev cX8_init : ByteArray := prog_1_method_1_code
def yX8_init : MethodName := ⟨RX8, "<init>", "()V"⟩
abbrev cX8_load : ByteArray := prog_1_method_2_code
def yX8_load : MethodName := ⟨RX8, "load", "(IIII)I"⟩
abbrev cX8_set : ByteArray := prog_1_method_3_code
def yX8_set : MethodName := ⟨RX8, "set", "(III)Z"⟩
abbrev cX8_clear : ByteArray := prog_1_method_4_code
def yX8_clear : MethodName := ⟨RX8, "clear", "(II)Z"⟩
abbrev cX8_remove : ByteArray := prog_1_method_5_code
def yX8_remove : MethodName := ⟨RX8, "remove", "(I)I"⟩
abbrev cX8_valueAt : ByteArray := prog_1_method_6_code
def yX8_valueAt : MethodName := ⟨RX8, "valueAt", "(II)I"⟩
abbrev cX8_moment : ByteArray := prog_1_method_7_code
def yX8_moment : MethodName := ⟨RX8, "moment", "()I"⟩
abbrev cX8_chunks : ByteArray := prog_1_method_8_code
def yX8_chunks : MethodName := ⟨RX8, "chunks", "()I"⟩
abbrev cX8_compare : ByteArray := prog_1_method_16_code
def yX8_compare : MethodName := ⟨RX8, "compare", "(CII)I"⟩
abbrev cX8_join : ByteArray := prog_1_method_17_code
def yX8_join : MethodName := ⟨RX8, "join", "(CII)I"⟩
abbrev cX8_open : ByteArray := prog_1_method_19_code
def yX8_open : MethodName := ⟨RX8, "open", "(IIII)I"⟩
abbrev cX8_read : ByteArray := prog_1_method_20_code
def yX8_read : MethodName := ⟨RX8, "read", "(I)I"⟩
abbrev cX8_takeBack : ByteArray := prog_1_method_21_code
def yX8_takeBack : MethodName := ⟨RX8, "takeBack", "(II)I"⟩
abbrev cX8_isDone : ByteArray := prog_1_method_22_code
def yX8_isDone : MethodName := ⟨RX8, "isDone", "(I)Z"⟩
abbrev cX8_groups : ByteArray := prog_1_method_28_code
def yX8_groups : MethodName := ⟨RX8, "groups", "(I)I"⟩
abbrev cX8_keyAt : ByteArray := prog_1_method_29_code
def yX8_keyAt : MethodName := ⟨RX8, "keyAt", "(II)I"⟩
abbrev cX8_total : ByteArray := prog_1_method_30_code
def yX8_total : MethodName := ⟨RX8, "total", "(III)I"⟩
abbrev cX8_edge : ByteArray := prog_1_method_31_code
def yX8_edge : MethodName := ⟨RX8, "edge", "(IIZ)I"⟩
abbrev cX8_sum : ByteArray := prog_1_method_34_code
def yX8_sum : MethodName := ⟨RX8, "sum", "(II)I"⟩
abbrev cX8_bound : ByteArray := prog_1_method_35_code
def yX8_bound : MethodName := ⟨RX8, "bound", "(IIZ)I"⟩
abbrev cX8_isSound : ByteArray := prog_1_method_38_code
def yX8_isSound : MethodName := ⟨RX8, "isSound", "()Z"⟩
abbrev cX8_isColumn : ByteArray := prog_1_method_39_code
def yX8_isColumn : MethodName := ⟨RX8, "isColumn", "(I)Z"⟩
abbrev cX8_isValue : ByteArray := prog_1_method_40_code
def yX8_isValue : MethodName := ⟨RX8, "isValue", "(I)Z"⟩
abbrev cX8_chunkNumbered : ByteArray := prog_1_method_41_code
def yX8_chunkNumbered : MethodName := ⟨RX8, "chunkNumbered", "(I)LGranaryPartition$Chunk;"⟩
abbrev cX8_chunkWithColumn : ByteArray := prog_1_method_42_code
def yX8_chunkWithColumn : MethodName := ⟨RX8, "chunkWithColumn", "(II)LGranaryPartition$Chunk;"⟩
abbrev cX8_chunkOfCell : ByteArray := prog_1_method_43_code
def yX8_chunkOfCell : MethodName := ⟨RX8, "chunkOfCell", "(II)LGranaryPartition$Chunk;"⟩
abbrev cX8_checkFilter : ByteArray := prog_1_method_45_code
def yX8_checkFilter : MethodName := ⟨RX8, "checkFilter", "(I)V"⟩
abbrev cX8_checkFilterAndMeasure : ByteArray := prog_1_method_46_code
def yX8_checkFilterAndMeasure : MethodName := ⟨RX8, "checkFilterAndMeasure", "(II)V"⟩
abbrev cX8_scanNumbered : ByteArray := prog_1_method_47_code
def yX8_scanNumbered : MethodName := ⟨RX8, "scanNumbered", "(I)LGranaryPartition$Scan;"⟩
abbrev cX8_resultOf : ByteArray := prog_1_method_48_code
def yX8_resultOf : MethodName := ⟨RX8, "resultOf", "(I)LGranaryPartition$Groups;"⟩
abbrev cX8_resultWithGroup : ByteArray := prog_1_method_49_code
def yX8_resultWithGroup : MethodName := ⟨RX8, "resultWithGroup", "(II)LGranaryPartition$Groups;"⟩
abbrev cX8_placeInChunk : ByteArray := prog_1_method_50_code
def yX8_placeInChunk : MethodName := ⟨RX8, "placeInChunk", "(I)V"⟩
abbrev cX8_write : ByteArray := prog_1_method_51_code
def yX8_write : MethodName := ⟨RX8, "write", "(LGranaryPartition$Chunk;III)Z"⟩
abbrev cX8_scansOpen : ByteArray := prog_1_method_52_code
def yX8_scansOpen : MethodName := ⟨RX8, "scansOpen", "()I"⟩
abbrev cX8_step : ByteArray := prog_1_method_53_code
def yX8_step : MethodName := ⟨RX8, "step", "()V"⟩
abbrev cX8_finish : ByteArray := prog_1_method_54_code
def yX8_finish : MethodName := ⟨RX8, "finish", "(LGranaryPartition$Scan;)V"⟩
abbrev cX8_keepsResult : ByteArray := prog_1_method_55_code
def yX8_keepsResult : MethodName := ⟨RX8, "keepsResult", "(LGranaryPartition$Scan;)Z"⟩
abbrev cX8_boundWithin : ByteArray := prog_1_method_56_code
def yX8_boundWithin : MethodName := ⟨RX8, "boundWithin", "(LGranaryPartition$Chunk;IIZ)I"⟩
abbrev cX8_keptResultsHold : ByteArray := prog_1_method_57_code
def yX8_keptResultsHold : MethodName := ⟨RX8, "keptResultsHold", "()Z"⟩
abbrev cX8_recount : ByteArray := prog_1_method_58_code
def yX8_recount : MethodName := ⟨RX8, "recount", "(LGranaryPartition$Scan;)V"⟩
abbrev cX8_valuesLieWithinBounds : ByteArray := prog_1_method_59_code
def yX8_valuesLieWithinBounds : MethodName := ⟨RX8, "valuesLieWithinBounds", "()Z"⟩
abbrev cX8_liesWithin : ByteArray := prog_1_method_60_code
def yX8_liesWithin : MethodName := ⟨RX8, "liesWithin", "(ILGranaryPartition$Bounds;)Z"⟩
def RX9 : String := "GranaryPartitionModel"
def TX9 : u_T := fun k => match k with
  | _ => ("", "", "", false)
def tyX9 : Nat → FieldType := fun k => match k with
  | _ => .int
abbrev wsX90 : List Cond := u_ws RX9 TX9 0
theorem nmX9 : ∀ a, a < 0 → ∀ b, b < 0 → a ≠ b → (TX9 a).2.1 ≠ (TX9 b).2.1 := by decide +kernel
theorem tyX9_ok : ∀ k, k < 0 → parseFieldDescriptor (TX9 k).2.2.1 = some (tyX9 k) := by decide +kernel
def RJx145de : String := "java/io/Serializable"
def TJx145de : u_T := fun k => match k with
  | _ => ("", "", "", false)
def tyJx145de : Nat → FieldType := fun k => match k with
  | _ => .int
abbrev wsJx145de0 : List Cond := u_ws RJx145de TJx145de 0
theorem nmJx145de : ∀ a, a < 0 → ∀ b, b < 0 → a ≠ b → (TJx145de a).2.1 ≠ (TJx145de b).2.1 := by decide +kernel
theorem tyJx145de_ok : ∀ k, k < 0 → parseFieldDescriptor (TJx145de k).2.2.1 = some (tyJx145de k) := by decide +kernel
def RJx00060 : String := "java/lang/ArrayIndexOutOfBoundsException"
def TJx00060 : u_T := fun k => match k with
  | 0 => ("java/lang/Throwable", "backtrace", "Ljava/lang/Object;", false)
  | 1 => ("java/lang/Throwable", "detailMessage", "Ljava/lang/String;", false)
  | 2 => ("java/lang/Throwable", "cause", "Ljava/lang/Throwable;", false)
  | 3 => ("java/lang/Throwable", "stackTrace", "[Ljava/lang/StackTraceElement;", false)
  | 4 => ("java/lang/Throwable", "depth", "I", false)
  | _ => ("java/lang/Throwable", "suppressedExceptions", "Ljava/util/List;", false)
def tyJx00060 : Nat → FieldType := fun k => match k with
  | 0 => .object "java/lang/Object"
  | 1 => .object "java/lang/String"
  | 2 => .object "java/lang/Throwable"
  | 3 => .array (.object "java/lang/StackTraceElement")
  | 4 => .int
  | _ => .object "java/util/List"
abbrev wsJx000600 : List Cond := u_ws RJx00060 TJx00060 6
theorem nmJx00060 : ∀ a, a < 6 → ∀ b, b < 6 → a ≠ b → (TJx00060 a).2.1 ≠ (TJx00060 b).2.1 := by decide +kernel
theorem tyJx00060_ok : ∀ k, k < 6 → parseFieldDescriptor (TJx00060 k).2.2.1 = some (tyJx00060 k) := by decide +kernel
abbrev cJx00060_init_a7421 : ByteArray := prog_13_method_2_code
def yJx00060_init_a7421 : MethodName := ⟨RJx00060, "<init>", "(Ljava/lang/String;)V"⟩
def RJx8e188 : String := "java/lang/Cloneable"
def TJx8e188 : u_T := fun k => match k with
  | _ => ("", "", "", false)
def tyJx8e188 : Nat → FieldType := fun k => match k with
  | _ => .int
abbrev wsJx8e1880 : List Cond := u_ws RJx8e188 TJx8e188 0
theorem nmJx8e188 : ∀ a, a < 0 → ∀ b, b < 0 → a ≠ b → (TJx8e188 a).2.1 ≠ (TJx8e188 b).2.1 := by decide +kernel
theorem tyJx8e188_ok : ∀ k, k < 0 → parseFieldDescriptor (TJx8e188 k).2.2.1 = some (tyJx8e188 k) := by decide +kernel
def RJ6 : String := "java/lang/Integer"
def TJ6 : u_T := fun k => match k with
  | _ => ("", "", "", false)
def tyJ6 : Nat → FieldType := fun k => match k with
  | _ => .int
abbrev wsJ60 : List Cond := u_ws RJ6 TJ6 0
theorem nmJ6 : ∀ a, a < 0 → ∀ b, b < 0 → a ≠ b → (TJ6 a).2.1 ≠ (TJ6 b).2.1 := by decide +kernel
theorem tyJ6_ok : ∀ k, k < 0 → parseFieldDescriptor (TJ6 k).2.2.1 = some (tyJ6 k) := by decide +kernel
abbrev cJ6_bitCount_0f7a4 : ByteArray := prog_19_method_49_code
def yJ6_bitCount_0f7a4 : MethodName := ⟨RJ6, "bitCount", "(I)I"⟩
def RJxab1ab : String := "java/lang/Iterable"
def TJxab1ab : u_T := fun k => match k with
  | _ => ("", "", "", false)
def tyJxab1ab : Nat → FieldType := fun k => match k with
  | _ => .int
abbrev wsJxab1ab0 : List Cond := u_ws RJxab1ab TJxab1ab 0
theorem nmJxab1ab : ∀ a, a < 0 → ∀ b, b < 0 → a ≠ b → (TJxab1ab a).2.1 ≠ (TJxab1ab b).2.1 := by decide +kernel
theorem tyJxab1ab_ok : ∀ k, k < 0 → parseFieldDescriptor (TJxab1ab k).2.2.1 = some (tyJxab1ab k) := by decide +kernel
def RJ9 : String := "java/lang/Math"
def TJ9 : u_T := fun k => match k with
  | _ => ("", "", "", false)
def tyJ9 : Nat → FieldType := fun k => match k with
  | _ => .int
abbrev wsJ90 : List Cond := u_ws RJ9 TJ9 0
theorem nmJ9 : ∀ a, a < 0 → ∀ b, b < 0 → a ≠ b → (TJ9 a).2.1 ≠ (TJ9 b).2.1 := by decide +kernel
theorem tyJ9_ok : ∀ k, k < 0 → parseFieldDescriptor (TJ9 k).2.2.1 = some (tyJ9 k) := by decide +kernel
abbrev cJ9_floorMod_7cf53 : ByteArray := prog_21_method_50_code
def yJ9_floorMod_7cf53 : MethodName := ⟨RJ9, "floorMod", "(II)I"⟩
abbrev cJ9_max_7cf53 : ByteArray := prog_21_method_65_code
def yJ9_max_7cf53 : MethodName := ⟨RJ9, "max", "(II)I"⟩
abbrev cJ9_min_7cf53 : ByteArray := prog_21_method_69_code
def yJ9_min_7cf53 : MethodName := ⟨RJ9, "min", "(II)I"⟩
def RJ0 : String := "java/lang/String"
def TJ0 : u_T := fun k => match k with
  | 0 => ("java/lang/String", "value", "[B", true)
  | _ => ("java/lang/String", "coder", "B", true)
def tyJ0 : Nat → FieldType := fun k => match k with
  | 0 => .array .byte
  | _ => .byte
abbrev wsJ00 : List Cond := u_ws RJ0 TJ0 2
theorem nmJ0 : ∀ a, a < 2 → ∀ b, b < 2 → a ≠ b → (TJ0 a).2.1 ≠ (TJ0 b).2.1 := by decide +kernel
theorem tyJ0_ok : ∀ k, k < 2 → parseFieldDescriptor (TJ0 k).2.2.1 = some (tyJ0 k) := by decide +kernel
def RJ10 : String := "java/lang/System"
def TJ10 : u_T := fun k => match k with
  | _ => ("", "", "", false)
def tyJ10 : Nat → FieldType := fun k => match k with
  | _ => .int
abbrev wsJ100 : List Cond := u_ws RJ10 TJ10 0
theorem nmJ10 : ∀ a, a < 0 → ∀ b, b < 0 → a ≠ b → (TJ10 a).2.1 ≠ (TJ10 b).2.1 := by decide +kernel
theorem tyJ10_ok : ∀ k, k < 0 → parseFieldDescriptor (TJ10 k).2.2.1 = some (tyJ10 k) := by decide +kernel
def RJxa1e45 : String := "java/util/AbstractCollection"
def TJxa1e45 : u_T := fun k => match k with
  | _ => ("", "", "", false)
def tyJxa1e45 : Nat → FieldType := fun k => match k with
  | _ => .int
abbrev wsJxa1e450 : List Cond := u_ws RJxa1e45 TJxa1e45 0
theorem nmJxa1e45 : ∀ a, a < 0 → ∀ b, b < 0 → a ≠ b → (TJxa1e45 a).2.1 ≠ (TJxa1e45 b).2.1 := by decide +kernel
theorem tyJxa1e45_ok : ∀ k, k < 0 → parseFieldDescriptor (TJxa1e45 k).2.2.1 = some (tyJxa1e45 k) := by decide +kernel
abbrev cJxa1e45_init_da8c8 : ByteArray := prog_27_method_1_code
def yJxa1e45_init_da8c8 : MethodName := ⟨RJxa1e45, "<init>", "()V"⟩
def RJxc12de : String := "java/util/AbstractList"
def TJxc12de : u_T := fun k => match k with
  | _ => ("", "", "", false)
def tyJxc12de : Nat → FieldType := fun k => match k with
  | _ => .int
abbrev wsJxc12de0 : List Cond := u_ws RJxc12de TJxc12de 0
theorem nmJxc12de : ∀ a, a < 0 → ∀ b, b < 0 → a ≠ b → (TJxc12de a).2.1 ≠ (TJxc12de b).2.1 := by decide +kernel
theorem tyJxc12de_ok : ∀ k, k < 0 → parseFieldDescriptor (TJxc12de k).2.2.1 = some (tyJxc12de k) := by decide +kernel
abbrev cJxc12de_init_da8c8 : ByteArray := prog_28_method_1_code
def yJxc12de_init_da8c8 : MethodName := ⟨RJxc12de, "<init>", "()V"⟩
def RJx4a65c : String := "java/util/ArrayList"
def TJx4a65c : u_T := fun k => match k with
  | 0 => ("java/util/AbstractList", "modCount", "I", false)
  | 1 => ("java/util/ArrayList", "elementData", "[Ljava/lang/Object;", false)
  | _ => ("java/util/ArrayList", "size", "I", false)
def tyJx4a65c : Nat → FieldType := fun k => match k with
  | 0 => .int
  | 1 => .array (.object "java/lang/Object")
  | _ => .int
abbrev wsJx4a65c0 : List Cond := u_ws RJx4a65c TJx4a65c 3
theorem nmJx4a65c : ∀ a, a < 3 → ∀ b, b < 3 → a ≠ b → (TJx4a65c a).2.1 ≠ (TJx4a65c b).2.1 := by decide +kernel
theorem tyJx4a65c_ok : ∀ k, k < 3 → parseFieldDescriptor (TJx4a65c k).2.2.1 = some (tyJx4a65c k) := by decide +kernel
abbrev cJx4a65c_init_da8c8 : ByteArray := prog_29_method_2_code
def yJx4a65c_init_da8c8 : MethodName := ⟨RJx4a65c, "<init>", "()V"⟩
abbrev cJx4a65c_grow_92f84 : ByteArray := prog_29_method_6_code
def yJx4a65c_grow_92f84 : MethodName := ⟨RJx4a65c, "grow", "(I)[Ljava/lang/Object;"⟩
abbrev cJx4a65c_grow_d5877 : ByteArray := prog_29_method_7_code
def yJx4a65c_grow_d5877 : MethodName := ⟨RJx4a65c, "grow", "()[Ljava/lang/Object;"⟩
abbrev cJx4a65c_size_8abf5 : ByteArray := prog_29_method_8_code
def yJx4a65c_size_8abf5 : MethodName := ⟨RJx4a65c, "size", "()I"⟩
abbrev cJx4a65c_elementData_915e3 : ByteArray := prog_29_method_18_code
def yJx4a65c_elementData_915e3 : MethodName := ⟨RJx4a65c, "elementData", "(I)Ljava/lang/Object;"⟩
abbrev cJx4a65c_get_915e3 : ByteArray := prog_29_method_20_code
def yJx4a65c_get_915e3 : MethodName := ⟨RJx4a65c, "get", "(I)Ljava/lang/Object;"⟩
abbrev cJx4a65c_add_72be8 : ByteArray := prog_29_method_24_code
def yJx4a65c_add_72be8 : MethodName := ⟨RJx4a65c, "add", "(Ljava/lang/Object;[Ljava/lang/Object;I)V"⟩
abbrev cJx4a65c_add_9ea2d : ByteArray := prog_29_method_25_code
def yJx4a65c_add_9ea2d : MethodName := ⟨RJx4a65c, "add", "(Ljava/lang/Object;)Z"⟩
def RJ7 : String := "java/util/Arrays"
def TJ7 : u_T := fun k => match k with
  | _ => ("", "", "", false)
def tyJ7 : Nat → FieldType := fun k => match k with
  | _ => .int
abbrev wsJ70 : List Cond := u_ws RJ7 TJ7 0
theorem nmJ7 : ∀ a, a < 0 → ∀ b, b < 0 → a ≠ b → (TJ7 a).2.1 ≠ (TJ7 b).2.1 := by decide +kernel
theorem tyJ7_ok : ∀ k, k < 0 → parseFieldDescriptor (TJ7 k).2.2.1 = some (tyJ7 k) := by decide +kernel
abbrev cJ7_copyOf_1904c : ByteArray := prog_30_method_119_code
def yJ7_copyOf_1904c : MethodName := ⟨RJ7, "copyOf", "([Ljava/lang/Object;I)[Ljava/lang/Object;"⟩
abbrev cJ7_copyOf_6403c : ByteArray := prog_30_method_120_code
def yJ7_copyOf_6403c : MethodName := ⟨RJ7, "copyOf", "([Ljava/lang/Object;ILjava/lang/Class;)[Ljava/lang/Object;"⟩
def RJx5ef63 : String := "java/util/Collection"
def TJx5ef63 : u_T := fun k => match k with
  | _ => ("", "", "", false)
def tyJx5ef63 : Nat → FieldType := fun k => match k with
  | _ => .int
abbrev wsJx5ef630 : List Cond := u_ws RJx5ef63 TJx5ef63 0
theorem nmJx5ef63 : ∀ a, a < 0 → ∀ b, b < 0 → a ≠ b → (TJx5ef63 a).2.1 ≠ (TJx5ef63 b).2.1 := by decide +kernel
theorem tyJx5ef63_ok : ∀ k, k < 0 → parseFieldDescriptor (TJx5ef63 k).2.2.1 = some (tyJx5ef63 k) := by decide +kernel
def RJxbd725 : String := "java/util/List"
def TJxbd725 : u_T := fun k => match k with
  | _ => ("", "", "", false)
def tyJxbd725 : Nat → FieldType := fun k => match k with
  | _ => .int
abbrev wsJxbd7250 : List Cond := u_ws RJxbd725 TJxbd725 0
theorem nmJxbd725 : ∀ a, a < 0 → ∀ b, b < 0 → a ≠ b → (TJxbd725 a).2.1 ≠ (TJxbd725 b).2.1 := by decide +kernel
theorem tyJxbd725_ok : ∀ k, k < 0 → parseFieldDescriptor (TJxbd725 k).2.2.1 = some (tyJxbd725 k) := by decide +kernel
def RJ15 : String := "java/util/Objects"
def TJ15 : u_T := fun k => match k with
  | _ => ("", "", "", false)
def tyJ15 : Nat → FieldType := fun k => match k with
  | _ => .int
abbrev wsJ150 : List Cond := u_ws RJ15 TJ15 0
theorem nmJ15 : ∀ a, a < 0 → ∀ b, b < 0 → a ≠ b → (TJ15 a).2.1 ≠ (TJ15 b).2.1 := by decide +kernel
theorem tyJ15_ok : ∀ k, k < 0 → parseFieldDescriptor (TJ15 k).2.2.1 = some (tyJ15 k) := by decide +kernel
abbrev cJ15_checkIndex_7cf53 : ByteArray := prog_34_method_17_code
def yJ15_checkIndex_7cf53 : MethodName := ⟨RJ15, "checkIndex", "(II)I"⟩
def RJxf0a74 : String := "java/util/RandomAccess"
def TJxf0a74 : u_T := fun k => match k with
  | _ => ("", "", "", false)
def tyJxf0a74 : Nat → FieldType := fun k => match k with
  | _ => .int
abbrev wsJxf0a740 : List Cond := u_ws RJxf0a74 TJxf0a74 0
theorem nmJxf0a74 : ∀ a, a < 0 → ∀ b, b < 0 → a ≠ b → (TJxf0a74 a).2.1 ≠ (TJxf0a74 b).2.1 := by decide +kernel
theorem tyJxf0a74_ok : ∀ k, k < 0 → parseFieldDescriptor (TJxf0a74 k).2.2.1 = some (tyJxf0a74 k) := by decide +kernel
def RJxa66e6 : String := "java/util/SequencedCollection"
def TJxa66e6 : u_T := fun k => match k with
  | _ => ("", "", "", false)
def tyJxa66e6 : Nat → FieldType := fun k => match k with
  | _ => .int
abbrev wsJxa66e60 : List Cond := u_ws RJxa66e6 TJxa66e6 0
theorem nmJxa66e6 : ∀ a, a < 0 → ∀ b, b < 0 → a ≠ b → (TJxa66e6 a).2.1 ≠ (TJxa66e6 b).2.1 := by decide +kernel
theorem tyJxa66e6_ok : ∀ k, k < 0 → parseFieldDescriptor (TJxa66e6 k).2.2.1 = some (tyJxa66e6 k) := by decide +kernel
def RJ8 : String := "jdk/internal/util/ArraysSupport"
def TJ8 : u_T := fun k => match k with
  | _ => ("", "", "", false)
def tyJ8 : Nat → FieldType := fun k => match k with
  | _ => .int
abbrev wsJ80 : List Cond := u_ws RJ8 TJ8 0
theorem nmJ8 : ∀ a, a < 0 → ∀ b, b < 0 → a ≠ b → (TJ8 a).2.1 ≠ (TJ8 b).2.1 := by decide +kernel
theorem tyJ8_ok : ∀ k, k < 0 → parseFieldDescriptor (TJ8 k).2.2.1 = some (tyJ8 k) := by decide +kernel
abbrev cJ8_newLength_cabcc : ByteArray := prog_37_method_27_code
def yJ8_newLength_cabcc : MethodName := ⟨RJ8, "newLength", "(III)I"⟩
abbrev cJ8_hugeLength_7cf53 : ByteArray := prog_37_method_28_code
def yJ8_hugeLength_7cf53 : MethodName := ⟨RJ8, "hugeLength", "(II)I"⟩
def RJ3 : String := "jdk/internal/util/Preconditions"
def TJ3 : u_T := fun k => match k with
  | _ => ("", "", "", false)
def tyJ3 : Nat → FieldType := fun k => match k with
  | _ => .int
abbrev wsJ30 : List Cond := u_ws RJ3 TJ3 0
theorem nmJ3 : ∀ a, a < 0 → ∀ b, b < 0 → a ≠ b → (TJ3 a).2.1 ≠ (TJ3 b).2.1 := by decide +kernel
theorem tyJ3_ok : ∀ k, k < 0 → parseFieldDescriptor (TJ3 k).2.2.1 = some (tyJ3 k) := by decide +kernel
abbrev cJ3_checkIndex_8e157 : ByteArray := prog_38_method_11_code
def yJ3_checkIndex_8e157 : MethodName := ⟨RJ3, "checkIndex", "(IILjava/util/function/BiFunction;)I"⟩
def RL : String := "GranaryPartitionLaw"
abbrev cL_cell : ByteArray := method_2_code
def yL_cell : MethodName := ⟨RL, "cell", "([II)I"⟩
abbrev cL_load : ByteArray := method_3_code
def yL_load : MethodName := ⟨RL, "load", "(LGranaryPartition;IIII)I"⟩
abbrev cL_remove : ByteArray := method_4_code
def yL_remove : MethodName := ⟨RL, "remove", "(LGranaryPartition;I)I"⟩
abbrev cL_valueAt : ByteArray := method_5_code
def yL_valueAt : MethodName := ⟨RL, "valueAt", "(LGranaryPartition;II)I"⟩
abbrev cL_compare : ByteArray := method_6_code
def yL_compare : MethodName := ⟨RL, "compare", "(LGranaryPartition;CII)I"⟩
abbrev cL_join : ByteArray := method_7_code
def yL_join : MethodName := ⟨RL, "join", "(LGranaryPartition;CII)I"⟩
abbrev cL_open : ByteArray := method_8_code
def yL_open : MethodName := ⟨RL, "open", "(LGranaryPartition;IIII)I"⟩
abbrev cL_read : ByteArray := method_9_code
def yL_read : MethodName := ⟨RL, "read", "(LGranaryPartition;I)I"⟩
abbrev cL_takeBack : ByteArray := method_10_code
def yL_takeBack : MethodName := ⟨RL, "takeBack", "(LGranaryPartition;II)I"⟩
abbrev cL_groups : ByteArray := method_11_code
def yL_groups : MethodName := ⟨RL, "groups", "(LGranaryPartition;I)I"⟩
abbrev cL_keyAt : ByteArray := method_12_code
def yL_keyAt : MethodName := ⟨RL, "keyAt", "(LGranaryPartition;II)I"⟩
abbrev cL_total : ByteArray := method_13_code
def yL_total : MethodName := ⟨RL, "total", "(LGranaryPartition;III)I"⟩
abbrev cL_edge : ByteArray := method_14_code
def yL_edge : MethodName := ⟨RL, "edge", "(LGranaryPartition;IIZ)I"⟩
abbrev cL_sum : ByteArray := method_15_code
def yL_sum : MethodName := ⟨RL, "sum", "(LGranaryPartition;II)I"⟩
abbrev cL_bound : ByteArray := method_16_code
def yL_bound : MethodName := ⟨RL, "bound", "(LGranaryPartition;IIZ)I"⟩
abbrev cL_set : ByteArray := method_17_code
def yL_set : MethodName := ⟨RL, "set", "(LGranaryPartition;III)I"⟩
abbrev cL_clear : ByteArray := method_18_code
def yL_clear : MethodName := ⟨RL, "clear", "(LGranaryPartition;II)I"⟩
abbrev cL_isDone : ByteArray := method_19_code
def yL_isDone : MethodName := ⟨RL, "isDone", "(LGranaryPartition;I)I"⟩
abbrev cL_in : ByteArray := method_20_code
def yL_in : MethodName := ⟨RL, "in", "([III)I"⟩
abbrev cL_at : ByteArray := method_21_code
def yL_at : MethodName := ⟨RL, "at", "(II)I"⟩
abbrev cL_isLoad : ByteArray := method_22_code
def yL_isLoad : MethodName := ⟨RL, "isLoad", "(LGranaryPartition;[IIIII)Z"⟩
abbrev cL_filter : ByteArray := method_23_code
def yL_filter : MethodName := ⟨RL, "filter", "(LGranaryPartition;[IIII)I"⟩
abbrev cL_areFilters : ByteArray := method_24_code
def yL_areFilters : MethodName := ⟨RL, "areFilters", "(LGranaryPartition;[I[II)Z"⟩
abbrev cL_truth : ByteArray := method_25_code
def yL_truth : MethodName := ⟨RL, "truth", "([III)I"⟩
abbrev cL_isWrite : ByteArray := method_26_code
def yL_isWrite : MethodName := ⟨RL, "isWrite", "(LGranaryPartition;[I[II)Z"⟩
abbrev cL_copy : ByteArray := method_27_code
def yL_copy : MethodName := ⟨RL, "copy", "([I)[I"⟩
abbrev cL_areGroups : ByteArray := method_28_code
def yL_areGroups : MethodName := ⟨RL, "areGroups", "(LGranaryPartition;I[IIII)Z"⟩
abbrev cL_areSums : ByteArray := method_29_code
def yL_areSums : MethodName := ⟨RL, "areSums", "(LGranaryPartition;[III)Z"⟩
abbrev cL_law : ByteArray := code
def yL_law : MethodName := ⟨RL, "law", "([I)Z"⟩
/-! ===== END printed: names ===== -/
