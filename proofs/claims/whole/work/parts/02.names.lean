def RX0 : String := "ThinExtents$Pool"
def TX0 : u_T := fun k => match k with
  | 0 => ("ThinExtents$Pool", "size", "I", false)
  | 1 => ("ThinExtents$Pool", "cursor", "I", false)
  | 2 => ("ThinExtents$Pool", "alarmAt", "I", false)
  | 3 => ("ThinExtents$Pool", "alarms", "I", false)
  | 4 => ("ThinExtents$Pool", "taken", "I", false)
  | 5 => ("ThinExtents$Pool", "live", "LThinExtents$State;", true)
  | 6 => ("ThinExtents$Pool", "committed", "LThinExtents$State;", true)
  | 7 => ("ThinExtents$Pool", "held", "LThinExtents$State;", true)
  | _ => ("ThinExtents$Pool", "words", "[I", true)
def tyX0 : Nat → FieldType := fun k => match k with
  | 0 => .int
  | 1 => .int
  | 2 => .int
  | 3 => .int
  | 4 => .int
  | 5 => .object "ThinExtents$State"
  | 6 => .object "ThinExtents$State"
  | 7 => .object "ThinExtents$State"
  | _ => .array .int
abbrev wsX00 : List Cond := u_ws RX0 TX0 9
theorem nmX0 : ∀ a, a < 9 → ∀ b, b < 9 → a ≠ b → (TX0 a).2.1 ≠ (TX0 b).2.1 := by decide +kernel
theorem tyX0_ok : ∀ k, k < 9 → parseFieldDescriptor (TX0 k).2.2.1 = some (tyX0 k) := by decide +kernel
abbrev cX0_init : ByteArray := prog_2_method_1_code
def yX0_init : MethodName := ⟨RX0, "<init>", "(LThinExtents$State;LThinExtents$State;LThinExtents$State;)V"⟩
abbrev cX0_isFree : ByteArray := prog_2_method_2_code
def yX0_isFree : MethodName := ⟨RX0, "isFree", "(I)Z"⟩
abbrev cX0_isSole : ByteArray := prog_2_method_3_code
def yX0_isSole : MethodName := ⟨RX0, "isSole", "(I)Z"⟩
abbrev cX0_areFree : ByteArray := prog_2_method_4_code
def yX0_areFree : MethodName := ⟨RX0, "areFree", "(II)Z"⟩
abbrev cX0_countFree : ByteArray := prog_2_method_5_code
def yX0_countFree : MethodName := ⟨RX0, "countFree", "()I"⟩
abbrev cX0_take : ByteArray := prog_2_method_6_code
def yX0_take : MethodName := ⟨RX0, "take", "()I"⟩
abbrev cX0_wordAt : ByteArray := prog_2_method_7_code
def yX0_wordAt : MethodName := ⟨RX0, "wordAt", "(II)I"⟩
abbrev cX0_setWord : ByteArray := prog_2_method_8_code
def yX0_setWord : MethodName := ⟨RX0, "setWord", "(III)V"⟩
def RX1 : String := "ThinExtents$Queue"
def TX1 : u_T := fun k => match k with
  | 0 => ("ThinExtents$Queue", "count", "I", false)
  | 1 => ("ThinExtents$Queue", "volumes", "[I", true)
  | 2 => ("ThinExtents$Queue", "words", "[I", true)
  | _ => ("ThinExtents$Queue", "values", "[I", true)
def tyX1 : Nat → FieldType := fun k => match k with
  | 0 => .int
  | 1 => .array .int
  | 2 => .array .int
  | _ => .array .int
abbrev wsX10 : List Cond := u_ws RX1 TX1 4
theorem nmX1 : ∀ a, a < 4 → ∀ b, b < 4 → a ≠ b → (TX1 a).2.1 ≠ (TX1 b).2.1 := by decide +kernel
theorem tyX1_ok : ∀ k, k < 4 → parseFieldDescriptor (TX1 k).2.2.1 = some (tyX1 k) := by decide +kernel
abbrev cX1_init : ByteArray := prog_3_method_1_code
def yX1_init : MethodName := ⟨RX1, "<init>", "()V"⟩
abbrev cX1_add : ByteArray := prog_3_method_2_code
def yX1_add : MethodName := ⟨RX1, "add", "(III)Z"⟩
abbrev cX1_put : ByteArray := prog_3_method_3_code
def yX1_put : MethodName := ⟨RX1, "put", "(IIII)V"⟩
abbrev cX1_volumeAt : ByteArray := prog_3_method_4_code
def yX1_volumeAt : MethodName := ⟨RX1, "volumeAt", "(I)I"⟩
abbrev cX1_wordAt : ByteArray := prog_3_method_5_code
def yX1_wordAt : MethodName := ⟨RX1, "wordAt", "(I)I"⟩
abbrev cX1_valueAt : ByteArray := prog_3_method_6_code
def yX1_valueAt : MethodName := ⟨RX1, "valueAt", "(I)I"⟩
abbrev cX1_waitsIn : ByteArray := prog_3_method_7_code
def yX1_waitsIn : MethodName := ⟨RX1, "waitsIn", "(III)Z"⟩
abbrev cX1_countOf : ByteArray := prog_3_method_8_code
def yX1_countOf : MethodName := ⟨RX1, "countOf", "(I)I"⟩
abbrev cX1_removeFirst : ByteArray := prog_3_method_9_code
def yX1_removeFirst : MethodName := ⟨RX1, "removeFirst", "()V"⟩
abbrev cX1_removeAllOf : ByteArray := prog_3_method_10_code
def yX1_removeAllOf : MethodName := ⟨RX1, "removeAllOf", "(I)I"⟩
abbrev cX1_removeAll : ByteArray := prog_3_method_11_code
def yX1_removeAll : MethodName := ⟨RX1, "removeAll", "()I"⟩
def RX2 : String := "ThinExtents$State"
def TX2 : u_T := fun k => match k with
  | 0 => ("ThinExtents$State", "sign", "I", false)
  | 1 => ("ThinExtents$State", "count", "I", false)
  | 2 => ("ThinExtents$State", "volumes", "[LThinExtents$Volume;", true)
  | _ => ("ThinExtents$State", "uses", "[I", true)
def tyX2 : Nat → FieldType := fun k => match k with
  | 0 => .int
  | 1 => .int
  | 2 => .array (.object "ThinExtents$Volume")
  | _ => .array .int
abbrev wsX20 : List Cond := u_ws RX2 TX2 4
theorem nmX2 : ∀ a, a < 4 → ∀ b, b < 4 → a ≠ b → (TX2 a).2.1 ≠ (TX2 b).2.1 := by decide +kernel
theorem tyX2_ok : ∀ k, k < 4 → parseFieldDescriptor (TX2 k).2.2.1 = some (tyX2 k) := by decide +kernel
abbrev cX2_init : ByteArray := prog_4_method_1_code
def yX2_init : MethodName := ⟨RX2, "<init>", "()V"⟩
abbrev cX2_slot : ByteArray := prog_4_method_2_code
def yX2_slot : MethodName := ⟨RX2, "slot", "(I)LThinExtents$Volume;"⟩
abbrev cX2_find : ByteArray := prog_4_method_3_code
def yX2_find : MethodName := ⟨RX2, "find", "(I)LThinExtents$Volume;"⟩
abbrev cX2_add : ByteArray := prog_4_method_4_code
def yX2_add : MethodName := ⟨RX2, "add", "(LThinExtents$Volume;IZII)V"⟩
abbrev cX2_remove : ByteArray := prog_4_method_5_code
def yX2_remove : MethodName := ⟨RX2, "remove", "(LThinExtents$Volume;)V"⟩
abbrev cX2_usesOf : ByteArray := prog_4_method_6_code
def yX2_usesOf : MethodName := ⟨RX2, "usesOf", "(I)I"⟩
abbrev cX2_setExtent : ByteArray := prog_4_method_7_code
def yX2_setExtent : MethodName := ⟨RX2, "setExtent", "(LThinExtents$Volume;II)V"⟩
abbrev cX2_unmap : ByteArray := prog_4_method_8_code
def yX2_unmap : MethodName := ⟨RX2, "unmap", "(LThinExtents$Volume;II)I"⟩
abbrev cX2_userOf : ByteArray := prog_4_method_9_code
def yX2_userOf : MethodName := ⟨RX2, "userOf", "(II)I"⟩
abbrev cX2_hasBacked : ByteArray := prog_4_method_10_code
def yX2_hasBacked : MethodName := ⟨RX2, "hasBacked", "()Z"⟩
abbrev cX2_copy : ByteArray := prog_4_method_11_code
def yX2_copy : MethodName := ⟨RX2, "copy", "(LThinExtents$State;)V"⟩
abbrev cX2_clear : ByteArray := prog_4_method_12_code
def yX2_clear : MethodName := ⟨RX2, "clear", "()V"⟩
def RX3 : String := "ThinExtents$Volume"
def TX3 : u_T := fun k => match k with
  | 0 => ("ThinExtents$Volume", "there", "Z", false)
  | 1 => ("ThinExtents$Volume", "backed", "Z", false)
  | 2 => ("ThinExtents$Volume", "size", "I", false)
  | 3 => ("ThinExtents$Volume", "limit", "I", false)
  | 4 => ("ThinExtents$Volume", "origin", "I", false)
  | 5 => ("ThinExtents$Volume", "mapped", "I", false)
  | _ => ("ThinExtents$Volume", "extents", "[I", true)
def tyX3 : Nat → FieldType := fun k => match k with
  | 0 => .boolean
  | 1 => .boolean
  | 2 => .int
  | 3 => .int
  | 4 => .int
  | 5 => .int
  | _ => .array .int
abbrev wsX30 : List Cond := u_ws RX3 TX3 7
theorem nmX3 : ∀ a, a < 7 → ∀ b, b < 7 → a ≠ b → (TX3 a).2.1 ≠ (TX3 b).2.1 := by decide +kernel
theorem tyX3_ok : ∀ k, k < 7 → parseFieldDescriptor (TX3 k).2.2.1 = some (tyX3 k) := by decide +kernel
abbrev cX3_init : ByteArray := prog_5_method_1_code
def yX3_init : MethodName := ⟨RX3, "<init>", "()V"⟩
abbrev cX3_extentOf : ByteArray := prog_5_method_2_code
def yX3_extentOf : MethodName := ⟨RX3, "extentOf", "(I)I"⟩
abbrev cX3_setExtent : ByteArray := prog_5_method_3_code
def yX3_setExtent : MethodName := ⟨RX3, "setExtent", "(II)V"⟩
abbrev cX3_lastMapped : ByteArray := prog_5_method_4_code
def yX3_lastMapped : MethodName := ⟨RX3, "lastMapped", "()I"⟩
abbrev cX3_copy : ByteArray := prog_5_method_5_code
def yX3_copy : MethodName := ⟨RX3, "copy", "(LThinExtents$Volume;)V"⟩
abbrev cX3_clear : ByteArray := prog_5_method_6_code
def yX3_clear : MethodName := ⟨RX3, "clear", "()V"⟩
def RX4 : String := "ThinExtents"
def TX4 : u_T := fun k => match k with
  | 0 => ("ThinExtents", "live", "LThinExtents$State;", true)
  | 1 => ("ThinExtents", "committed", "LThinExtents$State;", true)
  | 2 => ("ThinExtents", "held", "LThinExtents$State;", true)
  | 3 => ("ThinExtents", "pool", "LThinExtents$Pool;", true)
  | 4 => ("ThinExtents", "queue", "LThinExtents$Queue;", true)
  | 5 => ("ThinExtents", "backing", "[I", true)
  | 6 => ("ThinExtents", "holding", "Z", false)
  | 7 => ("ThinExtents", "mode", "I", false)
  | 8 => ("ThinExtents", "patienceSet", "I", false)
  | 9 => ("ThinExtents", "failsAt", "I", false)
  | 10 => ("ThinExtents", "now", "I", false)
  | 11 => ("ThinExtents", "failed", "I", false)
  | _ => ("ThinExtents", "commits", "I", false)
def tyX4 : Nat → FieldType := fun k => match k with
  | 0 => .object "ThinExtents$State"
  | 1 => .object "ThinExtents$State"
  | 2 => .object "ThinExtents$State"
  | 3 => .object "ThinExtents$Pool"
  | 4 => .object "ThinExtents$Queue"
  | 5 => .array .int
  | 6 => .boolean
  | 7 => .int
  | 8 => .int
  | 9 => .int
  | 10 => .int
  | 11 => .int
  | _ => .int
abbrev wsX40 : List Cond := u_ws RX4 TX4 13
theorem nmX4 : ∀ a, a < 13 → ∀ b, b < 13 → a ≠ b → (TX4 a).2.1 ≠ (TX4 b).2.1 := by decide +kernel
theorem tyX4_ok : ∀ k, k < 13 → parseFieldDescriptor (TX4 k).2.2.1 = some (tyX4 k) := by decide +kernel
abbrev cX4_init : ByteArray := prog_1_method_1_code
def yX4_init : MethodName := ⟨RX4, "<init>", "()V"⟩
abbrev cX4_make : ByteArray := prog_1_method_2_code
def yX4_make : MethodName := ⟨RX4, "make", "(IIZ)I"⟩
abbrev cX4_snap : ByteArray := prog_1_method_3_code
def yX4_snap : MethodName := ⟨RX4, "snap", "(II)I"⟩
abbrev cX4_drop : ByteArray := prog_1_method_4_code
def yX4_drop : MethodName := ⟨RX4, "drop", "(I)I"⟩
abbrev cX4_resize : ByteArray := prog_1_method_5_code
def yX4_resize : MethodName := ⟨RX4, "resize", "(II)I"⟩
abbrev cX4_write : ByteArray := prog_1_method_6_code
def yX4_write : MethodName := ⟨RX4, "write", "(III)I"⟩
abbrev cX4_read : ByteArray := prog_1_method_7_code
def yX4_read : MethodName := ⟨RX4, "read", "(II)I"⟩
abbrev cX4_discard : ByteArray := prog_1_method_8_code
def yX4_discard : MethodName := ⟨RX4, "discard", "(III)I"⟩
abbrev cX4_grow : ByteArray := prog_1_method_9_code
def yX4_grow : MethodName := ⟨RX4, "grow", "(I)I"⟩
abbrev cX4_shrink : ByteArray := prog_1_method_10_code
def yX4_shrink : MethodName := ⟨RX4, "shrink", "(I)I"⟩
abbrev cX4_back : ByteArray := prog_1_method_11_code
def yX4_back : MethodName := ⟨RX4, "back", "(II)I"⟩
abbrev cX4_quota : ByteArray := prog_1_method_12_code
def yX4_quota : MethodName := ⟨RX4, "quota", "(II)I"⟩
abbrev cX4_mark : ByteArray := prog_1_method_13_code
def yX4_mark : MethodName := ⟨RX4, "mark", "(II)Z"⟩
abbrev cX4_marked : ByteArray := prog_1_method_14_code
def yX4_marked : MethodName := ⟨RX4, "marked", "(I)I"⟩
abbrev cX4_commit : ByteArray := prog_1_method_15_code
def yX4_commit : MethodName := ⟨RX4, "commit", "()I"⟩
abbrev cX4_cut : ByteArray := prog_1_method_16_code
def yX4_cut : MethodName := ⟨RX4, "cut", "(I)I"⟩
abbrev cX4_hold : ByteArray := prog_1_method_17_code
def yX4_hold : MethodName := ⟨RX4, "hold", "()I"⟩
abbrev cX4_release : ByteArray := prog_1_method_18_code
def yX4_release : MethodName := ⟨RX4, "release", "()Z"⟩
abbrev cX4_patience : ByteArray := prog_1_method_19_code
def yX4_patience : MethodName := ⟨RX4, "patience", "(I)I"⟩
abbrev cX4_alarm : ByteArray := prog_1_method_20_code
def yX4_alarm : MethodName := ⟨RX4, "alarm", "(I)I"⟩
abbrev cX4_tick : ByteArray := prog_1_method_21_code
def yX4_tick : MethodName := ⟨RX4, "tick", "(I)I"⟩
abbrev cX4_map : ByteArray := prog_1_method_22_code
def yX4_map : MethodName := ⟨RX4, "map", "(III)I"⟩
abbrev cX4_volume : ByteArray := prog_1_method_23_code
def yX4_volume : MethodName := ⟨RX4, "volume", "(II)I"⟩
abbrev cX4_differ : ByteArray := prog_1_method_24_code
def yX4_differ : MethodName := ⟨RX4, "differ", "(III)I"⟩
abbrev cX4_users : ByteArray := prog_1_method_25_code
def yX4_users : MethodName := ⟨RX4, "users", "(I)I"⟩
abbrev cX4_user : ByteArray := prog_1_method_26_code
def yX4_user : MethodName := ⟨RX4, "user", "(II)I"⟩
abbrev cX4_told : ByteArray := prog_1_method_27_code
def yX4_told : MethodName := ⟨RX4, "told", "(I)I"⟩
abbrev cX4_numbered : ByteArray := prog_1_method_28_code
def yX4_numbered : MethodName := ⟨RX4, "numbered", "(I)LThinExtents$Volume;"⟩
abbrev cX4_existing : ByteArray := prog_1_method_29_code
def yX4_existing : MethodName := ⟨RX4, "existing", "(I)LThinExtents$Volume;"⟩
abbrev cX4_requireSize : ByteArray := prog_1_method_30_code
def yX4_requireSize : MethodName := ⟨RX4, "requireSize", "(I)V"⟩
abbrev cX4_requireWord : ByteArray := prog_1_method_31_code
def yX4_requireWord : MethodName := ⟨RX4, "requireWord", "(LThinExtents$Volume;I)V"⟩
abbrev cX4_requireNoneWaits : ByteArray := prog_1_method_32_code
def yX4_requireNoneWaits : MethodName := ⟨RX4, "requireNoneWaits", "(III)V"⟩
abbrev cX4_requireNotNegative : ByteArray := prog_1_method_33_code
def yX4_requireNotNegative : MethodName := ⟨RX4, "requireNotNegative", "(I)V"⟩
abbrev cX4_requireExtent : ByteArray := prog_1_method_34_code
def yX4_requireExtent : MethodName := ⟨RX4, "requireExtent", "(I)V"⟩
abbrev cX4_stateOf : ByteArray := prog_1_method_35_code
def yX4_stateOf : MethodName := ⟨RX4, "stateOf", "(I)LThinExtents$State;"⟩
abbrev cX4_needsExtent : ByteArray := prog_1_method_36_code
def yX4_needsExtent : MethodName := ⟨RX4, "needsExtent", "(LThinExtents$Volume;I)Z"⟩
abbrev cX4_isOver : ByteArray := prog_1_method_37_code
def yX4_isOver : MethodName := ⟨RX4, "isOver", "(LThinExtents$Volume;I)Z"⟩
abbrev cX4_writeNeeding : ByteArray := prog_1_method_38_code
def yX4_writeNeeding : MethodName := ⟨RX4, "writeNeeding", "(LThinExtents$Volume;III)I"⟩
abbrev cX4_enqueue : ByteArray := prog_1_method_39_code
def yX4_enqueue : MethodName := ⟨RX4, "enqueue", "(III)I"⟩
abbrev cX4_perform : ByteArray := prog_1_method_40_code
def yX4_perform : MethodName := ⟨RX4, "perform", "(LThinExtents$Volume;II)I"⟩
abbrev cX4_wordOf : ByteArray := prog_1_method_41_code
def yX4_wordOf : MethodName := ⟨RX4, "wordOf", "(LThinExtents$Volume;I)I"⟩
abbrev cX4_writeHead : ByteArray := prog_1_method_42_code
def yX4_writeHead : MethodName := ⟨RX4, "writeHead", "()V"⟩
abbrev cX4_serveQueue : ByteArray := prog_1_method_43_code
def yX4_serveQueue : MethodName := ⟨RX4, "serveQueue", "()V"⟩
abbrev cX4_serveFirst : ByteArray := prog_1_method_44_code
def yX4_serveFirst : MethodName := ⟨RX4, "serveFirst", "()Z"⟩
abbrev cX4_countShared : ByteArray := prog_1_method_45_code
def yX4_countShared : MethodName := ⟨RX4, "countShared", "(LThinExtents$Volume;)I"⟩
abbrev cX4_sortOf : ByteArray := prog_1_method_46_code
def yX4_sortOf : MethodName := ⟨RX4, "sortOf", "(LThinExtents$Volume;LThinExtents$Volume;I)I"⟩
abbrev cX4_countSort : ByteArray := prog_1_method_47_code
def yX4_countSort : MethodName := ⟨RX4, "countSort", "(LThinExtents$Volume;LThinExtents$Volume;I)I"⟩
abbrev cX4_countRuns : ByteArray := prog_1_method_48_code
def yX4_countRuns : MethodName := ⟨RX4, "countRuns", "(LThinExtents$Volume;LThinExtents$Volume;)I"⟩
def RX5 : String := "ThinExtentsModel"
def TX5 : u_T := fun k => match k with
  | 0 => ("ThinExtentsModel", "thrown", "I", false)
  | 1 => ("ThinExtentsModel", "there", "[Z", true)
  | 2 => ("ThinExtentsModel", "size", "[I", true)
  | 3 => ("ThinExtentsModel", "backed", "[Z", true)
  | 4 => ("ThinExtentsModel", "quota", "[I", true)
  | 5 => ("ThinExtentsModel", "origin", "[I", true)
  | 6 => ("ThinExtentsModel", "map", "[I", true)
  | 7 => ("ThinExtentsModel", "mark", "[I", true)
  | 8 => ("ThinExtentsModel", "held", "Z", false)
  | 9 => ("ThinExtentsModel", "extents", "I", false)
  | 10 => ("ThinExtentsModel", "words", "[I", true)
  | 11 => ("ThinExtentsModel", "backing", "[I", true)
  | 12 => ("ThinExtentsModel", "cursor", "I", false)
  | 13 => ("ThinExtentsModel", "alarm", "I", false)
  | 14 => ("ThinExtentsModel", "alarms", "I", false)
  | 15 => ("ThinExtentsModel", "taken", "I", false)
  | 16 => ("ThinExtentsModel", "mode", "I", false)
  | 17 => ("ThinExtentsModel", "patience", "I", false)
  | 18 => ("ThinExtentsModel", "limit", "I", false)
  | 19 => ("ThinExtentsModel", "waited", "I", false)
  | 20 => ("ThinExtentsModel", "time", "I", false)
  | 21 => ("ThinExtentsModel", "failed", "I", false)
  | 22 => ("ThinExtentsModel", "commits", "I", false)
  | 23 => ("ThinExtentsModel", "queued", "I", false)
  | 24 => ("ThinExtentsModel", "queueVolume", "[I", true)
  | 25 => ("ThinExtentsModel", "queueWord", "[I", true)
  | _ => ("ThinExtentsModel", "queueValue", "[I", true)
def tyX5 : Nat → FieldType := fun k => match k with
  | 0 => .int
  | 1 => .array .boolean
  | 2 => .array .int
  | 3 => .array .boolean
  | 4 => .array .int
  | 5 => .array .int
  | 6 => .array .int
  | 7 => .array .int
  | 8 => .boolean
  | 9 => .int
  | 10 => .array .int
  | 11 => .array .int
  | 12 => .int
  | 13 => .int
  | 14 => .int
  | 15 => .int
  | 16 => .int
  | 17 => .int
  | 18 => .int
  | 19 => .int
  | 20 => .int
  | 21 => .int
  | 22 => .int
  | 23 => .int
  | 24 => .array .int
  | 25 => .array .int
  | _ => .array .int
abbrev wsX50 : List Cond := u_ws RX5 TX5 27
theorem nmX5 : ∀ a, a < 27 → ∀ b, b < 27 → a ≠ b → (TX5 a).2.1 ≠ (TX5 b).2.1 := by decide +kernel
theorem tyX5_ok : ∀ k, k < 27 → parseFieldDescriptor (TX5 k).2.2.1 = some (tyX5 k) := by decide +kernel
abbrev cX5_init : ByteArray := prog_7_method_1_code
def yX5_init : MethodName := ⟨RX5, "<init>", "()V"⟩
abbrev cX5_thrown : ByteArray := prog_7_method_2_code
def yX5_thrown : MethodName := ⟨RX5, "thrown", "()I"⟩
abbrev cX5_isNumber : ByteArray := prog_7_method_3_code
def yX5_isNumber : MethodName := ⟨RX5, "isNumber", "(I)Z"⟩
abbrev cX5_isVolume : ByteArray := prog_7_method_4_code
def yX5_isVolume : MethodName := ⟨RX5, "isVolume", "(I)Z"⟩
abbrev cX5_isSize : ByteArray := prog_7_method_5_code
def yX5_isSize : MethodName := ⟨RX5, "isSize", "(I)Z"⟩
abbrev cX5_at : ByteArray := prog_7_method_6_code
def yX5_at : MethodName := ⟨RX5, "at", "(III)I"⟩
abbrev cX5_usersOf : ByteArray := prog_7_method_7_code
def yX5_usersOf : MethodName := ⟨RX5, "usersOf", "(II)I"⟩
abbrev cX5_isFree : ByteArray := prog_7_method_8_code
def yX5_isFree : MethodName := ⟨RX5, "isFree", "(I)Z"⟩
abbrev cX5_isSole : ByteArray := prog_7_method_9_code
def yX5_isSole : MethodName := ⟨RX5, "isSole", "(I)Z"⟩
abbrev cX5_freeMany : ByteArray := prog_7_method_10_code
def yX5_freeMany : MethodName := ⟨RX5, "freeMany", "()I"⟩
abbrev cX5_mapped : ByteArray := prog_7_method_11_code
def yX5_mapped : MethodName := ⟨RX5, "mapped", "(I)I"⟩
abbrev cX5_volumes : ByteArray := prog_7_method_12_code
def yX5_volumes : MethodName := ⟨RX5, "volumes", "(I)I"⟩
abbrev cX5_clearState : ByteArray := prog_7_method_13_code
def yX5_clearState : MethodName := ⟨RX5, "clearState", "(I)V"⟩
abbrev cX5_copy : ByteArray := prog_7_method_14_code
def yX5_copy : MethodName := ⟨RX5, "copy", "(II)V"⟩
abbrev cX5_copyVolume : ByteArray := prog_7_method_15_code
def yX5_copyVolume : MethodName := ⟨RX5, "copyVolume", "(IIII)V"⟩
abbrev cX5_needs : ByteArray := prog_7_method_16_code
def yX5_needs : MethodName := ⟨RX5, "needs", "(II)Z"⟩
abbrev cX5_isOver : ByteArray := prog_7_method_17_code
def yX5_isOver : MethodName := ⟨RX5, "isOver", "(II)Z"⟩
abbrev cX5_wordOf : ByteArray := prog_7_method_18_code
def yX5_wordOf : MethodName := ⟨RX5, "wordOf", "(II)I"⟩
abbrev cX5_take : ByteArray := prog_7_method_19_code
def yX5_take : MethodName := ⟨RX5, "take", "(II)V"⟩
abbrev cX5_perform : ByteArray := prog_7_method_20_code
def yX5_perform : MethodName := ⟨RX5, "perform", "(III)I"⟩
abbrev cX5_waits : ByteArray := prog_7_method_21_code
def yX5_waits : MethodName := ⟨RX5, "waits", "(II)Z"⟩
abbrev cX5_enqueue : ByteArray := prog_7_method_22_code
def yX5_enqueue : MethodName := ⟨RX5, "enqueue", "(III)I"⟩
abbrev cX5_unqueue : ByteArray := prog_7_method_23_code
def yX5_unqueue : MethodName := ⟨RX5, "unqueue", "(I)V"⟩
abbrev cX5_drain : ByteArray := prog_7_method_24_code
def yX5_drain : MethodName := ⟨RX5, "drain", "()V"⟩
abbrev cX5_write : ByteArray := prog_7_method_25_code
def yX5_write : MethodName := ⟨RX5, "write", "(III)I"⟩
abbrev cX5_read : ByteArray := prog_7_method_26_code
def yX5_read : MethodName := ⟨RX5, "read", "(II)I"⟩
abbrev cX5_make : ByteArray := prog_7_method_27_code
def yX5_make : MethodName := ⟨RX5, "make", "(IIZ)I"⟩
abbrev cX5_snap : ByteArray := prog_7_method_28_code
def yX5_snap : MethodName := ⟨RX5, "snap", "(II)I"⟩
abbrev cX5_drop : ByteArray := prog_7_method_29_code
def yX5_drop : MethodName := ⟨RX5, "drop", "(I)I"⟩
abbrev cX5_waitsIn : ByteArray := prog_7_method_30_code
def yX5_waitsIn : MethodName := ⟨RX5, "waitsIn", "(III)Z"⟩
abbrev cX5_unmap : ByteArray := prog_7_method_31_code
def yX5_unmap : MethodName := ⟨RX5, "unmap", "(III)I"⟩
abbrev cX5_resize : ByteArray := prog_7_method_32_code
def yX5_resize : MethodName := ⟨RX5, "resize", "(II)I"⟩
abbrev cX5_discard : ByteArray := prog_7_method_33_code
def yX5_discard : MethodName := ⟨RX5, "discard", "(III)I"⟩
abbrev cX5_grow : ByteArray := prog_7_method_34_code
def yX5_grow : MethodName := ⟨RX5, "grow", "(I)I"⟩
abbrev cX5_shrink : ByteArray := prog_7_method_35_code
def yX5_shrink : MethodName := ⟨RX5, "shrink", "(I)I"⟩
abbrev cX5_back : ByteArray := prog_7_method_36_code
def yX5_back : MethodName := ⟨RX5, "back", "(II)I"⟩
abbrev cX5_quota : ByteArray := prog_7_method_37_code
def yX5_quota : MethodName := ⟨RX5, "quota", "(II)I"⟩
abbrev cX5_mark : ByteArray := prog_7_method_38_code
def yX5_mark : MethodName := ⟨RX5, "mark", "(II)Z"⟩
abbrev cX5_marked : ByteArray := prog_7_method_39_code
def yX5_marked : MethodName := ⟨RX5, "marked", "(I)I"⟩
abbrev cX5_commit : ByteArray := prog_7_method_40_code
def yX5_commit : MethodName := ⟨RX5, "commit", "()I"⟩
abbrev cX5_cut : ByteArray := prog_7_method_41_code
def yX5_cut : MethodName := ⟨RX5, "cut", "(I)I"⟩
abbrev cX5_hold : ByteArray := prog_7_method_42_code
def yX5_hold : MethodName := ⟨RX5, "hold", "()I"⟩
abbrev cX5_release : ByteArray := prog_7_method_43_code
def yX5_release : MethodName := ⟨RX5, "release", "()Z"⟩
abbrev cX5_patience : ByteArray := prog_7_method_44_code
def yX5_patience : MethodName := ⟨RX5, "patience", "(I)I"⟩
abbrev cX5_alarm : ByteArray := prog_7_method_45_code
def yX5_alarm : MethodName := ⟨RX5, "alarm", "(I)I"⟩
abbrev cX5_tick : ByteArray := prog_7_method_46_code
def yX5_tick : MethodName := ⟨RX5, "tick", "(I)I"⟩
abbrev cX5_map : ByteArray := prog_7_method_47_code
def yX5_map : MethodName := ⟨RX5, "map", "(III)I"⟩
abbrev cX5_volume : ByteArray := prog_7_method_48_code
def yX5_volume : MethodName := ⟨RX5, "volume", "(II)I"⟩
abbrev cX5_sortAt : ByteArray := prog_7_method_49_code
def yX5_sortAt : MethodName := ⟨RX5, "sortAt", "(III)I"⟩
abbrev cX5_differ : ByteArray := prog_7_method_50_code
def yX5_differ : MethodName := ⟨RX5, "differ", "(III)I"⟩
abbrev cX5_users : ByteArray := prog_7_method_51_code
def yX5_users : MethodName := ⟨RX5, "users", "(I)I"⟩
abbrev cX5_user : ByteArray := prog_7_method_52_code
def yX5_user : MethodName := ⟨RX5, "user", "(II)I"⟩
abbrev cX5_told : ByteArray := prog_7_method_53_code
def yX5_told : MethodName := ⟨RX5, "told", "(I)I"⟩
def RJ7 : String := "java/util/Arrays"
abbrev cJ7_fill_53178 : ByteArray := prog_16_method_103_code
def yJ7_fill_53178 : MethodName := ⟨RJ7, "fill", "([II)V"⟩
def RL : String := "ThinExtentsLaw"
abbrev cL_make : ByteArray := method_3_code
def yL_make : MethodName := ⟨RL, "make", "(LThinExtents;IIZ[J)I"⟩
abbrev cL_snap : ByteArray := method_4_code
def yL_snap : MethodName := ⟨RL, "snap", "(LThinExtents;II[J)I"⟩
abbrev cL_drop : ByteArray := method_5_code
def yL_drop : MethodName := ⟨RL, "drop", "(LThinExtents;I[J)I"⟩
abbrev cL_resize : ByteArray := method_6_code
def yL_resize : MethodName := ⟨RL, "resize", "(LThinExtents;II[J)I"⟩
abbrev cL_write : ByteArray := method_7_code
def yL_write : MethodName := ⟨RL, "write", "(LThinExtents;III[J)I"⟩
abbrev cL_read : ByteArray := method_8_code
def yL_read : MethodName := ⟨RL, "read", "(LThinExtents;II[J)I"⟩
abbrev cL_discard : ByteArray := method_9_code
def yL_discard : MethodName := ⟨RL, "discard", "(LThinExtents;III[J)I"⟩
abbrev cL_grow : ByteArray := method_10_code
def yL_grow : MethodName := ⟨RL, "grow", "(LThinExtents;I[J)I"⟩
abbrev cL_shrink : ByteArray := method_11_code
def yL_shrink : MethodName := ⟨RL, "shrink", "(LThinExtents;I[J)I"⟩
abbrev cL_back : ByteArray := method_12_code
def yL_back : MethodName := ⟨RL, "back", "(LThinExtents;II[J)I"⟩
abbrev cL_quota : ByteArray := method_13_code
def yL_quota : MethodName := ⟨RL, "quota", "(LThinExtents;II[J)I"⟩
abbrev cL_marked : ByteArray := method_14_code
def yL_marked : MethodName := ⟨RL, "marked", "(LThinExtents;I[J)I"⟩
abbrev cL_cut : ByteArray := method_15_code
def yL_cut : MethodName := ⟨RL, "cut", "(LThinExtents;I[J)I"⟩
abbrev cL_hold : ByteArray := method_16_code
def yL_hold : MethodName := ⟨RL, "hold", "(LThinExtents;[J)I"⟩
abbrev cL_patience : ByteArray := method_17_code
def yL_patience : MethodName := ⟨RL, "patience", "(LThinExtents;I[J)I"⟩
abbrev cL_alarm : ByteArray := method_18_code
def yL_alarm : MethodName := ⟨RL, "alarm", "(LThinExtents;I[J)I"⟩
abbrev cL_tick : ByteArray := method_19_code
def yL_tick : MethodName := ⟨RL, "tick", "(LThinExtents;I[J)I"⟩
abbrev cL_map : ByteArray := method_20_code
def yL_map : MethodName := ⟨RL, "map", "(LThinExtents;III[J)I"⟩
abbrev cL_volume : ByteArray := method_21_code
def yL_volume : MethodName := ⟨RL, "volume", "(LThinExtents;II[J)I"⟩
abbrev cL_differ : ByteArray := method_22_code
def yL_differ : MethodName := ⟨RL, "differ", "(LThinExtents;III[J)I"⟩
abbrev cL_users : ByteArray := method_23_code
def yL_users : MethodName := ⟨RL, "users", "(LThinExtents;I[J)I"⟩
abbrev cL_user : ByteArray := method_24_code
def yL_user : MethodName := ⟨RL, "user", "(LThinExtents;II[J)I"⟩
abbrev cL_told : ByteArray := method_25_code
def yL_told : MethodName := ⟨RL, "told", "(LThinExtents;I[J)I"⟩
abbrev cL_law : ByteArray := code
def yL_law : MethodName := ⟨RL, "law", "([I)Z"⟩
theorem dX0_init_0 : decode cX0_init 0 = .ok (.aload_n 0, 1) := by decide +kernel
theorem dX0_init_1 : decode cX0_init 1 = .ok (.invokespecial 3, 3) := by decide +kernel
theorem dX0_init_4 : decode cX0_init 4 = .ok (.aload_n 0, 1) := by decide +kernel
theorem dX0_init_5 : decode cX0_init 5 = .ok (.aload_n 1, 1) := by decide +kernel
theorem dX0_init_6 : decode cX0_init 6 = .ok (.putfield 9, 3) := by decide +kernel
theorem dX0_init_9 : decode cX0_init 9 = .ok (.aload_n 0, 1) := by decide +kernel
theorem dX0_init_10 : decode cX0_init 10 = .ok (.aload_n 2, 1) := by decide +kernel
theorem dX0_init_11 : decode cX0_init 11 = .ok (.putfield 15, 3) := by decide +kernel
theorem dX0_init_14 : decode cX0_init 14 = .ok (.aload_n 0, 1) := by decide +kernel
theorem dX0_init_15 : decode cX0_init 15 = .ok (.aload_n 3, 1) := by decide +kernel
theorem dX0_init_16 : decode cX0_init 16 = .ok (.putfield 18, 3) := by decide +kernel
theorem dX0_init_19 : decode cX0_init 19 = .ok (.aload_n 0, 1) := by decide +kernel
theorem dX0_init_20 : decode cX0_init 20 = .ok (.sipush 384, 3) := by decide +kernel
theorem dX0_init_23 : decode cX0_init 23 = .ok (.newarray .int, 2) := by decide +kernel
theorem dX0_init_25 : decode cX0_init 25 = .ok (.putfield 21, 3) := by decide +kernel
theorem dX0_init_28 : decode cX0_init 28 = .ok (.aload_n 0, 1) := by decide +kernel
theorem dX0_init_29 : decode cX0_init 29 = .ok (.bipush 8, 2) := by decide +kernel
theorem dX0_init_31 : decode cX0_init 31 = .ok (.putfield 25, 3) := by decide +kernel
theorem dX0_init_34 : decode cX0_init 34 = .ok (.return_, 1) := by decide +kernel
theorem dX0_isFree_0 : decode cX0_isFree 0 = .ok (.aload_n 0, 1) := by decide +kernel
theorem dX0_isFree_1 : decode cX0_isFree 1 = .ok (.getfield 9, 3) := by decide +kernel
theorem dX0_isFree_4 : decode cX0_isFree 4 = .ok (.iload_n 1, 1) := by decide +kernel
theorem dX0_isFree_5 : decode cX0_isFree 5 = .ok (.invokevirtual 29, 3) := by decide +kernel
theorem dX0_isFree_8 : decode cX0_isFree 8 = .ok (.aload_n 0, 1) := by decide +kernel
theorem dX0_isFree_9 : decode cX0_isFree 9 = .ok (.getfield 15, 3) := by decide +kernel
theorem dX0_isFree_12 : decode cX0_isFree 12 = .ok (.iload_n 1, 1) := by decide +kernel
theorem dX0_isFree_13 : decode cX0_isFree 13 = .ok (.invokevirtual 29, 3) := by decide +kernel
theorem dX0_isFree_16 : decode cX0_isFree 16 = .ok (.iadd, 1) := by decide +kernel
theorem dX0_isFree_17 : decode cX0_isFree 17 = .ok (.aload_n 0, 1) := by decide +kernel
theorem dX0_isFree_18 : decode cX0_isFree 18 = .ok (.getfield 18, 3) := by decide +kernel
theorem dX0_isFree_21 : decode cX0_isFree 21 = .ok (.iload_n 1, 1) := by decide +kernel
theorem dX0_isFree_22 : decode cX0_isFree 22 = .ok (.invokevirtual 29, 3) := by decide +kernel
theorem dX0_isFree_25 : decode cX0_isFree 25 = .ok (.iadd, 1) := by decide +kernel
theorem dX0_isFree_26 : decode cX0_isFree 26 = .ok (.ifCond .ne 7, 3) := by decide +kernel
theorem dX0_isFree_29 : decode cX0_isFree 29 = .ok (.iconst 1, 1) := by decide +kernel
theorem dX0_isFree_30 : decode cX0_isFree 30 = .ok (.goto 4, 3) := by decide +kernel
theorem dX0_isFree_33 : decode cX0_isFree 33 = .ok (.iconst 0, 1) := by decide +kernel
theorem dX0_isFree_34 : decode cX0_isFree 34 = .ok (.ireturn, 1) := by decide +kernel
theorem dX0_isSole_0 : decode cX0_isSole 0 = .ok (.aload_n 0, 1) := by decide +kernel
theorem dX0_isSole_1 : decode cX0_isSole 1 = .ok (.getfield 9, 3) := by decide +kernel
theorem dX0_isSole_4 : decode cX0_isSole 4 = .ok (.iload_n 1, 1) := by decide +kernel
theorem dX0_isSole_5 : decode cX0_isSole 5 = .ok (.invokevirtual 29, 3) := by decide +kernel
theorem dX0_isSole_8 : decode cX0_isSole 8 = .ok (.iconst 1, 1) := by decide +kernel
theorem dX0_isSole_9 : decode cX0_isSole 9 = .ok (.if_icmp .ne 27, 3) := by decide +kernel
theorem dX0_isSole_12 : decode cX0_isSole 12 = .ok (.aload_n 0, 1) := by decide +kernel
theorem dX0_isSole_13 : decode cX0_isSole 13 = .ok (.getfield 15, 3) := by decide +kernel
theorem dX0_isSole_16 : decode cX0_isSole 16 = .ok (.iload_n 1, 1) := by decide +kernel
theorem dX0_isSole_17 : decode cX0_isSole 17 = .ok (.invokevirtual 29, 3) := by decide +kernel
theorem dX0_isSole_20 : decode cX0_isSole 20 = .ok (.aload_n 0, 1) := by decide +kernel
theorem dX0_isSole_21 : decode cX0_isSole 21 = .ok (.getfield 18, 3) := by decide +kernel
theorem dX0_isSole_24 : decode cX0_isSole 24 = .ok (.iload_n 1, 1) := by decide +kernel
theorem dX0_isSole_25 : decode cX0_isSole 25 = .ok (.invokevirtual 29, 3) := by decide +kernel
theorem dX0_isSole_28 : decode cX0_isSole 28 = .ok (.iadd, 1) := by decide +kernel
theorem dX0_isSole_29 : decode cX0_isSole 29 = .ok (.ifCond .ne 7, 3) := by decide +kernel
theorem dX0_isSole_32 : decode cX0_isSole 32 = .ok (.iconst 1, 1) := by decide +kernel
theorem dX0_isSole_33 : decode cX0_isSole 33 = .ok (.goto 4, 3) := by decide +kernel
theorem dX0_isSole_36 : decode cX0_isSole 36 = .ok (.iconst 0, 1) := by decide +kernel
theorem dX0_isSole_37 : decode cX0_isSole 37 = .ok (.ireturn, 1) := by decide +kernel
theorem dX0_areFree_0 : decode cX0_areFree 0 = .ok (.iload_n 1, 1) := by decide +kernel
theorem dX0_areFree_1 : decode cX0_areFree 1 = .ok (.istore_n 3, 1) := by decide +kernel
theorem dX0_areFree_2 : decode cX0_areFree 2 = .ok (.iload_n 3, 1) := by decide +kernel
theorem dX0_areFree_3 : decode cX0_areFree 3 = .ok (.iload_n 2, 1) := by decide +kernel
theorem dX0_areFree_4 : decode cX0_areFree 4 = .ok (.if_icmp .ge 19, 3) := by decide +kernel
theorem dX0_areFree_7 : decode cX0_areFree 7 = .ok (.aload_n 0, 1) := by decide +kernel
theorem dX0_areFree_8 : decode cX0_areFree 8 = .ok (.iload_n 3, 1) := by decide +kernel
theorem dX0_areFree_9 : decode cX0_areFree 9 = .ok (.invokevirtual 35, 3) := by decide +kernel
theorem dX0_areFree_12 : decode cX0_areFree 12 = .ok (.ifCond .ne 5, 3) := by decide +kernel
theorem dX0_areFree_15 : decode cX0_areFree 15 = .ok (.iconst 0, 1) := by decide +kernel
theorem dX0_areFree_16 : decode cX0_areFree 16 = .ok (.ireturn, 1) := by decide +kernel
theorem dX0_areFree_17 : decode cX0_areFree 17 = .ok (.iinc 3 1, 3) := by decide +kernel
theorem dX0_areFree_20 : decode cX0_areFree 20 = .ok (.goto (-18), 3) := by decide +kernel
theorem dX0_areFree_23 : decode cX0_areFree 23 = .ok (.iconst 1, 1) := by decide +kernel
theorem dX0_areFree_24 : decode cX0_areFree 24 = .ok (.ireturn, 1) := by decide +kernel
theorem dX0_countFree_0 : decode cX0_countFree 0 = .ok (.iconst 0, 1) := by decide +kernel
theorem dX0_countFree_1 : decode cX0_countFree 1 = .ok (.istore_n 1, 1) := by decide +kernel
theorem dX0_countFree_2 : decode cX0_countFree 2 = .ok (.iconst 0, 1) := by decide +kernel
theorem dX0_countFree_3 : decode cX0_countFree 3 = .ok (.istore_n 2, 1) := by decide +kernel
theorem dX0_countFree_4 : decode cX0_countFree 4 = .ok (.iload_n 2, 1) := by decide +kernel
theorem dX0_countFree_5 : decode cX0_countFree 5 = .ok (.aload_n 0, 1) := by decide +kernel
theorem dX0_countFree_6 : decode cX0_countFree 6 = .ok (.getfield 25, 3) := by decide +kernel
theorem dX0_countFree_9 : decode cX0_countFree 9 = .ok (.if_icmp .ge 20, 3) := by decide +kernel
theorem dX0_countFree_12 : decode cX0_countFree 12 = .ok (.aload_n 0, 1) := by decide +kernel
theorem dX0_countFree_13 : decode cX0_countFree 13 = .ok (.iload_n 2, 1) := by decide +kernel
theorem dX0_countFree_14 : decode cX0_countFree 14 = .ok (.invokevirtual 35, 3) := by decide +kernel
theorem dX0_countFree_17 : decode cX0_countFree 17 = .ok (.ifCond .eq 6, 3) := by decide +kernel
theorem dX0_countFree_20 : decode cX0_countFree 20 = .ok (.iinc 1 1, 3) := by decide +kernel
theorem dX0_countFree_23 : decode cX0_countFree 23 = .ok (.iinc 2 1, 3) := by decide +kernel
theorem dX0_countFree_26 : decode cX0_countFree 26 = .ok (.goto (-22), 3) := by decide +kernel
theorem dX0_countFree_29 : decode cX0_countFree 29 = .ok (.iload_n 1, 1) := by decide +kernel
theorem dX0_countFree_30 : decode cX0_countFree 30 = .ok (.ireturn, 1) := by decide +kernel
theorem dX0_take_0 : decode cX0_take 0 = .ok (.aload_n 0, 1) := by decide +kernel
theorem dX0_take_1 : decode cX0_take 1 = .ok (.getfield 39, 3) := by decide +kernel
theorem dX0_take_4 : decode cX0_take 4 = .ok (.istore_n 1, 1) := by decide +kernel
theorem dX0_take_5 : decode cX0_take 5 = .ok (.iconst 0, 1) := by decide +kernel
theorem dX0_take_6 : decode cX0_take 6 = .ok (.istore_n 2, 1) := by decide +kernel
theorem dX0_take_7 : decode cX0_take 7 = .ok (.iload_n 2, 1) := by decide +kernel
theorem dX0_take_8 : decode cX0_take 8 = .ok (.aload_n 0, 1) := by decide +kernel
theorem dX0_take_9 : decode cX0_take 9 = .ok (.getfield 25, 3) := by decide +kernel
theorem dX0_take_12 : decode cX0_take 12 = .ok (.if_icmp .ge 54, 3) := by decide +kernel
theorem dX0_take_15 : decode cX0_take 15 = .ok (.iload_n 1, 1) := by decide +kernel
theorem dX0_take_16 : decode cX0_take 16 = .ok (.iconst 1, 1) := by decide +kernel
theorem dX0_take_17 : decode cX0_take 17 = .ok (.iadd, 1) := by decide +kernel
theorem dX0_take_18 : decode cX0_take 18 = .ok (.aload_n 0, 1) := by decide +kernel
theorem dX0_take_19 : decode cX0_take 19 = .ok (.getfield 25, 3) := by decide +kernel
theorem dX0_take_22 : decode cX0_take 22 = .ok (.if_icmp .ge 9, 3) := by decide +kernel
theorem dX0_take_25 : decode cX0_take 25 = .ok (.iload_n 1, 1) := by decide +kernel
theorem dX0_take_26 : decode cX0_take 26 = .ok (.iconst 1, 1) := by decide +kernel
theorem dX0_take_27 : decode cX0_take 27 = .ok (.iadd, 1) := by decide +kernel
theorem dX0_take_28 : decode cX0_take 28 = .ok (.goto 4, 3) := by decide +kernel
theorem dX0_take_31 : decode cX0_take 31 = .ok (.iconst 0, 1) := by decide +kernel
theorem dX0_take_32 : decode cX0_take 32 = .ok (.istore_n 3, 1) := by decide +kernel
theorem dX0_take_33 : decode cX0_take 33 = .ok (.aload_n 0, 1) := by decide +kernel
theorem dX0_take_34 : decode cX0_take 34 = .ok (.iload_n 1, 1) := by decide +kernel
theorem dX0_take_35 : decode cX0_take 35 = .ok (.invokevirtual 35, 3) := by decide +kernel
theorem dX0_take_38 : decode cX0_take 38 = .ok (.ifCond .eq 20, 3) := by decide +kernel
theorem dX0_take_41 : decode cX0_take 41 = .ok (.aload_n 0, 1) := by decide +kernel
theorem dX0_take_42 : decode cX0_take 42 = .ok (.iload_n 3, 1) := by decide +kernel
theorem dX0_take_43 : decode cX0_take 43 = .ok (.putfield 39, 3) := by decide +kernel
theorem dX0_take_46 : decode cX0_take 46 = .ok (.aload_n 0, 1) := by decide +kernel
theorem dX0_take_47 : decode cX0_take 47 = .ok (.dup, 1) := by decide +kernel
theorem dX0_take_48 : decode cX0_take 48 = .ok (.getfield 42, 3) := by decide +kernel
theorem dX0_take_51 : decode cX0_take 51 = .ok (.iconst 1, 1) := by decide +kernel
theorem dX0_take_52 : decode cX0_take 52 = .ok (.iadd, 1) := by decide +kernel
theorem dX0_take_53 : decode cX0_take 53 = .ok (.putfield 42, 3) := by decide +kernel
theorem dX0_take_56 : decode cX0_take 56 = .ok (.iload_n 1, 1) := by decide +kernel
theorem dX0_take_57 : decode cX0_take 57 = .ok (.ireturn, 1) := by decide +kernel
theorem dX0_take_58 : decode cX0_take 58 = .ok (.iload_n 3, 1) := by decide +kernel
theorem dX0_take_59 : decode cX0_take 59 = .ok (.istore_n 1, 1) := by decide +kernel
theorem dX0_take_60 : decode cX0_take 60 = .ok (.iinc 2 1, 3) := by decide +kernel
theorem dX0_take_63 : decode cX0_take 63 = .ok (.goto (-56), 3) := by decide +kernel
theorem dX0_take_66 : decode cX0_take 66 = .ok (.iconst (-1), 1) := by decide +kernel
theorem dX0_take_67 : decode cX0_take 67 = .ok (.ireturn, 1) := by decide +kernel
theorem dX0_wordAt_0 : decode cX0_wordAt 0 = .ok (.iload_n 1, 1) := by decide +kernel
theorem dX0_wordAt_1 : decode cX0_wordAt 1 = .ok (.iconst 4, 1) := by decide +kernel
theorem dX0_wordAt_2 : decode cX0_wordAt 2 = .ok (.imul, 1) := by decide +kernel
theorem dX0_wordAt_3 : decode cX0_wordAt 3 = .ok (.iload_n 2, 1) := by decide +kernel
theorem dX0_wordAt_4 : decode cX0_wordAt 4 = .ok (.iadd, 1) := by decide +kernel
theorem dX0_wordAt_5 : decode cX0_wordAt 5 = .ok (.istore_n 3, 1) := by decide +kernel
theorem dX0_wordAt_6 : decode cX0_wordAt 6 = .ok (.iload_n 3, 1) := by decide +kernel
theorem dX0_wordAt_7 : decode cX0_wordAt 7 = .ok (.ifCond .lt 21, 3) := by decide +kernel
theorem dX0_wordAt_10 : decode cX0_wordAt 10 = .ok (.iload_n 3, 1) := by decide +kernel
theorem dX0_wordAt_11 : decode cX0_wordAt 11 = .ok (.aload_n 0, 1) := by decide +kernel
theorem dX0_wordAt_12 : decode cX0_wordAt 12 = .ok (.getfield 21, 3) := by decide +kernel
theorem dX0_wordAt_15 : decode cX0_wordAt 15 = .ok (.arraylength, 1) := by decide +kernel
theorem dX0_wordAt_16 : decode cX0_wordAt 16 = .ok (.if_icmp .ge 12, 3) := by decide +kernel
theorem dX0_wordAt_19 : decode cX0_wordAt 19 = .ok (.aload_n 0, 1) := by decide +kernel
theorem dX0_wordAt_20 : decode cX0_wordAt 20 = .ok (.getfield 21, 3) := by decide +kernel
theorem dX0_wordAt_23 : decode cX0_wordAt 23 = .ok (.iload_n 3, 1) := by decide +kernel
theorem dX0_wordAt_24 : decode cX0_wordAt 24 = .ok (.iaload, 1) := by decide +kernel
theorem dX0_wordAt_25 : decode cX0_wordAt 25 = .ok (.goto 4, 3) := by decide +kernel
theorem dX0_wordAt_28 : decode cX0_wordAt 28 = .ok (.iconst 0, 1) := by decide +kernel
theorem dX0_wordAt_29 : decode cX0_wordAt 29 = .ok (.ireturn, 1) := by decide +kernel
theorem dX0_setWord_0 : decode cX0_setWord 0 = .ok (.iload_n 1, 1) := by decide +kernel
theorem dX0_setWord_1 : decode cX0_setWord 1 = .ok (.iconst 4, 1) := by decide +kernel
theorem dX0_setWord_2 : decode cX0_setWord 2 = .ok (.imul, 1) := by decide +kernel
theorem dX0_setWord_3 : decode cX0_setWord 3 = .ok (.iload_n 2, 1) := by decide +kernel
theorem dX0_setWord_4 : decode cX0_setWord 4 = .ok (.iadd, 1) := by decide +kernel
theorem dX0_setWord_5 : decode cX0_setWord 5 = .ok (.istore 4, 2) := by decide +kernel
theorem dX0_setWord_7 : decode cX0_setWord 7 = .ok (.iload 4, 2) := by decide +kernel
theorem dX0_setWord_9 : decode cX0_setWord 9 = .ok (.ifCond .lt 21, 3) := by decide +kernel
theorem dX0_setWord_12 : decode cX0_setWord 12 = .ok (.iload 4, 2) := by decide +kernel
theorem dX0_setWord_14 : decode cX0_setWord 14 = .ok (.aload_n 0, 1) := by decide +kernel
theorem dX0_setWord_15 : decode cX0_setWord 15 = .ok (.getfield 21, 3) := by decide +kernel
theorem dX0_setWord_18 : decode cX0_setWord 18 = .ok (.arraylength, 1) := by decide +kernel
theorem dX0_setWord_19 : decode cX0_setWord 19 = .ok (.if_icmp .ge 11, 3) := by decide +kernel
theorem dX0_setWord_22 : decode cX0_setWord 22 = .ok (.aload_n 0, 1) := by decide +kernel
theorem dX0_setWord_23 : decode cX0_setWord 23 = .ok (.getfield 21, 3) := by decide +kernel
theorem dX0_setWord_26 : decode cX0_setWord 26 = .ok (.iload 4, 2) := by decide +kernel
theorem dX0_setWord_28 : decode cX0_setWord 28 = .ok (.iload_n 3, 1) := by decide +kernel
theorem dX0_setWord_29 : decode cX0_setWord 29 = .ok (.iastore, 1) := by decide +kernel
theorem dX0_setWord_30 : decode cX0_setWord 30 = .ok (.return_, 1) := by decide +kernel
theorem dX1_init_0 : decode cX1_init 0 = .ok (.aload_n 0, 1) := by decide +kernel
theorem dX1_init_1 : decode cX1_init 1 = .ok (.invokespecial 3, 3) := by decide +kernel
theorem dX1_init_4 : decode cX1_init 4 = .ok (.aload_n 0, 1) := by decide +kernel
theorem dX1_init_5 : decode cX1_init 5 = .ok (.bipush 8, 2) := by decide +kernel
theorem dX1_init_7 : decode cX1_init 7 = .ok (.newarray .int, 2) := by decide +kernel
theorem dX1_init_9 : decode cX1_init 9 = .ok (.putfield 9, 3) := by decide +kernel
theorem dX1_init_12 : decode cX1_init 12 = .ok (.aload_n 0, 1) := by decide +kernel
theorem dX1_init_13 : decode cX1_init 13 = .ok (.bipush 8, 2) := by decide +kernel
theorem dX1_init_15 : decode cX1_init 15 = .ok (.newarray .int, 2) := by decide +kernel
theorem dX1_init_17 : decode cX1_init 17 = .ok (.putfield 15, 3) := by decide +kernel
theorem dX1_init_20 : decode cX1_init 20 = .ok (.aload_n 0, 1) := by decide +kernel
theorem dX1_init_21 : decode cX1_init 21 = .ok (.bipush 8, 2) := by decide +kernel
theorem dX1_init_23 : decode cX1_init 23 = .ok (.newarray .int, 2) := by decide +kernel
theorem dX1_init_25 : decode cX1_init 25 = .ok (.putfield 18, 3) := by decide +kernel
theorem dX1_init_28 : decode cX1_init 28 = .ok (.return_, 1) := by decide +kernel
theorem dX1_add_0 : decode cX1_add 0 = .ok (.aload_n 0, 1) := by decide +kernel
theorem dX1_add_1 : decode cX1_add 1 = .ok (.getfield 21, 3) := by decide +kernel
theorem dX1_add_4 : decode cX1_add 4 = .ok (.bipush 8, 2) := by decide +kernel
theorem dX1_add_6 : decode cX1_add 6 = .ok (.if_icmp .lt 5, 3) := by decide +kernel
theorem dX1_add_9 : decode cX1_add 9 = .ok (.iconst 0, 1) := by decide +kernel
theorem dX1_add_10 : decode cX1_add 10 = .ok (.ireturn, 1) := by decide +kernel
theorem dX1_add_11 : decode cX1_add 11 = .ok (.aload_n 0, 1) := by decide +kernel
theorem dX1_add_12 : decode cX1_add 12 = .ok (.aload_n 0, 1) := by decide +kernel
theorem dX1_add_13 : decode cX1_add 13 = .ok (.getfield 21, 3) := by decide +kernel
theorem dX1_add_16 : decode cX1_add 16 = .ok (.iload_n 1, 1) := by decide +kernel
theorem dX1_add_17 : decode cX1_add 17 = .ok (.iload_n 2, 1) := by decide +kernel
theorem dX1_add_18 : decode cX1_add 18 = .ok (.iload_n 3, 1) := by decide +kernel
theorem dX1_add_19 : decode cX1_add 19 = .ok (.invokevirtual 25, 3) := by decide +kernel
theorem dX1_add_22 : decode cX1_add 22 = .ok (.aload_n 0, 1) := by decide +kernel
theorem dX1_add_23 : decode cX1_add 23 = .ok (.dup, 1) := by decide +kernel
theorem dX1_add_24 : decode cX1_add 24 = .ok (.getfield 21, 3) := by decide +kernel
theorem dX1_add_27 : decode cX1_add 27 = .ok (.iconst 1, 1) := by decide +kernel
theorem dX1_add_28 : decode cX1_add 28 = .ok (.iadd, 1) := by decide +kernel
theorem dX1_add_29 : decode cX1_add 29 = .ok (.putfield 21, 3) := by decide +kernel
theorem dX1_add_32 : decode cX1_add 32 = .ok (.iconst 1, 1) := by decide +kernel
theorem dX1_add_33 : decode cX1_add 33 = .ok (.ireturn, 1) := by decide +kernel
theorem dX1_put_0 : decode cX1_put 0 = .ok (.iload_n 1, 1) := by decide +kernel
theorem dX1_put_1 : decode cX1_put 1 = .ok (.ifCond .lt 31, 3) := by decide +kernel
theorem dX1_put_4 : decode cX1_put 4 = .ok (.iload_n 1, 1) := by decide +kernel
theorem dX1_put_5 : decode cX1_put 5 = .ok (.bipush 8, 2) := by decide +kernel
theorem dX1_put_7 : decode cX1_put 7 = .ok (.if_icmp .ge 25, 3) := by decide +kernel
theorem dX1_put_10 : decode cX1_put 10 = .ok (.aload_n 0, 1) := by decide +kernel
theorem dX1_put_11 : decode cX1_put 11 = .ok (.getfield 9, 3) := by decide +kernel
theorem dX1_put_14 : decode cX1_put 14 = .ok (.iload_n 1, 1) := by decide +kernel
theorem dX1_put_15 : decode cX1_put 15 = .ok (.iload_n 2, 1) := by decide +kernel
theorem dX1_put_16 : decode cX1_put 16 = .ok (.iastore, 1) := by decide +kernel
theorem dX1_put_17 : decode cX1_put 17 = .ok (.aload_n 0, 1) := by decide +kernel
theorem dX1_put_18 : decode cX1_put 18 = .ok (.getfield 15, 3) := by decide +kernel
theorem dX1_put_21 : decode cX1_put 21 = .ok (.iload_n 1, 1) := by decide +kernel
theorem dX1_put_22 : decode cX1_put 22 = .ok (.iload_n 3, 1) := by decide +kernel
theorem dX1_put_23 : decode cX1_put 23 = .ok (.iastore, 1) := by decide +kernel
theorem dX1_put_24 : decode cX1_put 24 = .ok (.aload_n 0, 1) := by decide +kernel
theorem dX1_put_25 : decode cX1_put 25 = .ok (.getfield 18, 3) := by decide +kernel
theorem dX1_put_28 : decode cX1_put 28 = .ok (.iload_n 1, 1) := by decide +kernel
theorem dX1_put_29 : decode cX1_put 29 = .ok (.iload 4, 2) := by decide +kernel
theorem dX1_put_31 : decode cX1_put 31 = .ok (.iastore, 1) := by decide +kernel
theorem dX1_put_32 : decode cX1_put 32 = .ok (.return_, 1) := by decide +kernel
theorem dX1_volumeAt_0 : decode cX1_volumeAt 0 = .ok (.iload_n 1, 1) := by decide +kernel
theorem dX1_volumeAt_1 : decode cX1_volumeAt 1 = .ok (.ifCond .lt 20, 3) := by decide +kernel
theorem dX1_volumeAt_4 : decode cX1_volumeAt 4 = .ok (.iload_n 1, 1) := by decide +kernel
theorem dX1_volumeAt_5 : decode cX1_volumeAt 5 = .ok (.aload_n 0, 1) := by decide +kernel
theorem dX1_volumeAt_6 : decode cX1_volumeAt 6 = .ok (.getfield 21, 3) := by decide +kernel
theorem dX1_volumeAt_9 : decode cX1_volumeAt 9 = .ok (.if_icmp .ge 12, 3) := by decide +kernel
theorem dX1_volumeAt_12 : decode cX1_volumeAt 12 = .ok (.aload_n 0, 1) := by decide +kernel
theorem dX1_volumeAt_13 : decode cX1_volumeAt 13 = .ok (.getfield 9, 3) := by decide +kernel
theorem dX1_volumeAt_16 : decode cX1_volumeAt 16 = .ok (.iload_n 1, 1) := by decide +kernel
theorem dX1_volumeAt_17 : decode cX1_volumeAt 17 = .ok (.iaload, 1) := by decide +kernel
theorem dX1_volumeAt_18 : decode cX1_volumeAt 18 = .ok (.goto 4, 3) := by decide +kernel
theorem dX1_volumeAt_21 : decode cX1_volumeAt 21 = .ok (.iconst (-1), 1) := by decide +kernel
theorem dX1_volumeAt_22 : decode cX1_volumeAt 22 = .ok (.ireturn, 1) := by decide +kernel
theorem dX1_wordAt_0 : decode cX1_wordAt 0 = .ok (.iload_n 1, 1) := by decide +kernel
theorem dX1_wordAt_1 : decode cX1_wordAt 1 = .ok (.ifCond .lt 20, 3) := by decide +kernel
theorem dX1_wordAt_4 : decode cX1_wordAt 4 = .ok (.iload_n 1, 1) := by decide +kernel
theorem dX1_wordAt_5 : decode cX1_wordAt 5 = .ok (.aload_n 0, 1) := by decide +kernel
theorem dX1_wordAt_6 : decode cX1_wordAt 6 = .ok (.getfield 21, 3) := by decide +kernel
theorem dX1_wordAt_9 : decode cX1_wordAt 9 = .ok (.if_icmp .ge 12, 3) := by decide +kernel
theorem dX1_wordAt_12 : decode cX1_wordAt 12 = .ok (.aload_n 0, 1) := by decide +kernel
theorem dX1_wordAt_13 : decode cX1_wordAt 13 = .ok (.getfield 15, 3) := by decide +kernel
theorem dX1_wordAt_16 : decode cX1_wordAt 16 = .ok (.iload_n 1, 1) := by decide +kernel
theorem dX1_wordAt_17 : decode cX1_wordAt 17 = .ok (.iaload, 1) := by decide +kernel
theorem dX1_wordAt_18 : decode cX1_wordAt 18 = .ok (.goto 4, 3) := by decide +kernel
theorem dX1_wordAt_21 : decode cX1_wordAt 21 = .ok (.iconst 0, 1) := by decide +kernel
theorem dX1_wordAt_22 : decode cX1_wordAt 22 = .ok (.ireturn, 1) := by decide +kernel
theorem dX1_valueAt_0 : decode cX1_valueAt 0 = .ok (.iload_n 1, 1) := by decide +kernel
theorem dX1_valueAt_1 : decode cX1_valueAt 1 = .ok (.ifCond .lt 20, 3) := by decide +kernel
theorem dX1_valueAt_4 : decode cX1_valueAt 4 = .ok (.iload_n 1, 1) := by decide +kernel
theorem dX1_valueAt_5 : decode cX1_valueAt 5 = .ok (.aload_n 0, 1) := by decide +kernel
theorem dX1_valueAt_6 : decode cX1_valueAt 6 = .ok (.getfield 21, 3) := by decide +kernel
theorem dX1_valueAt_9 : decode cX1_valueAt 9 = .ok (.if_icmp .ge 12, 3) := by decide +kernel
theorem dX1_valueAt_12 : decode cX1_valueAt 12 = .ok (.aload_n 0, 1) := by decide +kernel
theorem dX1_valueAt_13 : decode cX1_valueAt 13 = .ok (.getfield 18, 3) := by decide +kernel
theorem dX1_valueAt_16 : decode cX1_valueAt 16 = .ok (.iload_n 1, 1) := by decide +kernel
theorem dX1_valueAt_17 : decode cX1_valueAt 17 = .ok (.iaload, 1) := by decide +kernel
theorem dX1_valueAt_18 : decode cX1_valueAt 18 = .ok (.goto 4, 3) := by decide +kernel
theorem dX1_valueAt_21 : decode cX1_valueAt 21 = .ok (.iconst 0, 1) := by decide +kernel
theorem dX1_valueAt_22 : decode cX1_valueAt 22 = .ok (.ireturn, 1) := by decide +kernel
theorem dX1_waitsIn_0 : decode cX1_waitsIn 0 = .ok (.iconst 0, 1) := by decide +kernel
theorem dX1_waitsIn_1 : decode cX1_waitsIn 1 = .ok (.istore 4, 2) := by decide +kernel
theorem dX1_waitsIn_3 : decode cX1_waitsIn 3 = .ok (.iload 4, 2) := by decide +kernel
theorem dX1_waitsIn_5 : decode cX1_waitsIn 5 = .ok (.aload_n 0, 1) := by decide +kernel
theorem dX1_waitsIn_6 : decode cX1_waitsIn 6 = .ok (.getfield 21, 3) := by decide +kernel
theorem dX1_waitsIn_9 : decode cX1_waitsIn 9 = .ok (.if_icmp .ge 43, 3) := by decide +kernel
theorem dX1_waitsIn_12 : decode cX1_waitsIn 12 = .ok (.aload_n 0, 1) := by decide +kernel
theorem dX1_waitsIn_13 : decode cX1_waitsIn 13 = .ok (.iload 4, 2) := by decide +kernel
theorem dX1_waitsIn_15 : decode cX1_waitsIn 15 = .ok (.invokevirtual 29, 3) := by decide +kernel
theorem dX1_waitsIn_18 : decode cX1_waitsIn 18 = .ok (.iconst 4, 1) := by decide +kernel
theorem dX1_waitsIn_19 : decode cX1_waitsIn 19 = .ok (.idiv, 1) := by decide +kernel
theorem dX1_waitsIn_20 : decode cX1_waitsIn 20 = .ok (.istore 5, 2) := by decide +kernel
theorem dX1_waitsIn_22 : decode cX1_waitsIn 22 = .ok (.aload_n 0, 1) := by decide +kernel
theorem dX1_waitsIn_23 : decode cX1_waitsIn 23 = .ok (.iload 4, 2) := by decide +kernel
theorem dX1_waitsIn_25 : decode cX1_waitsIn 25 = .ok (.invokevirtual 33, 3) := by decide +kernel
theorem dX1_waitsIn_28 : decode cX1_waitsIn 28 = .ok (.iload_n 1, 1) := by decide +kernel
theorem dX1_waitsIn_29 : decode cX1_waitsIn 29 = .ok (.if_icmp .ne 17, 3) := by decide +kernel
theorem dX1_waitsIn_32 : decode cX1_waitsIn 32 = .ok (.iload 5, 2) := by decide +kernel
theorem dX1_waitsIn_34 : decode cX1_waitsIn 34 = .ok (.iload_n 2, 1) := by decide +kernel
theorem dX1_waitsIn_35 : decode cX1_waitsIn 35 = .ok (.if_icmp .lt 11, 3) := by decide +kernel
theorem dX1_waitsIn_38 : decode cX1_waitsIn 38 = .ok (.iload 5, 2) := by decide +kernel
theorem dX1_waitsIn_40 : decode cX1_waitsIn 40 = .ok (.iload_n 3, 1) := by decide +kernel
theorem dX1_waitsIn_41 : decode cX1_waitsIn 41 = .ok (.if_icmp .ge 5, 3) := by decide +kernel
theorem dX1_waitsIn_44 : decode cX1_waitsIn 44 = .ok (.iconst 1, 1) := by decide +kernel
theorem dX1_waitsIn_45 : decode cX1_waitsIn 45 = .ok (.ireturn, 1) := by decide +kernel
theorem dX1_waitsIn_46 : decode cX1_waitsIn 46 = .ok (.iinc 4 1, 3) := by decide +kernel
theorem dX1_waitsIn_49 : decode cX1_waitsIn 49 = .ok (.goto (-46), 3) := by decide +kernel
theorem dX1_waitsIn_52 : decode cX1_waitsIn 52 = .ok (.iconst 0, 1) := by decide +kernel
theorem dX1_waitsIn_53 : decode cX1_waitsIn 53 = .ok (.ireturn, 1) := by decide +kernel
theorem dX1_countOf_0 : decode cX1_countOf 0 = .ok (.iconst 0, 1) := by decide +kernel
theorem dX1_countOf_1 : decode cX1_countOf 1 = .ok (.istore_n 2, 1) := by decide +kernel
theorem dX1_countOf_2 : decode cX1_countOf 2 = .ok (.iconst 0, 1) := by decide +kernel
theorem dX1_countOf_3 : decode cX1_countOf 3 = .ok (.istore_n 3, 1) := by decide +kernel
theorem dX1_countOf_4 : decode cX1_countOf 4 = .ok (.iload_n 3, 1) := by decide +kernel
theorem dX1_countOf_5 : decode cX1_countOf 5 = .ok (.aload_n 0, 1) := by decide +kernel
theorem dX1_countOf_6 : decode cX1_countOf 6 = .ok (.getfield 21, 3) := by decide +kernel
theorem dX1_countOf_9 : decode cX1_countOf 9 = .ok (.if_icmp .ge 21, 3) := by decide +kernel
theorem dX1_countOf_12 : decode cX1_countOf 12 = .ok (.aload_n 0, 1) := by decide +kernel
theorem dX1_countOf_13 : decode cX1_countOf 13 = .ok (.iload_n 3, 1) := by decide +kernel
theorem dX1_countOf_14 : decode cX1_countOf 14 = .ok (.invokevirtual 33, 3) := by decide +kernel
theorem dX1_countOf_17 : decode cX1_countOf 17 = .ok (.iload_n 1, 1) := by decide +kernel
theorem dX1_countOf_18 : decode cX1_countOf 18 = .ok (.if_icmp .ne 6, 3) := by decide +kernel
theorem dX1_countOf_21 : decode cX1_countOf 21 = .ok (.iinc 2 1, 3) := by decide +kernel
theorem dX1_countOf_24 : decode cX1_countOf 24 = .ok (.iinc 3 1, 3) := by decide +kernel
theorem dX1_countOf_27 : decode cX1_countOf 27 = .ok (.goto (-23), 3) := by decide +kernel
theorem dX1_countOf_30 : decode cX1_countOf 30 = .ok (.iload_n 2, 1) := by decide +kernel
theorem dX1_countOf_31 : decode cX1_countOf 31 = .ok (.ireturn, 1) := by decide +kernel
theorem dX1_removeFirst_0 : decode cX1_removeFirst 0 = .ok (.iconst 1, 1) := by decide +kernel
theorem dX1_removeFirst_1 : decode cX1_removeFirst 1 = .ok (.istore_n 1, 1) := by decide +kernel
theorem dX1_removeFirst_2 : decode cX1_removeFirst 2 = .ok (.iload_n 1, 1) := by decide +kernel
theorem dX1_removeFirst_3 : decode cX1_removeFirst 3 = .ok (.aload_n 0, 1) := by decide +kernel
theorem dX1_removeFirst_4 : decode cX1_removeFirst 4 = .ok (.getfield 21, 3) := by decide +kernel
theorem dX1_removeFirst_7 : decode cX1_removeFirst 7 = .ok (.if_icmp .ge 31, 3) := by decide +kernel
theorem dX1_removeFirst_10 : decode cX1_removeFirst 10 = .ok (.aload_n 0, 1) := by decide +kernel
theorem dX1_removeFirst_11 : decode cX1_removeFirst 11 = .ok (.iload_n 1, 1) := by decide +kernel
theorem dX1_removeFirst_12 : decode cX1_removeFirst 12 = .ok (.iconst 1, 1) := by decide +kernel
theorem dX1_removeFirst_13 : decode cX1_removeFirst 13 = .ok (.isub, 1) := by decide +kernel
theorem dX1_removeFirst_14 : decode cX1_removeFirst 14 = .ok (.aload_n 0, 1) := by decide +kernel
theorem dX1_removeFirst_15 : decode cX1_removeFirst 15 = .ok (.iload_n 1, 1) := by decide +kernel
theorem dX1_removeFirst_16 : decode cX1_removeFirst 16 = .ok (.invokevirtual 33, 3) := by decide +kernel
theorem dX1_removeFirst_19 : decode cX1_removeFirst 19 = .ok (.aload_n 0, 1) := by decide +kernel
theorem dX1_removeFirst_20 : decode cX1_removeFirst 20 = .ok (.iload_n 1, 1) := by decide +kernel
theorem dX1_removeFirst_21 : decode cX1_removeFirst 21 = .ok (.invokevirtual 29, 3) := by decide +kernel
theorem dX1_removeFirst_24 : decode cX1_removeFirst 24 = .ok (.aload_n 0, 1) := by decide +kernel
theorem dX1_removeFirst_25 : decode cX1_removeFirst 25 = .ok (.iload_n 1, 1) := by decide +kernel
theorem dX1_removeFirst_26 : decode cX1_removeFirst 26 = .ok (.invokevirtual 36, 3) := by decide +kernel
theorem dX1_removeFirst_29 : decode cX1_removeFirst 29 = .ok (.invokevirtual 25, 3) := by decide +kernel
theorem dX1_removeFirst_32 : decode cX1_removeFirst 32 = .ok (.iinc 1 1, 3) := by decide +kernel
theorem dX1_removeFirst_35 : decode cX1_removeFirst 35 = .ok (.goto (-33), 3) := by decide +kernel
theorem dX1_removeFirst_38 : decode cX1_removeFirst 38 = .ok (.aload_n 0, 1) := by decide +kernel
theorem dX1_removeFirst_39 : decode cX1_removeFirst 39 = .ok (.getfield 21, 3) := by decide +kernel
theorem dX1_removeFirst_42 : decode cX1_removeFirst 42 = .ok (.ifCond .le 13, 3) := by decide +kernel
theorem dX1_removeFirst_45 : decode cX1_removeFirst 45 = .ok (.aload_n 0, 1) := by decide +kernel
theorem dX1_removeFirst_46 : decode cX1_removeFirst 46 = .ok (.dup, 1) := by decide +kernel
theorem dX1_removeFirst_47 : decode cX1_removeFirst 47 = .ok (.getfield 21, 3) := by decide +kernel
theorem dX1_removeFirst_50 : decode cX1_removeFirst 50 = .ok (.iconst 1, 1) := by decide +kernel
theorem dX1_removeFirst_51 : decode cX1_removeFirst 51 = .ok (.isub, 1) := by decide +kernel
theorem dX1_removeFirst_52 : decode cX1_removeFirst 52 = .ok (.putfield 21, 3) := by decide +kernel
theorem dX1_removeFirst_55 : decode cX1_removeFirst 55 = .ok (.return_, 1) := by decide +kernel
theorem dX1_removeAllOf_0 : decode cX1_removeAllOf 0 = .ok (.iconst 0, 1) := by decide +kernel
theorem dX1_removeAllOf_1 : decode cX1_removeAllOf 1 = .ok (.istore_n 2, 1) := by decide +kernel
theorem dX1_removeAllOf_2 : decode cX1_removeAllOf 2 = .ok (.iconst 0, 1) := by decide +kernel
theorem dX1_removeAllOf_3 : decode cX1_removeAllOf 3 = .ok (.istore_n 3, 1) := by decide +kernel
theorem dX1_removeAllOf_4 : decode cX1_removeAllOf 4 = .ok (.iload_n 3, 1) := by decide +kernel
theorem dX1_removeAllOf_5 : decode cX1_removeAllOf 5 = .ok (.aload_n 0, 1) := by decide +kernel
theorem dX1_removeAllOf_6 : decode cX1_removeAllOf 6 = .ok (.getfield 21, 3) := by decide +kernel
theorem dX1_removeAllOf_9 : decode cX1_removeAllOf 9 = .ok (.if_icmp .ge 41, 3) := by decide +kernel
theorem dX1_removeAllOf_12 : decode cX1_removeAllOf 12 = .ok (.aload_n 0, 1) := by decide +kernel
theorem dX1_removeAllOf_13 : decode cX1_removeAllOf 13 = .ok (.iload_n 3, 1) := by decide +kernel
theorem dX1_removeAllOf_14 : decode cX1_removeAllOf 14 = .ok (.invokevirtual 33, 3) := by decide +kernel
theorem dX1_removeAllOf_17 : decode cX1_removeAllOf 17 = .ok (.iload_n 1, 1) := by decide +kernel
theorem dX1_removeAllOf_18 : decode cX1_removeAllOf 18 = .ok (.if_icmp .eq 26, 3) := by decide +kernel
theorem dX1_removeAllOf_21 : decode cX1_removeAllOf 21 = .ok (.aload_n 0, 1) := by decide +kernel
theorem dX1_removeAllOf_22 : decode cX1_removeAllOf 22 = .ok (.iload_n 2, 1) := by decide +kernel
theorem dX1_removeAllOf_23 : decode cX1_removeAllOf 23 = .ok (.aload_n 0, 1) := by decide +kernel
theorem dX1_removeAllOf_24 : decode cX1_removeAllOf 24 = .ok (.iload_n 3, 1) := by decide +kernel
theorem dX1_removeAllOf_25 : decode cX1_removeAllOf 25 = .ok (.invokevirtual 33, 3) := by decide +kernel
theorem dX1_removeAllOf_28 : decode cX1_removeAllOf 28 = .ok (.aload_n 0, 1) := by decide +kernel
theorem dX1_removeAllOf_29 : decode cX1_removeAllOf 29 = .ok (.iload_n 3, 1) := by decide +kernel
theorem dX1_removeAllOf_30 : decode cX1_removeAllOf 30 = .ok (.invokevirtual 29, 3) := by decide +kernel
theorem dX1_removeAllOf_33 : decode cX1_removeAllOf 33 = .ok (.aload_n 0, 1) := by decide +kernel
theorem dX1_removeAllOf_34 : decode cX1_removeAllOf 34 = .ok (.iload_n 3, 1) := by decide +kernel
theorem dX1_removeAllOf_35 : decode cX1_removeAllOf 35 = .ok (.invokevirtual 36, 3) := by decide +kernel
theorem dX1_removeAllOf_38 : decode cX1_removeAllOf 38 = .ok (.invokevirtual 25, 3) := by decide +kernel
theorem dX1_removeAllOf_41 : decode cX1_removeAllOf 41 = .ok (.iinc 2 1, 3) := by decide +kernel
theorem dX1_removeAllOf_44 : decode cX1_removeAllOf 44 = .ok (.iinc 3 1, 3) := by decide +kernel
theorem dX1_removeAllOf_47 : decode cX1_removeAllOf 47 = .ok (.goto (-43), 3) := by decide +kernel
theorem dX1_removeAllOf_50 : decode cX1_removeAllOf 50 = .ok (.aload_n 0, 1) := by decide +kernel
theorem dX1_removeAllOf_51 : decode cX1_removeAllOf 51 = .ok (.getfield 21, 3) := by decide +kernel
theorem dX1_removeAllOf_54 : decode cX1_removeAllOf 54 = .ok (.iload_n 2, 1) := by decide +kernel
theorem dX1_removeAllOf_55 : decode cX1_removeAllOf 55 = .ok (.isub, 1) := by decide +kernel
theorem dX1_removeAllOf_56 : decode cX1_removeAllOf 56 = .ok (.istore_n 3, 1) := by decide +kernel
theorem dX1_removeAllOf_57 : decode cX1_removeAllOf 57 = .ok (.aload_n 0, 1) := by decide +kernel
theorem dX1_removeAllOf_58 : decode cX1_removeAllOf 58 = .ok (.iload_n 2, 1) := by decide +kernel
theorem dX1_removeAllOf_59 : decode cX1_removeAllOf 59 = .ok (.putfield 21, 3) := by decide +kernel
theorem dX1_removeAllOf_62 : decode cX1_removeAllOf 62 = .ok (.iload_n 3, 1) := by decide +kernel
theorem dX1_removeAllOf_63 : decode cX1_removeAllOf 63 = .ok (.ireturn, 1) := by decide +kernel
theorem dX1_removeAll_0 : decode cX1_removeAll 0 = .ok (.aload_n 0, 1) := by decide +kernel
theorem dX1_removeAll_1 : decode cX1_removeAll 1 = .ok (.getfield 21, 3) := by decide +kernel
theorem dX1_removeAll_4 : decode cX1_removeAll 4 = .ok (.istore_n 1, 1) := by decide +kernel
theorem dX1_removeAll_5 : decode cX1_removeAll 5 = .ok (.aload_n 0, 1) := by decide +kernel
theorem dX1_removeAll_6 : decode cX1_removeAll 6 = .ok (.iconst 0, 1) := by decide +kernel
theorem dX1_removeAll_7 : decode cX1_removeAll 7 = .ok (.putfield 21, 3) := by decide +kernel
theorem dX1_removeAll_10 : decode cX1_removeAll 10 = .ok (.iload_n 1, 1) := by decide +kernel
theorem dX1_removeAll_11 : decode cX1_removeAll 11 = .ok (.ireturn, 1) := by decide +kernel
theorem dX2_init_0 : decode cX2_init 0 = .ok (.aload_n 0, 1) := by decide +kernel
theorem dX2_init_1 : decode cX2_init 1 = .ok (.invokespecial 3, 3) := by decide +kernel
theorem dX2_init_4 : decode cX2_init 4 = .ok (.aload_n 0, 1) := by decide +kernel
theorem dX2_init_5 : decode cX2_init 5 = .ok (.bipush 16, 2) := by decide +kernel
theorem dX2_init_7 : decode cX2_init 7 = .ok (.anewarray 9, 3) := by decide +kernel
theorem dX2_init_10 : decode cX2_init 10 = .ok (.putfield 11, 3) := by decide +kernel
theorem dX2_init_13 : decode cX2_init 13 = .ok (.iconst 0, 1) := by decide +kernel
theorem dX2_init_14 : decode cX2_init 14 = .ok (.istore_n 1, 1) := by decide +kernel
theorem dX2_init_15 : decode cX2_init 15 = .ok (.iload_n 1, 1) := by decide +kernel
theorem dX2_init_16 : decode cX2_init 16 = .ok (.bipush 16, 2) := by decide +kernel
theorem dX2_init_18 : decode cX2_init 18 = .ok (.if_icmp .ge 22, 3) := by decide +kernel
theorem dX2_init_21 : decode cX2_init 21 = .ok (.aload_n 0, 1) := by decide +kernel
theorem dX2_init_22 : decode cX2_init 22 = .ok (.getfield 11, 3) := by decide +kernel
theorem dX2_init_25 : decode cX2_init 25 = .ok (.iload_n 1, 1) := by decide +kernel
theorem dX2_init_26 : decode cX2_init 26 = .ok (.new 9, 3) := by decide +kernel
theorem dX2_init_29 : decode cX2_init 29 = .ok (.dup, 1) := by decide +kernel
theorem dX2_init_30 : decode cX2_init 30 = .ok (.invokespecial 17, 3) := by decide +kernel
theorem dX2_init_33 : decode cX2_init 33 = .ok (.aastore, 1) := by decide +kernel
theorem dX2_init_34 : decode cX2_init 34 = .ok (.iinc 1 1, 3) := by decide +kernel
theorem dX2_init_37 : decode cX2_init 37 = .ok (.goto (-22), 3) := by decide +kernel
theorem dX2_init_40 : decode cX2_init 40 = .ok (.aload_n 0, 1) := by decide +kernel
theorem dX2_init_41 : decode cX2_init 41 = .ok (.bipush 96, 2) := by decide +kernel
theorem dX2_init_43 : decode cX2_init 43 = .ok (.newarray .int, 2) := by decide +kernel
theorem dX2_init_45 : decode cX2_init 45 = .ok (.putfield 18, 3) := by decide +kernel
theorem dX2_init_48 : decode cX2_init 48 = .ok (.return_, 1) := by decide +kernel
theorem dX2_slot_0 : decode cX2_slot 0 = .ok (.iload_n 1, 1) := by decide +kernel
theorem dX2_slot_1 : decode cX2_slot 1 = .ok (.ifCond .lt 21, 3) := by decide +kernel
theorem dX2_slot_4 : decode cX2_slot 4 = .ok (.iload_n 1, 1) := by decide +kernel
theorem dX2_slot_5 : decode cX2_slot 5 = .ok (.aload_n 0, 1) := by decide +kernel
theorem dX2_slot_6 : decode cX2_slot 6 = .ok (.getfield 11, 3) := by decide +kernel
theorem dX2_slot_9 : decode cX2_slot 9 = .ok (.arraylength, 1) := by decide +kernel
theorem dX2_slot_10 : decode cX2_slot 10 = .ok (.if_icmp .ge 12, 3) := by decide +kernel
theorem dX2_slot_13 : decode cX2_slot 13 = .ok (.aload_n 0, 1) := by decide +kernel
theorem dX2_slot_14 : decode cX2_slot 14 = .ok (.getfield 11, 3) := by decide +kernel
theorem dX2_slot_17 : decode cX2_slot 17 = .ok (.iload_n 1, 1) := by decide +kernel
theorem dX2_slot_18 : decode cX2_slot 18 = .ok (.aaload, 1) := by decide +kernel
theorem dX2_slot_19 : decode cX2_slot 19 = .ok (.goto 4, 3) := by decide +kernel
theorem dX2_slot_22 : decode cX2_slot 22 = .ok (.aconst_null, 1) := by decide +kernel
theorem dX2_slot_23 : decode cX2_slot 23 = .ok (.areturn, 1) := by decide +kernel
theorem dX2_find_0 : decode cX2_find 0 = .ok (.aload_n 0, 1) := by decide +kernel
theorem dX2_find_1 : decode cX2_find 1 = .ok (.iload_n 1, 1) := by decide +kernel
theorem dX2_find_2 : decode cX2_find 2 = .ok (.invokevirtual 22, 3) := by decide +kernel
theorem dX2_find_5 : decode cX2_find 5 = .ok (.astore_n 2, 1) := by decide +kernel
theorem dX2_find_6 : decode cX2_find 6 = .ok (.aload_n 2, 1) := by decide +kernel
theorem dX2_find_7 : decode cX2_find 7 = .ok (.ifnull 14, 3) := by decide +kernel
theorem dX2_find_10 : decode cX2_find 10 = .ok (.aload_n 2, 1) := by decide +kernel
theorem dX2_find_11 : decode cX2_find 11 = .ok (.getfield 26, 3) := by decide +kernel
theorem dX2_find_14 : decode cX2_find 14 = .ok (.ifCond .eq 7, 3) := by decide +kernel
theorem dX2_find_17 : decode cX2_find 17 = .ok (.aload_n 2, 1) := by decide +kernel
theorem dX2_find_18 : decode cX2_find 18 = .ok (.goto 4, 3) := by decide +kernel
theorem dX2_find_21 : decode cX2_find 21 = .ok (.aconst_null, 1) := by decide +kernel
theorem dX2_find_22 : decode cX2_find 22 = .ok (.areturn, 1) := by decide +kernel
theorem dX2_add_0 : decode cX2_add 0 = .ok (.aload_n 1, 1) := by decide +kernel
theorem dX2_add_1 : decode cX2_add 1 = .ok (.iconst 1, 1) := by decide +kernel
theorem dX2_add_2 : decode cX2_add 2 = .ok (.putfield 26, 3) := by decide +kernel
theorem dX2_add_5 : decode cX2_add 5 = .ok (.aload_n 1, 1) := by decide +kernel
theorem dX2_add_6 : decode cX2_add 6 = .ok (.iload_n 2, 1) := by decide +kernel
theorem dX2_add_7 : decode cX2_add 7 = .ok (.putfield 30, 3) := by decide +kernel
theorem dX2_add_10 : decode cX2_add 10 = .ok (.aload_n 1, 1) := by decide +kernel
theorem dX2_add_11 : decode cX2_add 11 = .ok (.iload_n 3, 1) := by decide +kernel
theorem dX2_add_12 : decode cX2_add 12 = .ok (.putfield 34, 3) := by decide +kernel
theorem dX2_add_15 : decode cX2_add 15 = .ok (.aload_n 1, 1) := by decide +kernel
theorem dX2_add_16 : decode cX2_add 16 = .ok (.iload 4, 2) := by decide +kernel
theorem dX2_add_18 : decode cX2_add 18 = .ok (.putfield 37, 3) := by decide +kernel
theorem dX2_add_21 : decode cX2_add 21 = .ok (.aload_n 1, 1) := by decide +kernel
theorem dX2_add_22 : decode cX2_add 22 = .ok (.iload 5, 2) := by decide +kernel
theorem dX2_add_24 : decode cX2_add 24 = .ok (.putfield 40, 3) := by decide +kernel
theorem dX2_add_27 : decode cX2_add 27 = .ok (.aload_n 0, 1) := by decide +kernel
theorem dX2_add_28 : decode cX2_add 28 = .ok (.dup, 1) := by decide +kernel
theorem dX2_add_29 : decode cX2_add 29 = .ok (.getfield 43, 3) := by decide +kernel
theorem dX2_add_32 : decode cX2_add 32 = .ok (.iconst 1, 1) := by decide +kernel
theorem dX2_add_33 : decode cX2_add 33 = .ok (.iadd, 1) := by decide +kernel
theorem dX2_add_34 : decode cX2_add 34 = .ok (.putfield 43, 3) := by decide +kernel
theorem dX2_add_37 : decode cX2_add 37 = .ok (.return_, 1) := by decide +kernel
theorem dX2_remove_0 : decode cX2_remove 0 = .ok (.aload_n 1, 1) := by decide +kernel
theorem dX2_remove_1 : decode cX2_remove 1 = .ok (.invokevirtual 46, 3) := by decide +kernel
theorem dX2_remove_4 : decode cX2_remove 4 = .ok (.aload_n 0, 1) := by decide +kernel
theorem dX2_remove_5 : decode cX2_remove 5 = .ok (.dup, 1) := by decide +kernel
theorem dX2_remove_6 : decode cX2_remove 6 = .ok (.getfield 43, 3) := by decide +kernel
theorem dX2_remove_9 : decode cX2_remove 9 = .ok (.iconst 1, 1) := by decide +kernel
theorem dX2_remove_10 : decode cX2_remove 10 = .ok (.isub, 1) := by decide +kernel
theorem dX2_remove_11 : decode cX2_remove 11 = .ok (.putfield 43, 3) := by decide +kernel
theorem dX2_remove_14 : decode cX2_remove 14 = .ok (.return_, 1) := by decide +kernel
theorem dX2_usesOf_0 : decode cX2_usesOf 0 = .ok (.iload_n 1, 1) := by decide +kernel
theorem dX2_usesOf_1 : decode cX2_usesOf 1 = .ok (.ifCond .lt 21, 3) := by decide +kernel
theorem dX2_usesOf_4 : decode cX2_usesOf 4 = .ok (.iload_n 1, 1) := by decide +kernel
theorem dX2_usesOf_5 : decode cX2_usesOf 5 = .ok (.aload_n 0, 1) := by decide +kernel
theorem dX2_usesOf_6 : decode cX2_usesOf 6 = .ok (.getfield 18, 3) := by decide +kernel
theorem dX2_usesOf_9 : decode cX2_usesOf 9 = .ok (.arraylength, 1) := by decide +kernel
theorem dX2_usesOf_10 : decode cX2_usesOf 10 = .ok (.if_icmp .ge 12, 3) := by decide +kernel
theorem dX2_usesOf_13 : decode cX2_usesOf 13 = .ok (.aload_n 0, 1) := by decide +kernel
theorem dX2_usesOf_14 : decode cX2_usesOf 14 = .ok (.getfield 18, 3) := by decide +kernel
theorem dX2_usesOf_17 : decode cX2_usesOf 17 = .ok (.iload_n 1, 1) := by decide +kernel
theorem dX2_usesOf_18 : decode cX2_usesOf 18 = .ok (.iaload, 1) := by decide +kernel
theorem dX2_usesOf_19 : decode cX2_usesOf 19 = .ok (.goto 4, 3) := by decide +kernel
theorem dX2_usesOf_22 : decode cX2_usesOf 22 = .ok (.iconst 0, 1) := by decide +kernel
theorem dX2_usesOf_23 : decode cX2_usesOf 23 = .ok (.ireturn, 1) := by decide +kernel
theorem dX2_setExtent_0 : decode cX2_setExtent 0 = .ok (.aload_n 1, 1) := by decide +kernel
theorem dX2_setExtent_1 : decode cX2_setExtent 1 = .ok (.iload_n 2, 1) := by decide +kernel
theorem dX2_setExtent_2 : decode cX2_setExtent 2 = .ok (.invokevirtual 49, 3) := by decide +kernel
theorem dX2_setExtent_5 : decode cX2_setExtent 5 = .ok (.istore 4, 2) := by decide +kernel
theorem dX2_setExtent_7 : decode cX2_setExtent 7 = .ok (.iload 4, 2) := by decide +kernel
theorem dX2_setExtent_9 : decode cX2_setExtent 9 = .ok (.ifCond .lt 34, 3) := by decide +kernel
theorem dX2_setExtent_12 : decode cX2_setExtent 12 = .ok (.iload 4, 2) := by decide +kernel
theorem dX2_setExtent_14 : decode cX2_setExtent 14 = .ok (.aload_n 0, 1) := by decide +kernel
theorem dX2_setExtent_15 : decode cX2_setExtent 15 = .ok (.getfield 18, 3) := by decide +kernel
theorem dX2_setExtent_18 : decode cX2_setExtent 18 = .ok (.arraylength, 1) := by decide +kernel
theorem dX2_setExtent_19 : decode cX2_setExtent 19 = .ok (.if_icmp .ge 24, 3) := by decide +kernel
theorem dX2_setExtent_22 : decode cX2_setExtent 22 = .ok (.aload_n 0, 1) := by decide +kernel
theorem dX2_setExtent_23 : decode cX2_setExtent 23 = .ok (.getfield 18, 3) := by decide +kernel
theorem dX2_setExtent_26 : decode cX2_setExtent 26 = .ok (.iload 4, 2) := by decide +kernel
theorem dX2_setExtent_28 : decode cX2_setExtent 28 = .ok (.dup2, 1) := by decide +kernel
theorem dX2_setExtent_29 : decode cX2_setExtent 29 = .ok (.iaload, 1) := by decide +kernel
theorem dX2_setExtent_30 : decode cX2_setExtent 30 = .ok (.iconst 1, 1) := by decide +kernel
theorem dX2_setExtent_31 : decode cX2_setExtent 31 = .ok (.isub, 1) := by decide +kernel
theorem dX2_setExtent_32 : decode cX2_setExtent 32 = .ok (.iastore, 1) := by decide +kernel
theorem dX2_setExtent_33 : decode cX2_setExtent 33 = .ok (.aload_n 1, 1) := by decide +kernel
theorem dX2_setExtent_34 : decode cX2_setExtent 34 = .ok (.dup, 1) := by decide +kernel
theorem dX2_setExtent_35 : decode cX2_setExtent 35 = .ok (.getfield 53, 3) := by decide +kernel
theorem dX2_setExtent_38 : decode cX2_setExtent 38 = .ok (.iconst 1, 1) := by decide +kernel
theorem dX2_setExtent_39 : decode cX2_setExtent 39 = .ok (.isub, 1) := by decide +kernel
theorem dX2_setExtent_40 : decode cX2_setExtent 40 = .ok (.putfield 53, 3) := by decide +kernel
theorem dX2_setExtent_43 : decode cX2_setExtent 43 = .ok (.iload_n 3, 1) := by decide +kernel
theorem dX2_setExtent_44 : decode cX2_setExtent 44 = .ok (.ifCond .lt 32, 3) := by decide +kernel
theorem dX2_setExtent_47 : decode cX2_setExtent 47 = .ok (.iload_n 3, 1) := by decide +kernel
theorem dX2_setExtent_48 : decode cX2_setExtent 48 = .ok (.aload_n 0, 1) := by decide +kernel
theorem dX2_setExtent_49 : decode cX2_setExtent 49 = .ok (.getfield 18, 3) := by decide +kernel
theorem dX2_setExtent_52 : decode cX2_setExtent 52 = .ok (.arraylength, 1) := by decide +kernel
theorem dX2_setExtent_53 : decode cX2_setExtent 53 = .ok (.if_icmp .ge 23, 3) := by decide +kernel
theorem dX2_setExtent_56 : decode cX2_setExtent 56 = .ok (.aload_n 0, 1) := by decide +kernel
theorem dX2_setExtent_57 : decode cX2_setExtent 57 = .ok (.getfield 18, 3) := by decide +kernel
theorem dX2_setExtent_60 : decode cX2_setExtent 60 = .ok (.iload_n 3, 1) := by decide +kernel
theorem dX2_setExtent_61 : decode cX2_setExtent 61 = .ok (.dup2, 1) := by decide +kernel
theorem dX2_setExtent_62 : decode cX2_setExtent 62 = .ok (.iaload, 1) := by decide +kernel
theorem dX2_setExtent_63 : decode cX2_setExtent 63 = .ok (.iconst 1, 1) := by decide +kernel
theorem dX2_setExtent_64 : decode cX2_setExtent 64 = .ok (.iadd, 1) := by decide +kernel
theorem dX2_setExtent_65 : decode cX2_setExtent 65 = .ok (.iastore, 1) := by decide +kernel
theorem dX2_setExtent_66 : decode cX2_setExtent 66 = .ok (.aload_n 1, 1) := by decide +kernel
theorem dX2_setExtent_67 : decode cX2_setExtent 67 = .ok (.dup, 1) := by decide +kernel
theorem dX2_setExtent_68 : decode cX2_setExtent 68 = .ok (.getfield 53, 3) := by decide +kernel
theorem dX2_setExtent_71 : decode cX2_setExtent 71 = .ok (.iconst 1, 1) := by decide +kernel
theorem dX2_setExtent_72 : decode cX2_setExtent 72 = .ok (.iadd, 1) := by decide +kernel
theorem dX2_setExtent_73 : decode cX2_setExtent 73 = .ok (.putfield 53, 3) := by decide +kernel
theorem dX2_setExtent_76 : decode cX2_setExtent 76 = .ok (.aload_n 1, 1) := by decide +kernel
theorem dX2_setExtent_77 : decode cX2_setExtent 77 = .ok (.iload_n 2, 1) := by decide +kernel
theorem dX2_setExtent_78 : decode cX2_setExtent 78 = .ok (.iload_n 3, 1) := by decide +kernel
theorem dX2_setExtent_79 : decode cX2_setExtent 79 = .ok (.invokevirtual 56, 3) := by decide +kernel
theorem dX2_setExtent_82 : decode cX2_setExtent 82 = .ok (.return_, 1) := by decide +kernel
theorem dX2_unmap_0 : decode cX2_unmap 0 = .ok (.aload_n 1, 1) := by decide +kernel
theorem dX2_unmap_1 : decode cX2_unmap 1 = .ok (.getfield 53, 3) := by decide +kernel
theorem dX2_unmap_4 : decode cX2_unmap 4 = .ok (.istore 4, 2) := by decide +kernel
theorem dX2_unmap_6 : decode cX2_unmap 6 = .ok (.iload_n 2, 1) := by decide +kernel
theorem dX2_unmap_7 : decode cX2_unmap 7 = .ok (.istore 5, 2) := by decide +kernel
theorem dX2_unmap_9 : decode cX2_unmap 9 = .ok (.iload 5, 2) := by decide +kernel
theorem dX2_unmap_11 : decode cX2_unmap 11 = .ok (.iload_n 3, 1) := by decide +kernel
theorem dX2_unmap_12 : decode cX2_unmap 12 = .ok (.if_icmp .ge 17, 3) := by decide +kernel
theorem dX2_unmap_15 : decode cX2_unmap 15 = .ok (.aload_n 0, 1) := by decide +kernel
theorem dX2_unmap_16 : decode cX2_unmap 16 = .ok (.aload_n 1, 1) := by decide +kernel
theorem dX2_unmap_17 : decode cX2_unmap 17 = .ok (.iload 5, 2) := by decide +kernel
theorem dX2_unmap_19 : decode cX2_unmap 19 = .ok (.iconst (-1), 1) := by decide +kernel
theorem dX2_unmap_20 : decode cX2_unmap 20 = .ok (.invokevirtual 60, 3) := by decide +kernel
theorem dX2_unmap_23 : decode cX2_unmap 23 = .ok (.iinc 5 1, 3) := by decide +kernel
theorem dX2_unmap_26 : decode cX2_unmap 26 = .ok (.goto (-17), 3) := by decide +kernel
theorem dX2_unmap_29 : decode cX2_unmap 29 = .ok (.iload 4, 2) := by decide +kernel
theorem dX2_unmap_31 : decode cX2_unmap 31 = .ok (.aload_n 1, 1) := by decide +kernel
theorem dX2_unmap_32 : decode cX2_unmap 32 = .ok (.getfield 53, 3) := by decide +kernel
theorem dX2_unmap_35 : decode cX2_unmap 35 = .ok (.isub, 1) := by decide +kernel
theorem dX2_unmap_36 : decode cX2_unmap 36 = .ok (.ireturn, 1) := by decide +kernel
theorem dX2_userOf_0 : decode cX2_userOf 0 = .ok (.iconst 0, 1) := by decide +kernel
theorem dX2_userOf_1 : decode cX2_userOf 1 = .ok (.istore_n 3, 1) := by decide +kernel
theorem dX2_userOf_2 : decode cX2_userOf 2 = .ok (.iconst 0, 1) := by decide +kernel
theorem dX2_userOf_3 : decode cX2_userOf 3 = .ok (.istore 4, 2) := by decide +kernel
theorem dX2_userOf_5 : decode cX2_userOf 5 = .ok (.iload 4, 2) := by decide +kernel
theorem dX2_userOf_7 : decode cX2_userOf 7 = .ok (.sipush 640, 3) := by decide +kernel
theorem dX2_userOf_10 : decode cX2_userOf 10 = .ok (.if_icmp .ge 62, 3) := by decide +kernel
theorem dX2_userOf_13 : decode cX2_userOf 13 = .ok (.aload_n 0, 1) := by decide +kernel
theorem dX2_userOf_14 : decode cX2_userOf 14 = .ok (.iload 4, 2) := by decide +kernel
theorem dX2_userOf_16 : decode cX2_userOf 16 = .ok (.bipush 40, 2) := by decide +kernel
theorem dX2_userOf_18 : decode cX2_userOf 18 = .ok (.idiv, 1) := by decide +kernel
theorem dX2_userOf_19 : decode cX2_userOf 19 = .ok (.invokevirtual 22, 3) := by decide +kernel
theorem dX2_userOf_22 : decode cX2_userOf 22 = .ok (.astore 5, 2) := by decide +kernel
theorem dX2_userOf_24 : decode cX2_userOf 24 = .ok (.aload 5, 2) := by decide +kernel
theorem dX2_userOf_26 : decode cX2_userOf 26 = .ok (.ifnull 40, 3) := by decide +kernel
theorem dX2_userOf_29 : decode cX2_userOf 29 = .ok (.aload 5, 2) := by decide +kernel
theorem dX2_userOf_31 : decode cX2_userOf 31 = .ok (.iload 4, 2) := by decide +kernel
theorem dX2_userOf_33 : decode cX2_userOf 33 = .ok (.bipush 40, 2) := by decide +kernel
theorem dX2_userOf_35 : decode cX2_userOf 35 = .ok (.irem, 1) := by decide +kernel
theorem dX2_userOf_36 : decode cX2_userOf 36 = .ok (.invokevirtual 49, 3) := by decide +kernel
theorem dX2_userOf_39 : decode cX2_userOf 39 = .ok (.iload_n 1, 1) := by decide +kernel
theorem dX2_userOf_40 : decode cX2_userOf 40 = .ok (.if_icmp .ne 26, 3) := by decide +kernel
theorem dX2_userOf_43 : decode cX2_userOf 43 = .ok (.iload_n 3, 1) := by decide +kernel
theorem dX2_userOf_44 : decode cX2_userOf 44 = .ok (.iload_n 2, 1) := by decide +kernel
theorem dX2_userOf_45 : decode cX2_userOf 45 = .ok (.if_icmp .ne 18, 3) := by decide +kernel
theorem dX2_userOf_48 : decode cX2_userOf 48 = .ok (.bipush 64, 2) := by decide +kernel
theorem dX2_userOf_50 : decode cX2_userOf 50 = .ok (.iload 4, 2) := by decide +kernel
theorem dX2_userOf_52 : decode cX2_userOf 52 = .ok (.bipush 40, 2) := by decide +kernel
theorem dX2_userOf_54 : decode cX2_userOf 54 = .ok (.idiv, 1) := by decide +kernel
theorem dX2_userOf_55 : decode cX2_userOf 55 = .ok (.imul, 1) := by decide +kernel
theorem dX2_userOf_56 : decode cX2_userOf 56 = .ok (.iload 4, 2) := by decide +kernel
theorem dX2_userOf_58 : decode cX2_userOf 58 = .ok (.bipush 40, 2) := by decide +kernel
theorem dX2_userOf_60 : decode cX2_userOf 60 = .ok (.irem, 1) := by decide +kernel
theorem dX2_userOf_61 : decode cX2_userOf 61 = .ok (.iadd, 1) := by decide +kernel
theorem dX2_userOf_62 : decode cX2_userOf 62 = .ok (.ireturn, 1) := by decide +kernel
theorem dX2_userOf_63 : decode cX2_userOf 63 = .ok (.iinc 3 1, 3) := by decide +kernel
theorem dX2_userOf_66 : decode cX2_userOf 66 = .ok (.iinc 4 1, 3) := by decide +kernel
theorem dX2_userOf_69 : decode cX2_userOf 69 = .ok (.goto (-64), 3) := by decide +kernel
theorem dX2_userOf_72 : decode cX2_userOf 72 = .ok (.iconst (-1), 1) := by decide +kernel
theorem dX2_userOf_73 : decode cX2_userOf 73 = .ok (.ireturn, 1) := by decide +kernel
theorem dX2_hasBacked_0 : decode cX2_hasBacked 0 = .ok (.aload_n 0, 1) := by decide +kernel
theorem dX2_hasBacked_1 : decode cX2_hasBacked 1 = .ok (.getfield 11, 3) := by decide +kernel
theorem dX2_hasBacked_4 : decode cX2_hasBacked 4 = .ok (.astore_n 1, 1) := by decide +kernel
theorem dX2_hasBacked_5 : decode cX2_hasBacked 5 = .ok (.aload_n 1, 1) := by decide +kernel
theorem dX2_hasBacked_6 : decode cX2_hasBacked 6 = .ok (.arraylength, 1) := by decide +kernel
theorem dX2_hasBacked_7 : decode cX2_hasBacked 7 = .ok (.istore_n 2, 1) := by decide +kernel
theorem dX2_hasBacked_8 : decode cX2_hasBacked 8 = .ok (.iconst 0, 1) := by decide +kernel
theorem dX2_hasBacked_9 : decode cX2_hasBacked 9 = .ok (.istore_n 3, 1) := by decide +kernel
theorem dX2_hasBacked_10 : decode cX2_hasBacked 10 = .ok (.iload_n 3, 1) := by decide +kernel
theorem dX2_hasBacked_11 : decode cX2_hasBacked 11 = .ok (.iload_n 2, 1) := by decide +kernel
theorem dX2_hasBacked_12 : decode cX2_hasBacked 12 = .ok (.if_icmp .ge 32, 3) := by decide +kernel
theorem dX2_hasBacked_15 : decode cX2_hasBacked 15 = .ok (.aload_n 1, 1) := by decide +kernel
theorem dX2_hasBacked_16 : decode cX2_hasBacked 16 = .ok (.iload_n 3, 1) := by decide +kernel
theorem dX2_hasBacked_17 : decode cX2_hasBacked 17 = .ok (.aaload, 1) := by decide +kernel
theorem dX2_hasBacked_18 : decode cX2_hasBacked 18 = .ok (.astore 4, 2) := by decide +kernel
theorem dX2_hasBacked_20 : decode cX2_hasBacked 20 = .ok (.aload 4, 2) := by decide +kernel
theorem dX2_hasBacked_22 : decode cX2_hasBacked 22 = .ok (.getfield 26, 3) := by decide +kernel
theorem dX2_hasBacked_25 : decode cX2_hasBacked 25 = .ok (.ifCond .eq 13, 3) := by decide +kernel
theorem dX2_hasBacked_28 : decode cX2_hasBacked 28 = .ok (.aload 4, 2) := by decide +kernel
theorem dX2_hasBacked_30 : decode cX2_hasBacked 30 = .ok (.getfield 34, 3) := by decide +kernel
theorem dX2_hasBacked_33 : decode cX2_hasBacked 33 = .ok (.ifCond .eq 5, 3) := by decide +kernel
theorem dX2_hasBacked_36 : decode cX2_hasBacked 36 = .ok (.iconst 1, 1) := by decide +kernel
theorem dX2_hasBacked_37 : decode cX2_hasBacked 37 = .ok (.ireturn, 1) := by decide +kernel
theorem dX2_hasBacked_38 : decode cX2_hasBacked 38 = .ok (.iinc 3 1, 3) := by decide +kernel
theorem dX2_hasBacked_41 : decode cX2_hasBacked 41 = .ok (.goto (-31), 3) := by decide +kernel
theorem dX2_hasBacked_44 : decode cX2_hasBacked 44 = .ok (.iconst 0, 1) := by decide +kernel
theorem dX2_hasBacked_45 : decode cX2_hasBacked 45 = .ok (.ireturn, 1) := by decide +kernel
theorem dX2_copy_0 : decode cX2_copy 0 = .ok (.aload_n 0, 1) := by decide +kernel
theorem dX2_copy_1 : decode cX2_copy 1 = .ok (.aload_n 1, 1) := by decide +kernel
theorem dX2_copy_2 : decode cX2_copy 2 = .ok (.getfield 63, 3) := by decide +kernel
theorem dX2_copy_5 : decode cX2_copy 5 = .ok (.putfield 63, 3) := by decide +kernel
theorem dX2_copy_8 : decode cX2_copy 8 = .ok (.aload_n 0, 1) := by decide +kernel
theorem dX2_copy_9 : decode cX2_copy 9 = .ok (.aload_n 1, 1) := by decide +kernel
theorem dX2_copy_10 : decode cX2_copy 10 = .ok (.getfield 43, 3) := by decide +kernel
theorem dX2_copy_13 : decode cX2_copy 13 = .ok (.putfield 43, 3) := by decide +kernel
theorem dX2_copy_16 : decode cX2_copy 16 = .ok (.iconst 0, 1) := by decide +kernel
theorem dX2_copy_17 : decode cX2_copy 17 = .ok (.istore_n 2, 1) := by decide +kernel
theorem dX2_copy_18 : decode cX2_copy 18 = .ok (.iload_n 2, 1) := by decide +kernel
theorem dX2_copy_19 : decode cX2_copy 19 = .ok (.bipush 16, 2) := by decide +kernel
theorem dX2_copy_21 : decode cX2_copy 21 = .ok (.if_icmp .ge 24, 3) := by decide +kernel
theorem dX2_copy_24 : decode cX2_copy 24 = .ok (.aload_n 0, 1) := by decide +kernel
theorem dX2_copy_25 : decode cX2_copy 25 = .ok (.getfield 11, 3) := by decide +kernel
theorem dX2_copy_28 : decode cX2_copy 28 = .ok (.iload_n 2, 1) := by decide +kernel
theorem dX2_copy_29 : decode cX2_copy 29 = .ok (.aaload, 1) := by decide +kernel
theorem dX2_copy_30 : decode cX2_copy 30 = .ok (.aload_n 1, 1) := by decide +kernel
theorem dX2_copy_31 : decode cX2_copy 31 = .ok (.getfield 11, 3) := by decide +kernel
theorem dX2_copy_34 : decode cX2_copy 34 = .ok (.iload_n 2, 1) := by decide +kernel
theorem dX2_copy_35 : decode cX2_copy 35 = .ok (.aaload, 1) := by decide +kernel
theorem dX2_copy_36 : decode cX2_copy 36 = .ok (.invokevirtual 66, 3) := by decide +kernel
theorem dX2_copy_39 : decode cX2_copy 39 = .ok (.iinc 2 1, 3) := by decide +kernel
theorem dX2_copy_42 : decode cX2_copy 42 = .ok (.goto (-24), 3) := by decide +kernel
theorem dX2_copy_45 : decode cX2_copy 45 = .ok (.aload_n 1, 1) := by decide +kernel
theorem dX2_copy_46 : decode cX2_copy 46 = .ok (.getfield 18, 3) := by decide +kernel
theorem dX2_copy_49 : decode cX2_copy 49 = .ok (.iconst 0, 1) := by decide +kernel
theorem dX2_copy_50 : decode cX2_copy 50 = .ok (.aload_n 0, 1) := by decide +kernel
theorem dX2_copy_51 : decode cX2_copy 51 = .ok (.getfield 18, 3) := by decide +kernel
theorem dX2_copy_54 : decode cX2_copy 54 = .ok (.iconst 0, 1) := by decide +kernel
theorem dX2_copy_55 : decode cX2_copy 55 = .ok (.bipush 96, 2) := by decide +kernel
theorem dX2_copy_57 : decode cX2_copy 57 = .ok (.invokestatic 70, 3) := by decide +kernel
theorem dX2_copy_60 : decode cX2_copy 60 = .ok (.return_, 1) := by decide +kernel
theorem dX2_clear_0 : decode cX2_clear 0 = .ok (.aload_n 0, 1) := by decide +kernel
theorem dX2_clear_1 : decode cX2_clear 1 = .ok (.iconst 0, 1) := by decide +kernel
theorem dX2_clear_2 : decode cX2_clear 2 = .ok (.putfield 63, 3) := by decide +kernel
theorem dX2_clear_5 : decode cX2_clear 5 = .ok (.aload_n 0, 1) := by decide +kernel
theorem dX2_clear_6 : decode cX2_clear 6 = .ok (.iconst 0, 1) := by decide +kernel
theorem dX2_clear_7 : decode cX2_clear 7 = .ok (.putfield 43, 3) := by decide +kernel
theorem dX2_clear_10 : decode cX2_clear 10 = .ok (.aload_n 0, 1) := by decide +kernel
theorem dX2_clear_11 : decode cX2_clear 11 = .ok (.getfield 11, 3) := by decide +kernel
theorem dX2_clear_14 : decode cX2_clear 14 = .ok (.astore_n 1, 1) := by decide +kernel
theorem dX2_clear_15 : decode cX2_clear 15 = .ok (.aload_n 1, 1) := by decide +kernel
theorem dX2_clear_16 : decode cX2_clear 16 = .ok (.arraylength, 1) := by decide +kernel
theorem dX2_clear_17 : decode cX2_clear 17 = .ok (.istore_n 2, 1) := by decide +kernel
theorem dX2_clear_18 : decode cX2_clear 18 = .ok (.iconst 0, 1) := by decide +kernel
theorem dX2_clear_19 : decode cX2_clear 19 = .ok (.istore_n 3, 1) := by decide +kernel
theorem dX2_clear_20 : decode cX2_clear 20 = .ok (.iload_n 3, 1) := by decide +kernel
theorem dX2_clear_21 : decode cX2_clear 21 = .ok (.iload_n 2, 1) := by decide +kernel
theorem dX2_clear_22 : decode cX2_clear 22 = .ok (.if_icmp .ge 19, 3) := by decide +kernel
theorem dX2_clear_25 : decode cX2_clear 25 = .ok (.aload_n 1, 1) := by decide +kernel
theorem dX2_clear_26 : decode cX2_clear 26 = .ok (.iload_n 3, 1) := by decide +kernel
theorem dX2_clear_27 : decode cX2_clear 27 = .ok (.aaload, 1) := by decide +kernel
theorem dX2_clear_28 : decode cX2_clear 28 = .ok (.astore 4, 2) := by decide +kernel
theorem dX2_clear_30 : decode cX2_clear 30 = .ok (.aload 4, 2) := by decide +kernel
theorem dX2_clear_32 : decode cX2_clear 32 = .ok (.invokevirtual 46, 3) := by decide +kernel
theorem dX2_clear_35 : decode cX2_clear 35 = .ok (.iinc 3 1, 3) := by decide +kernel
theorem dX2_clear_38 : decode cX2_clear 38 = .ok (.goto (-18), 3) := by decide +kernel
theorem dX2_clear_41 : decode cX2_clear 41 = .ok (.aload_n 0, 1) := by decide +kernel
theorem dX2_clear_42 : decode cX2_clear 42 = .ok (.getfield 18, 3) := by decide +kernel
theorem dX2_clear_45 : decode cX2_clear 45 = .ok (.iconst 0, 1) := by decide +kernel
theorem dX2_clear_46 : decode cX2_clear 46 = .ok (.invokestatic 76, 3) := by decide +kernel
theorem dX2_clear_49 : decode cX2_clear 49 = .ok (.return_, 1) := by decide +kernel
theorem dX3_init_0 : decode cX3_init 0 = .ok (.aload_n 0, 1) := by decide +kernel
theorem dX3_init_1 : decode cX3_init 1 = .ok (.invokespecial 3, 3) := by decide +kernel
theorem dX3_init_4 : decode cX3_init 4 = .ok (.aload_n 0, 1) := by decide +kernel
theorem dX3_init_5 : decode cX3_init 5 = .ok (.bipush 40, 2) := by decide +kernel
theorem dX3_init_7 : decode cX3_init 7 = .ok (.newarray .int, 2) := by decide +kernel
theorem dX3_init_9 : decode cX3_init 9 = .ok (.putfield 9, 3) := by decide +kernel
theorem dX3_init_12 : decode cX3_init 12 = .ok (.aload_n 0, 1) := by decide +kernel
theorem dX3_init_13 : decode cX3_init 13 = .ok (.getfield 9, 3) := by decide +kernel
theorem dX3_init_16 : decode cX3_init 16 = .ok (.iconst (-1), 1) := by decide +kernel
theorem dX3_init_17 : decode cX3_init 17 = .ok (.invokestatic 15, 3) := by decide +kernel
theorem dX3_init_20 : decode cX3_init 20 = .ok (.aload_n 0, 1) := by decide +kernel
theorem dX3_init_21 : decode cX3_init 21 = .ok (.iconst (-1), 1) := by decide +kernel
theorem dX3_init_22 : decode cX3_init 22 = .ok (.putfield 21, 3) := by decide +kernel
theorem dX3_init_25 : decode cX3_init 25 = .ok (.aload_n 0, 1) := by decide +kernel
theorem dX3_init_26 : decode cX3_init 26 = .ok (.iconst (-1), 1) := by decide +kernel
theorem dX3_init_27 : decode cX3_init 27 = .ok (.putfield 25, 3) := by decide +kernel
theorem dX3_init_30 : decode cX3_init 30 = .ok (.return_, 1) := by decide +kernel
theorem dX3_extentOf_0 : decode cX3_extentOf 0 = .ok (.iload_n 1, 1) := by decide +kernel
theorem dX3_extentOf_1 : decode cX3_extentOf 1 = .ok (.ifCond .lt 21, 3) := by decide +kernel
theorem dX3_extentOf_4 : decode cX3_extentOf 4 = .ok (.iload_n 1, 1) := by decide +kernel
theorem dX3_extentOf_5 : decode cX3_extentOf 5 = .ok (.aload_n 0, 1) := by decide +kernel
theorem dX3_extentOf_6 : decode cX3_extentOf 6 = .ok (.getfield 9, 3) := by decide +kernel
theorem dX3_extentOf_9 : decode cX3_extentOf 9 = .ok (.arraylength, 1) := by decide +kernel
theorem dX3_extentOf_10 : decode cX3_extentOf 10 = .ok (.if_icmp .ge 12, 3) := by decide +kernel
theorem dX3_extentOf_13 : decode cX3_extentOf 13 = .ok (.aload_n 0, 1) := by decide +kernel
theorem dX3_extentOf_14 : decode cX3_extentOf 14 = .ok (.getfield 9, 3) := by decide +kernel
theorem dX3_extentOf_17 : decode cX3_extentOf 17 = .ok (.iload_n 1, 1) := by decide +kernel
theorem dX3_extentOf_18 : decode cX3_extentOf 18 = .ok (.iaload, 1) := by decide +kernel
theorem dX3_extentOf_19 : decode cX3_extentOf 19 = .ok (.goto 4, 3) := by decide +kernel
theorem dX3_extentOf_22 : decode cX3_extentOf 22 = .ok (.iconst (-1), 1) := by decide +kernel
theorem dX3_extentOf_23 : decode cX3_extentOf 23 = .ok (.ireturn, 1) := by decide +kernel
theorem dX3_setExtent_0 : decode cX3_setExtent 0 = .ok (.iload_n 1, 1) := by decide +kernel
theorem dX3_setExtent_1 : decode cX3_setExtent 1 = .ok (.ifCond .lt 19, 3) := by decide +kernel
theorem dX3_setExtent_4 : decode cX3_setExtent 4 = .ok (.iload_n 1, 1) := by decide +kernel
theorem dX3_setExtent_5 : decode cX3_setExtent 5 = .ok (.aload_n 0, 1) := by decide +kernel
theorem dX3_setExtent_6 : decode cX3_setExtent 6 = .ok (.getfield 9, 3) := by decide +kernel
theorem dX3_setExtent_9 : decode cX3_setExtent 9 = .ok (.arraylength, 1) := by decide +kernel
theorem dX3_setExtent_10 : decode cX3_setExtent 10 = .ok (.if_icmp .ge 10, 3) := by decide +kernel
theorem dX3_setExtent_13 : decode cX3_setExtent 13 = .ok (.aload_n 0, 1) := by decide +kernel
theorem dX3_setExtent_14 : decode cX3_setExtent 14 = .ok (.getfield 9, 3) := by decide +kernel
theorem dX3_setExtent_17 : decode cX3_setExtent 17 = .ok (.iload_n 1, 1) := by decide +kernel
theorem dX3_setExtent_18 : decode cX3_setExtent 18 = .ok (.iload_n 2, 1) := by decide +kernel
theorem dX3_setExtent_19 : decode cX3_setExtent 19 = .ok (.iastore, 1) := by decide +kernel
theorem dX3_setExtent_20 : decode cX3_setExtent 20 = .ok (.return_, 1) := by decide +kernel
theorem dX3_lastMapped_0 : decode cX3_lastMapped 0 = .ok (.aload_n 0, 1) := by decide +kernel
theorem dX3_lastMapped_1 : decode cX3_lastMapped 1 = .ok (.getfield 9, 3) := by decide +kernel
theorem dX3_lastMapped_4 : decode cX3_lastMapped 4 = .ok (.arraylength, 1) := by decide +kernel
theorem dX3_lastMapped_5 : decode cX3_lastMapped 5 = .ok (.iconst 1, 1) := by decide +kernel
theorem dX3_lastMapped_6 : decode cX3_lastMapped 6 = .ok (.isub, 1) := by decide +kernel
theorem dX3_lastMapped_7 : decode cX3_lastMapped 7 = .ok (.istore_n 1, 1) := by decide +kernel
theorem dX3_lastMapped_8 : decode cX3_lastMapped 8 = .ok (.iload_n 1, 1) := by decide +kernel
theorem dX3_lastMapped_9 : decode cX3_lastMapped 9 = .ok (.ifCond .lt 21, 3) := by decide +kernel
theorem dX3_lastMapped_12 : decode cX3_lastMapped 12 = .ok (.aload_n 0, 1) := by decide +kernel
theorem dX3_lastMapped_13 : decode cX3_lastMapped 13 = .ok (.getfield 9, 3) := by decide +kernel
theorem dX3_lastMapped_16 : decode cX3_lastMapped 16 = .ok (.iload_n 1, 1) := by decide +kernel
theorem dX3_lastMapped_17 : decode cX3_lastMapped 17 = .ok (.iaload, 1) := by decide +kernel
theorem dX3_lastMapped_18 : decode cX3_lastMapped 18 = .ok (.iconst (-1), 1) := by decide +kernel
theorem dX3_lastMapped_19 : decode cX3_lastMapped 19 = .ok (.if_icmp .eq 5, 3) := by decide +kernel
theorem dX3_lastMapped_22 : decode cX3_lastMapped 22 = .ok (.iload_n 1, 1) := by decide +kernel
theorem dX3_lastMapped_23 : decode cX3_lastMapped 23 = .ok (.ireturn, 1) := by decide +kernel
theorem dX3_lastMapped_24 : decode cX3_lastMapped 24 = .ok (.iinc 1 (-1), 3) := by decide +kernel
theorem dX3_lastMapped_27 : decode cX3_lastMapped 27 = .ok (.goto (-19), 3) := by decide +kernel
theorem dX3_lastMapped_30 : decode cX3_lastMapped 30 = .ok (.iconst (-1), 1) := by decide +kernel
theorem dX3_lastMapped_31 : decode cX3_lastMapped 31 = .ok (.ireturn, 1) := by decide +kernel
theorem dX3_copy_0 : decode cX3_copy 0 = .ok (.aload_n 0, 1) := by decide +kernel
theorem dX3_copy_1 : decode cX3_copy 1 = .ok (.aload_n 1, 1) := by decide +kernel
theorem dX3_copy_2 : decode cX3_copy 2 = .ok (.getfield 28, 3) := by decide +kernel
theorem dX3_copy_5 : decode cX3_copy 5 = .ok (.putfield 28, 3) := by decide +kernel
theorem dX3_copy_8 : decode cX3_copy 8 = .ok (.aload_n 0, 1) := by decide +kernel
theorem dX3_copy_9 : decode cX3_copy 9 = .ok (.aload_n 1, 1) := by decide +kernel
theorem dX3_copy_10 : decode cX3_copy 10 = .ok (.getfield 32, 3) := by decide +kernel
theorem dX3_copy_13 : decode cX3_copy 13 = .ok (.putfield 32, 3) := by decide +kernel
theorem dX3_copy_16 : decode cX3_copy 16 = .ok (.aload_n 0, 1) := by decide +kernel
theorem dX3_copy_17 : decode cX3_copy 17 = .ok (.aload_n 1, 1) := by decide +kernel
theorem dX3_copy_18 : decode cX3_copy 18 = .ok (.getfield 35, 3) := by decide +kernel
theorem dX3_copy_21 : decode cX3_copy 21 = .ok (.putfield 35, 3) := by decide +kernel
theorem dX3_copy_24 : decode cX3_copy 24 = .ok (.aload_n 0, 1) := by decide +kernel
theorem dX3_copy_25 : decode cX3_copy 25 = .ok (.aload_n 1, 1) := by decide +kernel
theorem dX3_copy_26 : decode cX3_copy 26 = .ok (.getfield 21, 3) := by decide +kernel
theorem dX3_copy_29 : decode cX3_copy 29 = .ok (.putfield 21, 3) := by decide +kernel
theorem dX3_copy_32 : decode cX3_copy 32 = .ok (.aload_n 0, 1) := by decide +kernel
theorem dX3_copy_33 : decode cX3_copy 33 = .ok (.aload_n 1, 1) := by decide +kernel
theorem dX3_copy_34 : decode cX3_copy 34 = .ok (.getfield 25, 3) := by decide +kernel
theorem dX3_copy_37 : decode cX3_copy 37 = .ok (.putfield 25, 3) := by decide +kernel
theorem dX3_copy_40 : decode cX3_copy 40 = .ok (.aload_n 0, 1) := by decide +kernel
theorem dX3_copy_41 : decode cX3_copy 41 = .ok (.aload_n 1, 1) := by decide +kernel
theorem dX3_copy_42 : decode cX3_copy 42 = .ok (.getfield 38, 3) := by decide +kernel
theorem dX3_copy_45 : decode cX3_copy 45 = .ok (.putfield 38, 3) := by decide +kernel
theorem dX3_copy_48 : decode cX3_copy 48 = .ok (.aload_n 1, 1) := by decide +kernel
theorem dX3_copy_49 : decode cX3_copy 49 = .ok (.getfield 9, 3) := by decide +kernel
theorem dX3_copy_52 : decode cX3_copy 52 = .ok (.iconst 0, 1) := by decide +kernel
theorem dX3_copy_53 : decode cX3_copy 53 = .ok (.aload_n 0, 1) := by decide +kernel
theorem dX3_copy_54 : decode cX3_copy 54 = .ok (.getfield 9, 3) := by decide +kernel
theorem dX3_copy_57 : decode cX3_copy 57 = .ok (.iconst 0, 1) := by decide +kernel
theorem dX3_copy_58 : decode cX3_copy 58 = .ok (.bipush 40, 2) := by decide +kernel
theorem dX3_copy_60 : decode cX3_copy 60 = .ok (.invokestatic 41, 3) := by decide +kernel
theorem dX3_copy_63 : decode cX3_copy 63 = .ok (.return_, 1) := by decide +kernel
theorem dX3_clear_0 : decode cX3_clear 0 = .ok (.aload_n 0, 1) := by decide +kernel
theorem dX3_clear_1 : decode cX3_clear 1 = .ok (.iconst 0, 1) := by decide +kernel
theorem dX3_clear_2 : decode cX3_clear 2 = .ok (.putfield 28, 3) := by decide +kernel
theorem dX3_clear_5 : decode cX3_clear 5 = .ok (.aload_n 0, 1) := by decide +kernel
theorem dX3_clear_6 : decode cX3_clear 6 = .ok (.iconst 0, 1) := by decide +kernel
theorem dX3_clear_7 : decode cX3_clear 7 = .ok (.putfield 32, 3) := by decide +kernel
theorem dX3_clear_10 : decode cX3_clear 10 = .ok (.aload_n 0, 1) := by decide +kernel
theorem dX3_clear_11 : decode cX3_clear 11 = .ok (.iconst 0, 1) := by decide +kernel
theorem dX3_clear_12 : decode cX3_clear 12 = .ok (.putfield 38, 3) := by decide +kernel
theorem dX3_clear_15 : decode cX3_clear 15 = .ok (.aload_n 0, 1) := by decide +kernel
theorem dX3_clear_16 : decode cX3_clear 16 = .ok (.getfield 9, 3) := by decide +kernel
theorem dX3_clear_19 : decode cX3_clear 19 = .ok (.iconst (-1), 1) := by decide +kernel
theorem dX3_clear_20 : decode cX3_clear 20 = .ok (.invokestatic 15, 3) := by decide +kernel
theorem dX3_clear_23 : decode cX3_clear 23 = .ok (.return_, 1) := by decide +kernel
theorem dX4_init_0 : decode cX4_init 0 = .ok (.aload_n 0, 1) := by decide +kernel
theorem dX4_init_1 : decode cX4_init 1 = .ok (.invokespecial 1, 3) := by decide +kernel
theorem dX4_init_4 : decode cX4_init 4 = .ok (.aload_n 0, 1) := by decide +kernel
theorem dX4_init_5 : decode cX4_init 5 = .ok (.new 7, 3) := by decide +kernel
theorem dX4_init_8 : decode cX4_init 8 = .ok (.dup, 1) := by decide +kernel
theorem dX4_init_9 : decode cX4_init 9 = .ok (.invokespecial 9, 3) := by decide +kernel
theorem dX4_init_12 : decode cX4_init 12 = .ok (.putfield 10, 3) := by decide +kernel
theorem dX4_init_15 : decode cX4_init 15 = .ok (.aload_n 0, 1) := by decide +kernel
theorem dX4_init_16 : decode cX4_init 16 = .ok (.new 7, 3) := by decide +kernel
theorem dX4_init_19 : decode cX4_init 19 = .ok (.dup, 1) := by decide +kernel
theorem dX4_init_20 : decode cX4_init 20 = .ok (.invokespecial 9, 3) := by decide +kernel
theorem dX4_init_23 : decode cX4_init 23 = .ok (.putfield 16, 3) := by decide +kernel
theorem dX4_init_26 : decode cX4_init 26 = .ok (.aload_n 0, 1) := by decide +kernel
theorem dX4_init_27 : decode cX4_init 27 = .ok (.new 7, 3) := by decide +kernel
theorem dX4_init_30 : decode cX4_init 30 = .ok (.dup, 1) := by decide +kernel
theorem dX4_init_31 : decode cX4_init 31 = .ok (.invokespecial 9, 3) := by decide +kernel
theorem dX4_init_34 : decode cX4_init 34 = .ok (.putfield 19, 3) := by decide +kernel
theorem dX4_init_37 : decode cX4_init 37 = .ok (.aload_n 0, 1) := by decide +kernel
theorem dX4_init_38 : decode cX4_init 38 = .ok (.new 22, 3) := by decide +kernel
theorem dX4_init_41 : decode cX4_init 41 = .ok (.dup, 1) := by decide +kernel
theorem dX4_init_42 : decode cX4_init 42 = .ok (.aload_n 0, 1) := by decide +kernel
theorem dX4_init_43 : decode cX4_init 43 = .ok (.getfield 10, 3) := by decide +kernel
theorem dX4_init_46 : decode cX4_init 46 = .ok (.aload_n 0, 1) := by decide +kernel
theorem dX4_init_47 : decode cX4_init 47 = .ok (.getfield 16, 3) := by decide +kernel
theorem dX4_init_50 : decode cX4_init 50 = .ok (.aload_n 0, 1) := by decide +kernel
theorem dX4_init_51 : decode cX4_init 51 = .ok (.getfield 19, 3) := by decide +kernel
theorem dX4_init_54 : decode cX4_init 54 = .ok (.invokespecial 24, 3) := by decide +kernel
theorem dX4_init_57 : decode cX4_init 57 = .ok (.putfield 27, 3) := by decide +kernel
theorem dX4_init_60 : decode cX4_init 60 = .ok (.aload_n 0, 1) := by decide +kernel
theorem dX4_init_61 : decode cX4_init 61 = .ok (.new 31, 3) := by decide +kernel
theorem dX4_init_64 : decode cX4_init 64 = .ok (.dup, 1) := by decide +kernel
theorem dX4_init_65 : decode cX4_init 65 = .ok (.invokespecial 33, 3) := by decide +kernel
theorem dX4_init_68 : decode cX4_init 68 = .ok (.putfield 34, 3) := by decide +kernel
theorem dX4_init_71 : decode cX4_init 71 = .ok (.aload_n 0, 1) := by decide +kernel
theorem dX4_init_72 : decode cX4_init 72 = .ok (.sipush 160, 3) := by decide +kernel
theorem dX4_init_75 : decode cX4_init 75 = .ok (.newarray .int, 2) := by decide +kernel
theorem dX4_init_77 : decode cX4_init 77 = .ok (.putfield 38, 3) := by decide +kernel
theorem dX4_init_80 : decode cX4_init 80 = .ok (.return_, 1) := by decide +kernel
theorem dX4_make_0 : decode cX4_make 0 = .ok (.aload_n 0, 1) := by decide +kernel
theorem dX4_make_1 : decode cX4_make 1 = .ok (.iload_n 1, 1) := by decide +kernel
theorem dX4_make_2 : decode cX4_make 2 = .ok (.invokevirtual 42, 3) := by decide +kernel
theorem dX4_make_5 : decode cX4_make 5 = .ok (.astore 4, 2) := by decide +kernel
theorem dX4_make_7 : decode cX4_make 7 = .ok (.aload_n 0, 1) := by decide +kernel
theorem dX4_make_8 : decode cX4_make 8 = .ok (.iload_n 2, 1) := by decide +kernel
theorem dX4_make_9 : decode cX4_make 9 = .ok (.invokevirtual 46, 3) := by decide +kernel
theorem dX4_make_12 : decode cX4_make 12 = .ok (.aload 4, 2) := by decide +kernel
theorem dX4_make_14 : decode cX4_make 14 = .ok (.getfield 50, 3) := by decide +kernel
theorem dX4_make_17 : decode cX4_make 17 = .ok (.ifCond .eq 13, 3) := by decide +kernel
theorem dX4_make_20 : decode cX4_make 20 = .ok (.new 56, 3) := by decide +kernel
theorem dX4_make_23 : decode cX4_make 23 = .ok (.dup, 1) := by decide +kernel
theorem dX4_make_24 : decode cX4_make 24 = .ok (.ldc 58, 2) := by decide +kernel
theorem dX4_make_26 : decode cX4_make 26 = .ok (.invokespecial 60, 3) := by decide +kernel
theorem dX4_make_29 : decode cX4_make 29 = .ok (.athrow, 1) := by decide +kernel
theorem dX4_make_30 : decode cX4_make 30 = .ok (.aload_n 0, 1) := by decide +kernel
theorem dX4_make_31 : decode cX4_make 31 = .ok (.getfield 10, 3) := by decide +kernel
theorem dX4_make_34 : decode cX4_make 34 = .ok (.aload 4, 2) := by decide +kernel
theorem dX4_make_36 : decode cX4_make 36 = .ok (.iload_n 2, 1) := by decide +kernel
theorem dX4_make_37 : decode cX4_make 37 = .ok (.iload_n 3, 1) := by decide +kernel
theorem dX4_make_38 : decode cX4_make 38 = .ok (.iconst (-1), 1) := by decide +kernel
theorem dX4_make_39 : decode cX4_make 39 = .ok (.iconst (-1), 1) := by decide +kernel
theorem dX4_make_40 : decode cX4_make 40 = .ok (.invokevirtual 63, 3) := by decide +kernel
theorem dX4_make_43 : decode cX4_make 43 = .ok (.aload_n 0, 1) := by decide +kernel
theorem dX4_make_44 : decode cX4_make 44 = .ok (.getfield 10, 3) := by decide +kernel
theorem dX4_make_47 : decode cX4_make 47 = .ok (.getfield 67, 3) := by decide +kernel
theorem dX4_make_50 : decode cX4_make 50 = .ok (.ireturn, 1) := by decide +kernel
theorem dX4_snap_0 : decode cX4_snap 0 = .ok (.aload_n 0, 1) := by decide +kernel
theorem dX4_snap_1 : decode cX4_snap 1 = .ok (.iload_n 2, 1) := by decide +kernel
theorem dX4_snap_2 : decode cX4_snap 2 = .ok (.invokevirtual 42, 3) := by decide +kernel
theorem dX4_snap_5 : decode cX4_snap 5 = .ok (.astore_n 3, 1) := by decide +kernel
theorem dX4_snap_6 : decode cX4_snap 6 = .ok (.aload_n 0, 1) := by decide +kernel
theorem dX4_snap_7 : decode cX4_snap 7 = .ok (.iload_n 1, 1) := by decide +kernel
theorem dX4_snap_8 : decode cX4_snap 8 = .ok (.invokevirtual 71, 3) := by decide +kernel
theorem dX4_snap_11 : decode cX4_snap 11 = .ok (.astore 4, 2) := by decide +kernel
theorem dX4_snap_13 : decode cX4_snap 13 = .ok (.aload_n 3, 1) := by decide +kernel
theorem dX4_snap_14 : decode cX4_snap 14 = .ok (.getfield 50, 3) := by decide +kernel
theorem dX4_snap_17 : decode cX4_snap 17 = .ok (.ifCond .eq 13, 3) := by decide +kernel
theorem dX4_snap_20 : decode cX4_snap 20 = .ok (.new 56, 3) := by decide +kernel
theorem dX4_snap_23 : decode cX4_snap 23 = .ok (.dup, 1) := by decide +kernel
theorem dX4_snap_24 : decode cX4_snap 24 = .ok (.ldc 58, 2) := by decide +kernel
theorem dX4_snap_26 : decode cX4_snap 26 = .ok (.invokespecial 60, 3) := by decide +kernel
theorem dX4_snap_29 : decode cX4_snap 29 = .ok (.athrow, 1) := by decide +kernel
theorem dX4_snap_30 : decode cX4_snap 30 = .ok (.aload_n 0, 1) := by decide +kernel
theorem dX4_snap_31 : decode cX4_snap 31 = .ok (.getfield 10, 3) := by decide +kernel
theorem dX4_snap_34 : decode cX4_snap 34 = .ok (.aload_n 3, 1) := by decide +kernel
theorem dX4_snap_35 : decode cX4_snap 35 = .ok (.aload 4, 2) := by decide +kernel
theorem dX4_snap_37 : decode cX4_snap 37 = .ok (.getfield 74, 3) := by decide +kernel
theorem dX4_snap_40 : decode cX4_snap 40 = .ok (.aload 4, 2) := by decide +kernel
theorem dX4_snap_42 : decode cX4_snap 42 = .ok (.getfield 77, 3) := by decide +kernel
theorem dX4_snap_45 : decode cX4_snap 45 = .ok (.aload 4, 2) := by decide +kernel
theorem dX4_snap_47 : decode cX4_snap 47 = .ok (.getfield 80, 3) := by decide +kernel
theorem dX4_snap_50 : decode cX4_snap 50 = .ok (.iload_n 1, 1) := by decide +kernel
theorem dX4_snap_51 : decode cX4_snap 51 = .ok (.invokevirtual 63, 3) := by decide +kernel
theorem dX4_snap_54 : decode cX4_snap 54 = .ok (.iconst 0, 1) := by decide +kernel
theorem dX4_snap_55 : decode cX4_snap 55 = .ok (.istore 5, 2) := by decide +kernel
theorem dX4_snap_57 : decode cX4_snap 57 = .ok (.iload 5, 2) := by decide +kernel
theorem dX4_snap_59 : decode cX4_snap 59 = .ok (.bipush 40, 2) := by decide +kernel
theorem dX4_snap_61 : decode cX4_snap 61 = .ok (.if_icmp .ge 26, 3) := by decide +kernel
theorem dX4_snap_64 : decode cX4_snap 64 = .ok (.aload_n 0, 1) := by decide +kernel
theorem dX4_snap_65 : decode cX4_snap 65 = .ok (.getfield 10, 3) := by decide +kernel
theorem dX4_snap_68 : decode cX4_snap 68 = .ok (.aload_n 3, 1) := by decide +kernel
theorem dX4_snap_69 : decode cX4_snap 69 = .ok (.iload 5, 2) := by decide +kernel
theorem dX4_snap_71 : decode cX4_snap 71 = .ok (.aload 4, 2) := by decide +kernel
theorem dX4_snap_73 : decode cX4_snap 73 = .ok (.iload 5, 2) := by decide +kernel
theorem dX4_snap_75 : decode cX4_snap 75 = .ok (.invokevirtual 83, 3) := by decide +kernel
theorem dX4_snap_78 : decode cX4_snap 78 = .ok (.invokevirtual 87, 3) := by decide +kernel
theorem dX4_snap_81 : decode cX4_snap 81 = .ok (.iinc 5 1, 3) := by decide +kernel
theorem dX4_snap_84 : decode cX4_snap 84 = .ok (.goto (-27), 3) := by decide +kernel
theorem dX4_snap_87 : decode cX4_snap 87 = .ok (.aload_n 3, 1) := by decide +kernel
theorem dX4_snap_88 : decode cX4_snap 88 = .ok (.getfield 91, 3) := by decide +kernel
theorem dX4_snap_91 : decode cX4_snap 91 = .ok (.ireturn, 1) := by decide +kernel
theorem dX4_drop_0 : decode cX4_drop 0 = .ok (.aload_n 0, 1) := by decide +kernel
theorem dX4_drop_1 : decode cX4_drop 1 = .ok (.iload_n 1, 1) := by decide +kernel
theorem dX4_drop_2 : decode cX4_drop 2 = .ok (.invokevirtual 71, 3) := by decide +kernel
theorem dX4_drop_5 : decode cX4_drop 5 = .ok (.astore_n 2, 1) := by decide +kernel
theorem dX4_drop_6 : decode cX4_drop 6 = .ok (.aload_n 0, 1) := by decide +kernel
theorem dX4_drop_7 : decode cX4_drop 7 = .ok (.dup, 1) := by decide +kernel
theorem dX4_drop_8 : decode cX4_drop 8 = .ok (.getfield 94, 3) := by decide +kernel
theorem dX4_drop_11 : decode cX4_drop 11 = .ok (.aload_n 0, 1) := by decide +kernel
theorem dX4_drop_12 : decode cX4_drop 12 = .ok (.getfield 34, 3) := by decide +kernel
theorem dX4_drop_15 : decode cX4_drop 15 = .ok (.iload_n 1, 1) := by decide +kernel
theorem dX4_drop_16 : decode cX4_drop 16 = .ok (.invokevirtual 97, 3) := by decide +kernel
theorem dX4_drop_19 : decode cX4_drop 19 = .ok (.iadd, 1) := by decide +kernel
theorem dX4_drop_20 : decode cX4_drop 20 = .ok (.putfield 94, 3) := by decide +kernel
theorem dX4_drop_23 : decode cX4_drop 23 = .ok (.aload_n 0, 1) := by decide +kernel
theorem dX4_drop_24 : decode cX4_drop 24 = .ok (.getfield 10, 3) := by decide +kernel
theorem dX4_drop_27 : decode cX4_drop 27 = .ok (.aload_n 2, 1) := by decide +kernel
theorem dX4_drop_28 : decode cX4_drop 28 = .ok (.iconst 0, 1) := by decide +kernel
theorem dX4_drop_29 : decode cX4_drop 29 = .ok (.bipush 40, 2) := by decide +kernel
theorem dX4_drop_31 : decode cX4_drop 31 = .ok (.invokevirtual 100, 3) := by decide +kernel
theorem dX4_drop_34 : decode cX4_drop 34 = .ok (.istore_n 3, 1) := by decide +kernel
theorem dX4_drop_35 : decode cX4_drop 35 = .ok (.aload_n 0, 1) := by decide +kernel
theorem dX4_drop_36 : decode cX4_drop 36 = .ok (.getfield 10, 3) := by decide +kernel
theorem dX4_drop_39 : decode cX4_drop 39 = .ok (.aload_n 2, 1) := by decide +kernel
theorem dX4_drop_40 : decode cX4_drop 40 = .ok (.invokevirtual 104, 3) := by decide +kernel
theorem dX4_drop_43 : decode cX4_drop 43 = .ok (.aload_n 0, 1) := by decide +kernel
theorem dX4_drop_44 : decode cX4_drop 44 = .ok (.invokevirtual 108, 3) := by decide +kernel
theorem dX4_drop_47 : decode cX4_drop 47 = .ok (.iload_n 3, 1) := by decide +kernel
theorem dX4_drop_48 : decode cX4_drop 48 = .ok (.ireturn, 1) := by decide +kernel
theorem dX4_resize_0 : decode cX4_resize 0 = .ok (.aload_n 0, 1) := by decide +kernel
theorem dX4_resize_1 : decode cX4_resize 1 = .ok (.iload_n 1, 1) := by decide +kernel
theorem dX4_resize_2 : decode cX4_resize 2 = .ok (.invokevirtual 71, 3) := by decide +kernel
theorem dX4_resize_5 : decode cX4_resize 5 = .ok (.astore_n 3, 1) := by decide +kernel
theorem dX4_resize_6 : decode cX4_resize 6 = .ok (.aload_n 0, 1) := by decide +kernel
theorem dX4_resize_7 : decode cX4_resize 7 = .ok (.iload_n 2, 1) := by decide +kernel
theorem dX4_resize_8 : decode cX4_resize 8 = .ok (.invokevirtual 46, 3) := by decide +kernel
theorem dX4_resize_11 : decode cX4_resize 11 = .ok (.aload_n 0, 1) := by decide +kernel
theorem dX4_resize_12 : decode cX4_resize 12 = .ok (.iload_n 1, 1) := by decide +kernel
theorem dX4_resize_13 : decode cX4_resize 13 = .ok (.iload_n 2, 1) := by decide +kernel
theorem dX4_resize_14 : decode cX4_resize 14 = .ok (.bipush 40, 2) := by decide +kernel
theorem dX4_resize_16 : decode cX4_resize 16 = .ok (.invokevirtual 111, 3) := by decide +kernel
theorem dX4_resize_19 : decode cX4_resize 19 = .ok (.aload_n 0, 1) := by decide +kernel
theorem dX4_resize_20 : decode cX4_resize 20 = .ok (.getfield 10, 3) := by decide +kernel
theorem dX4_resize_23 : decode cX4_resize 23 = .ok (.aload_n 3, 1) := by decide +kernel
theorem dX4_resize_24 : decode cX4_resize 24 = .ok (.iload_n 2, 1) := by decide +kernel
theorem dX4_resize_25 : decode cX4_resize 25 = .ok (.bipush 40, 2) := by decide +kernel
theorem dX4_resize_27 : decode cX4_resize 27 = .ok (.invokevirtual 100, 3) := by decide +kernel
theorem dX4_resize_30 : decode cX4_resize 30 = .ok (.istore 4, 2) := by decide +kernel
theorem dX4_resize_32 : decode cX4_resize 32 = .ok (.aload_n 3, 1) := by decide +kernel
theorem dX4_resize_33 : decode cX4_resize 33 = .ok (.iload_n 2, 1) := by decide +kernel
theorem dX4_resize_34 : decode cX4_resize 34 = .ok (.putfield 74, 3) := by decide +kernel
theorem dX4_resize_37 : decode cX4_resize 37 = .ok (.aload_n 0, 1) := by decide +kernel
theorem dX4_resize_38 : decode cX4_resize 38 = .ok (.invokevirtual 108, 3) := by decide +kernel
theorem dX4_resize_41 : decode cX4_resize 41 = .ok (.iload 4, 2) := by decide +kernel
theorem dX4_resize_43 : decode cX4_resize 43 = .ok (.ireturn, 1) := by decide +kernel
theorem dX4_write_0 : decode cX4_write 0 = .ok (.aload_n 0, 1) := by decide +kernel
theorem dX4_write_1 : decode cX4_write 1 = .ok (.iload_n 1, 1) := by decide +kernel
theorem dX4_write_2 : decode cX4_write 2 = .ok (.invokevirtual 71, 3) := by decide +kernel
theorem dX4_write_5 : decode cX4_write 5 = .ok (.astore 4, 2) := by decide +kernel
theorem dX4_write_7 : decode cX4_write 7 = .ok (.aload_n 0, 1) := by decide +kernel
theorem dX4_write_8 : decode cX4_write 8 = .ok (.aload 4, 2) := by decide +kernel
theorem dX4_write_10 : decode cX4_write 10 = .ok (.iload_n 2, 1) := by decide +kernel
theorem dX4_write_11 : decode cX4_write 11 = .ok (.invokevirtual 115, 3) := by decide +kernel
theorem dX4_write_14 : decode cX4_write 14 = .ok (.iload_n 2, 1) := by decide +kernel
theorem dX4_write_15 : decode cX4_write 15 = .ok (.iconst 4, 1) := by decide +kernel
theorem dX4_write_16 : decode cX4_write 16 = .ok (.idiv, 1) := by decide +kernel
theorem dX4_write_17 : decode cX4_write 17 = .ok (.istore 5, 2) := by decide +kernel
theorem dX4_write_19 : decode cX4_write 19 = .ok (.aload_n 0, 1) := by decide +kernel
theorem dX4_write_20 : decode cX4_write 20 = .ok (.getfield 119, 3) := by decide +kernel
theorem dX4_write_23 : decode cX4_write 23 = .ok (.iconst 1, 1) := by decide +kernel
theorem dX4_write_24 : decode cX4_write 24 = .ok (.if_icmp .ne 28, 3) := by decide +kernel
theorem dX4_write_27 : decode cX4_write 27 = .ok (.aload_n 0, 1) := by decide +kernel
theorem dX4_write_28 : decode cX4_write 28 = .ok (.getfield 34, 3) := by decide +kernel
theorem dX4_write_31 : decode cX4_write 31 = .ok (.iload_n 1, 1) := by decide +kernel
theorem dX4_write_32 : decode cX4_write 32 = .ok (.iload 5, 2) := by decide +kernel
theorem dX4_write_34 : decode cX4_write 34 = .ok (.iload 5, 2) := by decide +kernel
theorem dX4_write_36 : decode cX4_write 36 = .ok (.iconst 1, 1) := by decide +kernel
theorem dX4_write_37 : decode cX4_write 37 = .ok (.iadd, 1) := by decide +kernel
theorem dX4_write_38 : decode cX4_write 38 = .ok (.invokevirtual 122, 3) := by decide +kernel
theorem dX4_write_41 : decode cX4_write 41 = .ok (.ifCond .eq 11, 3) := by decide +kernel
theorem dX4_write_44 : decode cX4_write 44 = .ok (.aload_n 0, 1) := by decide +kernel
theorem dX4_write_45 : decode cX4_write 45 = .ok (.iload_n 1, 1) := by decide +kernel
theorem dX4_write_46 : decode cX4_write 46 = .ok (.iload_n 2, 1) := by decide +kernel
theorem dX4_write_47 : decode cX4_write 47 = .ok (.iload_n 3, 1) := by decide +kernel
theorem dX4_write_48 : decode cX4_write 48 = .ok (.invokevirtual 126, 3) := by decide +kernel
theorem dX4_write_51 : decode cX4_write 51 = .ok (.ireturn, 1) := by decide +kernel
theorem dX4_write_52 : decode cX4_write 52 = .ok (.aload_n 0, 1) := by decide +kernel
theorem dX4_write_53 : decode cX4_write 53 = .ok (.aload 4, 2) := by decide +kernel
theorem dX4_write_55 : decode cX4_write 55 = .ok (.iload 5, 2) := by decide +kernel
theorem dX4_write_57 : decode cX4_write 57 = .ok (.invokevirtual 130, 3) := by decide +kernel
theorem dX4_write_60 : decode cX4_write 60 = .ok (.ifCond .ne 12, 3) := by decide +kernel
theorem dX4_write_63 : decode cX4_write 63 = .ok (.aload_n 0, 1) := by decide +kernel
theorem dX4_write_64 : decode cX4_write 64 = .ok (.aload 4, 2) := by decide +kernel
theorem dX4_write_66 : decode cX4_write 66 = .ok (.iload_n 2, 1) := by decide +kernel
theorem dX4_write_67 : decode cX4_write 67 = .ok (.iload_n 3, 1) := by decide +kernel
theorem dX4_write_68 : decode cX4_write 68 = .ok (.invokevirtual 134, 3) := by decide +kernel
theorem dX4_write_71 : decode cX4_write 71 = .ok (.ireturn, 1) := by decide +kernel
theorem dX4_write_72 : decode cX4_write 72 = .ok (.aload_n 0, 1) := by decide +kernel
theorem dX4_write_73 : decode cX4_write 73 = .ok (.aload 4, 2) := by decide +kernel
theorem dX4_write_75 : decode cX4_write 75 = .ok (.iload 5, 2) := by decide +kernel
theorem dX4_write_77 : decode cX4_write 77 = .ok (.invokevirtual 137, 3) := by decide +kernel
theorem dX4_write_80 : decode cX4_write 80 = .ok (.ifCond .eq 5, 3) := by decide +kernel
theorem dX4_write_83 : decode cX4_write 83 = .ok (.iconst (-1), 1) := by decide +kernel
theorem dX4_write_84 : decode cX4_write 84 = .ok (.ireturn, 1) := by decide +kernel
theorem dX4_write_85 : decode cX4_write 85 = .ok (.aload_n 0, 1) := by decide +kernel
theorem dX4_write_86 : decode cX4_write 86 = .ok (.aload 4, 2) := by decide +kernel
theorem dX4_write_88 : decode cX4_write 88 = .ok (.iload_n 1, 1) := by decide +kernel
theorem dX4_write_89 : decode cX4_write 89 = .ok (.iload_n 2, 1) := by decide +kernel
theorem dX4_write_90 : decode cX4_write 90 = .ok (.iload_n 3, 1) := by decide +kernel
theorem dX4_write_91 : decode cX4_write 91 = .ok (.invokevirtual 140, 3) := by decide +kernel
theorem dX4_write_94 : decode cX4_write 94 = .ok (.ireturn, 1) := by decide +kernel
theorem dX4_read_0 : decode cX4_read 0 = .ok (.aload_n 0, 1) := by decide +kernel
theorem dX4_read_1 : decode cX4_read 1 = .ok (.iload_n 1, 1) := by decide +kernel
theorem dX4_read_2 : decode cX4_read 2 = .ok (.invokevirtual 71, 3) := by decide +kernel
theorem dX4_read_5 : decode cX4_read 5 = .ok (.astore_n 3, 1) := by decide +kernel
theorem dX4_read_6 : decode cX4_read 6 = .ok (.aload_n 0, 1) := by decide +kernel
theorem dX4_read_7 : decode cX4_read 7 = .ok (.aload_n 3, 1) := by decide +kernel
theorem dX4_read_8 : decode cX4_read 8 = .ok (.iload_n 2, 1) := by decide +kernel
theorem dX4_read_9 : decode cX4_read 9 = .ok (.invokevirtual 115, 3) := by decide +kernel
theorem dX4_read_12 : decode cX4_read 12 = .ok (.aload_n 0, 1) := by decide +kernel
theorem dX4_read_13 : decode cX4_read 13 = .ok (.aload_n 3, 1) := by decide +kernel
theorem dX4_read_14 : decode cX4_read 14 = .ok (.iload_n 2, 1) := by decide +kernel
theorem dX4_read_15 : decode cX4_read 15 = .ok (.invokevirtual 144, 3) := by decide +kernel
theorem dX4_read_18 : decode cX4_read 18 = .ok (.ireturn, 1) := by decide +kernel
theorem dX4_discard_0 : decode cX4_discard 0 = .ok (.aload_n 0, 1) := by decide +kernel
theorem dX4_discard_1 : decode cX4_discard 1 = .ok (.iload_n 1, 1) := by decide +kernel
theorem dX4_discard_2 : decode cX4_discard 2 = .ok (.invokevirtual 71, 3) := by decide +kernel
theorem dX4_discard_5 : decode cX4_discard 5 = .ok (.astore 4, 2) := by decide +kernel
theorem dX4_discard_7 : decode cX4_discard 7 = .ok (.iload_n 2, 1) := by decide +kernel
theorem dX4_discard_8 : decode cX4_discard 8 = .ok (.ifCond .lt 27, 3) := by decide +kernel
theorem dX4_discard_11 : decode cX4_discard 11 = .ok (.iload_n 3, 1) := by decide +kernel
theorem dX4_discard_12 : decode cX4_discard 12 = .ok (.ifCond .lt 23, 3) := by decide +kernel
theorem dX4_discard_15 : decode cX4_discard 15 = .ok (.iload_n 2, 1) := by decide +kernel
theorem dX4_discard_16 : decode cX4_discard 16 = .ok (.aload 4, 2) := by decide +kernel
theorem dX4_discard_18 : decode cX4_discard 18 = .ok (.getfield 74, 3) := by decide +kernel
theorem dX4_discard_21 : decode cX4_discard 21 = .ok (.if_icmp .gt 14, 3) := by decide +kernel
theorem dX4_discard_24 : decode cX4_discard 24 = .ok (.iload_n 3, 1) := by decide +kernel
theorem dX4_discard_25 : decode cX4_discard 25 = .ok (.aload 4, 2) := by decide +kernel
theorem dX4_discard_27 : decode cX4_discard 27 = .ok (.getfield 74, 3) := by decide +kernel
theorem dX4_discard_30 : decode cX4_discard 30 = .ok (.iload_n 2, 1) := by decide +kernel
theorem dX4_discard_31 : decode cX4_discard 31 = .ok (.isub, 1) := by decide +kernel
theorem dX4_discard_32 : decode cX4_discard 32 = .ok (.if_icmp .le 13, 3) := by decide +kernel
theorem dX4_discard_35 : decode cX4_discard 35 = .ok (.new 148, 3) := by decide +kernel
theorem dX4_discard_38 : decode cX4_discard 38 = .ok (.dup, 1) := by decide +kernel
theorem dX4_discard_39 : decode cX4_discard 39 = .ok (.ldc 150, 2) := by decide +kernel
theorem dX4_discard_41 : decode cX4_discard 41 = .ok (.invokespecial 152, 3) := by decide +kernel
theorem dX4_discard_44 : decode cX4_discard 44 = .ok (.athrow, 1) := by decide +kernel
theorem dX4_discard_45 : decode cX4_discard 45 = .ok (.aload_n 0, 1) := by decide +kernel
theorem dX4_discard_46 : decode cX4_discard 46 = .ok (.iload_n 1, 1) := by decide +kernel
theorem dX4_discard_47 : decode cX4_discard 47 = .ok (.iload_n 2, 1) := by decide +kernel
theorem dX4_discard_48 : decode cX4_discard 48 = .ok (.iload_n 2, 1) := by decide +kernel
theorem dX4_discard_49 : decode cX4_discard 49 = .ok (.iload_n 3, 1) := by decide +kernel
theorem dX4_discard_50 : decode cX4_discard 50 = .ok (.iadd, 1) := by decide +kernel
theorem dX4_discard_51 : decode cX4_discard 51 = .ok (.invokevirtual 111, 3) := by decide +kernel
theorem dX4_discard_54 : decode cX4_discard 54 = .ok (.aload_n 0, 1) := by decide +kernel
theorem dX4_discard_55 : decode cX4_discard 55 = .ok (.getfield 10, 3) := by decide +kernel
theorem dX4_discard_58 : decode cX4_discard 58 = .ok (.aload 4, 2) := by decide +kernel
theorem dX4_discard_60 : decode cX4_discard 60 = .ok (.iload_n 2, 1) := by decide +kernel
theorem dX4_discard_61 : decode cX4_discard 61 = .ok (.iload_n 2, 1) := by decide +kernel
theorem dX4_discard_62 : decode cX4_discard 62 = .ok (.iload_n 3, 1) := by decide +kernel
theorem dX4_discard_63 : decode cX4_discard 63 = .ok (.iadd, 1) := by decide +kernel
theorem dX4_discard_64 : decode cX4_discard 64 = .ok (.invokevirtual 100, 3) := by decide +kernel
theorem dX4_discard_67 : decode cX4_discard 67 = .ok (.istore 5, 2) := by decide +kernel
theorem dX4_discard_69 : decode cX4_discard 69 = .ok (.aload_n 0, 1) := by decide +kernel
theorem dX4_discard_70 : decode cX4_discard 70 = .ok (.invokevirtual 108, 3) := by decide +kernel
theorem dX4_discard_73 : decode cX4_discard 73 = .ok (.iload 5, 2) := by decide +kernel
theorem dX4_discard_75 : decode cX4_discard 75 = .ok (.ireturn, 1) := by decide +kernel
theorem dX4_grow_0 : decode cX4_grow 0 = .ok (.aload_n 0, 1) := by decide +kernel
theorem dX4_grow_1 : decode cX4_grow 1 = .ok (.iload_n 1, 1) := by decide +kernel
theorem dX4_grow_2 : decode cX4_grow 2 = .ok (.invokevirtual 153, 3) := by decide +kernel
theorem dX4_grow_5 : decode cX4_grow 5 = .ok (.iload_n 1, 1) := by decide +kernel
theorem dX4_grow_6 : decode cX4_grow 6 = .ok (.bipush 96, 2) := by decide +kernel
theorem dX4_grow_8 : decode cX4_grow 8 = .ok (.aload_n 0, 1) := by decide +kernel
theorem dX4_grow_9 : decode cX4_grow 9 = .ok (.getfield 27, 3) := by decide +kernel
theorem dX4_grow_12 : decode cX4_grow 12 = .ok (.getfield 156, 3) := by decide +kernel
theorem dX4_grow_15 : decode cX4_grow 15 = .ok (.isub, 1) := by decide +kernel
theorem dX4_grow_16 : decode cX4_grow 16 = .ok (.if_icmp .le 5, 3) := by decide +kernel
theorem dX4_grow_19 : decode cX4_grow 19 = .ok (.iconst (-1), 1) := by decide +kernel
theorem dX4_grow_20 : decode cX4_grow 20 = .ok (.ireturn, 1) := by decide +kernel
theorem dX4_grow_21 : decode cX4_grow 21 = .ok (.aload_n 0, 1) := by decide +kernel
theorem dX4_grow_22 : decode cX4_grow 22 = .ok (.getfield 27, 3) := by decide +kernel
theorem dX4_grow_25 : decode cX4_grow 25 = .ok (.dup, 1) := by decide +kernel
theorem dX4_grow_26 : decode cX4_grow 26 = .ok (.getfield 156, 3) := by decide +kernel
theorem dX4_grow_29 : decode cX4_grow 29 = .ok (.iload_n 1, 1) := by decide +kernel
theorem dX4_grow_30 : decode cX4_grow 30 = .ok (.iadd, 1) := by decide +kernel
theorem dX4_grow_31 : decode cX4_grow 31 = .ok (.putfield 156, 3) := by decide +kernel
theorem dX4_grow_34 : decode cX4_grow 34 = .ok (.aload_n 0, 1) := by decide +kernel
theorem dX4_grow_35 : decode cX4_grow 35 = .ok (.invokevirtual 108, 3) := by decide +kernel
theorem dX4_grow_38 : decode cX4_grow 38 = .ok (.aload_n 0, 1) := by decide +kernel
theorem dX4_grow_39 : decode cX4_grow 39 = .ok (.getfield 27, 3) := by decide +kernel
theorem dX4_grow_42 : decode cX4_grow 42 = .ok (.getfield 156, 3) := by decide +kernel
theorem dX4_grow_45 : decode cX4_grow 45 = .ok (.ireturn, 1) := by decide +kernel
theorem dX4_shrink_0 : decode cX4_shrink 0 = .ok (.aload_n 0, 1) := by decide +kernel
theorem dX4_shrink_1 : decode cX4_shrink 1 = .ok (.iload_n 1, 1) := by decide +kernel
theorem dX4_shrink_2 : decode cX4_shrink 2 = .ok (.invokevirtual 153, 3) := by decide +kernel
theorem dX4_shrink_5 : decode cX4_shrink 5 = .ok (.iload_n 1, 1) := by decide +kernel
theorem dX4_shrink_6 : decode cX4_shrink 6 = .ok (.aload_n 0, 1) := by decide +kernel
theorem dX4_shrink_7 : decode cX4_shrink 7 = .ok (.getfield 27, 3) := by decide +kernel
theorem dX4_shrink_10 : decode cX4_shrink 10 = .ok (.getfield 156, 3) := by decide +kernel
theorem dX4_shrink_13 : decode cX4_shrink 13 = .ok (.if_icmp .ge 29, 3) := by decide +kernel
theorem dX4_shrink_16 : decode cX4_shrink 16 = .ok (.aload_n 0, 1) := by decide +kernel
theorem dX4_shrink_17 : decode cX4_shrink 17 = .ok (.getfield 27, 3) := by decide +kernel
theorem dX4_shrink_20 : decode cX4_shrink 20 = .ok (.aload_n 0, 1) := by decide +kernel
theorem dX4_shrink_21 : decode cX4_shrink 21 = .ok (.getfield 27, 3) := by decide +kernel
theorem dX4_shrink_24 : decode cX4_shrink 24 = .ok (.getfield 156, 3) := by decide +kernel
theorem dX4_shrink_27 : decode cX4_shrink 27 = .ok (.iload_n 1, 1) := by decide +kernel
theorem dX4_shrink_28 : decode cX4_shrink 28 = .ok (.isub, 1) := by decide +kernel
theorem dX4_shrink_29 : decode cX4_shrink 29 = .ok (.aload_n 0, 1) := by decide +kernel
theorem dX4_shrink_30 : decode cX4_shrink 30 = .ok (.getfield 27, 3) := by decide +kernel
theorem dX4_shrink_33 : decode cX4_shrink 33 = .ok (.getfield 156, 3) := by decide +kernel
theorem dX4_shrink_36 : decode cX4_shrink 36 = .ok (.invokevirtual 157, 3) := by decide +kernel
theorem dX4_shrink_39 : decode cX4_shrink 39 = .ok (.ifCond .ne 5, 3) := by decide +kernel
theorem dX4_shrink_42 : decode cX4_shrink 42 = .ok (.iconst (-1), 1) := by decide +kernel
theorem dX4_shrink_43 : decode cX4_shrink 43 = .ok (.ireturn, 1) := by decide +kernel
theorem dX4_shrink_44 : decode cX4_shrink 44 = .ok (.aload_n 0, 1) := by decide +kernel
theorem dX4_shrink_45 : decode cX4_shrink 45 = .ok (.getfield 27, 3) := by decide +kernel
theorem dX4_shrink_48 : decode cX4_shrink 48 = .ok (.dup, 1) := by decide +kernel
theorem dX4_shrink_49 : decode cX4_shrink 49 = .ok (.getfield 156, 3) := by decide +kernel
theorem dX4_shrink_52 : decode cX4_shrink 52 = .ok (.iload_n 1, 1) := by decide +kernel
theorem dX4_shrink_53 : decode cX4_shrink 53 = .ok (.isub, 1) := by decide +kernel
theorem dX4_shrink_54 : decode cX4_shrink 54 = .ok (.putfield 156, 3) := by decide +kernel
theorem dX4_shrink_57 : decode cX4_shrink 57 = .ok (.aload_n 0, 1) := by decide +kernel
theorem dX4_shrink_58 : decode cX4_shrink 58 = .ok (.getfield 27, 3) := by decide +kernel
theorem dX4_shrink_61 : decode cX4_shrink 61 = .ok (.getfield 161, 3) := by decide +kernel
theorem dX4_shrink_64 : decode cX4_shrink 64 = .ok (.aload_n 0, 1) := by decide +kernel
theorem dX4_shrink_65 : decode cX4_shrink 65 = .ok (.getfield 27, 3) := by decide +kernel
theorem dX4_shrink_68 : decode cX4_shrink 68 = .ok (.getfield 156, 3) := by decide +kernel
theorem dX4_shrink_71 : decode cX4_shrink 71 = .ok (.if_icmp .lt 11, 3) := by decide +kernel
theorem dX4_shrink_74 : decode cX4_shrink 74 = .ok (.aload_n 0, 1) := by decide +kernel
theorem dX4_shrink_75 : decode cX4_shrink 75 = .ok (.getfield 27, 3) := by decide +kernel
theorem dX4_shrink_78 : decode cX4_shrink 78 = .ok (.iconst 0, 1) := by decide +kernel
theorem dX4_shrink_79 : decode cX4_shrink 79 = .ok (.putfield 161, 3) := by decide +kernel
theorem dX4_shrink_82 : decode cX4_shrink 82 = .ok (.aload_n 0, 1) := by decide +kernel
theorem dX4_shrink_83 : decode cX4_shrink 83 = .ok (.getfield 27, 3) := by decide +kernel
theorem dX4_shrink_86 : decode cX4_shrink 86 = .ok (.getfield 156, 3) := by decide +kernel
theorem dX4_shrink_89 : decode cX4_shrink 89 = .ok (.ireturn, 1) := by decide +kernel
theorem dX4_back_0 : decode cX4_back 0 = .ok (.iload_n 1, 1) := by decide +kernel
theorem dX4_back_1 : decode cX4_back 1 = .ok (.ifCond .lt 12, 3) := by decide +kernel
theorem dX4_back_4 : decode cX4_back 4 = .ok (.iload_n 1, 1) := by decide +kernel
theorem dX4_back_5 : decode cX4_back 5 = .ok (.aload_n 0, 1) := by decide +kernel
theorem dX4_back_6 : decode cX4_back 6 = .ok (.getfield 38, 3) := by decide +kernel
theorem dX4_back_9 : decode cX4_back 9 = .ok (.arraylength, 1) := by decide +kernel
theorem dX4_back_10 : decode cX4_back 10 = .ok (.if_icmp .lt 13, 3) := by decide +kernel
theorem dX4_back_13 : decode cX4_back 13 = .ok (.new 148, 3) := by decide +kernel
theorem dX4_back_16 : decode cX4_back 16 = .ok (.dup, 1) := by decide +kernel
theorem dX4_back_17 : decode cX4_back 17 = .ok (.ldc 164, 2) := by decide +kernel
theorem dX4_back_19 : decode cX4_back 19 = .ok (.invokespecial 152, 3) := by decide +kernel
theorem dX4_back_22 : decode cX4_back 22 = .ok (.athrow, 1) := by decide +kernel
theorem dX4_back_23 : decode cX4_back 23 = .ok (.aload_n 0, 1) := by decide +kernel
theorem dX4_back_24 : decode cX4_back 24 = .ok (.getfield 10, 3) := by decide +kernel
theorem dX4_back_27 : decode cX4_back 27 = .ok (.invokevirtual 166, 3) := by decide +kernel
theorem dX4_back_30 : decode cX4_back 30 = .ok (.ifCond .ne 23, 3) := by decide +kernel
theorem dX4_back_33 : decode cX4_back 33 = .ok (.aload_n 0, 1) := by decide +kernel
theorem dX4_back_34 : decode cX4_back 34 = .ok (.getfield 16, 3) := by decide +kernel
theorem dX4_back_37 : decode cX4_back 37 = .ok (.invokevirtual 166, 3) := by decide +kernel
theorem dX4_back_40 : decode cX4_back 40 = .ok (.ifCond .ne 13, 3) := by decide +kernel
theorem dX4_back_43 : decode cX4_back 43 = .ok (.aload_n 0, 1) := by decide +kernel
theorem dX4_back_44 : decode cX4_back 44 = .ok (.getfield 19, 3) := by decide +kernel
theorem dX4_back_47 : decode cX4_back 47 = .ok (.invokevirtual 166, 3) := by decide +kernel
theorem dX4_back_50 : decode cX4_back 50 = .ok (.ifCond .eq 13, 3) := by decide +kernel
theorem dX4_back_53 : decode cX4_back 53 = .ok (.new 56, 3) := by decide +kernel
theorem dX4_back_56 : decode cX4_back 56 = .ok (.dup, 1) := by decide +kernel
theorem dX4_back_57 : decode cX4_back 57 = .ok (.ldc 170, 2) := by decide +kernel
theorem dX4_back_59 : decode cX4_back 59 = .ok (.invokespecial 60, 3) := by decide +kernel
theorem dX4_back_62 : decode cX4_back 62 = .ok (.athrow, 1) := by decide +kernel
theorem dX4_back_63 : decode cX4_back 63 = .ok (.aload_n 0, 1) := by decide +kernel
theorem dX4_back_64 : decode cX4_back 64 = .ok (.getfield 38, 3) := by decide +kernel
theorem dX4_back_67 : decode cX4_back 67 = .ok (.iload_n 1, 1) := by decide +kernel
theorem dX4_back_68 : decode cX4_back 68 = .ok (.iaload, 1) := by decide +kernel
theorem dX4_back_69 : decode cX4_back 69 = .ok (.istore_n 3, 1) := by decide +kernel
theorem dX4_back_70 : decode cX4_back 70 = .ok (.aload_n 0, 1) := by decide +kernel
theorem dX4_back_71 : decode cX4_back 71 = .ok (.getfield 38, 3) := by decide +kernel
theorem dX4_back_74 : decode cX4_back 74 = .ok (.iload_n 1, 1) := by decide +kernel
theorem dX4_back_75 : decode cX4_back 75 = .ok (.iload_n 2, 1) := by decide +kernel
theorem dX4_back_76 : decode cX4_back 76 = .ok (.iastore, 1) := by decide +kernel
theorem dX4_back_77 : decode cX4_back 77 = .ok (.iload_n 3, 1) := by decide +kernel
theorem dX4_back_78 : decode cX4_back 78 = .ok (.ireturn, 1) := by decide +kernel
theorem dX4_quota_0 : decode cX4_quota 0 = .ok (.aload_n 0, 1) := by decide +kernel
theorem dX4_quota_1 : decode cX4_quota 1 = .ok (.iload_n 1, 1) := by decide +kernel
theorem dX4_quota_2 : decode cX4_quota 2 = .ok (.invokevirtual 71, 3) := by decide +kernel
theorem dX4_quota_5 : decode cX4_quota 5 = .ok (.astore_n 3, 1) := by decide +kernel
theorem dX4_quota_6 : decode cX4_quota 6 = .ok (.iload_n 2, 1) := by decide +kernel
theorem dX4_quota_7 : decode cX4_quota 7 = .ok (.iconst (-1), 1) := by decide +kernel
theorem dX4_quota_8 : decode cX4_quota 8 = .ok (.if_icmp .lt 9, 3) := by decide +kernel
theorem dX4_quota_11 : decode cX4_quota 11 = .ok (.iload_n 2, 1) := by decide +kernel
theorem dX4_quota_12 : decode cX4_quota 12 = .ok (.bipush 40, 2) := by decide +kernel
theorem dX4_quota_14 : decode cX4_quota 14 = .ok (.if_icmp .le 13, 3) := by decide +kernel
theorem dX4_quota_17 : decode cX4_quota 17 = .ok (.new 172, 3) := by decide +kernel
theorem dX4_quota_20 : decode cX4_quota 20 = .ok (.dup, 1) := by decide +kernel
theorem dX4_quota_21 : decode cX4_quota 21 = .ok (.ldc 174, 2) := by decide +kernel
theorem dX4_quota_23 : decode cX4_quota 23 = .ok (.invokespecial 176, 3) := by decide +kernel
theorem dX4_quota_26 : decode cX4_quota 26 = .ok (.athrow, 1) := by decide +kernel
theorem dX4_quota_27 : decode cX4_quota 27 = .ok (.aload_n 3, 1) := by decide +kernel
theorem dX4_quota_28 : decode cX4_quota 28 = .ok (.getfield 80, 3) := by decide +kernel
theorem dX4_quota_31 : decode cX4_quota 31 = .ok (.istore 4, 2) := by decide +kernel
theorem dX4_quota_33 : decode cX4_quota 33 = .ok (.aload_n 3, 1) := by decide +kernel
theorem dX4_quota_34 : decode cX4_quota 34 = .ok (.iload_n 2, 1) := by decide +kernel
theorem dX4_quota_35 : decode cX4_quota 35 = .ok (.putfield 80, 3) := by decide +kernel
theorem dX4_quota_38 : decode cX4_quota 38 = .ok (.aload_n 0, 1) := by decide +kernel
theorem dX4_quota_39 : decode cX4_quota 39 = .ok (.invokevirtual 108, 3) := by decide +kernel
theorem dX4_quota_42 : decode cX4_quota 42 = .ok (.iload 4, 2) := by decide +kernel
theorem dX4_quota_44 : decode cX4_quota 44 = .ok (.ireturn, 1) := by decide +kernel
theorem dX4_mark_0 : decode cX4_mark 0 = .ok (.aload_n 0, 1) := by decide +kernel
theorem dX4_mark_1 : decode cX4_mark 1 = .ok (.getfield 10, 3) := by decide +kernel
theorem dX4_mark_4 : decode cX4_mark 4 = .ok (.getfield 177, 3) := by decide +kernel
theorem dX4_mark_7 : decode cX4_mark 7 = .ok (.iload_n 1, 1) := by decide +kernel
theorem dX4_mark_8 : decode cX4_mark 8 = .ok (.if_icmp .eq 5, 3) := by decide +kernel
theorem dX4_mark_11 : decode cX4_mark 11 = .ok (.iconst 0, 1) := by decide +kernel
theorem dX4_mark_12 : decode cX4_mark 12 = .ok (.ireturn, 1) := by decide +kernel
theorem dX4_mark_13 : decode cX4_mark 13 = .ok (.aload_n 0, 1) := by decide +kernel
theorem dX4_mark_14 : decode cX4_mark 14 = .ok (.getfield 10, 3) := by decide +kernel
theorem dX4_mark_17 : decode cX4_mark 17 = .ok (.iload_n 2, 1) := by decide +kernel
theorem dX4_mark_18 : decode cX4_mark 18 = .ok (.putfield 177, 3) := by decide +kernel
theorem dX4_mark_21 : decode cX4_mark 21 = .ok (.iconst 1, 1) := by decide +kernel
theorem dX4_mark_22 : decode cX4_mark 22 = .ok (.ireturn, 1) := by decide +kernel
theorem dX4_marked_0 : decode cX4_marked 0 = .ok (.aload_n 0, 1) := by decide +kernel
theorem dX4_marked_1 : decode cX4_marked 1 = .ok (.iload_n 1, 1) := by decide +kernel
theorem dX4_marked_2 : decode cX4_marked 2 = .ok (.invokevirtual 180, 3) := by decide +kernel
theorem dX4_marked_5 : decode cX4_marked 5 = .ok (.getfield 177, 3) := by decide +kernel
theorem dX4_marked_8 : decode cX4_marked 8 = .ok (.ireturn, 1) := by decide +kernel
theorem dX4_commit_0 : decode cX4_commit 0 = .ok (.aload_n 0, 1) := by decide +kernel
theorem dX4_commit_1 : decode cX4_commit 1 = .ok (.invokevirtual 184, 3) := by decide +kernel
theorem dX4_commit_4 : decode cX4_commit 4 = .ok (.aload_n 0, 1) := by decide +kernel
theorem dX4_commit_5 : decode cX4_commit 5 = .ok (.invokevirtual 108, 3) := by decide +kernel
theorem dX4_commit_8 : decode cX4_commit 8 = .ok (.aload_n 0, 1) := by decide +kernel
theorem dX4_commit_9 : decode cX4_commit 9 = .ok (.getfield 187, 3) := by decide +kernel
theorem dX4_commit_12 : decode cX4_commit 12 = .ok (.ireturn, 1) := by decide +kernel
theorem dX4_cut_0 : decode cX4_cut 0 = .ok (.iload_n 1, 1) := by decide +kernel
theorem dX4_cut_1 : decode cX4_cut 1 = .ok (.ifCond .lt 8, 3) := by decide +kernel
theorem dX4_cut_4 : decode cX4_cut 4 = .ok (.iload_n 1, 1) := by decide +kernel
theorem dX4_cut_5 : decode cX4_cut 5 = .ok (.iconst 2, 1) := by decide +kernel
theorem dX4_cut_6 : decode cX4_cut 6 = .ok (.if_icmp .le 13, 3) := by decide +kernel
theorem dX4_cut_9 : decode cX4_cut 9 = .ok (.new 172, 3) := by decide +kernel
theorem dX4_cut_12 : decode cX4_cut 12 = .ok (.dup, 1) := by decide +kernel
theorem dX4_cut_13 : decode cX4_cut 13 = .ok (.ldc 190, 2) := by decide +kernel
theorem dX4_cut_15 : decode cX4_cut 15 = .ok (.invokespecial 176, 3) := by decide +kernel
theorem dX4_cut_18 : decode cX4_cut 18 = .ok (.athrow, 1) := by decide +kernel
theorem dX4_cut_19 : decode cX4_cut 19 = .ok (.iload_n 1, 1) := by decide +kernel
theorem dX4_cut_20 : decode cX4_cut 20 = .ok (.iconst 2, 1) := by decide +kernel
theorem dX4_cut_21 : decode cX4_cut 21 = .ok (.if_icmp .ne 7, 3) := by decide +kernel
theorem dX4_cut_24 : decode cX4_cut 24 = .ok (.aload_n 0, 1) := by decide +kernel
theorem dX4_cut_25 : decode cX4_cut 25 = .ok (.invokevirtual 184, 3) := by decide +kernel
theorem dX4_cut_28 : decode cX4_cut 28 = .ok (.aload_n 0, 1) := by decide +kernel
theorem dX4_cut_29 : decode cX4_cut 29 = .ok (.getfield 10, 3) := by decide +kernel
theorem dX4_cut_32 : decode cX4_cut 32 = .ok (.aload_n 0, 1) := by decide +kernel
theorem dX4_cut_33 : decode cX4_cut 33 = .ok (.getfield 16, 3) := by decide +kernel
theorem dX4_cut_36 : decode cX4_cut 36 = .ok (.invokevirtual 192, 3) := by decide +kernel
theorem dX4_cut_39 : decode cX4_cut 39 = .ok (.aload_n 0, 1) := by decide +kernel
theorem dX4_cut_40 : decode cX4_cut 40 = .ok (.dup, 1) := by decide +kernel
theorem dX4_cut_41 : decode cX4_cut 41 = .ok (.getfield 94, 3) := by decide +kernel
theorem dX4_cut_44 : decode cX4_cut 44 = .ok (.aload_n 0, 1) := by decide +kernel
theorem dX4_cut_45 : decode cX4_cut 45 = .ok (.getfield 34, 3) := by decide +kernel
theorem dX4_cut_48 : decode cX4_cut 48 = .ok (.invokevirtual 196, 3) := by decide +kernel
theorem dX4_cut_51 : decode cX4_cut 51 = .ok (.iadd, 1) := by decide +kernel
theorem dX4_cut_52 : decode cX4_cut 52 = .ok (.putfield 94, 3) := by decide +kernel
theorem dX4_cut_55 : decode cX4_cut 55 = .ok (.aload_n 0, 1) := by decide +kernel
theorem dX4_cut_56 : decode cX4_cut 56 = .ok (.iconst 0, 1) := by decide +kernel
theorem dX4_cut_57 : decode cX4_cut 57 = .ok (.putfield 119, 3) := by decide +kernel
theorem dX4_cut_60 : decode cX4_cut 60 = .ok (.aload_n 0, 1) := by decide +kernel
theorem dX4_cut_61 : decode cX4_cut 61 = .ok (.getfield 27, 3) := by decide +kernel
theorem dX4_cut_64 : decode cX4_cut 64 = .ok (.iconst 0, 1) := by decide +kernel
theorem dX4_cut_65 : decode cX4_cut 65 = .ok (.putfield 161, 3) := by decide +kernel
theorem dX4_cut_68 : decode cX4_cut 68 = .ok (.aload_n 0, 1) := by decide +kernel
theorem dX4_cut_69 : decode cX4_cut 69 = .ok (.getfield 10, 3) := by decide +kernel
theorem dX4_cut_72 : decode cX4_cut 72 = .ok (.getfield 67, 3) := by decide +kernel
theorem dX4_cut_75 : decode cX4_cut 75 = .ok (.ireturn, 1) := by decide +kernel
theorem dX4_hold_0 : decode cX4_hold 0 = .ok (.aload_n 0, 1) := by decide +kernel
theorem dX4_hold_1 : decode cX4_hold 1 = .ok (.getfield 200, 3) := by decide +kernel
theorem dX4_hold_4 : decode cX4_hold 4 = .ok (.ifCond .eq 13, 3) := by decide +kernel
theorem dX4_hold_7 : decode cX4_hold 7 = .ok (.new 56, 3) := by decide +kernel
theorem dX4_hold_10 : decode cX4_hold 10 = .ok (.dup, 1) := by decide +kernel
theorem dX4_hold_11 : decode cX4_hold 11 = .ok (.ldc 203, 2) := by decide +kernel
theorem dX4_hold_13 : decode cX4_hold 13 = .ok (.invokespecial 60, 3) := by decide +kernel
theorem dX4_hold_16 : decode cX4_hold 16 = .ok (.athrow, 1) := by decide +kernel
theorem dX4_hold_17 : decode cX4_hold 17 = .ok (.aload_n 0, 1) := by decide +kernel
theorem dX4_hold_18 : decode cX4_hold 18 = .ok (.getfield 19, 3) := by decide +kernel
theorem dX4_hold_21 : decode cX4_hold 21 = .ok (.aload_n 0, 1) := by decide +kernel
theorem dX4_hold_22 : decode cX4_hold 22 = .ok (.getfield 16, 3) := by decide +kernel
theorem dX4_hold_25 : decode cX4_hold 25 = .ok (.invokevirtual 192, 3) := by decide +kernel
theorem dX4_hold_28 : decode cX4_hold 28 = .ok (.aload_n 0, 1) := by decide +kernel
theorem dX4_hold_29 : decode cX4_hold 29 = .ok (.iconst 1, 1) := by decide +kernel
theorem dX4_hold_30 : decode cX4_hold 30 = .ok (.putfield 200, 3) := by decide +kernel
theorem dX4_hold_33 : decode cX4_hold 33 = .ok (.aload_n 0, 1) := by decide +kernel
theorem dX4_hold_34 : decode cX4_hold 34 = .ok (.getfield 19, 3) := by decide +kernel
theorem dX4_hold_37 : decode cX4_hold 37 = .ok (.getfield 67, 3) := by decide +kernel
theorem dX4_hold_40 : decode cX4_hold 40 = .ok (.ireturn, 1) := by decide +kernel
theorem dX4_release_0 : decode cX4_release 0 = .ok (.aload_n 0, 1) := by decide +kernel
theorem dX4_release_1 : decode cX4_release 1 = .ok (.getfield 200, 3) := by decide +kernel
theorem dX4_release_4 : decode cX4_release 4 = .ok (.istore_n 1, 1) := by decide +kernel
theorem dX4_release_5 : decode cX4_release 5 = .ok (.aload_n 0, 1) := by decide +kernel
theorem dX4_release_6 : decode cX4_release 6 = .ok (.getfield 19, 3) := by decide +kernel
theorem dX4_release_9 : decode cX4_release 9 = .ok (.invokevirtual 205, 3) := by decide +kernel
theorem dX4_release_12 : decode cX4_release 12 = .ok (.aload_n 0, 1) := by decide +kernel
theorem dX4_release_13 : decode cX4_release 13 = .ok (.iconst 0, 1) := by decide +kernel
theorem dX4_release_14 : decode cX4_release 14 = .ok (.putfield 200, 3) := by decide +kernel
theorem dX4_release_17 : decode cX4_release 17 = .ok (.aload_n 0, 1) := by decide +kernel
theorem dX4_release_18 : decode cX4_release 18 = .ok (.invokevirtual 108, 3) := by decide +kernel
theorem dX4_release_21 : decode cX4_release 21 = .ok (.iload_n 1, 1) := by decide +kernel
theorem dX4_release_22 : decode cX4_release 22 = .ok (.ireturn, 1) := by decide +kernel
theorem dX4_patience_0 : decode cX4_patience 0 = .ok (.iload_n 1, 1) := by decide +kernel
theorem dX4_patience_1 : decode cX4_patience 1 = .ok (.ifCond .lt 10, 3) := by decide +kernel
theorem dX4_patience_4 : decode cX4_patience 4 = .ok (.iload_n 1, 1) := by decide +kernel
theorem dX4_patience_5 : decode cX4_patience 5 = .ok (.sipush 1000, 3) := by decide +kernel
theorem dX4_patience_8 : decode cX4_patience 8 = .ok (.if_icmp .le 13, 3) := by decide +kernel
theorem dX4_patience_11 : decode cX4_patience 11 = .ok (.new 172, 3) := by decide +kernel
theorem dX4_patience_14 : decode cX4_patience 14 = .ok (.dup, 1) := by decide +kernel
theorem dX4_patience_15 : decode cX4_patience 15 = .ok (.ldc 208, 2) := by decide +kernel
theorem dX4_patience_17 : decode cX4_patience 17 = .ok (.invokespecial 176, 3) := by decide +kernel
theorem dX4_patience_20 : decode cX4_patience 20 = .ok (.athrow, 1) := by decide +kernel
theorem dX4_patience_21 : decode cX4_patience 21 = .ok (.aload_n 0, 1) := by decide +kernel
theorem dX4_patience_22 : decode cX4_patience 22 = .ok (.getfield 210, 3) := by decide +kernel
theorem dX4_patience_25 : decode cX4_patience 25 = .ok (.istore_n 2, 1) := by decide +kernel
theorem dX4_patience_26 : decode cX4_patience 26 = .ok (.aload_n 0, 1) := by decide +kernel
theorem dX4_patience_27 : decode cX4_patience 27 = .ok (.iload_n 1, 1) := by decide +kernel
theorem dX4_patience_28 : decode cX4_patience 28 = .ok (.putfield 210, 3) := by decide +kernel
theorem dX4_patience_31 : decode cX4_patience 31 = .ok (.iload_n 2, 1) := by decide +kernel
theorem dX4_patience_32 : decode cX4_patience 32 = .ok (.ireturn, 1) := by decide +kernel
theorem dX4_alarm_0 : decode cX4_alarm 0 = .ok (.iload_n 1, 1) := by decide +kernel
theorem dX4_alarm_1 : decode cX4_alarm 1 = .ok (.ifCond .lt 9, 3) := by decide +kernel
theorem dX4_alarm_4 : decode cX4_alarm 4 = .ok (.iload_n 1, 1) := by decide +kernel
theorem dX4_alarm_5 : decode cX4_alarm 5 = .ok (.bipush 96, 2) := by decide +kernel
theorem dX4_alarm_7 : decode cX4_alarm 7 = .ok (.if_icmp .le 13, 3) := by decide +kernel
theorem dX4_alarm_10 : decode cX4_alarm 10 = .ok (.new 172, 3) := by decide +kernel
theorem dX4_alarm_13 : decode cX4_alarm 13 = .ok (.dup, 1) := by decide +kernel
theorem dX4_alarm_14 : decode cX4_alarm 14 = .ok (.ldc 213, 2) := by decide +kernel
theorem dX4_alarm_16 : decode cX4_alarm 16 = .ok (.invokespecial 176, 3) := by decide +kernel
theorem dX4_alarm_19 : decode cX4_alarm 19 = .ok (.athrow, 1) := by decide +kernel
theorem dX4_alarm_20 : decode cX4_alarm 20 = .ok (.aload_n 0, 1) := by decide +kernel
theorem dX4_alarm_21 : decode cX4_alarm 21 = .ok (.getfield 27, 3) := by decide +kernel
theorem dX4_alarm_24 : decode cX4_alarm 24 = .ok (.getfield 215, 3) := by decide +kernel
theorem dX4_alarm_27 : decode cX4_alarm 27 = .ok (.istore_n 2, 1) := by decide +kernel
theorem dX4_alarm_28 : decode cX4_alarm 28 = .ok (.aload_n 0, 1) := by decide +kernel
theorem dX4_alarm_29 : decode cX4_alarm 29 = .ok (.getfield 27, 3) := by decide +kernel
theorem dX4_alarm_32 : decode cX4_alarm 32 = .ok (.iload_n 1, 1) := by decide +kernel
theorem dX4_alarm_33 : decode cX4_alarm 33 = .ok (.putfield 215, 3) := by decide +kernel
theorem dX4_alarm_36 : decode cX4_alarm 36 = .ok (.iload_n 2, 1) := by decide +kernel
theorem dX4_alarm_37 : decode cX4_alarm 37 = .ok (.ireturn, 1) := by decide +kernel
theorem dX4_tick_0 : decode cX4_tick 0 = .ok (.iload_n 1, 1) := by decide +kernel
theorem dX4_tick_1 : decode cX4_tick 1 = .ok (.ifCond .lt 10, 3) := by decide +kernel
theorem dX4_tick_4 : decode cX4_tick 4 = .ok (.iload_n 1, 1) := by decide +kernel
theorem dX4_tick_5 : decode cX4_tick 5 = .ok (.sipush 10000, 3) := by decide +kernel
theorem dX4_tick_8 : decode cX4_tick 8 = .ok (.if_icmp .le 13, 3) := by decide +kernel
theorem dX4_tick_11 : decode cX4_tick 11 = .ok (.new 172, 3) := by decide +kernel
theorem dX4_tick_14 : decode cX4_tick 14 = .ok (.dup, 1) := by decide +kernel
theorem dX4_tick_15 : decode cX4_tick 15 = .ok (.ldc 218, 2) := by decide +kernel
theorem dX4_tick_17 : decode cX4_tick 17 = .ok (.invokespecial 176, 3) := by decide +kernel
theorem dX4_tick_20 : decode cX4_tick 20 = .ok (.athrow, 1) := by decide +kernel
theorem dX4_tick_21 : decode cX4_tick 21 = .ok (.aload_n 0, 1) := by decide +kernel
theorem dX4_tick_22 : decode cX4_tick 22 = .ok (.dup, 1) := by decide +kernel
theorem dX4_tick_23 : decode cX4_tick 23 = .ok (.getfield 220, 3) := by decide +kernel
theorem dX4_tick_26 : decode cX4_tick 26 = .ok (.iload_n 1, 1) := by decide +kernel
theorem dX4_tick_27 : decode cX4_tick 27 = .ok (.iadd, 1) := by decide +kernel
theorem dX4_tick_28 : decode cX4_tick 28 = .ok (.putfield 220, 3) := by decide +kernel
theorem dX4_tick_31 : decode cX4_tick 31 = .ok (.aload_n 0, 1) := by decide +kernel
theorem dX4_tick_32 : decode cX4_tick 32 = .ok (.getfield 119, 3) := by decide +kernel
theorem dX4_tick_35 : decode cX4_tick 35 = .ok (.iconst 1, 1) := by decide +kernel
theorem dX4_tick_36 : decode cX4_tick 36 = .ok (.if_icmp .ne 14, 3) := by decide +kernel
theorem dX4_tick_39 : decode cX4_tick 39 = .ok (.aload_n 0, 1) := by decide +kernel
theorem dX4_tick_40 : decode cX4_tick 40 = .ok (.getfield 220, 3) := by decide +kernel
theorem dX4_tick_43 : decode cX4_tick 43 = .ok (.aload_n 0, 1) := by decide +kernel
theorem dX4_tick_44 : decode cX4_tick 44 = .ok (.getfield 223, 3) := by decide +kernel
theorem dX4_tick_47 : decode cX4_tick 47 = .ok (.if_icmp .ge 5, 3) := by decide +kernel
theorem dX4_tick_50 : decode cX4_tick 50 = .ok (.iconst 0, 1) := by decide +kernel
theorem dX4_tick_51 : decode cX4_tick 51 = .ok (.ireturn, 1) := by decide +kernel
theorem dX4_tick_52 : decode cX4_tick 52 = .ok (.aload_n 0, 1) := by decide +kernel
theorem dX4_tick_53 : decode cX4_tick 53 = .ok (.getfield 34, 3) := by decide +kernel
theorem dX4_tick_56 : decode cX4_tick 56 = .ok (.invokevirtual 196, 3) := by decide +kernel
theorem dX4_tick_59 : decode cX4_tick 59 = .ok (.istore_n 2, 1) := by decide +kernel
theorem dX4_tick_60 : decode cX4_tick 60 = .ok (.aload_n 0, 1) := by decide +kernel
theorem dX4_tick_61 : decode cX4_tick 61 = .ok (.dup, 1) := by decide +kernel
theorem dX4_tick_62 : decode cX4_tick 62 = .ok (.getfield 94, 3) := by decide +kernel
theorem dX4_tick_65 : decode cX4_tick 65 = .ok (.iload_n 2, 1) := by decide +kernel
theorem dX4_tick_66 : decode cX4_tick 66 = .ok (.iadd, 1) := by decide +kernel
theorem dX4_tick_67 : decode cX4_tick 67 = .ok (.putfield 94, 3) := by decide +kernel
theorem dX4_tick_70 : decode cX4_tick 70 = .ok (.aload_n 0, 1) := by decide +kernel
theorem dX4_tick_71 : decode cX4_tick 71 = .ok (.iconst 2, 1) := by decide +kernel
theorem dX4_tick_72 : decode cX4_tick 72 = .ok (.putfield 119, 3) := by decide +kernel
theorem dX4_tick_75 : decode cX4_tick 75 = .ok (.iload_n 2, 1) := by decide +kernel
theorem dX4_tick_76 : decode cX4_tick 76 = .ok (.ireturn, 1) := by decide +kernel
theorem dX4_map_0 : decode cX4_map 0 = .ok (.aload_n 0, 1) := by decide +kernel
theorem dX4_map_1 : decode cX4_map 1 = .ok (.iload_n 1, 1) := by decide +kernel
theorem dX4_map_2 : decode cX4_map 2 = .ok (.invokevirtual 180, 3) := by decide +kernel
theorem dX4_map_5 : decode cX4_map 5 = .ok (.astore 4, 2) := by decide +kernel
theorem dX4_map_7 : decode cX4_map 7 = .ok (.aload 4, 2) := by decide +kernel
theorem dX4_map_9 : decode cX4_map 9 = .ok (.iload_n 2, 1) := by decide +kernel
theorem dX4_map_10 : decode cX4_map 10 = .ok (.invokevirtual 226, 3) := by decide +kernel
theorem dX4_map_13 : decode cX4_map 13 = .ok (.astore 5, 2) := by decide +kernel
theorem dX4_map_15 : decode cX4_map 15 = .ok (.aload 5, 2) := by decide +kernel
theorem dX4_map_17 : decode cX4_map 17 = .ok (.ifnull 13, 3) := by decide +kernel
theorem dX4_map_20 : decode cX4_map 20 = .ok (.iload_n 3, 1) := by decide +kernel
theorem dX4_map_21 : decode cX4_map 21 = .ok (.ifCond .lt 9, 3) := by decide +kernel
theorem dX4_map_24 : decode cX4_map 24 = .ok (.iload_n 3, 1) := by decide +kernel
theorem dX4_map_25 : decode cX4_map 25 = .ok (.bipush 40, 2) := by decide +kernel
theorem dX4_map_27 : decode cX4_map 27 = .ok (.if_icmp .lt 13, 3) := by decide +kernel
theorem dX4_map_30 : decode cX4_map 30 = .ok (.new 148, 3) := by decide +kernel
theorem dX4_map_33 : decode cX4_map 33 = .ok (.dup, 1) := by decide +kernel
theorem dX4_map_34 : decode cX4_map 34 = .ok (.ldc 229, 2) := by decide +kernel
theorem dX4_map_36 : decode cX4_map 36 = .ok (.invokespecial 152, 3) := by decide +kernel
theorem dX4_map_39 : decode cX4_map 39 = .ok (.athrow, 1) := by decide +kernel
theorem dX4_map_40 : decode cX4_map 40 = .ok (.aload 5, 2) := by decide +kernel
theorem dX4_map_42 : decode cX4_map 42 = .ok (.iload_n 3, 1) := by decide +kernel
theorem dX4_map_43 : decode cX4_map 43 = .ok (.invokevirtual 83, 3) := by decide +kernel
theorem dX4_map_46 : decode cX4_map 46 = .ok (.ireturn, 1) := by decide +kernel
theorem dX4_volume_0 : decode cX4_volume 0 = .ok (.aload_n 0, 1) := by decide +kernel
theorem dX4_volume_1 : decode cX4_volume 1 = .ok (.iload_n 1, 1) := by decide +kernel
theorem dX4_volume_2 : decode cX4_volume 2 = .ok (.invokevirtual 71, 3) := by decide +kernel
theorem dX4_volume_5 : decode cX4_volume 5 = .ok (.astore_n 3, 1) := by decide +kernel
theorem dX4_volume_6 : decode cX4_volume 6 = .ok (.iload_n 2, 1) := by decide +kernel
theorem dX4_volume_7 : decode cX4_volume 7 = .ok (.tableswitch 98 0 7 #[45, 50, 55, 60, 66, 71, 80, 93], 45) := by decide +kernel
theorem dX4_volume_52 : decode cX4_volume 52 = .ok (.aload_n 3, 1) := by decide +kernel
theorem dX4_volume_53 : decode cX4_volume 53 = .ok (.getfield 74, 3) := by decide +kernel
theorem dX4_volume_56 : decode cX4_volume 56 = .ok (.ireturn, 1) := by decide +kernel
theorem dX4_volume_57 : decode cX4_volume 57 = .ok (.aload_n 3, 1) := by decide +kernel
theorem dX4_volume_58 : decode cX4_volume 58 = .ok (.getfield 91, 3) := by decide +kernel
theorem dX4_volume_61 : decode cX4_volume 61 = .ok (.ireturn, 1) := by decide +kernel
theorem dX4_volume_62 : decode cX4_volume 62 = .ok (.aload_n 3, 1) := by decide +kernel
theorem dX4_volume_63 : decode cX4_volume 63 = .ok (.invokevirtual 231, 3) := by decide +kernel
theorem dX4_volume_66 : decode cX4_volume 66 = .ok (.ireturn, 1) := by decide +kernel
theorem dX4_volume_67 : decode cX4_volume 67 = .ok (.aload_n 0, 1) := by decide +kernel
theorem dX4_volume_68 : decode cX4_volume 68 = .ok (.aload_n 3, 1) := by decide +kernel
theorem dX4_volume_69 : decode cX4_volume 69 = .ok (.invokevirtual 234, 3) := by decide +kernel
theorem dX4_volume_72 : decode cX4_volume 72 = .ok (.ireturn, 1) := by decide +kernel
theorem dX4_volume_73 : decode cX4_volume 73 = .ok (.aload_n 3, 1) := by decide +kernel
theorem dX4_volume_74 : decode cX4_volume 74 = .ok (.getfield 238, 3) := by decide +kernel
theorem dX4_volume_77 : decode cX4_volume 77 = .ok (.ireturn, 1) := by decide +kernel
theorem dX4_volume_78 : decode cX4_volume 78 = .ok (.aload_n 0, 1) := by decide +kernel
theorem dX4_volume_79 : decode cX4_volume 79 = .ok (.getfield 34, 3) := by decide +kernel
theorem dX4_volume_82 : decode cX4_volume 82 = .ok (.iload_n 1, 1) := by decide +kernel
theorem dX4_volume_83 : decode cX4_volume 83 = .ok (.invokevirtual 241, 3) := by decide +kernel
theorem dX4_volume_86 : decode cX4_volume 86 = .ok (.ireturn, 1) := by decide +kernel
theorem dX4_volume_87 : decode cX4_volume 87 = .ok (.aload_n 3, 1) := by decide +kernel
theorem dX4_volume_88 : decode cX4_volume 88 = .ok (.getfield 77, 3) := by decide +kernel
theorem dX4_volume_91 : decode cX4_volume 91 = .ok (.ifCond .eq 7, 3) := by decide +kernel
theorem dX4_volume_94 : decode cX4_volume 94 = .ok (.iconst 1, 1) := by decide +kernel
theorem dX4_volume_95 : decode cX4_volume 95 = .ok (.goto 4, 3) := by decide +kernel
theorem dX4_volume_98 : decode cX4_volume 98 = .ok (.iconst 0, 1) := by decide +kernel
theorem dX4_volume_99 : decode cX4_volume 99 = .ok (.ireturn, 1) := by decide +kernel
theorem dX4_volume_100 : decode cX4_volume 100 = .ok (.aload_n 3, 1) := by decide +kernel
theorem dX4_volume_101 : decode cX4_volume 101 = .ok (.getfield 80, 3) := by decide +kernel
theorem dX4_volume_104 : decode cX4_volume 104 = .ok (.ireturn, 1) := by decide +kernel
theorem dX4_volume_105 : decode cX4_volume 105 = .ok (.new 148, 3) := by decide +kernel
theorem dX4_volume_108 : decode cX4_volume 108 = .ok (.dup, 1) := by decide +kernel
theorem dX4_volume_109 : decode cX4_volume 109 = .ok (.ldc 244, 2) := by decide +kernel
theorem dX4_volume_111 : decode cX4_volume 111 = .ok (.invokespecial 152, 3) := by decide +kernel
theorem dX4_volume_114 : decode cX4_volume 114 = .ok (.athrow, 1) := by decide +kernel
theorem dX4_differ_0 : decode cX4_differ 0 = .ok (.aload_n 0, 1) := by decide +kernel
theorem dX4_differ_1 : decode cX4_differ 1 = .ok (.iload_n 1, 1) := by decide +kernel
theorem dX4_differ_2 : decode cX4_differ 2 = .ok (.invokevirtual 71, 3) := by decide +kernel
theorem dX4_differ_5 : decode cX4_differ 5 = .ok (.astore 4, 2) := by decide +kernel
theorem dX4_differ_7 : decode cX4_differ 7 = .ok (.aload_n 0, 1) := by decide +kernel
theorem dX4_differ_8 : decode cX4_differ 8 = .ok (.iload_n 2, 1) := by decide +kernel
theorem dX4_differ_9 : decode cX4_differ 9 = .ok (.invokevirtual 71, 3) := by decide +kernel
theorem dX4_differ_12 : decode cX4_differ 12 = .ok (.astore 5, 2) := by decide +kernel
theorem dX4_differ_14 : decode cX4_differ 14 = .ok (.iload_n 3, 1) := by decide +kernel
theorem dX4_differ_15 : decode cX4_differ 15 = .ok (.ifCond .lt 8, 3) := by decide +kernel
theorem dX4_differ_18 : decode cX4_differ 18 = .ok (.iload_n 3, 1) := by decide +kernel
theorem dX4_differ_19 : decode cX4_differ 19 = .ok (.iconst 4, 1) := by decide +kernel
theorem dX4_differ_20 : decode cX4_differ 20 = .ok (.if_icmp .le 13, 3) := by decide +kernel
theorem dX4_differ_23 : decode cX4_differ 23 = .ok (.new 148, 3) := by decide +kernel
theorem dX4_differ_26 : decode cX4_differ 26 = .ok (.dup, 1) := by decide +kernel
theorem dX4_differ_27 : decode cX4_differ 27 = .ok (.ldc 244, 2) := by decide +kernel
theorem dX4_differ_29 : decode cX4_differ 29 = .ok (.invokespecial 152, 3) := by decide +kernel
theorem dX4_differ_32 : decode cX4_differ 32 = .ok (.athrow, 1) := by decide +kernel
theorem dX4_differ_33 : decode cX4_differ 33 = .ok (.iload_n 3, 1) := by decide +kernel
theorem dX4_differ_34 : decode cX4_differ 34 = .ok (.iconst 4, 1) := by decide +kernel
theorem dX4_differ_35 : decode cX4_differ 35 = .ok (.if_icmp .ne 14, 3) := by decide +kernel
theorem dX4_differ_38 : decode cX4_differ 38 = .ok (.aload_n 0, 1) := by decide +kernel
theorem dX4_differ_39 : decode cX4_differ 39 = .ok (.aload 4, 2) := by decide +kernel
theorem dX4_differ_41 : decode cX4_differ 41 = .ok (.aload 5, 2) := by decide +kernel
theorem dX4_differ_43 : decode cX4_differ 43 = .ok (.invokevirtual 246, 3) := by decide +kernel
theorem dX4_differ_46 : decode cX4_differ 46 = .ok (.goto 12, 3) := by decide +kernel
theorem dX4_differ_49 : decode cX4_differ 49 = .ok (.aload_n 0, 1) := by decide +kernel
theorem dX4_differ_50 : decode cX4_differ 50 = .ok (.aload 4, 2) := by decide +kernel
theorem dX4_differ_52 : decode cX4_differ 52 = .ok (.aload 5, 2) := by decide +kernel
theorem dX4_differ_54 : decode cX4_differ 54 = .ok (.iload_n 3, 1) := by decide +kernel
theorem dX4_differ_55 : decode cX4_differ 55 = .ok (.invokevirtual 250, 3) := by decide +kernel
theorem dX4_differ_58 : decode cX4_differ 58 = .ok (.ireturn, 1) := by decide +kernel
theorem dX4_users_0 : decode cX4_users 0 = .ok (.aload_n 0, 1) := by decide +kernel
theorem dX4_users_1 : decode cX4_users 1 = .ok (.iload_n 1, 1) := by decide +kernel
theorem dX4_users_2 : decode cX4_users 2 = .ok (.invokevirtual 254, 3) := by decide +kernel
theorem dX4_users_5 : decode cX4_users 5 = .ok (.aload_n 0, 1) := by decide +kernel
theorem dX4_users_6 : decode cX4_users 6 = .ok (.getfield 10, 3) := by decide +kernel
theorem dX4_users_9 : decode cX4_users 9 = .ok (.iload_n 1, 1) := by decide +kernel
theorem dX4_users_10 : decode cX4_users 10 = .ok (.invokevirtual 257, 3) := by decide +kernel
theorem dX4_users_13 : decode cX4_users 13 = .ok (.ireturn, 1) := by decide +kernel
theorem dX4_user_0 : decode cX4_user 0 = .ok (.aload_n 0, 1) := by decide +kernel
theorem dX4_user_1 : decode cX4_user 1 = .ok (.iload_n 1, 1) := by decide +kernel
theorem dX4_user_2 : decode cX4_user 2 = .ok (.invokevirtual 254, 3) := by decide +kernel
theorem dX4_user_5 : decode cX4_user 5 = .ok (.aload_n 0, 1) := by decide +kernel
theorem dX4_user_6 : decode cX4_user 6 = .ok (.getfield 10, 3) := by decide +kernel
theorem dX4_user_9 : decode cX4_user 9 = .ok (.iload_n 1, 1) := by decide +kernel
theorem dX4_user_10 : decode cX4_user 10 = .ok (.iload_n 2, 1) := by decide +kernel
theorem dX4_user_11 : decode cX4_user 11 = .ok (.invokevirtual 260, 3) := by decide +kernel
theorem dX4_user_14 : decode cX4_user 14 = .ok (.ireturn, 1) := by decide +kernel
theorem dX4_told_0 : decode cX4_told 0 = .ok (.iload_n 1, 1) := by decide +kernel
theorem dX4_told_1 : decode cX4_told 1 = .ok (.tableswitch 193 0 13 #[71, 79, 87, 92, 100, 105, 113, 121, 129, 137, 145, 153, 166, 171], 71) := by decide +kernel
theorem dX4_told_72 : decode cX4_told 72 = .ok (.aload_n 0, 1) := by decide +kernel
theorem dX4_told_73 : decode cX4_told 73 = .ok (.getfield 27, 3) := by decide +kernel
theorem dX4_told_76 : decode cX4_told 76 = .ok (.getfield 156, 3) := by decide +kernel
theorem dX4_told_79 : decode cX4_told 79 = .ok (.ireturn, 1) := by decide +kernel
theorem dX4_told_80 : decode cX4_told 80 = .ok (.aload_n 0, 1) := by decide +kernel
theorem dX4_told_81 : decode cX4_told 81 = .ok (.getfield 27, 3) := by decide +kernel
theorem dX4_told_84 : decode cX4_told 84 = .ok (.invokevirtual 264, 3) := by decide +kernel
theorem dX4_told_87 : decode cX4_told 87 = .ok (.ireturn, 1) := by decide +kernel
theorem dX4_told_88 : decode cX4_told 88 = .ok (.aload_n 0, 1) := by decide +kernel
theorem dX4_told_89 : decode cX4_told 89 = .ok (.getfield 119, 3) := by decide +kernel
theorem dX4_told_92 : decode cX4_told 92 = .ok (.ireturn, 1) := by decide +kernel
theorem dX4_told_93 : decode cX4_told 93 = .ok (.aload_n 0, 1) := by decide +kernel
theorem dX4_told_94 : decode cX4_told 94 = .ok (.getfield 34, 3) := by decide +kernel
theorem dX4_told_97 : decode cX4_told 97 = .ok (.getfield 267, 3) := by decide +kernel
theorem dX4_told_100 : decode cX4_told 100 = .ok (.ireturn, 1) := by decide +kernel
theorem dX4_told_101 : decode cX4_told 101 = .ok (.aload_n 0, 1) := by decide +kernel
theorem dX4_told_102 : decode cX4_told 102 = .ok (.getfield 94, 3) := by decide +kernel
theorem dX4_told_105 : decode cX4_told 105 = .ok (.ireturn, 1) := by decide +kernel
theorem dX4_told_106 : decode cX4_told 106 = .ok (.aload_n 0, 1) := by decide +kernel
theorem dX4_told_107 : decode cX4_told 107 = .ok (.getfield 27, 3) := by decide +kernel
theorem dX4_told_110 : decode cX4_told 110 = .ok (.getfield 268, 3) := by decide +kernel
theorem dX4_told_113 : decode cX4_told 113 = .ok (.ireturn, 1) := by decide +kernel
theorem dX4_told_114 : decode cX4_told 114 = .ok (.aload_n 0, 1) := by decide +kernel
theorem dX4_told_115 : decode cX4_told 115 = .ok (.getfield 27, 3) := by decide +kernel
theorem dX4_told_118 : decode cX4_told 118 = .ok (.getfield 161, 3) := by decide +kernel
theorem dX4_told_121 : decode cX4_told 121 = .ok (.ireturn, 1) := by decide +kernel
theorem dX4_told_122 : decode cX4_told 122 = .ok (.aload_n 0, 1) := by decide +kernel
theorem dX4_told_123 : decode cX4_told 123 = .ok (.getfield 27, 3) := by decide +kernel
theorem dX4_told_126 : decode cX4_told 126 = .ok (.getfield 271, 3) := by decide +kernel
theorem dX4_told_129 : decode cX4_told 129 = .ok (.ireturn, 1) := by decide +kernel
theorem dX4_told_130 : decode cX4_told 130 = .ok (.aload_n 0, 1) := by decide +kernel
theorem dX4_told_131 : decode cX4_told 131 = .ok (.getfield 10, 3) := by decide +kernel
theorem dX4_told_134 : decode cX4_told 134 = .ok (.getfield 67, 3) := by decide +kernel
theorem dX4_told_137 : decode cX4_told 137 = .ok (.ireturn, 1) := by decide +kernel
theorem dX4_told_138 : decode cX4_told 138 = .ok (.aload_n 0, 1) := by decide +kernel
theorem dX4_told_139 : decode cX4_told 139 = .ok (.getfield 16, 3) := by decide +kernel
theorem dX4_told_142 : decode cX4_told 142 = .ok (.getfield 67, 3) := by decide +kernel
theorem dX4_told_145 : decode cX4_told 145 = .ok (.ireturn, 1) := by decide +kernel
theorem dX4_told_146 : decode cX4_told 146 = .ok (.aload_n 0, 1) := by decide +kernel
theorem dX4_told_147 : decode cX4_told 147 = .ok (.getfield 19, 3) := by decide +kernel
theorem dX4_told_150 : decode cX4_told 150 = .ok (.getfield 67, 3) := by decide +kernel
theorem dX4_told_153 : decode cX4_told 153 = .ok (.ireturn, 1) := by decide +kernel
theorem dX4_told_154 : decode cX4_told 154 = .ok (.aload_n 0, 1) := by decide +kernel
theorem dX4_told_155 : decode cX4_told 155 = .ok (.getfield 200, 3) := by decide +kernel
theorem dX4_told_158 : decode cX4_told 158 = .ok (.ifCond .eq 7, 3) := by decide +kernel
theorem dX4_told_161 : decode cX4_told 161 = .ok (.iconst 1, 1) := by decide +kernel
theorem dX4_told_162 : decode cX4_told 162 = .ok (.goto 4, 3) := by decide +kernel
theorem dX4_told_165 : decode cX4_told 165 = .ok (.iconst 0, 1) := by decide +kernel
theorem dX4_told_166 : decode cX4_told 166 = .ok (.ireturn, 1) := by decide +kernel
theorem dX4_told_167 : decode cX4_told 167 = .ok (.aload_n 0, 1) := by decide +kernel
theorem dX4_told_168 : decode cX4_told 168 = .ok (.getfield 220, 3) := by decide +kernel
theorem dX4_told_171 : decode cX4_told 171 = .ok (.ireturn, 1) := by decide +kernel
theorem dX4_told_172 : decode cX4_told 172 = .ok (.aload_n 0, 1) := by decide +kernel
theorem dX4_told_173 : decode cX4_told 173 = .ok (.getfield 119, 3) := by decide +kernel
theorem dX4_told_176 : decode cX4_told 176 = .ok (.iconst 1, 1) := by decide +kernel
theorem dX4_told_177 : decode cX4_told 177 = .ok (.if_icmp .ne 15, 3) := by decide +kernel
theorem dX4_told_180 : decode cX4_told 180 = .ok (.aload_n 0, 1) := by decide +kernel
theorem dX4_told_181 : decode cX4_told 181 = .ok (.getfield 223, 3) := by decide +kernel
theorem dX4_told_184 : decode cX4_told 184 = .ok (.aload_n 0, 1) := by decide +kernel
theorem dX4_told_185 : decode cX4_told 185 = .ok (.getfield 220, 3) := by decide +kernel
theorem dX4_told_188 : decode cX4_told 188 = .ok (.isub, 1) := by decide +kernel
theorem dX4_told_189 : decode cX4_told 189 = .ok (.goto 4, 3) := by decide +kernel
theorem dX4_told_192 : decode cX4_told 192 = .ok (.iconst 0, 1) := by decide +kernel
theorem dX4_told_193 : decode cX4_told 193 = .ok (.ireturn, 1) := by decide +kernel
theorem dX4_told_194 : decode cX4_told 194 = .ok (.new 148, 3) := by decide +kernel
theorem dX4_told_197 : decode cX4_told 197 = .ok (.dup, 1) := by decide +kernel
theorem dX4_told_198 : decode cX4_told 198 = .ok (.ldc 244, 2) := by decide +kernel
theorem dX4_told_200 : decode cX4_told 200 = .ok (.invokespecial 152, 3) := by decide +kernel
theorem dX4_told_203 : decode cX4_told 203 = .ok (.athrow, 1) := by decide +kernel
theorem dX4_numbered_0 : decode cX4_numbered 0 = .ok (.aload_n 0, 1) := by decide +kernel
theorem dX4_numbered_1 : decode cX4_numbered 1 = .ok (.getfield 10, 3) := by decide +kernel
theorem dX4_numbered_4 : decode cX4_numbered 4 = .ok (.iload_n 1, 1) := by decide +kernel
theorem dX4_numbered_5 : decode cX4_numbered 5 = .ok (.invokevirtual 226, 3) := by decide +kernel
theorem dX4_numbered_8 : decode cX4_numbered 8 = .ok (.astore_n 2, 1) := by decide +kernel
theorem dX4_numbered_9 : decode cX4_numbered 9 = .ok (.aload_n 2, 1) := by decide +kernel
theorem dX4_numbered_10 : decode cX4_numbered 10 = .ok (.ifnonnull 14, 3) := by decide +kernel
theorem dX4_numbered_13 : decode cX4_numbered 13 = .ok (.new 148, 3) := by decide +kernel
theorem dX4_numbered_16 : decode cX4_numbered 16 = .ok (.dup, 1) := by decide +kernel
theorem dX4_numbered_17 : decode cX4_numbered 17 = .ok (.ldc_w 274, 3) := by decide +kernel
theorem dX4_numbered_20 : decode cX4_numbered 20 = .ok (.invokespecial 152, 3) := by decide +kernel
theorem dX4_numbered_23 : decode cX4_numbered 23 = .ok (.athrow, 1) := by decide +kernel
theorem dX4_numbered_24 : decode cX4_numbered 24 = .ok (.aload_n 2, 1) := by decide +kernel
theorem dX4_numbered_25 : decode cX4_numbered 25 = .ok (.areturn, 1) := by decide +kernel
theorem dX4_existing_0 : decode cX4_existing 0 = .ok (.aload_n 0, 1) := by decide +kernel
theorem dX4_existing_1 : decode cX4_existing 1 = .ok (.getfield 10, 3) := by decide +kernel
theorem dX4_existing_4 : decode cX4_existing 4 = .ok (.iload_n 1, 1) := by decide +kernel
theorem dX4_existing_5 : decode cX4_existing 5 = .ok (.invokevirtual 276, 3) := by decide +kernel
theorem dX4_existing_8 : decode cX4_existing 8 = .ok (.astore_n 2, 1) := by decide +kernel
theorem dX4_existing_9 : decode cX4_existing 9 = .ok (.aload_n 2, 1) := by decide +kernel
theorem dX4_existing_10 : decode cX4_existing 10 = .ok (.ifnonnull 14, 3) := by decide +kernel
theorem dX4_existing_13 : decode cX4_existing 13 = .ok (.new 148, 3) := by decide +kernel
theorem dX4_existing_16 : decode cX4_existing 16 = .ok (.dup, 1) := by decide +kernel
theorem dX4_existing_17 : decode cX4_existing 17 = .ok (.ldc_w 279, 3) := by decide +kernel
theorem dX4_existing_20 : decode cX4_existing 20 = .ok (.invokespecial 152, 3) := by decide +kernel
theorem dX4_existing_23 : decode cX4_existing 23 = .ok (.athrow, 1) := by decide +kernel
theorem dX4_existing_24 : decode cX4_existing 24 = .ok (.aload_n 2, 1) := by decide +kernel
theorem dX4_existing_25 : decode cX4_existing 25 = .ok (.areturn, 1) := by decide +kernel
theorem dX4_requireSize_0 : decode cX4_requireSize 0 = .ok (.iload_n 1, 1) := by decide +kernel
theorem dX4_requireSize_1 : decode cX4_requireSize 1 = .ok (.iconst 1, 1) := by decide +kernel
theorem dX4_requireSize_2 : decode cX4_requireSize 2 = .ok (.if_icmp .lt 9, 3) := by decide +kernel
theorem dX4_requireSize_5 : decode cX4_requireSize 5 = .ok (.iload_n 1, 1) := by decide +kernel
theorem dX4_requireSize_6 : decode cX4_requireSize 6 = .ok (.bipush 40, 2) := by decide +kernel
theorem dX4_requireSize_8 : decode cX4_requireSize 8 = .ok (.if_icmp .le 14, 3) := by decide +kernel
theorem dX4_requireSize_11 : decode cX4_requireSize 11 = .ok (.new 172, 3) := by decide +kernel
theorem dX4_requireSize_14 : decode cX4_requireSize 14 = .ok (.dup, 1) := by decide +kernel
theorem dX4_requireSize_15 : decode cX4_requireSize 15 = .ok (.ldc_w 281, 3) := by decide +kernel
theorem dX4_requireSize_18 : decode cX4_requireSize 18 = .ok (.invokespecial 176, 3) := by decide +kernel
theorem dX4_requireSize_21 : decode cX4_requireSize 21 = .ok (.athrow, 1) := by decide +kernel
theorem dX4_requireSize_22 : decode cX4_requireSize 22 = .ok (.return_, 1) := by decide +kernel
theorem dX4_requireWord_0 : decode cX4_requireWord 0 = .ok (.iload_n 2, 1) := by decide +kernel
theorem dX4_requireWord_1 : decode cX4_requireWord 1 = .ok (.ifCond .lt 13, 3) := by decide +kernel
theorem dX4_requireWord_4 : decode cX4_requireWord 4 = .ok (.iload_n 2, 1) := by decide +kernel
theorem dX4_requireWord_5 : decode cX4_requireWord 5 = .ok (.aload_n 1, 1) := by decide +kernel
theorem dX4_requireWord_6 : decode cX4_requireWord 6 = .ok (.getfield 74, 3) := by decide +kernel
theorem dX4_requireWord_9 : decode cX4_requireWord 9 = .ok (.iconst 4, 1) := by decide +kernel
theorem dX4_requireWord_10 : decode cX4_requireWord 10 = .ok (.imul, 1) := by decide +kernel
theorem dX4_requireWord_11 : decode cX4_requireWord 11 = .ok (.if_icmp .lt 14, 3) := by decide +kernel
theorem dX4_requireWord_14 : decode cX4_requireWord 14 = .ok (.new 148, 3) := by decide +kernel
theorem dX4_requireWord_17 : decode cX4_requireWord 17 = .ok (.dup, 1) := by decide +kernel
theorem dX4_requireWord_18 : decode cX4_requireWord 18 = .ok (.ldc_w 283, 3) := by decide +kernel
theorem dX4_requireWord_21 : decode cX4_requireWord 21 = .ok (.invokespecial 152, 3) := by decide +kernel
theorem dX4_requireWord_24 : decode cX4_requireWord 24 = .ok (.athrow, 1) := by decide +kernel
theorem dX4_requireWord_25 : decode cX4_requireWord 25 = .ok (.return_, 1) := by decide +kernel
theorem dX4_requireNoneWaits_0 : decode cX4_requireNoneWaits 0 = .ok (.aload_n 0, 1) := by decide +kernel
theorem dX4_requireNoneWaits_1 : decode cX4_requireNoneWaits 1 = .ok (.getfield 34, 3) := by decide +kernel
theorem dX4_requireNoneWaits_4 : decode cX4_requireNoneWaits 4 = .ok (.iload_n 1, 1) := by decide +kernel
theorem dX4_requireNoneWaits_5 : decode cX4_requireNoneWaits 5 = .ok (.iload_n 2, 1) := by decide +kernel
theorem dX4_requireNoneWaits_6 : decode cX4_requireNoneWaits 6 = .ok (.iload_n 3, 1) := by decide +kernel
theorem dX4_requireNoneWaits_7 : decode cX4_requireNoneWaits 7 = .ok (.invokevirtual 122, 3) := by decide +kernel
theorem dX4_requireNoneWaits_10 : decode cX4_requireNoneWaits 10 = .ok (.ifCond .eq 14, 3) := by decide +kernel
theorem dX4_requireNoneWaits_13 : decode cX4_requireNoneWaits 13 = .ok (.new 56, 3) := by decide +kernel
theorem dX4_requireNoneWaits_16 : decode cX4_requireNoneWaits 16 = .ok (.dup, 1) := by decide +kernel
theorem dX4_requireNoneWaits_17 : decode cX4_requireNoneWaits 17 = .ok (.ldc_w 285, 3) := by decide +kernel
theorem dX4_requireNoneWaits_20 : decode cX4_requireNoneWaits 20 = .ok (.invokespecial 60, 3) := by decide +kernel
theorem dX4_requireNoneWaits_23 : decode cX4_requireNoneWaits 23 = .ok (.athrow, 1) := by decide +kernel
theorem dX4_requireNoneWaits_24 : decode cX4_requireNoneWaits 24 = .ok (.return_, 1) := by decide +kernel
theorem dX4_requireNotNegative_0 : decode cX4_requireNotNegative 0 = .ok (.iload_n 1, 1) := by decide +kernel
theorem dX4_requireNotNegative_1 : decode cX4_requireNotNegative 1 = .ok (.ifCond .ge 14, 3) := by decide +kernel
theorem dX4_requireNotNegative_4 : decode cX4_requireNotNegative 4 = .ok (.new 172, 3) := by decide +kernel
theorem dX4_requireNotNegative_7 : decode cX4_requireNotNegative 7 = .ok (.dup, 1) := by decide +kernel
theorem dX4_requireNotNegative_8 : decode cX4_requireNotNegative 8 = .ok (.ldc_w 287, 3) := by decide +kernel
theorem dX4_requireNotNegative_11 : decode cX4_requireNotNegative 11 = .ok (.invokespecial 176, 3) := by decide +kernel
theorem dX4_requireNotNegative_14 : decode cX4_requireNotNegative 14 = .ok (.athrow, 1) := by decide +kernel
theorem dX4_requireNotNegative_15 : decode cX4_requireNotNegative 15 = .ok (.return_, 1) := by decide +kernel
theorem dX4_requireExtent_0 : decode cX4_requireExtent 0 = .ok (.iload_n 1, 1) := by decide +kernel
theorem dX4_requireExtent_1 : decode cX4_requireExtent 1 = .ok (.ifCond .lt 14, 3) := by decide +kernel
theorem dX4_requireExtent_4 : decode cX4_requireExtent 4 = .ok (.iload_n 1, 1) := by decide +kernel
theorem dX4_requireExtent_5 : decode cX4_requireExtent 5 = .ok (.aload_n 0, 1) := by decide +kernel
theorem dX4_requireExtent_6 : decode cX4_requireExtent 6 = .ok (.getfield 27, 3) := by decide +kernel
theorem dX4_requireExtent_9 : decode cX4_requireExtent 9 = .ok (.getfield 156, 3) := by decide +kernel
theorem dX4_requireExtent_12 : decode cX4_requireExtent 12 = .ok (.if_icmp .lt 14, 3) := by decide +kernel
theorem dX4_requireExtent_15 : decode cX4_requireExtent 15 = .ok (.new 148, 3) := by decide +kernel
theorem dX4_requireExtent_18 : decode cX4_requireExtent 18 = .ok (.dup, 1) := by decide +kernel
theorem dX4_requireExtent_19 : decode cX4_requireExtent 19 = .ok (.ldc_w 289, 3) := by decide +kernel
theorem dX4_requireExtent_22 : decode cX4_requireExtent 22 = .ok (.invokespecial 152, 3) := by decide +kernel
theorem dX4_requireExtent_25 : decode cX4_requireExtent 25 = .ok (.athrow, 1) := by decide +kernel
theorem dX4_requireExtent_26 : decode cX4_requireExtent 26 = .ok (.return_, 1) := by decide +kernel
theorem dX4_stateOf_0 : decode cX4_stateOf 0 = .ok (.iload_n 1, 1) := by decide +kernel
theorem dX4_stateOf_1 : decode cX4_stateOf 1 = .ok (.tableswitch 42 0 2 #[27, 32, 37], 27) := by decide +kernel
theorem dX4_stateOf_28 : decode cX4_stateOf 28 = .ok (.aload_n 0, 1) := by decide +kernel
theorem dX4_stateOf_29 : decode cX4_stateOf 29 = .ok (.getfield 10, 3) := by decide +kernel
theorem dX4_stateOf_32 : decode cX4_stateOf 32 = .ok (.areturn, 1) := by decide +kernel
theorem dX4_stateOf_33 : decode cX4_stateOf 33 = .ok (.aload_n 0, 1) := by decide +kernel
theorem dX4_stateOf_34 : decode cX4_stateOf 34 = .ok (.getfield 16, 3) := by decide +kernel
theorem dX4_stateOf_37 : decode cX4_stateOf 37 = .ok (.areturn, 1) := by decide +kernel
theorem dX4_stateOf_38 : decode cX4_stateOf 38 = .ok (.aload_n 0, 1) := by decide +kernel
theorem dX4_stateOf_39 : decode cX4_stateOf 39 = .ok (.getfield 19, 3) := by decide +kernel
theorem dX4_stateOf_42 : decode cX4_stateOf 42 = .ok (.areturn, 1) := by decide +kernel
theorem dX4_stateOf_43 : decode cX4_stateOf 43 = .ok (.new 172, 3) := by decide +kernel
theorem dX4_stateOf_46 : decode cX4_stateOf 46 = .ok (.dup, 1) := by decide +kernel
theorem dX4_stateOf_47 : decode cX4_stateOf 47 = .ok (.ldc_w 291, 3) := by decide +kernel
theorem dX4_stateOf_50 : decode cX4_stateOf 50 = .ok (.invokespecial 176, 3) := by decide +kernel
theorem dX4_stateOf_53 : decode cX4_stateOf 53 = .ok (.athrow, 1) := by decide +kernel
theorem dX4_needsExtent_0 : decode cX4_needsExtent 0 = .ok (.aload_n 0, 1) := by decide +kernel
theorem dX4_needsExtent_1 : decode cX4_needsExtent 1 = .ok (.getfield 27, 3) := by decide +kernel
theorem dX4_needsExtent_4 : decode cX4_needsExtent 4 = .ok (.aload_n 1, 1) := by decide +kernel
theorem dX4_needsExtent_5 : decode cX4_needsExtent 5 = .ok (.iload_n 2, 1) := by decide +kernel
theorem dX4_needsExtent_6 : decode cX4_needsExtent 6 = .ok (.invokevirtual 83, 3) := by decide +kernel
theorem dX4_needsExtent_9 : decode cX4_needsExtent 9 = .ok (.invokevirtual 293, 3) := by decide +kernel
theorem dX4_needsExtent_12 : decode cX4_needsExtent 12 = .ok (.ifCond .ne 7, 3) := by decide +kernel
theorem dX4_needsExtent_15 : decode cX4_needsExtent 15 = .ok (.iconst 1, 1) := by decide +kernel
theorem dX4_needsExtent_16 : decode cX4_needsExtent 16 = .ok (.goto 4, 3) := by decide +kernel
theorem dX4_needsExtent_19 : decode cX4_needsExtent 19 = .ok (.iconst 0, 1) := by decide +kernel
theorem dX4_needsExtent_20 : decode cX4_needsExtent 20 = .ok (.ireturn, 1) := by decide +kernel
theorem dX4_isOver_0 : decode cX4_isOver 0 = .ok (.aload_n 1, 1) := by decide +kernel
theorem dX4_isOver_1 : decode cX4_isOver 1 = .ok (.iload_n 2, 1) := by decide +kernel
theorem dX4_isOver_2 : decode cX4_isOver 2 = .ok (.invokevirtual 83, 3) := by decide +kernel
theorem dX4_isOver_5 : decode cX4_isOver 5 = .ok (.iconst (-1), 1) := by decide +kernel
theorem dX4_isOver_6 : decode cX4_isOver 6 = .ok (.if_icmp .ne 26, 3) := by decide +kernel
theorem dX4_isOver_9 : decode cX4_isOver 9 = .ok (.aload_n 1, 1) := by decide +kernel
theorem dX4_isOver_10 : decode cX4_isOver 10 = .ok (.getfield 80, 3) := by decide +kernel
theorem dX4_isOver_13 : decode cX4_isOver 13 = .ok (.iconst (-1), 1) := by decide +kernel
theorem dX4_isOver_14 : decode cX4_isOver 14 = .ok (.if_icmp .eq 18, 3) := by decide +kernel
theorem dX4_isOver_17 : decode cX4_isOver 17 = .ok (.aload_n 1, 1) := by decide +kernel
theorem dX4_isOver_18 : decode cX4_isOver 18 = .ok (.getfield 91, 3) := by decide +kernel
theorem dX4_isOver_21 : decode cX4_isOver 21 = .ok (.aload_n 1, 1) := by decide +kernel
theorem dX4_isOver_22 : decode cX4_isOver 22 = .ok (.getfield 80, 3) := by decide +kernel
theorem dX4_isOver_25 : decode cX4_isOver 25 = .ok (.if_icmp .lt 7, 3) := by decide +kernel
theorem dX4_isOver_28 : decode cX4_isOver 28 = .ok (.iconst 1, 1) := by decide +kernel
theorem dX4_isOver_29 : decode cX4_isOver 29 = .ok (.goto 4, 3) := by decide +kernel
theorem dX4_isOver_32 : decode cX4_isOver 32 = .ok (.iconst 0, 1) := by decide +kernel
theorem dX4_isOver_33 : decode cX4_isOver 33 = .ok (.ireturn, 1) := by decide +kernel
theorem dX4_writeNeeding_0 : decode cX4_writeNeeding 0 = .ok (.aload_n 0, 1) := by decide +kernel
theorem dX4_writeNeeding_1 : decode cX4_writeNeeding 1 = .ok (.getfield 119, 3) := by decide +kernel
theorem dX4_writeNeeding_4 : decode cX4_writeNeeding 4 = .ok (.iconst 1, 1) := by decide +kernel
theorem dX4_writeNeeding_5 : decode cX4_writeNeeding 5 = .ok (.if_icmp .ne 12, 3) := by decide +kernel
theorem dX4_writeNeeding_8 : decode cX4_writeNeeding 8 = .ok (.aload_n 0, 1) := by decide +kernel
theorem dX4_writeNeeding_9 : decode cX4_writeNeeding 9 = .ok (.iload_n 2, 1) := by decide +kernel
theorem dX4_writeNeeding_10 : decode cX4_writeNeeding 10 = .ok (.iload_n 3, 1) := by decide +kernel
theorem dX4_writeNeeding_11 : decode cX4_writeNeeding 11 = .ok (.iload 4, 2) := by decide +kernel
theorem dX4_writeNeeding_13 : decode cX4_writeNeeding 13 = .ok (.invokevirtual 126, 3) := by decide +kernel
theorem dX4_writeNeeding_16 : decode cX4_writeNeeding 16 = .ok (.ireturn, 1) := by decide +kernel
theorem dX4_writeNeeding_17 : decode cX4_writeNeeding 17 = .ok (.aload_n 0, 1) := by decide +kernel
theorem dX4_writeNeeding_18 : decode cX4_writeNeeding 18 = .ok (.getfield 27, 3) := by decide +kernel
theorem dX4_writeNeeding_21 : decode cX4_writeNeeding 21 = .ok (.invokevirtual 264, 3) := by decide +kernel
theorem dX4_writeNeeding_24 : decode cX4_writeNeeding 24 = .ok (.ifCond .le 17, 3) := by decide +kernel
theorem dX4_writeNeeding_27 : decode cX4_writeNeeding 27 = .ok (.aload_n 0, 1) := by decide +kernel
theorem dX4_writeNeeding_28 : decode cX4_writeNeeding 28 = .ok (.iconst 0, 1) := by decide +kernel
theorem dX4_writeNeeding_29 : decode cX4_writeNeeding 29 = .ok (.putfield 119, 3) := by decide +kernel
theorem dX4_writeNeeding_32 : decode cX4_writeNeeding 32 = .ok (.aload_n 0, 1) := by decide +kernel
theorem dX4_writeNeeding_33 : decode cX4_writeNeeding 33 = .ok (.aload_n 1, 1) := by decide +kernel
theorem dX4_writeNeeding_34 : decode cX4_writeNeeding 34 = .ok (.iload_n 3, 1) := by decide +kernel
theorem dX4_writeNeeding_35 : decode cX4_writeNeeding 35 = .ok (.iload 4, 2) := by decide +kernel
theorem dX4_writeNeeding_37 : decode cX4_writeNeeding 37 = .ok (.invokevirtual 134, 3) := by decide +kernel
theorem dX4_writeNeeding_40 : decode cX4_writeNeeding 40 = .ok (.ireturn, 1) := by decide +kernel
theorem dX4_writeNeeding_41 : decode cX4_writeNeeding 41 = .ok (.aload_n 0, 1) := by decide +kernel
theorem dX4_writeNeeding_42 : decode cX4_writeNeeding 42 = .ok (.getfield 119, 3) := by decide +kernel
theorem dX4_writeNeeding_45 : decode cX4_writeNeeding 45 = .ok (.ifCond .ne 37, 3) := by decide +kernel
theorem dX4_writeNeeding_48 : decode cX4_writeNeeding 48 = .ok (.aload_n 0, 1) := by decide +kernel
theorem dX4_writeNeeding_49 : decode cX4_writeNeeding 49 = .ok (.getfield 210, 3) := by decide +kernel
theorem dX4_writeNeeding_52 : decode cX4_writeNeeding 52 = .ok (.ifCond .le 30, 3) := by decide +kernel
theorem dX4_writeNeeding_55 : decode cX4_writeNeeding 55 = .ok (.aload_n 0, 1) := by decide +kernel
theorem dX4_writeNeeding_56 : decode cX4_writeNeeding 56 = .ok (.iconst 1, 1) := by decide +kernel
theorem dX4_writeNeeding_57 : decode cX4_writeNeeding 57 = .ok (.putfield 119, 3) := by decide +kernel
theorem dX4_writeNeeding_60 : decode cX4_writeNeeding 60 = .ok (.aload_n 0, 1) := by decide +kernel
theorem dX4_writeNeeding_61 : decode cX4_writeNeeding 61 = .ok (.aload_n 0, 1) := by decide +kernel
theorem dX4_writeNeeding_62 : decode cX4_writeNeeding 62 = .ok (.getfield 220, 3) := by decide +kernel
theorem dX4_writeNeeding_65 : decode cX4_writeNeeding 65 = .ok (.aload_n 0, 1) := by decide +kernel
theorem dX4_writeNeeding_66 : decode cX4_writeNeeding 66 = .ok (.getfield 210, 3) := by decide +kernel
theorem dX4_writeNeeding_69 : decode cX4_writeNeeding 69 = .ok (.iadd, 1) := by decide +kernel
theorem dX4_writeNeeding_70 : decode cX4_writeNeeding 70 = .ok (.putfield 223, 3) := by decide +kernel
theorem dX4_writeNeeding_73 : decode cX4_writeNeeding 73 = .ok (.aload_n 0, 1) := by decide +kernel
theorem dX4_writeNeeding_74 : decode cX4_writeNeeding 74 = .ok (.iload_n 2, 1) := by decide +kernel
theorem dX4_writeNeeding_75 : decode cX4_writeNeeding 75 = .ok (.iload_n 3, 1) := by decide +kernel
theorem dX4_writeNeeding_76 : decode cX4_writeNeeding 76 = .ok (.iload 4, 2) := by decide +kernel
theorem dX4_writeNeeding_78 : decode cX4_writeNeeding 78 = .ok (.invokevirtual 126, 3) := by decide +kernel
theorem dX4_writeNeeding_81 : decode cX4_writeNeeding 81 = .ok (.ireturn, 1) := by decide +kernel
theorem dX4_writeNeeding_82 : decode cX4_writeNeeding 82 = .ok (.aload_n 0, 1) := by decide +kernel
theorem dX4_writeNeeding_83 : decode cX4_writeNeeding 83 = .ok (.iconst 2, 1) := by decide +kernel
theorem dX4_writeNeeding_84 : decode cX4_writeNeeding 84 = .ok (.putfield 119, 3) := by decide +kernel
theorem dX4_writeNeeding_87 : decode cX4_writeNeeding 87 = .ok (.iconst (-1), 1) := by decide +kernel
theorem dX4_writeNeeding_88 : decode cX4_writeNeeding 88 = .ok (.ireturn, 1) := by decide +kernel
theorem dX4_enqueue_0 : decode cX4_enqueue 0 = .ok (.aload_n 0, 1) := by decide +kernel
theorem dX4_enqueue_1 : decode cX4_enqueue 1 = .ok (.getfield 34, 3) := by decide +kernel
theorem dX4_enqueue_4 : decode cX4_enqueue 4 = .ok (.iload_n 1, 1) := by decide +kernel
theorem dX4_enqueue_5 : decode cX4_enqueue 5 = .ok (.iload_n 2, 1) := by decide +kernel
theorem dX4_enqueue_6 : decode cX4_enqueue 6 = .ok (.iload_n 3, 1) := by decide +kernel
theorem dX4_enqueue_7 : decode cX4_enqueue 7 = .ok (.invokevirtual 297, 3) := by decide +kernel
theorem dX4_enqueue_10 : decode cX4_enqueue 10 = .ok (.ifCond .eq 7, 3) := by decide +kernel
theorem dX4_enqueue_13 : decode cX4_enqueue 13 = .ok (.iconst 3, 1) := by decide +kernel
theorem dX4_enqueue_14 : decode cX4_enqueue 14 = .ok (.goto 4, 3) := by decide +kernel
theorem dX4_enqueue_17 : decode cX4_enqueue 17 = .ok (.iconst (-1), 1) := by decide +kernel
theorem dX4_enqueue_18 : decode cX4_enqueue 18 = .ok (.ireturn, 1) := by decide +kernel
theorem dX4_perform_0 : decode cX4_perform 0 = .ok (.iload_n 2, 1) := by decide +kernel
theorem dX4_perform_1 : decode cX4_perform 1 = .ok (.iconst 4, 1) := by decide +kernel
theorem dX4_perform_2 : decode cX4_perform 2 = .ok (.idiv, 1) := by decide +kernel
theorem dX4_perform_3 : decode cX4_perform 3 = .ok (.istore 4, 2) := by decide +kernel
theorem dX4_perform_5 : decode cX4_perform 5 = .ok (.aload_n 1, 1) := by decide +kernel
theorem dX4_perform_6 : decode cX4_perform 6 = .ok (.iload 4, 2) := by decide +kernel
theorem dX4_perform_8 : decode cX4_perform 8 = .ok (.invokevirtual 83, 3) := by decide +kernel
theorem dX4_perform_11 : decode cX4_perform 11 = .ok (.istore 5, 2) := by decide +kernel
theorem dX4_perform_13 : decode cX4_perform 13 = .ok (.aload_n 0, 1) := by decide +kernel
theorem dX4_perform_14 : decode cX4_perform 14 = .ok (.getfield 27, 3) := by decide +kernel
theorem dX4_perform_17 : decode cX4_perform 17 = .ok (.iload 5, 2) := by decide +kernel
theorem dX4_perform_19 : decode cX4_perform 19 = .ok (.invokevirtual 293, 3) := by decide +kernel
theorem dX4_perform_22 : decode cX4_perform 22 = .ok (.ifCond .eq 18, 3) := by decide +kernel
theorem dX4_perform_25 : decode cX4_perform 25 = .ok (.aload_n 0, 1) := by decide +kernel
theorem dX4_perform_26 : decode cX4_perform 26 = .ok (.getfield 27, 3) := by decide +kernel
theorem dX4_perform_29 : decode cX4_perform 29 = .ok (.iload 5, 2) := by decide +kernel
theorem dX4_perform_31 : decode cX4_perform 31 = .ok (.iload_n 2, 1) := by decide +kernel
theorem dX4_perform_32 : decode cX4_perform 32 = .ok (.iconst 4, 1) := by decide +kernel
theorem dX4_perform_33 : decode cX4_perform 33 = .ok (.irem, 1) := by decide +kernel
theorem dX4_perform_34 : decode cX4_perform 34 = .ok (.iload_n 3, 1) := by decide +kernel
theorem dX4_perform_35 : decode cX4_perform 35 = .ok (.invokevirtual 299, 3) := by decide +kernel
theorem dX4_perform_38 : decode cX4_perform 38 = .ok (.iconst 0, 1) := by decide +kernel
theorem dX4_perform_39 : decode cX4_perform 39 = .ok (.ireturn, 1) := by decide +kernel
theorem dX4_perform_40 : decode cX4_perform 40 = .ok (.aload_n 0, 1) := by decide +kernel
theorem dX4_perform_41 : decode cX4_perform 41 = .ok (.getfield 27, 3) := by decide +kernel
theorem dX4_perform_44 : decode cX4_perform 44 = .ok (.invokevirtual 302, 3) := by decide +kernel
theorem dX4_perform_47 : decode cX4_perform 47 = .ok (.istore 6, 2) := by decide +kernel
theorem dX4_perform_49 : decode cX4_perform 49 = .ok (.iload 6, 2) := by decide +kernel
theorem dX4_perform_51 : decode cX4_perform 51 = .ok (.iconst (-1), 1) := by decide +kernel
theorem dX4_perform_52 : decode cX4_perform 52 = .ok (.if_icmp .ne 5, 3) := by decide +kernel
theorem dX4_perform_55 : decode cX4_perform 55 = .ok (.iconst (-1), 1) := by decide +kernel
theorem dX4_perform_56 : decode cX4_perform 56 = .ok (.ireturn, 1) := by decide +kernel
theorem dX4_perform_57 : decode cX4_perform 57 = .ok (.iconst 0, 1) := by decide +kernel
theorem dX4_perform_58 : decode cX4_perform 58 = .ok (.istore 7, 2) := by decide +kernel
theorem dX4_perform_60 : decode cX4_perform 60 = .ok (.iload 7, 2) := by decide +kernel
theorem dX4_perform_62 : decode cX4_perform 62 = .ok (.iconst 4, 1) := by decide +kernel
theorem dX4_perform_63 : decode cX4_perform 63 = .ok (.if_icmp .ge 32, 3) := by decide +kernel
theorem dX4_perform_66 : decode cX4_perform 66 = .ok (.aload_n 0, 1) := by decide +kernel
theorem dX4_perform_67 : decode cX4_perform 67 = .ok (.getfield 27, 3) := by decide +kernel
theorem dX4_perform_70 : decode cX4_perform 70 = .ok (.iload 6, 2) := by decide +kernel
theorem dX4_perform_72 : decode cX4_perform 72 = .ok (.iload 7, 2) := by decide +kernel
theorem dX4_perform_74 : decode cX4_perform 74 = .ok (.aload_n 0, 1) := by decide +kernel
theorem dX4_perform_75 : decode cX4_perform 75 = .ok (.aload_n 1, 1) := by decide +kernel
theorem dX4_perform_76 : decode cX4_perform 76 = .ok (.iload 4, 2) := by decide +kernel
theorem dX4_perform_78 : decode cX4_perform 78 = .ok (.iconst 4, 1) := by decide +kernel
theorem dX4_perform_79 : decode cX4_perform 79 = .ok (.imul, 1) := by decide +kernel
theorem dX4_perform_80 : decode cX4_perform 80 = .ok (.iload 7, 2) := by decide +kernel
theorem dX4_perform_82 : decode cX4_perform 82 = .ok (.iadd, 1) := by decide +kernel
theorem dX4_perform_83 : decode cX4_perform 83 = .ok (.invokevirtual 144, 3) := by decide +kernel
theorem dX4_perform_86 : decode cX4_perform 86 = .ok (.invokevirtual 299, 3) := by decide +kernel
theorem dX4_perform_89 : decode cX4_perform 89 = .ok (.iinc 7 1, 3) := by decide +kernel
theorem dX4_perform_92 : decode cX4_perform 92 = .ok (.goto (-32), 3) := by decide +kernel
theorem dX4_perform_95 : decode cX4_perform 95 = .ok (.aload_n 0, 1) := by decide +kernel
theorem dX4_perform_96 : decode cX4_perform 96 = .ok (.getfield 27, 3) := by decide +kernel
theorem dX4_perform_99 : decode cX4_perform 99 = .ok (.iload 6, 2) := by decide +kernel
theorem dX4_perform_101 : decode cX4_perform 101 = .ok (.iload_n 2, 1) := by decide +kernel
theorem dX4_perform_102 : decode cX4_perform 102 = .ok (.iconst 4, 1) := by decide +kernel
theorem dX4_perform_103 : decode cX4_perform 103 = .ok (.irem, 1) := by decide +kernel
theorem dX4_perform_104 : decode cX4_perform 104 = .ok (.iload_n 3, 1) := by decide +kernel
theorem dX4_perform_105 : decode cX4_perform 105 = .ok (.invokevirtual 299, 3) := by decide +kernel
theorem dX4_perform_108 : decode cX4_perform 108 = .ok (.aload_n 0, 1) := by decide +kernel
theorem dX4_perform_109 : decode cX4_perform 109 = .ok (.getfield 10, 3) := by decide +kernel
theorem dX4_perform_112 : decode cX4_perform 112 = .ok (.aload_n 1, 1) := by decide +kernel
theorem dX4_perform_113 : decode cX4_perform 113 = .ok (.iload 4, 2) := by decide +kernel
theorem dX4_perform_115 : decode cX4_perform 115 = .ok (.iload 6, 2) := by decide +kernel
theorem dX4_perform_117 : decode cX4_perform 117 = .ok (.invokevirtual 87, 3) := by decide +kernel
theorem dX4_perform_120 : decode cX4_perform 120 = .ok (.aload_n 0, 1) := by decide +kernel
theorem dX4_perform_121 : decode cX4_perform 121 = .ok (.getfield 27, 3) := by decide +kernel
theorem dX4_perform_124 : decode cX4_perform 124 = .ok (.invokevirtual 264, 3) := by decide +kernel
theorem dX4_perform_127 : decode cX4_perform 127 = .ok (.aload_n 0, 1) := by decide +kernel
theorem dX4_perform_128 : decode cX4_perform 128 = .ok (.getfield 27, 3) := by decide +kernel
theorem dX4_perform_131 : decode cX4_perform 131 = .ok (.getfield 215, 3) := by decide +kernel
theorem dX4_perform_134 : decode cX4_perform 134 = .ok (.if_icmp .ne 16, 3) := by decide +kernel
theorem dX4_perform_137 : decode cX4_perform 137 = .ok (.aload_n 0, 1) := by decide +kernel
theorem dX4_perform_138 : decode cX4_perform 138 = .ok (.getfield 27, 3) := by decide +kernel
theorem dX4_perform_141 : decode cX4_perform 141 = .ok (.dup, 1) := by decide +kernel
theorem dX4_perform_142 : decode cX4_perform 142 = .ok (.getfield 268, 3) := by decide +kernel
theorem dX4_perform_145 : decode cX4_perform 145 = .ok (.iconst 1, 1) := by decide +kernel
theorem dX4_perform_146 : decode cX4_perform 146 = .ok (.iadd, 1) := by decide +kernel
theorem dX4_perform_147 : decode cX4_perform 147 = .ok (.putfield 268, 3) := by decide +kernel
theorem dX4_perform_150 : decode cX4_perform 150 = .ok (.iload 5, 2) := by decide +kernel
theorem dX4_perform_152 : decode cX4_perform 152 = .ok (.iconst (-1), 1) := by decide +kernel
theorem dX4_perform_153 : decode cX4_perform 153 = .ok (.if_icmp .ne 7, 3) := by decide +kernel
theorem dX4_perform_156 : decode cX4_perform 156 = .ok (.iconst 1, 1) := by decide +kernel
theorem dX4_perform_157 : decode cX4_perform 157 = .ok (.goto 4, 3) := by decide +kernel
theorem dX4_perform_160 : decode cX4_perform 160 = .ok (.iconst 2, 1) := by decide +kernel
theorem dX4_perform_161 : decode cX4_perform 161 = .ok (.ireturn, 1) := by decide +kernel
theorem dX4_wordOf_0 : decode cX4_wordOf 0 = .ok (.aload_n 1, 1) := by decide +kernel
theorem dX4_wordOf_1 : decode cX4_wordOf 1 = .ok (.iload_n 2, 1) := by decide +kernel
theorem dX4_wordOf_2 : decode cX4_wordOf 2 = .ok (.iconst 4, 1) := by decide +kernel
theorem dX4_wordOf_3 : decode cX4_wordOf 3 = .ok (.idiv, 1) := by decide +kernel
theorem dX4_wordOf_4 : decode cX4_wordOf 4 = .ok (.invokevirtual 83, 3) := by decide +kernel
theorem dX4_wordOf_7 : decode cX4_wordOf 7 = .ok (.istore_n 3, 1) := by decide +kernel
theorem dX4_wordOf_8 : decode cX4_wordOf 8 = .ok (.iload_n 3, 1) := by decide +kernel
theorem dX4_wordOf_9 : decode cX4_wordOf 9 = .ok (.iconst (-1), 1) := by decide +kernel
theorem dX4_wordOf_10 : decode cX4_wordOf 10 = .ok (.if_icmp .eq 15, 3) := by decide +kernel
theorem dX4_wordOf_13 : decode cX4_wordOf 13 = .ok (.aload_n 0, 1) := by decide +kernel
theorem dX4_wordOf_14 : decode cX4_wordOf 14 = .ok (.getfield 27, 3) := by decide +kernel
theorem dX4_wordOf_17 : decode cX4_wordOf 17 = .ok (.iload_n 3, 1) := by decide +kernel
theorem dX4_wordOf_18 : decode cX4_wordOf 18 = .ok (.iload_n 2, 1) := by decide +kernel
theorem dX4_wordOf_19 : decode cX4_wordOf 19 = .ok (.iconst 4, 1) := by decide +kernel
theorem dX4_wordOf_20 : decode cX4_wordOf 20 = .ok (.irem, 1) := by decide +kernel
theorem dX4_wordOf_21 : decode cX4_wordOf 21 = .ok (.invokevirtual 305, 3) := by decide +kernel
theorem dX4_wordOf_24 : decode cX4_wordOf 24 = .ok (.ireturn, 1) := by decide +kernel
theorem dX4_wordOf_25 : decode cX4_wordOf 25 = .ok (.aload_n 1, 1) := by decide +kernel
theorem dX4_wordOf_26 : decode cX4_wordOf 26 = .ok (.getfield 77, 3) := by decide +kernel
theorem dX4_wordOf_29 : decode cX4_wordOf 29 = .ok (.ifCond .eq 25, 3) := by decide +kernel
theorem dX4_wordOf_32 : decode cX4_wordOf 32 = .ok (.iload_n 2, 1) := by decide +kernel
theorem dX4_wordOf_33 : decode cX4_wordOf 33 = .ok (.ifCond .lt 21, 3) := by decide +kernel
theorem dX4_wordOf_36 : decode cX4_wordOf 36 = .ok (.iload_n 2, 1) := by decide +kernel
theorem dX4_wordOf_37 : decode cX4_wordOf 37 = .ok (.aload_n 0, 1) := by decide +kernel
theorem dX4_wordOf_38 : decode cX4_wordOf 38 = .ok (.getfield 38, 3) := by decide +kernel
theorem dX4_wordOf_41 : decode cX4_wordOf 41 = .ok (.arraylength, 1) := by decide +kernel
theorem dX4_wordOf_42 : decode cX4_wordOf 42 = .ok (.if_icmp .ge 12, 3) := by decide +kernel
theorem dX4_wordOf_45 : decode cX4_wordOf 45 = .ok (.aload_n 0, 1) := by decide +kernel
theorem dX4_wordOf_46 : decode cX4_wordOf 46 = .ok (.getfield 38, 3) := by decide +kernel
theorem dX4_wordOf_49 : decode cX4_wordOf 49 = .ok (.iload_n 2, 1) := by decide +kernel
theorem dX4_wordOf_50 : decode cX4_wordOf 50 = .ok (.iaload, 1) := by decide +kernel
theorem dX4_wordOf_51 : decode cX4_wordOf 51 = .ok (.goto 4, 3) := by decide +kernel
theorem dX4_wordOf_54 : decode cX4_wordOf 54 = .ok (.iconst 0, 1) := by decide +kernel
theorem dX4_wordOf_55 : decode cX4_wordOf 55 = .ok (.ireturn, 1) := by decide +kernel
theorem dX4_writeHead_0 : decode cX4_writeHead 0 = .ok (.aload_n 0, 1) := by decide +kernel
theorem dX4_writeHead_1 : decode cX4_writeHead 1 = .ok (.getfield 16, 3) := by decide +kernel
theorem dX4_writeHead_4 : decode cX4_writeHead 4 = .ok (.aload_n 0, 1) := by decide +kernel
theorem dX4_writeHead_5 : decode cX4_writeHead 5 = .ok (.getfield 10, 3) := by decide +kernel
theorem dX4_writeHead_8 : decode cX4_writeHead 8 = .ok (.invokevirtual 192, 3) := by decide +kernel
theorem dX4_writeHead_11 : decode cX4_writeHead 11 = .ok (.aload_n 0, 1) := by decide +kernel
theorem dX4_writeHead_12 : decode cX4_writeHead 12 = .ok (.dup, 1) := by decide +kernel
theorem dX4_writeHead_13 : decode cX4_writeHead 13 = .ok (.getfield 187, 3) := by decide +kernel
theorem dX4_writeHead_16 : decode cX4_writeHead 16 = .ok (.iconst 1, 1) := by decide +kernel
theorem dX4_writeHead_17 : decode cX4_writeHead 17 = .ok (.iadd, 1) := by decide +kernel
theorem dX4_writeHead_18 : decode cX4_writeHead 18 = .ok (.putfield 187, 3) := by decide +kernel
theorem dX4_writeHead_21 : decode cX4_writeHead 21 = .ok (.return_, 1) := by decide +kernel
theorem dX4_serveQueue_0 : decode cX4_serveQueue 0 = .ok (.aload_n 0, 1) := by decide +kernel
theorem dX4_serveQueue_1 : decode cX4_serveQueue 1 = .ok (.getfield 119, 3) := by decide +kernel
theorem dX4_serveQueue_4 : decode cX4_serveQueue 4 = .ok (.iconst 1, 1) := by decide +kernel
theorem dX4_serveQueue_5 : decode cX4_serveQueue 5 = .ok (.if_icmp .eq 4, 3) := by decide +kernel
theorem dX4_serveQueue_8 : decode cX4_serveQueue 8 = .ok (.return_, 1) := by decide +kernel
theorem dX4_serveQueue_9 : decode cX4_serveQueue 9 = .ok (.iconst 0, 1) := by decide +kernel
theorem dX4_serveQueue_10 : decode cX4_serveQueue 10 = .ok (.istore_n 1, 1) := by decide +kernel
theorem dX4_serveQueue_11 : decode cX4_serveQueue 11 = .ok (.iload_n 1, 1) := by decide +kernel
theorem dX4_serveQueue_12 : decode cX4_serveQueue 12 = .ok (.bipush 8, 2) := by decide +kernel
theorem dX4_serveQueue_14 : decode cX4_serveQueue 14 = .ok (.if_icmp .ge 33, 3) := by decide +kernel
theorem dX4_serveQueue_17 : decode cX4_serveQueue 17 = .ok (.aload_n 0, 1) := by decide +kernel
theorem dX4_serveQueue_18 : decode cX4_serveQueue 18 = .ok (.getfield 34, 3) := by decide +kernel
theorem dX4_serveQueue_21 : decode cX4_serveQueue 21 = .ok (.getfield 267, 3) := by decide +kernel
theorem dX4_serveQueue_24 : decode cX4_serveQueue 24 = .ok (.ifCond .le 23, 3) := by decide +kernel
theorem dX4_serveQueue_27 : decode cX4_serveQueue 27 = .ok (.aload_n 0, 1) := by decide +kernel
theorem dX4_serveQueue_28 : decode cX4_serveQueue 28 = .ok (.invokevirtual 308, 3) := by decide +kernel
theorem dX4_serveQueue_31 : decode cX4_serveQueue 31 = .ok (.ifCond .eq 16, 3) := by decide +kernel
theorem dX4_serveQueue_34 : decode cX4_serveQueue 34 = .ok (.aload_n 0, 1) := by decide +kernel
theorem dX4_serveQueue_35 : decode cX4_serveQueue 35 = .ok (.getfield 34, 3) := by decide +kernel
theorem dX4_serveQueue_38 : decode cX4_serveQueue 38 = .ok (.invokevirtual 311, 3) := by decide +kernel
theorem dX4_serveQueue_41 : decode cX4_serveQueue 41 = .ok (.iinc 1 1, 3) := by decide +kernel
theorem dX4_serveQueue_44 : decode cX4_serveQueue 44 = .ok (.goto (-33), 3) := by decide +kernel
theorem dX4_serveQueue_47 : decode cX4_serveQueue 47 = .ok (.aload_n 0, 1) := by decide +kernel
theorem dX4_serveQueue_48 : decode cX4_serveQueue 48 = .ok (.getfield 34, 3) := by decide +kernel
theorem dX4_serveQueue_51 : decode cX4_serveQueue 51 = .ok (.getfield 267, 3) := by decide +kernel
theorem dX4_serveQueue_54 : decode cX4_serveQueue 54 = .ok (.ifCond .ne 8, 3) := by decide +kernel
theorem dX4_serveQueue_57 : decode cX4_serveQueue 57 = .ok (.aload_n 0, 1) := by decide +kernel
theorem dX4_serveQueue_58 : decode cX4_serveQueue 58 = .ok (.iconst 0, 1) := by decide +kernel
theorem dX4_serveQueue_59 : decode cX4_serveQueue 59 = .ok (.putfield 119, 3) := by decide +kernel
theorem dX4_serveQueue_62 : decode cX4_serveQueue 62 = .ok (.return_, 1) := by decide +kernel
theorem dX4_serveFirst_0 : decode cX4_serveFirst 0 = .ok (.aload_n 0, 1) := by decide +kernel
theorem dX4_serveFirst_1 : decode cX4_serveFirst 1 = .ok (.getfield 10, 3) := by decide +kernel
theorem dX4_serveFirst_4 : decode cX4_serveFirst 4 = .ok (.aload_n 0, 1) := by decide +kernel
theorem dX4_serveFirst_5 : decode cX4_serveFirst 5 = .ok (.getfield 34, 3) := by decide +kernel
theorem dX4_serveFirst_8 : decode cX4_serveFirst 8 = .ok (.iconst 0, 1) := by decide +kernel
theorem dX4_serveFirst_9 : decode cX4_serveFirst 9 = .ok (.invokevirtual 314, 3) := by decide +kernel
theorem dX4_serveFirst_12 : decode cX4_serveFirst 12 = .ok (.invokevirtual 276, 3) := by decide +kernel
theorem dX4_serveFirst_15 : decode cX4_serveFirst 15 = .ok (.astore_n 1, 1) := by decide +kernel
theorem dX4_serveFirst_16 : decode cX4_serveFirst 16 = .ok (.aload_n 0, 1) := by decide +kernel
theorem dX4_serveFirst_17 : decode cX4_serveFirst 17 = .ok (.getfield 34, 3) := by decide +kernel
theorem dX4_serveFirst_20 : decode cX4_serveFirst 20 = .ok (.iconst 0, 1) := by decide +kernel
theorem dX4_serveFirst_21 : decode cX4_serveFirst 21 = .ok (.invokevirtual 317, 3) := by decide +kernel
theorem dX4_serveFirst_24 : decode cX4_serveFirst 24 = .ok (.istore_n 2, 1) := by decide +kernel
theorem dX4_serveFirst_25 : decode cX4_serveFirst 25 = .ok (.aload_n 1, 1) := by decide +kernel
theorem dX4_serveFirst_26 : decode cX4_serveFirst 26 = .ok (.ifnull 14, 3) := by decide +kernel
theorem dX4_serveFirst_29 : decode cX4_serveFirst 29 = .ok (.aload_n 0, 1) := by decide +kernel
theorem dX4_serveFirst_30 : decode cX4_serveFirst 30 = .ok (.aload_n 1, 1) := by decide +kernel
theorem dX4_serveFirst_31 : decode cX4_serveFirst 31 = .ok (.iload_n 2, 1) := by decide +kernel
theorem dX4_serveFirst_32 : decode cX4_serveFirst 32 = .ok (.iconst 4, 1) := by decide +kernel
theorem dX4_serveFirst_33 : decode cX4_serveFirst 33 = .ok (.idiv, 1) := by decide +kernel
theorem dX4_serveFirst_34 : decode cX4_serveFirst 34 = .ok (.invokevirtual 137, 3) := by decide +kernel
theorem dX4_serveFirst_37 : decode cX4_serveFirst 37 = .ok (.ifCond .eq 15, 3) := by decide +kernel
theorem dX4_serveFirst_40 : decode cX4_serveFirst 40 = .ok (.aload_n 0, 1) := by decide +kernel
theorem dX4_serveFirst_41 : decode cX4_serveFirst 41 = .ok (.dup, 1) := by decide +kernel
theorem dX4_serveFirst_42 : decode cX4_serveFirst 42 = .ok (.getfield 94, 3) := by decide +kernel
theorem dX4_serveFirst_45 : decode cX4_serveFirst 45 = .ok (.iconst 1, 1) := by decide +kernel
theorem dX4_serveFirst_46 : decode cX4_serveFirst 46 = .ok (.iadd, 1) := by decide +kernel
theorem dX4_serveFirst_47 : decode cX4_serveFirst 47 = .ok (.putfield 94, 3) := by decide +kernel
theorem dX4_serveFirst_50 : decode cX4_serveFirst 50 = .ok (.iconst 1, 1) := by decide +kernel
theorem dX4_serveFirst_51 : decode cX4_serveFirst 51 = .ok (.ireturn, 1) := by decide +kernel
theorem dX4_serveFirst_52 : decode cX4_serveFirst 52 = .ok (.aload_n 0, 1) := by decide +kernel
theorem dX4_serveFirst_53 : decode cX4_serveFirst 53 = .ok (.aload_n 1, 1) := by decide +kernel
theorem dX4_serveFirst_54 : decode cX4_serveFirst 54 = .ok (.iload_n 2, 1) := by decide +kernel
theorem dX4_serveFirst_55 : decode cX4_serveFirst 55 = .ok (.iconst 4, 1) := by decide +kernel
theorem dX4_serveFirst_56 : decode cX4_serveFirst 56 = .ok (.idiv, 1) := by decide +kernel
theorem dX4_serveFirst_57 : decode cX4_serveFirst 57 = .ok (.invokevirtual 130, 3) := by decide +kernel
theorem dX4_serveFirst_60 : decode cX4_serveFirst 60 = .ok (.ifCond .eq 15, 3) := by decide +kernel
theorem dX4_serveFirst_63 : decode cX4_serveFirst 63 = .ok (.aload_n 0, 1) := by decide +kernel
theorem dX4_serveFirst_64 : decode cX4_serveFirst 64 = .ok (.getfield 27, 3) := by decide +kernel
theorem dX4_serveFirst_67 : decode cX4_serveFirst 67 = .ok (.invokevirtual 264, 3) := by decide +kernel
theorem dX4_serveFirst_70 : decode cX4_serveFirst 70 = .ok (.ifCond .ne 5, 3) := by decide +kernel
theorem dX4_serveFirst_73 : decode cX4_serveFirst 73 = .ok (.iconst 0, 1) := by decide +kernel
theorem dX4_serveFirst_74 : decode cX4_serveFirst 74 = .ok (.ireturn, 1) := by decide +kernel
theorem dX4_serveFirst_75 : decode cX4_serveFirst 75 = .ok (.aload_n 0, 1) := by decide +kernel
theorem dX4_serveFirst_76 : decode cX4_serveFirst 76 = .ok (.aload_n 1, 1) := by decide +kernel
theorem dX4_serveFirst_77 : decode cX4_serveFirst 77 = .ok (.iload_n 2, 1) := by decide +kernel
theorem dX4_serveFirst_78 : decode cX4_serveFirst 78 = .ok (.aload_n 0, 1) := by decide +kernel
theorem dX4_serveFirst_79 : decode cX4_serveFirst 79 = .ok (.getfield 34, 3) := by decide +kernel
theorem dX4_serveFirst_82 : decode cX4_serveFirst 82 = .ok (.iconst 0, 1) := by decide +kernel
theorem dX4_serveFirst_83 : decode cX4_serveFirst 83 = .ok (.invokevirtual 319, 3) := by decide +kernel
theorem dX4_serveFirst_86 : decode cX4_serveFirst 86 = .ok (.invokevirtual 134, 3) := by decide +kernel
theorem dX4_serveFirst_89 : decode cX4_serveFirst 89 = .ok (.pop, 1) := by decide +kernel
theorem dX4_serveFirst_90 : decode cX4_serveFirst 90 = .ok (.iconst 1, 1) := by decide +kernel
theorem dX4_serveFirst_91 : decode cX4_serveFirst 91 = .ok (.ireturn, 1) := by decide +kernel
theorem dX4_countShared_0 : decode cX4_countShared 0 = .ok (.iconst 0, 1) := by decide +kernel
theorem dX4_countShared_1 : decode cX4_countShared 1 = .ok (.istore_n 2, 1) := by decide +kernel
theorem dX4_countShared_2 : decode cX4_countShared 2 = .ok (.iconst 0, 1) := by decide +kernel
theorem dX4_countShared_3 : decode cX4_countShared 3 = .ok (.istore_n 3, 1) := by decide +kernel
theorem dX4_countShared_4 : decode cX4_countShared 4 = .ok (.iload_n 3, 1) := by decide +kernel
theorem dX4_countShared_5 : decode cX4_countShared 5 = .ok (.bipush 40, 2) := by decide +kernel
theorem dX4_countShared_7 : decode cX4_countShared 7 = .ok (.if_icmp .ge 37, 3) := by decide +kernel
theorem dX4_countShared_10 : decode cX4_countShared 10 = .ok (.aload_n 1, 1) := by decide +kernel
theorem dX4_countShared_11 : decode cX4_countShared 11 = .ok (.iload_n 3, 1) := by decide +kernel
theorem dX4_countShared_12 : decode cX4_countShared 12 = .ok (.invokevirtual 83, 3) := by decide +kernel
theorem dX4_countShared_15 : decode cX4_countShared 15 = .ok (.istore 4, 2) := by decide +kernel
theorem dX4_countShared_17 : decode cX4_countShared 17 = .ok (.iload 4, 2) := by decide +kernel
theorem dX4_countShared_19 : decode cX4_countShared 19 = .ok (.iconst (-1), 1) := by decide +kernel
theorem dX4_countShared_20 : decode cX4_countShared 20 = .ok (.if_icmp .eq 18, 3) := by decide +kernel
theorem dX4_countShared_23 : decode cX4_countShared 23 = .ok (.aload_n 0, 1) := by decide +kernel
theorem dX4_countShared_24 : decode cX4_countShared 24 = .ok (.getfield 27, 3) := by decide +kernel
theorem dX4_countShared_27 : decode cX4_countShared 27 = .ok (.iload 4, 2) := by decide +kernel
theorem dX4_countShared_29 : decode cX4_countShared 29 = .ok (.invokevirtual 293, 3) := by decide +kernel
theorem dX4_countShared_32 : decode cX4_countShared 32 = .ok (.ifCond .ne 6, 3) := by decide +kernel
theorem dX4_countShared_35 : decode cX4_countShared 35 = .ok (.iinc 2 1, 3) := by decide +kernel
theorem dX4_countShared_38 : decode cX4_countShared 38 = .ok (.iinc 3 1, 3) := by decide +kernel
theorem dX4_countShared_41 : decode cX4_countShared 41 = .ok (.goto (-37), 3) := by decide +kernel
theorem dX4_countShared_44 : decode cX4_countShared 44 = .ok (.iload_n 2, 1) := by decide +kernel
theorem dX4_countShared_45 : decode cX4_countShared 45 = .ok (.ireturn, 1) := by decide +kernel
theorem dX4_sortOf_0 : decode cX4_sortOf 0 = .ok (.aload_n 1, 1) := by decide +kernel
theorem dX4_sortOf_1 : decode cX4_sortOf 1 = .ok (.iload_n 3, 1) := by decide +kernel
theorem dX4_sortOf_2 : decode cX4_sortOf 2 = .ok (.invokevirtual 83, 3) := by decide +kernel
theorem dX4_sortOf_5 : decode cX4_sortOf 5 = .ok (.istore 4, 2) := by decide +kernel
theorem dX4_sortOf_7 : decode cX4_sortOf 7 = .ok (.aload_n 2, 1) := by decide +kernel
theorem dX4_sortOf_8 : decode cX4_sortOf 8 = .ok (.iload_n 3, 1) := by decide +kernel
theorem dX4_sortOf_9 : decode cX4_sortOf 9 = .ok (.invokevirtual 83, 3) := by decide +kernel
theorem dX4_sortOf_12 : decode cX4_sortOf 12 = .ok (.istore 5, 2) := by decide +kernel
theorem dX4_sortOf_14 : decode cX4_sortOf 14 = .ok (.iload 4, 2) := by decide +kernel
theorem dX4_sortOf_16 : decode cX4_sortOf 16 = .ok (.iconst (-1), 1) := by decide +kernel
theorem dX4_sortOf_17 : decode cX4_sortOf 17 = .ok (.if_icmp .ne 15, 3) := by decide +kernel
theorem dX4_sortOf_20 : decode cX4_sortOf 20 = .ok (.iload 5, 2) := by decide +kernel
theorem dX4_sortOf_22 : decode cX4_sortOf 22 = .ok (.iconst (-1), 1) := by decide +kernel
theorem dX4_sortOf_23 : decode cX4_sortOf 23 = .ok (.if_icmp .ne 7, 3) := by decide +kernel
theorem dX4_sortOf_26 : decode cX4_sortOf 26 = .ok (.iconst (-1), 1) := by decide +kernel
theorem dX4_sortOf_27 : decode cX4_sortOf 27 = .ok (.goto 4, 3) := by decide +kernel
theorem dX4_sortOf_30 : decode cX4_sortOf 30 = .ok (.iconst 3, 1) := by decide +kernel
theorem dX4_sortOf_31 : decode cX4_sortOf 31 = .ok (.ireturn, 1) := by decide +kernel
theorem dX4_sortOf_32 : decode cX4_sortOf 32 = .ok (.iload 5, 2) := by decide +kernel
theorem dX4_sortOf_34 : decode cX4_sortOf 34 = .ok (.iconst (-1), 1) := by decide +kernel
theorem dX4_sortOf_35 : decode cX4_sortOf 35 = .ok (.if_icmp .ne 5, 3) := by decide +kernel
theorem dX4_sortOf_38 : decode cX4_sortOf 38 = .ok (.iconst 2, 1) := by decide +kernel
theorem dX4_sortOf_39 : decode cX4_sortOf 39 = .ok (.ireturn, 1) := by decide +kernel
theorem dX4_sortOf_40 : decode cX4_sortOf 40 = .ok (.iload 4, 2) := by decide +kernel
theorem dX4_sortOf_42 : decode cX4_sortOf 42 = .ok (.iload 5, 2) := by decide +kernel
theorem dX4_sortOf_44 : decode cX4_sortOf 44 = .ok (.if_icmp .ne 7, 3) := by decide +kernel
theorem dX4_sortOf_47 : decode cX4_sortOf 47 = .ok (.iconst 0, 1) := by decide +kernel
theorem dX4_sortOf_48 : decode cX4_sortOf 48 = .ok (.goto 4, 3) := by decide +kernel
theorem dX4_sortOf_51 : decode cX4_sortOf 51 = .ok (.iconst 1, 1) := by decide +kernel
theorem dX4_sortOf_52 : decode cX4_sortOf 52 = .ok (.ireturn, 1) := by decide +kernel
theorem dX4_countSort_0 : decode cX4_countSort 0 = .ok (.iconst 0, 1) := by decide +kernel
theorem dX4_countSort_1 : decode cX4_countSort 1 = .ok (.istore 4, 2) := by decide +kernel
theorem dX4_countSort_3 : decode cX4_countSort 3 = .ok (.iconst 0, 1) := by decide +kernel
theorem dX4_countSort_4 : decode cX4_countSort 4 = .ok (.istore 5, 2) := by decide +kernel
theorem dX4_countSort_6 : decode cX4_countSort 6 = .ok (.iload 5, 2) := by decide +kernel
theorem dX4_countSort_8 : decode cX4_countSort 8 = .ok (.bipush 40, 2) := by decide +kernel
theorem dX4_countSort_10 : decode cX4_countSort 10 = .ok (.if_icmp .ge 24, 3) := by decide +kernel
theorem dX4_countSort_13 : decode cX4_countSort 13 = .ok (.aload_n 0, 1) := by decide +kernel
theorem dX4_countSort_14 : decode cX4_countSort 14 = .ok (.aload_n 1, 1) := by decide +kernel
theorem dX4_countSort_15 : decode cX4_countSort 15 = .ok (.aload_n 2, 1) := by decide +kernel
theorem dX4_countSort_16 : decode cX4_countSort 16 = .ok (.iload 5, 2) := by decide +kernel
theorem dX4_countSort_18 : decode cX4_countSort 18 = .ok (.invokevirtual 322, 3) := by decide +kernel
theorem dX4_countSort_21 : decode cX4_countSort 21 = .ok (.iload_n 3, 1) := by decide +kernel
theorem dX4_countSort_22 : decode cX4_countSort 22 = .ok (.if_icmp .ne 6, 3) := by decide +kernel
theorem dX4_countSort_25 : decode cX4_countSort 25 = .ok (.iinc 4 1, 3) := by decide +kernel
theorem dX4_countSort_28 : decode cX4_countSort 28 = .ok (.iinc 5 1, 3) := by decide +kernel
theorem dX4_countSort_31 : decode cX4_countSort 31 = .ok (.goto (-25), 3) := by decide +kernel
theorem dX4_countSort_34 : decode cX4_countSort 34 = .ok (.iload 4, 2) := by decide +kernel
theorem dX4_countSort_36 : decode cX4_countSort 36 = .ok (.ireturn, 1) := by decide +kernel
theorem dX4_countRuns_0 : decode cX4_countRuns 0 = .ok (.iconst 0, 1) := by decide +kernel
theorem dX4_countRuns_1 : decode cX4_countRuns 1 = .ok (.istore_n 3, 1) := by decide +kernel
theorem dX4_countRuns_2 : decode cX4_countRuns 2 = .ok (.iconst (-1), 1) := by decide +kernel
theorem dX4_countRuns_3 : decode cX4_countRuns 3 = .ok (.istore 4, 2) := by decide +kernel
theorem dX4_countRuns_5 : decode cX4_countRuns 5 = .ok (.iconst 0, 1) := by decide +kernel
theorem dX4_countRuns_6 : decode cX4_countRuns 6 = .ok (.istore 5, 2) := by decide +kernel
theorem dX4_countRuns_8 : decode cX4_countRuns 8 = .ok (.iload 5, 2) := by decide +kernel
theorem dX4_countRuns_10 : decode cX4_countRuns 10 = .ok (.bipush 40, 2) := by decide +kernel
theorem dX4_countRuns_12 : decode cX4_countRuns 12 = .ok (.if_icmp .ge 39, 3) := by decide +kernel
theorem dX4_countRuns_15 : decode cX4_countRuns 15 = .ok (.aload_n 0, 1) := by decide +kernel
theorem dX4_countRuns_16 : decode cX4_countRuns 16 = .ok (.aload_n 1, 1) := by decide +kernel
theorem dX4_countRuns_17 : decode cX4_countRuns 17 = .ok (.aload_n 2, 1) := by decide +kernel
theorem dX4_countRuns_18 : decode cX4_countRuns 18 = .ok (.iload 5, 2) := by decide +kernel
theorem dX4_countRuns_20 : decode cX4_countRuns 20 = .ok (.invokevirtual 322, 3) := by decide +kernel
theorem dX4_countRuns_23 : decode cX4_countRuns 23 = .ok (.istore 6, 2) := by decide +kernel
theorem dX4_countRuns_25 : decode cX4_countRuns 25 = .ok (.iload 6, 2) := by decide +kernel
theorem dX4_countRuns_27 : decode cX4_countRuns 27 = .ok (.iconst (-1), 1) := by decide +kernel
theorem dX4_countRuns_28 : decode cX4_countRuns 28 = .ok (.if_icmp .eq 13, 3) := by decide +kernel
theorem dX4_countRuns_31 : decode cX4_countRuns 31 = .ok (.iload 6, 2) := by decide +kernel
theorem dX4_countRuns_33 : decode cX4_countRuns 33 = .ok (.iload 4, 2) := by decide +kernel
theorem dX4_countRuns_35 : decode cX4_countRuns 35 = .ok (.if_icmp .eq 6, 3) := by decide +kernel
theorem dX4_countRuns_38 : decode cX4_countRuns 38 = .ok (.iinc 3 1, 3) := by decide +kernel
theorem dX4_countRuns_41 : decode cX4_countRuns 41 = .ok (.iload 6, 2) := by decide +kernel
theorem dX4_countRuns_43 : decode cX4_countRuns 43 = .ok (.istore 4, 2) := by decide +kernel
theorem dX4_countRuns_45 : decode cX4_countRuns 45 = .ok (.iinc 5 1, 3) := by decide +kernel
theorem dX4_countRuns_48 : decode cX4_countRuns 48 = .ok (.goto (-40), 3) := by decide +kernel
theorem dX4_countRuns_51 : decode cX4_countRuns 51 = .ok (.iload_n 3, 1) := by decide +kernel
theorem dX4_countRuns_52 : decode cX4_countRuns 52 = .ok (.ireturn, 1) := by decide +kernel
theorem dX5_init_0 : decode cX5_init 0 = .ok (.aload_n 0, 1) := by decide +kernel
theorem dX5_init_1 : decode cX5_init 1 = .ok (.invokespecial 1, 3) := by decide +kernel
theorem dX5_init_4 : decode cX5_init 4 = .ok (.aload_n 0, 1) := by decide +kernel
theorem dX5_init_5 : decode cX5_init 5 = .ok (.bipush 48, 2) := by decide +kernel
theorem dX5_init_7 : decode cX5_init 7 = .ok (.newarray .boolean, 2) := by decide +kernel
theorem dX5_init_9 : decode cX5_init 9 = .ok (.putfield 7, 3) := by decide +kernel
theorem dX5_init_12 : decode cX5_init 12 = .ok (.aload_n 0, 1) := by decide +kernel
theorem dX5_init_13 : decode cX5_init 13 = .ok (.bipush 48, 2) := by decide +kernel
theorem dX5_init_15 : decode cX5_init 15 = .ok (.newarray .int, 2) := by decide +kernel
theorem dX5_init_17 : decode cX5_init 17 = .ok (.putfield 13, 3) := by decide +kernel
theorem dX5_init_20 : decode cX5_init 20 = .ok (.aload_n 0, 1) := by decide +kernel
theorem dX5_init_21 : decode cX5_init 21 = .ok (.bipush 48, 2) := by decide +kernel
theorem dX5_init_23 : decode cX5_init 23 = .ok (.newarray .boolean, 2) := by decide +kernel
theorem dX5_init_25 : decode cX5_init 25 = .ok (.putfield 17, 3) := by decide +kernel
theorem dX5_init_28 : decode cX5_init 28 = .ok (.aload_n 0, 1) := by decide +kernel
theorem dX5_init_29 : decode cX5_init 29 = .ok (.bipush 48, 2) := by decide +kernel
theorem dX5_init_31 : decode cX5_init 31 = .ok (.newarray .int, 2) := by decide +kernel
theorem dX5_init_33 : decode cX5_init 33 = .ok (.putfield 20, 3) := by decide +kernel
theorem dX5_init_36 : decode cX5_init 36 = .ok (.aload_n 0, 1) := by decide +kernel
theorem dX5_init_37 : decode cX5_init 37 = .ok (.bipush 48, 2) := by decide +kernel
theorem dX5_init_39 : decode cX5_init 39 = .ok (.newarray .int, 2) := by decide +kernel
theorem dX5_init_41 : decode cX5_init 41 = .ok (.putfield 23, 3) := by decide +kernel
theorem dX5_init_44 : decode cX5_init 44 = .ok (.aload_n 0, 1) := by decide +kernel
theorem dX5_init_45 : decode cX5_init 45 = .ok (.sipush 1920, 3) := by decide +kernel
theorem dX5_init_48 : decode cX5_init 48 = .ok (.newarray .int, 2) := by decide +kernel
theorem dX5_init_50 : decode cX5_init 50 = .ok (.putfield 26, 3) := by decide +kernel
theorem dX5_init_53 : decode cX5_init 53 = .ok (.aload_n 0, 1) := by decide +kernel
theorem dX5_init_54 : decode cX5_init 54 = .ok (.iconst 3, 1) := by decide +kernel
theorem dX5_init_55 : decode cX5_init 55 = .ok (.newarray .int, 2) := by decide +kernel
theorem dX5_init_57 : decode cX5_init 57 = .ok (.putfield 29, 3) := by decide +kernel
theorem dX5_init_60 : decode cX5_init 60 = .ok (.aload_n 0, 1) := by decide +kernel
theorem dX5_init_61 : decode cX5_init 61 = .ok (.bipush 8, 2) := by decide +kernel
theorem dX5_init_63 : decode cX5_init 63 = .ok (.putfield 32, 3) := by decide +kernel
theorem dX5_init_66 : decode cX5_init 66 = .ok (.aload_n 0, 1) := by decide +kernel
theorem dX5_init_67 : decode cX5_init 67 = .ok (.sipush 384, 3) := by decide +kernel
theorem dX5_init_70 : decode cX5_init 70 = .ok (.newarray .int, 2) := by decide +kernel
theorem dX5_init_72 : decode cX5_init 72 = .ok (.putfield 36, 3) := by decide +kernel
theorem dX5_init_75 : decode cX5_init 75 = .ok (.aload_n 0, 1) := by decide +kernel
theorem dX5_init_76 : decode cX5_init 76 = .ok (.sipush 160, 3) := by decide +kernel
theorem dX5_init_79 : decode cX5_init 79 = .ok (.newarray .int, 2) := by decide +kernel
theorem dX5_init_81 : decode cX5_init 81 = .ok (.putfield 39, 3) := by decide +kernel
theorem dX5_init_84 : decode cX5_init 84 = .ok (.aload_n 0, 1) := by decide +kernel
theorem dX5_init_85 : decode cX5_init 85 = .ok (.bipush 8, 2) := by decide +kernel
theorem dX5_init_87 : decode cX5_init 87 = .ok (.newarray .int, 2) := by decide +kernel
theorem dX5_init_89 : decode cX5_init 89 = .ok (.putfield 42, 3) := by decide +kernel
theorem dX5_init_92 : decode cX5_init 92 = .ok (.aload_n 0, 1) := by decide +kernel
theorem dX5_init_93 : decode cX5_init 93 = .ok (.bipush 8, 2) := by decide +kernel
theorem dX5_init_95 : decode cX5_init 95 = .ok (.newarray .int, 2) := by decide +kernel
theorem dX5_init_97 : decode cX5_init 97 = .ok (.putfield 45, 3) := by decide +kernel
theorem dX5_init_100 : decode cX5_init 100 = .ok (.aload_n 0, 1) := by decide +kernel
theorem dX5_init_101 : decode cX5_init 101 = .ok (.bipush 8, 2) := by decide +kernel
theorem dX5_init_103 : decode cX5_init 103 = .ok (.newarray .int, 2) := by decide +kernel
theorem dX5_init_105 : decode cX5_init 105 = .ok (.putfield 48, 3) := by decide +kernel
theorem dX5_init_108 : decode cX5_init 108 = .ok (.return_, 1) := by decide +kernel
theorem dX5_thrown_0 : decode cX5_thrown 0 = .ok (.aload_n 0, 1) := by decide +kernel
theorem dX5_thrown_1 : decode cX5_thrown 1 = .ok (.getfield 51, 3) := by decide +kernel
theorem dX5_thrown_4 : decode cX5_thrown 4 = .ok (.ireturn, 1) := by decide +kernel
theorem dX5_isNumber_0 : decode cX5_isNumber 0 = .ok (.iload_n 0, 1) := by decide +kernel
theorem dX5_isNumber_1 : decode cX5_isNumber 1 = .ok (.ifCond .lt 13, 3) := by decide +kernel
theorem dX5_isNumber_4 : decode cX5_isNumber 4 = .ok (.iload_n 0, 1) := by decide +kernel
theorem dX5_isNumber_5 : decode cX5_isNumber 5 = .ok (.bipush 16, 2) := by decide +kernel
theorem dX5_isNumber_7 : decode cX5_isNumber 7 = .ok (.if_icmp .ge 7, 3) := by decide +kernel
theorem dX5_isNumber_10 : decode cX5_isNumber 10 = .ok (.iconst 1, 1) := by decide +kernel
theorem dX5_isNumber_11 : decode cX5_isNumber 11 = .ok (.goto 4, 3) := by decide +kernel
theorem dX5_isNumber_14 : decode cX5_isNumber 14 = .ok (.iconst 0, 1) := by decide +kernel
theorem dX5_isNumber_15 : decode cX5_isNumber 15 = .ok (.ireturn, 1) := by decide +kernel
theorem dX5_isVolume_0 : decode cX5_isVolume 0 = .ok (.iload_n 1, 1) := by decide +kernel
theorem dX5_isVolume_1 : decode cX5_isVolume 1 = .ok (.invokestatic 54, 3) := by decide +kernel
theorem dX5_isVolume_4 : decode cX5_isVolume 4 = .ok (.ifCond .eq 16, 3) := by decide +kernel
theorem dX5_isVolume_7 : decode cX5_isVolume 7 = .ok (.aload_n 0, 1) := by decide +kernel
theorem dX5_isVolume_8 : decode cX5_isVolume 8 = .ok (.getfield 7, 3) := by decide +kernel
theorem dX5_isVolume_11 : decode cX5_isVolume 11 = .ok (.iload_n 1, 1) := by decide +kernel
theorem dX5_isVolume_12 : decode cX5_isVolume 12 = .ok (.baload, 1) := by decide +kernel
theorem dX5_isVolume_13 : decode cX5_isVolume 13 = .ok (.ifCond .eq 7, 3) := by decide +kernel
theorem dX5_isVolume_16 : decode cX5_isVolume 16 = .ok (.iconst 1, 1) := by decide +kernel
theorem dX5_isVolume_17 : decode cX5_isVolume 17 = .ok (.goto 4, 3) := by decide +kernel
theorem dX5_isVolume_20 : decode cX5_isVolume 20 = .ok (.iconst 0, 1) := by decide +kernel
theorem dX5_isVolume_21 : decode cX5_isVolume 21 = .ok (.ireturn, 1) := by decide +kernel
theorem dX5_isSize_0 : decode cX5_isSize 0 = .ok (.iload_n 0, 1) := by decide +kernel
theorem dX5_isSize_1 : decode cX5_isSize 1 = .ok (.iconst 1, 1) := by decide +kernel
theorem dX5_isSize_2 : decode cX5_isSize 2 = .ok (.if_icmp .lt 13, 3) := by decide +kernel
theorem dX5_isSize_5 : decode cX5_isSize 5 = .ok (.iload_n 0, 1) := by decide +kernel
theorem dX5_isSize_6 : decode cX5_isSize 6 = .ok (.bipush 40, 2) := by decide +kernel
theorem dX5_isSize_8 : decode cX5_isSize 8 = .ok (.if_icmp .gt 7, 3) := by decide +kernel
theorem dX5_isSize_11 : decode cX5_isSize 11 = .ok (.iconst 1, 1) := by decide +kernel
theorem dX5_isSize_12 : decode cX5_isSize 12 = .ok (.goto 4, 3) := by decide +kernel
theorem dX5_isSize_15 : decode cX5_isSize 15 = .ok (.iconst 0, 1) := by decide +kernel
theorem dX5_isSize_16 : decode cX5_isSize 16 = .ok (.ireturn, 1) := by decide +kernel
theorem dX5_at_0 : decode cX5_at 0 = .ok (.bipush 40, 2) := by decide +kernel
theorem dX5_at_2 : decode cX5_at 2 = .ok (.bipush 16, 2) := by decide +kernel
theorem dX5_at_4 : decode cX5_at 4 = .ok (.iload_n 0, 1) := by decide +kernel
theorem dX5_at_5 : decode cX5_at 5 = .ok (.imul, 1) := by decide +kernel
theorem dX5_at_6 : decode cX5_at 6 = .ok (.iload_n 1, 1) := by decide +kernel
theorem dX5_at_7 : decode cX5_at 7 = .ok (.iadd, 1) := by decide +kernel
theorem dX5_at_8 : decode cX5_at 8 = .ok (.imul, 1) := by decide +kernel
theorem dX5_at_9 : decode cX5_at 9 = .ok (.iload_n 2, 1) := by decide +kernel
theorem dX5_at_10 : decode cX5_at 10 = .ok (.iadd, 1) := by decide +kernel
theorem dX5_at_11 : decode cX5_at 11 = .ok (.ireturn, 1) := by decide +kernel
theorem dX5_usersOf_0 : decode cX5_usersOf 0 = .ok (.iconst 0, 1) := by decide +kernel
theorem dX5_usersOf_1 : decode cX5_usersOf 1 = .ok (.istore_n 3, 1) := by decide +kernel
theorem dX5_usersOf_2 : decode cX5_usersOf 2 = .ok (.iconst 0, 1) := by decide +kernel
theorem dX5_usersOf_3 : decode cX5_usersOf 3 = .ok (.istore 4, 2) := by decide +kernel
theorem dX5_usersOf_5 : decode cX5_usersOf 5 = .ok (.iload 4, 2) := by decide +kernel
theorem dX5_usersOf_7 : decode cX5_usersOf 7 = .ok (.bipush 16, 2) := by decide +kernel
theorem dX5_usersOf_9 : decode cX5_usersOf 9 = .ok (.if_icmp .ge 65, 3) := by decide +kernel
theorem dX5_usersOf_12 : decode cX5_usersOf 12 = .ok (.iconst 0, 1) := by decide +kernel
theorem dX5_usersOf_13 : decode cX5_usersOf 13 = .ok (.istore 5, 2) := by decide +kernel
theorem dX5_usersOf_15 : decode cX5_usersOf 15 = .ok (.iload 5, 2) := by decide +kernel
theorem dX5_usersOf_17 : decode cX5_usersOf 17 = .ok (.bipush 40, 2) := by decide +kernel
theorem dX5_usersOf_19 : decode cX5_usersOf 19 = .ok (.if_icmp .ge 49, 3) := by decide +kernel
theorem dX5_usersOf_22 : decode cX5_usersOf 22 = .ok (.aload_n 0, 1) := by decide +kernel
theorem dX5_usersOf_23 : decode cX5_usersOf 23 = .ok (.getfield 7, 3) := by decide +kernel
theorem dX5_usersOf_26 : decode cX5_usersOf 26 = .ok (.bipush 16, 2) := by decide +kernel
theorem dX5_usersOf_28 : decode cX5_usersOf 28 = .ok (.iload_n 1, 1) := by decide +kernel
theorem dX5_usersOf_29 : decode cX5_usersOf 29 = .ok (.imul, 1) := by decide +kernel
theorem dX5_usersOf_30 : decode cX5_usersOf 30 = .ok (.iload 4, 2) := by decide +kernel
theorem dX5_usersOf_32 : decode cX5_usersOf 32 = .ok (.iadd, 1) := by decide +kernel
theorem dX5_usersOf_33 : decode cX5_usersOf 33 = .ok (.baload, 1) := by decide +kernel
theorem dX5_usersOf_34 : decode cX5_usersOf 34 = .ok (.ifCond .eq 34, 3) := by decide +kernel
theorem dX5_usersOf_37 : decode cX5_usersOf 37 = .ok (.iload_n 3, 1) := by decide +kernel
theorem dX5_usersOf_38 : decode cX5_usersOf 38 = .ok (.aload_n 0, 1) := by decide +kernel
theorem dX5_usersOf_39 : decode cX5_usersOf 39 = .ok (.getfield 26, 3) := by decide +kernel
theorem dX5_usersOf_42 : decode cX5_usersOf 42 = .ok (.iload_n 1, 1) := by decide +kernel
theorem dX5_usersOf_43 : decode cX5_usersOf 43 = .ok (.iload 4, 2) := by decide +kernel
theorem dX5_usersOf_45 : decode cX5_usersOf 45 = .ok (.iload 5, 2) := by decide +kernel
theorem dX5_usersOf_47 : decode cX5_usersOf 47 = .ok (.invokestatic 58, 3) := by decide +kernel
theorem dX5_usersOf_50 : decode cX5_usersOf 50 = .ok (.iaload, 1) := by decide +kernel
theorem dX5_usersOf_51 : decode cX5_usersOf 51 = .ok (.iload_n 2, 1) := by decide +kernel
theorem dX5_usersOf_52 : decode cX5_usersOf 52 = .ok (.if_icmp .ne 7, 3) := by decide +kernel
theorem dX5_usersOf_55 : decode cX5_usersOf 55 = .ok (.iconst 1, 1) := by decide +kernel
theorem dX5_usersOf_56 : decode cX5_usersOf 56 = .ok (.goto 4, 3) := by decide +kernel
theorem dX5_usersOf_59 : decode cX5_usersOf 59 = .ok (.iconst 0, 1) := by decide +kernel
theorem dX5_usersOf_60 : decode cX5_usersOf 60 = .ok (.iadd, 1) := by decide +kernel
theorem dX5_usersOf_61 : decode cX5_usersOf 61 = .ok (.istore_n 3, 1) := by decide +kernel
theorem dX5_usersOf_62 : decode cX5_usersOf 62 = .ok (.iinc 5 1, 3) := by decide +kernel
theorem dX5_usersOf_65 : decode cX5_usersOf 65 = .ok (.goto (-50), 3) := by decide +kernel
theorem dX5_usersOf_68 : decode cX5_usersOf 68 = .ok (.iinc 4 1, 3) := by decide +kernel
theorem dX5_usersOf_71 : decode cX5_usersOf 71 = .ok (.goto (-66), 3) := by decide +kernel
theorem dX5_usersOf_74 : decode cX5_usersOf 74 = .ok (.iload_n 3, 1) := by decide +kernel
theorem dX5_usersOf_75 : decode cX5_usersOf 75 = .ok (.ireturn, 1) := by decide +kernel
theorem dX5_isFree_0 : decode cX5_isFree 0 = .ok (.aload_n 0, 1) := by decide +kernel
theorem dX5_isFree_1 : decode cX5_isFree 1 = .ok (.iconst 0, 1) := by decide +kernel
theorem dX5_isFree_2 : decode cX5_isFree 2 = .ok (.iload_n 1, 1) := by decide +kernel
theorem dX5_isFree_3 : decode cX5_isFree 3 = .ok (.invokevirtual 62, 3) := by decide +kernel
theorem dX5_isFree_6 : decode cX5_isFree 6 = .ok (.aload_n 0, 1) := by decide +kernel
theorem dX5_isFree_7 : decode cX5_isFree 7 = .ok (.iconst 1, 1) := by decide +kernel
theorem dX5_isFree_8 : decode cX5_isFree 8 = .ok (.iload_n 1, 1) := by decide +kernel
theorem dX5_isFree_9 : decode cX5_isFree 9 = .ok (.invokevirtual 62, 3) := by decide +kernel
theorem dX5_isFree_12 : decode cX5_isFree 12 = .ok (.iadd, 1) := by decide +kernel
theorem dX5_isFree_13 : decode cX5_isFree 13 = .ok (.aload_n 0, 1) := by decide +kernel
theorem dX5_isFree_14 : decode cX5_isFree 14 = .ok (.iconst 2, 1) := by decide +kernel
theorem dX5_isFree_15 : decode cX5_isFree 15 = .ok (.iload_n 1, 1) := by decide +kernel
theorem dX5_isFree_16 : decode cX5_isFree 16 = .ok (.invokevirtual 62, 3) := by decide +kernel
theorem dX5_isFree_19 : decode cX5_isFree 19 = .ok (.iadd, 1) := by decide +kernel
theorem dX5_isFree_20 : decode cX5_isFree 20 = .ok (.ifCond .ne 7, 3) := by decide +kernel
theorem dX5_isFree_23 : decode cX5_isFree 23 = .ok (.iconst 1, 1) := by decide +kernel
theorem dX5_isFree_24 : decode cX5_isFree 24 = .ok (.goto 4, 3) := by decide +kernel
theorem dX5_isFree_27 : decode cX5_isFree 27 = .ok (.iconst 0, 1) := by decide +kernel
theorem dX5_isFree_28 : decode cX5_isFree 28 = .ok (.ireturn, 1) := by decide +kernel
theorem dX5_isSole_0 : decode cX5_isSole 0 = .ok (.aload_n 0, 1) := by decide +kernel
theorem dX5_isSole_1 : decode cX5_isSole 1 = .ok (.iconst 0, 1) := by decide +kernel
theorem dX5_isSole_2 : decode cX5_isSole 2 = .ok (.iload_n 1, 1) := by decide +kernel
theorem dX5_isSole_3 : decode cX5_isSole 3 = .ok (.invokevirtual 62, 3) := by decide +kernel
theorem dX5_isSole_6 : decode cX5_isSole 6 = .ok (.iconst 1, 1) := by decide +kernel
theorem dX5_isSole_7 : decode cX5_isSole 7 = .ok (.if_icmp .ne 23, 3) := by decide +kernel
theorem dX5_isSole_10 : decode cX5_isSole 10 = .ok (.aload_n 0, 1) := by decide +kernel
theorem dX5_isSole_11 : decode cX5_isSole 11 = .ok (.iconst 1, 1) := by decide +kernel
theorem dX5_isSole_12 : decode cX5_isSole 12 = .ok (.iload_n 1, 1) := by decide +kernel
theorem dX5_isSole_13 : decode cX5_isSole 13 = .ok (.invokevirtual 62, 3) := by decide +kernel
theorem dX5_isSole_16 : decode cX5_isSole 16 = .ok (.aload_n 0, 1) := by decide +kernel
theorem dX5_isSole_17 : decode cX5_isSole 17 = .ok (.iconst 2, 1) := by decide +kernel
theorem dX5_isSole_18 : decode cX5_isSole 18 = .ok (.iload_n 1, 1) := by decide +kernel
theorem dX5_isSole_19 : decode cX5_isSole 19 = .ok (.invokevirtual 62, 3) := by decide +kernel
theorem dX5_isSole_22 : decode cX5_isSole 22 = .ok (.iadd, 1) := by decide +kernel
theorem dX5_isSole_23 : decode cX5_isSole 23 = .ok (.ifCond .ne 7, 3) := by decide +kernel
theorem dX5_isSole_26 : decode cX5_isSole 26 = .ok (.iconst 1, 1) := by decide +kernel
theorem dX5_isSole_27 : decode cX5_isSole 27 = .ok (.goto 4, 3) := by decide +kernel
theorem dX5_isSole_30 : decode cX5_isSole 30 = .ok (.iconst 0, 1) := by decide +kernel
theorem dX5_isSole_31 : decode cX5_isSole 31 = .ok (.ireturn, 1) := by decide +kernel
theorem dX5_freeMany_0 : decode cX5_freeMany 0 = .ok (.iconst 0, 1) := by decide +kernel
theorem dX5_freeMany_1 : decode cX5_freeMany 1 = .ok (.istore_n 1, 1) := by decide +kernel
theorem dX5_freeMany_2 : decode cX5_freeMany 2 = .ok (.iconst 0, 1) := by decide +kernel
theorem dX5_freeMany_3 : decode cX5_freeMany 3 = .ok (.istore_n 2, 1) := by decide +kernel
theorem dX5_freeMany_4 : decode cX5_freeMany 4 = .ok (.iload_n 2, 1) := by decide +kernel
theorem dX5_freeMany_5 : decode cX5_freeMany 5 = .ok (.aload_n 0, 1) := by decide +kernel
theorem dX5_freeMany_6 : decode cX5_freeMany 6 = .ok (.getfield 32, 3) := by decide +kernel
theorem dX5_freeMany_9 : decode cX5_freeMany 9 = .ok (.if_icmp .ge 25, 3) := by decide +kernel
theorem dX5_freeMany_12 : decode cX5_freeMany 12 = .ok (.iload_n 1, 1) := by decide +kernel
theorem dX5_freeMany_13 : decode cX5_freeMany 13 = .ok (.aload_n 0, 1) := by decide +kernel
theorem dX5_freeMany_14 : decode cX5_freeMany 14 = .ok (.iload_n 2, 1) := by decide +kernel
theorem dX5_freeMany_15 : decode cX5_freeMany 15 = .ok (.invokevirtual 66, 3) := by decide +kernel
theorem dX5_freeMany_18 : decode cX5_freeMany 18 = .ok (.ifCond .eq 7, 3) := by decide +kernel
theorem dX5_freeMany_21 : decode cX5_freeMany 21 = .ok (.iconst 1, 1) := by decide +kernel
theorem dX5_freeMany_22 : decode cX5_freeMany 22 = .ok (.goto 4, 3) := by decide +kernel
theorem dX5_freeMany_25 : decode cX5_freeMany 25 = .ok (.iconst 0, 1) := by decide +kernel
theorem dX5_freeMany_26 : decode cX5_freeMany 26 = .ok (.iadd, 1) := by decide +kernel
theorem dX5_freeMany_27 : decode cX5_freeMany 27 = .ok (.istore_n 1, 1) := by decide +kernel
theorem dX5_freeMany_28 : decode cX5_freeMany 28 = .ok (.iinc 2 1, 3) := by decide +kernel
theorem dX5_freeMany_31 : decode cX5_freeMany 31 = .ok (.goto (-27), 3) := by decide +kernel
theorem dX5_freeMany_34 : decode cX5_freeMany 34 = .ok (.iload_n 1, 1) := by decide +kernel
theorem dX5_freeMany_35 : decode cX5_freeMany 35 = .ok (.ireturn, 1) := by decide +kernel
theorem dX5_mapped_0 : decode cX5_mapped 0 = .ok (.iconst 0, 1) := by decide +kernel
theorem dX5_mapped_1 : decode cX5_mapped 1 = .ok (.istore_n 2, 1) := by decide +kernel
theorem dX5_mapped_2 : decode cX5_mapped 2 = .ok (.iconst 0, 1) := by decide +kernel
theorem dX5_mapped_3 : decode cX5_mapped 3 = .ok (.istore_n 3, 1) := by decide +kernel
theorem dX5_mapped_4 : decode cX5_mapped 4 = .ok (.iload_n 3, 1) := by decide +kernel
theorem dX5_mapped_5 : decode cX5_mapped 5 = .ok (.bipush 40, 2) := by decide +kernel
theorem dX5_mapped_7 : decode cX5_mapped 7 = .ok (.if_icmp .ge 32, 3) := by decide +kernel
theorem dX5_mapped_10 : decode cX5_mapped 10 = .ok (.iload_n 2, 1) := by decide +kernel
theorem dX5_mapped_11 : decode cX5_mapped 11 = .ok (.aload_n 0, 1) := by decide +kernel
theorem dX5_mapped_12 : decode cX5_mapped 12 = .ok (.getfield 26, 3) := by decide +kernel
theorem dX5_mapped_15 : decode cX5_mapped 15 = .ok (.iconst 0, 1) := by decide +kernel
theorem dX5_mapped_16 : decode cX5_mapped 16 = .ok (.iload_n 1, 1) := by decide +kernel
theorem dX5_mapped_17 : decode cX5_mapped 17 = .ok (.iload_n 3, 1) := by decide +kernel
theorem dX5_mapped_18 : decode cX5_mapped 18 = .ok (.invokestatic 58, 3) := by decide +kernel
theorem dX5_mapped_21 : decode cX5_mapped 21 = .ok (.iaload, 1) := by decide +kernel
theorem dX5_mapped_22 : decode cX5_mapped 22 = .ok (.iconst (-1), 1) := by decide +kernel
theorem dX5_mapped_23 : decode cX5_mapped 23 = .ok (.if_icmp .eq 7, 3) := by decide +kernel
theorem dX5_mapped_26 : decode cX5_mapped 26 = .ok (.iconst 1, 1) := by decide +kernel
theorem dX5_mapped_27 : decode cX5_mapped 27 = .ok (.goto 4, 3) := by decide +kernel
theorem dX5_mapped_30 : decode cX5_mapped 30 = .ok (.iconst 0, 1) := by decide +kernel
theorem dX5_mapped_31 : decode cX5_mapped 31 = .ok (.iadd, 1) := by decide +kernel
theorem dX5_mapped_32 : decode cX5_mapped 32 = .ok (.istore_n 2, 1) := by decide +kernel
theorem dX5_mapped_33 : decode cX5_mapped 33 = .ok (.iinc 3 1, 3) := by decide +kernel
theorem dX5_mapped_36 : decode cX5_mapped 36 = .ok (.goto (-32), 3) := by decide +kernel
theorem dX5_mapped_39 : decode cX5_mapped 39 = .ok (.iload_n 2, 1) := by decide +kernel
theorem dX5_mapped_40 : decode cX5_mapped 40 = .ok (.ireturn, 1) := by decide +kernel
theorem dX5_volumes_0 : decode cX5_volumes 0 = .ok (.iconst 0, 1) := by decide +kernel
theorem dX5_volumes_1 : decode cX5_volumes 1 = .ok (.istore_n 2, 1) := by decide +kernel
theorem dX5_volumes_2 : decode cX5_volumes 2 = .ok (.iconst 0, 1) := by decide +kernel
theorem dX5_volumes_3 : decode cX5_volumes 3 = .ok (.istore_n 3, 1) := by decide +kernel
theorem dX5_volumes_4 : decode cX5_volumes 4 = .ok (.iload_n 3, 1) := by decide +kernel
theorem dX5_volumes_5 : decode cX5_volumes 5 = .ok (.bipush 16, 2) := by decide +kernel
theorem dX5_volumes_7 : decode cX5_volumes 7 = .ok (.if_icmp .ge 31, 3) := by decide +kernel
theorem dX5_volumes_10 : decode cX5_volumes 10 = .ok (.iload_n 2, 1) := by decide +kernel
theorem dX5_volumes_11 : decode cX5_volumes 11 = .ok (.aload_n 0, 1) := by decide +kernel
theorem dX5_volumes_12 : decode cX5_volumes 12 = .ok (.getfield 7, 3) := by decide +kernel
theorem dX5_volumes_15 : decode cX5_volumes 15 = .ok (.bipush 16, 2) := by decide +kernel
theorem dX5_volumes_17 : decode cX5_volumes 17 = .ok (.iload_n 1, 1) := by decide +kernel
theorem dX5_volumes_18 : decode cX5_volumes 18 = .ok (.imul, 1) := by decide +kernel
theorem dX5_volumes_19 : decode cX5_volumes 19 = .ok (.iload_n 3, 1) := by decide +kernel
theorem dX5_volumes_20 : decode cX5_volumes 20 = .ok (.iadd, 1) := by decide +kernel
theorem dX5_volumes_21 : decode cX5_volumes 21 = .ok (.baload, 1) := by decide +kernel
theorem dX5_volumes_22 : decode cX5_volumes 22 = .ok (.ifCond .eq 7, 3) := by decide +kernel
theorem dX5_volumes_25 : decode cX5_volumes 25 = .ok (.iconst 1, 1) := by decide +kernel
theorem dX5_volumes_26 : decode cX5_volumes 26 = .ok (.goto 4, 3) := by decide +kernel
theorem dX5_volumes_29 : decode cX5_volumes 29 = .ok (.iconst 0, 1) := by decide +kernel
theorem dX5_volumes_30 : decode cX5_volumes 30 = .ok (.iadd, 1) := by decide +kernel
theorem dX5_volumes_31 : decode cX5_volumes 31 = .ok (.istore_n 2, 1) := by decide +kernel
theorem dX5_volumes_32 : decode cX5_volumes 32 = .ok (.iinc 3 1, 3) := by decide +kernel
theorem dX5_volumes_35 : decode cX5_volumes 35 = .ok (.goto (-31), 3) := by decide +kernel
theorem dX5_volumes_38 : decode cX5_volumes 38 = .ok (.iload_n 2, 1) := by decide +kernel
theorem dX5_volumes_39 : decode cX5_volumes 39 = .ok (.ireturn, 1) := by decide +kernel
theorem dX5_clearState_0 : decode cX5_clearState 0 = .ok (.bipush 16, 2) := by decide +kernel
theorem dX5_clearState_2 : decode cX5_clearState 2 = .ok (.iload_n 1, 1) := by decide +kernel
theorem dX5_clearState_3 : decode cX5_clearState 3 = .ok (.imul, 1) := by decide +kernel
theorem dX5_clearState_4 : decode cX5_clearState 4 = .ok (.istore_n 2, 1) := by decide +kernel
theorem dX5_clearState_5 : decode cX5_clearState 5 = .ok (.iload_n 2, 1) := by decide +kernel
theorem dX5_clearState_6 : decode cX5_clearState 6 = .ok (.bipush 16, 2) := by decide +kernel
theorem dX5_clearState_8 : decode cX5_clearState 8 = .ok (.iload_n 1, 1) := by decide +kernel
theorem dX5_clearState_9 : decode cX5_clearState 9 = .ok (.imul, 1) := by decide +kernel
theorem dX5_clearState_10 : decode cX5_clearState 10 = .ok (.bipush 16, 2) := by decide +kernel
theorem dX5_clearState_12 : decode cX5_clearState 12 = .ok (.iadd, 1) := by decide +kernel
theorem dX5_clearState_13 : decode cX5_clearState 13 = .ok (.if_icmp .ge 16, 3) := by decide +kernel
theorem dX5_clearState_16 : decode cX5_clearState 16 = .ok (.aload_n 0, 1) := by decide +kernel
theorem dX5_clearState_17 : decode cX5_clearState 17 = .ok (.getfield 7, 3) := by decide +kernel
theorem dX5_clearState_20 : decode cX5_clearState 20 = .ok (.iload_n 2, 1) := by decide +kernel
theorem dX5_clearState_21 : decode cX5_clearState 21 = .ok (.iconst 0, 1) := by decide +kernel
theorem dX5_clearState_22 : decode cX5_clearState 22 = .ok (.bastore, 1) := by decide +kernel
theorem dX5_clearState_23 : decode cX5_clearState 23 = .ok (.iinc 2 1, 3) := by decide +kernel
theorem dX5_clearState_26 : decode cX5_clearState 26 = .ok (.goto (-21), 3) := by decide +kernel
theorem dX5_clearState_29 : decode cX5_clearState 29 = .ok (.aload_n 0, 1) := by decide +kernel
theorem dX5_clearState_30 : decode cX5_clearState 30 = .ok (.getfield 29, 3) := by decide +kernel
theorem dX5_clearState_33 : decode cX5_clearState 33 = .ok (.iload_n 1, 1) := by decide +kernel
theorem dX5_clearState_34 : decode cX5_clearState 34 = .ok (.iconst 0, 1) := by decide +kernel
theorem dX5_clearState_35 : decode cX5_clearState 35 = .ok (.iastore, 1) := by decide +kernel
theorem dX5_clearState_36 : decode cX5_clearState 36 = .ok (.return_, 1) := by decide +kernel
theorem dX5_copy_0 : decode cX5_copy 0 = .ok (.iconst 0, 1) := by decide +kernel
theorem dX5_copy_1 : decode cX5_copy 1 = .ok (.istore_n 3, 1) := by decide +kernel
theorem dX5_copy_2 : decode cX5_copy 2 = .ok (.iload_n 3, 1) := by decide +kernel
theorem dX5_copy_3 : decode cX5_copy 3 = .ok (.bipush 16, 2) := by decide +kernel
theorem dX5_copy_5 : decode cX5_copy 5 = .ok (.if_icmp .ge 39, 3) := by decide +kernel
theorem dX5_copy_8 : decode cX5_copy 8 = .ok (.aload_n 0, 1) := by decide +kernel
theorem dX5_copy_9 : decode cX5_copy 9 = .ok (.iload_n 1, 1) := by decide +kernel
theorem dX5_copy_10 : decode cX5_copy 10 = .ok (.iload_n 3, 1) := by decide +kernel
theorem dX5_copy_11 : decode cX5_copy 11 = .ok (.iload_n 2, 1) := by decide +kernel
theorem dX5_copy_12 : decode cX5_copy 12 = .ok (.iload_n 3, 1) := by decide +kernel
theorem dX5_copy_13 : decode cX5_copy 13 = .ok (.invokevirtual 69, 3) := by decide +kernel
theorem dX5_copy_16 : decode cX5_copy 16 = .ok (.aload_n 0, 1) := by decide +kernel
theorem dX5_copy_17 : decode cX5_copy 17 = .ok (.getfield 23, 3) := by decide +kernel
theorem dX5_copy_20 : decode cX5_copy 20 = .ok (.bipush 16, 2) := by decide +kernel
theorem dX5_copy_22 : decode cX5_copy 22 = .ok (.iload_n 2, 1) := by decide +kernel
theorem dX5_copy_23 : decode cX5_copy 23 = .ok (.imul, 1) := by decide +kernel
theorem dX5_copy_24 : decode cX5_copy 24 = .ok (.iload_n 3, 1) := by decide +kernel
theorem dX5_copy_25 : decode cX5_copy 25 = .ok (.iadd, 1) := by decide +kernel
theorem dX5_copy_26 : decode cX5_copy 26 = .ok (.aload_n 0, 1) := by decide +kernel
theorem dX5_copy_27 : decode cX5_copy 27 = .ok (.getfield 23, 3) := by decide +kernel
theorem dX5_copy_30 : decode cX5_copy 30 = .ok (.bipush 16, 2) := by decide +kernel
theorem dX5_copy_32 : decode cX5_copy 32 = .ok (.iload_n 1, 1) := by decide +kernel
theorem dX5_copy_33 : decode cX5_copy 33 = .ok (.imul, 1) := by decide +kernel
theorem dX5_copy_34 : decode cX5_copy 34 = .ok (.iload_n 3, 1) := by decide +kernel
theorem dX5_copy_35 : decode cX5_copy 35 = .ok (.iadd, 1) := by decide +kernel
theorem dX5_copy_36 : decode cX5_copy 36 = .ok (.iaload, 1) := by decide +kernel
theorem dX5_copy_37 : decode cX5_copy 37 = .ok (.iastore, 1) := by decide +kernel
theorem dX5_copy_38 : decode cX5_copy 38 = .ok (.iinc 3 1, 3) := by decide +kernel
theorem dX5_copy_41 : decode cX5_copy 41 = .ok (.goto (-39), 3) := by decide +kernel
theorem dX5_copy_44 : decode cX5_copy 44 = .ok (.aload_n 0, 1) := by decide +kernel
theorem dX5_copy_45 : decode cX5_copy 45 = .ok (.getfield 29, 3) := by decide +kernel
theorem dX5_copy_48 : decode cX5_copy 48 = .ok (.iload_n 2, 1) := by decide +kernel
theorem dX5_copy_49 : decode cX5_copy 49 = .ok (.aload_n 0, 1) := by decide +kernel
theorem dX5_copy_50 : decode cX5_copy 50 = .ok (.getfield 29, 3) := by decide +kernel
theorem dX5_copy_53 : decode cX5_copy 53 = .ok (.iload_n 1, 1) := by decide +kernel
theorem dX5_copy_54 : decode cX5_copy 54 = .ok (.iaload, 1) := by decide +kernel
theorem dX5_copy_55 : decode cX5_copy 55 = .ok (.iastore, 1) := by decide +kernel
theorem dX5_copy_56 : decode cX5_copy 56 = .ok (.return_, 1) := by decide +kernel
theorem dX5_copyVolume_0 : decode cX5_copyVolume 0 = .ok (.bipush 16, 2) := by decide +kernel
theorem dX5_copyVolume_2 : decode cX5_copyVolume 2 = .ok (.iload_n 1, 1) := by decide +kernel
theorem dX5_copyVolume_3 : decode cX5_copyVolume 3 = .ok (.imul, 1) := by decide +kernel
theorem dX5_copyVolume_4 : decode cX5_copyVolume 4 = .ok (.iload_n 2, 1) := by decide +kernel
theorem dX5_copyVolume_5 : decode cX5_copyVolume 5 = .ok (.iadd, 1) := by decide +kernel
theorem dX5_copyVolume_6 : decode cX5_copyVolume 6 = .ok (.istore 5, 2) := by decide +kernel
theorem dX5_copyVolume_8 : decode cX5_copyVolume 8 = .ok (.bipush 16, 2) := by decide +kernel
theorem dX5_copyVolume_10 : decode cX5_copyVolume 10 = .ok (.iload_n 3, 1) := by decide +kernel
theorem dX5_copyVolume_11 : decode cX5_copyVolume 11 = .ok (.imul, 1) := by decide +kernel
theorem dX5_copyVolume_12 : decode cX5_copyVolume 12 = .ok (.iload 4, 2) := by decide +kernel
theorem dX5_copyVolume_14 : decode cX5_copyVolume 14 = .ok (.iadd, 1) := by decide +kernel
theorem dX5_copyVolume_15 : decode cX5_copyVolume 15 = .ok (.istore 6, 2) := by decide +kernel
theorem dX5_copyVolume_17 : decode cX5_copyVolume 17 = .ok (.aload_n 0, 1) := by decide +kernel
theorem dX5_copyVolume_18 : decode cX5_copyVolume 18 = .ok (.getfield 7, 3) := by decide +kernel
theorem dX5_copyVolume_21 : decode cX5_copyVolume 21 = .ok (.iload 6, 2) := by decide +kernel
theorem dX5_copyVolume_23 : decode cX5_copyVolume 23 = .ok (.aload_n 0, 1) := by decide +kernel
theorem dX5_copyVolume_24 : decode cX5_copyVolume 24 = .ok (.getfield 7, 3) := by decide +kernel
theorem dX5_copyVolume_27 : decode cX5_copyVolume 27 = .ok (.iload 5, 2) := by decide +kernel
theorem dX5_copyVolume_29 : decode cX5_copyVolume 29 = .ok (.baload, 1) := by decide +kernel
theorem dX5_copyVolume_30 : decode cX5_copyVolume 30 = .ok (.bastore, 1) := by decide +kernel
theorem dX5_copyVolume_31 : decode cX5_copyVolume 31 = .ok (.aload_n 0, 1) := by decide +kernel
theorem dX5_copyVolume_32 : decode cX5_copyVolume 32 = .ok (.getfield 13, 3) := by decide +kernel
theorem dX5_copyVolume_35 : decode cX5_copyVolume 35 = .ok (.iload 6, 2) := by decide +kernel
theorem dX5_copyVolume_37 : decode cX5_copyVolume 37 = .ok (.aload_n 0, 1) := by decide +kernel
theorem dX5_copyVolume_38 : decode cX5_copyVolume 38 = .ok (.getfield 13, 3) := by decide +kernel
theorem dX5_copyVolume_41 : decode cX5_copyVolume 41 = .ok (.iload 5, 2) := by decide +kernel
theorem dX5_copyVolume_43 : decode cX5_copyVolume 43 = .ok (.iaload, 1) := by decide +kernel
theorem dX5_copyVolume_44 : decode cX5_copyVolume 44 = .ok (.iastore, 1) := by decide +kernel
theorem dX5_copyVolume_45 : decode cX5_copyVolume 45 = .ok (.aload_n 0, 1) := by decide +kernel
theorem dX5_copyVolume_46 : decode cX5_copyVolume 46 = .ok (.getfield 17, 3) := by decide +kernel
theorem dX5_copyVolume_49 : decode cX5_copyVolume 49 = .ok (.iload 6, 2) := by decide +kernel
theorem dX5_copyVolume_51 : decode cX5_copyVolume 51 = .ok (.aload_n 0, 1) := by decide +kernel
theorem dX5_copyVolume_52 : decode cX5_copyVolume 52 = .ok (.getfield 17, 3) := by decide +kernel
theorem dX5_copyVolume_55 : decode cX5_copyVolume 55 = .ok (.iload 5, 2) := by decide +kernel
theorem dX5_copyVolume_57 : decode cX5_copyVolume 57 = .ok (.baload, 1) := by decide +kernel
theorem dX5_copyVolume_58 : decode cX5_copyVolume 58 = .ok (.bastore, 1) := by decide +kernel
theorem dX5_copyVolume_59 : decode cX5_copyVolume 59 = .ok (.aload_n 0, 1) := by decide +kernel
theorem dX5_copyVolume_60 : decode cX5_copyVolume 60 = .ok (.getfield 20, 3) := by decide +kernel
theorem dX5_copyVolume_63 : decode cX5_copyVolume 63 = .ok (.iload 6, 2) := by decide +kernel
theorem dX5_copyVolume_65 : decode cX5_copyVolume 65 = .ok (.aload_n 0, 1) := by decide +kernel
theorem dX5_copyVolume_66 : decode cX5_copyVolume 66 = .ok (.getfield 20, 3) := by decide +kernel
theorem dX5_copyVolume_69 : decode cX5_copyVolume 69 = .ok (.iload 5, 2) := by decide +kernel
theorem dX5_copyVolume_71 : decode cX5_copyVolume 71 = .ok (.iaload, 1) := by decide +kernel
theorem dX5_copyVolume_72 : decode cX5_copyVolume 72 = .ok (.iastore, 1) := by decide +kernel
theorem dX5_copyVolume_73 : decode cX5_copyVolume 73 = .ok (.iconst 0, 1) := by decide +kernel
theorem dX5_copyVolume_74 : decode cX5_copyVolume 74 = .ok (.istore 7, 2) := by decide +kernel
theorem dX5_copyVolume_76 : decode cX5_copyVolume 76 = .ok (.iload 7, 2) := by decide +kernel
theorem dX5_copyVolume_78 : decode cX5_copyVolume 78 = .ok (.bipush 40, 2) := by decide +kernel
theorem dX5_copyVolume_80 : decode cX5_copyVolume 80 = .ok (.if_icmp .ge 35, 3) := by decide +kernel
theorem dX5_copyVolume_83 : decode cX5_copyVolume 83 = .ok (.aload_n 0, 1) := by decide +kernel
theorem dX5_copyVolume_84 : decode cX5_copyVolume 84 = .ok (.getfield 26, 3) := by decide +kernel
theorem dX5_copyVolume_87 : decode cX5_copyVolume 87 = .ok (.bipush 40, 2) := by decide +kernel
theorem dX5_copyVolume_89 : decode cX5_copyVolume 89 = .ok (.iload 6, 2) := by decide +kernel
theorem dX5_copyVolume_91 : decode cX5_copyVolume 91 = .ok (.imul, 1) := by decide +kernel
theorem dX5_copyVolume_92 : decode cX5_copyVolume 92 = .ok (.iload 7, 2) := by decide +kernel
theorem dX5_copyVolume_94 : decode cX5_copyVolume 94 = .ok (.iadd, 1) := by decide +kernel
theorem dX5_copyVolume_95 : decode cX5_copyVolume 95 = .ok (.aload_n 0, 1) := by decide +kernel
theorem dX5_copyVolume_96 : decode cX5_copyVolume 96 = .ok (.getfield 26, 3) := by decide +kernel
theorem dX5_copyVolume_99 : decode cX5_copyVolume 99 = .ok (.bipush 40, 2) := by decide +kernel
theorem dX5_copyVolume_101 : decode cX5_copyVolume 101 = .ok (.iload 5, 2) := by decide +kernel
theorem dX5_copyVolume_103 : decode cX5_copyVolume 103 = .ok (.imul, 1) := by decide +kernel
theorem dX5_copyVolume_104 : decode cX5_copyVolume 104 = .ok (.iload 7, 2) := by decide +kernel
theorem dX5_copyVolume_106 : decode cX5_copyVolume 106 = .ok (.iadd, 1) := by decide +kernel
theorem dX5_copyVolume_107 : decode cX5_copyVolume 107 = .ok (.iaload, 1) := by decide +kernel
theorem dX5_copyVolume_108 : decode cX5_copyVolume 108 = .ok (.iastore, 1) := by decide +kernel
theorem dX5_copyVolume_109 : decode cX5_copyVolume 109 = .ok (.iinc 7 1, 3) := by decide +kernel
theorem dX5_copyVolume_112 : decode cX5_copyVolume 112 = .ok (.goto (-36), 3) := by decide +kernel
theorem dX5_copyVolume_115 : decode cX5_copyVolume 115 = .ok (.return_, 1) := by decide +kernel
theorem dX5_needs_0 : decode cX5_needs 0 = .ok (.aload_n 0, 1) := by decide +kernel
theorem dX5_needs_1 : decode cX5_needs 1 = .ok (.getfield 26, 3) := by decide +kernel
theorem dX5_needs_4 : decode cX5_needs 4 = .ok (.iconst 0, 1) := by decide +kernel
theorem dX5_needs_5 : decode cX5_needs 5 = .ok (.iload_n 1, 1) := by decide +kernel
theorem dX5_needs_6 : decode cX5_needs 6 = .ok (.iload_n 2, 1) := by decide +kernel
theorem dX5_needs_7 : decode cX5_needs 7 = .ok (.invokestatic 58, 3) := by decide +kernel
theorem dX5_needs_10 : decode cX5_needs 10 = .ok (.iaload, 1) := by decide +kernel
theorem dX5_needs_11 : decode cX5_needs 11 = .ok (.istore_n 3, 1) := by decide +kernel
theorem dX5_needs_12 : decode cX5_needs 12 = .ok (.iload_n 3, 1) := by decide +kernel
theorem dX5_needs_13 : decode cX5_needs 13 = .ok (.iconst (-1), 1) := by decide +kernel
theorem dX5_needs_14 : decode cX5_needs 14 = .ok (.if_icmp .eq 11, 3) := by decide +kernel
theorem dX5_needs_17 : decode cX5_needs 17 = .ok (.aload_n 0, 1) := by decide +kernel
theorem dX5_needs_18 : decode cX5_needs 18 = .ok (.iload_n 3, 1) := by decide +kernel
theorem dX5_needs_19 : decode cX5_needs 19 = .ok (.invokevirtual 73, 3) := by decide +kernel
theorem dX5_needs_22 : decode cX5_needs 22 = .ok (.ifCond .ne 7, 3) := by decide +kernel
theorem dX5_needs_25 : decode cX5_needs 25 = .ok (.iconst 1, 1) := by decide +kernel
theorem dX5_needs_26 : decode cX5_needs 26 = .ok (.goto 4, 3) := by decide +kernel
theorem dX5_needs_29 : decode cX5_needs 29 = .ok (.iconst 0, 1) := by decide +kernel
theorem dX5_needs_30 : decode cX5_needs 30 = .ok (.ireturn, 1) := by decide +kernel
theorem dX5_isOver_0 : decode cX5_isOver 0 = .ok (.aload_n 0, 1) := by decide +kernel
theorem dX5_isOver_1 : decode cX5_isOver 1 = .ok (.getfield 26, 3) := by decide +kernel
theorem dX5_isOver_4 : decode cX5_isOver 4 = .ok (.iconst 0, 1) := by decide +kernel
theorem dX5_isOver_5 : decode cX5_isOver 5 = .ok (.iload_n 1, 1) := by decide +kernel
theorem dX5_isOver_6 : decode cX5_isOver 6 = .ok (.iload_n 2, 1) := by decide +kernel
theorem dX5_isOver_7 : decode cX5_isOver 7 = .ok (.invokestatic 58, 3) := by decide +kernel
theorem dX5_isOver_10 : decode cX5_isOver 10 = .ok (.iaload, 1) := by decide +kernel
theorem dX5_isOver_11 : decode cX5_isOver 11 = .ok (.iconst (-1), 1) := by decide +kernel
theorem dX5_isOver_12 : decode cX5_isOver 12 = .ok (.if_icmp .ne 31, 3) := by decide +kernel
theorem dX5_isOver_15 : decode cX5_isOver 15 = .ok (.aload_n 0, 1) := by decide +kernel
theorem dX5_isOver_16 : decode cX5_isOver 16 = .ok (.getfield 20, 3) := by decide +kernel
theorem dX5_isOver_19 : decode cX5_isOver 19 = .ok (.iload_n 1, 1) := by decide +kernel
theorem dX5_isOver_20 : decode cX5_isOver 20 = .ok (.iaload, 1) := by decide +kernel
theorem dX5_isOver_21 : decode cX5_isOver 21 = .ok (.iconst (-1), 1) := by decide +kernel
theorem dX5_isOver_22 : decode cX5_isOver 22 = .ok (.if_icmp .eq 21, 3) := by decide +kernel
theorem dX5_isOver_25 : decode cX5_isOver 25 = .ok (.aload_n 0, 1) := by decide +kernel
theorem dX5_isOver_26 : decode cX5_isOver 26 = .ok (.iload_n 1, 1) := by decide +kernel
theorem dX5_isOver_27 : decode cX5_isOver 27 = .ok (.invokevirtual 76, 3) := by decide +kernel
theorem dX5_isOver_30 : decode cX5_isOver 30 = .ok (.aload_n 0, 1) := by decide +kernel
theorem dX5_isOver_31 : decode cX5_isOver 31 = .ok (.getfield 20, 3) := by decide +kernel
theorem dX5_isOver_34 : decode cX5_isOver 34 = .ok (.iload_n 1, 1) := by decide +kernel
theorem dX5_isOver_35 : decode cX5_isOver 35 = .ok (.iaload, 1) := by decide +kernel
theorem dX5_isOver_36 : decode cX5_isOver 36 = .ok (.if_icmp .lt 7, 3) := by decide +kernel
theorem dX5_isOver_39 : decode cX5_isOver 39 = .ok (.iconst 1, 1) := by decide +kernel
theorem dX5_isOver_40 : decode cX5_isOver 40 = .ok (.goto 4, 3) := by decide +kernel
theorem dX5_isOver_43 : decode cX5_isOver 43 = .ok (.iconst 0, 1) := by decide +kernel
theorem dX5_isOver_44 : decode cX5_isOver 44 = .ok (.ireturn, 1) := by decide +kernel
theorem dX5_wordOf_0 : decode cX5_wordOf 0 = .ok (.aload_n 0, 1) := by decide +kernel
theorem dX5_wordOf_1 : decode cX5_wordOf 1 = .ok (.getfield 26, 3) := by decide +kernel
theorem dX5_wordOf_4 : decode cX5_wordOf 4 = .ok (.iconst 0, 1) := by decide +kernel
theorem dX5_wordOf_5 : decode cX5_wordOf 5 = .ok (.iload_n 1, 1) := by decide +kernel
theorem dX5_wordOf_6 : decode cX5_wordOf 6 = .ok (.iload_n 2, 1) := by decide +kernel
theorem dX5_wordOf_7 : decode cX5_wordOf 7 = .ok (.iconst 4, 1) := by decide +kernel
theorem dX5_wordOf_8 : decode cX5_wordOf 8 = .ok (.idiv, 1) := by decide +kernel
theorem dX5_wordOf_9 : decode cX5_wordOf 9 = .ok (.invokestatic 58, 3) := by decide +kernel
theorem dX5_wordOf_12 : decode cX5_wordOf 12 = .ok (.iaload, 1) := by decide +kernel
theorem dX5_wordOf_13 : decode cX5_wordOf 13 = .ok (.istore_n 3, 1) := by decide +kernel
theorem dX5_wordOf_14 : decode cX5_wordOf 14 = .ok (.iload_n 3, 1) := by decide +kernel
theorem dX5_wordOf_15 : decode cX5_wordOf 15 = .ok (.iconst (-1), 1) := by decide +kernel
theorem dX5_wordOf_16 : decode cX5_wordOf 16 = .ok (.if_icmp .eq 18, 3) := by decide +kernel
theorem dX5_wordOf_19 : decode cX5_wordOf 19 = .ok (.aload_n 0, 1) := by decide +kernel
theorem dX5_wordOf_20 : decode cX5_wordOf 20 = .ok (.getfield 36, 3) := by decide +kernel
theorem dX5_wordOf_23 : decode cX5_wordOf 23 = .ok (.iconst 4, 1) := by decide +kernel
theorem dX5_wordOf_24 : decode cX5_wordOf 24 = .ok (.iload_n 3, 1) := by decide +kernel
theorem dX5_wordOf_25 : decode cX5_wordOf 25 = .ok (.imul, 1) := by decide +kernel
theorem dX5_wordOf_26 : decode cX5_wordOf 26 = .ok (.iload_n 2, 1) := by decide +kernel
theorem dX5_wordOf_27 : decode cX5_wordOf 27 = .ok (.iconst 4, 1) := by decide +kernel
theorem dX5_wordOf_28 : decode cX5_wordOf 28 = .ok (.irem, 1) := by decide +kernel
theorem dX5_wordOf_29 : decode cX5_wordOf 29 = .ok (.iadd, 1) := by decide +kernel
theorem dX5_wordOf_30 : decode cX5_wordOf 30 = .ok (.iaload, 1) := by decide +kernel
theorem dX5_wordOf_31 : decode cX5_wordOf 31 = .ok (.goto 22, 3) := by decide +kernel
theorem dX5_wordOf_34 : decode cX5_wordOf 34 = .ok (.aload_n 0, 1) := by decide +kernel
theorem dX5_wordOf_35 : decode cX5_wordOf 35 = .ok (.getfield 17, 3) := by decide +kernel
theorem dX5_wordOf_38 : decode cX5_wordOf 38 = .ok (.iload_n 1, 1) := by decide +kernel
theorem dX5_wordOf_39 : decode cX5_wordOf 39 = .ok (.baload, 1) := by decide +kernel
theorem dX5_wordOf_40 : decode cX5_wordOf 40 = .ok (.ifCond .eq 12, 3) := by decide +kernel
theorem dX5_wordOf_43 : decode cX5_wordOf 43 = .ok (.aload_n 0, 1) := by decide +kernel
theorem dX5_wordOf_44 : decode cX5_wordOf 44 = .ok (.getfield 39, 3) := by decide +kernel
theorem dX5_wordOf_47 : decode cX5_wordOf 47 = .ok (.iload_n 2, 1) := by decide +kernel
theorem dX5_wordOf_48 : decode cX5_wordOf 48 = .ok (.iaload, 1) := by decide +kernel
theorem dX5_wordOf_49 : decode cX5_wordOf 49 = .ok (.goto 4, 3) := by decide +kernel
theorem dX5_wordOf_52 : decode cX5_wordOf 52 = .ok (.iconst 0, 1) := by decide +kernel
theorem dX5_wordOf_53 : decode cX5_wordOf 53 = .ok (.ireturn, 1) := by decide +kernel
theorem dX5_take_0 : decode cX5_take 0 = .ok (.aload_n 0, 1) := by decide +kernel
theorem dX5_take_1 : decode cX5_take 1 = .ok (.getfield 80, 3) := by decide +kernel
theorem dX5_take_4 : decode cX5_take 4 = .ok (.aload_n 0, 1) := by decide +kernel
theorem dX5_take_5 : decode cX5_take 5 = .ok (.getfield 32, 3) := by decide +kernel
theorem dX5_take_8 : decode cX5_take 8 = .ok (.if_icmp .ge 10, 3) := by decide +kernel
theorem dX5_take_11 : decode cX5_take 11 = .ok (.aload_n 0, 1) := by decide +kernel
theorem dX5_take_12 : decode cX5_take 12 = .ok (.getfield 80, 3) := by decide +kernel
theorem dX5_take_15 : decode cX5_take 15 = .ok (.goto 4, 3) := by decide +kernel
theorem dX5_take_18 : decode cX5_take 18 = .ok (.iconst 0, 1) := by decide +kernel
theorem dX5_take_19 : decode cX5_take 19 = .ok (.istore_n 3, 1) := by decide +kernel
theorem dX5_take_20 : decode cX5_take 20 = .ok (.aload_n 0, 1) := by decide +kernel
theorem dX5_take_21 : decode cX5_take 21 = .ok (.iload_n 3, 1) := by decide +kernel
theorem dX5_take_22 : decode cX5_take 22 = .ok (.invokevirtual 66, 3) := by decide +kernel
theorem dX5_take_25 : decode cX5_take 25 = .ok (.ifCond .ne 24, 3) := by decide +kernel
theorem dX5_take_28 : decode cX5_take 28 = .ok (.iload_n 3, 1) := by decide +kernel
theorem dX5_take_29 : decode cX5_take 29 = .ok (.iconst 1, 1) := by decide +kernel
theorem dX5_take_30 : decode cX5_take 30 = .ok (.iadd, 1) := by decide +kernel
theorem dX5_take_31 : decode cX5_take 31 = .ok (.aload_n 0, 1) := by decide +kernel
theorem dX5_take_32 : decode cX5_take 32 = .ok (.getfield 32, 3) := by decide +kernel
theorem dX5_take_35 : decode cX5_take 35 = .ok (.if_icmp .ne 7, 3) := by decide +kernel
theorem dX5_take_38 : decode cX5_take 38 = .ok (.iconst 0, 1) := by decide +kernel
theorem dX5_take_39 : decode cX5_take 39 = .ok (.goto 6, 3) := by decide +kernel
theorem dX5_take_42 : decode cX5_take 42 = .ok (.iload_n 3, 1) := by decide +kernel
theorem dX5_take_43 : decode cX5_take 43 = .ok (.iconst 1, 1) := by decide +kernel
theorem dX5_take_44 : decode cX5_take 44 = .ok (.iadd, 1) := by decide +kernel
theorem dX5_take_45 : decode cX5_take 45 = .ok (.istore_n 3, 1) := by decide +kernel
theorem dX5_take_46 : decode cX5_take 46 = .ok (.goto (-26), 3) := by decide +kernel
theorem dX5_take_49 : decode cX5_take 49 = .ok (.iconst 0, 1) := by decide +kernel
theorem dX5_take_50 : decode cX5_take 50 = .ok (.istore 4, 2) := by decide +kernel
theorem dX5_take_52 : decode cX5_take 52 = .ok (.iload 4, 2) := by decide +kernel
theorem dX5_take_54 : decode cX5_take 54 = .ok (.iconst 4, 1) := by decide +kernel
theorem dX5_take_55 : decode cX5_take 55 = .ok (.if_icmp .ge 31, 3) := by decide +kernel
theorem dX5_take_58 : decode cX5_take 58 = .ok (.aload_n 0, 1) := by decide +kernel
theorem dX5_take_59 : decode cX5_take 59 = .ok (.getfield 36, 3) := by decide +kernel
theorem dX5_take_62 : decode cX5_take 62 = .ok (.iconst 4, 1) := by decide +kernel
theorem dX5_take_63 : decode cX5_take 63 = .ok (.iload_n 3, 1) := by decide +kernel
theorem dX5_take_64 : decode cX5_take 64 = .ok (.imul, 1) := by decide +kernel
theorem dX5_take_65 : decode cX5_take 65 = .ok (.iload 4, 2) := by decide +kernel
theorem dX5_take_67 : decode cX5_take 67 = .ok (.iadd, 1) := by decide +kernel
theorem dX5_take_68 : decode cX5_take 68 = .ok (.aload_n 0, 1) := by decide +kernel
theorem dX5_take_69 : decode cX5_take 69 = .ok (.iload_n 1, 1) := by decide +kernel
theorem dX5_take_70 : decode cX5_take 70 = .ok (.iconst 4, 1) := by decide +kernel
theorem dX5_take_71 : decode cX5_take 71 = .ok (.iload_n 2, 1) := by decide +kernel
theorem dX5_take_72 : decode cX5_take 72 = .ok (.imul, 1) := by decide +kernel
theorem dX5_take_73 : decode cX5_take 73 = .ok (.iload 4, 2) := by decide +kernel
theorem dX5_take_75 : decode cX5_take 75 = .ok (.iadd, 1) := by decide +kernel
theorem dX5_take_76 : decode cX5_take 76 = .ok (.invokevirtual 83, 3) := by decide +kernel
theorem dX5_take_79 : decode cX5_take 79 = .ok (.iastore, 1) := by decide +kernel
theorem dX5_take_80 : decode cX5_take 80 = .ok (.iinc 4 1, 3) := by decide +kernel
theorem dX5_take_83 : decode cX5_take 83 = .ok (.goto (-31), 3) := by decide +kernel
theorem dX5_take_86 : decode cX5_take 86 = .ok (.aload_n 0, 1) := by decide +kernel
theorem dX5_take_87 : decode cX5_take 87 = .ok (.getfield 26, 3) := by decide +kernel
theorem dX5_take_90 : decode cX5_take 90 = .ok (.iconst 0, 1) := by decide +kernel
theorem dX5_take_91 : decode cX5_take 91 = .ok (.iload_n 1, 1) := by decide +kernel
theorem dX5_take_92 : decode cX5_take 92 = .ok (.iload_n 2, 1) := by decide +kernel
theorem dX5_take_93 : decode cX5_take 93 = .ok (.invokestatic 58, 3) := by decide +kernel
theorem dX5_take_96 : decode cX5_take 96 = .ok (.iload_n 3, 1) := by decide +kernel
theorem dX5_take_97 : decode cX5_take 97 = .ok (.iastore, 1) := by decide +kernel
theorem dX5_take_98 : decode cX5_take 98 = .ok (.aload_n 0, 1) := by decide +kernel
theorem dX5_take_99 : decode cX5_take 99 = .ok (.iload_n 3, 1) := by decide +kernel
theorem dX5_take_100 : decode cX5_take 100 = .ok (.iconst 1, 1) := by decide +kernel
theorem dX5_take_101 : decode cX5_take 101 = .ok (.iadd, 1) := by decide +kernel
theorem dX5_take_102 : decode cX5_take 102 = .ok (.aload_n 0, 1) := by decide +kernel
theorem dX5_take_103 : decode cX5_take 103 = .ok (.getfield 32, 3) := by decide +kernel
theorem dX5_take_106 : decode cX5_take 106 = .ok (.if_icmp .ne 7, 3) := by decide +kernel
theorem dX5_take_109 : decode cX5_take 109 = .ok (.iconst 0, 1) := by decide +kernel
theorem dX5_take_110 : decode cX5_take 110 = .ok (.goto 6, 3) := by decide +kernel
theorem dX5_take_113 : decode cX5_take 113 = .ok (.iload_n 3, 1) := by decide +kernel
theorem dX5_take_114 : decode cX5_take 114 = .ok (.iconst 1, 1) := by decide +kernel
theorem dX5_take_115 : decode cX5_take 115 = .ok (.iadd, 1) := by decide +kernel
theorem dX5_take_116 : decode cX5_take 116 = .ok (.putfield 80, 3) := by decide +kernel
theorem dX5_take_119 : decode cX5_take 119 = .ok (.aload_n 0, 1) := by decide +kernel
theorem dX5_take_120 : decode cX5_take 120 = .ok (.dup, 1) := by decide +kernel
theorem dX5_take_121 : decode cX5_take 121 = .ok (.getfield 86, 3) := by decide +kernel
theorem dX5_take_124 : decode cX5_take 124 = .ok (.iconst 1, 1) := by decide +kernel
theorem dX5_take_125 : decode cX5_take 125 = .ok (.iadd, 1) := by decide +kernel
theorem dX5_take_126 : decode cX5_take 126 = .ok (.putfield 86, 3) := by decide +kernel
theorem dX5_take_129 : decode cX5_take 129 = .ok (.aload_n 0, 1) := by decide +kernel
theorem dX5_take_130 : decode cX5_take 130 = .ok (.dup, 1) := by decide +kernel
theorem dX5_take_131 : decode cX5_take 131 = .ok (.getfield 89, 3) := by decide +kernel
theorem dX5_take_134 : decode cX5_take 134 = .ok (.aload_n 0, 1) := by decide +kernel
theorem dX5_take_135 : decode cX5_take 135 = .ok (.invokevirtual 92, 3) := by decide +kernel
theorem dX5_take_138 : decode cX5_take 138 = .ok (.aload_n 0, 1) := by decide +kernel
theorem dX5_take_139 : decode cX5_take 139 = .ok (.getfield 96, 3) := by decide +kernel
theorem dX5_take_142 : decode cX5_take 142 = .ok (.if_icmp .ne 7, 3) := by decide +kernel
theorem dX5_take_145 : decode cX5_take 145 = .ok (.iconst 1, 1) := by decide +kernel
theorem dX5_take_146 : decode cX5_take 146 = .ok (.goto 4, 3) := by decide +kernel
theorem dX5_take_149 : decode cX5_take 149 = .ok (.iconst 0, 1) := by decide +kernel
theorem dX5_take_150 : decode cX5_take 150 = .ok (.iadd, 1) := by decide +kernel
theorem dX5_take_151 : decode cX5_take 151 = .ok (.putfield 89, 3) := by decide +kernel
theorem dX5_take_154 : decode cX5_take 154 = .ok (.return_, 1) := by decide +kernel
theorem dX5_perform_0 : decode cX5_perform 0 = .ok (.iload_n 2, 1) := by decide +kernel
theorem dX5_perform_1 : decode cX5_perform 1 = .ok (.iconst 4, 1) := by decide +kernel
theorem dX5_perform_2 : decode cX5_perform 2 = .ok (.idiv, 1) := by decide +kernel
theorem dX5_perform_3 : decode cX5_perform 3 = .ok (.istore 4, 2) := by decide +kernel
theorem dX5_perform_5 : decode cX5_perform 5 = .ok (.aload_n 0, 1) := by decide +kernel
theorem dX5_perform_6 : decode cX5_perform 6 = .ok (.getfield 26, 3) := by decide +kernel
theorem dX5_perform_9 : decode cX5_perform 9 = .ok (.iconst 0, 1) := by decide +kernel
theorem dX5_perform_10 : decode cX5_perform 10 = .ok (.iload_n 1, 1) := by decide +kernel
theorem dX5_perform_11 : decode cX5_perform 11 = .ok (.iload 4, 2) := by decide +kernel
theorem dX5_perform_13 : decode cX5_perform 13 = .ok (.invokestatic 58, 3) := by decide +kernel
theorem dX5_perform_16 : decode cX5_perform 16 = .ok (.iaload, 1) := by decide +kernel
theorem dX5_perform_17 : decode cX5_perform 17 = .ok (.istore 5, 2) := by decide +kernel
theorem dX5_perform_19 : decode cX5_perform 19 = .ok (.aload_n 0, 1) := by decide +kernel
theorem dX5_perform_20 : decode cX5_perform 20 = .ok (.iload_n 1, 1) := by decide +kernel
theorem dX5_perform_21 : decode cX5_perform 21 = .ok (.iload 4, 2) := by decide +kernel
theorem dX5_perform_23 : decode cX5_perform 23 = .ok (.invokevirtual 99, 3) := by decide +kernel
theorem dX5_perform_26 : decode cX5_perform 26 = .ok (.istore 6, 2) := by decide +kernel
theorem dX5_perform_28 : decode cX5_perform 28 = .ok (.iload 6, 2) := by decide +kernel
theorem dX5_perform_30 : decode cX5_perform 30 = .ok (.ifCond .eq 10, 3) := by decide +kernel
theorem dX5_perform_33 : decode cX5_perform 33 = .ok (.aload_n 0, 1) := by decide +kernel
theorem dX5_perform_34 : decode cX5_perform 34 = .ok (.iload_n 1, 1) := by decide +kernel
theorem dX5_perform_35 : decode cX5_perform 35 = .ok (.iload 4, 2) := by decide +kernel
theorem dX5_perform_37 : decode cX5_perform 37 = .ok (.invokevirtual 103, 3) := by decide +kernel
theorem dX5_perform_40 : decode cX5_perform 40 = .ok (.aload_n 0, 1) := by decide +kernel
theorem dX5_perform_41 : decode cX5_perform 41 = .ok (.getfield 36, 3) := by decide +kernel
theorem dX5_perform_44 : decode cX5_perform 44 = .ok (.iconst 4, 1) := by decide +kernel
theorem dX5_perform_45 : decode cX5_perform 45 = .ok (.aload_n 0, 1) := by decide +kernel
theorem dX5_perform_46 : decode cX5_perform 46 = .ok (.getfield 26, 3) := by decide +kernel
theorem dX5_perform_49 : decode cX5_perform 49 = .ok (.iconst 0, 1) := by decide +kernel
theorem dX5_perform_50 : decode cX5_perform 50 = .ok (.iload_n 1, 1) := by decide +kernel
theorem dX5_perform_51 : decode cX5_perform 51 = .ok (.iload 4, 2) := by decide +kernel
theorem dX5_perform_53 : decode cX5_perform 53 = .ok (.invokestatic 58, 3) := by decide +kernel
theorem dX5_perform_56 : decode cX5_perform 56 = .ok (.iaload, 1) := by decide +kernel
theorem dX5_perform_57 : decode cX5_perform 57 = .ok (.imul, 1) := by decide +kernel
theorem dX5_perform_58 : decode cX5_perform 58 = .ok (.iload_n 2, 1) := by decide +kernel
theorem dX5_perform_59 : decode cX5_perform 59 = .ok (.iconst 4, 1) := by decide +kernel
theorem dX5_perform_60 : decode cX5_perform 60 = .ok (.irem, 1) := by decide +kernel
theorem dX5_perform_61 : decode cX5_perform 61 = .ok (.iadd, 1) := by decide +kernel
theorem dX5_perform_62 : decode cX5_perform 62 = .ok (.iload_n 3, 1) := by decide +kernel
theorem dX5_perform_63 : decode cX5_perform 63 = .ok (.iastore, 1) := by decide +kernel
theorem dX5_perform_64 : decode cX5_perform 64 = .ok (.iload 6, 2) := by decide +kernel
theorem dX5_perform_66 : decode cX5_perform 66 = .ok (.ifCond .ne 7, 3) := by decide +kernel
theorem dX5_perform_69 : decode cX5_perform 69 = .ok (.iconst 0, 1) := by decide +kernel
theorem dX5_perform_70 : decode cX5_perform 70 = .ok (.goto 14, 3) := by decide +kernel
theorem dX5_perform_73 : decode cX5_perform 73 = .ok (.iload 5, 2) := by decide +kernel
theorem dX5_perform_75 : decode cX5_perform 75 = .ok (.iconst (-1), 1) := by decide +kernel
theorem dX5_perform_76 : decode cX5_perform 76 = .ok (.if_icmp .ne 7, 3) := by decide +kernel
theorem dX5_perform_79 : decode cX5_perform 79 = .ok (.iconst 1, 1) := by decide +kernel
theorem dX5_perform_80 : decode cX5_perform 80 = .ok (.goto 4, 3) := by decide +kernel
theorem dX5_perform_83 : decode cX5_perform 83 = .ok (.iconst 2, 1) := by decide +kernel
theorem dX5_perform_84 : decode cX5_perform 84 = .ok (.ireturn, 1) := by decide +kernel
theorem dX5_waits_0 : decode cX5_waits 0 = .ok (.iconst 0, 1) := by decide +kernel
theorem dX5_waits_1 : decode cX5_waits 1 = .ok (.istore_n 3, 1) := by decide +kernel
theorem dX5_waits_2 : decode cX5_waits 2 = .ok (.iconst 0, 1) := by decide +kernel
theorem dX5_waits_3 : decode cX5_waits 3 = .ok (.istore 4, 2) := by decide +kernel
theorem dX5_waits_5 : decode cX5_waits 5 = .ok (.iload 4, 2) := by decide +kernel
theorem dX5_waits_7 : decode cX5_waits 7 = .ok (.aload_n 0, 1) := by decide +kernel
theorem dX5_waits_8 : decode cX5_waits 8 = .ok (.getfield 107, 3) := by decide +kernel
theorem dX5_waits_11 : decode cX5_waits 11 = .ok (.if_icmp .ge 43, 3) := by decide +kernel
theorem dX5_waits_14 : decode cX5_waits 14 = .ok (.iload_n 3, 1) := by decide +kernel
theorem dX5_waits_15 : decode cX5_waits 15 = .ok (.ifCond .ne 27, 3) := by decide +kernel
theorem dX5_waits_18 : decode cX5_waits 18 = .ok (.aload_n 0, 1) := by decide +kernel
theorem dX5_waits_19 : decode cX5_waits 19 = .ok (.getfield 42, 3) := by decide +kernel
theorem dX5_waits_22 : decode cX5_waits 22 = .ok (.iload 4, 2) := by decide +kernel
theorem dX5_waits_24 : decode cX5_waits 24 = .ok (.iaload, 1) := by decide +kernel
theorem dX5_waits_25 : decode cX5_waits 25 = .ok (.iload_n 1, 1) := by decide +kernel
theorem dX5_waits_26 : decode cX5_waits 26 = .ok (.if_icmp .ne 20, 3) := by decide +kernel
theorem dX5_waits_29 : decode cX5_waits 29 = .ok (.aload_n 0, 1) := by decide +kernel
theorem dX5_waits_30 : decode cX5_waits 30 = .ok (.getfield 45, 3) := by decide +kernel
theorem dX5_waits_33 : decode cX5_waits 33 = .ok (.iload 4, 2) := by decide +kernel
theorem dX5_waits_35 : decode cX5_waits 35 = .ok (.iaload, 1) := by decide +kernel
theorem dX5_waits_36 : decode cX5_waits 36 = .ok (.iconst 4, 1) := by decide +kernel
theorem dX5_waits_37 : decode cX5_waits 37 = .ok (.idiv, 1) := by decide +kernel
theorem dX5_waits_38 : decode cX5_waits 38 = .ok (.iload_n 2, 1) := by decide +kernel
theorem dX5_waits_39 : decode cX5_waits 39 = .ok (.if_icmp .ne 7, 3) := by decide +kernel
theorem dX5_waits_42 : decode cX5_waits 42 = .ok (.iconst 1, 1) := by decide +kernel
theorem dX5_waits_43 : decode cX5_waits 43 = .ok (.goto 4, 3) := by decide +kernel
theorem dX5_waits_46 : decode cX5_waits 46 = .ok (.iconst 0, 1) := by decide +kernel
theorem dX5_waits_47 : decode cX5_waits 47 = .ok (.istore_n 3, 1) := by decide +kernel
theorem dX5_waits_48 : decode cX5_waits 48 = .ok (.iinc 4 1, 3) := by decide +kernel
theorem dX5_waits_51 : decode cX5_waits 51 = .ok (.goto (-46), 3) := by decide +kernel
theorem dX5_waits_54 : decode cX5_waits 54 = .ok (.iload_n 3, 1) := by decide +kernel
theorem dX5_waits_55 : decode cX5_waits 55 = .ok (.ireturn, 1) := by decide +kernel
theorem dX5_enqueue_0 : decode cX5_enqueue 0 = .ok (.aload_n 0, 1) := by decide +kernel
theorem dX5_enqueue_1 : decode cX5_enqueue 1 = .ok (.getfield 107, 3) := by decide +kernel
theorem dX5_enqueue_4 : decode cX5_enqueue 4 = .ok (.bipush 8, 2) := by decide +kernel
theorem dX5_enqueue_6 : decode cX5_enqueue 6 = .ok (.if_icmp .ne 5, 3) := by decide +kernel
theorem dX5_enqueue_9 : decode cX5_enqueue 9 = .ok (.iconst (-1), 1) := by decide +kernel
theorem dX5_enqueue_10 : decode cX5_enqueue 10 = .ok (.ireturn, 1) := by decide +kernel
theorem dX5_enqueue_11 : decode cX5_enqueue 11 = .ok (.aload_n 0, 1) := by decide +kernel
theorem dX5_enqueue_12 : decode cX5_enqueue 12 = .ok (.getfield 42, 3) := by decide +kernel
theorem dX5_enqueue_15 : decode cX5_enqueue 15 = .ok (.aload_n 0, 1) := by decide +kernel
theorem dX5_enqueue_16 : decode cX5_enqueue 16 = .ok (.getfield 107, 3) := by decide +kernel
theorem dX5_enqueue_19 : decode cX5_enqueue 19 = .ok (.iload_n 1, 1) := by decide +kernel
theorem dX5_enqueue_20 : decode cX5_enqueue 20 = .ok (.iastore, 1) := by decide +kernel
theorem dX5_enqueue_21 : decode cX5_enqueue 21 = .ok (.aload_n 0, 1) := by decide +kernel
theorem dX5_enqueue_22 : decode cX5_enqueue 22 = .ok (.getfield 45, 3) := by decide +kernel
theorem dX5_enqueue_25 : decode cX5_enqueue 25 = .ok (.aload_n 0, 1) := by decide +kernel
theorem dX5_enqueue_26 : decode cX5_enqueue 26 = .ok (.getfield 107, 3) := by decide +kernel
theorem dX5_enqueue_29 : decode cX5_enqueue 29 = .ok (.iload_n 2, 1) := by decide +kernel
theorem dX5_enqueue_30 : decode cX5_enqueue 30 = .ok (.iastore, 1) := by decide +kernel
theorem dX5_enqueue_31 : decode cX5_enqueue 31 = .ok (.aload_n 0, 1) := by decide +kernel
theorem dX5_enqueue_32 : decode cX5_enqueue 32 = .ok (.getfield 48, 3) := by decide +kernel
theorem dX5_enqueue_35 : decode cX5_enqueue 35 = .ok (.aload_n 0, 1) := by decide +kernel
theorem dX5_enqueue_36 : decode cX5_enqueue 36 = .ok (.getfield 107, 3) := by decide +kernel
theorem dX5_enqueue_39 : decode cX5_enqueue 39 = .ok (.iload_n 3, 1) := by decide +kernel
theorem dX5_enqueue_40 : decode cX5_enqueue 40 = .ok (.iastore, 1) := by decide +kernel
theorem dX5_enqueue_41 : decode cX5_enqueue 41 = .ok (.aload_n 0, 1) := by decide +kernel
theorem dX5_enqueue_42 : decode cX5_enqueue 42 = .ok (.dup, 1) := by decide +kernel
theorem dX5_enqueue_43 : decode cX5_enqueue 43 = .ok (.getfield 107, 3) := by decide +kernel
theorem dX5_enqueue_46 : decode cX5_enqueue 46 = .ok (.iconst 1, 1) := by decide +kernel
theorem dX5_enqueue_47 : decode cX5_enqueue 47 = .ok (.iadd, 1) := by decide +kernel
theorem dX5_enqueue_48 : decode cX5_enqueue 48 = .ok (.putfield 107, 3) := by decide +kernel
theorem dX5_enqueue_51 : decode cX5_enqueue 51 = .ok (.iconst 3, 1) := by decide +kernel
theorem dX5_enqueue_52 : decode cX5_enqueue 52 = .ok (.ireturn, 1) := by decide +kernel
theorem dX5_unqueue_0 : decode cX5_unqueue 0 = .ok (.aload_n 0, 1) := by decide +kernel
theorem dX5_unqueue_1 : decode cX5_unqueue 1 = .ok (.dup, 1) := by decide +kernel
theorem dX5_unqueue_2 : decode cX5_unqueue 2 = .ok (.getfield 107, 3) := by decide +kernel
theorem dX5_unqueue_5 : decode cX5_unqueue 5 = .ok (.iconst 1, 1) := by decide +kernel
theorem dX5_unqueue_6 : decode cX5_unqueue 6 = .ok (.isub, 1) := by decide +kernel
theorem dX5_unqueue_7 : decode cX5_unqueue 7 = .ok (.putfield 107, 3) := by decide +kernel
theorem dX5_unqueue_10 : decode cX5_unqueue 10 = .ok (.iload_n 1, 1) := by decide +kernel
theorem dX5_unqueue_11 : decode cX5_unqueue 11 = .ok (.istore_n 2, 1) := by decide +kernel
theorem dX5_unqueue_12 : decode cX5_unqueue 12 = .ok (.iload_n 2, 1) := by decide +kernel
theorem dX5_unqueue_13 : decode cX5_unqueue 13 = .ok (.aload_n 0, 1) := by decide +kernel
theorem dX5_unqueue_14 : decode cX5_unqueue 14 = .ok (.getfield 107, 3) := by decide +kernel
theorem dX5_unqueue_17 : decode cX5_unqueue 17 = .ok (.if_icmp .ge 51, 3) := by decide +kernel
theorem dX5_unqueue_20 : decode cX5_unqueue 20 = .ok (.aload_n 0, 1) := by decide +kernel
theorem dX5_unqueue_21 : decode cX5_unqueue 21 = .ok (.getfield 42, 3) := by decide +kernel
theorem dX5_unqueue_24 : decode cX5_unqueue 24 = .ok (.iload_n 2, 1) := by decide +kernel
theorem dX5_unqueue_25 : decode cX5_unqueue 25 = .ok (.aload_n 0, 1) := by decide +kernel
theorem dX5_unqueue_26 : decode cX5_unqueue 26 = .ok (.getfield 42, 3) := by decide +kernel
theorem dX5_unqueue_29 : decode cX5_unqueue 29 = .ok (.iload_n 2, 1) := by decide +kernel
theorem dX5_unqueue_30 : decode cX5_unqueue 30 = .ok (.iconst 1, 1) := by decide +kernel
theorem dX5_unqueue_31 : decode cX5_unqueue 31 = .ok (.iadd, 1) := by decide +kernel
theorem dX5_unqueue_32 : decode cX5_unqueue 32 = .ok (.iaload, 1) := by decide +kernel
theorem dX5_unqueue_33 : decode cX5_unqueue 33 = .ok (.iastore, 1) := by decide +kernel
theorem dX5_unqueue_34 : decode cX5_unqueue 34 = .ok (.aload_n 0, 1) := by decide +kernel
theorem dX5_unqueue_35 : decode cX5_unqueue 35 = .ok (.getfield 45, 3) := by decide +kernel
theorem dX5_unqueue_38 : decode cX5_unqueue 38 = .ok (.iload_n 2, 1) := by decide +kernel
theorem dX5_unqueue_39 : decode cX5_unqueue 39 = .ok (.aload_n 0, 1) := by decide +kernel
theorem dX5_unqueue_40 : decode cX5_unqueue 40 = .ok (.getfield 45, 3) := by decide +kernel
theorem dX5_unqueue_43 : decode cX5_unqueue 43 = .ok (.iload_n 2, 1) := by decide +kernel
theorem dX5_unqueue_44 : decode cX5_unqueue 44 = .ok (.iconst 1, 1) := by decide +kernel
theorem dX5_unqueue_45 : decode cX5_unqueue 45 = .ok (.iadd, 1) := by decide +kernel
theorem dX5_unqueue_46 : decode cX5_unqueue 46 = .ok (.iaload, 1) := by decide +kernel
theorem dX5_unqueue_47 : decode cX5_unqueue 47 = .ok (.iastore, 1) := by decide +kernel
theorem dX5_unqueue_48 : decode cX5_unqueue 48 = .ok (.aload_n 0, 1) := by decide +kernel
theorem dX5_unqueue_49 : decode cX5_unqueue 49 = .ok (.getfield 48, 3) := by decide +kernel
theorem dX5_unqueue_52 : decode cX5_unqueue 52 = .ok (.iload_n 2, 1) := by decide +kernel
theorem dX5_unqueue_53 : decode cX5_unqueue 53 = .ok (.aload_n 0, 1) := by decide +kernel
theorem dX5_unqueue_54 : decode cX5_unqueue 54 = .ok (.getfield 48, 3) := by decide +kernel
theorem dX5_unqueue_57 : decode cX5_unqueue 57 = .ok (.iload_n 2, 1) := by decide +kernel
theorem dX5_unqueue_58 : decode cX5_unqueue 58 = .ok (.iconst 1, 1) := by decide +kernel
theorem dX5_unqueue_59 : decode cX5_unqueue 59 = .ok (.iadd, 1) := by decide +kernel
theorem dX5_unqueue_60 : decode cX5_unqueue 60 = .ok (.iaload, 1) := by decide +kernel
theorem dX5_unqueue_61 : decode cX5_unqueue 61 = .ok (.iastore, 1) := by decide +kernel
theorem dX5_unqueue_62 : decode cX5_unqueue 62 = .ok (.iinc 2 1, 3) := by decide +kernel
theorem dX5_unqueue_65 : decode cX5_unqueue 65 = .ok (.goto (-53), 3) := by decide +kernel
theorem dX5_unqueue_68 : decode cX5_unqueue 68 = .ok (.return_, 1) := by decide +kernel
theorem dX5_drain_0 : decode cX5_drain 0 = .ok (.aload_n 0, 1) := by decide +kernel
theorem dX5_drain_1 : decode cX5_drain 1 = .ok (.getfield 110, 3) := by decide +kernel
theorem dX5_drain_4 : decode cX5_drain 4 = .ok (.iconst 1, 1) := by decide +kernel
theorem dX5_drain_5 : decode cX5_drain 5 = .ok (.if_icmp .ne 7, 3) := by decide +kernel
theorem dX5_drain_8 : decode cX5_drain 8 = .ok (.iconst 1, 1) := by decide +kernel
theorem dX5_drain_9 : decode cX5_drain 9 = .ok (.goto 4, 3) := by decide +kernel
theorem dX5_drain_12 : decode cX5_drain 12 = .ok (.iconst 0, 1) := by decide +kernel
theorem dX5_drain_13 : decode cX5_drain 13 = .ok (.istore_n 1, 1) := by decide +kernel
theorem dX5_drain_14 : decode cX5_drain 14 = .ok (.iload_n 1, 1) := by decide +kernel
theorem dX5_drain_15 : decode cX5_drain 15 = .ok (.ifCond .eq 102, 3) := by decide +kernel
theorem dX5_drain_18 : decode cX5_drain 18 = .ok (.aload_n 0, 1) := by decide +kernel
theorem dX5_drain_19 : decode cX5_drain 19 = .ok (.getfield 107, 3) := by decide +kernel
theorem dX5_drain_22 : decode cX5_drain 22 = .ok (.ifCond .le 95, 3) := by decide +kernel
theorem dX5_drain_25 : decode cX5_drain 25 = .ok (.aload_n 0, 1) := by decide +kernel
theorem dX5_drain_26 : decode cX5_drain 26 = .ok (.getfield 42, 3) := by decide +kernel
theorem dX5_drain_29 : decode cX5_drain 29 = .ok (.iconst 0, 1) := by decide +kernel
theorem dX5_drain_30 : decode cX5_drain 30 = .ok (.iaload, 1) := by decide +kernel
theorem dX5_drain_31 : decode cX5_drain 31 = .ok (.istore_n 2, 1) := by decide +kernel
theorem dX5_drain_32 : decode cX5_drain 32 = .ok (.aload_n 0, 1) := by decide +kernel
theorem dX5_drain_33 : decode cX5_drain 33 = .ok (.getfield 45, 3) := by decide +kernel
theorem dX5_drain_36 : decode cX5_drain 36 = .ok (.iconst 0, 1) := by decide +kernel
theorem dX5_drain_37 : decode cX5_drain 37 = .ok (.iaload, 1) := by decide +kernel
theorem dX5_drain_38 : decode cX5_drain 38 = .ok (.istore_n 3, 1) := by decide +kernel
theorem dX5_drain_39 : decode cX5_drain 39 = .ok (.aload_n 0, 1) := by decide +kernel
theorem dX5_drain_40 : decode cX5_drain 40 = .ok (.getfield 48, 3) := by decide +kernel
theorem dX5_drain_43 : decode cX5_drain 43 = .ok (.iconst 0, 1) := by decide +kernel
theorem dX5_drain_44 : decode cX5_drain 44 = .ok (.iaload, 1) := by decide +kernel
theorem dX5_drain_45 : decode cX5_drain 45 = .ok (.istore 4, 2) := by decide +kernel
theorem dX5_drain_47 : decode cX5_drain 47 = .ok (.aload_n 0, 1) := by decide +kernel
theorem dX5_drain_48 : decode cX5_drain 48 = .ok (.iload_n 2, 1) := by decide +kernel
theorem dX5_drain_49 : decode cX5_drain 49 = .ok (.iload_n 3, 1) := by decide +kernel
theorem dX5_drain_50 : decode cX5_drain 50 = .ok (.iconst 4, 1) := by decide +kernel
theorem dX5_drain_51 : decode cX5_drain 51 = .ok (.idiv, 1) := by decide +kernel
theorem dX5_drain_52 : decode cX5_drain 52 = .ok (.invokevirtual 113, 3) := by decide +kernel
theorem dX5_drain_55 : decode cX5_drain 55 = .ok (.ifCond .eq 21, 3) := by decide +kernel
theorem dX5_drain_58 : decode cX5_drain 58 = .ok (.aload_n 0, 1) := by decide +kernel
theorem dX5_drain_59 : decode cX5_drain 59 = .ok (.dup, 1) := by decide +kernel
theorem dX5_drain_60 : decode cX5_drain 60 = .ok (.getfield 116, 3) := by decide +kernel
theorem dX5_drain_63 : decode cX5_drain 63 = .ok (.iconst 1, 1) := by decide +kernel
theorem dX5_drain_64 : decode cX5_drain 64 = .ok (.iadd, 1) := by decide +kernel
theorem dX5_drain_65 : decode cX5_drain 65 = .ok (.putfield 116, 3) := by decide +kernel
theorem dX5_drain_68 : decode cX5_drain 68 = .ok (.aload_n 0, 1) := by decide +kernel
theorem dX5_drain_69 : decode cX5_drain 69 = .ok (.iconst 0, 1) := by decide +kernel
theorem dX5_drain_70 : decode cX5_drain 70 = .ok (.invokevirtual 119, 3) := by decide +kernel
theorem dX5_drain_73 : decode cX5_drain 73 = .ok (.goto 41, 3) := by decide +kernel
theorem dX5_drain_76 : decode cX5_drain 76 = .ok (.aload_n 0, 1) := by decide +kernel
theorem dX5_drain_77 : decode cX5_drain 77 = .ok (.iload_n 2, 1) := by decide +kernel
theorem dX5_drain_78 : decode cX5_drain 78 = .ok (.iload_n 3, 1) := by decide +kernel
theorem dX5_drain_79 : decode cX5_drain 79 = .ok (.iconst 4, 1) := by decide +kernel
theorem dX5_drain_80 : decode cX5_drain 80 = .ok (.idiv, 1) := by decide +kernel
theorem dX5_drain_81 : decode cX5_drain 81 = .ok (.invokevirtual 99, 3) := by decide +kernel
theorem dX5_drain_84 : decode cX5_drain 84 = .ok (.ifCond .eq 15, 3) := by decide +kernel
theorem dX5_drain_87 : decode cX5_drain 87 = .ok (.aload_n 0, 1) := by decide +kernel
theorem dX5_drain_88 : decode cX5_drain 88 = .ok (.invokevirtual 92, 3) := by decide +kernel
theorem dX5_drain_91 : decode cX5_drain 91 = .ok (.ifCond .ne 8, 3) := by decide +kernel
theorem dX5_drain_94 : decode cX5_drain 94 = .ok (.iconst 0, 1) := by decide +kernel
theorem dX5_drain_95 : decode cX5_drain 95 = .ok (.istore_n 1, 1) := by decide +kernel
theorem dX5_drain_96 : decode cX5_drain 96 = .ok (.goto 18, 3) := by decide +kernel
theorem dX5_drain_99 : decode cX5_drain 99 = .ok (.aload_n 0, 1) := by decide +kernel
theorem dX5_drain_100 : decode cX5_drain 100 = .ok (.iload_n 2, 1) := by decide +kernel
theorem dX5_drain_101 : decode cX5_drain 101 = .ok (.iload_n 3, 1) := by decide +kernel
theorem dX5_drain_102 : decode cX5_drain 102 = .ok (.iload 4, 2) := by decide +kernel
theorem dX5_drain_104 : decode cX5_drain 104 = .ok (.invokevirtual 123, 3) := by decide +kernel
theorem dX5_drain_107 : decode cX5_drain 107 = .ok (.istore 5, 2) := by decide +kernel
theorem dX5_drain_109 : decode cX5_drain 109 = .ok (.aload_n 0, 1) := by decide +kernel
theorem dX5_drain_110 : decode cX5_drain 110 = .ok (.iconst 0, 1) := by decide +kernel
theorem dX5_drain_111 : decode cX5_drain 111 = .ok (.invokevirtual 119, 3) := by decide +kernel
theorem dX5_drain_114 : decode cX5_drain 114 = .ok (.goto (-100), 3) := by decide +kernel
theorem dX5_drain_117 : decode cX5_drain 117 = .ok (.aload_n 0, 1) := by decide +kernel
theorem dX5_drain_118 : decode cX5_drain 118 = .ok (.iload_n 1, 1) := by decide +kernel
theorem dX5_drain_119 : decode cX5_drain 119 = .ok (.ifCond .eq 7, 3) := by decide +kernel
theorem dX5_drain_122 : decode cX5_drain 122 = .ok (.iconst 0, 1) := by decide +kernel
theorem dX5_drain_123 : decode cX5_drain 123 = .ok (.goto 7, 3) := by decide +kernel
theorem dX5_drain_126 : decode cX5_drain 126 = .ok (.aload_n 0, 1) := by decide +kernel
theorem dX5_drain_127 : decode cX5_drain 127 = .ok (.getfield 110, 3) := by decide +kernel
theorem dX5_drain_130 : decode cX5_drain 130 = .ok (.putfield 110, 3) := by decide +kernel
theorem dX5_drain_133 : decode cX5_drain 133 = .ok (.return_, 1) := by decide +kernel
theorem dX5_write_0 : decode cX5_write 0 = .ok (.aload_n 0, 1) := by decide +kernel
theorem dX5_write_1 : decode cX5_write 1 = .ok (.aload_n 0, 1) := by decide +kernel
theorem dX5_write_2 : decode cX5_write 2 = .ok (.iload_n 1, 1) := by decide +kernel
theorem dX5_write_3 : decode cX5_write 3 = .ok (.invokevirtual 126, 3) := by decide +kernel
theorem dX5_write_6 : decode cX5_write 6 = .ok (.ifCond .eq 19, 3) := by decide +kernel
theorem dX5_write_9 : decode cX5_write 9 = .ok (.iload_n 2, 1) := by decide +kernel
theorem dX5_write_10 : decode cX5_write 10 = .ok (.ifCond .lt 15, 3) := by decide +kernel
theorem dX5_write_13 : decode cX5_write 13 = .ok (.iload_n 2, 1) := by decide +kernel
theorem dX5_write_14 : decode cX5_write 14 = .ok (.iconst 4, 1) := by decide +kernel
theorem dX5_write_15 : decode cX5_write 15 = .ok (.aload_n 0, 1) := by decide +kernel
theorem dX5_write_16 : decode cX5_write 16 = .ok (.getfield 13, 3) := by decide +kernel
theorem dX5_write_19 : decode cX5_write 19 = .ok (.iload_n 1, 1) := by decide +kernel
theorem dX5_write_20 : decode cX5_write 20 = .ok (.iaload, 1) := by decide +kernel
theorem dX5_write_21 : decode cX5_write 21 = .ok (.imul, 1) := by decide +kernel
theorem dX5_write_22 : decode cX5_write 22 = .ok (.if_icmp .lt 7, 3) := by decide +kernel
theorem dX5_write_25 : decode cX5_write 25 = .ok (.iconst 1, 1) := by decide +kernel
theorem dX5_write_26 : decode cX5_write 26 = .ok (.goto 4, 3) := by decide +kernel
theorem dX5_write_29 : decode cX5_write 29 = .ok (.iconst 0, 1) := by decide +kernel
theorem dX5_write_30 : decode cX5_write 30 = .ok (.putfield 51, 3) := by decide +kernel
theorem dX5_write_33 : decode cX5_write 33 = .ok (.aload_n 0, 1) := by decide +kernel
theorem dX5_write_34 : decode cX5_write 34 = .ok (.getfield 51, 3) := by decide +kernel
theorem dX5_write_37 : decode cX5_write 37 = .ok (.ifCond .le 5, 3) := by decide +kernel
theorem dX5_write_40 : decode cX5_write 40 = .ok (.iconst 0, 1) := by decide +kernel
theorem dX5_write_41 : decode cX5_write 41 = .ok (.ireturn, 1) := by decide +kernel
theorem dX5_write_42 : decode cX5_write 42 = .ok (.iload_n 2, 1) := by decide +kernel
theorem dX5_write_43 : decode cX5_write 43 = .ok (.iconst 4, 1) := by decide +kernel
theorem dX5_write_44 : decode cX5_write 44 = .ok (.idiv, 1) := by decide +kernel
theorem dX5_write_45 : decode cX5_write 45 = .ok (.istore 4, 2) := by decide +kernel
theorem dX5_write_47 : decode cX5_write 47 = .ok (.aload_n 0, 1) := by decide +kernel
theorem dX5_write_48 : decode cX5_write 48 = .ok (.getfield 110, 3) := by decide +kernel
theorem dX5_write_51 : decode cX5_write 51 = .ok (.iconst 1, 1) := by decide +kernel
theorem dX5_write_52 : decode cX5_write 52 = .ok (.if_icmp .ne 21, 3) := by decide +kernel
theorem dX5_write_55 : decode cX5_write 55 = .ok (.aload_n 0, 1) := by decide +kernel
theorem dX5_write_56 : decode cX5_write 56 = .ok (.iload_n 1, 1) := by decide +kernel
theorem dX5_write_57 : decode cX5_write 57 = .ok (.iload 4, 2) := by decide +kernel
theorem dX5_write_59 : decode cX5_write 59 = .ok (.invokevirtual 129, 3) := by decide +kernel
theorem dX5_write_62 : decode cX5_write 62 = .ok (.ifCond .eq 11, 3) := by decide +kernel
theorem dX5_write_65 : decode cX5_write 65 = .ok (.aload_n 0, 1) := by decide +kernel
theorem dX5_write_66 : decode cX5_write 66 = .ok (.iload_n 1, 1) := by decide +kernel
theorem dX5_write_67 : decode cX5_write 67 = .ok (.iload_n 2, 1) := by decide +kernel
theorem dX5_write_68 : decode cX5_write 68 = .ok (.iload_n 3, 1) := by decide +kernel
theorem dX5_write_69 : decode cX5_write 69 = .ok (.invokevirtual 132, 3) := by decide +kernel
theorem dX5_write_72 : decode cX5_write 72 = .ok (.ireturn, 1) := by decide +kernel
theorem dX5_write_73 : decode cX5_write 73 = .ok (.aload_n 0, 1) := by decide +kernel
theorem dX5_write_74 : decode cX5_write 74 = .ok (.iload_n 1, 1) := by decide +kernel
theorem dX5_write_75 : decode cX5_write 75 = .ok (.iload 4, 2) := by decide +kernel
theorem dX5_write_77 : decode cX5_write 77 = .ok (.invokevirtual 113, 3) := by decide +kernel
theorem dX5_write_80 : decode cX5_write 80 = .ok (.ifCond .eq 5, 3) := by decide +kernel
theorem dX5_write_83 : decode cX5_write 83 = .ok (.iconst (-1), 1) := by decide +kernel
theorem dX5_write_84 : decode cX5_write 84 = .ok (.ireturn, 1) := by decide +kernel
theorem dX5_write_85 : decode cX5_write 85 = .ok (.aload_n 0, 1) := by decide +kernel
theorem dX5_write_86 : decode cX5_write 86 = .ok (.iload_n 1, 1) := by decide +kernel
theorem dX5_write_87 : decode cX5_write 87 = .ok (.iload 4, 2) := by decide +kernel
theorem dX5_write_89 : decode cX5_write 89 = .ok (.invokevirtual 99, 3) := by decide +kernel
theorem dX5_write_92 : decode cX5_write 92 = .ok (.ifCond .ne 11, 3) := by decide +kernel
theorem dX5_write_95 : decode cX5_write 95 = .ok (.aload_n 0, 1) := by decide +kernel
theorem dX5_write_96 : decode cX5_write 96 = .ok (.iload_n 1, 1) := by decide +kernel
theorem dX5_write_97 : decode cX5_write 97 = .ok (.iload_n 2, 1) := by decide +kernel
theorem dX5_write_98 : decode cX5_write 98 = .ok (.iload_n 3, 1) := by decide +kernel
theorem dX5_write_99 : decode cX5_write 99 = .ok (.invokevirtual 123, 3) := by decide +kernel
theorem dX5_write_102 : decode cX5_write 102 = .ok (.ireturn, 1) := by decide +kernel
theorem dX5_write_103 : decode cX5_write 103 = .ok (.aload_n 0, 1) := by decide +kernel
theorem dX5_write_104 : decode cX5_write 104 = .ok (.invokevirtual 92, 3) := by decide +kernel
theorem dX5_write_107 : decode cX5_write 107 = .ok (.ifCond .le 7, 3) := by decide +kernel
theorem dX5_write_110 : decode cX5_write 110 = .ok (.iconst 1, 1) := by decide +kernel
theorem dX5_write_111 : decode cX5_write 111 = .ok (.goto 4, 3) := by decide +kernel
theorem dX5_write_114 : decode cX5_write 114 = .ok (.iconst 0, 1) := by decide +kernel
theorem dX5_write_115 : decode cX5_write 115 = .ok (.istore 5, 2) := by decide +kernel
theorem dX5_write_117 : decode cX5_write 117 = .ok (.aload_n 0, 1) := by decide +kernel
theorem dX5_write_118 : decode cX5_write 118 = .ok (.getfield 110, 3) := by decide +kernel
theorem dX5_write_121 : decode cX5_write 121 = .ok (.ifCond .ne 37, 3) := by decide +kernel
theorem dX5_write_124 : decode cX5_write 124 = .ok (.iload 5, 2) := by decide +kernel
theorem dX5_write_126 : decode cX5_write 126 = .ok (.ifCond .ne 32, 3) := by decide +kernel
theorem dX5_write_129 : decode cX5_write 129 = .ok (.aload_n 0, 1) := by decide +kernel
theorem dX5_write_130 : decode cX5_write 130 = .ok (.aload_n 0, 1) := by decide +kernel
theorem dX5_write_131 : decode cX5_write 131 = .ok (.getfield 135, 3) := by decide +kernel
theorem dX5_write_134 : decode cX5_write 134 = .ok (.ifCond .le 7, 3) := by decide +kernel
theorem dX5_write_137 : decode cX5_write 137 = .ok (.iconst 1, 1) := by decide +kernel
theorem dX5_write_138 : decode cX5_write 138 = .ok (.goto 4, 3) := by decide +kernel
theorem dX5_write_141 : decode cX5_write 141 = .ok (.iconst 2, 1) := by decide +kernel
theorem dX5_write_142 : decode cX5_write 142 = .ok (.putfield 110, 3) := by decide +kernel
theorem dX5_write_145 : decode cX5_write 145 = .ok (.aload_n 0, 1) := by decide +kernel
theorem dX5_write_146 : decode cX5_write 146 = .ok (.aload_n 0, 1) := by decide +kernel
theorem dX5_write_147 : decode cX5_write 147 = .ok (.getfield 135, 3) := by decide +kernel
theorem dX5_write_150 : decode cX5_write 150 = .ok (.putfield 138, 3) := by decide +kernel
theorem dX5_write_153 : decode cX5_write 153 = .ok (.aload_n 0, 1) := by decide +kernel
theorem dX5_write_154 : decode cX5_write 154 = .ok (.iconst 0, 1) := by decide +kernel
theorem dX5_write_155 : decode cX5_write 155 = .ok (.putfield 141, 3) := by decide +kernel
theorem dX5_write_158 : decode cX5_write 158 = .ok (.aload_n 0, 1) := by decide +kernel
theorem dX5_write_159 : decode cX5_write 159 = .ok (.getfield 110, 3) := by decide +kernel
theorem dX5_write_162 : decode cX5_write 162 = .ok (.iconst 1, 1) := by decide +kernel
theorem dX5_write_163 : decode cX5_write 163 = .ok (.if_icmp .ne 11, 3) := by decide +kernel
theorem dX5_write_166 : decode cX5_write 166 = .ok (.aload_n 0, 1) := by decide +kernel
theorem dX5_write_167 : decode cX5_write 167 = .ok (.iload_n 1, 1) := by decide +kernel
theorem dX5_write_168 : decode cX5_write 168 = .ok (.iload_n 2, 1) := by decide +kernel
theorem dX5_write_169 : decode cX5_write 169 = .ok (.iload_n 3, 1) := by decide +kernel
theorem dX5_write_170 : decode cX5_write 170 = .ok (.invokevirtual 132, 3) := by decide +kernel
theorem dX5_write_173 : decode cX5_write 173 = .ok (.ireturn, 1) := by decide +kernel
theorem dX5_write_174 : decode cX5_write 174 = .ok (.iload 5, 2) := by decide +kernel
theorem dX5_write_176 : decode cX5_write 176 = .ok (.ifCond .ne 5, 3) := by decide +kernel
theorem dX5_write_179 : decode cX5_write 179 = .ok (.iconst (-1), 1) := by decide +kernel
theorem dX5_write_180 : decode cX5_write 180 = .ok (.ireturn, 1) := by decide +kernel
theorem dX5_write_181 : decode cX5_write 181 = .ok (.aload_n 0, 1) := by decide +kernel
theorem dX5_write_182 : decode cX5_write 182 = .ok (.iconst 0, 1) := by decide +kernel
theorem dX5_write_183 : decode cX5_write 183 = .ok (.putfield 110, 3) := by decide +kernel
theorem dX5_write_186 : decode cX5_write 186 = .ok (.aload_n 0, 1) := by decide +kernel
theorem dX5_write_187 : decode cX5_write 187 = .ok (.iload_n 1, 1) := by decide +kernel
theorem dX5_write_188 : decode cX5_write 188 = .ok (.iload_n 2, 1) := by decide +kernel
theorem dX5_write_189 : decode cX5_write 189 = .ok (.iload_n 3, 1) := by decide +kernel
theorem dX5_write_190 : decode cX5_write 190 = .ok (.invokevirtual 123, 3) := by decide +kernel
theorem dX5_write_193 : decode cX5_write 193 = .ok (.ireturn, 1) := by decide +kernel
theorem dX5_read_0 : decode cX5_read 0 = .ok (.aload_n 0, 1) := by decide +kernel
theorem dX5_read_1 : decode cX5_read 1 = .ok (.aload_n 0, 1) := by decide +kernel
theorem dX5_read_2 : decode cX5_read 2 = .ok (.iload_n 1, 1) := by decide +kernel
theorem dX5_read_3 : decode cX5_read 3 = .ok (.invokevirtual 126, 3) := by decide +kernel
theorem dX5_read_6 : decode cX5_read 6 = .ok (.ifCond .eq 19, 3) := by decide +kernel
theorem dX5_read_9 : decode cX5_read 9 = .ok (.iload_n 2, 1) := by decide +kernel
theorem dX5_read_10 : decode cX5_read 10 = .ok (.ifCond .lt 15, 3) := by decide +kernel
theorem dX5_read_13 : decode cX5_read 13 = .ok (.iload_n 2, 1) := by decide +kernel
theorem dX5_read_14 : decode cX5_read 14 = .ok (.iconst 4, 1) := by decide +kernel
theorem dX5_read_15 : decode cX5_read 15 = .ok (.aload_n 0, 1) := by decide +kernel
theorem dX5_read_16 : decode cX5_read 16 = .ok (.getfield 13, 3) := by decide +kernel
theorem dX5_read_19 : decode cX5_read 19 = .ok (.iload_n 1, 1) := by decide +kernel
theorem dX5_read_20 : decode cX5_read 20 = .ok (.iaload, 1) := by decide +kernel
theorem dX5_read_21 : decode cX5_read 21 = .ok (.imul, 1) := by decide +kernel
theorem dX5_read_22 : decode cX5_read 22 = .ok (.if_icmp .lt 7, 3) := by decide +kernel
theorem dX5_read_25 : decode cX5_read 25 = .ok (.iconst 1, 1) := by decide +kernel
theorem dX5_read_26 : decode cX5_read 26 = .ok (.goto 4, 3) := by decide +kernel
theorem dX5_read_29 : decode cX5_read 29 = .ok (.iconst 0, 1) := by decide +kernel
theorem dX5_read_30 : decode cX5_read 30 = .ok (.putfield 51, 3) := by decide +kernel
theorem dX5_read_33 : decode cX5_read 33 = .ok (.aload_n 0, 1) := by decide +kernel
theorem dX5_read_34 : decode cX5_read 34 = .ok (.getfield 51, 3) := by decide +kernel
theorem dX5_read_37 : decode cX5_read 37 = .ok (.ifCond .ne 12, 3) := by decide +kernel
theorem dX5_read_40 : decode cX5_read 40 = .ok (.aload_n 0, 1) := by decide +kernel
theorem dX5_read_41 : decode cX5_read 41 = .ok (.iload_n 1, 1) := by decide +kernel
theorem dX5_read_42 : decode cX5_read 42 = .ok (.iload_n 2, 1) := by decide +kernel
theorem dX5_read_43 : decode cX5_read 43 = .ok (.invokevirtual 83, 3) := by decide +kernel
theorem dX5_read_46 : decode cX5_read 46 = .ok (.goto 4, 3) := by decide +kernel
theorem dX5_read_49 : decode cX5_read 49 = .ok (.iconst 0, 1) := by decide +kernel
theorem dX5_read_50 : decode cX5_read 50 = .ok (.ireturn, 1) := by decide +kernel
theorem dX5_make_0 : decode cX5_make 0 = .ok (.aload_n 0, 1) := by decide +kernel
theorem dX5_make_1 : decode cX5_make 1 = .ok (.iload_n 1, 1) := by decide +kernel
theorem dX5_make_2 : decode cX5_make 2 = .ok (.invokestatic 54, 3) := by decide +kernel
theorem dX5_make_5 : decode cX5_make 5 = .ok (.ifCond .ne 7, 3) := by decide +kernel
theorem dX5_make_8 : decode cX5_make 8 = .ok (.iconst 1, 1) := by decide +kernel
theorem dX5_make_9 : decode cX5_make 9 = .ok (.goto 28, 3) := by decide +kernel
theorem dX5_make_12 : decode cX5_make 12 = .ok (.iload_n 2, 1) := by decide +kernel
theorem dX5_make_13 : decode cX5_make 13 = .ok (.invokestatic 144, 3) := by decide +kernel
theorem dX5_make_16 : decode cX5_make 16 = .ok (.ifCond .ne 7, 3) := by decide +kernel
theorem dX5_make_19 : decode cX5_make 19 = .ok (.iconst 2, 1) := by decide +kernel
theorem dX5_make_20 : decode cX5_make 20 = .ok (.goto 17, 3) := by decide +kernel
theorem dX5_make_23 : decode cX5_make 23 = .ok (.aload_n 0, 1) := by decide +kernel
theorem dX5_make_24 : decode cX5_make 24 = .ok (.getfield 7, 3) := by decide +kernel
theorem dX5_make_27 : decode cX5_make 27 = .ok (.iload_n 1, 1) := by decide +kernel
theorem dX5_make_28 : decode cX5_make 28 = .ok (.baload, 1) := by decide +kernel
theorem dX5_make_29 : decode cX5_make 29 = .ok (.ifCond .eq 7, 3) := by decide +kernel
theorem dX5_make_32 : decode cX5_make 32 = .ok (.iconst 3, 1) := by decide +kernel
theorem dX5_make_33 : decode cX5_make 33 = .ok (.goto 4, 3) := by decide +kernel
theorem dX5_make_36 : decode cX5_make 36 = .ok (.iconst 0, 1) := by decide +kernel
theorem dX5_make_37 : decode cX5_make 37 = .ok (.putfield 51, 3) := by decide +kernel
theorem dX5_make_40 : decode cX5_make 40 = .ok (.aload_n 0, 1) := by decide +kernel
theorem dX5_make_41 : decode cX5_make 41 = .ok (.getfield 51, 3) := by decide +kernel
theorem dX5_make_44 : decode cX5_make 44 = .ok (.ifCond .le 5, 3) := by decide +kernel
theorem dX5_make_47 : decode cX5_make 47 = .ok (.iconst 0, 1) := by decide +kernel
theorem dX5_make_48 : decode cX5_make 48 = .ok (.ireturn, 1) := by decide +kernel
theorem dX5_make_49 : decode cX5_make 49 = .ok (.aload_n 0, 1) := by decide +kernel
theorem dX5_make_50 : decode cX5_make 50 = .ok (.getfield 7, 3) := by decide +kernel
theorem dX5_make_53 : decode cX5_make 53 = .ok (.iload_n 1, 1) := by decide +kernel
theorem dX5_make_54 : decode cX5_make 54 = .ok (.iconst 1, 1) := by decide +kernel
theorem dX5_make_55 : decode cX5_make 55 = .ok (.bastore, 1) := by decide +kernel
theorem dX5_make_56 : decode cX5_make 56 = .ok (.aload_n 0, 1) := by decide +kernel
theorem dX5_make_57 : decode cX5_make 57 = .ok (.getfield 13, 3) := by decide +kernel
theorem dX5_make_60 : decode cX5_make 60 = .ok (.iload_n 1, 1) := by decide +kernel
theorem dX5_make_61 : decode cX5_make 61 = .ok (.iload_n 2, 1) := by decide +kernel
theorem dX5_make_62 : decode cX5_make 62 = .ok (.iastore, 1) := by decide +kernel
theorem dX5_make_63 : decode cX5_make 63 = .ok (.aload_n 0, 1) := by decide +kernel
theorem dX5_make_64 : decode cX5_make 64 = .ok (.getfield 17, 3) := by decide +kernel
theorem dX5_make_67 : decode cX5_make 67 = .ok (.iload_n 1, 1) := by decide +kernel
theorem dX5_make_68 : decode cX5_make 68 = .ok (.iload_n 3, 1) := by decide +kernel
theorem dX5_make_69 : decode cX5_make 69 = .ok (.bastore, 1) := by decide +kernel
theorem dX5_make_70 : decode cX5_make 70 = .ok (.aload_n 0, 1) := by decide +kernel
theorem dX5_make_71 : decode cX5_make 71 = .ok (.getfield 20, 3) := by decide +kernel
theorem dX5_make_74 : decode cX5_make 74 = .ok (.iload_n 1, 1) := by decide +kernel
theorem dX5_make_75 : decode cX5_make 75 = .ok (.iconst (-1), 1) := by decide +kernel
theorem dX5_make_76 : decode cX5_make 76 = .ok (.iastore, 1) := by decide +kernel
theorem dX5_make_77 : decode cX5_make 77 = .ok (.aload_n 0, 1) := by decide +kernel
theorem dX5_make_78 : decode cX5_make 78 = .ok (.getfield 23, 3) := by decide +kernel
theorem dX5_make_81 : decode cX5_make 81 = .ok (.iload_n 1, 1) := by decide +kernel
theorem dX5_make_82 : decode cX5_make 82 = .ok (.iconst (-1), 1) := by decide +kernel
theorem dX5_make_83 : decode cX5_make 83 = .ok (.iastore, 1) := by decide +kernel
theorem dX5_make_84 : decode cX5_make 84 = .ok (.iconst 0, 1) := by decide +kernel
theorem dX5_make_85 : decode cX5_make 85 = .ok (.istore 4, 2) := by decide +kernel
theorem dX5_make_87 : decode cX5_make 87 = .ok (.iload 4, 2) := by decide +kernel
theorem dX5_make_89 : decode cX5_make 89 = .ok (.bipush 40, 2) := by decide +kernel
theorem dX5_make_91 : decode cX5_make 91 = .ok (.if_icmp .ge 22, 3) := by decide +kernel
theorem dX5_make_94 : decode cX5_make 94 = .ok (.aload_n 0, 1) := by decide +kernel
theorem dX5_make_95 : decode cX5_make 95 = .ok (.getfield 26, 3) := by decide +kernel
theorem dX5_make_98 : decode cX5_make 98 = .ok (.iconst 0, 1) := by decide +kernel
theorem dX5_make_99 : decode cX5_make 99 = .ok (.iload_n 1, 1) := by decide +kernel
theorem dX5_make_100 : decode cX5_make 100 = .ok (.iload 4, 2) := by decide +kernel
theorem dX5_make_102 : decode cX5_make 102 = .ok (.invokestatic 58, 3) := by decide +kernel
theorem dX5_make_105 : decode cX5_make 105 = .ok (.iconst (-1), 1) := by decide +kernel
theorem dX5_make_106 : decode cX5_make 106 = .ok (.iastore, 1) := by decide +kernel
theorem dX5_make_107 : decode cX5_make 107 = .ok (.iinc 4 1, 3) := by decide +kernel
theorem dX5_make_110 : decode cX5_make 110 = .ok (.goto (-23), 3) := by decide +kernel
theorem dX5_make_113 : decode cX5_make 113 = .ok (.aload_n 0, 1) := by decide +kernel
theorem dX5_make_114 : decode cX5_make 114 = .ok (.iconst 0, 1) := by decide +kernel
theorem dX5_make_115 : decode cX5_make 115 = .ok (.invokevirtual 147, 3) := by decide +kernel
theorem dX5_make_118 : decode cX5_make 118 = .ok (.ireturn, 1) := by decide +kernel
theorem dX5_snap_0 : decode cX5_snap 0 = .ok (.aload_n 0, 1) := by decide +kernel
theorem dX5_snap_1 : decode cX5_snap 1 = .ok (.iload_n 2, 1) := by decide +kernel
theorem dX5_snap_2 : decode cX5_snap 2 = .ok (.invokestatic 54, 3) := by decide +kernel
theorem dX5_snap_5 : decode cX5_snap 5 = .ok (.ifCond .eq 11, 3) := by decide +kernel
theorem dX5_snap_8 : decode cX5_snap 8 = .ok (.aload_n 0, 1) := by decide +kernel
theorem dX5_snap_9 : decode cX5_snap 9 = .ok (.iload_n 1, 1) := by decide +kernel
theorem dX5_snap_10 : decode cX5_snap 10 = .ok (.invokevirtual 126, 3) := by decide +kernel
theorem dX5_snap_13 : decode cX5_snap 13 = .ok (.ifCond .ne 7, 3) := by decide +kernel
theorem dX5_snap_16 : decode cX5_snap 16 = .ok (.iconst 1, 1) := by decide +kernel
theorem dX5_snap_17 : decode cX5_snap 17 = .ok (.goto 17, 3) := by decide +kernel
theorem dX5_snap_20 : decode cX5_snap 20 = .ok (.aload_n 0, 1) := by decide +kernel
theorem dX5_snap_21 : decode cX5_snap 21 = .ok (.getfield 7, 3) := by decide +kernel
theorem dX5_snap_24 : decode cX5_snap 24 = .ok (.iload_n 2, 1) := by decide +kernel
theorem dX5_snap_25 : decode cX5_snap 25 = .ok (.baload, 1) := by decide +kernel
theorem dX5_snap_26 : decode cX5_snap 26 = .ok (.ifCond .eq 7, 3) := by decide +kernel
theorem dX5_snap_29 : decode cX5_snap 29 = .ok (.iconst 2, 1) := by decide +kernel
theorem dX5_snap_30 : decode cX5_snap 30 = .ok (.goto 4, 3) := by decide +kernel
theorem dX5_snap_33 : decode cX5_snap 33 = .ok (.iconst 0, 1) := by decide +kernel
theorem dX5_snap_34 : decode cX5_snap 34 = .ok (.putfield 51, 3) := by decide +kernel
theorem dX5_snap_37 : decode cX5_snap 37 = .ok (.aload_n 0, 1) := by decide +kernel
theorem dX5_snap_38 : decode cX5_snap 38 = .ok (.getfield 51, 3) := by decide +kernel
theorem dX5_snap_41 : decode cX5_snap 41 = .ok (.ifCond .le 5, 3) := by decide +kernel
theorem dX5_snap_44 : decode cX5_snap 44 = .ok (.iconst 0, 1) := by decide +kernel
theorem dX5_snap_45 : decode cX5_snap 45 = .ok (.ireturn, 1) := by decide +kernel
theorem dX5_snap_46 : decode cX5_snap 46 = .ok (.aload_n 0, 1) := by decide +kernel
theorem dX5_snap_47 : decode cX5_snap 47 = .ok (.iconst 0, 1) := by decide +kernel
theorem dX5_snap_48 : decode cX5_snap 48 = .ok (.iload_n 1, 1) := by decide +kernel
theorem dX5_snap_49 : decode cX5_snap 49 = .ok (.iconst 0, 1) := by decide +kernel
theorem dX5_snap_50 : decode cX5_snap 50 = .ok (.iload_n 2, 1) := by decide +kernel
theorem dX5_snap_51 : decode cX5_snap 51 = .ok (.invokevirtual 69, 3) := by decide +kernel
theorem dX5_snap_54 : decode cX5_snap 54 = .ok (.aload_n 0, 1) := by decide +kernel
theorem dX5_snap_55 : decode cX5_snap 55 = .ok (.getfield 23, 3) := by decide +kernel
theorem dX5_snap_58 : decode cX5_snap 58 = .ok (.iload_n 2, 1) := by decide +kernel
theorem dX5_snap_59 : decode cX5_snap 59 = .ok (.iload_n 1, 1) := by decide +kernel
theorem dX5_snap_60 : decode cX5_snap 60 = .ok (.iastore, 1) := by decide +kernel
theorem dX5_snap_61 : decode cX5_snap 61 = .ok (.aload_n 0, 1) := by decide +kernel
theorem dX5_snap_62 : decode cX5_snap 62 = .ok (.iload_n 2, 1) := by decide +kernel
theorem dX5_snap_63 : decode cX5_snap 63 = .ok (.invokevirtual 76, 3) := by decide +kernel
theorem dX5_snap_66 : decode cX5_snap 66 = .ok (.ireturn, 1) := by decide +kernel
theorem dX5_drop_0 : decode cX5_drop 0 = .ok (.aload_n 0, 1) := by decide +kernel
theorem dX5_drop_1 : decode cX5_drop 1 = .ok (.aload_n 0, 1) := by decide +kernel
theorem dX5_drop_2 : decode cX5_drop 2 = .ok (.iload_n 1, 1) := by decide +kernel
theorem dX5_drop_3 : decode cX5_drop 3 = .ok (.invokevirtual 126, 3) := by decide +kernel
theorem dX5_drop_6 : decode cX5_drop 6 = .ok (.ifCond .ne 7, 3) := by decide +kernel
theorem dX5_drop_9 : decode cX5_drop 9 = .ok (.iconst 1, 1) := by decide +kernel
theorem dX5_drop_10 : decode cX5_drop 10 = .ok (.goto 4, 3) := by decide +kernel
theorem dX5_drop_13 : decode cX5_drop 13 = .ok (.iconst 0, 1) := by decide +kernel
theorem dX5_drop_14 : decode cX5_drop 14 = .ok (.putfield 51, 3) := by decide +kernel
theorem dX5_drop_17 : decode cX5_drop 17 = .ok (.aload_n 0, 1) := by decide +kernel
theorem dX5_drop_18 : decode cX5_drop 18 = .ok (.getfield 51, 3) := by decide +kernel
theorem dX5_drop_21 : decode cX5_drop 21 = .ok (.ifCond .le 5, 3) := by decide +kernel
theorem dX5_drop_24 : decode cX5_drop 24 = .ok (.iconst 0, 1) := by decide +kernel
theorem dX5_drop_25 : decode cX5_drop 25 = .ok (.ireturn, 1) := by decide +kernel
theorem dX5_drop_26 : decode cX5_drop 26 = .ok (.aload_n 0, 1) := by decide +kernel
theorem dX5_drop_27 : decode cX5_drop 27 = .ok (.iload_n 1, 1) := by decide +kernel
theorem dX5_drop_28 : decode cX5_drop 28 = .ok (.invokevirtual 76, 3) := by decide +kernel
theorem dX5_drop_31 : decode cX5_drop 31 = .ok (.istore_n 2, 1) := by decide +kernel
theorem dX5_drop_32 : decode cX5_drop 32 = .ok (.iconst 0, 1) := by decide +kernel
theorem dX5_drop_33 : decode cX5_drop 33 = .ok (.istore_n 3, 1) := by decide +kernel
theorem dX5_drop_34 : decode cX5_drop 34 = .ok (.iload_n 3, 1) := by decide +kernel
theorem dX5_drop_35 : decode cX5_drop 35 = .ok (.aload_n 0, 1) := by decide +kernel
theorem dX5_drop_36 : decode cX5_drop 36 = .ok (.getfield 107, 3) := by decide +kernel
theorem dX5_drop_39 : decode cX5_drop 39 = .ok (.if_icmp .ge 37, 3) := by decide +kernel
theorem dX5_drop_42 : decode cX5_drop 42 = .ok (.aload_n 0, 1) := by decide +kernel
theorem dX5_drop_43 : decode cX5_drop 43 = .ok (.getfield 42, 3) := by decide +kernel
theorem dX5_drop_46 : decode cX5_drop 46 = .ok (.iload_n 3, 1) := by decide +kernel
theorem dX5_drop_47 : decode cX5_drop 47 = .ok (.iaload, 1) := by decide +kernel
theorem dX5_drop_48 : decode cX5_drop 48 = .ok (.iload_n 1, 1) := by decide +kernel
theorem dX5_drop_49 : decode cX5_drop 49 = .ok (.if_icmp .ne 21, 3) := by decide +kernel
theorem dX5_drop_52 : decode cX5_drop 52 = .ok (.aload_n 0, 1) := by decide +kernel
theorem dX5_drop_53 : decode cX5_drop 53 = .ok (.dup, 1) := by decide +kernel
theorem dX5_drop_54 : decode cX5_drop 54 = .ok (.getfield 116, 3) := by decide +kernel
theorem dX5_drop_57 : decode cX5_drop 57 = .ok (.iconst 1, 1) := by decide +kernel
theorem dX5_drop_58 : decode cX5_drop 58 = .ok (.iadd, 1) := by decide +kernel
theorem dX5_drop_59 : decode cX5_drop 59 = .ok (.putfield 116, 3) := by decide +kernel
theorem dX5_drop_62 : decode cX5_drop 62 = .ok (.aload_n 0, 1) := by decide +kernel
theorem dX5_drop_63 : decode cX5_drop 63 = .ok (.iload_n 3, 1) := by decide +kernel
theorem dX5_drop_64 : decode cX5_drop 64 = .ok (.invokevirtual 119, 3) := by decide +kernel
theorem dX5_drop_67 : decode cX5_drop 67 = .ok (.goto (-33), 3) := by decide +kernel
theorem dX5_drop_70 : decode cX5_drop 70 = .ok (.iinc 3 1, 3) := by decide +kernel
theorem dX5_drop_73 : decode cX5_drop 73 = .ok (.goto (-39), 3) := by decide +kernel
theorem dX5_drop_76 : decode cX5_drop 76 = .ok (.aload_n 0, 1) := by decide +kernel
theorem dX5_drop_77 : decode cX5_drop 77 = .ok (.getfield 7, 3) := by decide +kernel
theorem dX5_drop_80 : decode cX5_drop 80 = .ok (.iload_n 1, 1) := by decide +kernel
theorem dX5_drop_81 : decode cX5_drop 81 = .ok (.iconst 0, 1) := by decide +kernel
theorem dX5_drop_82 : decode cX5_drop 82 = .ok (.bastore, 1) := by decide +kernel
theorem dX5_drop_83 : decode cX5_drop 83 = .ok (.aload_n 0, 1) := by decide +kernel
theorem dX5_drop_84 : decode cX5_drop 84 = .ok (.invokevirtual 150, 3) := by decide +kernel
theorem dX5_drop_87 : decode cX5_drop 87 = .ok (.iload_n 2, 1) := by decide +kernel
theorem dX5_drop_88 : decode cX5_drop 88 = .ok (.ireturn, 1) := by decide +kernel
theorem dX5_waitsIn_0 : decode cX5_waitsIn 0 = .ok (.iconst 0, 1) := by decide +kernel
theorem dX5_waitsIn_1 : decode cX5_waitsIn 1 = .ok (.istore 4, 2) := by decide +kernel
theorem dX5_waitsIn_3 : decode cX5_waitsIn 3 = .ok (.iload_n 2, 1) := by decide +kernel
theorem dX5_waitsIn_4 : decode cX5_waitsIn 4 = .ok (.istore 5, 2) := by decide +kernel
theorem dX5_waitsIn_6 : decode cX5_waitsIn 6 = .ok (.iload 5, 2) := by decide +kernel
theorem dX5_waitsIn_8 : decode cX5_waitsIn 8 = .ok (.iload_n 3, 1) := by decide +kernel
theorem dX5_waitsIn_9 : decode cX5_waitsIn 9 = .ok (.if_icmp .ge 31, 3) := by decide +kernel
theorem dX5_waitsIn_12 : decode cX5_waitsIn 12 = .ok (.iload 4, 2) := by decide +kernel
theorem dX5_waitsIn_14 : decode cX5_waitsIn 14 = .ok (.ifCond .ne 13, 3) := by decide +kernel
theorem dX5_waitsIn_17 : decode cX5_waitsIn 17 = .ok (.aload_n 0, 1) := by decide +kernel
theorem dX5_waitsIn_18 : decode cX5_waitsIn 18 = .ok (.iload_n 1, 1) := by decide +kernel
theorem dX5_waitsIn_19 : decode cX5_waitsIn 19 = .ok (.iload 5, 2) := by decide +kernel
theorem dX5_waitsIn_21 : decode cX5_waitsIn 21 = .ok (.invokevirtual 129, 3) := by decide +kernel
theorem dX5_waitsIn_24 : decode cX5_waitsIn 24 = .ok (.ifCond .eq 7, 3) := by decide +kernel
theorem dX5_waitsIn_27 : decode cX5_waitsIn 27 = .ok (.iconst 1, 1) := by decide +kernel
theorem dX5_waitsIn_28 : decode cX5_waitsIn 28 = .ok (.goto 4, 3) := by decide +kernel
theorem dX5_waitsIn_31 : decode cX5_waitsIn 31 = .ok (.iconst 0, 1) := by decide +kernel
theorem dX5_waitsIn_32 : decode cX5_waitsIn 32 = .ok (.istore 4, 2) := by decide +kernel
theorem dX5_waitsIn_34 : decode cX5_waitsIn 34 = .ok (.iinc 5 1, 3) := by decide +kernel
theorem dX5_waitsIn_37 : decode cX5_waitsIn 37 = .ok (.goto (-31), 3) := by decide +kernel
theorem dX5_waitsIn_40 : decode cX5_waitsIn 40 = .ok (.iload 4, 2) := by decide +kernel
theorem dX5_waitsIn_42 : decode cX5_waitsIn 42 = .ok (.ireturn, 1) := by decide +kernel
theorem dX5_unmap_0 : decode cX5_unmap 0 = .ok (.iconst 0, 1) := by decide +kernel
theorem dX5_unmap_1 : decode cX5_unmap 1 = .ok (.istore 4, 2) := by decide +kernel
theorem dX5_unmap_3 : decode cX5_unmap 3 = .ok (.iload_n 2, 1) := by decide +kernel
theorem dX5_unmap_4 : decode cX5_unmap 4 = .ok (.istore 5, 2) := by decide +kernel
theorem dX5_unmap_6 : decode cX5_unmap 6 = .ok (.iload 5, 2) := by decide +kernel
theorem dX5_unmap_8 : decode cX5_unmap 8 = .ok (.iload_n 3, 1) := by decide +kernel
theorem dX5_unmap_9 : decode cX5_unmap 9 = .ok (.if_icmp .ge 48, 3) := by decide +kernel
theorem dX5_unmap_12 : decode cX5_unmap 12 = .ok (.iload 4, 2) := by decide +kernel
theorem dX5_unmap_14 : decode cX5_unmap 14 = .ok (.aload_n 0, 1) := by decide +kernel
theorem dX5_unmap_15 : decode cX5_unmap 15 = .ok (.getfield 26, 3) := by decide +kernel
theorem dX5_unmap_18 : decode cX5_unmap 18 = .ok (.iconst 0, 1) := by decide +kernel
theorem dX5_unmap_19 : decode cX5_unmap 19 = .ok (.iload_n 1, 1) := by decide +kernel
theorem dX5_unmap_20 : decode cX5_unmap 20 = .ok (.iload 5, 2) := by decide +kernel
theorem dX5_unmap_22 : decode cX5_unmap 22 = .ok (.invokestatic 58, 3) := by decide +kernel
theorem dX5_unmap_25 : decode cX5_unmap 25 = .ok (.iaload, 1) := by decide +kernel
theorem dX5_unmap_26 : decode cX5_unmap 26 = .ok (.iconst (-1), 1) := by decide +kernel
theorem dX5_unmap_27 : decode cX5_unmap 27 = .ok (.if_icmp .eq 7, 3) := by decide +kernel
theorem dX5_unmap_30 : decode cX5_unmap 30 = .ok (.iconst 1, 1) := by decide +kernel
theorem dX5_unmap_31 : decode cX5_unmap 31 = .ok (.goto 4, 3) := by decide +kernel
theorem dX5_unmap_34 : decode cX5_unmap 34 = .ok (.iconst 0, 1) := by decide +kernel
theorem dX5_unmap_35 : decode cX5_unmap 35 = .ok (.iadd, 1) := by decide +kernel
theorem dX5_unmap_36 : decode cX5_unmap 36 = .ok (.istore 4, 2) := by decide +kernel
theorem dX5_unmap_38 : decode cX5_unmap 38 = .ok (.aload_n 0, 1) := by decide +kernel
theorem dX5_unmap_39 : decode cX5_unmap 39 = .ok (.getfield 26, 3) := by decide +kernel
theorem dX5_unmap_42 : decode cX5_unmap 42 = .ok (.iconst 0, 1) := by decide +kernel
theorem dX5_unmap_43 : decode cX5_unmap 43 = .ok (.iload_n 1, 1) := by decide +kernel
theorem dX5_unmap_44 : decode cX5_unmap 44 = .ok (.iload 5, 2) := by decide +kernel
theorem dX5_unmap_46 : decode cX5_unmap 46 = .ok (.invokestatic 58, 3) := by decide +kernel
theorem dX5_unmap_49 : decode cX5_unmap 49 = .ok (.iconst (-1), 1) := by decide +kernel
theorem dX5_unmap_50 : decode cX5_unmap 50 = .ok (.iastore, 1) := by decide +kernel
theorem dX5_unmap_51 : decode cX5_unmap 51 = .ok (.iinc 5 1, 3) := by decide +kernel
theorem dX5_unmap_54 : decode cX5_unmap 54 = .ok (.goto (-48), 3) := by decide +kernel
theorem dX5_unmap_57 : decode cX5_unmap 57 = .ok (.iload 4, 2) := by decide +kernel
theorem dX5_unmap_59 : decode cX5_unmap 59 = .ok (.ireturn, 1) := by decide +kernel
theorem dX5_resize_0 : decode cX5_resize 0 = .ok (.aload_n 0, 1) := by decide +kernel
theorem dX5_resize_1 : decode cX5_resize 1 = .ok (.aload_n 0, 1) := by decide +kernel
theorem dX5_resize_2 : decode cX5_resize 2 = .ok (.iload_n 1, 1) := by decide +kernel
theorem dX5_resize_3 : decode cX5_resize 3 = .ok (.invokevirtual 126, 3) := by decide +kernel
theorem dX5_resize_6 : decode cX5_resize 6 = .ok (.ifCond .ne 7, 3) := by decide +kernel
theorem dX5_resize_9 : decode cX5_resize 9 = .ok (.iconst 1, 1) := by decide +kernel
theorem dX5_resize_10 : decode cX5_resize 10 = .ok (.goto 34, 3) := by decide +kernel
theorem dX5_resize_13 : decode cX5_resize 13 = .ok (.iload_n 2, 1) := by decide +kernel
theorem dX5_resize_14 : decode cX5_resize 14 = .ok (.invokestatic 144, 3) := by decide +kernel
theorem dX5_resize_17 : decode cX5_resize 17 = .ok (.ifCond .ne 7, 3) := by decide +kernel
theorem dX5_resize_20 : decode cX5_resize 20 = .ok (.iconst 2, 1) := by decide +kernel
theorem dX5_resize_21 : decode cX5_resize 21 = .ok (.goto 23, 3) := by decide +kernel
theorem dX5_resize_24 : decode cX5_resize 24 = .ok (.aload_n 0, 1) := by decide +kernel
theorem dX5_resize_25 : decode cX5_resize 25 = .ok (.iload_n 1, 1) := by decide +kernel
theorem dX5_resize_26 : decode cX5_resize 26 = .ok (.iload_n 2, 1) := by decide +kernel
theorem dX5_resize_27 : decode cX5_resize 27 = .ok (.aload_n 0, 1) := by decide +kernel
theorem dX5_resize_28 : decode cX5_resize 28 = .ok (.getfield 13, 3) := by decide +kernel
theorem dX5_resize_31 : decode cX5_resize 31 = .ok (.iload_n 1, 1) := by decide +kernel
theorem dX5_resize_32 : decode cX5_resize 32 = .ok (.iaload, 1) := by decide +kernel
theorem dX5_resize_33 : decode cX5_resize 33 = .ok (.invokevirtual 153, 3) := by decide +kernel
theorem dX5_resize_36 : decode cX5_resize 36 = .ok (.ifCond .eq 7, 3) := by decide +kernel
theorem dX5_resize_39 : decode cX5_resize 39 = .ok (.iconst 3, 1) := by decide +kernel
theorem dX5_resize_40 : decode cX5_resize 40 = .ok (.goto 4, 3) := by decide +kernel
theorem dX5_resize_43 : decode cX5_resize 43 = .ok (.iconst 0, 1) := by decide +kernel
theorem dX5_resize_44 : decode cX5_resize 44 = .ok (.putfield 51, 3) := by decide +kernel
theorem dX5_resize_47 : decode cX5_resize 47 = .ok (.aload_n 0, 1) := by decide +kernel
theorem dX5_resize_48 : decode cX5_resize 48 = .ok (.getfield 51, 3) := by decide +kernel
theorem dX5_resize_51 : decode cX5_resize 51 = .ok (.ifCond .le 5, 3) := by decide +kernel
theorem dX5_resize_54 : decode cX5_resize 54 = .ok (.iconst 0, 1) := by decide +kernel
theorem dX5_resize_55 : decode cX5_resize 55 = .ok (.ireturn, 1) := by decide +kernel
theorem dX5_resize_56 : decode cX5_resize 56 = .ok (.aload_n 0, 1) := by decide +kernel
theorem dX5_resize_57 : decode cX5_resize 57 = .ok (.iload_n 1, 1) := by decide +kernel
theorem dX5_resize_58 : decode cX5_resize 58 = .ok (.iload_n 2, 1) := by decide +kernel
theorem dX5_resize_59 : decode cX5_resize 59 = .ok (.aload_n 0, 1) := by decide +kernel
theorem dX5_resize_60 : decode cX5_resize 60 = .ok (.getfield 13, 3) := by decide +kernel
theorem dX5_resize_63 : decode cX5_resize 63 = .ok (.iload_n 1, 1) := by decide +kernel
theorem dX5_resize_64 : decode cX5_resize 64 = .ok (.iaload, 1) := by decide +kernel
theorem dX5_resize_65 : decode cX5_resize 65 = .ok (.invokevirtual 157, 3) := by decide +kernel
theorem dX5_resize_68 : decode cX5_resize 68 = .ok (.istore_n 3, 1) := by decide +kernel
theorem dX5_resize_69 : decode cX5_resize 69 = .ok (.aload_n 0, 1) := by decide +kernel
theorem dX5_resize_70 : decode cX5_resize 70 = .ok (.getfield 13, 3) := by decide +kernel
theorem dX5_resize_73 : decode cX5_resize 73 = .ok (.iload_n 1, 1) := by decide +kernel
theorem dX5_resize_74 : decode cX5_resize 74 = .ok (.iload_n 2, 1) := by decide +kernel
theorem dX5_resize_75 : decode cX5_resize 75 = .ok (.iastore, 1) := by decide +kernel
theorem dX5_resize_76 : decode cX5_resize 76 = .ok (.aload_n 0, 1) := by decide +kernel
theorem dX5_resize_77 : decode cX5_resize 77 = .ok (.invokevirtual 150, 3) := by decide +kernel
theorem dX5_resize_80 : decode cX5_resize 80 = .ok (.iload_n 3, 1) := by decide +kernel
theorem dX5_resize_81 : decode cX5_resize 81 = .ok (.ireturn, 1) := by decide +kernel
theorem dX5_discard_0 : decode cX5_discard 0 = .ok (.aload_n 0, 1) := by decide +kernel
theorem dX5_discard_1 : decode cX5_discard 1 = .ok (.aload_n 0, 1) := by decide +kernel
theorem dX5_discard_2 : decode cX5_discard 2 = .ok (.iload_n 1, 1) := by decide +kernel
theorem dX5_discard_3 : decode cX5_discard 3 = .ok (.invokevirtual 126, 3) := by decide +kernel
theorem dX5_discard_6 : decode cX5_discard 6 = .ok (.ifCond .eq 33, 3) := by decide +kernel
theorem dX5_discard_9 : decode cX5_discard 9 = .ok (.iload_n 2, 1) := by decide +kernel
theorem dX5_discard_10 : decode cX5_discard 10 = .ok (.ifCond .lt 29, 3) := by decide +kernel
theorem dX5_discard_13 : decode cX5_discard 13 = .ok (.iload_n 3, 1) := by decide +kernel
theorem dX5_discard_14 : decode cX5_discard 14 = .ok (.ifCond .lt 25, 3) := by decide +kernel
theorem dX5_discard_17 : decode cX5_discard 17 = .ok (.iload_n 2, 1) := by decide +kernel
theorem dX5_discard_18 : decode cX5_discard 18 = .ok (.aload_n 0, 1) := by decide +kernel
theorem dX5_discard_19 : decode cX5_discard 19 = .ok (.getfield 13, 3) := by decide +kernel
theorem dX5_discard_22 : decode cX5_discard 22 = .ok (.iload_n 1, 1) := by decide +kernel
theorem dX5_discard_23 : decode cX5_discard 23 = .ok (.iaload, 1) := by decide +kernel
theorem dX5_discard_24 : decode cX5_discard 24 = .ok (.if_icmp .gt 15, 3) := by decide +kernel
theorem dX5_discard_27 : decode cX5_discard 27 = .ok (.iload_n 3, 1) := by decide +kernel
theorem dX5_discard_28 : decode cX5_discard 28 = .ok (.aload_n 0, 1) := by decide +kernel
theorem dX5_discard_29 : decode cX5_discard 29 = .ok (.getfield 13, 3) := by decide +kernel
theorem dX5_discard_32 : decode cX5_discard 32 = .ok (.iload_n 1, 1) := by decide +kernel
theorem dX5_discard_33 : decode cX5_discard 33 = .ok (.iaload, 1) := by decide +kernel
theorem dX5_discard_34 : decode cX5_discard 34 = .ok (.iload_n 2, 1) := by decide +kernel
theorem dX5_discard_35 : decode cX5_discard 35 = .ok (.isub, 1) := by decide +kernel
theorem dX5_discard_36 : decode cX5_discard 36 = .ok (.if_icmp .le 7, 3) := by decide +kernel
theorem dX5_discard_39 : decode cX5_discard 39 = .ok (.iconst 1, 1) := by decide +kernel
theorem dX5_discard_40 : decode cX5_discard 40 = .ok (.goto 20, 3) := by decide +kernel
theorem dX5_discard_43 : decode cX5_discard 43 = .ok (.aload_n 0, 1) := by decide +kernel
theorem dX5_discard_44 : decode cX5_discard 44 = .ok (.iload_n 1, 1) := by decide +kernel
theorem dX5_discard_45 : decode cX5_discard 45 = .ok (.iload_n 2, 1) := by decide +kernel
theorem dX5_discard_46 : decode cX5_discard 46 = .ok (.iload_n 2, 1) := by decide +kernel
theorem dX5_discard_47 : decode cX5_discard 47 = .ok (.iload_n 3, 1) := by decide +kernel
theorem dX5_discard_48 : decode cX5_discard 48 = .ok (.iadd, 1) := by decide +kernel
theorem dX5_discard_49 : decode cX5_discard 49 = .ok (.invokevirtual 153, 3) := by decide +kernel
theorem dX5_discard_52 : decode cX5_discard 52 = .ok (.ifCond .eq 7, 3) := by decide +kernel
theorem dX5_discard_55 : decode cX5_discard 55 = .ok (.iconst 2, 1) := by decide +kernel
theorem dX5_discard_56 : decode cX5_discard 56 = .ok (.goto 4, 3) := by decide +kernel
theorem dX5_discard_59 : decode cX5_discard 59 = .ok (.iconst 0, 1) := by decide +kernel
theorem dX5_discard_60 : decode cX5_discard 60 = .ok (.putfield 51, 3) := by decide +kernel
theorem dX5_discard_63 : decode cX5_discard 63 = .ok (.aload_n 0, 1) := by decide +kernel
theorem dX5_discard_64 : decode cX5_discard 64 = .ok (.getfield 51, 3) := by decide +kernel
theorem dX5_discard_67 : decode cX5_discard 67 = .ok (.ifCond .le 5, 3) := by decide +kernel
theorem dX5_discard_70 : decode cX5_discard 70 = .ok (.iconst 0, 1) := by decide +kernel
theorem dX5_discard_71 : decode cX5_discard 71 = .ok (.ireturn, 1) := by decide +kernel
theorem dX5_discard_72 : decode cX5_discard 72 = .ok (.aload_n 0, 1) := by decide +kernel
theorem dX5_discard_73 : decode cX5_discard 73 = .ok (.iload_n 1, 1) := by decide +kernel
theorem dX5_discard_74 : decode cX5_discard 74 = .ok (.iload_n 2, 1) := by decide +kernel
theorem dX5_discard_75 : decode cX5_discard 75 = .ok (.iload_n 2, 1) := by decide +kernel
theorem dX5_discard_76 : decode cX5_discard 76 = .ok (.iload_n 3, 1) := by decide +kernel
theorem dX5_discard_77 : decode cX5_discard 77 = .ok (.iadd, 1) := by decide +kernel
theorem dX5_discard_78 : decode cX5_discard 78 = .ok (.invokevirtual 157, 3) := by decide +kernel
theorem dX5_discard_81 : decode cX5_discard 81 = .ok (.istore 4, 2) := by decide +kernel
theorem dX5_discard_83 : decode cX5_discard 83 = .ok (.aload_n 0, 1) := by decide +kernel
theorem dX5_discard_84 : decode cX5_discard 84 = .ok (.invokevirtual 150, 3) := by decide +kernel
theorem dX5_discard_87 : decode cX5_discard 87 = .ok (.iload 4, 2) := by decide +kernel
theorem dX5_discard_89 : decode cX5_discard 89 = .ok (.ireturn, 1) := by decide +kernel
theorem dX5_grow_0 : decode cX5_grow 0 = .ok (.aload_n 0, 1) := by decide +kernel
theorem dX5_grow_1 : decode cX5_grow 1 = .ok (.iload_n 1, 1) := by decide +kernel
theorem dX5_grow_2 : decode cX5_grow 2 = .ok (.ifCond .ge 7, 3) := by decide +kernel
theorem dX5_grow_5 : decode cX5_grow 5 = .ok (.iconst 1, 1) := by decide +kernel
theorem dX5_grow_6 : decode cX5_grow 6 = .ok (.goto 4, 3) := by decide +kernel
theorem dX5_grow_9 : decode cX5_grow 9 = .ok (.iconst 0, 1) := by decide +kernel
theorem dX5_grow_10 : decode cX5_grow 10 = .ok (.putfield 51, 3) := by decide +kernel
theorem dX5_grow_13 : decode cX5_grow 13 = .ok (.aload_n 0, 1) := by decide +kernel
theorem dX5_grow_14 : decode cX5_grow 14 = .ok (.getfield 51, 3) := by decide +kernel
theorem dX5_grow_17 : decode cX5_grow 17 = .ok (.ifCond .le 5, 3) := by decide +kernel
theorem dX5_grow_20 : decode cX5_grow 20 = .ok (.iconst 0, 1) := by decide +kernel
theorem dX5_grow_21 : decode cX5_grow 21 = .ok (.ireturn, 1) := by decide +kernel
theorem dX5_grow_22 : decode cX5_grow 22 = .ok (.iload_n 1, 1) := by decide +kernel
theorem dX5_grow_23 : decode cX5_grow 23 = .ok (.bipush 96, 2) := by decide +kernel
theorem dX5_grow_25 : decode cX5_grow 25 = .ok (.aload_n 0, 1) := by decide +kernel
theorem dX5_grow_26 : decode cX5_grow 26 = .ok (.getfield 32, 3) := by decide +kernel
theorem dX5_grow_29 : decode cX5_grow 29 = .ok (.isub, 1) := by decide +kernel
theorem dX5_grow_30 : decode cX5_grow 30 = .ok (.if_icmp .le 5, 3) := by decide +kernel
theorem dX5_grow_33 : decode cX5_grow 33 = .ok (.iconst (-1), 1) := by decide +kernel
theorem dX5_grow_34 : decode cX5_grow 34 = .ok (.ireturn, 1) := by decide +kernel
theorem dX5_grow_35 : decode cX5_grow 35 = .ok (.aload_n 0, 1) := by decide +kernel
theorem dX5_grow_36 : decode cX5_grow 36 = .ok (.dup, 1) := by decide +kernel
theorem dX5_grow_37 : decode cX5_grow 37 = .ok (.getfield 32, 3) := by decide +kernel
theorem dX5_grow_40 : decode cX5_grow 40 = .ok (.iload_n 1, 1) := by decide +kernel
theorem dX5_grow_41 : decode cX5_grow 41 = .ok (.iadd, 1) := by decide +kernel
theorem dX5_grow_42 : decode cX5_grow 42 = .ok (.putfield 32, 3) := by decide +kernel
theorem dX5_grow_45 : decode cX5_grow 45 = .ok (.aload_n 0, 1) := by decide +kernel
theorem dX5_grow_46 : decode cX5_grow 46 = .ok (.invokevirtual 150, 3) := by decide +kernel
theorem dX5_grow_49 : decode cX5_grow 49 = .ok (.aload_n 0, 1) := by decide +kernel
theorem dX5_grow_50 : decode cX5_grow 50 = .ok (.getfield 32, 3) := by decide +kernel
theorem dX5_grow_53 : decode cX5_grow 53 = .ok (.ireturn, 1) := by decide +kernel
theorem dX5_shrink_0 : decode cX5_shrink 0 = .ok (.aload_n 0, 1) := by decide +kernel
theorem dX5_shrink_1 : decode cX5_shrink 1 = .ok (.iload_n 1, 1) := by decide +kernel
theorem dX5_shrink_2 : decode cX5_shrink 2 = .ok (.ifCond .ge 7, 3) := by decide +kernel
theorem dX5_shrink_5 : decode cX5_shrink 5 = .ok (.iconst 1, 1) := by decide +kernel
theorem dX5_shrink_6 : decode cX5_shrink 6 = .ok (.goto 4, 3) := by decide +kernel
theorem dX5_shrink_9 : decode cX5_shrink 9 = .ok (.iconst 0, 1) := by decide +kernel
theorem dX5_shrink_10 : decode cX5_shrink 10 = .ok (.putfield 51, 3) := by decide +kernel
theorem dX5_shrink_13 : decode cX5_shrink 13 = .ok (.aload_n 0, 1) := by decide +kernel
theorem dX5_shrink_14 : decode cX5_shrink 14 = .ok (.getfield 51, 3) := by decide +kernel
theorem dX5_shrink_17 : decode cX5_shrink 17 = .ok (.ifCond .le 5, 3) := by decide +kernel
theorem dX5_shrink_20 : decode cX5_shrink 20 = .ok (.iconst 0, 1) := by decide +kernel
theorem dX5_shrink_21 : decode cX5_shrink 21 = .ok (.ireturn, 1) := by decide +kernel
theorem dX5_shrink_22 : decode cX5_shrink 22 = .ok (.iload_n 1, 1) := by decide +kernel
theorem dX5_shrink_23 : decode cX5_shrink 23 = .ok (.aload_n 0, 1) := by decide +kernel
theorem dX5_shrink_24 : decode cX5_shrink 24 = .ok (.getfield 32, 3) := by decide +kernel
theorem dX5_shrink_27 : decode cX5_shrink 27 = .ok (.if_icmp .lt 5, 3) := by decide +kernel
theorem dX5_shrink_30 : decode cX5_shrink 30 = .ok (.iconst (-1), 1) := by decide +kernel
theorem dX5_shrink_31 : decode cX5_shrink 31 = .ok (.ireturn, 1) := by decide +kernel
theorem dX5_shrink_32 : decode cX5_shrink 32 = .ok (.aload_n 0, 1) := by decide +kernel
theorem dX5_shrink_33 : decode cX5_shrink 33 = .ok (.getfield 32, 3) := by decide +kernel
theorem dX5_shrink_36 : decode cX5_shrink 36 = .ok (.iload_n 1, 1) := by decide +kernel
theorem dX5_shrink_37 : decode cX5_shrink 37 = .ok (.isub, 1) := by decide +kernel
theorem dX5_shrink_38 : decode cX5_shrink 38 = .ok (.istore_n 2, 1) := by decide +kernel
theorem dX5_shrink_39 : decode cX5_shrink 39 = .ok (.iload_n 2, 1) := by decide +kernel
theorem dX5_shrink_40 : decode cX5_shrink 40 = .ok (.aload_n 0, 1) := by decide +kernel
theorem dX5_shrink_41 : decode cX5_shrink 41 = .ok (.getfield 32, 3) := by decide +kernel
theorem dX5_shrink_44 : decode cX5_shrink 44 = .ok (.if_icmp .ge 19, 3) := by decide +kernel
theorem dX5_shrink_47 : decode cX5_shrink 47 = .ok (.aload_n 0, 1) := by decide +kernel
theorem dX5_shrink_48 : decode cX5_shrink 48 = .ok (.iload_n 2, 1) := by decide +kernel
theorem dX5_shrink_49 : decode cX5_shrink 49 = .ok (.invokevirtual 66, 3) := by decide +kernel
theorem dX5_shrink_52 : decode cX5_shrink 52 = .ok (.ifCond .ne 5, 3) := by decide +kernel
theorem dX5_shrink_55 : decode cX5_shrink 55 = .ok (.iconst (-1), 1) := by decide +kernel
theorem dX5_shrink_56 : decode cX5_shrink 56 = .ok (.ireturn, 1) := by decide +kernel
theorem dX5_shrink_57 : decode cX5_shrink 57 = .ok (.iinc 2 1, 3) := by decide +kernel
theorem dX5_shrink_60 : decode cX5_shrink 60 = .ok (.goto (-21), 3) := by decide +kernel
theorem dX5_shrink_63 : decode cX5_shrink 63 = .ok (.aload_n 0, 1) := by decide +kernel
theorem dX5_shrink_64 : decode cX5_shrink 64 = .ok (.dup, 1) := by decide +kernel
theorem dX5_shrink_65 : decode cX5_shrink 65 = .ok (.getfield 32, 3) := by decide +kernel
theorem dX5_shrink_68 : decode cX5_shrink 68 = .ok (.iload_n 1, 1) := by decide +kernel
theorem dX5_shrink_69 : decode cX5_shrink 69 = .ok (.isub, 1) := by decide +kernel
theorem dX5_shrink_70 : decode cX5_shrink 70 = .ok (.putfield 32, 3) := by decide +kernel
theorem dX5_shrink_73 : decode cX5_shrink 73 = .ok (.aload_n 0, 1) := by decide +kernel
theorem dX5_shrink_74 : decode cX5_shrink 74 = .ok (.aload_n 0, 1) := by decide +kernel
theorem dX5_shrink_75 : decode cX5_shrink 75 = .ok (.getfield 80, 3) := by decide +kernel
theorem dX5_shrink_78 : decode cX5_shrink 78 = .ok (.aload_n 0, 1) := by decide +kernel
theorem dX5_shrink_79 : decode cX5_shrink 79 = .ok (.getfield 32, 3) := by decide +kernel
theorem dX5_shrink_82 : decode cX5_shrink 82 = .ok (.if_icmp .lt 7, 3) := by decide +kernel
theorem dX5_shrink_85 : decode cX5_shrink 85 = .ok (.iconst 0, 1) := by decide +kernel
theorem dX5_shrink_86 : decode cX5_shrink 86 = .ok (.goto 7, 3) := by decide +kernel
theorem dX5_shrink_89 : decode cX5_shrink 89 = .ok (.aload_n 0, 1) := by decide +kernel
theorem dX5_shrink_90 : decode cX5_shrink 90 = .ok (.getfield 80, 3) := by decide +kernel
theorem dX5_shrink_93 : decode cX5_shrink 93 = .ok (.putfield 80, 3) := by decide +kernel
theorem dX5_shrink_96 : decode cX5_shrink 96 = .ok (.aload_n 0, 1) := by decide +kernel
theorem dX5_shrink_97 : decode cX5_shrink 97 = .ok (.getfield 32, 3) := by decide +kernel
theorem dX5_shrink_100 : decode cX5_shrink 100 = .ok (.ireturn, 1) := by decide +kernel
theorem dX5_back_0 : decode cX5_back 0 = .ok (.aload_n 0, 1) := by decide +kernel
theorem dX5_back_1 : decode cX5_back 1 = .ok (.iload_n 1, 1) := by decide +kernel
theorem dX5_back_2 : decode cX5_back 2 = .ok (.ifCond .lt 10, 3) := by decide +kernel
theorem dX5_back_5 : decode cX5_back 5 = .ok (.iload_n 1, 1) := by decide +kernel
theorem dX5_back_6 : decode cX5_back 6 = .ok (.sipush 159, 3) := by decide +kernel
theorem dX5_back_9 : decode cX5_back 9 = .ok (.if_icmp .le 7, 3) := by decide +kernel
theorem dX5_back_12 : decode cX5_back 12 = .ok (.iconst 1, 1) := by decide +kernel
theorem dX5_back_13 : decode cX5_back 13 = .ok (.goto 4, 3) := by decide +kernel
theorem dX5_back_16 : decode cX5_back 16 = .ok (.iconst 0, 1) := by decide +kernel
theorem dX5_back_17 : decode cX5_back 17 = .ok (.putfield 51, 3) := by decide +kernel
theorem dX5_back_20 : decode cX5_back 20 = .ok (.iconst 0, 1) := by decide +kernel
theorem dX5_back_21 : decode cX5_back 21 = .ok (.istore_n 3, 1) := by decide +kernel
theorem dX5_back_22 : decode cX5_back 22 = .ok (.iload_n 3, 1) := by decide +kernel
theorem dX5_back_23 : decode cX5_back 23 = .ok (.bipush 48, 2) := by decide +kernel
theorem dX5_back_25 : decode cX5_back 25 = .ok (.if_icmp .ge 43, 3) := by decide +kernel
theorem dX5_back_28 : decode cX5_back 28 = .ok (.aload_n 0, 1) := by decide +kernel
theorem dX5_back_29 : decode cX5_back 29 = .ok (.getfield 51, 3) := by decide +kernel
theorem dX5_back_32 : decode cX5_back 32 = .ok (.ifCond .ne 36, 3) := by decide +kernel
theorem dX5_back_35 : decode cX5_back 35 = .ok (.aload_n 0, 1) := by decide +kernel
theorem dX5_back_36 : decode cX5_back 36 = .ok (.aload_n 0, 1) := by decide +kernel
theorem dX5_back_37 : decode cX5_back 37 = .ok (.getfield 7, 3) := by decide +kernel
theorem dX5_back_40 : decode cX5_back 40 = .ok (.iload_n 3, 1) := by decide +kernel
theorem dX5_back_41 : decode cX5_back 41 = .ok (.baload, 1) := by decide +kernel
theorem dX5_back_42 : decode cX5_back 42 = .ok (.ifCond .eq 16, 3) := by decide +kernel
theorem dX5_back_45 : decode cX5_back 45 = .ok (.aload_n 0, 1) := by decide +kernel
theorem dX5_back_46 : decode cX5_back 46 = .ok (.getfield 17, 3) := by decide +kernel
theorem dX5_back_49 : decode cX5_back 49 = .ok (.iload_n 3, 1) := by decide +kernel
theorem dX5_back_50 : decode cX5_back 50 = .ok (.baload, 1) := by decide +kernel
theorem dX5_back_51 : decode cX5_back 51 = .ok (.ifCond .eq 7, 3) := by decide +kernel
theorem dX5_back_54 : decode cX5_back 54 = .ok (.iconst 2, 1) := by decide +kernel
theorem dX5_back_55 : decode cX5_back 55 = .ok (.goto 4, 3) := by decide +kernel
theorem dX5_back_58 : decode cX5_back 58 = .ok (.iconst 0, 1) := by decide +kernel
theorem dX5_back_59 : decode cX5_back 59 = .ok (.putfield 51, 3) := by decide +kernel
theorem dX5_back_62 : decode cX5_back 62 = .ok (.iinc 3 1, 3) := by decide +kernel
theorem dX5_back_65 : decode cX5_back 65 = .ok (.goto (-43), 3) := by decide +kernel
theorem dX5_back_68 : decode cX5_back 68 = .ok (.aload_n 0, 1) := by decide +kernel
theorem dX5_back_69 : decode cX5_back 69 = .ok (.getfield 51, 3) := by decide +kernel
theorem dX5_back_72 : decode cX5_back 72 = .ok (.ifCond .le 5, 3) := by decide +kernel
theorem dX5_back_75 : decode cX5_back 75 = .ok (.iconst 0, 1) := by decide +kernel
theorem dX5_back_76 : decode cX5_back 76 = .ok (.ireturn, 1) := by decide +kernel
theorem dX5_back_77 : decode cX5_back 77 = .ok (.aload_n 0, 1) := by decide +kernel
theorem dX5_back_78 : decode cX5_back 78 = .ok (.getfield 39, 3) := by decide +kernel
theorem dX5_back_81 : decode cX5_back 81 = .ok (.iload_n 1, 1) := by decide +kernel
theorem dX5_back_82 : decode cX5_back 82 = .ok (.iaload, 1) := by decide +kernel
theorem dX5_back_83 : decode cX5_back 83 = .ok (.istore_n 3, 1) := by decide +kernel
theorem dX5_back_84 : decode cX5_back 84 = .ok (.aload_n 0, 1) := by decide +kernel
theorem dX5_back_85 : decode cX5_back 85 = .ok (.getfield 39, 3) := by decide +kernel
theorem dX5_back_88 : decode cX5_back 88 = .ok (.iload_n 1, 1) := by decide +kernel
theorem dX5_back_89 : decode cX5_back 89 = .ok (.iload_n 2, 1) := by decide +kernel
theorem dX5_back_90 : decode cX5_back 90 = .ok (.iastore, 1) := by decide +kernel
theorem dX5_back_91 : decode cX5_back 91 = .ok (.iload_n 3, 1) := by decide +kernel
theorem dX5_back_92 : decode cX5_back 92 = .ok (.ireturn, 1) := by decide +kernel
theorem dX5_quota_0 : decode cX5_quota 0 = .ok (.aload_n 0, 1) := by decide +kernel
theorem dX5_quota_1 : decode cX5_quota 1 = .ok (.aload_n 0, 1) := by decide +kernel
theorem dX5_quota_2 : decode cX5_quota 2 = .ok (.iload_n 1, 1) := by decide +kernel
theorem dX5_quota_3 : decode cX5_quota 3 = .ok (.invokevirtual 126, 3) := by decide +kernel
theorem dX5_quota_6 : decode cX5_quota 6 = .ok (.ifCond .ne 7, 3) := by decide +kernel
theorem dX5_quota_9 : decode cX5_quota 9 = .ok (.iconst 1, 1) := by decide +kernel
theorem dX5_quota_10 : decode cX5_quota 10 = .ok (.goto 19, 3) := by decide +kernel
theorem dX5_quota_13 : decode cX5_quota 13 = .ok (.iload_n 2, 1) := by decide +kernel
theorem dX5_quota_14 : decode cX5_quota 14 = .ok (.iconst (-1), 1) := by decide +kernel
theorem dX5_quota_15 : decode cX5_quota 15 = .ok (.if_icmp .lt 9, 3) := by decide +kernel
theorem dX5_quota_18 : decode cX5_quota 18 = .ok (.iload_n 2, 1) := by decide +kernel
theorem dX5_quota_19 : decode cX5_quota 19 = .ok (.bipush 40, 2) := by decide +kernel
theorem dX5_quota_21 : decode cX5_quota 21 = .ok (.if_icmp .le 7, 3) := by decide +kernel
theorem dX5_quota_24 : decode cX5_quota 24 = .ok (.iconst 2, 1) := by decide +kernel
theorem dX5_quota_25 : decode cX5_quota 25 = .ok (.goto 4, 3) := by decide +kernel
theorem dX5_quota_28 : decode cX5_quota 28 = .ok (.iconst 0, 1) := by decide +kernel
theorem dX5_quota_29 : decode cX5_quota 29 = .ok (.putfield 51, 3) := by decide +kernel
theorem dX5_quota_32 : decode cX5_quota 32 = .ok (.aload_n 0, 1) := by decide +kernel
theorem dX5_quota_33 : decode cX5_quota 33 = .ok (.getfield 51, 3) := by decide +kernel
theorem dX5_quota_36 : decode cX5_quota 36 = .ok (.ifCond .le 5, 3) := by decide +kernel
theorem dX5_quota_39 : decode cX5_quota 39 = .ok (.iconst 0, 1) := by decide +kernel
theorem dX5_quota_40 : decode cX5_quota 40 = .ok (.ireturn, 1) := by decide +kernel
theorem dX5_quota_41 : decode cX5_quota 41 = .ok (.aload_n 0, 1) := by decide +kernel
theorem dX5_quota_42 : decode cX5_quota 42 = .ok (.getfield 20, 3) := by decide +kernel
theorem dX5_quota_45 : decode cX5_quota 45 = .ok (.iload_n 1, 1) := by decide +kernel
theorem dX5_quota_46 : decode cX5_quota 46 = .ok (.iaload, 1) := by decide +kernel
theorem dX5_quota_47 : decode cX5_quota 47 = .ok (.istore_n 3, 1) := by decide +kernel
theorem dX5_quota_48 : decode cX5_quota 48 = .ok (.aload_n 0, 1) := by decide +kernel
theorem dX5_quota_49 : decode cX5_quota 49 = .ok (.getfield 20, 3) := by decide +kernel
theorem dX5_quota_52 : decode cX5_quota 52 = .ok (.iload_n 1, 1) := by decide +kernel
theorem dX5_quota_53 : decode cX5_quota 53 = .ok (.iload_n 2, 1) := by decide +kernel
theorem dX5_quota_54 : decode cX5_quota 54 = .ok (.iastore, 1) := by decide +kernel
theorem dX5_quota_55 : decode cX5_quota 55 = .ok (.aload_n 0, 1) := by decide +kernel
theorem dX5_quota_56 : decode cX5_quota 56 = .ok (.invokevirtual 150, 3) := by decide +kernel
theorem dX5_quota_59 : decode cX5_quota 59 = .ok (.iload_n 3, 1) := by decide +kernel
theorem dX5_quota_60 : decode cX5_quota 60 = .ok (.ireturn, 1) := by decide +kernel
theorem dX5_mark_0 : decode cX5_mark 0 = .ok (.aload_n 0, 1) := by decide +kernel
theorem dX5_mark_1 : decode cX5_mark 1 = .ok (.iconst 0, 1) := by decide +kernel
theorem dX5_mark_2 : decode cX5_mark 2 = .ok (.putfield 51, 3) := by decide +kernel
theorem dX5_mark_5 : decode cX5_mark 5 = .ok (.aload_n 0, 1) := by decide +kernel
theorem dX5_mark_6 : decode cX5_mark 6 = .ok (.getfield 29, 3) := by decide +kernel
theorem dX5_mark_9 : decode cX5_mark 9 = .ok (.iconst 0, 1) := by decide +kernel
theorem dX5_mark_10 : decode cX5_mark 10 = .ok (.iaload, 1) := by decide +kernel
theorem dX5_mark_11 : decode cX5_mark 11 = .ok (.iload_n 1, 1) := by decide +kernel
theorem dX5_mark_12 : decode cX5_mark 12 = .ok (.if_icmp .eq 5, 3) := by decide +kernel
theorem dX5_mark_15 : decode cX5_mark 15 = .ok (.iconst 0, 1) := by decide +kernel
theorem dX5_mark_16 : decode cX5_mark 16 = .ok (.ireturn, 1) := by decide +kernel
theorem dX5_mark_17 : decode cX5_mark 17 = .ok (.aload_n 0, 1) := by decide +kernel
theorem dX5_mark_18 : decode cX5_mark 18 = .ok (.getfield 29, 3) := by decide +kernel
theorem dX5_mark_21 : decode cX5_mark 21 = .ok (.iconst 0, 1) := by decide +kernel
theorem dX5_mark_22 : decode cX5_mark 22 = .ok (.iload_n 2, 1) := by decide +kernel
theorem dX5_mark_23 : decode cX5_mark 23 = .ok (.iastore, 1) := by decide +kernel
theorem dX5_mark_24 : decode cX5_mark 24 = .ok (.iconst 1, 1) := by decide +kernel
theorem dX5_mark_25 : decode cX5_mark 25 = .ok (.ireturn, 1) := by decide +kernel
theorem dX5_marked_0 : decode cX5_marked 0 = .ok (.aload_n 0, 1) := by decide +kernel
theorem dX5_marked_1 : decode cX5_marked 1 = .ok (.iload_n 1, 1) := by decide +kernel
theorem dX5_marked_2 : decode cX5_marked 2 = .ok (.ifCond .lt 8, 3) := by decide +kernel
theorem dX5_marked_5 : decode cX5_marked 5 = .ok (.iload_n 1, 1) := by decide +kernel
theorem dX5_marked_6 : decode cX5_marked 6 = .ok (.iconst 2, 1) := by decide +kernel
theorem dX5_marked_7 : decode cX5_marked 7 = .ok (.if_icmp .le 7, 3) := by decide +kernel
theorem dX5_marked_10 : decode cX5_marked 10 = .ok (.iconst 1, 1) := by decide +kernel
theorem dX5_marked_11 : decode cX5_marked 11 = .ok (.goto 4, 3) := by decide +kernel
theorem dX5_marked_14 : decode cX5_marked 14 = .ok (.iconst 0, 1) := by decide +kernel
theorem dX5_marked_15 : decode cX5_marked 15 = .ok (.putfield 51, 3) := by decide +kernel
theorem dX5_marked_18 : decode cX5_marked 18 = .ok (.aload_n 0, 1) := by decide +kernel
theorem dX5_marked_19 : decode cX5_marked 19 = .ok (.getfield 51, 3) := by decide +kernel
theorem dX5_marked_22 : decode cX5_marked 22 = .ok (.ifCond .ne 12, 3) := by decide +kernel
theorem dX5_marked_25 : decode cX5_marked 25 = .ok (.aload_n 0, 1) := by decide +kernel
theorem dX5_marked_26 : decode cX5_marked 26 = .ok (.getfield 29, 3) := by decide +kernel
theorem dX5_marked_29 : decode cX5_marked 29 = .ok (.iload_n 1, 1) := by decide +kernel
theorem dX5_marked_30 : decode cX5_marked 30 = .ok (.iaload, 1) := by decide +kernel
theorem dX5_marked_31 : decode cX5_marked 31 = .ok (.goto 4, 3) := by decide +kernel
theorem dX5_marked_34 : decode cX5_marked 34 = .ok (.iconst 0, 1) := by decide +kernel
theorem dX5_marked_35 : decode cX5_marked 35 = .ok (.ireturn, 1) := by decide +kernel
theorem dX5_commit_0 : decode cX5_commit 0 = .ok (.aload_n 0, 1) := by decide +kernel
theorem dX5_commit_1 : decode cX5_commit 1 = .ok (.iconst 0, 1) := by decide +kernel
theorem dX5_commit_2 : decode cX5_commit 2 = .ok (.putfield 51, 3) := by decide +kernel
theorem dX5_commit_5 : decode cX5_commit 5 = .ok (.aload_n 0, 1) := by decide +kernel
theorem dX5_commit_6 : decode cX5_commit 6 = .ok (.iconst 0, 1) := by decide +kernel
theorem dX5_commit_7 : decode cX5_commit 7 = .ok (.iconst 1, 1) := by decide +kernel
theorem dX5_commit_8 : decode cX5_commit 8 = .ok (.invokevirtual 160, 3) := by decide +kernel
theorem dX5_commit_11 : decode cX5_commit 11 = .ok (.aload_n 0, 1) := by decide +kernel
theorem dX5_commit_12 : decode cX5_commit 12 = .ok (.dup, 1) := by decide +kernel
theorem dX5_commit_13 : decode cX5_commit 13 = .ok (.getfield 163, 3) := by decide +kernel
theorem dX5_commit_16 : decode cX5_commit 16 = .ok (.iconst 1, 1) := by decide +kernel
theorem dX5_commit_17 : decode cX5_commit 17 = .ok (.iadd, 1) := by decide +kernel
theorem dX5_commit_18 : decode cX5_commit 18 = .ok (.putfield 163, 3) := by decide +kernel
theorem dX5_commit_21 : decode cX5_commit 21 = .ok (.aload_n 0, 1) := by decide +kernel
theorem dX5_commit_22 : decode cX5_commit 22 = .ok (.invokevirtual 150, 3) := by decide +kernel
theorem dX5_commit_25 : decode cX5_commit 25 = .ok (.aload_n 0, 1) := by decide +kernel
theorem dX5_commit_26 : decode cX5_commit 26 = .ok (.getfield 163, 3) := by decide +kernel
theorem dX5_commit_29 : decode cX5_commit 29 = .ok (.ireturn, 1) := by decide +kernel
theorem dX5_cut_0 : decode cX5_cut 0 = .ok (.aload_n 0, 1) := by decide +kernel
theorem dX5_cut_1 : decode cX5_cut 1 = .ok (.iload_n 1, 1) := by decide +kernel
theorem dX5_cut_2 : decode cX5_cut 2 = .ok (.ifCond .lt 8, 3) := by decide +kernel
theorem dX5_cut_5 : decode cX5_cut 5 = .ok (.iload_n 1, 1) := by decide +kernel
theorem dX5_cut_6 : decode cX5_cut 6 = .ok (.iconst 2, 1) := by decide +kernel
theorem dX5_cut_7 : decode cX5_cut 7 = .ok (.if_icmp .le 7, 3) := by decide +kernel
theorem dX5_cut_10 : decode cX5_cut 10 = .ok (.iconst 1, 1) := by decide +kernel
theorem dX5_cut_11 : decode cX5_cut 11 = .ok (.goto 4, 3) := by decide +kernel
theorem dX5_cut_14 : decode cX5_cut 14 = .ok (.iconst 0, 1) := by decide +kernel
theorem dX5_cut_15 : decode cX5_cut 15 = .ok (.putfield 51, 3) := by decide +kernel
theorem dX5_cut_18 : decode cX5_cut 18 = .ok (.aload_n 0, 1) := by decide +kernel
theorem dX5_cut_19 : decode cX5_cut 19 = .ok (.getfield 51, 3) := by decide +kernel
theorem dX5_cut_22 : decode cX5_cut 22 = .ok (.ifCond .le 5, 3) := by decide +kernel
theorem dX5_cut_25 : decode cX5_cut 25 = .ok (.iconst 0, 1) := by decide +kernel
theorem dX5_cut_26 : decode cX5_cut 26 = .ok (.ireturn, 1) := by decide +kernel
theorem dX5_cut_27 : decode cX5_cut 27 = .ok (.iload_n 1, 1) := by decide +kernel
theorem dX5_cut_28 : decode cX5_cut 28 = .ok (.iconst 2, 1) := by decide +kernel
theorem dX5_cut_29 : decode cX5_cut 29 = .ok (.if_icmp .ne 19, 3) := by decide +kernel
theorem dX5_cut_32 : decode cX5_cut 32 = .ok (.aload_n 0, 1) := by decide +kernel
theorem dX5_cut_33 : decode cX5_cut 33 = .ok (.iconst 0, 1) := by decide +kernel
theorem dX5_cut_34 : decode cX5_cut 34 = .ok (.iconst 1, 1) := by decide +kernel
theorem dX5_cut_35 : decode cX5_cut 35 = .ok (.invokevirtual 160, 3) := by decide +kernel
theorem dX5_cut_38 : decode cX5_cut 38 = .ok (.aload_n 0, 1) := by decide +kernel
theorem dX5_cut_39 : decode cX5_cut 39 = .ok (.dup, 1) := by decide +kernel
theorem dX5_cut_40 : decode cX5_cut 40 = .ok (.getfield 163, 3) := by decide +kernel
theorem dX5_cut_43 : decode cX5_cut 43 = .ok (.iconst 1, 1) := by decide +kernel
theorem dX5_cut_44 : decode cX5_cut 44 = .ok (.iadd, 1) := by decide +kernel
theorem dX5_cut_45 : decode cX5_cut 45 = .ok (.putfield 163, 3) := by decide +kernel
theorem dX5_cut_48 : decode cX5_cut 48 = .ok (.aload_n 0, 1) := by decide +kernel
theorem dX5_cut_49 : decode cX5_cut 49 = .ok (.iconst 1, 1) := by decide +kernel
theorem dX5_cut_50 : decode cX5_cut 50 = .ok (.iconst 0, 1) := by decide +kernel
theorem dX5_cut_51 : decode cX5_cut 51 = .ok (.invokevirtual 160, 3) := by decide +kernel
theorem dX5_cut_54 : decode cX5_cut 54 = .ok (.aload_n 0, 1) := by decide +kernel
theorem dX5_cut_55 : decode cX5_cut 55 = .ok (.dup, 1) := by decide +kernel
theorem dX5_cut_56 : decode cX5_cut 56 = .ok (.getfield 116, 3) := by decide +kernel
theorem dX5_cut_59 : decode cX5_cut 59 = .ok (.aload_n 0, 1) := by decide +kernel
theorem dX5_cut_60 : decode cX5_cut 60 = .ok (.getfield 107, 3) := by decide +kernel
theorem dX5_cut_63 : decode cX5_cut 63 = .ok (.iadd, 1) := by decide +kernel
theorem dX5_cut_64 : decode cX5_cut 64 = .ok (.putfield 116, 3) := by decide +kernel
theorem dX5_cut_67 : decode cX5_cut 67 = .ok (.aload_n 0, 1) := by decide +kernel
theorem dX5_cut_68 : decode cX5_cut 68 = .ok (.iconst 0, 1) := by decide +kernel
theorem dX5_cut_69 : decode cX5_cut 69 = .ok (.putfield 107, 3) := by decide +kernel
theorem dX5_cut_72 : decode cX5_cut 72 = .ok (.aload_n 0, 1) := by decide +kernel
theorem dX5_cut_73 : decode cX5_cut 73 = .ok (.iconst 0, 1) := by decide +kernel
theorem dX5_cut_74 : decode cX5_cut 74 = .ok (.putfield 110, 3) := by decide +kernel
theorem dX5_cut_77 : decode cX5_cut 77 = .ok (.aload_n 0, 1) := by decide +kernel
theorem dX5_cut_78 : decode cX5_cut 78 = .ok (.iconst 0, 1) := by decide +kernel
theorem dX5_cut_79 : decode cX5_cut 79 = .ok (.putfield 80, 3) := by decide +kernel
theorem dX5_cut_82 : decode cX5_cut 82 = .ok (.aload_n 0, 1) := by decide +kernel
theorem dX5_cut_83 : decode cX5_cut 83 = .ok (.iconst 0, 1) := by decide +kernel
theorem dX5_cut_84 : decode cX5_cut 84 = .ok (.invokevirtual 147, 3) := by decide +kernel
theorem dX5_cut_87 : decode cX5_cut 87 = .ok (.ireturn, 1) := by decide +kernel
theorem dX5_hold_0 : decode cX5_hold 0 = .ok (.aload_n 0, 1) := by decide +kernel
theorem dX5_hold_1 : decode cX5_hold 1 = .ok (.aload_n 0, 1) := by decide +kernel
theorem dX5_hold_2 : decode cX5_hold 2 = .ok (.getfield 166, 3) := by decide +kernel
theorem dX5_hold_5 : decode cX5_hold 5 = .ok (.ifCond .eq 7, 3) := by decide +kernel
theorem dX5_hold_8 : decode cX5_hold 8 = .ok (.iconst 1, 1) := by decide +kernel
theorem dX5_hold_9 : decode cX5_hold 9 = .ok (.goto 4, 3) := by decide +kernel
theorem dX5_hold_12 : decode cX5_hold 12 = .ok (.iconst 0, 1) := by decide +kernel
theorem dX5_hold_13 : decode cX5_hold 13 = .ok (.putfield 51, 3) := by decide +kernel
theorem dX5_hold_16 : decode cX5_hold 16 = .ok (.aload_n 0, 1) := by decide +kernel
theorem dX5_hold_17 : decode cX5_hold 17 = .ok (.getfield 51, 3) := by decide +kernel
theorem dX5_hold_20 : decode cX5_hold 20 = .ok (.ifCond .le 5, 3) := by decide +kernel
theorem dX5_hold_23 : decode cX5_hold 23 = .ok (.iconst 0, 1) := by decide +kernel
theorem dX5_hold_24 : decode cX5_hold 24 = .ok (.ireturn, 1) := by decide +kernel
theorem dX5_hold_25 : decode cX5_hold 25 = .ok (.aload_n 0, 1) := by decide +kernel
theorem dX5_hold_26 : decode cX5_hold 26 = .ok (.iconst 1, 1) := by decide +kernel
theorem dX5_hold_27 : decode cX5_hold 27 = .ok (.putfield 166, 3) := by decide +kernel
theorem dX5_hold_30 : decode cX5_hold 30 = .ok (.aload_n 0, 1) := by decide +kernel
theorem dX5_hold_31 : decode cX5_hold 31 = .ok (.iconst 1, 1) := by decide +kernel
theorem dX5_hold_32 : decode cX5_hold 32 = .ok (.iconst 2, 1) := by decide +kernel
theorem dX5_hold_33 : decode cX5_hold 33 = .ok (.invokevirtual 160, 3) := by decide +kernel
theorem dX5_hold_36 : decode cX5_hold 36 = .ok (.aload_n 0, 1) := by decide +kernel
theorem dX5_hold_37 : decode cX5_hold 37 = .ok (.iconst 2, 1) := by decide +kernel
theorem dX5_hold_38 : decode cX5_hold 38 = .ok (.invokevirtual 147, 3) := by decide +kernel
theorem dX5_hold_41 : decode cX5_hold 41 = .ok (.ireturn, 1) := by decide +kernel
theorem dX5_release_0 : decode cX5_release 0 = .ok (.aload_n 0, 1) := by decide +kernel
theorem dX5_release_1 : decode cX5_release 1 = .ok (.iconst 0, 1) := by decide +kernel
theorem dX5_release_2 : decode cX5_release 2 = .ok (.putfield 51, 3) := by decide +kernel
theorem dX5_release_5 : decode cX5_release 5 = .ok (.aload_n 0, 1) := by decide +kernel
theorem dX5_release_6 : decode cX5_release 6 = .ok (.getfield 166, 3) := by decide +kernel
theorem dX5_release_9 : decode cX5_release 9 = .ok (.istore_n 1, 1) := by decide +kernel
theorem dX5_release_10 : decode cX5_release 10 = .ok (.aload_n 0, 1) := by decide +kernel
theorem dX5_release_11 : decode cX5_release 11 = .ok (.iconst 0, 1) := by decide +kernel
theorem dX5_release_12 : decode cX5_release 12 = .ok (.putfield 166, 3) := by decide +kernel
theorem dX5_release_15 : decode cX5_release 15 = .ok (.aload_n 0, 1) := by decide +kernel
theorem dX5_release_16 : decode cX5_release 16 = .ok (.iconst 2, 1) := by decide +kernel
theorem dX5_release_17 : decode cX5_release 17 = .ok (.invokevirtual 170, 3) := by decide +kernel
theorem dX5_release_20 : decode cX5_release 20 = .ok (.aload_n 0, 1) := by decide +kernel
theorem dX5_release_21 : decode cX5_release 21 = .ok (.invokevirtual 150, 3) := by decide +kernel
theorem dX5_release_24 : decode cX5_release 24 = .ok (.iload_n 1, 1) := by decide +kernel
theorem dX5_release_25 : decode cX5_release 25 = .ok (.ireturn, 1) := by decide +kernel
theorem dX5_patience_0 : decode cX5_patience 0 = .ok (.aload_n 0, 1) := by decide +kernel
theorem dX5_patience_1 : decode cX5_patience 1 = .ok (.iload_n 1, 1) := by decide +kernel
theorem dX5_patience_2 : decode cX5_patience 2 = .ok (.ifCond .lt 10, 3) := by decide +kernel
theorem dX5_patience_5 : decode cX5_patience 5 = .ok (.iload_n 1, 1) := by decide +kernel
theorem dX5_patience_6 : decode cX5_patience 6 = .ok (.sipush 1000, 3) := by decide +kernel
theorem dX5_patience_9 : decode cX5_patience 9 = .ok (.if_icmp .le 7, 3) := by decide +kernel
theorem dX5_patience_12 : decode cX5_patience 12 = .ok (.iconst 1, 1) := by decide +kernel
theorem dX5_patience_13 : decode cX5_patience 13 = .ok (.goto 4, 3) := by decide +kernel
theorem dX5_patience_16 : decode cX5_patience 16 = .ok (.iconst 0, 1) := by decide +kernel
theorem dX5_patience_17 : decode cX5_patience 17 = .ok (.putfield 51, 3) := by decide +kernel
theorem dX5_patience_20 : decode cX5_patience 20 = .ok (.aload_n 0, 1) := by decide +kernel
theorem dX5_patience_21 : decode cX5_patience 21 = .ok (.getfield 51, 3) := by decide +kernel
theorem dX5_patience_24 : decode cX5_patience 24 = .ok (.ifCond .le 5, 3) := by decide +kernel
theorem dX5_patience_27 : decode cX5_patience 27 = .ok (.iconst 0, 1) := by decide +kernel
theorem dX5_patience_28 : decode cX5_patience 28 = .ok (.ireturn, 1) := by decide +kernel
theorem dX5_patience_29 : decode cX5_patience 29 = .ok (.aload_n 0, 1) := by decide +kernel
theorem dX5_patience_30 : decode cX5_patience 30 = .ok (.getfield 135, 3) := by decide +kernel
theorem dX5_patience_33 : decode cX5_patience 33 = .ok (.istore_n 2, 1) := by decide +kernel
theorem dX5_patience_34 : decode cX5_patience 34 = .ok (.aload_n 0, 1) := by decide +kernel
theorem dX5_patience_35 : decode cX5_patience 35 = .ok (.iload_n 1, 1) := by decide +kernel
theorem dX5_patience_36 : decode cX5_patience 36 = .ok (.putfield 135, 3) := by decide +kernel
theorem dX5_patience_39 : decode cX5_patience 39 = .ok (.iload_n 2, 1) := by decide +kernel
theorem dX5_patience_40 : decode cX5_patience 40 = .ok (.ireturn, 1) := by decide +kernel
theorem dX5_alarm_0 : decode cX5_alarm 0 = .ok (.aload_n 0, 1) := by decide +kernel
theorem dX5_alarm_1 : decode cX5_alarm 1 = .ok (.iload_n 1, 1) := by decide +kernel
theorem dX5_alarm_2 : decode cX5_alarm 2 = .ok (.ifCond .lt 9, 3) := by decide +kernel
theorem dX5_alarm_5 : decode cX5_alarm 5 = .ok (.iload_n 1, 1) := by decide +kernel
theorem dX5_alarm_6 : decode cX5_alarm 6 = .ok (.bipush 96, 2) := by decide +kernel
theorem dX5_alarm_8 : decode cX5_alarm 8 = .ok (.if_icmp .le 7, 3) := by decide +kernel
theorem dX5_alarm_11 : decode cX5_alarm 11 = .ok (.iconst 1, 1) := by decide +kernel
theorem dX5_alarm_12 : decode cX5_alarm 12 = .ok (.goto 4, 3) := by decide +kernel
theorem dX5_alarm_15 : decode cX5_alarm 15 = .ok (.iconst 0, 1) := by decide +kernel
theorem dX5_alarm_16 : decode cX5_alarm 16 = .ok (.putfield 51, 3) := by decide +kernel
theorem dX5_alarm_19 : decode cX5_alarm 19 = .ok (.aload_n 0, 1) := by decide +kernel
theorem dX5_alarm_20 : decode cX5_alarm 20 = .ok (.getfield 51, 3) := by decide +kernel
theorem dX5_alarm_23 : decode cX5_alarm 23 = .ok (.ifCond .le 5, 3) := by decide +kernel
theorem dX5_alarm_26 : decode cX5_alarm 26 = .ok (.iconst 0, 1) := by decide +kernel
theorem dX5_alarm_27 : decode cX5_alarm 27 = .ok (.ireturn, 1) := by decide +kernel
theorem dX5_alarm_28 : decode cX5_alarm 28 = .ok (.aload_n 0, 1) := by decide +kernel
theorem dX5_alarm_29 : decode cX5_alarm 29 = .ok (.getfield 96, 3) := by decide +kernel
theorem dX5_alarm_32 : decode cX5_alarm 32 = .ok (.istore_n 2, 1) := by decide +kernel
theorem dX5_alarm_33 : decode cX5_alarm 33 = .ok (.aload_n 0, 1) := by decide +kernel
theorem dX5_alarm_34 : decode cX5_alarm 34 = .ok (.iload_n 1, 1) := by decide +kernel
theorem dX5_alarm_35 : decode cX5_alarm 35 = .ok (.putfield 96, 3) := by decide +kernel
theorem dX5_alarm_38 : decode cX5_alarm 38 = .ok (.iload_n 2, 1) := by decide +kernel
theorem dX5_alarm_39 : decode cX5_alarm 39 = .ok (.ireturn, 1) := by decide +kernel
theorem dX5_tick_0 : decode cX5_tick 0 = .ok (.aload_n 0, 1) := by decide +kernel
theorem dX5_tick_1 : decode cX5_tick 1 = .ok (.iload_n 1, 1) := by decide +kernel
theorem dX5_tick_2 : decode cX5_tick 2 = .ok (.ifCond .lt 10, 3) := by decide +kernel
theorem dX5_tick_5 : decode cX5_tick 5 = .ok (.iload_n 1, 1) := by decide +kernel
theorem dX5_tick_6 : decode cX5_tick 6 = .ok (.sipush 10000, 3) := by decide +kernel
theorem dX5_tick_9 : decode cX5_tick 9 = .ok (.if_icmp .le 7, 3) := by decide +kernel
theorem dX5_tick_12 : decode cX5_tick 12 = .ok (.iconst 1, 1) := by decide +kernel
theorem dX5_tick_13 : decode cX5_tick 13 = .ok (.goto 4, 3) := by decide +kernel
theorem dX5_tick_16 : decode cX5_tick 16 = .ok (.iconst 0, 1) := by decide +kernel
theorem dX5_tick_17 : decode cX5_tick 17 = .ok (.putfield 51, 3) := by decide +kernel
theorem dX5_tick_20 : decode cX5_tick 20 = .ok (.aload_n 0, 1) := by decide +kernel
theorem dX5_tick_21 : decode cX5_tick 21 = .ok (.getfield 51, 3) := by decide +kernel
theorem dX5_tick_24 : decode cX5_tick 24 = .ok (.ifCond .le 5, 3) := by decide +kernel
theorem dX5_tick_27 : decode cX5_tick 27 = .ok (.iconst 0, 1) := by decide +kernel
theorem dX5_tick_28 : decode cX5_tick 28 = .ok (.ireturn, 1) := by decide +kernel
theorem dX5_tick_29 : decode cX5_tick 29 = .ok (.aload_n 0, 1) := by decide +kernel
theorem dX5_tick_30 : decode cX5_tick 30 = .ok (.dup, 1) := by decide +kernel
theorem dX5_tick_31 : decode cX5_tick 31 = .ok (.getfield 173, 3) := by decide +kernel
theorem dX5_tick_34 : decode cX5_tick 34 = .ok (.iload_n 1, 1) := by decide +kernel
theorem dX5_tick_35 : decode cX5_tick 35 = .ok (.iadd, 1) := by decide +kernel
theorem dX5_tick_36 : decode cX5_tick 36 = .ok (.putfield 173, 3) := by decide +kernel
theorem dX5_tick_39 : decode cX5_tick 39 = .ok (.aload_n 0, 1) := by decide +kernel
theorem dX5_tick_40 : decode cX5_tick 40 = .ok (.dup, 1) := by decide +kernel
theorem dX5_tick_41 : decode cX5_tick 41 = .ok (.getfield 141, 3) := by decide +kernel
theorem dX5_tick_44 : decode cX5_tick 44 = .ok (.aload_n 0, 1) := by decide +kernel
theorem dX5_tick_45 : decode cX5_tick 45 = .ok (.getfield 110, 3) := by decide +kernel
theorem dX5_tick_48 : decode cX5_tick 48 = .ok (.iconst 1, 1) := by decide +kernel
theorem dX5_tick_49 : decode cX5_tick 49 = .ok (.if_icmp .ne 7, 3) := by decide +kernel
theorem dX5_tick_52 : decode cX5_tick 52 = .ok (.iload_n 1, 1) := by decide +kernel
theorem dX5_tick_53 : decode cX5_tick 53 = .ok (.goto 4, 3) := by decide +kernel
theorem dX5_tick_56 : decode cX5_tick 56 = .ok (.iconst 0, 1) := by decide +kernel
theorem dX5_tick_57 : decode cX5_tick 57 = .ok (.iadd, 1) := by decide +kernel
theorem dX5_tick_58 : decode cX5_tick 58 = .ok (.putfield 141, 3) := by decide +kernel
theorem dX5_tick_61 : decode cX5_tick 61 = .ok (.aload_n 0, 1) := by decide +kernel
theorem dX5_tick_62 : decode cX5_tick 62 = .ok (.getfield 110, 3) := by decide +kernel
theorem dX5_tick_65 : decode cX5_tick 65 = .ok (.iconst 1, 1) := by decide +kernel
theorem dX5_tick_66 : decode cX5_tick 66 = .ok (.if_icmp .ne 14, 3) := by decide +kernel
theorem dX5_tick_69 : decode cX5_tick 69 = .ok (.aload_n 0, 1) := by decide +kernel
theorem dX5_tick_70 : decode cX5_tick 70 = .ok (.getfield 141, 3) := by decide +kernel
theorem dX5_tick_73 : decode cX5_tick 73 = .ok (.aload_n 0, 1) := by decide +kernel
theorem dX5_tick_74 : decode cX5_tick 74 = .ok (.getfield 138, 3) := by decide +kernel
theorem dX5_tick_77 : decode cX5_tick 77 = .ok (.if_icmp .ge 5, 3) := by decide +kernel
theorem dX5_tick_80 : decode cX5_tick 80 = .ok (.iconst 0, 1) := by decide +kernel
theorem dX5_tick_81 : decode cX5_tick 81 = .ok (.ireturn, 1) := by decide +kernel
theorem dX5_tick_82 : decode cX5_tick 82 = .ok (.aload_n 0, 1) := by decide +kernel
theorem dX5_tick_83 : decode cX5_tick 83 = .ok (.getfield 107, 3) := by decide +kernel
theorem dX5_tick_86 : decode cX5_tick 86 = .ok (.istore_n 2, 1) := by decide +kernel
theorem dX5_tick_87 : decode cX5_tick 87 = .ok (.aload_n 0, 1) := by decide +kernel
theorem dX5_tick_88 : decode cX5_tick 88 = .ok (.dup, 1) := by decide +kernel
theorem dX5_tick_89 : decode cX5_tick 89 = .ok (.getfield 116, 3) := by decide +kernel
theorem dX5_tick_92 : decode cX5_tick 92 = .ok (.iload_n 2, 1) := by decide +kernel
theorem dX5_tick_93 : decode cX5_tick 93 = .ok (.iadd, 1) := by decide +kernel
theorem dX5_tick_94 : decode cX5_tick 94 = .ok (.putfield 116, 3) := by decide +kernel
theorem dX5_tick_97 : decode cX5_tick 97 = .ok (.aload_n 0, 1) := by decide +kernel
theorem dX5_tick_98 : decode cX5_tick 98 = .ok (.iconst 0, 1) := by decide +kernel
theorem dX5_tick_99 : decode cX5_tick 99 = .ok (.putfield 107, 3) := by decide +kernel
theorem dX5_tick_102 : decode cX5_tick 102 = .ok (.aload_n 0, 1) := by decide +kernel
theorem dX5_tick_103 : decode cX5_tick 103 = .ok (.iconst 2, 1) := by decide +kernel
theorem dX5_tick_104 : decode cX5_tick 104 = .ok (.putfield 110, 3) := by decide +kernel
theorem dX5_tick_107 : decode cX5_tick 107 = .ok (.iload_n 2, 1) := by decide +kernel
theorem dX5_tick_108 : decode cX5_tick 108 = .ok (.ireturn, 1) := by decide +kernel
theorem dX5_map_0 : decode cX5_map 0 = .ok (.aload_n 0, 1) := by decide +kernel
theorem dX5_map_1 : decode cX5_map 1 = .ok (.iload_n 1, 1) := by decide +kernel
theorem dX5_map_2 : decode cX5_map 2 = .ok (.ifCond .lt 8, 3) := by decide +kernel
theorem dX5_map_5 : decode cX5_map 5 = .ok (.iload_n 1, 1) := by decide +kernel
theorem dX5_map_6 : decode cX5_map 6 = .ok (.iconst 2, 1) := by decide +kernel
theorem dX5_map_7 : decode cX5_map 7 = .ok (.if_icmp .le 7, 3) := by decide +kernel
theorem dX5_map_10 : decode cX5_map 10 = .ok (.iconst 1, 1) := by decide +kernel
theorem dX5_map_11 : decode cX5_map 11 = .ok (.goto 25, 3) := by decide +kernel
theorem dX5_map_14 : decode cX5_map 14 = .ok (.iload_n 2, 1) := by decide +kernel
theorem dX5_map_15 : decode cX5_map 15 = .ok (.invokestatic 54, 3) := by decide +kernel
theorem dX5_map_18 : decode cX5_map 18 = .ok (.ifCond .eq 13, 3) := by decide +kernel
theorem dX5_map_21 : decode cX5_map 21 = .ok (.iload_n 3, 1) := by decide +kernel
theorem dX5_map_22 : decode cX5_map 22 = .ok (.ifCond .lt 9, 3) := by decide +kernel
theorem dX5_map_25 : decode cX5_map 25 = .ok (.iload_n 3, 1) := by decide +kernel
theorem dX5_map_26 : decode cX5_map 26 = .ok (.bipush 40, 2) := by decide +kernel
theorem dX5_map_28 : decode cX5_map 28 = .ok (.if_icmp .lt 7, 3) := by decide +kernel
theorem dX5_map_31 : decode cX5_map 31 = .ok (.iconst 2, 1) := by decide +kernel
theorem dX5_map_32 : decode cX5_map 32 = .ok (.goto 4, 3) := by decide +kernel
theorem dX5_map_35 : decode cX5_map 35 = .ok (.iconst 0, 1) := by decide +kernel
theorem dX5_map_36 : decode cX5_map 36 = .ok (.putfield 51, 3) := by decide +kernel
theorem dX5_map_39 : decode cX5_map 39 = .ok (.aload_n 0, 1) := by decide +kernel
theorem dX5_map_40 : decode cX5_map 40 = .ok (.getfield 51, 3) := by decide +kernel
theorem dX5_map_43 : decode cX5_map 43 = .ok (.ifCond .le 7, 3) := by decide +kernel
theorem dX5_map_46 : decode cX5_map 46 = .ok (.iconst 0, 1) := by decide +kernel
theorem dX5_map_47 : decode cX5_map 47 = .ok (.goto 32, 3) := by decide +kernel
theorem dX5_map_50 : decode cX5_map 50 = .ok (.aload_n 0, 1) := by decide +kernel
theorem dX5_map_51 : decode cX5_map 51 = .ok (.getfield 7, 3) := by decide +kernel
theorem dX5_map_54 : decode cX5_map 54 = .ok (.bipush 16, 2) := by decide +kernel
theorem dX5_map_56 : decode cX5_map 56 = .ok (.iload_n 1, 1) := by decide +kernel
theorem dX5_map_57 : decode cX5_map 57 = .ok (.imul, 1) := by decide +kernel
theorem dX5_map_58 : decode cX5_map 58 = .ok (.iload_n 2, 1) := by decide +kernel
theorem dX5_map_59 : decode cX5_map 59 = .ok (.iadd, 1) := by decide +kernel
theorem dX5_map_60 : decode cX5_map 60 = .ok (.baload, 1) := by decide +kernel
theorem dX5_map_61 : decode cX5_map 61 = .ok (.ifCond .eq 17, 3) := by decide +kernel
theorem dX5_map_64 : decode cX5_map 64 = .ok (.aload_n 0, 1) := by decide +kernel
theorem dX5_map_65 : decode cX5_map 65 = .ok (.getfield 26, 3) := by decide +kernel
theorem dX5_map_68 : decode cX5_map 68 = .ok (.iload_n 1, 1) := by decide +kernel
theorem dX5_map_69 : decode cX5_map 69 = .ok (.iload_n 2, 1) := by decide +kernel
theorem dX5_map_70 : decode cX5_map 70 = .ok (.iload_n 3, 1) := by decide +kernel
theorem dX5_map_71 : decode cX5_map 71 = .ok (.invokestatic 58, 3) := by decide +kernel
theorem dX5_map_74 : decode cX5_map 74 = .ok (.iaload, 1) := by decide +kernel
theorem dX5_map_75 : decode cX5_map 75 = .ok (.goto 4, 3) := by decide +kernel
theorem dX5_map_78 : decode cX5_map 78 = .ok (.iconst (-1), 1) := by decide +kernel
theorem dX5_map_79 : decode cX5_map 79 = .ok (.ireturn, 1) := by decide +kernel
theorem dX5_volume_0 : decode cX5_volume 0 = .ok (.aload_n 0, 1) := by decide +kernel
theorem dX5_volume_1 : decode cX5_volume 1 = .ok (.aload_n 0, 1) := by decide +kernel
theorem dX5_volume_2 : decode cX5_volume 2 = .ok (.iload_n 1, 1) := by decide +kernel
theorem dX5_volume_3 : decode cX5_volume 3 = .ok (.invokevirtual 126, 3) := by decide +kernel
theorem dX5_volume_6 : decode cX5_volume 6 = .ok (.ifCond .eq 13, 3) := by decide +kernel
theorem dX5_volume_9 : decode cX5_volume 9 = .ok (.iload_n 2, 1) := by decide +kernel
theorem dX5_volume_10 : decode cX5_volume 10 = .ok (.ifCond .lt 9, 3) := by decide +kernel
theorem dX5_volume_13 : decode cX5_volume 13 = .ok (.iload_n 2, 1) := by decide +kernel
theorem dX5_volume_14 : decode cX5_volume 14 = .ok (.bipush 7, 2) := by decide +kernel
theorem dX5_volume_16 : decode cX5_volume 16 = .ok (.if_icmp .le 7, 3) := by decide +kernel
theorem dX5_volume_19 : decode cX5_volume 19 = .ok (.iconst 1, 1) := by decide +kernel
theorem dX5_volume_20 : decode cX5_volume 20 = .ok (.goto 4, 3) := by decide +kernel
theorem dX5_volume_23 : decode cX5_volume 23 = .ok (.iconst 0, 1) := by decide +kernel
theorem dX5_volume_24 : decode cX5_volume 24 = .ok (.putfield 51, 3) := by decide +kernel
theorem dX5_volume_27 : decode cX5_volume 27 = .ok (.aload_n 0, 1) := by decide +kernel
theorem dX5_volume_28 : decode cX5_volume 28 = .ok (.getfield 51, 3) := by decide +kernel
theorem dX5_volume_31 : decode cX5_volume 31 = .ok (.ifCond .le 5, 3) := by decide +kernel
theorem dX5_volume_34 : decode cX5_volume 34 = .ok (.iconst 0, 1) := by decide +kernel
theorem dX5_volume_35 : decode cX5_volume 35 = .ok (.ireturn, 1) := by decide +kernel
theorem dX5_volume_36 : decode cX5_volume 36 = .ok (.iconst (-1), 1) := by decide +kernel
theorem dX5_volume_37 : decode cX5_volume 37 = .ok (.istore_n 3, 1) := by decide +kernel
theorem dX5_volume_38 : decode cX5_volume 38 = .ok (.iconst 0, 1) := by decide +kernel
theorem dX5_volume_39 : decode cX5_volume 39 = .ok (.istore 4, 2) := by decide +kernel
theorem dX5_volume_41 : decode cX5_volume 41 = .ok (.iconst 0, 1) := by decide +kernel
theorem dX5_volume_42 : decode cX5_volume 42 = .ok (.istore 5, 2) := by decide +kernel
theorem dX5_volume_44 : decode cX5_volume 44 = .ok (.iconst 0, 1) := by decide +kernel
theorem dX5_volume_45 : decode cX5_volume 45 = .ok (.istore 6, 2) := by decide +kernel
theorem dX5_volume_47 : decode cX5_volume 47 = .ok (.iload 6, 2) := by decide +kernel
theorem dX5_volume_49 : decode cX5_volume 49 = .ok (.bipush 40, 2) := by decide +kernel
theorem dX5_volume_51 : decode cX5_volume 51 = .ok (.if_icmp .ge 61, 3) := by decide +kernel
theorem dX5_volume_54 : decode cX5_volume 54 = .ok (.aload_n 0, 1) := by decide +kernel
theorem dX5_volume_55 : decode cX5_volume 55 = .ok (.getfield 26, 3) := by decide +kernel
theorem dX5_volume_58 : decode cX5_volume 58 = .ok (.iconst 0, 1) := by decide +kernel
theorem dX5_volume_59 : decode cX5_volume 59 = .ok (.iload_n 1, 1) := by decide +kernel
theorem dX5_volume_60 : decode cX5_volume 60 = .ok (.iload 6, 2) := by decide +kernel
theorem dX5_volume_62 : decode cX5_volume 62 = .ok (.invokestatic 58, 3) := by decide +kernel
theorem dX5_volume_65 : decode cX5_volume 65 = .ok (.iaload, 1) := by decide +kernel
theorem dX5_volume_66 : decode cX5_volume 66 = .ok (.istore 7, 2) := by decide +kernel
theorem dX5_volume_68 : decode cX5_volume 68 = .ok (.iload 7, 2) := by decide +kernel
theorem dX5_volume_70 : decode cX5_volume 70 = .ok (.iconst (-1), 1) := by decide +kernel
theorem dX5_volume_71 : decode cX5_volume 71 = .ok (.if_icmp .eq 8, 3) := by decide +kernel
theorem dX5_volume_74 : decode cX5_volume 74 = .ok (.iload 6, 2) := by decide +kernel
theorem dX5_volume_76 : decode cX5_volume 76 = .ok (.goto 4, 3) := by decide +kernel
theorem dX5_volume_79 : decode cX5_volume 79 = .ok (.iload_n 3, 1) := by decide +kernel
theorem dX5_volume_80 : decode cX5_volume 80 = .ok (.istore_n 3, 1) := by decide +kernel
theorem dX5_volume_81 : decode cX5_volume 81 = .ok (.iload 4, 2) := by decide +kernel
theorem dX5_volume_83 : decode cX5_volume 83 = .ok (.iload 7, 2) := by decide +kernel
theorem dX5_volume_85 : decode cX5_volume 85 = .ok (.iconst (-1), 1) := by decide +kernel
theorem dX5_volume_86 : decode cX5_volume 86 = .ok (.if_icmp .eq 16, 3) := by decide +kernel
theorem dX5_volume_89 : decode cX5_volume 89 = .ok (.aload_n 0, 1) := by decide +kernel
theorem dX5_volume_90 : decode cX5_volume 90 = .ok (.iload 7, 2) := by decide +kernel
theorem dX5_volume_92 : decode cX5_volume 92 = .ok (.invokevirtual 73, 3) := by decide +kernel
theorem dX5_volume_95 : decode cX5_volume 95 = .ok (.ifCond .ne 7, 3) := by decide +kernel
theorem dX5_volume_98 : decode cX5_volume 98 = .ok (.iconst 1, 1) := by decide +kernel
theorem dX5_volume_99 : decode cX5_volume 99 = .ok (.goto 4, 3) := by decide +kernel
theorem dX5_volume_102 : decode cX5_volume 102 = .ok (.iconst 0, 1) := by decide +kernel
theorem dX5_volume_103 : decode cX5_volume 103 = .ok (.iadd, 1) := by decide +kernel
theorem dX5_volume_104 : decode cX5_volume 104 = .ok (.istore 4, 2) := by decide +kernel
theorem dX5_volume_106 : decode cX5_volume 106 = .ok (.iinc 6 1, 3) := by decide +kernel
theorem dX5_volume_109 : decode cX5_volume 109 = .ok (.goto (-62), 3) := by decide +kernel
theorem dX5_volume_112 : decode cX5_volume 112 = .ok (.iconst 0, 1) := by decide +kernel
theorem dX5_volume_113 : decode cX5_volume 113 = .ok (.istore 6, 2) := by decide +kernel
theorem dX5_volume_115 : decode cX5_volume 115 = .ok (.iload 6, 2) := by decide +kernel
theorem dX5_volume_117 : decode cX5_volume 117 = .ok (.aload_n 0, 1) := by decide +kernel
theorem dX5_volume_118 : decode cX5_volume 118 = .ok (.getfield 107, 3) := by decide +kernel
theorem dX5_volume_121 : decode cX5_volume 121 = .ok (.if_icmp .ge 30, 3) := by decide +kernel
theorem dX5_volume_124 : decode cX5_volume 124 = .ok (.iload 5, 2) := by decide +kernel
theorem dX5_volume_126 : decode cX5_volume 126 = .ok (.aload_n 0, 1) := by decide +kernel
theorem dX5_volume_127 : decode cX5_volume 127 = .ok (.getfield 42, 3) := by decide +kernel
theorem dX5_volume_130 : decode cX5_volume 130 = .ok (.iload 6, 2) := by decide +kernel
theorem dX5_volume_132 : decode cX5_volume 132 = .ok (.iaload, 1) := by decide +kernel
theorem dX5_volume_133 : decode cX5_volume 133 = .ok (.iload_n 1, 1) := by decide +kernel
theorem dX5_volume_134 : decode cX5_volume 134 = .ok (.if_icmp .ne 7, 3) := by decide +kernel
theorem dX5_volume_137 : decode cX5_volume 137 = .ok (.iconst 1, 1) := by decide +kernel
theorem dX5_volume_138 : decode cX5_volume 138 = .ok (.goto 4, 3) := by decide +kernel
theorem dX5_volume_141 : decode cX5_volume 141 = .ok (.iconst 0, 1) := by decide +kernel
theorem dX5_volume_142 : decode cX5_volume 142 = .ok (.iadd, 1) := by decide +kernel
theorem dX5_volume_143 : decode cX5_volume 143 = .ok (.istore 5, 2) := by decide +kernel
theorem dX5_volume_145 : decode cX5_volume 145 = .ok (.iinc 6 1, 3) := by decide +kernel
theorem dX5_volume_148 : decode cX5_volume 148 = .ok (.goto (-33), 3) := by decide +kernel
theorem dX5_volume_151 : decode cX5_volume 151 = .ok (.iload_n 2, 1) := by decide +kernel
theorem dX5_volume_152 : decode cX5_volume 152 = .ok (.ifCond .ne 12, 3) := by decide +kernel
theorem dX5_volume_155 : decode cX5_volume 155 = .ok (.aload_n 0, 1) := by decide +kernel
theorem dX5_volume_156 : decode cX5_volume 156 = .ok (.getfield 13, 3) := by decide +kernel
theorem dX5_volume_159 : decode cX5_volume 159 = .ok (.iload_n 1, 1) := by decide +kernel
theorem dX5_volume_160 : decode cX5_volume 160 = .ok (.iaload, 1) := by decide +kernel
theorem dX5_volume_161 : decode cX5_volume 161 = .ok (.goto 88, 3) := by decide +kernel
theorem dX5_volume_164 : decode cX5_volume 164 = .ok (.iload_n 2, 1) := by decide +kernel
theorem dX5_volume_165 : decode cX5_volume 165 = .ok (.iconst 1, 1) := by decide +kernel
theorem dX5_volume_166 : decode cX5_volume 166 = .ok (.if_icmp .ne 11, 3) := by decide +kernel
theorem dX5_volume_169 : decode cX5_volume 169 = .ok (.aload_n 0, 1) := by decide +kernel
theorem dX5_volume_170 : decode cX5_volume 170 = .ok (.iload_n 1, 1) := by decide +kernel
theorem dX5_volume_171 : decode cX5_volume 171 = .ok (.invokevirtual 76, 3) := by decide +kernel
theorem dX5_volume_174 : decode cX5_volume 174 = .ok (.goto 75, 3) := by decide +kernel
theorem dX5_volume_177 : decode cX5_volume 177 = .ok (.iload_n 2, 1) := by decide +kernel
theorem dX5_volume_178 : decode cX5_volume 178 = .ok (.iconst 2, 1) := by decide +kernel
theorem dX5_volume_179 : decode cX5_volume 179 = .ok (.if_icmp .ne 7, 3) := by decide +kernel
theorem dX5_volume_182 : decode cX5_volume 182 = .ok (.iload_n 3, 1) := by decide +kernel
theorem dX5_volume_183 : decode cX5_volume 183 = .ok (.goto 66, 3) := by decide +kernel
theorem dX5_volume_186 : decode cX5_volume 186 = .ok (.iload_n 2, 1) := by decide +kernel
theorem dX5_volume_187 : decode cX5_volume 187 = .ok (.iconst 3, 1) := by decide +kernel
theorem dX5_volume_188 : decode cX5_volume 188 = .ok (.if_icmp .ne 8, 3) := by decide +kernel
theorem dX5_volume_191 : decode cX5_volume 191 = .ok (.iload 4, 2) := by decide +kernel
theorem dX5_volume_193 : decode cX5_volume 193 = .ok (.goto 56, 3) := by decide +kernel
theorem dX5_volume_196 : decode cX5_volume 196 = .ok (.iload_n 2, 1) := by decide +kernel
theorem dX5_volume_197 : decode cX5_volume 197 = .ok (.iconst 4, 1) := by decide +kernel
theorem dX5_volume_198 : decode cX5_volume 198 = .ok (.if_icmp .ne 12, 3) := by decide +kernel
theorem dX5_volume_201 : decode cX5_volume 201 = .ok (.aload_n 0, 1) := by decide +kernel
theorem dX5_volume_202 : decode cX5_volume 202 = .ok (.getfield 23, 3) := by decide +kernel
theorem dX5_volume_205 : decode cX5_volume 205 = .ok (.iload_n 1, 1) := by decide +kernel
theorem dX5_volume_206 : decode cX5_volume 206 = .ok (.iaload, 1) := by decide +kernel
theorem dX5_volume_207 : decode cX5_volume 207 = .ok (.goto 42, 3) := by decide +kernel
theorem dX5_volume_210 : decode cX5_volume 210 = .ok (.iload_n 2, 1) := by decide +kernel
theorem dX5_volume_211 : decode cX5_volume 211 = .ok (.iconst 5, 1) := by decide +kernel
theorem dX5_volume_212 : decode cX5_volume 212 = .ok (.if_icmp .ne 8, 3) := by decide +kernel
theorem dX5_volume_215 : decode cX5_volume 215 = .ok (.iload 5, 2) := by decide +kernel
theorem dX5_volume_217 : decode cX5_volume 217 = .ok (.goto 32, 3) := by decide +kernel
theorem dX5_volume_220 : decode cX5_volume 220 = .ok (.iload_n 2, 1) := by decide +kernel
theorem dX5_volume_221 : decode cX5_volume 221 = .ok (.bipush 6, 2) := by decide +kernel
theorem dX5_volume_223 : decode cX5_volume 223 = .ok (.if_icmp .ne 20, 3) := by decide +kernel
theorem dX5_volume_226 : decode cX5_volume 226 = .ok (.aload_n 0, 1) := by decide +kernel
theorem dX5_volume_227 : decode cX5_volume 227 = .ok (.getfield 17, 3) := by decide +kernel
theorem dX5_volume_230 : decode cX5_volume 230 = .ok (.iload_n 1, 1) := by decide +kernel
theorem dX5_volume_231 : decode cX5_volume 231 = .ok (.baload, 1) := by decide +kernel
theorem dX5_volume_232 : decode cX5_volume 232 = .ok (.ifCond .eq 7, 3) := by decide +kernel
theorem dX5_volume_235 : decode cX5_volume 235 = .ok (.iconst 1, 1) := by decide +kernel
theorem dX5_volume_236 : decode cX5_volume 236 = .ok (.goto 13, 3) := by decide +kernel
theorem dX5_volume_239 : decode cX5_volume 239 = .ok (.iconst 0, 1) := by decide +kernel
theorem dX5_volume_240 : decode cX5_volume 240 = .ok (.goto 9, 3) := by decide +kernel
theorem dX5_volume_243 : decode cX5_volume 243 = .ok (.aload_n 0, 1) := by decide +kernel
theorem dX5_volume_244 : decode cX5_volume 244 = .ok (.getfield 20, 3) := by decide +kernel
theorem dX5_volume_247 : decode cX5_volume 247 = .ok (.iload_n 1, 1) := by decide +kernel
theorem dX5_volume_248 : decode cX5_volume 248 = .ok (.iaload, 1) := by decide +kernel
theorem dX5_volume_249 : decode cX5_volume 249 = .ok (.ireturn, 1) := by decide +kernel
theorem dX5_sortAt_0 : decode cX5_sortAt 0 = .ok (.aload_n 0, 1) := by decide +kernel
theorem dX5_sortAt_1 : decode cX5_sortAt 1 = .ok (.getfield 26, 3) := by decide +kernel
theorem dX5_sortAt_4 : decode cX5_sortAt 4 = .ok (.iconst 0, 1) := by decide +kernel
theorem dX5_sortAt_5 : decode cX5_sortAt 5 = .ok (.iload_n 1, 1) := by decide +kernel
theorem dX5_sortAt_6 : decode cX5_sortAt 6 = .ok (.iload_n 3, 1) := by decide +kernel
theorem dX5_sortAt_7 : decode cX5_sortAt 7 = .ok (.invokestatic 58, 3) := by decide +kernel
theorem dX5_sortAt_10 : decode cX5_sortAt 10 = .ok (.iaload, 1) := by decide +kernel
theorem dX5_sortAt_11 : decode cX5_sortAt 11 = .ok (.istore 4, 2) := by decide +kernel
theorem dX5_sortAt_13 : decode cX5_sortAt 13 = .ok (.aload_n 0, 1) := by decide +kernel
theorem dX5_sortAt_14 : decode cX5_sortAt 14 = .ok (.getfield 26, 3) := by decide +kernel
theorem dX5_sortAt_17 : decode cX5_sortAt 17 = .ok (.iconst 0, 1) := by decide +kernel
theorem dX5_sortAt_18 : decode cX5_sortAt 18 = .ok (.iload_n 2, 1) := by decide +kernel
theorem dX5_sortAt_19 : decode cX5_sortAt 19 = .ok (.iload_n 3, 1) := by decide +kernel
theorem dX5_sortAt_20 : decode cX5_sortAt 20 = .ok (.invokestatic 58, 3) := by decide +kernel
theorem dX5_sortAt_23 : decode cX5_sortAt 23 = .ok (.iaload, 1) := by decide +kernel
theorem dX5_sortAt_24 : decode cX5_sortAt 24 = .ok (.istore 5, 2) := by decide +kernel
theorem dX5_sortAt_26 : decode cX5_sortAt 26 = .ok (.iload 4, 2) := by decide +kernel
theorem dX5_sortAt_28 : decode cX5_sortAt 28 = .ok (.iconst (-1), 1) := by decide +kernel
theorem dX5_sortAt_29 : decode cX5_sortAt 29 = .ok (.if_icmp .ne 17, 3) := by decide +kernel
theorem dX5_sortAt_32 : decode cX5_sortAt 32 = .ok (.iload 5, 2) := by decide +kernel
theorem dX5_sortAt_34 : decode cX5_sortAt 34 = .ok (.iconst (-1), 1) := by decide +kernel
theorem dX5_sortAt_35 : decode cX5_sortAt 35 = .ok (.if_icmp .ne 7, 3) := by decide +kernel
theorem dX5_sortAt_38 : decode cX5_sortAt 38 = .ok (.iconst (-1), 1) := by decide +kernel
theorem dX5_sortAt_39 : decode cX5_sortAt 39 = .ok (.goto 29, 3) := by decide +kernel
theorem dX5_sortAt_42 : decode cX5_sortAt 42 = .ok (.iconst 3, 1) := by decide +kernel
theorem dX5_sortAt_43 : decode cX5_sortAt 43 = .ok (.goto 25, 3) := by decide +kernel
theorem dX5_sortAt_46 : decode cX5_sortAt 46 = .ok (.iload 5, 2) := by decide +kernel
theorem dX5_sortAt_48 : decode cX5_sortAt 48 = .ok (.iconst (-1), 1) := by decide +kernel
theorem dX5_sortAt_49 : decode cX5_sortAt 49 = .ok (.if_icmp .ne 7, 3) := by decide +kernel
theorem dX5_sortAt_52 : decode cX5_sortAt 52 = .ok (.iconst 2, 1) := by decide +kernel
theorem dX5_sortAt_53 : decode cX5_sortAt 53 = .ok (.goto 15, 3) := by decide +kernel
theorem dX5_sortAt_56 : decode cX5_sortAt 56 = .ok (.iload 4, 2) := by decide +kernel
theorem dX5_sortAt_58 : decode cX5_sortAt 58 = .ok (.iload 5, 2) := by decide +kernel
theorem dX5_sortAt_60 : decode cX5_sortAt 60 = .ok (.if_icmp .ne 7, 3) := by decide +kernel
theorem dX5_sortAt_63 : decode cX5_sortAt 63 = .ok (.iconst 0, 1) := by decide +kernel
theorem dX5_sortAt_64 : decode cX5_sortAt 64 = .ok (.goto 4, 3) := by decide +kernel
theorem dX5_sortAt_67 : decode cX5_sortAt 67 = .ok (.iconst 1, 1) := by decide +kernel
theorem dX5_sortAt_68 : decode cX5_sortAt 68 = .ok (.ireturn, 1) := by decide +kernel
theorem dX5_differ_0 : decode cX5_differ 0 = .ok (.aload_n 0, 1) := by decide +kernel
theorem dX5_differ_1 : decode cX5_differ 1 = .ok (.aload_n 0, 1) := by decide +kernel
theorem dX5_differ_2 : decode cX5_differ 2 = .ok (.iload_n 1, 1) := by decide +kernel
theorem dX5_differ_3 : decode cX5_differ 3 = .ok (.invokevirtual 126, 3) := by decide +kernel
theorem dX5_differ_6 : decode cX5_differ 6 = .ok (.ifCond .eq 20, 3) := by decide +kernel
theorem dX5_differ_9 : decode cX5_differ 9 = .ok (.aload_n 0, 1) := by decide +kernel
theorem dX5_differ_10 : decode cX5_differ 10 = .ok (.iload_n 2, 1) := by decide +kernel
theorem dX5_differ_11 : decode cX5_differ 11 = .ok (.invokevirtual 126, 3) := by decide +kernel
theorem dX5_differ_14 : decode cX5_differ 14 = .ok (.ifCond .eq 12, 3) := by decide +kernel
theorem dX5_differ_17 : decode cX5_differ 17 = .ok (.iload_n 3, 1) := by decide +kernel
theorem dX5_differ_18 : decode cX5_differ 18 = .ok (.ifCond .lt 8, 3) := by decide +kernel
theorem dX5_differ_21 : decode cX5_differ 21 = .ok (.iload_n 3, 1) := by decide +kernel
theorem dX5_differ_22 : decode cX5_differ 22 = .ok (.iconst 4, 1) := by decide +kernel
theorem dX5_differ_23 : decode cX5_differ 23 = .ok (.if_icmp .le 7, 3) := by decide +kernel
theorem dX5_differ_26 : decode cX5_differ 26 = .ok (.iconst 1, 1) := by decide +kernel
theorem dX5_differ_27 : decode cX5_differ 27 = .ok (.goto 4, 3) := by decide +kernel
theorem dX5_differ_30 : decode cX5_differ 30 = .ok (.iconst 0, 1) := by decide +kernel
theorem dX5_differ_31 : decode cX5_differ 31 = .ok (.putfield 51, 3) := by decide +kernel
theorem dX5_differ_34 : decode cX5_differ 34 = .ok (.iconst 0, 1) := by decide +kernel
theorem dX5_differ_35 : decode cX5_differ 35 = .ok (.istore 4, 2) := by decide +kernel
theorem dX5_differ_37 : decode cX5_differ 37 = .ok (.iconst 0, 1) := by decide +kernel
theorem dX5_differ_38 : decode cX5_differ 38 = .ok (.istore 5, 2) := by decide +kernel
theorem dX5_differ_40 : decode cX5_differ 40 = .ok (.iload 5, 2) := by decide +kernel
theorem dX5_differ_42 : decode cX5_differ 42 = .ok (.bipush 40, 2) := by decide +kernel
theorem dX5_differ_44 : decode cX5_differ 44 = .ok (.if_icmp .ge 93, 3) := by decide +kernel
theorem dX5_differ_47 : decode cX5_differ 47 = .ok (.aload_n 0, 1) := by decide +kernel
theorem dX5_differ_48 : decode cX5_differ 48 = .ok (.getfield 51, 3) := by decide +kernel
theorem dX5_differ_51 : decode cX5_differ 51 = .ok (.ifCond .ne 86, 3) := by decide +kernel
theorem dX5_differ_54 : decode cX5_differ 54 = .ok (.aload_n 0, 1) := by decide +kernel
theorem dX5_differ_55 : decode cX5_differ 55 = .ok (.iload_n 1, 1) := by decide +kernel
theorem dX5_differ_56 : decode cX5_differ 56 = .ok (.iload_n 2, 1) := by decide +kernel
theorem dX5_differ_57 : decode cX5_differ 57 = .ok (.iload 5, 2) := by decide +kernel
theorem dX5_differ_59 : decode cX5_differ 59 = .ok (.invokevirtual 176, 3) := by decide +kernel
theorem dX5_differ_62 : decode cX5_differ 62 = .ok (.istore 6, 2) := by decide +kernel
theorem dX5_differ_64 : decode cX5_differ 64 = .ok (.iload 6, 2) := by decide +kernel
theorem dX5_differ_66 : decode cX5_differ 66 = .ok (.iconst (-1), 1) := by decide +kernel
theorem dX5_differ_67 : decode cX5_differ 67 = .ok (.if_icmp .eq 27, 3) := by decide +kernel
theorem dX5_differ_70 : decode cX5_differ 70 = .ok (.iload 5, 2) := by decide +kernel
theorem dX5_differ_72 : decode cX5_differ 72 = .ok (.ifCond .eq 18, 3) := by decide +kernel
theorem dX5_differ_75 : decode cX5_differ 75 = .ok (.aload_n 0, 1) := by decide +kernel
theorem dX5_differ_76 : decode cX5_differ 76 = .ok (.iload_n 1, 1) := by decide +kernel
theorem dX5_differ_77 : decode cX5_differ 77 = .ok (.iload_n 2, 1) := by decide +kernel
theorem dX5_differ_78 : decode cX5_differ 78 = .ok (.iload 5, 2) := by decide +kernel
theorem dX5_differ_80 : decode cX5_differ 80 = .ok (.iconst 1, 1) := by decide +kernel
theorem dX5_differ_81 : decode cX5_differ 81 = .ok (.isub, 1) := by decide +kernel
theorem dX5_differ_82 : decode cX5_differ 82 = .ok (.invokevirtual 176, 3) := by decide +kernel
theorem dX5_differ_85 : decode cX5_differ 85 = .ok (.iload 6, 2) := by decide +kernel
theorem dX5_differ_87 : decode cX5_differ 87 = .ok (.if_icmp .eq 7, 3) := by decide +kernel
theorem dX5_differ_90 : decode cX5_differ 90 = .ok (.iconst 1, 1) := by decide +kernel
theorem dX5_differ_91 : decode cX5_differ 91 = .ok (.goto 4, 3) := by decide +kernel
theorem dX5_differ_94 : decode cX5_differ 94 = .ok (.iconst 0, 1) := by decide +kernel
theorem dX5_differ_95 : decode cX5_differ 95 = .ok (.istore 7, 2) := by decide +kernel
theorem dX5_differ_97 : decode cX5_differ 97 = .ok (.iload 4, 2) := by decide +kernel
theorem dX5_differ_99 : decode cX5_differ 99 = .ok (.iload_n 3, 1) := by decide +kernel
theorem dX5_differ_100 : decode cX5_differ 100 = .ok (.iconst 4, 1) := by decide +kernel
theorem dX5_differ_101 : decode cX5_differ 101 = .ok (.if_icmp .ne 16, 3) := by decide +kernel
theorem dX5_differ_104 : decode cX5_differ 104 = .ok (.iload 7, 2) := by decide +kernel
theorem dX5_differ_106 : decode cX5_differ 106 = .ok (.ifCond .eq 7, 3) := by decide +kernel
theorem dX5_differ_109 : decode cX5_differ 109 = .ok (.iconst 1, 1) := by decide +kernel
theorem dX5_differ_110 : decode cX5_differ 110 = .ok (.goto 18, 3) := by decide +kernel
theorem dX5_differ_113 : decode cX5_differ 113 = .ok (.iconst 0, 1) := by decide +kernel
theorem dX5_differ_114 : decode cX5_differ 114 = .ok (.goto 14, 3) := by decide +kernel
theorem dX5_differ_117 : decode cX5_differ 117 = .ok (.iload 6, 2) := by decide +kernel
theorem dX5_differ_119 : decode cX5_differ 119 = .ok (.iload_n 3, 1) := by decide +kernel
theorem dX5_differ_120 : decode cX5_differ 120 = .ok (.if_icmp .ne 7, 3) := by decide +kernel
theorem dX5_differ_123 : decode cX5_differ 123 = .ok (.iconst 1, 1) := by decide +kernel
theorem dX5_differ_124 : decode cX5_differ 124 = .ok (.goto 4, 3) := by decide +kernel
theorem dX5_differ_127 : decode cX5_differ 127 = .ok (.iconst 0, 1) := by decide +kernel
theorem dX5_differ_128 : decode cX5_differ 128 = .ok (.iadd, 1) := by decide +kernel
theorem dX5_differ_129 : decode cX5_differ 129 = .ok (.istore 4, 2) := by decide +kernel
theorem dX5_differ_131 : decode cX5_differ 131 = .ok (.iinc 5 1, 3) := by decide +kernel
theorem dX5_differ_134 : decode cX5_differ 134 = .ok (.goto (-94), 3) := by decide +kernel
theorem dX5_differ_137 : decode cX5_differ 137 = .ok (.iload 4, 2) := by decide +kernel
theorem dX5_differ_139 : decode cX5_differ 139 = .ok (.ireturn, 1) := by decide +kernel
theorem dX5_users_0 : decode cX5_users 0 = .ok (.aload_n 0, 1) := by decide +kernel
theorem dX5_users_1 : decode cX5_users 1 = .ok (.iload_n 1, 1) := by decide +kernel
theorem dX5_users_2 : decode cX5_users 2 = .ok (.ifCond .lt 11, 3) := by decide +kernel
theorem dX5_users_5 : decode cX5_users 5 = .ok (.iload_n 1, 1) := by decide +kernel
theorem dX5_users_6 : decode cX5_users 6 = .ok (.aload_n 0, 1) := by decide +kernel
theorem dX5_users_7 : decode cX5_users 7 = .ok (.getfield 32, 3) := by decide +kernel
theorem dX5_users_10 : decode cX5_users 10 = .ok (.if_icmp .lt 7, 3) := by decide +kernel
theorem dX5_users_13 : decode cX5_users 13 = .ok (.iconst 1, 1) := by decide +kernel
theorem dX5_users_14 : decode cX5_users 14 = .ok (.goto 4, 3) := by decide +kernel
theorem dX5_users_17 : decode cX5_users 17 = .ok (.iconst 0, 1) := by decide +kernel
theorem dX5_users_18 : decode cX5_users 18 = .ok (.putfield 51, 3) := by decide +kernel
theorem dX5_users_21 : decode cX5_users 21 = .ok (.aload_n 0, 1) := by decide +kernel
theorem dX5_users_22 : decode cX5_users 22 = .ok (.getfield 51, 3) := by decide +kernel
theorem dX5_users_25 : decode cX5_users 25 = .ok (.ifCond .ne 12, 3) := by decide +kernel
theorem dX5_users_28 : decode cX5_users 28 = .ok (.aload_n 0, 1) := by decide +kernel
theorem dX5_users_29 : decode cX5_users 29 = .ok (.iconst 0, 1) := by decide +kernel
theorem dX5_users_30 : decode cX5_users 30 = .ok (.iload_n 1, 1) := by decide +kernel
theorem dX5_users_31 : decode cX5_users 31 = .ok (.invokevirtual 62, 3) := by decide +kernel
theorem dX5_users_34 : decode cX5_users 34 = .ok (.goto 4, 3) := by decide +kernel
theorem dX5_users_37 : decode cX5_users 37 = .ok (.iconst 0, 1) := by decide +kernel
theorem dX5_users_38 : decode cX5_users 38 = .ok (.ireturn, 1) := by decide +kernel
theorem dX5_user_0 : decode cX5_user 0 = .ok (.aload_n 0, 1) := by decide +kernel
theorem dX5_user_1 : decode cX5_user 1 = .ok (.iload_n 1, 1) := by decide +kernel
theorem dX5_user_2 : decode cX5_user 2 = .ok (.ifCond .lt 11, 3) := by decide +kernel
theorem dX5_user_5 : decode cX5_user 5 = .ok (.iload_n 1, 1) := by decide +kernel
theorem dX5_user_6 : decode cX5_user 6 = .ok (.aload_n 0, 1) := by decide +kernel
theorem dX5_user_7 : decode cX5_user 7 = .ok (.getfield 32, 3) := by decide +kernel
theorem dX5_user_10 : decode cX5_user 10 = .ok (.if_icmp .lt 7, 3) := by decide +kernel
theorem dX5_user_13 : decode cX5_user 13 = .ok (.iconst 1, 1) := by decide +kernel
theorem dX5_user_14 : decode cX5_user 14 = .ok (.goto 4, 3) := by decide +kernel
theorem dX5_user_17 : decode cX5_user 17 = .ok (.iconst 0, 1) := by decide +kernel
theorem dX5_user_18 : decode cX5_user 18 = .ok (.putfield 51, 3) := by decide +kernel
theorem dX5_user_21 : decode cX5_user 21 = .ok (.iconst 0, 1) := by decide +kernel
theorem dX5_user_22 : decode cX5_user 22 = .ok (.istore_n 3, 1) := by decide +kernel
theorem dX5_user_23 : decode cX5_user 23 = .ok (.iconst 0, 1) := by decide +kernel
theorem dX5_user_24 : decode cX5_user 24 = .ok (.istore 4, 2) := by decide +kernel
theorem dX5_user_26 : decode cX5_user 26 = .ok (.iload 4, 2) := by decide +kernel
theorem dX5_user_28 : decode cX5_user 28 = .ok (.bipush 16, 2) := by decide +kernel
theorem dX5_user_30 : decode cX5_user 30 = .ok (.if_icmp .ge 76, 3) := by decide +kernel
theorem dX5_user_33 : decode cX5_user 33 = .ok (.iconst 0, 1) := by decide +kernel
theorem dX5_user_34 : decode cX5_user 34 = .ok (.istore 5, 2) := by decide +kernel
theorem dX5_user_36 : decode cX5_user 36 = .ok (.iload 5, 2) := by decide +kernel
theorem dX5_user_38 : decode cX5_user 38 = .ok (.bipush 40, 2) := by decide +kernel
theorem dX5_user_40 : decode cX5_user 40 = .ok (.if_icmp .ge 60, 3) := by decide +kernel
theorem dX5_user_43 : decode cX5_user 43 = .ok (.aload_n 0, 1) := by decide +kernel
theorem dX5_user_44 : decode cX5_user 44 = .ok (.getfield 51, 3) := by decide +kernel
theorem dX5_user_47 : decode cX5_user 47 = .ok (.ifCond .ne 53, 3) := by decide +kernel
theorem dX5_user_50 : decode cX5_user 50 = .ok (.aload_n 0, 1) := by decide +kernel
theorem dX5_user_51 : decode cX5_user 51 = .ok (.getfield 7, 3) := by decide +kernel
theorem dX5_user_54 : decode cX5_user 54 = .ok (.iload 4, 2) := by decide +kernel
theorem dX5_user_56 : decode cX5_user 56 = .ok (.baload, 1) := by decide +kernel
theorem dX5_user_57 : decode cX5_user 57 = .ok (.ifCond .eq 43, 3) := by decide +kernel
theorem dX5_user_60 : decode cX5_user 60 = .ok (.aload_n 0, 1) := by decide +kernel
theorem dX5_user_61 : decode cX5_user 61 = .ok (.getfield 26, 3) := by decide +kernel
theorem dX5_user_64 : decode cX5_user 64 = .ok (.iconst 0, 1) := by decide +kernel
theorem dX5_user_65 : decode cX5_user 65 = .ok (.iload 4, 2) := by decide +kernel
theorem dX5_user_67 : decode cX5_user 67 = .ok (.iload 5, 2) := by decide +kernel
theorem dX5_user_69 : decode cX5_user 69 = .ok (.invokestatic 58, 3) := by decide +kernel
theorem dX5_user_72 : decode cX5_user 72 = .ok (.iaload, 1) := by decide +kernel
theorem dX5_user_73 : decode cX5_user 73 = .ok (.iload_n 1, 1) := by decide +kernel
theorem dX5_user_74 : decode cX5_user 74 = .ok (.if_icmp .ne 20, 3) := by decide +kernel
theorem dX5_user_77 : decode cX5_user 77 = .ok (.iload_n 3, 1) := by decide +kernel
theorem dX5_user_78 : decode cX5_user 78 = .ok (.iload_n 2, 1) := by decide +kernel
theorem dX5_user_79 : decode cX5_user 79 = .ok (.if_icmp .ne 12, 3) := by decide +kernel
theorem dX5_user_82 : decode cX5_user 82 = .ok (.bipush 64, 2) := by decide +kernel
theorem dX5_user_84 : decode cX5_user 84 = .ok (.iload 4, 2) := by decide +kernel
theorem dX5_user_86 : decode cX5_user 86 = .ok (.imul, 1) := by decide +kernel
theorem dX5_user_87 : decode cX5_user 87 = .ok (.iload 5, 2) := by decide +kernel
theorem dX5_user_89 : decode cX5_user 89 = .ok (.iadd, 1) := by decide +kernel
theorem dX5_user_90 : decode cX5_user 90 = .ok (.ireturn, 1) := by decide +kernel
theorem dX5_user_91 : decode cX5_user 91 = .ok (.iinc 3 1, 3) := by decide +kernel
theorem dX5_user_94 : decode cX5_user 94 = .ok (.iinc 5 1, 3) := by decide +kernel
theorem dX5_user_97 : decode cX5_user 97 = .ok (.goto (-61), 3) := by decide +kernel
theorem dX5_user_100 : decode cX5_user 100 = .ok (.iinc 4 1, 3) := by decide +kernel
theorem dX5_user_103 : decode cX5_user 103 = .ok (.goto (-77), 3) := by decide +kernel
theorem dX5_user_106 : decode cX5_user 106 = .ok (.aload_n 0, 1) := by decide +kernel
theorem dX5_user_107 : decode cX5_user 107 = .ok (.getfield 51, 3) := by decide +kernel
theorem dX5_user_110 : decode cX5_user 110 = .ok (.ifCond .ne 7, 3) := by decide +kernel
theorem dX5_user_113 : decode cX5_user 113 = .ok (.iconst (-1), 1) := by decide +kernel
theorem dX5_user_114 : decode cX5_user 114 = .ok (.goto 4, 3) := by decide +kernel
theorem dX5_user_117 : decode cX5_user 117 = .ok (.iconst 0, 1) := by decide +kernel
theorem dX5_user_118 : decode cX5_user 118 = .ok (.ireturn, 1) := by decide +kernel
theorem dX5_told_0 : decode cX5_told 0 = .ok (.aload_n 0, 1) := by decide +kernel
theorem dX5_told_1 : decode cX5_told 1 = .ok (.iload_n 1, 1) := by decide +kernel
theorem dX5_told_2 : decode cX5_told 2 = .ok (.ifCond .lt 9, 3) := by decide +kernel
theorem dX5_told_5 : decode cX5_told 5 = .ok (.iload_n 1, 1) := by decide +kernel
theorem dX5_told_6 : decode cX5_told 6 = .ok (.bipush 13, 2) := by decide +kernel
theorem dX5_told_8 : decode cX5_told 8 = .ok (.if_icmp .le 7, 3) := by decide +kernel
theorem dX5_told_11 : decode cX5_told 11 = .ok (.iconst 1, 1) := by decide +kernel
theorem dX5_told_12 : decode cX5_told 12 = .ok (.goto 4, 3) := by decide +kernel
theorem dX5_told_15 : decode cX5_told 15 = .ok (.iconst 0, 1) := by decide +kernel
theorem dX5_told_16 : decode cX5_told 16 = .ok (.putfield 51, 3) := by decide +kernel
theorem dX5_told_19 : decode cX5_told 19 = .ok (.iload_n 1, 1) := by decide +kernel
theorem dX5_told_20 : decode cX5_told 20 = .ok (.tableswitch 170 0 13 #[72, 77, 82, 87, 92, 97, 102, 107, 112, 118, 124, 130, 143, 148], 72) := by decide +kernel
theorem dX5_told_92 : decode cX5_told 92 = .ok (.aload_n 0, 1) := by decide +kernel
theorem dX5_told_93 : decode cX5_told 93 = .ok (.getfield 32, 3) := by decide +kernel
theorem dX5_told_96 : decode cX5_told 96 = .ok (.ireturn, 1) := by decide +kernel
theorem dX5_told_97 : decode cX5_told 97 = .ok (.aload_n 0, 1) := by decide +kernel
theorem dX5_told_98 : decode cX5_told 98 = .ok (.invokevirtual 92, 3) := by decide +kernel
theorem dX5_told_101 : decode cX5_told 101 = .ok (.ireturn, 1) := by decide +kernel
theorem dX5_told_102 : decode cX5_told 102 = .ok (.aload_n 0, 1) := by decide +kernel
theorem dX5_told_103 : decode cX5_told 103 = .ok (.getfield 110, 3) := by decide +kernel
theorem dX5_told_106 : decode cX5_told 106 = .ok (.ireturn, 1) := by decide +kernel
theorem dX5_told_107 : decode cX5_told 107 = .ok (.aload_n 0, 1) := by decide +kernel
theorem dX5_told_108 : decode cX5_told 108 = .ok (.getfield 107, 3) := by decide +kernel
theorem dX5_told_111 : decode cX5_told 111 = .ok (.ireturn, 1) := by decide +kernel
theorem dX5_told_112 : decode cX5_told 112 = .ok (.aload_n 0, 1) := by decide +kernel
theorem dX5_told_113 : decode cX5_told 113 = .ok (.getfield 116, 3) := by decide +kernel
theorem dX5_told_116 : decode cX5_told 116 = .ok (.ireturn, 1) := by decide +kernel
theorem dX5_told_117 : decode cX5_told 117 = .ok (.aload_n 0, 1) := by decide +kernel
theorem dX5_told_118 : decode cX5_told 118 = .ok (.getfield 89, 3) := by decide +kernel
theorem dX5_told_121 : decode cX5_told 121 = .ok (.ireturn, 1) := by decide +kernel
theorem dX5_told_122 : decode cX5_told 122 = .ok (.aload_n 0, 1) := by decide +kernel
theorem dX5_told_123 : decode cX5_told 123 = .ok (.getfield 80, 3) := by decide +kernel
theorem dX5_told_126 : decode cX5_told 126 = .ok (.ireturn, 1) := by decide +kernel
theorem dX5_told_127 : decode cX5_told 127 = .ok (.aload_n 0, 1) := by decide +kernel
theorem dX5_told_128 : decode cX5_told 128 = .ok (.getfield 86, 3) := by decide +kernel
theorem dX5_told_131 : decode cX5_told 131 = .ok (.ireturn, 1) := by decide +kernel
theorem dX5_told_132 : decode cX5_told 132 = .ok (.aload_n 0, 1) := by decide +kernel
theorem dX5_told_133 : decode cX5_told 133 = .ok (.iconst 0, 1) := by decide +kernel
theorem dX5_told_134 : decode cX5_told 134 = .ok (.invokevirtual 147, 3) := by decide +kernel
theorem dX5_told_137 : decode cX5_told 137 = .ok (.ireturn, 1) := by decide +kernel
theorem dX5_told_138 : decode cX5_told 138 = .ok (.aload_n 0, 1) := by decide +kernel
theorem dX5_told_139 : decode cX5_told 139 = .ok (.iconst 1, 1) := by decide +kernel
theorem dX5_told_140 : decode cX5_told 140 = .ok (.invokevirtual 147, 3) := by decide +kernel
theorem dX5_told_143 : decode cX5_told 143 = .ok (.ireturn, 1) := by decide +kernel
theorem dX5_told_144 : decode cX5_told 144 = .ok (.aload_n 0, 1) := by decide +kernel
theorem dX5_told_145 : decode cX5_told 145 = .ok (.iconst 2, 1) := by decide +kernel
theorem dX5_told_146 : decode cX5_told 146 = .ok (.invokevirtual 147, 3) := by decide +kernel
theorem dX5_told_149 : decode cX5_told 149 = .ok (.ireturn, 1) := by decide +kernel
theorem dX5_told_150 : decode cX5_told 150 = .ok (.aload_n 0, 1) := by decide +kernel
theorem dX5_told_151 : decode cX5_told 151 = .ok (.getfield 166, 3) := by decide +kernel
theorem dX5_told_154 : decode cX5_told 154 = .ok (.ifCond .eq 7, 3) := by decide +kernel
theorem dX5_told_157 : decode cX5_told 157 = .ok (.iconst 1, 1) := by decide +kernel
theorem dX5_told_158 : decode cX5_told 158 = .ok (.goto 4, 3) := by decide +kernel
theorem dX5_told_161 : decode cX5_told 161 = .ok (.iconst 0, 1) := by decide +kernel
theorem dX5_told_162 : decode cX5_told 162 = .ok (.ireturn, 1) := by decide +kernel
theorem dX5_told_163 : decode cX5_told 163 = .ok (.aload_n 0, 1) := by decide +kernel
theorem dX5_told_164 : decode cX5_told 164 = .ok (.getfield 173, 3) := by decide +kernel
theorem dX5_told_167 : decode cX5_told 167 = .ok (.ireturn, 1) := by decide +kernel
theorem dX5_told_168 : decode cX5_told 168 = .ok (.aload_n 0, 1) := by decide +kernel
theorem dX5_told_169 : decode cX5_told 169 = .ok (.getfield 110, 3) := by decide +kernel
theorem dX5_told_172 : decode cX5_told 172 = .ok (.iconst 1, 1) := by decide +kernel
theorem dX5_told_173 : decode cX5_told 173 = .ok (.if_icmp .ne 15, 3) := by decide +kernel
theorem dX5_told_176 : decode cX5_told 176 = .ok (.aload_n 0, 1) := by decide +kernel
theorem dX5_told_177 : decode cX5_told 177 = .ok (.getfield 138, 3) := by decide +kernel
theorem dX5_told_180 : decode cX5_told 180 = .ok (.aload_n 0, 1) := by decide +kernel
theorem dX5_told_181 : decode cX5_told 181 = .ok (.getfield 141, 3) := by decide +kernel
theorem dX5_told_184 : decode cX5_told 184 = .ok (.isub, 1) := by decide +kernel
theorem dX5_told_185 : decode cX5_told 185 = .ok (.goto 4, 3) := by decide +kernel
theorem dX5_told_188 : decode cX5_told 188 = .ok (.iconst 0, 1) := by decide +kernel
theorem dX5_told_189 : decode cX5_told 189 = .ok (.ireturn, 1) := by decide +kernel
theorem dX5_told_190 : decode cX5_told 190 = .ok (.iconst 0, 1) := by decide +kernel
theorem dX5_told_191 : decode cX5_told 191 = .ok (.ireturn, 1) := by decide +kernel
theorem dJ7_fill_53178_0 : decode cJ7_fill_53178 0 = .ok (.iconst 0, 1) := by decide +kernel
theorem dJ7_fill_53178_1 : decode cJ7_fill_53178 1 = .ok (.istore_n 2, 1) := by decide +kernel
theorem dJ7_fill_53178_2 : decode cJ7_fill_53178 2 = .ok (.aload_n 0, 1) := by decide +kernel
theorem dJ7_fill_53178_3 : decode cJ7_fill_53178 3 = .ok (.arraylength, 1) := by decide +kernel
theorem dJ7_fill_53178_4 : decode cJ7_fill_53178 4 = .ok (.istore_n 3, 1) := by decide +kernel
theorem dJ7_fill_53178_5 : decode cJ7_fill_53178 5 = .ok (.iload_n 2, 1) := by decide +kernel
theorem dJ7_fill_53178_6 : decode cJ7_fill_53178 6 = .ok (.iload_n 3, 1) := by decide +kernel
theorem dJ7_fill_53178_7 : decode cJ7_fill_53178 7 = .ok (.if_icmp .ge 13, 3) := by decide +kernel
theorem dJ7_fill_53178_10 : decode cJ7_fill_53178 10 = .ok (.aload_n 0, 1) := by decide +kernel
theorem dJ7_fill_53178_11 : decode cJ7_fill_53178 11 = .ok (.iload_n 2, 1) := by decide +kernel
theorem dJ7_fill_53178_12 : decode cJ7_fill_53178 12 = .ok (.iload_n 1, 1) := by decide +kernel
theorem dJ7_fill_53178_13 : decode cJ7_fill_53178 13 = .ok (.iastore, 1) := by decide +kernel
theorem dJ7_fill_53178_14 : decode cJ7_fill_53178 14 = .ok (.iinc 2 1, 3) := by decide +kernel
theorem dJ7_fill_53178_17 : decode cJ7_fill_53178 17 = .ok (.goto (-12), 3) := by decide +kernel
theorem dJ7_fill_53178_20 : decode cJ7_fill_53178 20 = .ok (.return_, 1) := by decide +kernel
abbrev vwCl : List vw_C := [(RX0, TX0, 9), (RX1, TX1, 4), (RX2, TX2, 4), (RX3, TX3, 7), (RX4, TX4, 13), (RX5, TX5, 27)]
