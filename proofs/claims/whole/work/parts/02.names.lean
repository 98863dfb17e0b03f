def RX0 : String := "NineBridges$Bridge"
def TX0 : u_T := fun k => match k with
  | 0 => ("NineBridges$Bridge", "pivot", "I", true)
  | 1 => ("NineBridges$Bridge", "stand", "I", true)
  | 2 => ("NineBridges$Bridge", "turn", "I", true)
  | 3 => ("NineBridges$Bridge", "bears", "I", true)
  | 4 => ("NineBridges$Bridge", "ends", "[I", true)
  | _ => ("NineBridges$Bridge", "shift", "I", false)
def tyX0 : Nat → FieldType := fun k => match k with
  | 0 => .int
  | 1 => .int
  | 2 => .int
  | 3 => .int
  | 4 => .array .int
  | _ => .int
theorem nmX0 : ∀ a, a < 6 → ∀ b, b < 6 → a ≠ b → (TX0 a).2.1 ≠ (TX0 b).2.1 := by decide +kernel
theorem tyX0_ok : ∀ k, k < 6 → parseFieldDescriptor (TX0 k).2.2.1 = some (tyX0 k) := by decide +kernel
abbrev cX0_init : ByteArray := prog_2_method_1_code
def yX0_init : MethodName := ⟨RX0, "<init>", "(LNineBridges$Reader;)V"⟩
abbrev cX0_kind : ByteArray := prog_2_method_2_code
def yX0_kind : MethodName := ⟨RX0, "kind", "()I"⟩
abbrev cX0_endCount : ByteArray := prog_2_method_3_code
def yX0_endCount : MethodName := ⟨RX0, "endCount", "()I"⟩
abbrev cX0_end : ByteArray := prog_2_method_4_code
def yX0_end : MethodName := ⟨RX0, "end", "(I)I"⟩
abbrev cX0_turnMinutes : ByteArray := prog_2_method_5_code
def yX0_turnMinutes : MethodName := ⟨RX0, "turnMinutes", "(Z)I"⟩
abbrev cX0_placeCount : ByteArray := prog_2_method_6_code
def yX0_placeCount : MethodName := ⟨RX0, "placeCount", "()I"⟩
abbrev cX0_endOfPlace : ByteArray := prog_2_method_7_code
def yX0_endOfPlace : MethodName := ⟨RX0, "endOfPlace", "(I)I"⟩
abbrev cX0_roundMinutes : ByteArray := prog_2_method_8_code
def yX0_roundMinutes : MethodName := ⟨RX0, "roundMinutes", "(Z)I"⟩
abbrev cX0_endAt : ByteArray := prog_2_method_9_code
def yX0_endAt : MethodName := ⟨RX0, "endAt", "(IZ)I"⟩
abbrev cX0_standsStill : ByteArray := prog_2_method_10_code
def yX0_standsStill : MethodName := ⟨RX0, "standsStill", "(IZ)I"⟩
def RX1 : String := "NineBridges$Crowd"
def TX1 : u_T := fun k => match k with
  | 0 => ("NineBridges$Crowd", "going", "[I", true)
  | 1 => ("NineBridges$Crowd", "waiting", "[I", true)
  | 2 => ("NineBridges$Crowd", "tries", "[I", true)
  | 3 => ("NineBridges$Crowd", "onPath", "[I", true)
  | _ => ("NineBridges$Crowd", "path", "[I", true)
def tyX1 : Nat → FieldType := fun k => match k with
  | 0 => .array .int
  | 1 => .array .int
  | 2 => .array .int
  | 3 => .array .int
  | _ => .array .int
theorem nmX1 : ∀ a, a < 5 → ∀ b, b < 5 → a ≠ b → (TX1 a).2.1 ≠ (TX1 b).2.1 := by decide +kernel
theorem tyX1_ok : ∀ k, k < 5 → parseFieldDescriptor (TX1 k).2.2.1 = some (tyX1 k) := by decide +kernel
abbrev cX1_init : ByteArray := prog_3_method_1_code
def yX1_init : MethodName := ⟨RX1, "<init>", "()V"⟩
abbrev cX1_most : ByteArray := prog_3_method_2_code
def yX1_most : MethodName := ⟨RX1, "most", "(LNineBridges$Timetable;II)I"⟩
abbrev cX1_sendWhilePathsAreFound : ByteArray := prog_3_method_3_code
def yX1_sendWhilePathsAreFound : MethodName := ⟨RX1, "sendWhilePathsAreFound", "(LNineBridges$Timetable;II)I"⟩
abbrev cX1_findPath : ByteArray := prog_3_method_4_code
def yX1_findPath : MethodName := ⟨RX1, "findPath", "(LNineBridges$Timetable;II)I"⟩
abbrev cX1_knot : ByteArray := prog_3_method_5_code
def yX1_knot : MethodName := ⟨RX1, "knot", "(II)I"⟩
abbrev cX1_nextKnot : ByteArray := prog_3_method_6_code
def yX1_nextKnot : MethodName := ⟨RX1, "nextKnot", "(LNineBridges$Timetable;II)I"⟩
abbrev cX1_acrossFrom : ByteArray := prog_3_method_7_code
def yX1_acrossFrom : MethodName := ⟨RX1, "acrossFrom", "(LNineBridges$Timetable;III)I"⟩
abbrev cX1_takenBackFrom : ByteArray := prog_3_method_8_code
def yX1_takenBackFrom : MethodName := ⟨RX1, "takenBackFrom", "(LNineBridges$Timetable;III)I"⟩
abbrev cX1_send : ByteArray := prog_3_method_9_code
def yX1_send : MethodName := ⟨RX1, "send", "(LNineBridges$Timetable;II)V"⟩
def RX2 : String := "NineBridges$Fixed"
def TX2 : u_T := fun k => match k with
  | 0 => ("NineBridges$Bridge", "pivot", "I", true)
  | 1 => ("NineBridges$Bridge", "stand", "I", true)
  | 2 => ("NineBridges$Bridge", "turn", "I", true)
  | 3 => ("NineBridges$Bridge", "bears", "I", true)
  | 4 => ("NineBridges$Bridge", "ends", "[I", true)
  | _ => ("NineBridges$Bridge", "shift", "I", false)
def tyX2 : Nat → FieldType := fun k => match k with
  | 0 => .int
  | 1 => .int
  | 2 => .int
  | 3 => .int
  | 4 => .array .int
  | _ => .int
theorem nmX2 : ∀ a, a < 6 → ∀ b, b < 6 → a ≠ b → (TX2 a).2.1 ≠ (TX2 b).2.1 := by decide +kernel
theorem tyX2_ok : ∀ k, k < 6 → parseFieldDescriptor (TX2 k).2.2.1 = some (tyX2 k) := by decide +kernel
abbrev cX2_init : ByteArray := prog_4_method_1_code
def yX2_init : MethodName := ⟨RX2, "<init>", "(LNineBridges$Reader;)V"⟩
abbrev cX2_kind : ByteArray := prog_4_method_2_code
def yX2_kind : MethodName := ⟨RX2, "kind", "()I"⟩
abbrev cX2_roundMinutes : ByteArray := prog_4_method_3_code
def yX2_roundMinutes : MethodName := ⟨RX2, "roundMinutes", "(Z)I"⟩
abbrev cX2_endAt : ByteArray := prog_4_method_4_code
def yX2_endAt : MethodName := ⟨RX2, "endAt", "(IZ)I"⟩
abbrev cX2_standsStill : ByteArray := prog_4_method_5_code
def yX2_standsStill : MethodName := ⟨RX2, "standsStill", "(IZ)I"⟩
def RX3 : String := "NineBridges$Frosty"
def TX3 : u_T := fun k => match k with
  | 0 => ("NineBridges$Bridge", "pivot", "I", true)
  | 1 => ("NineBridges$Bridge", "stand", "I", true)
  | 2 => ("NineBridges$Bridge", "turn", "I", true)
  | 3 => ("NineBridges$Bridge", "bears", "I", true)
  | 4 => ("NineBridges$Bridge", "ends", "[I", true)
  | _ => ("NineBridges$Bridge", "shift", "I", false)
def tyX3 : Nat → FieldType := fun k => match k with
  | 0 => .int
  | 1 => .int
  | 2 => .int
  | 3 => .int
  | 4 => .array .int
  | _ => .int
theorem nmX3 : ∀ a, a < 6 → ∀ b, b < 6 → a ≠ b → (TX3 a).2.1 ≠ (TX3 b).2.1 := by decide +kernel
theorem tyX3_ok : ∀ k, k < 6 → parseFieldDescriptor (TX3 k).2.2.1 = some (tyX3 k) := by decide +kernel
abbrev cX3_init : ByteArray := prog_5_method_1_code
def yX3_init : MethodName := ⟨RX3, "<init>", "(LNineBridges$Reader;)V"⟩
abbrev cX3_kind : ByteArray := prog_5_method_2_code
def yX3_kind : MethodName := ⟨RX3, "kind", "()I"⟩
abbrev cX3_turnMinutes : ByteArray := prog_5_method_3_code
def yX3_turnMinutes : MethodName := ⟨RX3, "turnMinutes", "(Z)I"⟩
def RX4 : String := "NineBridges$Image"
def TX4 : u_T := fun k => match k with
  | 0 => ("NineBridges$Image", "shifts", "[I", true)
  | 1 => ("NineBridges$Image", "notes", "LNineBridges$Notes;", true)
  | 2 => ("NineBridges$Image", "bridgeCount", "I", false)
  | _ => ("NineBridges$Image", "frosty", "Z", false)
def tyX4 : Nat → FieldType := fun k => match k with
  | 0 => .array .int
  | 1 => .object "NineBridges$Notes"
  | 2 => .int
  | _ => .boolean
theorem nmX4 : ∀ a, a < 4 → ∀ b, b < 4 → a ≠ b → (TX4 a).2.1 ≠ (TX4 b).2.1 := by decide +kernel
theorem tyX4_ok : ∀ k, k < 4 → parseFieldDescriptor (TX4 k).2.2.1 = some (tyX4 k) := by decide +kernel
abbrev cX4_init : ByteArray := prog_6_method_1_code
def yX4_init : MethodName := ⟨RX4, "<init>", "()V"⟩
abbrev cX4_isKept : ByteArray := prog_6_method_2_code
def yX4_isKept : MethodName := ⟨RX4, "isKept", "()Z"⟩
abbrev cX4_wasFrosty : ByteArray := prog_6_method_3_code
def yX4_wasFrosty : MethodName := ⟨RX4, "wasFrosty", "()Z"⟩
abbrev cX4_keep : ByteArray := prog_6_method_4_code
def yX4_keep : MethodName := ⟨RX4, "keep", "(Ljava/util/ArrayList;ZLNineBridges$Notes;)V"⟩
abbrev cX4_giveBack : ByteArray := prog_6_method_5_code
def yX4_giveBack : MethodName := ⟨RX4, "giveBack", "(Ljava/util/ArrayList;LNineBridges$Notes;)V"⟩
def RX5 : String := "NineBridges$Notes"
def TX5 : u_T := fun k => match k with
  | 0 => ("NineBridges$Notes", "parts", "[I", true)
  | _ => ("NineBridges$Notes", "size", "I", false)
def tyX5 : Nat → FieldType := fun k => match k with
  | 0 => .array .int
  | _ => .int
theorem nmX5 : ∀ a, a < 2 → ∀ b, b < 2 → a ≠ b → (TX5 a).2.1 ≠ (TX5 b).2.1 := by decide +kernel
theorem tyX5_ok : ∀ k, k < 2 → parseFieldDescriptor (TX5 k).2.2.1 = some (tyX5 k) := by decide +kernel
abbrev cX5_init : ByteArray := prog_7_method_1_code
def yX5_init : MethodName := ⟨RX5, "<init>", "()V"⟩
abbrev cX5_size : ByteArray := prog_7_method_2_code
def yX5_size : MethodName := ⟨RX5, "size", "()I"⟩
abbrev cX5_isFull : ByteArray := prog_7_method_3_code
def yX5_isFull : MethodName := ⟨RX5, "isFull", "()Z"⟩
abbrev cX5_add : ByteArray := prog_7_method_4_code
def yX5_add : MethodName := ⟨RX5, "add", "(IIII)I"⟩
abbrev cX5_part : ByteArray := prog_7_method_5_code
def yX5_part : MethodName := ⟨RX5, "part", "(II)I"⟩
abbrev cX5_empty : ByteArray := prog_7_method_6_code
def yX5_empty : MethodName := ⟨RX5, "empty", "()I"⟩
abbrev cX5_becomeLike : ByteArray := prog_7_method_7_code
def yX5_becomeLike : MethodName := ⟨RX5, "becomeLike", "(LNineBridges$Notes;)V"⟩
def RX6 : String := "NineBridges$Page"
def TX6 : u_T := fun k => match k with
  | 0 => ("NineBridges$Page", "codes", "[I", true)
  | _ => ("NineBridges$Page", "size", "I", false)
def tyX6 : Nat → FieldType := fun k => match k with
  | 0 => .array .int
  | _ => .int
theorem nmX6 : ∀ a, a < 2 → ∀ b, b < 2 → a ≠ b → (TX6 a).2.1 ≠ (TX6 b).2.1 := by decide +kernel
theorem tyX6_ok : ∀ k, k < 2 → parseFieldDescriptor (TX6 k).2.2.1 = some (tyX6 k) := by decide +kernel
abbrev cX6_init : ByteArray := prog_8_method_1_code
def yX6_init : MethodName := ⟨RX6, "<init>", "()V"⟩
abbrev cX6_size : ByteArray := prog_8_method_2_code
def yX6_size : MethodName := ⟨RX6, "size", "()I"⟩
abbrev cX6_hasRoom : ByteArray := prog_8_method_3_code
def yX6_hasRoom : MethodName := ⟨RX6, "hasRoom", "(I)Z"⟩
abbrev cX6_append : ByteArray := prog_8_method_4_code
def yX6_append : MethodName := ⟨RX6, "append", "(I)V"⟩
abbrev cX6_empty : ByteArray := prog_8_method_5_code
def yX6_empty : MethodName := ⟨RX6, "empty", "()I"⟩
abbrev cX6_codeAt : ByteArray := prog_8_method_6_code
def yX6_codeAt : MethodName := ⟨RX6, "codeAt", "(I)I"⟩
abbrev cX6_readBy : ByteArray := prog_8_method_7_code
def yX6_readBy : MethodName := ⟨RX6, "readBy", "(LNineBridges$Reader;)I"⟩
def RX7 : String := "NineBridges$Reader"
def TX7 : u_T := fun k => match k with
  | 0 => ("NineBridges$Reader", "ends", "[I", true)
  | 1 => ("NineBridges$Reader", "stage", "I", false)
  | 2 => ("NineBridges$Reader", "kind", "I", false)
  | 3 => ("NineBridges$Reader", "pivot", "I", false)
  | 4 => ("NineBridges$Reader", "endCount", "I", false)
  | 5 => ("NineBridges$Reader", "stand", "I", false)
  | 6 => ("NineBridges$Reader", "turn", "I", false)
  | 7 => ("NineBridges$Reader", "shift", "I", false)
  | _ => ("NineBridges$Reader", "bears", "I", false)
def tyX7 : Nat → FieldType := fun k => match k with
  | 0 => .array .int
  | 1 => .int
  | 2 => .int
  | 3 => .int
  | 4 => .int
  | 5 => .int
  | 6 => .int
  | 7 => .int
  | _ => .int
theorem nmX7 : ∀ a, a < 9 → ∀ b, b < 9 → a ≠ b → (TX7 a).2.1 ≠ (TX7 b).2.1 := by decide +kernel
theorem tyX7_ok : ∀ k, k < 9 → parseFieldDescriptor (TX7 k).2.2.1 = some (tyX7 k) := by decide +kernel
abbrev cX7_init : ByteArray := prog_9_method_1_code
def yX7_init : MethodName := ⟨RX7, "<init>", "()V"⟩
abbrev cX7_begin : ByteArray := prog_9_method_2_code
def yX7_begin : MethodName := ⟨RX7, "begin", "()V"⟩
abbrev cX7_isWhole : ByteArray := prog_9_method_3_code
def yX7_isWhole : MethodName := ⟨RX7, "isWhole", "()Z"⟩
abbrev cX7_takes : ByteArray := prog_9_method_4_code
def yX7_takes : MethodName := ⟨RX7, "takes", "(I)Z"⟩
abbrev cX7_takesSign : ByteArray := prog_9_method_5_code
def yX7_takesSign : MethodName := ⟨RX7, "takesSign", "(I)Z"⟩
abbrev cX7_takesPivot : ByteArray := prog_9_method_6_code
def yX7_takesPivot : MethodName := ⟨RX7, "takesPivot", "(I)Z"⟩
abbrev cX7_takesMark : ByteArray := prog_9_method_7_code
def yX7_takesMark : MethodName := ⟨RX7, "takesMark", "(IC)Z"⟩
abbrev cX7_takesEnd : ByteArray := prog_9_method_8_code
def yX7_takesEnd : MethodName := ⟨RX7, "takesEnd", "(I)Z"⟩
abbrev cX7_takesDigit : ByteArray := prog_9_method_9_code
def yX7_takesDigit : MethodName := ⟨RX7, "takesDigit", "(I)Z"⟩
abbrev cX7_made : ByteArray := prog_9_method_10_code
def yX7_made : MethodName := ⟨RX7, "made", "()LNineBridges$Bridge;"⟩
def RX8 : String := "NineBridges$Swinging"
def TX8 : u_T := fun k => match k with
  | 0 => ("NineBridges$Bridge", "pivot", "I", true)
  | 1 => ("NineBridges$Bridge", "stand", "I", true)
  | 2 => ("NineBridges$Bridge", "turn", "I", true)
  | 3 => ("NineBridges$Bridge", "bears", "I", true)
  | 4 => ("NineBridges$Bridge", "ends", "[I", true)
  | _ => ("NineBridges$Bridge", "shift", "I", false)
def tyX8 : Nat → FieldType := fun k => match k with
  | 0 => .int
  | 1 => .int
  | 2 => .int
  | 3 => .int
  | 4 => .array .int
  | _ => .int
theorem nmX8 : ∀ a, a < 6 → ∀ b, b < 6 → a ≠ b → (TX8 a).2.1 ≠ (TX8 b).2.1 := by decide +kernel
theorem tyX8_ok : ∀ k, k < 6 → parseFieldDescriptor (TX8 k).2.2.1 = some (tyX8 k) := by decide +kernel
abbrev cX8_init : ByteArray := prog_10_method_1_code
def yX8_init : MethodName := ⟨RX8, "<init>", "(LNineBridges$Reader;)V"⟩
abbrev cX8_kind : ByteArray := prog_10_method_2_code
def yX8_kind : MethodName := ⟨RX8, "kind", "()I"⟩
abbrev cX8_placeCount : ByteArray := prog_10_method_3_code
def yX8_placeCount : MethodName := ⟨RX8, "placeCount", "()I"⟩
abbrev cX8_endOfPlace : ByteArray := prog_10_method_4_code
def yX8_endOfPlace : MethodName := ⟨RX8, "endOfPlace", "(I)I"⟩
def RX9 : String := "NineBridges$Timetable"
def TX9 : u_T := fun k => match k with
  | 0 => ("NineBridges$Timetable", "landings", "[[I", true)
  | 1 => ("NineBridges$Timetable", "pivots", "[I", true)
  | 2 => ("NineBridges$Timetable", "touched", "[I", true)
  | 3 => ("NineBridges$Timetable", "firsts", "[[I", true)
  | 4 => ("NineBridges$Timetable", "latest", "[I", true)
  | 5 => ("NineBridges$Timetable", "start", "I", false)
  | 6 => ("NineBridges$Timetable", "span", "I", false)
  | 7 => ("NineBridges$Timetable", "pace", "I", false)
  | _ => ("NineBridges$Timetable", "rows", "I", false)
def tyX9 : Nat → FieldType := fun k => match k with
  | 0 => .array (.array .int)
  | 1 => .array .int
  | 2 => .array .int
  | 3 => .array (.array .int)
  | 4 => .array .int
  | 5 => .int
  | 6 => .int
  | 7 => .int
  | _ => .int
theorem nmX9 : ∀ a, a < 9 → ∀ b, b < 9 → a ≠ b → (TX9 a).2.1 ≠ (TX9 b).2.1 := by decide +kernel
theorem tyX9_ok : ∀ k, k < 9 → parseFieldDescriptor (TX9 k).2.2.1 = some (tyX9 k) := by decide +kernel
abbrev cX9_init : ByteArray := prog_11_method_1_code
def yX9_init : MethodName := ⟨RX9, "<init>", "()V"⟩
abbrev cX9_open : ByteArray := prog_11_method_2_code
def yX9_open : MethodName := ⟨RX9, "open", "(IIII)V"⟩
abbrev cX9_span : ByteArray := prog_11_method_3_code
def yX9_span : MethodName := ⟨RX9, "span", "()I"⟩
abbrev cX9_pace : ByteArray := prog_11_method_4_code
def yX9_pace : MethodName := ⟨RX9, "pace", "()I"⟩
abbrev cX9_pivot : ByteArray := prog_11_method_5_code
def yX9_pivot : MethodName := ⟨RX9, "pivot", "(I)I"⟩
abbrev cX9_landing : ByteArray := prog_11_method_6_code
def yX9_landing : MethodName := ⟨RX9, "landing", "(II)I"⟩
abbrev cX9_lay : ByteArray := prog_11_method_7_code
def yX9_lay : MethodName := ⟨RX9, "lay", "(ILNineBridges$Bridge;IZ)V"⟩
abbrev cX9_layAlways : ByteArray := prog_11_method_8_code
def yX9_layAlways : MethodName := ⟨RX9, "layAlways", "(III)V"⟩
abbrev cX9_layNothing : ByteArray := prog_11_method_9_code
def yX9_layNothing : MethodName := ⟨RX9, "layNothing", "(I)V"⟩
abbrev cX9_reach : ByteArray := prog_11_method_10_code
def yX9_reach : MethodName := ⟨RX9, "reach", "(III[I)V"⟩
abbrev cX9_everReached : ByteArray := prog_11_method_11_code
def yX9_everReached : MethodName := ⟨RX9, "everReached", "(I)I"⟩
abbrev cX9_latestStart : ByteArray := prog_11_method_12_code
def yX9_latestStart : MethodName := ⟨RX9, "latestStart", "(II)I"⟩
abbrev cX9_foresee : ByteArray := prog_11_method_13_code
def yX9_foresee : MethodName := ⟨RX9, "foresee", "(I)V"⟩
abbrev cX9_waitFrom : ByteArray := prog_11_method_14_code
def yX9_waitFrom : MethodName := ⟨RX9, "waitFrom", "(II)I"⟩
abbrev cX9_longestWait : ByteArray := prog_11_method_15_code
def yX9_longestWait : MethodName := ⟨RX9, "longestWait", "(II)I"⟩
abbrev cX9_waitsTogether : ByteArray := prog_11_method_16_code
def yX9_waitsTogether : MethodName := ⟨RX9, "waitsTogether", "(II)I"⟩
def RX10 : String := "NineBridges"
def TX10 : u_T := fun k => match k with
  | 0 => ("NineBridges", "page", "LNineBridges$Page;", true)
  | 1 => ("NineBridges", "reader", "LNineBridges$Reader;", true)
  | 2 => ("NineBridges", "bridges", "Ljava/util/ArrayList;", true)
  | 3 => ("NineBridges", "notes", "LNineBridges$Notes;", true)
  | 4 => ("NineBridges", "kept", "LNineBridges$Image;", true)
  | 5 => ("NineBridges", "table", "LNineBridges$Timetable;", true)
  | 6 => ("NineBridges", "carriers", "LNineBridges$Crowd;", true)
  | 7 => ("NineBridges", "arrivals", "[I", true)
  | 8 => ("NineBridges", "otherArrivals", "[I", true)
  | _ => ("NineBridges", "frosty", "Z", false)
def tyX10 : Nat → FieldType := fun k => match k with
  | 0 => .object "NineBridges$Page"
  | 1 => .object "NineBridges$Reader"
  | 2 => .object "java/util/ArrayList"
  | 3 => .object "NineBridges$Notes"
  | 4 => .object "NineBridges$Image"
  | 5 => .object "NineBridges$Timetable"
  | 6 => .object "NineBridges$Crowd"
  | 7 => .array .int
  | 8 => .array .int
  | _ => .boolean
theorem nmX10 : ∀ a, a < 10 → ∀ b, b < 10 → a ≠ b → (TX10 a).2.1 ≠ (TX10 b).2.1 := by decide +kernel
theorem tyX10_ok : ∀ k, k < 10 → parseFieldDescriptor (TX10 k).2.2.1 = some (tyX10 k) := by decide +kernel
abbrev cX10_init : ByteArray := prog_1_method_1_code
def yX10_init : MethodName := ⟨RX10, "<init>", "()V"⟩
abbrev cX10_letters : ByteArray := prog_1_method_2_code
def yX10_letters : MethodName := ⟨RX10, "letters", "(J)I"⟩
abbrev cX10_blank : ByteArray := prog_1_method_3_code
def yX10_blank : MethodName := ⟨RX10, "blank", "()I"⟩
abbrev cX10_fault : ByteArray := prog_1_method_4_code
def yX10_fault : MethodName := ⟨RX10, "fault", "()I"⟩
abbrev cX10_bridge : ByteArray := prog_1_method_5_code
def yX10_bridge : MethodName := ⟨RX10, "bridge", "()I"⟩
abbrev cX10_as : ByteArray := prog_1_method_6_code
def yX10_as : MethodName := ⟨RX10, "as", "(II)I"⟩
abbrev cX10_about : ByteArray := prog_1_method_7_code
def yX10_about : MethodName := ⟨RX10, "about", "(II)I"⟩
abbrev cX10_offset : ByteArray := prog_1_method_8_code
def yX10_offset : MethodName := ⟨RX10, "offset", "(II)I"⟩
abbrev cX10_frost : ByteArray := prog_1_method_9_code
def yX10_frost : MethodName := ⟨RX10, "frost", "(Z)I"⟩
abbrev cX10_joins : ByteArray := prog_1_method_10_code
def yX10_joins : MethodName := ⟨RX10, "joins", "(II)I"⟩
abbrev cX10_lasts : ByteArray := prog_1_method_11_code
def yX10_lasts : MethodName := ⟨RX10, "lasts", "(II)I"⟩
abbrev cX10_soonest : ByteArray := prog_1_method_12_code
def yX10_soonest : MethodName := ⟨RX10, "soonest", "(IIIII)I"⟩
abbrev cX10_last : ByteArray := prog_1_method_13_code
def yX10_last : MethodName := ⟨RX10, "last", "(IIIIII)I"⟩
abbrev cX10_again : ByteArray := prog_1_method_14_code
def yX10_again : MethodName := ⟨RX10, "again", "()J"⟩
abbrev cX10_cut : ByteArray := prog_1_method_15_code
def yX10_cut : MethodName := ⟨RX10, "cut", "(III)I"⟩
abbrev cX10_worst : ByteArray := prog_1_method_16_code
def yX10_worst : MethodName := ⟨RX10, "worst", "(IIIII)I"⟩
abbrev cX10_mean : ByteArray := prog_1_method_17_code
def yX10_mean : MethodName := ⟨RX10, "mean", "(IIIIII)I"⟩
abbrev cX10_set : ByteArray := prog_1_method_18_code
def yX10_set : MethodName := ⟨RX10, "set", "(III)I"⟩
abbrev cX10_crowd : ByteArray := prog_1_method_19_code
def yX10_crowd : MethodName := ⟨RX10, "crowd", "(IIIIII)I"⟩
abbrev cX10_stranded : ByteArray := prog_1_method_20_code
def yX10_stranded : MethodName := ⟨RX10, "stranded", "(III)I"⟩
abbrev cX10_meeting : ByteArray := prog_1_method_21_code
def yX10_meeting : MethodName := ⟨RX10, "meeting", "(IIIIII)I"⟩
abbrev cX10_note : ByteArray := prog_1_method_22_code
def yX10_note : MethodName := ⟨RX10, "note", "(IIII)I"⟩
abbrev cX10_forget : ByteArray := prog_1_method_23_code
def yX10_forget : MethodName := ⟨RX10, "forget", "()I"⟩
abbrev cX10_lost : ByteArray := prog_1_method_24_code
def yX10_lost : MethodName := ⟨RX10, "lost", "(I)I"⟩
abbrev cX10_worth : ByteArray := prog_1_method_25_code
def yX10_worth : MethodName := ⟨RX10, "worth", "(III)I"⟩
abbrev cX10_image : ByteArray := prog_1_method_26_code
def yX10_image : MethodName := ⟨RX10, "image", "()I"⟩
abbrev cX10_restore : ByteArray := prog_1_method_27_code
def yX10_restore : MethodName := ⟨RX10, "restore", "()I"⟩
abbrev cX10_count : ByteArray := prog_1_method_28_code
def yX10_count : MethodName := ⟨RX10, "count", "(I)I"⟩
abbrev cX10_digest : ByteArray := prog_1_method_29_code
def yX10_digest : MethodName := ⟨RX10, "digest", "()J"⟩
abbrev cX10_byteOf : ByteArray := prog_1_method_30_code
def yX10_byteOf : MethodName := ⟨RX10, "byteOf", "(JI)I"⟩
abbrev cX10_lettersIn : ByteArray := prog_1_method_31_code
def yX10_lettersIn : MethodName := ⟨RX10, "lettersIn", "(J)I"⟩
abbrev cX10_isBridge : ByteArray := prog_1_method_32_code
def yX10_isBridge : MethodName := ⟨RX10, "isBridge", "(I)Z"⟩
abbrev cX10_isIslet : ByteArray := prog_1_method_33_code
def yX10_isIslet : MethodName := ⟨RX10, "isIslet", "(I)Z"⟩
abbrev cX10_isMinute : ByteArray := prog_1_method_34_code
def yX10_isMinute : MethodName := ⟨RX10, "isMinute", "(I)Z"⟩
abbrev cX10_isManyStarts : ByteArray := prog_1_method_35_code
def yX10_isManyStarts : MethodName := ⟨RX10, "isManyStarts", "(I)Z"⟩
abbrev cX10_isCarrier : ByteArray := prog_1_method_36_code
def yX10_isCarrier : MethodName := ⟨RX10, "isCarrier", "(II)Z"⟩
abbrev cX10_isOfKind : ByteArray := prog_1_method_37_code
def yX10_isOfKind : MethodName := ⟨RX10, "isOfKind", "(LNineBridges$Bridge;I)Z"⟩
abbrev cX10_told : ByteArray := prog_1_method_38_code
def yX10_told : MethodName := ⟨RX10, "told", "(LNineBridges$Bridge;I)I"⟩
abbrev cX10_openTable : ByteArray := prog_1_method_39_code
def yX10_openTable : MethodName := ⟨RX10, "openTable", "(IIII)V"⟩
abbrev cX10_sharedDivisor : ByteArray := prog_1_method_40_code
def yX10_sharedDivisor : MethodName := ⟨RX10, "sharedDivisor", "(JJ)J"⟩
abbrev cX10_minutesApart : ByteArray := prog_1_method_41_code
def yX10_minutesApart : MethodName := ⟨RX10, "minutesApart", "(III)I"⟩
abbrev cX10_isJoined : ByteArray := prog_1_method_42_code
def yX10_isJoined : MethodName := ⟨RX10, "isJoined", "(II)Z"⟩
abbrev cX10_allNotesHold : ByteArray := prog_1_method_43_code
def yX10_allNotesHold : MethodName := ⟨RX10, "allNotesHold", "()Z"⟩
abbrev cX10_waysTogether : ByteArray := prog_1_method_44_code
def yX10_waysTogether : MethodName := ⟨RX10, "waysTogether", "()I"⟩
abbrev cX10_turningBridges : ByteArray := prog_1_method_45_code
def yX10_turningBridges : MethodName := ⟨RX10, "turningBridges", "()I"⟩
abbrev cX10_with : ByteArray := prog_1_method_46_code
def yX10_with : MethodName := ⟨RX10, "with", "(JJ)J"⟩
abbrev cX10_withBridge : ByteArray := prog_1_method_47_code
def yX10_withBridge : MethodName := ⟨RX10, "withBridge", "(JLNineBridges$Bridge;)J"⟩
def RX11 : String := "NineBridgesModel"
def TX11 : u_T := fun k => match k with
  | 0 => ("NineBridgesModel", "page", "[I", true)
  | 1 => ("NineBridgesModel", "pageMany", "I", false)
  | 2 => ("NineBridgesModel", "state", "I", false)
  | 3 => ("NineBridgesModel", "readRow", "[I", true)
  | 4 => ("NineBridgesModel", "bridges", "I", false)
  | 5 => ("NineBridgesModel", "rows", "[I", true)
  | 6 => ("NineBridgesModel", "frostNow", "I", false)
  | 7 => ("NineBridgesModel", "without", "I", false)
  | 8 => ("NineBridgesModel", "stuck", "I", false)
  | 9 => ("NineBridgesModel", "stuckEnd", "I", false)
  | 10 => ("NineBridgesModel", "there", "[I", true)
  | 11 => ("NineBridgesModel", "waitSum", "I", false)
  | 12 => ("NineBridgesModel", "waitMost", "I", false)
  | 13 => ("NineBridgesModel", "waits", "[I", true)
  | 14 => ("NineBridgesModel", "goesOn", "[I", true)
  | 15 => ("NineBridgesModel", "goesBack", "[I", true)
  | 16 => ("NineBridgesModel", "cameFrom", "[I", true)
  | 17 => ("NineBridgesModel", "cameBy", "[I", true)
  | 18 => ("NineBridgesModel", "line", "[I", true)
  | 19 => ("NineBridgesModel", "lineMany", "I", false)
  | 20 => ("NineBridgesModel", "other", "[I", true)
  | 21 => ("NineBridgesModel", "notes", "I", false)
  | 22 => ("NineBridgesModel", "noteRows", "[I", true)
  | 23 => ("NineBridgesModel", "keptBridges", "I", false)
  | 24 => ("NineBridgesModel", "keptFrost", "I", false)
  | 25 => ("NineBridgesModel", "keptNotes", "I", false)
  | 26 => ("NineBridgesModel", "keptOffsets", "[I", true)
  | 27 => ("NineBridgesModel", "keptRows", "[I", true)
  | _ => ("NineBridgesModel", "hash", "J", false)
def tyX11 : Nat → FieldType := fun k => match k with
  | 0 => .array .int
  | 1 => .int
  | 2 => .int
  | 3 => .array .int
  | 4 => .int
  | 5 => .array .int
  | 6 => .int
  | 7 => .int
  | 8 => .int
  | 9 => .int
  | 10 => .array .int
  | 11 => .int
  | 12 => .int
  | 13 => .array .int
  | 14 => .array .int
  | 15 => .array .int
  | 16 => .array .int
  | 17 => .array .int
  | 18 => .array .int
  | 19 => .int
  | 20 => .array .int
  | 21 => .int
  | 22 => .array .int
  | 23 => .int
  | 24 => .int
  | 25 => .int
  | 26 => .array .int
  | 27 => .array .int
  | _ => .long
theorem nmX11 : ∀ a, a < 29 → ∀ b, b < 29 → a ≠ b → (TX11 a).2.1 ≠ (TX11 b).2.1 := by decide +kernel
theorem tyX11_ok : ∀ k, k < 29 → parseFieldDescriptor (TX11 k).2.2.1 = some (tyX11 k) := by decide +kernel
abbrev cX11_init : ByteArray := prog_13_method_1_code
def yX11_init : MethodName := ⟨RX11, "<init>", "()V"⟩
abbrev cX11_in : ByteArray := prog_13_method_2_code
def yX11_in : MethodName := ⟨RX11, "in", "(JJJ)Z"⟩
abbrev cX11_letters : ByteArray := prog_13_method_3_code
def yX11_letters : MethodName := ⟨RX11, "letters", "(J)I"⟩
abbrev cX11_blank : ByteArray := prog_13_method_4_code
def yX11_blank : MethodName := ⟨RX11, "blank", "()I"⟩
abbrev cX11_signOf : ByteArray := prog_13_method_5_code
def yX11_signOf : MethodName := ⟨RX11, "signOf", "(I)I"⟩
abbrev cX11_goDigit : ByteArray := prog_13_method_6_code
def yX11_goDigit : MethodName := ⟨RX11, "goDigit", "(III)Z"⟩
abbrev cX11_goPivot : ByteArray := prog_13_method_7_code
def yX11_goPivot : MethodName := ⟨RX11, "goPivot", "(I)Z"⟩
abbrev cX11_goEnd : ByteArray := prog_13_method_8_code
def yX11_goEnd : MethodName := ⟨RX11, "goEnd", "(I)Z"⟩
abbrev cX11_go : ByteArray := prog_13_method_9_code
def yX11_go : MethodName := ⟨RX11, "go", "(I)Z"⟩
abbrev cX11_faultOf : ByteArray := prog_13_method_10_code
def yX11_faultOf : MethodName := ⟨RX11, "faultOf", "()I"⟩
abbrev cX11_fault : ByteArray := prog_13_method_11_code
def yX11_fault : MethodName := ⟨RX11, "fault", "()I"⟩
abbrev cX11_bridge : ByteArray := prog_13_method_12_code
def yX11_bridge : MethodName := ⟨RX11, "bridge", "()I"⟩
abbrev cX11_isBridge : ByteArray := prog_13_method_13_code
def yX11_isBridge : MethodName := ⟨RX11, "isBridge", "(I)Z"⟩
abbrev cX11_isIslet : ByteArray := prog_13_method_14_code
def yX11_isIslet : MethodName := ⟨RX11, "isIslet", "(I)Z"⟩
abbrev cX11_as : ByteArray := prog_13_method_15_code
def yX11_as : MethodName := ⟨RX11, "as", "(II)I"⟩
abbrev cX11_placeOf : ByteArray := prog_13_method_16_code
def yX11_placeOf : MethodName := ⟨RX11, "placeOf", "(I)I"⟩
abbrev cX11_placesOf : ByteArray := prog_13_method_17_code
def yX11_placesOf : MethodName := ⟨RX11, "placesOf", "(I)I"⟩
abbrev cX11_roundOf : ByteArray := prog_13_method_18_code
def yX11_roundOf : MethodName := ⟨RX11, "roundOf", "(I)I"⟩
abbrev cX11_tellAbout : ByteArray := prog_13_method_19_code
def yX11_tellAbout : MethodName := ⟨RX11, "tellAbout", "(II)I"⟩
abbrev cX11_about : ByteArray := prog_13_method_20_code
def yX11_about : MethodName := ⟨RX11, "about", "(II)I"⟩
abbrev cX11_offset : ByteArray := prog_13_method_21_code
def yX11_offset : MethodName := ⟨RX11, "offset", "(II)I"⟩
abbrev cX11_frost : ByteArray := prog_13_method_22_code
def yX11_frost : MethodName := ⟨RX11, "frost", "(Z)I"⟩
abbrev cX11_whereIn : ByteArray := prog_13_method_23_code
def yX11_whereIn : MethodName := ⟨RX11, "whereIn", "(II)I"⟩
abbrev cX11_joinsNow : ByteArray := prog_13_method_24_code
def yX11_joinsNow : MethodName := ⟨RX11, "joinsNow", "(II)I"⟩
abbrev cX11_lastsNow : ByteArray := prog_13_method_25_code
def yX11_lastsNow : MethodName := ⟨RX11, "lastsNow", "(II)I"⟩
abbrev cX11_joins : ByteArray := prog_13_method_26_code
def yX11_joins : MethodName := ⟨RX11, "joins", "(II)I"⟩
abbrev cX11_lasts : ByteArray := prog_13_method_27_code
def yX11_lasts : MethodName := ⟨RX11, "lasts", "(II)I"⟩
abbrev cX11_mayGo : ByteArray := prog_13_method_28_code
def yX11_mayGo : MethodName := ⟨RX11, "mayGo", "(IIII)Z"⟩
abbrev cX11_layThere : ByteArray := prog_13_method_29_code
def yX11_layThere : MethodName := ⟨RX11, "layThere", "(IIII)V"⟩
abbrev cX11_soonestOf : ByteArray := prog_13_method_30_code
def yX11_soonestOf : MethodName := ⟨RX11, "soonestOf", "(IIIII)I"⟩
abbrev cX11_isCarrier : ByteArray := prog_13_method_31_code
def yX11_isCarrier : MethodName := ⟨RX11, "isCarrier", "(II)Z"⟩
abbrev cX11_isMinute : ByteArray := prog_13_method_32_code
def yX11_isMinute : MethodName := ⟨RX11, "isMinute", "(I)Z"⟩
abbrev cX11_soonest : ByteArray := prog_13_method_33_code
def yX11_soonest : MethodName := ⟨RX11, "soonest", "(IIIII)I"⟩
abbrev cX11_last : ByteArray := prog_13_method_34_code
def yX11_last : MethodName := ⟨RX11, "last", "(IIIIII)I"⟩
abbrev cX11_common : ByteArray := prog_13_method_35_code
def yX11_common : MethodName := ⟨RX11, "common", "(JJ)J"⟩
abbrev cX11_againOf : ByteArray := prog_13_method_36_code
def yX11_againOf : MethodName := ⟨RX11, "againOf", "()J"⟩
abbrev cX11_again : ByteArray := prog_13_method_37_code
def yX11_again : MethodName := ⟨RX11, "again", "()J"⟩
abbrev cX11_cutOf : ByteArray := prog_13_method_38_code
def yX11_cutOf : MethodName := ⟨RX11, "cutOf", "(III)I"⟩
abbrev cX11_cut : ByteArray := prog_13_method_39_code
def yX11_cut : MethodName := ⟨RX11, "cut", "(III)I"⟩
abbrev cX11_layWaits : ByteArray := prog_13_method_40_code
def yX11_layWaits : MethodName := ⟨RX11, "layWaits", "(IIIII)V"⟩
abbrev cX11_worst : ByteArray := prog_13_method_41_code
def yX11_worst : MethodName := ⟨RX11, "worst", "(IIIII)I"⟩
abbrev cX11_mean : ByteArray := prog_13_method_42_code
def yX11_mean : MethodName := ⟨RX11, "mean", "(IIIIII)I"⟩
abbrev cX11_set : ByteArray := prog_13_method_43_code
def yX11_set : MethodName := ⟨RX11, "set", "(III)I"⟩
abbrev cX11_comeTo : ByteArray := prog_13_method_44_code
def yX11_comeTo : MethodName := ⟨RX11, "comeTo", "(III)V"⟩
abbrev cX11_lookOn : ByteArray := prog_13_method_45_code
def yX11_lookOn : MethodName := ⟨RX11, "lookOn", "(IIIII)V"⟩
abbrev cX11_takeWay : ByteArray := prog_13_method_46_code
def yX11_takeWay : MethodName := ⟨RX11, "takeWay", "(II)V"⟩
abbrev cX11_oneMore : ByteArray := prog_13_method_47_code
def yX11_oneMore : MethodName := ⟨RX11, "oneMore", "(IIIIII)Z"⟩
abbrev cX11_crowd : ByteArray := prog_13_method_48_code
def yX11_crowd : MethodName := ⟨RX11, "crowd", "(IIIIII)I"⟩
abbrev cX11_stranded : ByteArray := prog_13_method_49_code
def yX11_stranded : MethodName := ⟨RX11, "stranded", "(III)I"⟩
abbrev cX11_meeting : ByteArray := prog_13_method_50_code
def yX11_meeting : MethodName := ⟨RX11, "meeting", "(IIIIII)I"⟩
abbrev cX11_note : ByteArray := prog_13_method_51_code
def yX11_note : MethodName := ⟨RX11, "note", "(IIII)I"⟩
abbrev cX11_forget : ByteArray := prog_13_method_52_code
def yX11_forget : MethodName := ⟨RX11, "forget", "()I"⟩
abbrev cX11_areSo : ByteArray := prog_13_method_53_code
def yX11_areSo : MethodName := ⟨RX11, "areSo", "()Z"⟩
abbrev cX11_lost : ByteArray := prog_13_method_54_code
def yX11_lost : MethodName := ⟨RX11, "lost", "(I)I"⟩
abbrev cX11_allSoonest : ByteArray := prog_13_method_55_code
def yX11_allSoonest : MethodName := ⟨RX11, "allSoonest", "(II)I"⟩
abbrev cX11_worth : ByteArray := prog_13_method_56_code
def yX11_worth : MethodName := ⟨RX11, "worth", "(III)I"⟩
abbrev cX11_image : ByteArray := prog_13_method_57_code
def yX11_image : MethodName := ⟨RX11, "image", "()I"⟩
abbrev cX11_restore : ByteArray := prog_13_method_58_code
def yX11_restore : MethodName := ⟨RX11, "restore", "()I"⟩
abbrev cX11_turning : ByteArray := prog_13_method_59_code
def yX11_turning : MethodName := ⟨RX11, "turning", "()I"⟩
abbrev cX11_countOf : ByteArray := prog_13_method_60_code
def yX11_countOf : MethodName := ⟨RX11, "countOf", "(I)I"⟩
abbrev cX11_count : ByteArray := prog_13_method_61_code
def yX11_count : MethodName := ⟨RX11, "count", "(I)I"⟩
abbrev cX11_say : ByteArray := prog_13_method_62_code
def yX11_say : MethodName := ⟨RX11, "say", "(J)V"⟩
abbrev cX11_sayBridge : ByteArray := prog_13_method_63_code
def yX11_sayBridge : MethodName := ⟨RX11, "sayBridge", "(I)V"⟩
abbrev cX11_digest : ByteArray := prog_13_method_64_code
def yX11_digest : MethodName := ⟨RX11, "digest", "()J"⟩
def RJx145de : String := "java/io/Serializable"
def TJx145de : u_T := fun k => match k with
  | _ => ("", "", "", false)
def tyJx145de : Nat → FieldType := fun k => match k with
  | _ => .int
theorem nmJx145de : ∀ a, a < 0 → ∀ b, b < 0 → a ≠ b → (TJx145de a).2.1 ≠ (TJx145de b).2.1 := by decide +kernel
theorem tyJx145de_ok : ∀ k, k < 0 → parseFieldDescriptor (TJx145de k).2.2.1 = some (tyJx145de k) := by decide +kernel
def RJx8e188 : String := "java/lang/Cloneable"
def TJx8e188 : u_T := fun k => match k with
  | _ => ("", "", "", false)
def tyJx8e188 : Nat → FieldType := fun k => match k with
  | _ => .int
theorem nmJx8e188 : ∀ a, a < 0 → ∀ b, b < 0 → a ≠ b → (TJx8e188 a).2.1 ≠ (TJx8e188 b).2.1 := by decide +kernel
theorem tyJx8e188_ok : ∀ k, k < 0 → parseFieldDescriptor (TJx8e188 k).2.2.1 = some (tyJx8e188 k) := by decide +kernel
def RJxab1ab : String := "java/lang/Iterable"
def TJxab1ab : u_T := fun k => match k with
  | _ => ("", "", "", false)
def tyJxab1ab : Nat → FieldType := fun k => match k with
  | _ => .int
theorem nmJxab1ab : ∀ a, a < 0 → ∀ b, b < 0 → a ≠ b → (TJxab1ab a).2.1 ≠ (TJxab1ab b).2.1 := by decide +kernel
theorem tyJxab1ab_ok : ∀ k, k < 0 → parseFieldDescriptor (TJxab1ab k).2.2.1 = some (tyJxab1ab k) := by decide +kernel
def RJ9 : String := "java/lang/Math"
def TJ9 : u_T := fun k => match k with
  | _ => ("", "", "", false)
def tyJ9 : Nat → FieldType := fun k => match k with
  | _ => .int
theorem nmJ9 : ∀ a, a < 0 → ∀ b, b < 0 → a ≠ b → (TJ9 a).2.1 ≠ (TJ9 b).2.1 := by decide +kernel
theorem tyJ9_ok : ∀ k, k < 0 → parseFieldDescriptor (TJ9 k).2.2.1 = some (tyJ9 k) := by decide +kernel
abbrev cJ9_floorMod_7cf53 : ByteArray := prog_17_method_50_code
def yJ9_floorMod_7cf53 : MethodName := ⟨RJ9, "floorMod", "(II)I"⟩
abbrev cJ9_max_7cf53 : ByteArray := prog_17_method_65_code
def yJ9_max_7cf53 : MethodName := ⟨RJ9, "max", "(II)I"⟩
abbrev cJ9_min_7cf53 : ByteArray := prog_17_method_69_code
def yJ9_min_7cf53 : MethodName := ⟨RJ9, "min", "(II)I"⟩
def RJ10 : String := "java/lang/System"
def TJ10 : u_T := fun k => match k with
  | _ => ("", "", "", false)
def tyJ10 : Nat → FieldType := fun k => match k with
  | _ => .int
theorem nmJ10 : ∀ a, a < 0 → ∀ b, b < 0 → a ≠ b → (TJ10 a).2.1 ≠ (TJ10 b).2.1 := by decide +kernel
theorem tyJ10_ok : ∀ k, k < 0 → parseFieldDescriptor (TJ10 k).2.2.1 = some (tyJ10 k) := by decide +kernel
def RJxa1e45 : String := "java/util/AbstractCollection"
def TJxa1e45 : u_T := fun k => match k with
  | _ => ("", "", "", false)
def tyJxa1e45 : Nat → FieldType := fun k => match k with
  | _ => .int
theorem nmJxa1e45 : ∀ a, a < 0 → ∀ b, b < 0 → a ≠ b → (TJxa1e45 a).2.1 ≠ (TJxa1e45 b).2.1 := by decide +kernel
theorem tyJxa1e45_ok : ∀ k, k < 0 → parseFieldDescriptor (TJxa1e45 k).2.2.1 = some (tyJxa1e45 k) := by decide +kernel
abbrev cJxa1e45_init_da8c8 : ByteArray := prog_19_method_1_code
def yJxa1e45_init_da8c8 : MethodName := ⟨RJxa1e45, "<init>", "()V"⟩
def RJxc12de : String := "java/util/AbstractList"
def TJxc12de : u_T := fun k => match k with
  | _ => ("", "", "", false)
def tyJxc12de : Nat → FieldType := fun k => match k with
  | _ => .int
theorem nmJxc12de : ∀ a, a < 0 → ∀ b, b < 0 → a ≠ b → (TJxc12de a).2.1 ≠ (TJxc12de b).2.1 := by decide +kernel
theorem tyJxc12de_ok : ∀ k, k < 0 → parseFieldDescriptor (TJxc12de k).2.2.1 = some (tyJxc12de k) := by decide +kernel
abbrev cJxc12de_init_da8c8 : ByteArray := prog_20_method_1_code
def yJxc12de_init_da8c8 : MethodName := ⟨RJxc12de, "<init>", "()V"⟩
def RJx4a65c : String := "java/util/ArrayList"
def TJx4a65c : u_T := fun k => match k with
  | 0 => ("java/util/AbstractList", "modCount", "I", false)
  | 1 => ("java/util/ArrayList", "elementData", "[Ljava/lang/Object;", false)
  | _ => ("java/util/ArrayList", "size", "I", false)
def tyJx4a65c : Nat → FieldType := fun k => match k with
  | 0 => .int
  | 1 => .array (.object "java/lang/Object")
  | _ => .int
theorem nmJx4a65c : ∀ a, a < 3 → ∀ b, b < 3 → a ≠ b → (TJx4a65c a).2.1 ≠ (TJx4a65c b).2.1 := by decide +kernel
theorem tyJx4a65c_ok : ∀ k, k < 3 → parseFieldDescriptor (TJx4a65c k).2.2.1 = some (tyJx4a65c k) := by decide +kernel
abbrev cJx4a65c_init_da8c8 : ByteArray := prog_21_method_2_code
def yJx4a65c_init_da8c8 : MethodName := ⟨RJx4a65c, "<init>", "()V"⟩
abbrev cJx4a65c_grow_92f84 : ByteArray := prog_21_method_6_code
def yJx4a65c_grow_92f84 : MethodName := ⟨RJx4a65c, "grow", "(I)[Ljava/lang/Object;"⟩
abbrev cJx4a65c_grow_d5877 : ByteArray := prog_21_method_7_code
def yJx4a65c_grow_d5877 : MethodName := ⟨RJx4a65c, "grow", "()[Ljava/lang/Object;"⟩
abbrev cJx4a65c_size_8abf5 : ByteArray := prog_21_method_8_code
def yJx4a65c_size_8abf5 : MethodName := ⟨RJx4a65c, "size", "()I"⟩
abbrev cJx4a65c_elementData_915e3 : ByteArray := prog_21_method_18_code
def yJx4a65c_elementData_915e3 : MethodName := ⟨RJx4a65c, "elementData", "(I)Ljava/lang/Object;"⟩
abbrev cJx4a65c_get_915e3 : ByteArray := prog_21_method_20_code
def yJx4a65c_get_915e3 : MethodName := ⟨RJx4a65c, "get", "(I)Ljava/lang/Object;"⟩
abbrev cJx4a65c_add_72be8 : ByteArray := prog_21_method_24_code
def yJx4a65c_add_72be8 : MethodName := ⟨RJx4a65c, "add", "(Ljava/lang/Object;[Ljava/lang/Object;I)V"⟩
abbrev cJx4a65c_add_9ea2d : ByteArray := prog_21_method_25_code
def yJx4a65c_add_9ea2d : MethodName := ⟨RJx4a65c, "add", "(Ljava/lang/Object;)Z"⟩
abbrev cJx4a65c_remove_915e3 : ByteArray := prog_21_method_29_code
def yJx4a65c_remove_915e3 : MethodName := ⟨RJx4a65c, "remove", "(I)Ljava/lang/Object;"⟩
abbrev cJx4a65c_fastRemove_b59b0 : ByteArray := prog_21_method_39_code
def yJx4a65c_fastRemove_b59b0 : MethodName := ⟨RJx4a65c, "fastRemove", "([Ljava/lang/Object;I)V"⟩
def RJ7 : String := "java/util/Arrays"
def TJ7 : u_T := fun k => match k with
  | _ => ("", "", "", false)
def tyJ7 : Nat → FieldType := fun k => match k with
  | _ => .int
theorem nmJ7 : ∀ a, a < 0 → ∀ b, b < 0 → a ≠ b → (TJ7 a).2.1 ≠ (TJ7 b).2.1 := by decide +kernel
theorem tyJ7_ok : ∀ k, k < 0 → parseFieldDescriptor (TJ7 k).2.2.1 = some (tyJ7 k) := by decide +kernel
abbrev cJ7_fill_53178 : ByteArray := prog_22_method_103_code
def yJ7_fill_53178 : MethodName := ⟨RJ7, "fill", "([II)V"⟩
abbrev cJ7_copyOf_1904c : ByteArray := prog_22_method_119_code
def yJ7_copyOf_1904c : MethodName := ⟨RJ7, "copyOf", "([Ljava/lang/Object;I)[Ljava/lang/Object;"⟩
abbrev cJ7_copyOf_6403c : ByteArray := prog_22_method_120_code
def yJ7_copyOf_6403c : MethodName := ⟨RJ7, "copyOf", "([Ljava/lang/Object;ILjava/lang/Class;)[Ljava/lang/Object;"⟩
abbrev cJ7_copyOf_59c91 : ByteArray := prog_22_method_123_code
def yJ7_copyOf_59c91 : MethodName := ⟨RJ7, "copyOf", "([II)[I"⟩
def RJx5ef63 : String := "java/util/Collection"
def TJx5ef63 : u_T := fun k => match k with
  | _ => ("", "", "", false)
def tyJx5ef63 : Nat → FieldType := fun k => match k with
  | _ => .int
theorem nmJx5ef63 : ∀ a, a < 0 → ∀ b, b < 0 → a ≠ b → (TJx5ef63 a).2.1 ≠ (TJx5ef63 b).2.1 := by decide +kernel
theorem tyJx5ef63_ok : ∀ k, k < 0 → parseFieldDescriptor (TJx5ef63 k).2.2.1 = some (tyJx5ef63 k) := by decide +kernel
def RJxbd725 : String := "java/util/List"
def TJxbd725 : u_T := fun k => match k with
  | _ => ("", "", "", false)
def tyJxbd725 : Nat → FieldType := fun k => match k with
  | _ => .int
theorem nmJxbd725 : ∀ a, a < 0 → ∀ b, b < 0 → a ≠ b → (TJxbd725 a).2.1 ≠ (TJxbd725 b).2.1 := by decide +kernel
theorem tyJxbd725_ok : ∀ k, k < 0 → parseFieldDescriptor (TJxbd725 k).2.2.1 = some (tyJxbd725 k) := by decide +kernel
def RJ15 : String := "java/util/Objects"
def TJ15 : u_T := fun k => match k with
  | _ => ("", "", "", false)
def tyJ15 : Nat → FieldType := fun k => match k with
  | _ => .int
theorem nmJ15 : ∀ a, a < 0 → ∀ b, b < 0 → a ≠ b → (TJ15 a).2.1 ≠ (TJ15 b).2.1 := by decide +kernel
theorem tyJ15_ok : ∀ k, k < 0 → parseFieldDescriptor (TJ15 k).2.2.1 = some (tyJ15 k) := by decide +kernel
abbrev cJ15_checkIndex_7cf53 : ByteArray := prog_25_method_17_code
def yJ15_checkIndex_7cf53 : MethodName := ⟨RJ15, "checkIndex", "(II)I"⟩
def RJxf0a74 : String := "java/util/RandomAccess"
def TJxf0a74 : u_T := fun k => match k with
  | _ => ("", "", "", false)
def tyJxf0a74 : Nat → FieldType := fun k => match k with
  | _ => .int
theorem nmJxf0a74 : ∀ a, a < 0 → ∀ b, b < 0 → a ≠ b → (TJxf0a74 a).2.1 ≠ (TJxf0a74 b).2.1 := by decide +kernel
theorem tyJxf0a74_ok : ∀ k, k < 0 → parseFieldDescriptor (TJxf0a74 k).2.2.1 = some (tyJxf0a74 k) := by decide +kernel
def RJxa66e6 : String := "java/util/SequencedCollection"
def TJxa66e6 : u_T := fun k => match k with
  | _ => ("", "", "", false)
def tyJxa66e6 : Nat → FieldType := fun k => match k with
  | _ => .int
theorem nmJxa66e6 : ∀ a, a < 0 → ∀ b, b < 0 → a ≠ b → (TJxa66e6 a).2.1 ≠ (TJxa66e6 b).2.1 := by decide +kernel
theorem tyJxa66e6_ok : ∀ k, k < 0 → parseFieldDescriptor (TJxa66e6 k).2.2.1 = some (tyJxa66e6 k) := by decide +kernel
def RJ8 : String := "jdk/internal/util/ArraysSupport"
def TJ8 : u_T := fun k => match k with
  | _ => ("", "", "", false)
def tyJ8 : Nat → FieldType := fun k => match k with
  | _ => .int
theorem nmJ8 : ∀ a, a < 0 → ∀ b, b < 0 → a ≠ b → (TJ8 a).2.1 ≠ (TJ8 b).2.1 := by decide +kernel
theorem tyJ8_ok : ∀ k, k < 0 → parseFieldDescriptor (TJ8 k).2.2.1 = some (tyJ8 k) := by decide +kernel
abbrev cJ8_newLength_cabcc : ByteArray := prog_28_method_27_code
def yJ8_newLength_cabcc : MethodName := ⟨RJ8, "newLength", "(III)I"⟩
abbrev cJ8_hugeLength_7cf53 : ByteArray := prog_28_method_28_code
def yJ8_hugeLength_7cf53 : MethodName := ⟨RJ8, "hugeLength", "(II)I"⟩
def RJ3 : String := "jdk/internal/util/Preconditions"
def TJ3 : u_T := fun k => match k with
  | _ => ("", "", "", false)
def tyJ3 : Nat → FieldType := fun k => match k with
  | _ => .int
theorem nmJ3 : ∀ a, a < 0 → ∀ b, b < 0 → a ≠ b → (TJ3 a).2.1 ≠ (TJ3 b).2.1 := by decide +kernel
theorem tyJ3_ok : ∀ k, k < 0 → parseFieldDescriptor (TJ3 k).2.2.1 = some (tyJ3 k) := by decide +kernel
abbrev cJ3_checkIndex_8e157 : ByteArray := prog_29_method_11_code
def yJ3_checkIndex_8e157 : MethodName := ⟨RJ3, "checkIndex", "(IILjava/util/function/BiFunction;)I"⟩
def RL : String := "NineBridgesLaw"
abbrev cL_law : ByteArray := code
def yL_law : MethodName := ⟨RL, "law", "([I)Z"⟩
abbrev vwCl : List vw_C := [(RJx4a65c, TJx4a65c, 3), (RX0, TX0, 6), (RX1, TX1, 5), (RX2, TX2, 6), (RX3, TX3, 6), (RX4, TX4, 4), (RX5, TX5, 2), (RX6, TX6, 2), (RX7, TX7, 9), (RX8, TX8, 6), (RX9, TX9, 9), (RX10, TX10, 10), (RX11, TX11, 29)]
