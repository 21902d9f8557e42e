def RX0 : String := "AloneRooms$Comers"
def TX0 : u_T := fun k => match k with
  | _ => ("", "", "", false)
def tyX0 : Nat → FieldType := fun k => match k with
  | _ => .int
abbrev wsX00 : List Cond := u_ws RX0 TX0 0
theorem nmX0 : ∀ a, a < 0 → ∀ b, b < 0 → a ≠ b → (TX0 a).2.1 ≠ (TX0 b).2.1 := by decide +kernel
theorem tyX0_ok : ∀ k, k < 0 → parseFieldDescriptor (TX0 k).2.2.1 = some (tyX0 k) := by decide +kernel
abbrev cX0_init : ByteArray := prog_2_method_1_code
def yX0_init : MethodName := ⟨RX0, "<init>", "()V"⟩
abbrev cX0_lays : ByteArray := prog_2_method_2_code
def yX0_lays : MethodName := ⟨RX0, "lays", "(ZZI)Z"⟩
def RX1 : String := "AloneRooms$Each"
def TX1 : u_T := fun k => match k with
  | _ => ("", "", "", false)
def tyX1 : Nat → FieldType := fun k => match k with
  | _ => .int
abbrev wsX10 : List Cond := u_ws RX1 TX1 0
theorem nmX1 : ∀ a, a < 0 → ∀ b, b < 0 → a ≠ b → (TX1 a).2.1 ≠ (TX1 b).2.1 := by decide +kernel
theorem tyX1_ok : ∀ k, k < 0 → parseFieldDescriptor (TX1 k).2.2.1 = some (tyX1 k) := by decide +kernel
abbrev cX1_init : ByteArray := prog_3_method_1_code
def yX1_init : MethodName := ⟨RX1, "<init>", "()V"⟩
abbrev cX1_lays : ByteArray := prog_3_method_2_code
def yX1_lays : MethodName := ⟨RX1, "lays", "(ZZI)Z"⟩
def RX2 : String := "AloneRooms$Evening"
def TX2 : u_T := fun k => match k with
  | 0 => ("AloneRooms$Evening", "row", "[I", true)
  | 1 => ("AloneRooms$Evening", "house", "LAloneRooms$House;", false)
  | 2 => ("AloneRooms$Evening", "law", "LAloneRooms$Once;", false)
  | 3 => ("AloneRooms$Evening", "length", "I", false)
  | 4 => ("AloneRooms$Evening", "first", "I", false)
  | 5 => ("AloneRooms$Evening", "keeping", "[[I", true)
  | 6 => ("AloneRooms$Evening", "rest", "[[I", true)
  | 7 => ("AloneRooms$Evening", "leastRest", "[I", true)
  | 8 => ("AloneRooms$Evening", "lone", "[I", true)
  | 9 => ("AloneRooms$Evening", "stands", "LAloneRooms$Ways;", true)
  | _ => ("AloneRooms$Evening", "ways", "LAloneRooms$Ways;", true)
def tyX2 : Nat → FieldType := fun k => match k with
  | 0 => .array .int
  | 1 => .object "AloneRooms$House"
  | 2 => .object "AloneRooms$Once"
  | 3 => .int
  | 4 => .int
  | 5 => .array (.array .int)
  | 6 => .array (.array .int)
  | 7 => .array .int
  | 8 => .array .int
  | 9 => .object "AloneRooms$Ways"
  | _ => .object "AloneRooms$Ways"
abbrev wsX20 : List Cond := u_ws RX2 TX2 11
theorem nmX2 : ∀ a, a < 11 → ∀ b, b < 11 → a ≠ b → (TX2 a).2.1 ≠ (TX2 b).2.1 := by decide +kernel
theorem tyX2_ok : ∀ k, k < 11 → parseFieldDescriptor (TX2 k).2.2.1 = some (tyX2 k) := by decide +kernel
abbrev cX2_init : ByteArray := prog_4_method_1_code
def yX2_init : MethodName := ⟨RX2, "<init>", "()V"⟩
abbrev cX2_weigh : ByteArray := prog_4_method_2_code
def yX2_weigh : MethodName := ⟨RX2, "weigh", "(LAloneRooms$House;LAloneRooms$Once;I)I"⟩
abbrev cX2_markKeeping : ByteArray := prog_4_method_3_code
def yX2_markKeeping : MethodName := ⟨RX2, "markKeeping", "(I)V"⟩
abbrev cX2_fillRest : ByteArray := prog_4_method_4_code
def yX2_fillRest : MethodName := ⟨RX2, "fillRest", "(I)V"⟩
abbrev cX2_leastFrom : ByteArray := prog_4_method_5_code
def yX2_leastFrom : MethodName := ⟨RX2, "leastFrom", "(II)I"⟩
def RX3 : String := "AloneRooms$Halves"
def TX3 : u_T := fun k => match k with
  | _ => ("", "", "", false)
def tyX3 : Nat → FieldType := fun k => match k with
  | _ => .int
abbrev wsX30 : List Cond := u_ws RX3 TX3 0
theorem nmX3 : ∀ a, a < 0 → ∀ b, b < 0 → a ≠ b → (TX3 a).2.1 ≠ (TX3 b).2.1 := by decide +kernel
theorem tyX3_ok : ∀ k, k < 0 → parseFieldDescriptor (TX3 k).2.2.1 = some (tyX3 k) := by decide +kernel
abbrev cX3_init : ByteArray := prog_5_method_1_code
def yX3_init : MethodName := ⟨RX3, "<init>", "()V"⟩
abbrev cX3_share : ByteArray := prog_5_method_2_code
def yX3_share : MethodName := ⟨RX3, "share", "(I)I"⟩
def RX4 : String := "AloneRooms$House"
def TX4 : u_T := fun k => match k with
  | 0 => ("AloneRooms$House", "size", "I", false)
  | 1 => ("AloneRooms$House", "cats", "I", false)
  | 2 => ("AloneRooms$House", "people", "I", false)
  | 3 => ("AloneRooms$House", "where", "I", false)
  | 4 => ("AloneRooms$House", "kind", "I", false)
  | 5 => ("AloneRooms$House", "beats", "I", false)
  | 6 => ("AloneRooms$House", "planned", "I", false)
  | 7 => ("AloneRooms$House", "pasts", "I", false)
  | 8 => ("AloneRooms$House", "doors", "[I", true)
  | 9 => ("AloneRooms$House", "pennies", "[I", true)
  | 10 => ("AloneRooms$House", "told", "[I", true)
  | 11 => ("AloneRooms$House", "purses", "[I", true)
  | 12 => ("AloneRooms$House", "wishes", "[I", true)
  | 13 => ("AloneRooms$House", "plan", "[I", true)
  | _ => ("AloneRooms$House", "past", "[I", true)
def tyX4 : Nat → FieldType := fun k => match k with
  | 0 => .int
  | 1 => .int
  | 2 => .int
  | 3 => .int
  | 4 => .int
  | 5 => .int
  | 6 => .int
  | 7 => .int
  | 8 => .array .int
  | 9 => .array .int
  | 10 => .array .int
  | 11 => .array .int
  | 12 => .array .int
  | 13 => .array .int
  | _ => .array .int
abbrev wsX40 : List Cond := u_ws RX4 TX4 15
theorem nmX4 : ∀ a, a < 15 → ∀ b, b < 15 → a ≠ b → (TX4 a).2.1 ≠ (TX4 b).2.1 := by decide +kernel
theorem tyX4_ok : ∀ k, k < 15 → parseFieldDescriptor (TX4 k).2.2.1 = some (tyX4 k) := by decide +kernel
abbrev cX4_init : ByteArray := prog_6_method_1_code
def yX4_init : MethodName := ⟨RX4, "<init>", "()V"⟩
abbrev cX4_empty : ByteArray := prog_6_method_2_code
def yX4_empty : MethodName := ⟨RX4, "empty", "(I)V"⟩
abbrev cX4_copy : ByteArray := prog_6_method_3_code
def yX4_copy : MethodName := ⟨RX4, "copy", "(LAloneRooms$House;)V"⟩
abbrev cX4_enter : ByteArray := prog_6_method_4_code
def yX4_enter : MethodName := ⟨RX4, "enter", "(I)V"⟩
abbrev cX4_doorCount : ByteArray := prog_6_method_5_code
def yX4_doorCount : MethodName := ⟨RX4, "doorCount", "()I"⟩
abbrev cX4_reach : ByteArray := prog_6_method_6_code
def yX4_reach : MethodName := ⟨RX4, "reach", "(I)I"⟩
abbrev cX4_everywhere : ByteArray := prog_6_method_7_code
def yX4_everywhere : MethodName := ⟨RX4, "everywhere", "()I"⟩
abbrev cX4_canGo : ByteArray := prog_6_method_8_code
def yX4_canGo : MethodName := ⟨RX4, "canGo", "(II)Z"⟩
abbrev cX4_peopled : ByteArray := prog_6_method_9_code
def yX4_peopled : MethodName := ⟨RX4, "peopled", "()I"⟩
abbrev cX4_lone : ByteArray := prog_6_method_10_code
def yX4_lone : MethodName := ⟨RX4, "lone", "(I)I"⟩
abbrev cX4_isAloneIn : ByteArray := prog_6_method_11_code
def yX4_isAloneIn : MethodName := ⟨RX4, "isAloneIn", "(II)Z"⟩
abbrev cX4_markLone : ByteArray := prog_6_method_12_code
def yX4_markLone : MethodName := ⟨RX4, "markLone", "([ILAloneRooms$Ways;)V"⟩
abbrev cX4_payers : ByteArray := prog_6_method_13_code
def yX4_payers : MethodName := ⟨RX4, "payers", "(IIIIILAloneRooms$Once;)I"⟩
abbrev cX4_go : ByteArray := prog_6_method_14_code
def yX4_go : MethodName := ⟨RX4, "go", "(ILAloneRooms$Once;)I"⟩
abbrev cX4_gather : ByteArray := prog_6_method_15_code
def yX4_gather : MethodName := ⟨RX4, "gather", "(IILAloneRooms$Once;)V"⟩
abbrev cX4_isAsTold : ByteArray := prog_6_method_16_code
def yX4_isAsTold : MethodName := ⟨RX4, "isAsTold", "()Z"⟩
abbrev cX4_remember : ByteArray := prog_6_method_17_code
def yX4_remember : MethodName := ⟨RX4, "remember", "()V"⟩
abbrev cX4_goBack : ByteArray := prog_6_method_18_code
def yX4_goBack : MethodName := ⟨RX4, "goBack", "()V"⟩
abbrev cX4_merge : ByteArray := prog_6_method_19_code
def yX4_merge : MethodName := ⟨RX4, "merge", "(II)V"⟩
abbrev cX4_toFirst : ByteArray := prog_6_method_20_code
def yX4_toFirst : MethodName := ⟨RX4, "toFirst", "(III)I"⟩
def RX5 : String := "AloneRooms$Once"
def TX5 : u_T := fun k => match k with
  | _ => ("", "", "", false)
def tyX5 : Nat → FieldType := fun k => match k with
  | _ => .int
abbrev wsX50 : List Cond := u_ws RX5 TX5 0
theorem nmX5 : ∀ a, a < 0 → ∀ b, b < 0 → a ≠ b → (TX5 a).2.1 ≠ (TX5 b).2.1 := by decide +kernel
theorem tyX5_ok : ∀ k, k < 0 → parseFieldDescriptor (TX5 k).2.2.1 = some (tyX5 k) := by decide +kernel
abbrev cX5_init : ByteArray := prog_7_method_1_code
def yX5_init : MethodName := ⟨RX5, "<init>", "()V"⟩
abbrev cX5_lays : ByteArray := prog_7_method_2_code
def yX5_lays : MethodName := ⟨RX5, "lays", "(ZZI)Z"⟩
abbrev cX5_mindsBeats : ByteArray := prog_7_method_3_code
def yX5_mindsBeats : MethodName := ⟨RX5, "mindsBeats", "()Z"⟩
abbrev cX5_share : ByteArray := prog_7_method_4_code
def yX5_share : MethodName := ⟨RX5, "share", "(I)I"⟩
def RX6 : String := "AloneRooms$Search"
def TX6 : u_T := fun k => match k with
  | 0 => ("AloneRooms$Search", "house", "LAloneRooms$House;", false)
  | 1 => ("AloneRooms$Search", "law", "LAloneRooms$Once;", false)
  | 2 => ("AloneRooms$Search", "beatsOf", "[[I", true)
  | 3 => ("AloneRooms$Search", "reached", "[I", true)
  | 4 => ("AloneRooms$Search", "many", "I", false)
  | 5 => ("AloneRooms$Search", "lone", "[I", true)
  | _ => ("AloneRooms$Search", "ways", "LAloneRooms$Ways;", true)
def tyX6 : Nat → FieldType := fun k => match k with
  | 0 => .object "AloneRooms$House"
  | 1 => .object "AloneRooms$Once"
  | 2 => .array (.array .int)
  | 3 => .array .int
  | 4 => .int
  | 5 => .array .int
  | _ => .object "AloneRooms$Ways"
abbrev wsX60 : List Cond := u_ws RX6 TX6 7
theorem nmX6 : ∀ a, a < 7 → ∀ b, b < 7 → a ≠ b → (TX6 a).2.1 ≠ (TX6 b).2.1 := by decide +kernel
theorem tyX6_ok : ∀ k, k < 7 → parseFieldDescriptor (TX6 k).2.2.1 = some (tyX6 k) := by decide +kernel
abbrev cX6_init : ByteArray := prog_8_method_1_code
def yX6_init : MethodName := ⟨RX6, "<init>", "()V"⟩
abbrev cX6_beatsTo : ByteArray := prog_8_method_2_code
def yX6_beatsTo : MethodName := ⟨RX6, "beatsTo", "(LAloneRooms$House;LAloneRooms$Once;I)I"⟩
abbrev cX6_spread : ByteArray := prog_8_method_3_code
def yX6_spread : MethodName := ⟨RX6, "spread", "(II)V"⟩
abbrev cX6_reach : ByteArray := prog_8_method_4_code
def yX6_reach : MethodName := ⟨RX6, "reach", "(II)V"⟩
abbrev cX6_sideOf : ByteArray := prog_8_method_5_code
def yX6_sideOf : MethodName := ⟨RX6, "sideOf", "(I)I"⟩
def RX7 : String := "AloneRooms$Sleep"
def TX7 : u_T := fun k => match k with
  | _ => ("", "", "", false)
def tyX7 : Nat → FieldType := fun k => match k with
  | _ => .int
abbrev wsX70 : List Cond := u_ws RX7 TX7 0
theorem nmX7 : ∀ a, a < 0 → ∀ b, b < 0 → a ≠ b → (TX7 a).2.1 ≠ (TX7 b).2.1 := by decide +kernel
theorem tyX7_ok : ∀ k, k < 0 → parseFieldDescriptor (TX7 k).2.2.1 = some (tyX7 k) := by decide +kernel
abbrev cX7_init : ByteArray := prog_9_method_1_code
def yX7_init : MethodName := ⟨RX7, "<init>", "()V"⟩
abbrev cX7_lays : ByteArray := prog_9_method_2_code
def yX7_lays : MethodName := ⟨RX7, "lays", "(ZZI)Z"⟩
abbrev cX7_mindsBeats : ByteArray := prog_9_method_3_code
def yX7_mindsBeats : MethodName := ⟨RX7, "mindsBeats", "()Z"⟩
def RX8 : String := "AloneRooms$Text"
def TX8 : u_T := fun k => match k with
  | 0 => ("AloneRooms$Text", "length", "I", false)
  | 1 => ("AloneRooms$Text", "bytes", "[I", true)
  | 2 => ("AloneRooms$Text", "token", "I", false)
  | 3 => ("AloneRooms$Text", "place", "I", false)
  | 4 => ("AloneRooms$Text", "behind", "I", false)
  | 5 => ("AloneRooms$Text", "value", "I", false)
  | _ => ("AloneRooms$Text", "fault", "I", false)
def tyX8 : Nat → FieldType := fun k => match k with
  | 0 => .int
  | 1 => .array .int
  | 2 => .int
  | 3 => .int
  | 4 => .int
  | 5 => .int
  | _ => .int
abbrev wsX80 : List Cond := u_ws RX8 TX8 7
theorem nmX8 : ∀ a, a < 7 → ∀ b, b < 7 → a ≠ b → (TX8 a).2.1 ≠ (TX8 b).2.1 := by decide +kernel
theorem tyX8_ok : ∀ k, k < 7 → parseFieldDescriptor (TX8 k).2.2.1 = some (tyX8 k) := by decide +kernel
abbrev cX8_init : ByteArray := prog_10_method_1_code
def yX8_init : MethodName := ⟨RX8, "<init>", "()V"⟩
abbrev cX8_add : ByteArray := prog_10_method_2_code
def yX8_add : MethodName := ⟨RX8, "add", "(JI)V"⟩
abbrev cX8_parse : ByteArray := prog_10_method_3_code
def yX8_parse : MethodName := ⟨RX8, "parse", "(LAloneRooms$House;)I"⟩
abbrev cX8_takeItem : ByteArray := prog_10_method_4_code
def yX8_takeItem : MethodName := ⟨RX8, "takeItem", "(LAloneRooms$House;)V"⟩
abbrev cX8_takeNumber : ByteArray := prog_10_method_5_code
def yX8_takeNumber : MethodName := ⟨RX8, "takeNumber", "(II)I"⟩
abbrev cX8_takeStop : ByteArray := prog_10_method_6_code
def yX8_takeStop : MethodName := ⟨RX8, "takeStop", "()V"⟩
abbrev cX8_advance : ByteArray := prog_10_method_7_code
def yX8_advance : MethodName := ⟨RX8, "advance", "()V"⟩
abbrev cX8_isWithin : ByteArray := prog_10_method_8_code
def yX8_isWithin : MethodName := ⟨RX8, "isWithin", "(ICC)Z"⟩
abbrev cX8_endOf : ByteArray := prog_10_method_9_code
def yX8_endOf : MethodName := ⟨RX8, "endOf", "(CC)I"⟩
abbrev cX8_numberToken : ByteArray := prog_10_method_10_code
def yX8_numberToken : MethodName := ⟨RX8, "numberToken", "()I"⟩
abbrev cX8_wordToken : ByteArray := prog_10_method_11_code
def yX8_wordToken : MethodName := ⟨RX8, "wordToken", "()I"⟩
abbrev cX8_spells : ByteArray := prog_10_method_12_code
def yX8_spells : MethodName := ⟨RX8, "spells", "(Ljava/lang/String;)Z"⟩
def RX9 : String := "AloneRooms$Walk"
def TX9 : u_T := fun k => match k with
  | 0 => ("AloneRooms$Walk", "most", "I", false)
  | 1 => ("AloneRooms$Walk", "steps", "I", false)
  | 2 => ("AloneRooms$Walk", "best", "[I", true)
  | 3 => ("AloneRooms$Walk", "house", "LAloneRooms$House;", false)
  | 4 => ("AloneRooms$Walk", "limit", "I", false)
  | _ => ("AloneRooms$Walk", "row", "[I", true)
def tyX9 : Nat → FieldType := fun k => match k with
  | 0 => .int
  | 1 => .int
  | 2 => .array .int
  | 3 => .object "AloneRooms$House"
  | 4 => .int
  | _ => .array .int
abbrev wsX90 : List Cond := u_ws RX9 TX9 6
theorem nmX9 : ∀ a, a < 6 → ∀ b, b < 6 → a ≠ b → (TX9 a).2.1 ≠ (TX9 b).2.1 := by decide +kernel
theorem tyX9_ok : ∀ k, k < 6 → parseFieldDescriptor (TX9 k).2.2.1 = some (tyX9 k) := by decide +kernel
abbrev cX9_init : ByteArray := prog_11_method_1_code
def yX9_init : MethodName := ⟨RX9, "<init>", "()V"⟩
abbrev cX9_look : ByteArray := prog_11_method_2_code
def yX9_look : MethodName := ⟨RX9, "look", "(LAloneRooms$House;II)V"⟩
abbrev cX9_go : ByteArray := prog_11_method_3_code
def yX9_go : MethodName := ⟨RX9, "go", "(LAloneRooms$Walk;IIII)V"⟩
def RX10 : String := "AloneRooms$Ways"
def TX10 : u_T := fun k => match k with
  | 0 => ("AloneRooms$Ways", "at", "I", false)
  | 1 => ("AloneRooms$Ways", "people", "I", false)
  | _ => ("AloneRooms$Ways", "masks", "[I", true)
def tyX10 : Nat → FieldType := fun k => match k with
  | 0 => .int
  | 1 => .int
  | _ => .array .int
abbrev wsX100 : List Cond := u_ws RX10 TX10 3
theorem nmX10 : ∀ a, a < 3 → ∀ b, b < 3 → a ≠ b → (TX10 a).2.1 ≠ (TX10 b).2.1 := by decide +kernel
theorem tyX10_ok : ∀ k, k < 3 → parseFieldDescriptor (TX10 k).2.2.1 = some (tyX10 k) := by decide +kernel
abbrev cX10_init : ByteArray := prog_12_method_1_code
def yX10_init : MethodName := ⟨RX10, "<init>", "()V"⟩
abbrev cX10_all : ByteArray := prog_12_method_2_code
def yX10_all : MethodName := ⟨RX10, "all", "(LAloneRooms$House;)I"⟩
abbrev cX10_among : ByteArray := prog_12_method_3_code
def yX10_among : MethodName := ⟨RX10, "among", "(LAloneRooms$House;[I)I"⟩
abbrev cX10_onward : ByteArray := prog_12_method_4_code
def yX10_onward : MethodName := ⟨RX10, "onward", "(LAloneRooms$House;I)I"⟩
abbrev cX10_onwardAmong : ByteArray := prog_12_method_5_code
def yX10_onwardAmong : MethodName := ⟨RX10, "onwardAmong", "(LAloneRooms$House;I[I)I"⟩
abbrev cX10_begin : ByteArray := prog_12_method_6_code
def yX10_begin : MethodName := ⟨RX10, "begin", "()I"⟩
abbrev cX10_step : ByteArray := prog_12_method_7_code
def yX10_step : MethodName := ⟨RX10, "step", "()V"⟩
def RX11 : String := "AloneRooms"
def TX11 : u_T := fun k => match k with
  | 0 => ("AloneRooms", "house", "LAloneRooms$House;", true)
  | 1 => ("AloneRooms", "trial", "LAloneRooms$House;", true)
  | 2 => ("AloneRooms", "images", "[LAloneRooms$House;", true)
  | 3 => ("AloneRooms", "kept", "[Z", true)
  | 4 => ("AloneRooms", "text", "LAloneRooms$Text;", true)
  | 5 => ("AloneRooms", "laws", "[LAloneRooms$Once;", true)
  | 6 => ("AloneRooms", "ways", "LAloneRooms$Ways;", true)
  | 7 => ("AloneRooms", "evening", "LAloneRooms$Evening;", true)
  | 8 => ("AloneRooms", "search", "LAloneRooms$Search;", true)
  | 9 => ("AloneRooms", "walk", "LAloneRooms$Walk;", true)
  | 10 => ("AloneRooms", "refusedBad", "I", false)
  | 11 => ("AloneRooms", "refusedNo", "I", false)
  | _ => ("AloneRooms", "refusedFull", "I", false)
def tyX11 : Nat → FieldType := fun k => match k with
  | 0 => .object "AloneRooms$House"
  | 1 => .object "AloneRooms$House"
  | 2 => .array (.object "AloneRooms$House")
  | 3 => .array .boolean
  | 4 => .object "AloneRooms$Text"
  | 5 => .array (.object "AloneRooms$Once")
  | 6 => .object "AloneRooms$Ways"
  | 7 => .object "AloneRooms$Evening"
  | 8 => .object "AloneRooms$Search"
  | 9 => .object "AloneRooms$Walk"
  | 10 => .int
  | 11 => .int
  | _ => .int
abbrev wsX110 : List Cond := u_ws RX11 TX11 13
theorem nmX11 : ∀ a, a < 13 → ∀ b, b < 13 → a ≠ b → (TX11 a).2.1 ≠ (TX11 b).2.1 := by decide +kernel
theorem tyX11_ok : ∀ k, k < 13 → parseFieldDescriptor (TX11 k).2.2.1 = some (tyX11 k) := by decide +kernel
abbrev cX11_init : ByteArray := prog_1_method_1_code
def yX11_init : MethodName := ⟨RX11, "<init>", "()V"⟩
abbrev cX11_rooms : ByteArray := prog_1_method_2_code
def yX11_rooms : MethodName := ⟨RX11, "rooms", "(I)I"⟩
abbrev cX11_door : ByteArray := prog_1_method_3_code
def yX11_door : MethodName := ⟨RX11, "door", "(IIZ)I"⟩
abbrev cX11_cat : ByteArray := prog_1_method_4_code
def yX11_cat : MethodName := ⟨RX11, "cat", "(IZ)I"⟩
abbrev cX11_lay : ByteArray := prog_1_method_5_code
def yX11_lay : MethodName := ⟨RX11, "lay", "(II)I"⟩
abbrev cX11_person : ByteArray := prog_1_method_6_code
def yX11_person : MethodName := ⟨RX11, "person", "(I)I"⟩
abbrev cX11_law : ByteArray := prog_1_method_7_code
def yX11_law : MethodName := ⟨RX11, "law", "(I)I"⟩
abbrev cX11_wish : ByteArray := prog_1_method_8_code
def yX11_wish : MethodName := ⟨RX11, "wish", "(III)I"⟩
abbrev cX11_type : ByteArray := prog_1_method_9_code
def yX11_type : MethodName := ⟨RX11, "type", "(JI)I"⟩
abbrev cX11_clear : ByteArray := prog_1_method_10_code
def yX11_clear : MethodName := ⟨RX11, "clear", "()I"⟩
abbrev cX11_read : ByteArray := prog_1_method_11_code
def yX11_read : MethodName := ⟨RX11, "read", "()I"⟩
abbrev cX11_beat : ByteArray := prog_1_method_12_code
def yX11_beat : MethodName := ⟨RX11, "beat", "(I)I"⟩
abbrev cX11_undo : ByteArray := prog_1_method_13_code
def yX11_undo : MethodName := ⟨RX11, "undo", "()I"⟩
abbrev cX11_standing : ByteArray := prog_1_method_14_code
def yX11_standing : MethodName := ⟨RX11, "standing", "()I"⟩
abbrev cX11_sill : ByteArray := prog_1_method_15_code
def yX11_sill : MethodName := ⟨RX11, "sill", "(I)I"⟩
abbrev cX11_purse : ByteArray := prog_1_method_16_code
def yX11_purse : MethodName := ⟨RX11, "purse", "(I)I"⟩
abbrev cX11_alone : ByteArray := prog_1_method_17_code
def yX11_alone : MethodName := ⟨RX11, "alone", "(I)I"⟩
abbrev cX11_plan : ByteArray := prog_1_method_18_code
def yX11_plan : MethodName := ⟨RX11, "plan", "(I)I"⟩
abbrev cX11_scrap : ByteArray := prog_1_method_19_code
def yX11_scrap : MethodName := ⟨RX11, "scrap", "()I"⟩
abbrev cX11_judge : ByteArray := prog_1_method_20_code
def yX11_judge : MethodName := ⟨RX11, "judge", "()I"⟩
abbrev cX11_cost : ByteArray := prog_1_method_21_code
def yX11_cost : MethodName := ⟨RX11, "cost", "(I)I"⟩
abbrev cX11_least : ByteArray := prog_1_method_22_code
def yX11_least : MethodName := ⟨RX11, "least", "(II)I"⟩
abbrev cX11_fewest : ByteArray := prog_1_method_23_code
def yX11_fewest : MethodName := ⟨RX11, "fewest", "(I)I"⟩
abbrev cX11_quiet : ByteArray := prog_1_method_24_code
def yX11_quiet : MethodName := ⟨RX11, "quiet", "()I"⟩
abbrev cX11_picks : ByteArray := prog_1_method_25_code
def yX11_picks : MethodName := ⟨RX11, "picks", "(III)I"⟩
abbrev cX11_join : ByteArray := prog_1_method_26_code
def yX11_join : MethodName := ⟨RX11, "join", "(I)I"⟩
abbrev cX11_spy : ByteArray := prog_1_method_27_code
def yX11_spy : MethodName := ⟨RX11, "spy", "(II)I"⟩
abbrev cX11_fits : ByteArray := prog_1_method_28_code
def yX11_fits : MethodName := ⟨RX11, "fits", "()I"⟩
abbrev cX11_was : ByteArray := prog_1_method_29_code
def yX11_was : MethodName := ⟨RX11, "was", "(II)I"⟩
abbrev cX11_rent : ByteArray := prog_1_method_30_code
def yX11_rent : MethodName := ⟨RX11, "rent", "(II)I"⟩
abbrev cX11_drawn : ByteArray := prog_1_method_31_code
def yX11_drawn : MethodName := ⟨RX11, "drawn", "(III)I"⟩
abbrev cX11_image : ByteArray := prog_1_method_32_code
def yX11_image : MethodName := ⟨RX11, "image", "(I)I"⟩
abbrev cX11_from : ByteArray := prog_1_method_33_code
def yX11_from : MethodName := ⟨RX11, "from", "(I)I"⟩
abbrev cX11_status : ByteArray := prog_1_method_34_code
def yX11_status : MethodName := ⟨RX11, "status", "(I)I"⟩
abbrev cX11_count : ByteArray := prog_1_method_35_code
def yX11_count : MethodName := ⟨RX11, "count", "(I)I"⟩
abbrev cX11_digest : ByteArray := prog_1_method_36_code
def yX11_digest : MethodName := ⟨RX11, "digest", "()J"⟩
abbrev cX11_refuse : ByteArray := prog_1_method_37_code
def yX11_refuse : MethodName := ⟨RX11, "refuse", "(I)I"⟩
abbrev cX11_isRoom : ByteArray := prog_1_method_38_code
def yX11_isRoom : MethodName := ⟨RX11, "isRoom", "(I)Z"⟩
abbrev cX11_isPerson : ByteArray := prog_1_method_39_code
def yX11_isPerson : MethodName := ⟨RX11, "isPerson", "(I)Z"⟩
abbrev cX11_isLaw : ByteArray := prog_1_method_40_code
def yX11_isLaw : MethodName := ⟨RX11, "isLaw", "(I)Z"⟩
abbrev cX11_isStanding : ByteArray := prog_1_method_41_code
def yX11_isStanding : MethodName := ⟨RX11, "isStanding", "(I)Z"⟩
abbrev cX11_countFits : ByteArray := prog_1_method_42_code
def yX11_countFits : MethodName := ⟨RX11, "countFits", "(II)I"⟩
abbrev cX11_has : ByteArray := prog_1_method_43_code
def yX11_has : MethodName := ⟨RX11, "has", "(II)Z"⟩
abbrev cX11_roomOf : ByteArray := prog_1_method_44_code
def yX11_roomOf : MethodName := ⟨RX11, "roomOf", "(II)I"⟩
abbrev cX11_wishPlace : ByteArray := prog_1_method_45_code
def yX11_wishPlace : MethodName := ⟨RX11, "wishPlace", "(II)I"⟩
abbrev cX11_drawRoom : ByteArray := prog_1_method_46_code
def yX11_drawRoom : MethodName := ⟨RX11, "drawRoom", "(IJ)I"⟩
def RX12 : String := "AloneRoomsModel"
def TX12 : u_T := fun k => match k with
  | 0 => ("AloneRoomsModel", "row", "[I", true)
  | 1 => ("AloneRoomsModel", "isKept", "[Z", true)
  | 2 => ("AloneRoomsModel", "text", "[I", true)
  | 3 => ("AloneRoomsModel", "length", "I", false)
  | 4 => ("AloneRoomsModel", "refused", "[I", true)
  | 5 => ("AloneRoomsModel", "at", "I", false)
  | 6 => ("AloneRoomsModel", "place", "I", false)
  | 7 => ("AloneRoomsModel", "end", "I", false)
  | 8 => ("AloneRoomsModel", "read", "[I", true)
  | 9 => ("AloneRoomsModel", "readMany", "I", false)
  | 10 => ("AloneRoomsModel", "readRooms", "I", false)
  | 11 => ("AloneRoomsModel", "readPeople", "I", false)
  | 12 => ("AloneRoomsModel", "pennies", "[I", true)
  | 13 => ("AloneRoomsModel", "purses", "[I", true)
  | 14 => ("AloneRoomsModel", "costs", "[I", true)
  | 15 => ("AloneRoomsModel", "joined", "I", false)
  | 16 => ("AloneRoomsModel", "fars", "[I", true)
  | _ => ("AloneRoomsModel", "waiting", "[I", true)
def tyX12 : Nat → FieldType := fun k => match k with
  | 0 => .array .int
  | 1 => .array .boolean
  | 2 => .array .int
  | 3 => .int
  | 4 => .array .int
  | 5 => .int
  | 6 => .int
  | 7 => .int
  | 8 => .array .int
  | 9 => .int
  | 10 => .int
  | 11 => .int
  | 12 => .array .int
  | 13 => .array .int
  | 14 => .array .int
  | 15 => .int
  | 16 => .array .int
  | _ => .array .int
abbrev wsX120 : List Cond := u_ws RX12 TX12 18
theorem nmX12 : ∀ a, a < 18 → ∀ b, b < 18 → a ≠ b → (TX12 a).2.1 ≠ (TX12 b).2.1 := by decide +kernel
theorem tyX12_ok : ∀ k, k < 18 → parseFieldDescriptor (TX12 k).2.2.1 = some (tyX12 k) := by decide +kernel
abbrev cX12_init : ByteArray := prog_14_method_1_code
def yX12_init : MethodName := ⟨RX12, "<init>", "()V"⟩
abbrev cX12_in : ByteArray := prog_14_method_2_code
def yX12_in : MethodName := ⟨RX12, "in", "(JJJ)Z"⟩
abbrev cX12_has : ByteArray := prog_14_method_3_code
def yX12_has : MethodName := ⟨RX12, "has", "(II)Z"⟩
abbrev cX12_bits : ByteArray := prog_14_method_4_code
def yX12_bits : MethodName := ⟨RX12, "bits", "(I)I"⟩
abbrev cX12_bad : ByteArray := prog_14_method_5_code
def yX12_bad : MethodName := ⟨RX12, "bad", "(I)I"⟩
abbrev cX12_no : ByteArray := prog_14_method_6_code
def yX12_no : MethodName := ⟨RX12, "no", "()I"⟩
abbrev cX12_full : ByteArray := prog_14_method_7_code
def yX12_full : MethodName := ⟨RX12, "full", "()I"⟩
abbrev cX12_isRoom : ByteArray := prog_14_method_8_code
def yX12_isRoom : MethodName := ⟨RX12, "isRoom", "(I)Z"⟩
abbrev cX12_isPerson : ByteArray := prog_14_method_9_code
def yX12_isPerson : MethodName := ⟨RX12, "isPerson", "(I)Z"⟩
abbrev cX12_clearAll : ByteArray := prog_14_method_10_code
def yX12_clearAll : MethodName := ⟨RX12, "clearAll", "(I)V"⟩
abbrev cX12_rooms : ByteArray := prog_14_method_11_code
def yX12_rooms : MethodName := ⟨RX12, "rooms", "(I)I"⟩
abbrev cX12_layDoor : ByteArray := prog_14_method_12_code
def yX12_layDoor : MethodName := ⟨RX12, "layDoor", "(IIZ)V"⟩
abbrev cX12_door : ByteArray := prog_14_method_13_code
def yX12_door : MethodName := ⟨RX12, "door", "(IIZ)I"⟩
abbrev cX12_cat : ByteArray := prog_14_method_14_code
def yX12_cat : MethodName := ⟨RX12, "cat", "(IZ)I"⟩
abbrev cX12_lay : ByteArray := prog_14_method_15_code
def yX12_lay : MethodName := ⟨RX12, "lay", "(II)I"⟩
abbrev cX12_addPerson : ByteArray := prog_14_method_16_code
def yX12_addPerson : MethodName := ⟨RX12, "addPerson", "(I)I"⟩
abbrev cX12_person : ByteArray := prog_14_method_17_code
def yX12_person : MethodName := ⟨RX12, "person", "(I)I"⟩
abbrev cX12_law : ByteArray := prog_14_method_18_code
def yX12_law : MethodName := ⟨RX12, "law", "(I)I"⟩
abbrev cX12_wish : ByteArray := prog_14_method_19_code
def yX12_wish : MethodName := ⟨RX12, "wish", "(III)I"⟩
abbrev cX12_type : ByteArray := prog_14_method_20_code
def yX12_type : MethodName := ⟨RX12, "type", "(JI)I"⟩
abbrev cX12_clear : ByteArray := prog_14_method_21_code
def yX12_clear : MethodName := ⟨RX12, "clear", "()I"⟩
abbrev cX12_sort : ByteArray := prog_14_method_22_code
def yX12_sort : MethodName := ⟨RX12, "sort", "(I)I"⟩
abbrev cX12_token : ByteArray := prog_14_method_23_code
def yX12_token : MethodName := ⟨RX12, "token", "()V"⟩
abbrev cX12_isWord : ByteArray := prog_14_method_24_code
def yX12_isWord : MethodName := ⟨RX12, "isWord", "(II)Z"⟩
abbrev cX12_wordOf : ByteArray := prog_14_method_25_code
def yX12_wordOf : MethodName := ⟨RX12, "wordOf", "()I"⟩
abbrev cX12_reads : ByteArray := prog_14_method_26_code
def yX12_reads : MethodName := ⟨RX12, "reads", "(IIII)Z"⟩
abbrev cX12_readsRest : ByteArray := prog_14_method_27_code
def yX12_readsRest : MethodName := ⟨RX12, "readsRest", "(I)Z"⟩
abbrev cX12_readsItem : ByteArray := prog_14_method_28_code
def yX12_readsItem : MethodName := ⟨RX12, "readsItem", "()Z"⟩
abbrev cX12_fault : ByteArray := prog_14_method_29_code
def yX12_fault : MethodName := ⟨RX12, "fault", "()I"⟩
abbrev cX12_tell : ByteArray := prog_14_method_30_code
def yX12_tell : MethodName := ⟨RX12, "tell", "(I)V"⟩
abbrev cX12_read : ByteArray := prog_14_method_31_code
def yX12_read : MethodName := ⟨RX12, "read", "()I"⟩
abbrev cX12_roomIn : ByteArray := prog_14_method_32_code
def yX12_roomIn : MethodName := ⟨RX12, "roomIn", "(II)I"⟩
abbrev cX12_isStanding : ByteArray := prog_14_method_33_code
def yX12_isStanding : MethodName := ⟨RX12, "isStanding", "(I)Z"⟩
abbrev cX12_now : ByteArray := prog_14_method_34_code
def yX12_now : MethodName := ⟨RX12, "now", "()I"⟩
abbrev cX12_isAlone : ByteArray := prog_14_method_35_code
def yX12_isAlone : MethodName := ⟨RX12, "isAlone", "(II)Z"⟩
abbrev cX12_mayGo : ByteArray := prog_14_method_36_code
def yX12_mayGo : MethodName := ⟨RX12, "mayGo", "(II)Z"⟩
abbrev cX12_lays : ByteArray := prog_14_method_37_code
def yX12_lays : MethodName := ⟨RX12, "lays", "(IIIII)Z"⟩
abbrev cX12_laid : ByteArray := prog_14_method_38_code
def yX12_laid : MethodName := ⟨RX12, "laid", "(IIII)I"⟩
abbrev cX12_eldest : ByteArray := prog_14_method_39_code
def yX12_eldest : MethodName := ⟨RX12, "eldest", "(IIIIZ)I"⟩
abbrev cX12_gather : ByteArray := prog_14_method_40_code
def yX12_gather : MethodName := ⟨RX12, "gather", "(III)V"⟩
abbrev cX12_tryBeat : ByteArray := prog_14_method_41_code
def yX12_tryBeat : MethodName := ⟨RX12, "tryBeat", "(II)I"⟩
abbrev cX12_keepPast : ByteArray := prog_14_method_42_code
def yX12_keepPast : MethodName := ⟨RX12, "keepPast", "()V"⟩
abbrev cX12_beat : ByteArray := prog_14_method_43_code
def yX12_beat : MethodName := ⟨RX12, "beat", "(I)I"⟩
abbrev cX12_undo : ByteArray := prog_14_method_44_code
def yX12_undo : MethodName := ⟨RX12, "undo", "()I"⟩
abbrev cX12_standing : ByteArray := prog_14_method_45_code
def yX12_standing : MethodName := ⟨RX12, "standing", "()I"⟩
abbrev cX12_sill : ByteArray := prog_14_method_46_code
def yX12_sill : MethodName := ⟨RX12, "sill", "(I)I"⟩
abbrev cX12_purse : ByteArray := prog_14_method_47_code
def yX12_purse : MethodName := ⟨RX12, "purse", "(I)I"⟩
abbrev cX12_alone : ByteArray := prog_14_method_48_code
def yX12_alone : MethodName := ⟨RX12, "alone", "(I)I"⟩
abbrev cX12_plan : ByteArray := prog_14_method_49_code
def yX12_plan : MethodName := ⟨RX12, "plan", "(I)I"⟩
abbrev cX12_scrap : ByteArray := prog_14_method_50_code
def yX12_scrap : MethodName := ⟨RX12, "scrap", "()I"⟩
abbrev cX12_firstWrong : ByteArray := prog_14_method_51_code
def yX12_firstWrong : MethodName := ⟨RX12, "firstWrong", "()I"⟩
abbrev cX12_judge : ByteArray := prog_14_method_52_code
def yX12_judge : MethodName := ⟨RX12, "judge", "()I"⟩
abbrev cX12_cost : ByteArray := prog_14_method_53_code
def yX12_cost : MethodName := ⟨RX12, "cost", "(I)I"⟩
abbrev cX12_standingOf : ByteArray := prog_14_method_54_code
def yX12_standingOf : MethodName := ⟨RX12, "standingOf", "(I)I"⟩
abbrev cX12_standings : ByteArray := prog_14_method_55_code
def yX12_standings : MethodName := ⟨RX12, "standings", "()I"⟩
abbrev cX12_keepsWishes : ByteArray := prog_14_method_56_code
def yX12_keepsWishes : MethodName := ⟨RX12, "keepsWishes", "(II)Z"⟩
abbrev cX12_by : ByteArray := prog_14_method_57_code
def yX12_by : MethodName := ⟨RX12, "by", "(III)I"⟩
abbrev cX12_layCosts : ByteArray := prog_14_method_58_code
def yX12_layCosts : MethodName := ⟨RX12, "layCosts", "(I)V"⟩
abbrev cX12_firstOf : ByteArray := prog_14_method_59_code
def yX12_firstOf : MethodName := ⟨RX12, "firstOf", "(II)I"⟩
abbrev cX12_least : ByteArray := prog_14_method_60_code
def yX12_least : MethodName := ⟨RX12, "least", "(II)I"⟩
abbrev cX12_fewest : ByteArray := prog_14_method_61_code
def yX12_fewest : MethodName := ⟨RX12, "fewest", "(I)I"⟩
abbrev cX12_quiet : ByteArray := prog_14_method_62_code
def yX12_quiet : MethodName := ⟨RX12, "quiet", "()I"⟩
abbrev cX12_liesOn : ByteArray := prog_14_method_63_code
def yX12_liesOn : MethodName := ⟨RX12, "liesOn", "(III)I"⟩
abbrev cX12_picks : ByteArray := prog_14_method_64_code
def yX12_picks : MethodName := ⟨RX12, "picks", "(III)I"⟩
abbrev cX12_figure : ByteArray := prog_14_method_65_code
def yX12_figure : MethodName := ⟨RX12, "figure", "(II)I"⟩
abbrev cX12_copy : ByteArray := prog_14_method_66_code
def yX12_copy : MethodName := ⟨RX12, "copy", "(II)V"⟩
abbrev cX12_joinTwo : ByteArray := prog_14_method_67_code
def yX12_joinTwo : MethodName := ⟨RX12, "joinTwo", "(II)V"⟩
abbrev cX12_leastBy : ByteArray := prog_14_method_68_code
def yX12_leastBy : MethodName := ⟨RX12, "leastBy", "(I)I"⟩
abbrev cX12_join : ByteArray := prog_14_method_69_code
def yX12_join : MethodName := ⟨RX12, "join", "(I)I"⟩
abbrev cX12_spy : ByteArray := prog_14_method_70_code
def yX12_spy : MethodName := ⟨RX12, "spy", "(II)I"⟩
abbrev cX12_isSoBy : ByteArray := prog_14_method_71_code
def yX12_isSoBy : MethodName := ⟨RX12, "isSoBy", "(II)Z"⟩
abbrev cX12_fits : ByteArray := prog_14_method_72_code
def yX12_fits : MethodName := ⟨RX12, "fits", "()I"⟩
abbrev cX12_was : ByteArray := prog_14_method_73_code
def yX12_was : MethodName := ⟨RX12, "was", "(II)I"⟩
abbrev cX12_rent : ByteArray := prog_14_method_74_code
def yX12_rent : MethodName := ⟨RX12, "rent", "(II)I"⟩
abbrev cX12_drawn : ByteArray := prog_14_method_75_code
def yX12_drawn : MethodName := ⟨RX12, "drawn", "(III)I"⟩
abbrev cX12_image : ByteArray := prog_14_method_76_code
def yX12_image : MethodName := ⟨RX12, "image", "(I)I"⟩
abbrev cX12_from : ByteArray := prog_14_method_77_code
def yX12_from : MethodName := ⟨RX12, "from", "(I)I"⟩
abbrev cX12_status : ByteArray := prog_14_method_78_code
def yX12_status : MethodName := ⟨RX12, "status", "(I)I"⟩
abbrev cX12_countOf : ByteArray := prog_14_method_79_code
def yX12_countOf : MethodName := ⟨RX12, "countOf", "(I)I"⟩
abbrev cX12_count : ByteArray := prog_14_method_80_code
def yX12_count : MethodName := ⟨RX12, "count", "(I)I"⟩
abbrev cX12_digest : ByteArray := prog_14_method_81_code
def yX12_digest : MethodName := ⟨RX12, "digest", "()J"⟩
def RJx145de : String := "java/io/Serializable"
def TJx145de : u_T := fun k => match k with
  | _ => ("", "", "", false)
def tyJx145de : Nat → FieldType := fun k => match k with
  | _ => .int
abbrev wsJx145de0 : List Cond := u_ws RJx145de TJx145de 0
theorem nmJx145de : ∀ a, a < 0 → ∀ b, b < 0 → a ≠ b → (TJx145de a).2.1 ≠ (TJx145de b).2.1 := by decide +kernel
theorem tyJx145de_ok : ∀ k, k < 0 → parseFieldDescriptor (TJx145de k).2.2.1 = some (tyJx145de k) := by decide +kernel
def RJx9f9b0 : String := "java/lang/CharSequence"
def TJx9f9b0 : u_T := fun k => match k with
  | _ => ("", "", "", false)
def tyJx9f9b0 : Nat → FieldType := fun k => match k with
  | _ => .int
abbrev wsJx9f9b00 : List Cond := u_ws RJx9f9b0 TJx9f9b0 0
theorem nmJx9f9b0 : ∀ a, a < 0 → ∀ b, b < 0 → a ≠ b → (TJx9f9b0 a).2.1 ≠ (TJx9f9b0 b).2.1 := by decide +kernel
theorem tyJx9f9b0_ok : ∀ k, k < 0 → parseFieldDescriptor (TJx9f9b0 k).2.2.1 = some (tyJx9f9b0 k) := by decide +kernel
def RJxb160c : String := "java/lang/Comparable"
def TJxb160c : u_T := fun k => match k with
  | _ => ("", "", "", false)
def tyJxb160c : Nat → FieldType := fun k => match k with
  | _ => .int
abbrev wsJxb160c0 : List Cond := u_ws RJxb160c TJxb160c 0
theorem nmJxb160c : ∀ a, a < 0 → ∀ b, b < 0 → a ≠ b → (TJxb160c a).2.1 ≠ (TJxb160c b).2.1 := by decide +kernel
theorem tyJxb160c_ok : ∀ k, k < 0 → parseFieldDescriptor (TJxb160c k).2.2.1 = some (tyJxb160c k) := by decide +kernel
def RJ6 : String := "java/lang/Integer"
def TJ6 : u_T := fun k => match k with
  | _ => ("", "", "", false)
def tyJ6 : Nat → FieldType := fun k => match k with
  | _ => .int
abbrev wsJ60 : List Cond := u_ws RJ6 TJ6 0
theorem nmJ6 : ∀ a, a < 0 → ∀ b, b < 0 → a ≠ b → (TJ6 a).2.1 ≠ (TJ6 b).2.1 := by decide +kernel
theorem tyJ6_ok : ∀ k, k < 0 → parseFieldDescriptor (TJ6 k).2.2.1 = some (tyJ6 k) := by decide +kernel
abbrev cJ6_numberOfTrailingZeros_0f7a4 : ByteArray := prog_15_method_48_code
def yJ6_numberOfTrailingZeros_0f7a4 : MethodName := ⟨RJ6, "numberOfTrailingZeros", "(I)I"⟩
abbrev cJ6_bitCount_0f7a4 : ByteArray := prog_15_method_49_code
def yJ6_bitCount_0f7a4 : MethodName := ⟨RJ6, "bitCount", "(I)I"⟩
def RJ9 : String := "java/lang/Math"
def TJ9 : u_T := fun k => match k with
  | _ => ("", "", "", false)
def tyJ9 : Nat → FieldType := fun k => match k with
  | _ => .int
abbrev wsJ90 : List Cond := u_ws RJ9 TJ9 0
theorem nmJ9 : ∀ a, a < 0 → ∀ b, b < 0 → a ≠ b → (TJ9 a).2.1 ≠ (TJ9 b).2.1 := by decide +kernel
theorem tyJ9_ok : ∀ k, k < 0 → parseFieldDescriptor (TJ9 k).2.2.1 = some (tyJ9 k) := by decide +kernel
abbrev cJ9_max_7cf53 : ByteArray := prog_16_method_65_code
def yJ9_max_7cf53 : MethodName := ⟨RJ9, "max", "(II)I"⟩
abbrev cJ9_min_7cf53 : ByteArray := prog_16_method_69_code
def yJ9_min_7cf53 : MethodName := ⟨RJ9, "min", "(II)I"⟩
def RJ0 : String := "java/lang/String"
def TJ0 : u_T := fun k => match k with
  | _ => ("", "", "", false)
def tyJ0 : Nat → FieldType := fun k => match k with
  | _ => .int
abbrev wsJ00 : List Cond := u_ws RJ0 TJ0 0
theorem nmJ0 : ∀ a, a < 0 → ∀ b, b < 0 → a ≠ b → (TJ0 a).2.1 ≠ (TJ0 b).2.1 := by decide +kernel
theorem tyJ0_ok : ∀ k, k < 0 → parseFieldDescriptor (TJ0 k).2.2.1 = some (tyJ0 k) := by decide +kernel
abbrev cJ0_length_8abf5 : ByteArray := prog_17_method_54_code
def yJ0_length_8abf5 : MethodName := ⟨RJ0, "length", "()I"⟩
abbrev cJ0_charAt_5068e : ByteArray := prog_17_method_56_code
def yJ0_charAt_5068e : MethodName := ⟨RJ0, "charAt", "(I)C"⟩
abbrev cJ0_coder_7d493 : ByteArray := prog_17_method_152_code
def yJ0_coder_7d493 : MethodName := ⟨RJ0, "coder", "()B"⟩
abbrev cJ0_isLatin1_aae02 : ByteArray := prog_17_method_154_code
def yJ0_isLatin1_aae02 : MethodName := ⟨RJ0, "isLatin1", "()Z"⟩
abbrev cJ0_checkIndex_df160 : ByteArray := prog_17_method_155_code
def yJ0_checkIndex_df160 : MethodName := ⟨RJ0, "checkIndex", "(II)V"⟩
def RJ1 : String := "java/lang/StringLatin1"
def TJ1 : u_T := fun k => match k with
  | _ => ("", "", "", false)
def tyJ1 : Nat → FieldType := fun k => match k with
  | _ => .int
abbrev wsJ10 : List Cond := u_ws RJ1 TJ1 0
theorem nmJ1 : ∀ a, a < 0 → ∀ b, b < 0 → a ≠ b → (TJ1 a).2.1 ≠ (TJ1 b).2.1 := by decide +kernel
theorem tyJ1_ok : ∀ k, k < 0 → parseFieldDescriptor (TJ1 k).2.2.1 = some (tyJ1 k) := by decide +kernel
abbrev cJ1_charAt_3b067 : ByteArray := prog_18_method_2_code
def yJ1_charAt_3b067 : MethodName := ⟨RJ1, "charAt", "([BI)C"⟩
def RJ2 : String := "java/lang/StringUTF16"
def TJ2 : u_T := fun k => match k with
  | _ => ("", "", "", false)
def tyJ2 : Nat → FieldType := fun k => match k with
  | _ => .int
abbrev wsJ20 : List Cond := u_ws RJ2 TJ2 0
theorem nmJ2 : ∀ a, a < 0 → ∀ b, b < 0 → a ≠ b → (TJ2 a).2.1 ≠ (TJ2 b).2.1 := by decide +kernel
theorem tyJ2_ok : ∀ k, k < 0 → parseFieldDescriptor (TJ2 k).2.2.1 = some (tyJ2 k) := by decide +kernel
abbrev cJ2_getChar_3b067 : ByteArray := prog_19_method_5_code
def yJ2_getChar_3b067 : MethodName := ⟨RJ2, "getChar", "([BI)C"⟩
abbrev cJ2_length_9d52b : ByteArray := prog_19_method_6_code
def yJ2_length_9d52b : MethodName := ⟨RJ2, "length", "([B)I"⟩
abbrev cJ2_charAt_3b067 : ByteArray := prog_19_method_83_code
def yJ2_charAt_3b067 : MethodName := ⟨RJ2, "charAt", "([BI)C"⟩
abbrev cJ2_checkIndex_2214a : ByteArray := prog_19_method_91_code
def yJ2_checkIndex_2214a : MethodName := ⟨RJ2, "checkIndex", "(I[B)V"⟩
def RJ10 : String := "java/lang/System"
def TJ10 : u_T := fun k => match k with
  | _ => ("", "", "", false)
def tyJ10 : Nat → FieldType := fun k => match k with
  | _ => .int
abbrev wsJ100 : List Cond := u_ws RJ10 TJ10 0
theorem nmJ10 : ∀ a, a < 0 → ∀ b, b < 0 → a ≠ b → (TJ10 a).2.1 ≠ (TJ10 b).2.1 := by decide +kernel
theorem tyJ10_ok : ∀ k, k < 0 → parseFieldDescriptor (TJ10 k).2.2.1 = some (tyJ10 k) := by decide +kernel
def RJxfd54e : String := "java/lang/constant/Constable"
def TJxfd54e : u_T := fun k => match k with
  | _ => ("", "", "", false)
def tyJxfd54e : Nat → FieldType := fun k => match k with
  | _ => .int
abbrev wsJxfd54e0 : List Cond := u_ws RJxfd54e TJxfd54e 0
theorem nmJxfd54e : ∀ a, a < 0 → ∀ b, b < 0 → a ≠ b → (TJxfd54e a).2.1 ≠ (TJxfd54e b).2.1 := by decide +kernel
theorem tyJxfd54e_ok : ∀ k, k < 0 → parseFieldDescriptor (TJxfd54e k).2.2.1 = some (tyJxfd54e k) := by decide +kernel
def RJx3cf43 : String := "java/lang/constant/ConstantDesc"
def TJx3cf43 : u_T := fun k => match k with
  | _ => ("", "", "", false)
def tyJx3cf43 : Nat → FieldType := fun k => match k with
  | _ => .int
abbrev wsJx3cf430 : List Cond := u_ws RJx3cf43 TJx3cf43 0
theorem nmJx3cf43 : ∀ a, a < 0 → ∀ b, b < 0 → a ≠ b → (TJx3cf43 a).2.1 ≠ (TJx3cf43 b).2.1 := by decide +kernel
theorem tyJx3cf43_ok : ∀ k, k < 0 → parseFieldDescriptor (TJx3cf43 k).2.2.1 = some (tyJx3cf43 k) := by decide +kernel
def RJ7 : String := "java/util/Arrays"
def TJ7 : u_T := fun k => match k with
  | _ => ("", "", "", false)
def tyJ7 : Nat → FieldType := fun k => match k with
  | _ => .int
abbrev wsJ70 : List Cond := u_ws RJ7 TJ7 0
theorem nmJ7 : ∀ a, a < 0 → ∀ b, b < 0 → a ≠ b → (TJ7 a).2.1 ≠ (TJ7 b).2.1 := by decide +kernel
theorem tyJ7_ok : ∀ k, k < 0 → parseFieldDescriptor (TJ7 k).2.2.1 = some (tyJ7 k) := by decide +kernel
abbrev cJ7_fill_53178 : ByteArray := prog_21_method_103_code
def yJ7_fill_53178 : MethodName := ⟨RJ7, "fill", "([II)V"⟩
def RJ3 : String := "jdk/internal/util/Preconditions"
def TJ3 : u_T := fun k => match k with
  | _ => ("", "", "", false)
def tyJ3 : Nat → FieldType := fun k => match k with
  | _ => .int
abbrev wsJ30 : List Cond := u_ws RJ3 TJ3 0
theorem nmJ3 : ∀ a, a < 0 → ∀ b, b < 0 → a ≠ b → (TJ3 a).2.1 ≠ (TJ3 b).2.1 := by decide +kernel
theorem tyJ3_ok : ∀ k, k < 0 → parseFieldDescriptor (TJ3 k).2.2.1 = some (tyJ3 k) := by decide +kernel
abbrev cJ3_checkIndex_8e157 : ByteArray := prog_22_method_11_code
def yJ3_checkIndex_8e157 : MethodName := ⟨RJ3, "checkIndex", "(IILjava/util/function/BiFunction;)I"⟩
def RL : String := "AloneRoomsLaw"
abbrev cL_law : ByteArray := code
def yL_law : MethodName := ⟨RL, "law", "([I)Z"⟩
abbrev vwCl : List vw_C := [(RX0, TX0, 0), (RX1, TX1, 0), (RX2, TX2, 11), (RX3, TX3, 0), (RX4, TX4, 15), (RX5, TX5, 0), (RX6, TX6, 7), (RX7, TX7, 0), (RX8, TX8, 7), (RX9, TX9, 6), (RX10, TX10, 3), (RX11, TX11, 13), (RX12, TX12, 18)]
