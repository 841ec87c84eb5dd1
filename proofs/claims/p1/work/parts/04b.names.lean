/-! ===== BEGIN printed: names, fields, word lists, decode rows ===== -/
def RX0 : String := "Twelvehundred$Asking"
def TX0 : u_T := fun k => match k with
  | 0 => ("Twelvehundred$Asking", "households", "Ljava/util/ArrayList;", true)
  | 1 => ("Twelvehundred$Asking", "halls", "Ljava/util/ArrayList;", true)
  | 2 => ("Twelvehundred$Asking", "placing", "LTwelvehundred$Placing;", true)
  | 3 => ("Twelvehundred$Asking", "askedBy", "[I", true)
  | _ => ("Twelvehundred$Asking", "askedCount", "I", false)
def tyX0 : Nat → FieldType := fun k => match k with
  | 0 => .object "java/util/ArrayList"
  | 1 => .object "java/util/ArrayList"
  | 2 => .object "Twelvehundred$Placing"
  | 3 => .array .int
  | _ => .int
abbrev wsX00 : List Cond := u_ws RX0 TX0 5
theorem nmX0 : ∀ a, a < 5 → ∀ b, b < 5 → a ≠ b → (TX0 a).2.1 ≠ (TX0 b).2.1 := by decide +kernel
theorem tyX0_ok : ∀ k, k < 5 → parseFieldDescriptor (TX0 k).2.2.1 = some (tyX0 k) := by decide +kernel
abbrev cX0_init : ByteArray := prog_2_method_1_code
def yX0_init : MethodName := ⟨RX0, "<init>", "(Ljava/util/ArrayList;Ljava/util/ArrayList;LTwelvehundred$Placing;)V"⟩
abbrev cX0_settle : ByteArray := prog_2_method_2_code
def yX0_settle : MethodName := ⟨RX0, "settle", "()V"⟩
abbrev cX0_askNext : ByteArray := prog_2_method_3_code
def yX0_askNext : MethodName := ⟨RX0, "askNext", "()V"⟩
abbrev cX0_favouriteNotAsked : ByteArray := prog_2_method_4_code
def yX0_favouriteNotAsked : MethodName := ⟨RX0, "favouriteNotAsked", "(LTwelvehundred$Household;)LTwelvehundred$Hall;"⟩
abbrev cX0_hasAsked : ByteArray := prog_2_method_5_code
def yX0_hasAsked : MethodName := ⟨RX0, "hasAsked", "(LTwelvehundred$Household;LTwelvehundred$Hall;)Z"⟩
abbrev cX0_ask : ByteArray := prog_2_method_6_code
def yX0_ask : MethodName := ⟨RX0, "ask", "(LTwelvehundred$Household;LTwelvehundred$Hall;)V"⟩
def RX1 : String := "Twelvehundred$Bulletin"
def TX1 : u_T := fun k => match k with
  | 0 => ("Twelvehundred$Bulletin", "listed", "Ljava/util/ArrayList;", true)
  | _ => ("Twelvehundred$Bulletin", "refused", "I", false)
def tyX1 : Nat → FieldType := fun k => match k with
  | 0 => .object "java/util/ArrayList"
  | _ => .int
abbrev wsX10 : List Cond := u_ws RX1 TX1 2
theorem nmX1 : ∀ a, a < 2 → ∀ b, b < 2 → a ≠ b → (TX1 a).2.1 ≠ (TX1 b).2.1 := by decide +kernel
theorem tyX1_ok : ∀ k, k < 2 → parseFieldDescriptor (TX1 k).2.2.1 = some (tyX1 k) := by decide +kernel
abbrev cX1_init : ByteArray := prog_3_method_1_code
def yX1_init : MethodName := ⟨RX1, "<init>", "()V"⟩
abbrev cX1_isName : ByteArray := prog_3_method_2_code
def yX1_isName : MethodName := ⟨RX1, "isName", "(I)Z"⟩
abbrev cX1_isNear : ByteArray := prog_3_method_3_code
def yX1_isNear : MethodName := ⟨RX1, "isNear", "(II)Z"⟩
abbrev cX1_persons : ByteArray := prog_3_method_4_code
def yX1_persons : MethodName := ⟨RX1, "persons", "()I"⟩
abbrev cX1_areTogether : ByteArray := prog_3_method_5_code
def yX1_areTogether : MethodName := ⟨RX1, "areTogether", "(LTwelvehundred$Listed;LTwelvehundred$Listed;)Z"⟩
abbrev cX1_join : ByteArray := prog_3_method_6_code
def yX1_join : MethodName := ⟨RX1, "join", "(II)V"⟩
def RX2 : String := "Twelvehundred$Hall"
def TX2 : u_T := fun k => match k with
  | 0 => ("Twelvehundred$Hall", "number", "I", true)
  | 1 => ("Twelvehundred$Hall", "place", "I", true)
  | _ => ("Twelvehundred$Hall", "roomCount", "I", false)
def tyX2 : Nat → FieldType := fun k => match k with
  | 0 => .int
  | 1 => .int
  | _ => .int
abbrev wsX20 : List Cond := u_ws RX2 TX2 3
theorem nmX2 : ∀ a, a < 3 → ∀ b, b < 3 → a ≠ b → (TX2 a).2.1 ≠ (TX2 b).2.1 := by decide +kernel
theorem tyX2_ok : ∀ k, k < 3 → parseFieldDescriptor (TX2 k).2.2.1 = some (tyX2 k) := by decide +kernel
abbrev cX2_init : ByteArray := prog_4_method_1_code
def yX2_init : MethodName := ⟨RX2, "<init>", "(III)V"⟩
def RX3 : String := "Twelvehundred$Household"
def TX3 : u_T := fun k => match k with
  | 0 => ("Twelvehundred$Household", "number", "I", true)
  | 1 => ("Twelvehundred$Household", "home", "LTwelvehundred$Street;", true)
  | 2 => ("Twelvehundred$Household", "people", "I", true)
  | 3 => ("Twelvehundred$Household", "isFrail", "Z", true)
  | _ => ("Twelvehundred$Household", "state", "I", false)
def tyX3 : Nat → FieldType := fun k => match k with
  | 0 => .int
  | 1 => .object "Twelvehundred$Street"
  | 2 => .int
  | 3 => .boolean
  | _ => .int
abbrev wsX30 : List Cond := u_ws RX3 TX3 5
theorem nmX3 : ∀ a, a < 5 → ∀ b, b < 5 → a ≠ b → (TX3 a).2.1 ≠ (TX3 b).2.1 := by decide +kernel
theorem tyX3_ok : ∀ k, k < 5 → parseFieldDescriptor (TX3 k).2.2.1 = some (tyX3 k) := by decide +kernel
abbrev cX3_init : ByteArray := prog_5_method_1_code
def yX3_init : MethodName := ⟨RX3, "<init>", "(ILTwelvehundred$Street;IZ)V"⟩
abbrev cX3_wouldRather : ByteArray := prog_5_method_2_code
def yX3_wouldRather : MethodName := ⟨RX3, "wouldRather", "(LTwelvehundred$Hall;LTwelvehundred$Hall;)Z"⟩
abbrev cX3_goesBefore : ByteArray := prog_5_method_3_code
def yX3_goesBefore : MethodName := ⟨RX3, "goesBefore", "(LTwelvehundred$Household;)Z"⟩
def RX4 : String := "Twelvehundred$Larder"
def TX4 : u_T := fun k => match k with
  | 0 => ("Twelvehundred$Larder", "lots", "Ljava/util/ArrayList;", true)
  | 1 => ("Twelvehundred$Larder", "given", "I", false)
  | 2 => ("Twelvehundred$Larder", "spoilt", "I", false)
  | _ => ("Twelvehundred$Larder", "missing", "I", false)
def tyX4 : Nat → FieldType := fun k => match k with
  | 0 => .object "java/util/ArrayList"
  | 1 => .int
  | 2 => .int
  | _ => .int
abbrev wsX40 : List Cond := u_ws RX4 TX4 4
theorem nmX4 : ∀ a, a < 4 → ∀ b, b < 4 → a ≠ b → (TX4 a).2.1 ≠ (TX4 b).2.1 := by decide +kernel
theorem tyX4_ok : ∀ k, k < 4 → parseFieldDescriptor (TX4 k).2.2.1 = some (tyX4 k) := by decide +kernel
abbrev cX4_init : ByteArray := prog_6_method_1_code
def yX4_init : MethodName := ⟨RX4, "<init>", "()V"⟩
abbrev cX4_handOut : ByteArray := prog_6_method_2_code
def yX4_handOut : MethodName := ⟨RX4, "handOut", "(I)I"⟩
abbrev cX4_nextToSpoil : ByteArray := prog_6_method_3_code
def yX4_nextToSpoil : MethodName := ⟨RX4, "nextToSpoil", "()LTwelvehundred$Lot;"⟩
abbrev cX4_spoilBefore : ByteArray := prog_6_method_4_code
def yX4_spoilBefore : MethodName := ⟨RX4, "spoilBefore", "(I)V"⟩
abbrev cX4_lastingAt : ByteArray := prog_6_method_5_code
def yX4_lastingAt : MethodName := ⟨RX4, "lastingAt", "(I)I"⟩
abbrev cX4_isBalanced : ByteArray := prog_6_method_6_code
def yX4_isBalanced : MethodName := ⟨RX4, "isBalanced", "()Z"⟩
def RX5 : String := "Twelvehundred$Listed"
def TX5 : u_T := fun k => match k with
  | 0 => ("Twelvehundred$Listed", "name", "I", true)
  | 1 => ("Twelvehundred$Listed", "isStruck", "Z", false)
  | _ => ("Twelvehundred$Listed", "group", "I", false)
def tyX5 : Nat → FieldType := fun k => match k with
  | 0 => .int
  | 1 => .boolean
  | _ => .int
abbrev wsX50 : List Cond := u_ws RX5 TX5 3
theorem nmX5 : ∀ a, a < 3 → ∀ b, b < 3 → a ≠ b → (TX5 a).2.1 ≠ (TX5 b).2.1 := by decide +kernel
theorem tyX5_ok : ∀ k, k < 3 → parseFieldDescriptor (TX5 k).2.2.1 = some (tyX5 k) := by decide +kernel
abbrev cX5_init : ByteArray := prog_7_method_1_code
def yX5_init : MethodName := ⟨RX5, "<init>", "(I)V"⟩
def RX6 : String := "Twelvehundred$Lot"
def TX6 : u_T := fun k => match k with
  | 0 => ("Twelvehundred$Lot", "came", "I", true)
  | 1 => ("Twelvehundred$Lot", "lastHour", "I", true)
  | _ => ("Twelvehundred$Lot", "left", "I", false)
def tyX6 : Nat → FieldType := fun k => match k with
  | 0 => .int
  | 1 => .int
  | _ => .int
abbrev wsX60 : List Cond := u_ws RX6 TX6 3
theorem nmX6 : ∀ a, a < 3 → ∀ b, b < 3 → a ≠ b → (TX6 a).2.1 ≠ (TX6 b).2.1 := by decide +kernel
theorem tyX6_ok : ∀ k, k < 3 → parseFieldDescriptor (TX6 k).2.2.1 = some (tyX6 k) := by decide +kernel
abbrev cX6_init : ByteArray := prog_8_method_1_code
def yX6_init : MethodName := ⟨RX6, "<init>", "(II)V"⟩
def RX7 : String := "Twelvehundred$Placing"
def TX7 : u_T := fun k => match k with
  | 0 => ("Twelvehundred$Placing", "households", "Ljava/util/ArrayList;", true)
  | 1 => ("Twelvehundred$Placing", "halls", "Ljava/util/ArrayList;", true)
  | _ => ("Twelvehundred$Placing", "taken", "[LTwelvehundred$Hall;", true)
def tyX7 : Nat → FieldType := fun k => match k with
  | 0 => .object "java/util/ArrayList"
  | 1 => .object "java/util/ArrayList"
  | _ => .array (.object "Twelvehundred$Hall")
abbrev wsX70 : List Cond := u_ws RX7 TX7 3
theorem nmX7 : ∀ a, a < 3 → ∀ b, b < 3 → a ≠ b → (TX7 a).2.1 ≠ (TX7 b).2.1 := by decide +kernel
theorem tyX7_ok : ∀ k, k < 3 → parseFieldDescriptor (TX7 k).2.2.1 = some (tyX7 k) := by decide +kernel
abbrev cX7_init : ByteArray := prog_9_method_1_code
def yX7_init : MethodName := ⟨RX7, "<init>", "(Ljava/util/ArrayList;Ljava/util/ArrayList;)V"⟩
abbrev cX7_clear : ByteArray := prog_9_method_2_code
def yX7_clear : MethodName := ⟨RX7, "clear", "()V"⟩
abbrev cX7_hallOf : ByteArray := prog_9_method_3_code
def yX7_hallOf : MethodName := ⟨RX7, "hallOf", "(LTwelvehundred$Household;)LTwelvehundred$Hall;"⟩
abbrev cX7_put : ByteArray := prog_9_method_4_code
def yX7_put : MethodName := ⟨RX7, "put", "(LTwelvehundred$Household;LTwelvehundred$Hall;)V"⟩
abbrev cX7_read : ByteArray := prog_9_method_5_code
def yX7_read : MethodName := ⟨RX7, "read", "(I)Z"⟩
abbrev cX7_guestsOf : ByteArray := prog_9_method_6_code
def yX7_guestsOf : MethodName := ⟨RX7, "guestsOf", "(LTwelvehundred$Hall;)I"⟩
abbrev cX7_hasRoom : ByteArray := prog_9_method_7_code
def yX7_hasRoom : MethodName := ⟨RX7, "hasRoom", "(LTwelvehundred$Hall;)Z"⟩
abbrev cX7_leastOf : ByteArray := prog_9_method_8_code
def yX7_leastOf : MethodName := ⟨RX7, "leastOf", "(LTwelvehundred$Hall;)LTwelvehundred$Household;"⟩
abbrev cX7_isWithinRooms : ByteArray := prog_9_method_9_code
def yX7_isWithinRooms : MethodName := ⟨RX7, "isWithinRooms", "()Z"⟩
abbrev cX7_isContested : ByteArray := prog_9_method_10_code
def yX7_isContested : MethodName := ⟨RX7, "isContested", "()Z"⟩
abbrev cX7_wantsEmptyRoom : ByteArray := prog_9_method_11_code
def yX7_wantsEmptyRoom : MethodName := ⟨RX7, "wantsEmptyRoom", "(LTwelvehundred$Household;)Z"⟩
abbrev cX7_hasEnvyUpTo : ByteArray := prog_9_method_12_code
def yX7_hasEnvyUpTo : MethodName := ⟨RX7, "hasEnvyUpTo", "(I)Z"⟩
abbrev cX7_couldOust : ByteArray := prog_9_method_13_code
def yX7_couldOust : MethodName := ⟨RX7, "couldOust", "(LTwelvehundred$Household;LTwelvehundred$Household;)Z"⟩
abbrev cX7_isBetterForAny : ByteArray := prog_9_method_14_code
def yX7_isBetterForAny : MethodName := ⟨RX7, "isBetterForAny", "(LTwelvehundred$Placing;)Z"⟩
abbrev cX7_isBeaten : ByteArray := prog_9_method_15_code
def yX7_isBeaten : MethodName := ⟨RX7, "isBeaten", "(LTwelvehundred$Placing;LTwelvehundred$Placing;I)Z"⟩
def RX8 : String := "Twelvehundred$Rescue"
def TX8 : u_T := fun k => match k with
  | 0 => ("Twelvehundred$Rescue", "river", "LTwelvehundred$River;", true)
  | 1 => ("Twelvehundred$Rescue", "households", "Ljava/util/ArrayList;", true)
  | 2 => ("Twelvehundred$Rescue", "busCount", "I", false)
  | _ => ("Twelvehundred$Rescue", "fetchedThisHour", "I", false)
def tyX8 : Nat → FieldType := fun k => match k with
  | 0 => .object "Twelvehundred$River"
  | 1 => .object "java/util/ArrayList"
  | 2 => .int
  | _ => .int
abbrev wsX80 : List Cond := u_ws RX8 TX8 4
theorem nmX8 : ∀ a, a < 4 → ∀ b, b < 4 → a ≠ b → (TX8 a).2.1 ≠ (TX8 b).2.1 := by decide +kernel
theorem tyX8_ok : ∀ k, k < 4 → parseFieldDescriptor (TX8 k).2.2.1 = some (tyX8 k) := by decide +kernel
abbrev cX8_init : ByteArray := prog_10_method_1_code
def yX8_init : MethodName := ⟨RX8, "<init>", "(LTwelvehundred$River;Ljava/util/ArrayList;)V"⟩
abbrev cX8_countOf : ByteArray := prog_10_method_2_code
def yX8_countOf : MethodName := ⟨RX8, "countOf", "(I)I"⟩
abbrev cX8_atHomeIn : ByteArray := prog_10_method_3_code
def yX8_atHomeIn : MethodName := ⟨RX8, "atHomeIn", "(LTwelvehundred$Street;)I"⟩
abbrev cX8_cutOffFlooded : ByteArray := prog_10_method_4_code
def yX8_cutOffFlooded : MethodName := ⟨RX8, "cutOffFlooded", "()I"⟩
abbrev cX8_peopleOf : ByteArray := prog_10_method_5_code
def yX8_peopleOf : MethodName := ⟨RX8, "peopleOf", "(I)I"⟩
abbrev cX8_canReach : ByteArray := prog_10_method_6_code
def yX8_canReach : MethodName := ⟨RX8, "canReach", "(I)Z"⟩
abbrev cX8_canReachAsLateAs : ByteArray := prog_10_method_7_code
def yX8_canReachAsLateAs : MethodName := ⟨RX8, "canReachAsLateAs", "(LTwelvehundred$Household;I)Z"⟩
abbrev cX8_choice : ByteArray := prog_10_method_8_code
def yX8_choice : MethodName := ⟨RX8, "choice", "()I"⟩
abbrev cX8_canReachMoreThan : ByteArray := prog_10_method_9_code
def yX8_canReachMoreThan : MethodName := ⟨RX8, "canReachMoreThan", "(I)Z"⟩
def RX9 : String := "Twelvehundred$River"
def TX9 : u_T := fun k => match k with
  | 0 => ("Twelvehundred$River", "level", "I", false)
  | 1 => ("Twelvehundred$River", "rise", "I", false)
  | _ => ("Twelvehundred$River", "hour", "I", false)
def tyX9 : Nat → FieldType := fun k => match k with
  | 0 => .int
  | 1 => .int
  | _ => .int
abbrev wsX90 : List Cond := u_ws RX9 TX9 3
theorem nmX9 : ∀ a, a < 3 → ∀ b, b < 3 → a ≠ b → (TX9 a).2.1 ≠ (TX9 b).2.1 := by decide +kernel
theorem tyX9_ok : ∀ k, k < 3 → parseFieldDescriptor (TX9 k).2.2.1 = some (tyX9 k) := by decide +kernel
abbrev cX9_init : ByteArray := prog_11_method_1_code
def yX9_init : MethodName := ⟨RX9, "<init>", "()V"⟩
abbrev cX9_flow : ByteArray := prog_11_method_2_code
def yX9_flow : MethodName := ⟨RX9, "flow", "()V"⟩
abbrev cX9_floods : ByteArray := prog_11_method_3_code
def yX9_floods : MethodName := ⟨RX9, "floods", "(LTwelvehundred$Street;)Z"⟩
abbrev cX9_limitOf : ByteArray := prog_11_method_4_code
def yX9_limitOf : MethodName := ⟨RX9, "limitOf", "(LTwelvehundred$Street;)I"⟩
def RX10 : String := "Twelvehundred$Street"
def TX10 : u_T := fun k => match k with
  | 0 => ("Twelvehundred$Street", "number", "I", true)
  | 1 => ("Twelvehundred$Street", "height", "I", true)
  | _ => ("Twelvehundred$Street", "place", "I", true)
def tyX10 : Nat → FieldType := fun k => match k with
  | 0 => .int
  | 1 => .int
  | _ => .int
abbrev wsX100 : List Cond := u_ws RX10 TX10 3
theorem nmX10 : ∀ a, a < 3 → ∀ b, b < 3 → a ≠ b → (TX10 a).2.1 ≠ (TX10 b).2.1 := by decide +kernel
theorem tyX10_ok : ∀ k, k < 3 → parseFieldDescriptor (TX10 k).2.2.1 = some (tyX10 k) := by decide +kernel
abbrev cX10_init : ByteArray := prog_12_method_1_code
def yX10_init : MethodName := ⟨RX10, "<init>", "(III)V"⟩
def RX11 : String := "Twelvehundred"
def TX11 : u_T := fun k => match k with
  | 0 => ("Twelvehundred", "river", "LTwelvehundred$River;", true)
  | 1 => ("Twelvehundred", "streets", "Ljava/util/ArrayList;", true)
  | 2 => ("Twelvehundred", "halls", "Ljava/util/ArrayList;", true)
  | 3 => ("Twelvehundred", "households", "Ljava/util/ArrayList;", true)
  | 4 => ("Twelvehundred", "rescue", "LTwelvehundred$Rescue;", true)
  | 5 => ("Twelvehundred", "placing", "LTwelvehundred$Placing;", true)
  | 6 => ("Twelvehundred", "asking", "LTwelvehundred$Asking;", true)
  | 7 => ("Twelvehundred", "trial", "LTwelvehundred$Placing;", true)
  | 8 => ("Twelvehundred", "larder", "LTwelvehundred$Larder;", true)
  | _ => ("Twelvehundred", "bulletin", "LTwelvehundred$Bulletin;", true)
def tyX11 : Nat → FieldType := fun k => match k with
  | 0 => .object "Twelvehundred$River"
  | 1 => .object "java/util/ArrayList"
  | 2 => .object "java/util/ArrayList"
  | 3 => .object "java/util/ArrayList"
  | 4 => .object "Twelvehundred$Rescue"
  | 5 => .object "Twelvehundred$Placing"
  | 6 => .object "Twelvehundred$Asking"
  | 7 => .object "Twelvehundred$Placing"
  | 8 => .object "Twelvehundred$Larder"
  | _ => .object "Twelvehundred$Bulletin"
abbrev wsX110 : List Cond := u_ws RX11 TX11 10
theorem nmX11 : ∀ a, a < 10 → ∀ b, b < 10 → a ≠ b → (TX11 a).2.1 ≠ (TX11 b).2.1 := by decide +kernel
theorem tyX11_ok : ∀ k, k < 10 → parseFieldDescriptor (TX11 k).2.2.1 = some (tyX11 k) := by decide +kernel
abbrev cX11_init : ByteArray := prog_1_method_1_code
def yX11_init : MethodName := ⟨RX11, "<init>", "()V"⟩
abbrev cX11_street : ByteArray := prog_1_method_2_code
def yX11_street : MethodName := ⟨RX11, "street", "(II)I"⟩
abbrev cX11_hall : ByteArray := prog_1_method_3_code
def yX11_hall : MethodName := ⟨RX11, "hall", "(II)I"⟩
abbrev cX11_rooms : ByteArray := prog_1_method_4_code
def yX11_rooms : MethodName := ⟨RX11, "rooms", "(II)I"⟩
abbrev cX11_household : ByteArray := prog_1_method_5_code
def yX11_household : MethodName := ⟨RX11, "household", "(IIZ)I"⟩
abbrev cX11_river : ByteArray := prog_1_method_6_code
def yX11_river : MethodName := ⟨RX11, "river", "(II)I"⟩
abbrev cX11_buses : ByteArray := prog_1_method_7_code
def yX11_buses : MethodName := ⟨RX11, "buses", "(I)I"⟩
abbrev cX11_fetch : ByteArray := prog_1_method_8_code
def yX11_fetch : MethodName := ⟨RX11, "fetch", "(I)I"⟩
abbrev cX11_pass : ByteArray := prog_1_method_9_code
def yX11_pass : MethodName := ⟨RX11, "pass", "(I)I"⟩
abbrev cX11_lot : ByteArray := prog_1_method_10_code
def yX11_lot : MethodName := ⟨RX11, "lot", "(II)I"⟩
abbrev cX11_give : ByteArray := prog_1_method_11_code
def yX11_give : MethodName := ⟨RX11, "give", "(I)I"⟩
abbrev cX11_list : ByteArray := prog_1_method_12_code
def yX11_list : MethodName := ⟨RX11, "list", "(I)I"⟩
abbrev cX11_strike : ByteArray := prog_1_method_13_code
def yX11_strike : MethodName := ⟨RX11, "strike", "(IZ)I"⟩
abbrev cX11_knock : ByteArray := prog_1_method_14_code
def yX11_knock : MethodName := ⟨RX11, "knock", "()I"⟩
abbrev cX11_ofStreet : ByteArray := prog_1_method_15_code
def yX11_ofStreet : MethodName := ⟨RX11, "ofStreet", "(II)I"⟩
abbrev cX11_ofHousehold : ByteArray := prog_1_method_16_code
def yX11_ofHousehold : MethodName := ⟨RX11, "ofHousehold", "(II)I"⟩
abbrev cX11_ofHall : ByteArray := prog_1_method_17_code
def yX11_ofHall : MethodName := ⟨RX11, "ofHall", "(II)I"⟩
abbrev cX11_ofLot : ByteArray := prog_1_method_18_code
def yX11_ofLot : MethodName := ⟨RX11, "ofLot", "(II)I"⟩
abbrev cX11_county : ByteArray := prog_1_method_19_code
def yX11_county : MethodName := ⟨RX11, "county", "(I)I"⟩
abbrev cX11_signs : ByteArray := prog_1_method_20_code
def yX11_signs : MethodName := ⟨RX11, "signs", "()Ljava/lang/String;"⟩
abbrev cX11_can : ByteArray := prog_1_method_21_code
def yX11_can : MethodName := ⟨RX11, "can", "(I)Z"⟩
abbrev cX11_chosen : ByteArray := prog_1_method_22_code
def yX11_chosen : MethodName := ⟨RX11, "chosen", "()I"⟩
abbrev cX11_isStable : ByteArray := prog_1_method_23_code
def yX11_isStable : MethodName := ⟨RX11, "isStable", "(I)Z"⟩
abbrev cX11_would : ByteArray := prog_1_method_24_code
def yX11_would : MethodName := ⟨RX11, "would", "(II)I"⟩
abbrev cX11_areAlike : ByteArray := prog_1_method_25_code
def yX11_areAlike : MethodName := ⟨RX11, "areAlike", "(II)Z"⟩
abbrev cX11_isSound : ByteArray := prog_1_method_26_code
def yX11_isSound : MethodName := ⟨RX11, "isSound", "()Z"⟩
abbrev cX11_digest : ByteArray := prog_1_method_27_code
def yX11_digest : MethodName := ⟨RX11, "digest", "()J"⟩
abbrev cX11_signOf : ByteArray := prog_1_method_28_code
def yX11_signOf : MethodName := ⟨RX11, "signOf", "(LTwelvehundred$Household;)C"⟩
abbrev cX11_isWithin : ByteArray := prog_1_method_29_code
def yX11_isWithin : MethodName := ⟨RX11, "isWithin", "(III)Z"⟩
abbrev cX11_oneIf : ByteArray := prog_1_method_30_code
def yX11_oneIf : MethodName := ⟨RX11, "oneIf", "(Z)I"⟩
abbrev cX11_hasMember : ByteArray := prog_1_method_31_code
def yX11_hasMember : MethodName := ⟨RX11, "hasMember", "(II)Z"⟩
def RX12 : String := "TwelvehundredLaw$Out"
def TX12 : u_T := fun k => match k with
  | _ => ("TwelvehundredLaw$Out", "n", "J", false)
def tyX12 : Nat → FieldType := fun k => match k with
  | _ => .long
abbrev wsX120 : List Cond := u_ws RX12 TX12 1
theorem nmX12 : ∀ a, a < 1 → ∀ b, b < 1 → a ≠ b → (TX12 a).2.1 ≠ (TX12 b).2.1 := by decide +kernel
theorem tyX12_ok : ∀ k, k < 1 → parseFieldDescriptor (TX12 k).2.2.1 = some (tyX12 k) := by decide +kernel
abbrev cX12_init : ByteArray := prog_14_method_1_code
def yX12_init : MethodName := ⟨RX12, "<init>", "()V"⟩
def RX13 : String := "TwelvehundredModel$Household"
def TX13 : u_T := fun k => match k with
  | 0 => ("TwelvehundredModel$Household", "street", "I", false)
  | 1 => ("TwelvehundredModel$Household", "people", "I", false)
  | 2 => ("TwelvehundredModel$Household", "isFrail", "Z", false)
  | _ => ("TwelvehundredModel$Household", "state", "I", false)
def tyX13 : Nat → FieldType := fun k => match k with
  | 0 => .int
  | 1 => .int
  | 2 => .boolean
  | _ => .int
abbrev wsX130 : List Cond := u_ws RX13 TX13 4
theorem nmX13 : ∀ a, a < 4 → ∀ b, b < 4 → a ≠ b → (TX13 a).2.1 ≠ (TX13 b).2.1 := by decide +kernel
theorem tyX13_ok : ∀ k, k < 4 → parseFieldDescriptor (TX13 k).2.2.1 = some (tyX13 k) := by decide +kernel
abbrev cX13_init : ByteArray := prog_16_method_1_code
def yX13_init : MethodName := ⟨RX13, "<init>", "()V"⟩
def RX14 : String := "TwelvehundredModel"
def TX14 : u_T := fun k => match k with
  | 0 => ("TwelvehundredModel", "thrown", "I", false)
  | 1 => ("TwelvehundredModel", "level", "I", false)
  | 2 => ("TwelvehundredModel", "rise", "I", false)
  | 3 => ("TwelvehundredModel", "hour", "I", false)
  | 4 => ("TwelvehundredModel", "buses", "I", false)
  | 5 => ("TwelvehundredModel", "fetchedNow", "I", false)
  | 6 => ("TwelvehundredModel", "given", "I", false)
  | 7 => ("TwelvehundredModel", "spoilt", "I", false)
  | 8 => ("TwelvehundredModel", "missing", "I", false)
  | 9 => ("TwelvehundredModel", "came", "I", false)
  | 10 => ("TwelvehundredModel", "refused", "I", false)
  | 11 => ("TwelvehundredModel", "streets", "Ljava/util/ArrayList;", true)
  | 12 => ("TwelvehundredModel", "halls", "Ljava/util/ArrayList;", true)
  | 13 => ("TwelvehundredModel", "households", "Ljava/util/ArrayList;", true)
  | 14 => ("TwelvehundredModel", "lots", "Ljava/util/ArrayList;", true)
  | 15 => ("TwelvehundredModel", "names", "Ljava/util/ArrayList;", true)
  | 16 => ("TwelvehundredModel", "struck", "I", false)
  | _ => ("TwelvehundredModel", "sum", "J", false)
def tyX14 : Nat → FieldType := fun k => match k with
  | 0 => .int
  | 1 => .int
  | 2 => .int
  | 3 => .int
  | 4 => .int
  | 5 => .int
  | 6 => .int
  | 7 => .int
  | 8 => .int
  | 9 => .int
  | 10 => .int
  | 11 => .object "java/util/ArrayList"
  | 12 => .object "java/util/ArrayList"
  | 13 => .object "java/util/ArrayList"
  | 14 => .object "java/util/ArrayList"
  | 15 => .object "java/util/ArrayList"
  | 16 => .int
  | _ => .long
abbrev wsX140 : List Cond := u_ws RX14 TX14 18
theorem nmX14 : ∀ a, a < 18 → ∀ b, b < 18 → a ≠ b → (TX14 a).2.1 ≠ (TX14 b).2.1 := by decide +kernel
theorem tyX14_ok : ∀ k, k < 18 → parseFieldDescriptor (TX14 k).2.2.1 = some (tyX14 k) := by decide +kernel
abbrev cX14_init : ByteArray := prog_15_method_1_code
def yX14_init : MethodName := ⟨RX14, "<init>", "()V"⟩
abbrev cX14_thrown : ByteArray := prog_15_method_2_code
def yX14_thrown : MethodName := ⟨RX14, "thrown", "()I"⟩
abbrev cX14_refuse : ByteArray := prog_15_method_3_code
def yX14_refuse : MethodName := ⟨RX14, "refuse", "(I)I"⟩
abbrev cX14_is : ByteArray := prog_15_method_4_code
def yX14_is : MethodName := ⟨RX14, "is", "(III)Z"⟩
abbrev cX14_isIn : ByteArray := prog_15_method_5_code
def yX14_isIn : MethodName := ⟨RX14, "isIn", "(II)Z"⟩
abbrev cX14_isStreet : ByteArray := prog_15_method_6_code
def yX14_isStreet : MethodName := ⟨RX14, "isStreet", "(I)Z"⟩
abbrev cX14_isHall : ByteArray := prog_15_method_7_code
def yX14_isHall : MethodName := ⟨RX14, "isHall", "(I)Z"⟩
abbrev cX14_isHousehold : ByteArray := prog_15_method_8_code
def yX14_isHousehold : MethodName := ⟨RX14, "isHousehold", "(I)Z"⟩
abbrev cX14_street : ByteArray := prog_15_method_9_code
def yX14_street : MethodName := ⟨RX14, "street", "(II)I"⟩
abbrev cX14_hall : ByteArray := prog_15_method_10_code
def yX14_hall : MethodName := ⟨RX14, "hall", "(II)I"⟩
abbrev cX14_rooms : ByteArray := prog_15_method_11_code
def yX14_rooms : MethodName := ⟨RX14, "rooms", "(II)I"⟩
abbrev cX14_isFlooded : ByteArray := prog_15_method_12_code
def yX14_isFlooded : MethodName := ⟨RX14, "isFlooded", "(I)Z"⟩
abbrev cX14_household : ByteArray := prog_15_method_13_code
def yX14_household : MethodName := ⟨RX14, "household", "(IIZ)I"⟩
abbrev cX14_river : ByteArray := prog_15_method_14_code
def yX14_river : MethodName := ⟨RX14, "river", "(II)I"⟩
abbrev cX14_buses : ByteArray := prog_15_method_15_code
def yX14_buses : MethodName := ⟨RX14, "buses", "(I)I"⟩
abbrev cX14_fetch : ByteArray := prog_15_method_16_code
def yX14_fetch : MethodName := ⟨RX14, "fetch", "(I)I"⟩
abbrev cX14_hourGoes : ByteArray := prog_15_method_17_code
def yX14_hourGoes : MethodName := ⟨RX14, "hourGoes", "()I"⟩
abbrev cX14_pass : ByteArray := prog_15_method_18_code
def yX14_pass : MethodName := ⟨RX14, "pass", "(I)I"⟩
abbrev cX14_lot : ByteArray := prog_15_method_19_code
def yX14_lot : MethodName := ⟨RX14, "lot", "(II)I"⟩
abbrev cX14_give : ByteArray := prog_15_method_20_code
def yX14_give : MethodName := ⟨RX14, "give", "(I)I"⟩
abbrev cX14_isName : ByteArray := prog_15_method_21_code
def yX14_isName : MethodName := ⟨RX14, "isName", "(I)Z"⟩
abbrev cX14_list : ByteArray := prog_15_method_22_code
def yX14_list : MethodName := ⟨RX14, "list", "(I)I"⟩
abbrev cX14_leaves : ByteArray := prog_15_method_23_code
def yX14_leaves : MethodName := ⟨RX14, "leaves", "(II)Z"⟩
abbrev cX14_digits : ByteArray := prog_15_method_24_code
def yX14_digits : MethodName := ⟨RX14, "digits", "(I)I"⟩
abbrev cX14_areLike : ByteArray := prog_15_method_25_code
def yX14_areLike : MethodName := ⟨RX14, "areLike", "(II)Z"⟩
abbrev cX14_persons : ByteArray := prog_15_method_26_code
def yX14_persons : MethodName := ⟨RX14, "persons", "()I"⟩
abbrev cX14_strike : ByteArray := prog_15_method_27_code
def yX14_strike : MethodName := ⟨RX14, "strike", "(IZ)I"⟩
abbrev cX14_knock : ByteArray := prog_15_method_28_code
def yX14_knock : MethodName := ⟨RX14, "knock", "()I"⟩
abbrev cX14_limit : ByteArray := prog_15_method_29_code
def yX14_limit : MethodName := ⟨RX14, "limit", "(I)I"⟩
abbrev cX14_canNow : ByteArray := prog_15_method_30_code
def yX14_canNow : MethodName := ⟨RX14, "canNow", "(I)Z"⟩
abbrev cX14_chosenSet : ByteArray := prog_15_method_31_code
def yX14_chosenSet : MethodName := ⟨RX14, "chosenSet", "()I"⟩
abbrev cX14_peopleOf : ByteArray := prog_15_method_32_code
def yX14_peopleOf : MethodName := ⟨RX14, "peopleOf", "(I)I"⟩
abbrev cX14_miles : ByteArray := prog_15_method_33_code
def yX14_miles : MethodName := ⟨RX14, "miles", "(II)I"⟩
abbrev cX14_ratherHas : ByteArray := prog_15_method_34_code
def yX14_ratherHas : MethodName := ⟨RX14, "ratherHas", "(III)Z"⟩
abbrev cX14_isBetterLiked : ByteArray := prog_15_method_35_code
def yX14_isBetterLiked : MethodName := ⟨RX14, "isBetterLiked", "(II)Z"⟩
abbrev cX14_fetchedSet : ByteArray := prog_15_method_36_code
def yX14_fetchedSet : MethodName := ⟨RX14, "fetchedSet", "()I"⟩
abbrev cX14_placing : ByteArray := prog_15_method_37_code
def yX14_placing : MethodName := ⟨RX14, "placing", "()[I"⟩
abbrev cX14_asked : ByteArray := prog_15_method_38_code
def yX14_asked : MethodName := ⟨RX14, "asked", "([I)I"⟩
abbrev cX14_having : ByteArray := prog_15_method_39_code
def yX14_having : MethodName := ⟨RX14, "having", "([II)I"⟩
abbrev cX14_isStableNow : ByteArray := prog_15_method_40_code
def yX14_isStableNow : MethodName := ⟨RX14, "isStableNow", "([I)Z"⟩
abbrev cX14_homes : ByteArray := prog_15_method_41_code
def yX14_homes : MethodName := ⟨RX14, "homes", "(II)I"⟩
abbrev cX14_ofStreetNow : ByteArray := prog_15_method_42_code
def yX14_ofStreetNow : MethodName := ⟨RX14, "ofStreetNow", "(II)I"⟩
abbrev cX14_ofStreet : ByteArray := prog_15_method_43_code
def yX14_ofStreet : MethodName := ⟨RX14, "ofStreet", "(II)I"⟩
abbrev cX14_ofHouseholdNow : ByteArray := prog_15_method_44_code
def yX14_ofHouseholdNow : MethodName := ⟨RX14, "ofHouseholdNow", "(II)I"⟩
abbrev cX14_ofHousehold : ByteArray := prog_15_method_45_code
def yX14_ofHousehold : MethodName := ⟨RX14, "ofHousehold", "(II)I"⟩
abbrev cX14_ofHallNow : ByteArray := prog_15_method_46_code
def yX14_ofHallNow : MethodName := ⟨RX14, "ofHallNow", "(II)I"⟩
abbrev cX14_ofHall : ByteArray := prog_15_method_47_code
def yX14_ofHall : MethodName := ⟨RX14, "ofHall", "(II)I"⟩
abbrev cX14_ofLot : ByteArray := prog_15_method_48_code
def yX14_ofLot : MethodName := ⟨RX14, "ofLot", "(II)I"⟩
abbrev cX14_mealsLeft : ByteArray := prog_15_method_49_code
def yX14_mealsLeft : MethodName := ⟨RX14, "mealsLeft", "()I"⟩
abbrev cX14_countyNow : ByteArray := prog_15_method_50_code
def yX14_countyNow : MethodName := ⟨RX14, "countyNow", "(I)I"⟩
abbrev cX14_county : ByteArray := prog_15_method_51_code
def yX14_county : MethodName := ⟨RX14, "county", "(I)I"⟩
abbrev cX14_signsNow : ByteArray := prog_15_method_52_code
def yX14_signsNow : MethodName := ⟨RX14, "signsNow", "()Ljava/lang/String;"⟩
abbrev cX14_signs : ByteArray := prog_15_method_53_code
def yX14_signs : MethodName := ⟨RX14, "signs", "()Ljava/lang/String;"⟩
abbrev cX14_can : ByteArray := prog_15_method_54_code
def yX14_can : MethodName := ⟨RX14, "can", "(I)Z"⟩
abbrev cX14_chosen : ByteArray := prog_15_method_55_code
def yX14_chosen : MethodName := ⟨RX14, "chosen", "()I"⟩
abbrev cX14_isStable : ByteArray := prog_15_method_56_code
def yX14_isStable : MethodName := ⟨RX14, "isStable", "(I)Z"⟩
abbrev cX14_wouldNow : ByteArray := prog_15_method_57_code
def yX14_wouldNow : MethodName := ⟨RX14, "wouldNow", "(II)I"⟩
abbrev cX14_would : ByteArray := prog_15_method_58_code
def yX14_would : MethodName := ⟨RX14, "would", "(II)I"⟩
abbrev cX14_areAlike : ByteArray := prog_15_method_59_code
def yX14_areAlike : MethodName := ⟨RX14, "areAlike", "(II)Z"⟩
abbrev cX14_isBest : ByteArray := prog_15_method_60_code
def yX14_isBest : MethodName := ⟨RX14, "isBest", "([I[II)Z"⟩
abbrev cX14_isSoundNow : ByteArray := prog_15_method_61_code
def yX14_isSoundNow : MethodName := ⟨RX14, "isSoundNow", "()Z"⟩
abbrev cX14_isSound : ByteArray := prog_15_method_62_code
def yX14_isSound : MethodName := ⟨RX14, "isSound", "()Z"⟩
abbrev cX14_add : ByteArray := prog_15_method_63_code
def yX14_add : MethodName := ⟨RX14, "add", "(J)V"⟩
abbrev cX14_digest : ByteArray := prog_15_method_64_code
def yX14_digest : MethodName := ⟨RX14, "digest", "()J"⟩
def RJx145de : String := "java/io/Serializable"
def TJx145de : u_T := fun k => match k with
  | _ => ("", "", "", false)
def tyJx145de : Nat → FieldType := fun k => match k with
  | _ => .int
abbrev wsJx145de0 : List Cond := u_ws RJx145de TJx145de 0
theorem nmJx145de : ∀ a, a < 0 → ∀ b, b < 0 → a ≠ b → (TJx145de a).2.1 ≠ (TJx145de b).2.1 := by decide +kernel
theorem tyJx145de_ok : ∀ k, k < 0 → parseFieldDescriptor (TJx145de k).2.2.1 = some (tyJx145de k) := by decide +kernel
def RJ5 : String := "java/lang/AbstractStringBuilder"
def TJ5 : u_T := fun k => match k with
  | _ => ("", "", "", false)
def tyJ5 : Nat → FieldType := fun k => match k with
  | _ => .int
abbrev wsJ50 : List Cond := u_ws RJ5 TJ5 0
theorem nmJ5 : ∀ a, a < 0 → ∀ b, b < 0 → a ≠ b → (TJ5 a).2.1 ≠ (TJ5 b).2.1 := by decide +kernel
theorem tyJ5_ok : ∀ k, k < 0 → parseFieldDescriptor (TJ5 k).2.2.1 = some (tyJ5 k) := by decide +kernel
abbrev cJ5_init_d00df : ByteArray := prog_18_method_2_code
def yJ5_init_d00df : MethodName := ⟨RJ5, "<init>", "(I)V"⟩
abbrev cJ5_length_8abf5 : ByteArray := prog_18_method_6_code
def yJ5_length_8abf5 : MethodName := ⟨RJ5, "length", "()I"⟩
abbrev cJ5_ensureCapacityInternal_d00df : ByteArray := prog_18_method_9_code
def yJ5_ensureCapacityInternal_d00df : MethodName := ⟨RJ5, "ensureCapacityInternal", "(I)V"⟩
abbrev cJ5_newCapacity_0f7a4 : ByteArray := prog_18_method_10_code
def yJ5_newCapacity_0f7a4 : MethodName := ⟨RJ5, "newCapacity", "(I)I"⟩
abbrev cJ5_inflate_da8c8 : ByteArray := prog_18_method_11_code
def yJ5_inflate_da8c8 : MethodName := ⟨RJ5, "inflate", "()V"⟩
abbrev cJ5_append_cf1ce : ByteArray := prog_18_method_22_code
def yJ5_append_cf1ce : MethodName := ⟨RJ5, "append", "(Ljava/lang/String;)Ljava/lang/AbstractStringBuilder;"⟩
abbrev cJ5_appendNull_278bc : ByteArray := prog_18_method_26_code
def yJ5_appendNull_278bc : MethodName := ⟨RJ5, "appendNull", "()Ljava/lang/AbstractStringBuilder;"⟩
abbrev cJ5_append_3fe6f : ByteArray := prog_18_method_31_code
def yJ5_append_3fe6f : MethodName := ⟨RJ5, "append", "(C)Ljava/lang/AbstractStringBuilder;"⟩
abbrev cJ5_append_c97b9 : ByteArray := prog_18_method_32_code
def yJ5_append_c97b9 : MethodName := ⟨RJ5, "append", "(I)Ljava/lang/AbstractStringBuilder;"⟩
abbrev cJ5_getValue_6d5f1 : ByteArray := prog_18_method_64_code
def yJ5_getValue_6d5f1 : MethodName := ⟨RJ5, "getValue", "()[B"⟩
abbrev cJ5_isLatin1_aae02 : ByteArray := prog_18_method_68_code
def yJ5_isLatin1_aae02 : MethodName := ⟨RJ5, "isLatin1", "()Z"⟩
abbrev cJ5_inflateIfNeededFor_a7421 : ByteArray := prog_18_method_71_code
def yJ5_inflateIfNeededFor_a7421 : MethodName := ⟨RJ5, "inflateIfNeededFor", "(Ljava/lang/String;)V"⟩
abbrev cJ5_putStringAt_47b60 : ByteArray := prog_18_method_73_code
def yJ5_putStringAt_47b60 : MethodName := ⟨RJ5, "putStringAt", "(ILjava/lang/String;)V"⟩
def RJx2cfe8 : String := "java/lang/Appendable"
def TJx2cfe8 : u_T := fun k => match k with
  | _ => ("", "", "", false)
def tyJx2cfe8 : Nat → FieldType := fun k => match k with
  | _ => .int
abbrev wsJx2cfe80 : List Cond := u_ws RJx2cfe8 TJx2cfe8 0
theorem nmJx2cfe8 : ∀ a, a < 0 → ∀ b, b < 0 → a ≠ b → (TJx2cfe8 a).2.1 ≠ (TJx2cfe8 b).2.1 := by decide +kernel
theorem tyJx2cfe8_ok : ∀ k, k < 0 → parseFieldDescriptor (TJx2cfe8 k).2.2.1 = some (tyJx2cfe8 k) := by decide +kernel
def RJx9f9b0 : String := "java/lang/CharSequence"
def TJx9f9b0 : u_T := fun k => match k with
  | _ => ("", "", "", false)
def tyJx9f9b0 : Nat → FieldType := fun k => match k with
  | _ => .int
abbrev wsJx9f9b00 : List Cond := u_ws RJx9f9b0 TJx9f9b0 0
theorem nmJx9f9b0 : ∀ a, a < 0 → ∀ b, b < 0 → a ≠ b → (TJx9f9b0 a).2.1 ≠ (TJx9f9b0 b).2.1 := by decide +kernel
theorem tyJx9f9b0_ok : ∀ k, k < 0 → parseFieldDescriptor (TJx9f9b0 k).2.2.1 = some (tyJx9f9b0 k) := by decide +kernel
def RJx8e188 : String := "java/lang/Cloneable"
def TJx8e188 : u_T := fun k => match k with
  | _ => ("", "", "", false)
def tyJx8e188 : Nat → FieldType := fun k => match k with
  | _ => .int
abbrev wsJx8e1880 : List Cond := u_ws RJx8e188 TJx8e188 0
theorem nmJx8e188 : ∀ a, a < 0 → ∀ b, b < 0 → a ≠ b → (TJx8e188 a).2.1 ≠ (TJx8e188 b).2.1 := by decide +kernel
theorem tyJx8e188_ok : ∀ k, k < 0 → parseFieldDescriptor (TJx8e188 k).2.2.1 = some (tyJx8e188 k) := by decide +kernel
def RJxb160c : String := "java/lang/Comparable"
def TJxb160c : u_T := fun k => match k with
  | _ => ("", "", "", false)
def tyJxb160c : Nat → FieldType := fun k => match k with
  | _ => .int
abbrev wsJxb160c0 : List Cond := u_ws RJxb160c TJxb160c 0
theorem nmJxb160c : ∀ a, a < 0 → ∀ b, b < 0 → a ≠ b → (TJxb160c a).2.1 ≠ (TJxb160c b).2.1 := by decide +kernel
theorem tyJxb160c_ok : ∀ k, k < 0 → parseFieldDescriptor (TJxb160c k).2.2.1 = some (tyJxb160c k) := by decide +kernel
def RJxabbfe : String := "java/lang/Integer$IntegerCache"
def TJxabbfe : u_T := fun k => match k with
  | _ => ("", "", "", false)
def tyJxabbfe : Nat → FieldType := fun k => match k with
  | _ => .int
abbrev wsJxabbfe0 : List Cond := u_ws RJxabbfe TJxabbfe 0
theorem nmJxabbfe : ∀ a, a < 0 → ∀ b, b < 0 → a ≠ b → (TJxabbfe a).2.1 ≠ (TJxabbfe b).2.1 := by decide +kernel
theorem tyJxabbfe_ok : ∀ k, k < 0 → parseFieldDescriptor (TJxabbfe k).2.2.1 = some (tyJxabbfe k) := by decide +kernel
def RJ6 : String := "java/lang/Integer"
def TJ6 : u_T := fun k => match k with
  | _ => ("java/lang/Integer", "value", "I", true)
def tyJ6 : Nat → FieldType := fun k => match k with
  | _ => .int
abbrev wsJ60 : List Cond := u_ws RJ6 TJ6 1
theorem nmJ6 : ∀ a, a < 1 → ∀ b, b < 1 → a ≠ b → (TJ6 a).2.1 ≠ (TJ6 b).2.1 := by decide +kernel
theorem tyJ6_ok : ∀ k, k < 1 → parseFieldDescriptor (TJ6 k).2.2.1 = some (tyJ6 k) := by decide +kernel
abbrev cJ6_getChars_ba4f3 : ByteArray := prog_27_method_12_code
def yJ6_getChars_ba4f3 : MethodName := ⟨RJ6, "getChars", "(II[B)I"⟩
abbrev cJ6_stringSize_0f7a4 : ByteArray := prog_27_method_13_code
def yJ6_stringSize_0f7a4 : MethodName := ⟨RJ6, "stringSize", "(I)I"⟩
abbrev cJ6_valueOf_2dffe : ByteArray := prog_27_method_22_code
def yJ6_valueOf_2dffe : MethodName := ⟨RJ6, "valueOf", "(I)Ljava/lang/Integer;"⟩
abbrev cJ6_init_d00df : ByteArray := prog_27_method_23_code
def yJ6_init_d00df : MethodName := ⟨RJ6, "<init>", "(I)V"⟩
abbrev cJ6_intValue_8abf5 : ByteArray := prog_27_method_27_code
def yJ6_intValue_8abf5 : MethodName := ⟨RJ6, "intValue", "()I"⟩
abbrev cJ6_lowestOneBit_0f7a4 : ByteArray := prog_27_method_46_code
def yJ6_lowestOneBit_0f7a4 : MethodName := ⟨RJ6, "lowestOneBit", "(I)I"⟩
abbrev cJ6_bitCount_0f7a4 : ByteArray := prog_27_method_49_code
def yJ6_bitCount_0f7a4 : MethodName := ⟨RJ6, "bitCount", "(I)I"⟩
def RJxab1ab : String := "java/lang/Iterable"
def TJxab1ab : u_T := fun k => match k with
  | _ => ("", "", "", false)
def tyJxab1ab : Nat → FieldType := fun k => match k with
  | _ => .int
abbrev wsJxab1ab0 : List Cond := u_ws RJxab1ab TJxab1ab 0
theorem nmJxab1ab : ∀ a, a < 0 → ∀ b, b < 0 → a ≠ b → (TJxab1ab a).2.1 ≠ (TJxab1ab b).2.1 := by decide +kernel
theorem tyJxab1ab_ok : ∀ k, k < 0 → parseFieldDescriptor (TJxab1ab k).2.2.1 = some (tyJxab1ab k) := by decide +kernel
def RJ9 : String := "java/lang/Math"
def TJ9 : u_T := fun k => match k with
  | _ => ("", "", "", false)
def tyJ9 : Nat → FieldType := fun k => match k with
  | _ => .int
abbrev wsJ90 : List Cond := u_ws RJ9 TJ9 0
theorem nmJ9 : ∀ a, a < 0 → ∀ b, b < 0 → a ≠ b → (TJ9 a).2.1 ≠ (TJ9 b).2.1 := by decide +kernel
theorem tyJ9_ok : ∀ k, k < 0 → parseFieldDescriptor (TJ9 k).2.2.1 = some (tyJ9 k) := by decide +kernel
abbrev cJ9_abs_0f7a4 : ByteArray := prog_30_method_59_code
def yJ9_abs_0f7a4 : MethodName := ⟨RJ9, "abs", "(I)I"⟩
abbrev cJ9_max_7cf53 : ByteArray := prog_30_method_65_code
def yJ9_max_7cf53 : MethodName := ⟨RJ9, "max", "(II)I"⟩
abbrev cJ9_min_7cf53 : ByteArray := prog_30_method_69_code
def yJ9_min_7cf53 : MethodName := ⟨RJ9, "min", "(II)I"⟩
def RJxd2413 : String := "java/lang/Number"
def TJxd2413 : u_T := fun k => match k with
  | _ => ("", "", "", false)
def tyJxd2413 : Nat → FieldType := fun k => match k with
  | _ => .int
abbrev wsJxd24130 : List Cond := u_ws RJxd2413 TJxd2413 0
theorem nmJxd2413 : ∀ a, a < 0 → ∀ b, b < 0 → a ≠ b → (TJxd2413 a).2.1 ≠ (TJxd2413 b).2.1 := by decide +kernel
theorem tyJxd2413_ok : ∀ k, k < 0 → parseFieldDescriptor (TJxd2413 k).2.2.1 = some (tyJxd2413 k) := by decide +kernel
abbrev cJxd2413_init_da8c8 : ByteArray := prog_31_method_1_code
def yJxd2413_init_da8c8 : MethodName := ⟨RJxd2413, "<init>", "()V"⟩
def RJ0 : String := "java/lang/String"
def TJ0 : u_T := fun k => match k with
  | 0 => ("java/lang/String", "value", "[B", true)
  | 1 => ("java/lang/String", "coder", "B", true)
  | 2 => ("java/lang/String", "hash", "I", false)
  | _ => ("java/lang/String", "hashIsZero", "Z", false)
def tyJ0 : Nat → FieldType := fun k => match k with
  | 0 => .array .byte
  | 1 => .byte
  | 2 => .int
  | _ => .boolean
abbrev wsJ00 : List Cond := u_ws RJ0 TJ0 4
theorem nmJ0 : ∀ a, a < 4 → ∀ b, b < 4 → a ≠ b → (TJ0 a).2.1 ≠ (TJ0 b).2.1 := by decide +kernel
theorem tyJ0_ok : ∀ k, k < 4 → parseFieldDescriptor (TJ0 k).2.2.1 = some (tyJ0 k) := by decide +kernel
abbrev cJ0_init_81219 : ByteArray := prog_33_method_53_code
def yJ0_init_81219 : MethodName := ⟨RJ0, "<init>", "(Ljava/lang/StringBuilder;)V"⟩
abbrev cJ0_length_8abf5 : ByteArray := prog_33_method_54_code
def yJ0_length_8abf5 : MethodName := ⟨RJ0, "length", "()I"⟩
abbrev cJ0_equals_9ea2d : ByteArray := prog_33_method_66_code
def yJ0_equals_9ea2d : MethodName := ⟨RJ0, "equals", "(Ljava/lang/Object;)Z"⟩
abbrev cJ0_getBytes_840e7 : ByteArray := prog_33_method_147_code
def yJ0_getBytes_840e7 : MethodName := ⟨RJ0, "getBytes", "([BIB)V"⟩
abbrev cJ0_init_db425 : ByteArray := prog_33_method_150_code
def yJ0_init_db425 : MethodName := ⟨RJ0, "<init>", "(Ljava/lang/AbstractStringBuilder;Ljava/lang/Void;)V"⟩
abbrev cJ0_coder_7d493 : ByteArray := prog_33_method_152_code
def yJ0_coder_7d493 : MethodName := ⟨RJ0, "coder", "()B"⟩
abbrev cJ0_checkIndex_df160 : ByteArray := prog_33_method_155_code
def yJ0_checkIndex_df160 : MethodName := ⟨RJ0, "checkIndex", "(II)V"⟩
abbrev cJ0_checkBoundsOffCount_cabcc : ByteArray := prog_33_method_157_code
def yJ0_checkBoundsOffCount_cabcc : MethodName := ⟨RJ0, "checkBoundsOffCount", "(III)I"⟩
abbrev cJ0_checkBoundsBeginEnd_23922 : ByteArray := prog_33_method_158_code
def yJ0_checkBoundsBeginEnd_23922 : MethodName := ⟨RJ0, "checkBoundsBeginEnd", "(III)V"⟩
def RJ4 : String := "java/lang/StringBuilder"
def TJ4 : u_T := fun k => match k with
  | 0 => ("java/lang/AbstractStringBuilder", "value", "[B", false)
  | 1 => ("java/lang/AbstractStringBuilder", "coder", "B", false)
  | 2 => ("java/lang/AbstractStringBuilder", "maybeLatin1", "Z", false)
  | _ => ("java/lang/AbstractStringBuilder", "count", "I", false)
def tyJ4 : Nat → FieldType := fun k => match k with
  | 0 => .array .byte
  | 1 => .byte
  | 2 => .boolean
  | _ => .int
abbrev wsJ40 : List Cond := u_ws RJ4 TJ4 4
theorem nmJ4 : ∀ a, a < 4 → ∀ b, b < 4 → a ≠ b → (TJ4 a).2.1 ≠ (TJ4 b).2.1 := by decide +kernel
theorem tyJ4_ok : ∀ k, k < 4 → parseFieldDescriptor (TJ4 k).2.2.1 = some (tyJ4 k) := by decide +kernel
abbrev cJ4_init_da8c8 : ByteArray := prog_34_method_1_code
def yJ4_init_da8c8 : MethodName := ⟨RJ4, "<init>", "()V"⟩
abbrev cJ4_append_15ec4 : ByteArray := prog_34_method_7_code
def yJ4_append_15ec4 : MethodName := ⟨RJ4, "append", "(Ljava/lang/String;)Ljava/lang/StringBuilder;"⟩
abbrev cJ4_append_cf468 : ByteArray := prog_34_method_14_code
def yJ4_append_cf468 : MethodName := ⟨RJ4, "append", "(C)Ljava/lang/StringBuilder;"⟩
abbrev cJ4_append_bf812 : ByteArray := prog_34_method_15_code
def yJ4_append_bf812 : MethodName := ⟨RJ4, "append", "(I)Ljava/lang/StringBuilder;"⟩
abbrev cJ4_toString_0e30d : ByteArray := prog_34_method_42_code
def yJ4_toString_0e30d : MethodName := ⟨RJ4, "toString", "()Ljava/lang/String;"⟩
abbrev cJ4_length_8abf5 : ByteArray := prog_34_method_93_code
def yJ4_length_8abf5 : MethodName := ⟨RJ4, "length", "()I"⟩
def RJ1 : String := "java/lang/StringLatin1"
def TJ1 : u_T := fun k => match k with
  | _ => ("", "", "", false)
def tyJ1 : Nat → FieldType := fun k => match k with
  | _ => .int
abbrev wsJ10 : List Cond := u_ws RJ1 TJ1 0
theorem nmJ1 : ∀ a, a < 0 → ∀ b, b < 0 → a ≠ b → (TJ1 a).2.1 ≠ (TJ1 b).2.1 := by decide +kernel
theorem tyJ1_ok : ∀ k, k < 0 → parseFieldDescriptor (TJ1 k).2.2.1 = some (tyJ1 k) := by decide +kernel
abbrev cJ1_canEncode_fc78d : ByteArray := prog_35_method_3_code
def yJ1_canEncode_fc78d : MethodName := ⟨RJ1, "canEncode", "(C)Z"⟩
abbrev cJ1_equals_b5fdf : ByteArray := prog_35_method_13_code
def yJ1_equals_b5fdf : MethodName := ⟨RJ1, "equals", "([B[B)Z"⟩
abbrev cJ1_inflate_0e8fd : ByteArray := prog_35_method_50_code
def yJ1_inflate_0e8fd : MethodName := ⟨RJ1, "inflate", "([BI[BII)V"⟩
def RJ2 : String := "java/lang/StringUTF16"
def TJ2 : u_T := fun k => match k with
  | _ => ("", "", "", false)
def tyJ2 : Nat → FieldType := fun k => match k with
  | _ => .int
abbrev wsJ20 : List Cond := u_ws RJ2 TJ2 0
theorem nmJ2 : ∀ a, a < 0 → ∀ b, b < 0 → a ≠ b → (TJ2 a).2.1 ≠ (TJ2 b).2.1 := by decide +kernel
theorem tyJ2_ok : ∀ k, k < 0 → parseFieldDescriptor (TJ2 k).2.2.1 = some (tyJ2 k) := by decide +kernel
abbrev cJ2_newBytesFor_77867 : ByteArray := prog_36_method_2_code
def yJ2_newBytesFor_77867 : MethodName := ⟨RJ2, "newBytesFor", "(I)[B"⟩
abbrev cJ2_newBytesLength_0f7a4 : ByteArray := prog_36_method_3_code
def yJ2_newBytesLength_0f7a4 : MethodName := ⟨RJ2, "newBytesLength", "(I)I"⟩
abbrev cJ2_putChar_b72d1 : ByteArray := prog_36_method_4_code
def yJ2_putChar_b72d1 : MethodName := ⟨RJ2, "putChar", "([BII)V"⟩
abbrev cJ2_getChar_3b067 : ByteArray := prog_36_method_5_code
def yJ2_getChar_3b067 : MethodName := ⟨RJ2, "getChar", "([BI)C"⟩
abbrev cJ2_length_9d52b : ByteArray := prog_36_method_6_code
def yJ2_length_9d52b : MethodName := ⟨RJ2, "length", "([B)I"⟩
abbrev cJ2_coderFromArrayLen_85cad : ByteArray := prog_36_method_15_code
def yJ2_coderFromArrayLen_85cad : MethodName := ⟨RJ2, "coderFromArrayLen", "([BI)B"⟩
abbrev cJ2_compress_39247 : ByteArray := prog_36_method_17_code
def yJ2_compress_39247 : MethodName := ⟨RJ2, "compress", "([BII)[B"⟩
abbrev cJ2_compress_5af95 : ByteArray := prog_36_method_22_code
def yJ2_compress_5af95 : MethodName := ⟨RJ2, "compress", "([BI[BII)I"⟩
abbrev cJ2_putCharSB_b72d1 : ByteArray := prog_36_method_71_code
def yJ2_putCharSB_b72d1 : MethodName := ⟨RJ2, "putCharSB", "([BII)V"⟩
abbrev cJ2_getChars_46870 : ByteArray := prog_36_method_77_code
def yJ2_getChars_46870 : MethodName := ⟨RJ2, "getChars", "(III[B)I"⟩
abbrev cJ2_putCharsAt_cd4e5 : ByteArray := prog_36_method_81_code
def yJ2_putCharsAt_cd4e5 : MethodName := ⟨RJ2, "putCharsAt", "([BICCCC)I"⟩
abbrev cJ2_inflate_0e8fd : ByteArray := prog_36_method_86_code
def yJ2_inflate_0e8fd : MethodName := ⟨RJ2, "inflate", "([BI[BII)V"⟩
abbrev cJ2_getChars_ba4f3 : ByteArray := prog_36_method_89_code
def yJ2_getChars_ba4f3 : MethodName := ⟨RJ2, "getChars", "(II[B)I"⟩
abbrev cJ2_checkIndex_2214a : ByteArray := prog_36_method_91_code
def yJ2_checkIndex_2214a : MethodName := ⟨RJ2, "checkIndex", "(I[B)V"⟩
abbrev cJ2_checkBoundsBeginEnd_d044e : ByteArray := prog_36_method_93_code
def yJ2_checkBoundsBeginEnd_d044e : MethodName := ⟨RJ2, "checkBoundsBeginEnd", "(II[B)V"⟩
abbrev cJ2_checkBoundsOffCount_d044e : ByteArray := prog_36_method_94_code
def yJ2_checkBoundsOffCount_d044e : MethodName := ⟨RJ2, "checkBoundsOffCount", "(II[B)V"⟩
def RJ10 : String := "java/lang/System"
def TJ10 : u_T := fun k => match k with
  | _ => ("", "", "", false)
def tyJ10 : Nat → FieldType := fun k => match k with
  | _ => .int
abbrev wsJ100 : List Cond := u_ws RJ10 TJ10 0
theorem nmJ10 : ∀ a, a < 0 → ∀ b, b < 0 → a ≠ b → (TJ10 a).2.1 ≠ (TJ10 b).2.1 := by decide +kernel
theorem tyJ10_ok : ∀ k, k < 0 → parseFieldDescriptor (TJ10 k).2.2.1 = some (tyJ10 k) := by decide +kernel
def RJxfd54e : String := "java/lang/constant/Constable"
def TJxfd54e : u_T := fun k => match k with
  | _ => ("", "", "", false)
def tyJxfd54e : Nat → FieldType := fun k => match k with
  | _ => .int
abbrev wsJxfd54e0 : List Cond := u_ws RJxfd54e TJxfd54e 0
theorem nmJxfd54e : ∀ a, a < 0 → ∀ b, b < 0 → a ≠ b → (TJxfd54e a).2.1 ≠ (TJxfd54e b).2.1 := by decide +kernel
theorem tyJxfd54e_ok : ∀ k, k < 0 → parseFieldDescriptor (TJxfd54e k).2.2.1 = some (tyJxfd54e k) := by decide +kernel
def RJx3cf43 : String := "java/lang/constant/ConstantDesc"
def TJx3cf43 : u_T := fun k => match k with
  | _ => ("", "", "", false)
def tyJx3cf43 : Nat → FieldType := fun k => match k with
  | _ => .int
abbrev wsJx3cf430 : List Cond := u_ws RJx3cf43 TJx3cf43 0
theorem nmJx3cf43 : ∀ a, a < 0 → ∀ b, b < 0 → a ≠ b → (TJx3cf43 a).2.1 ≠ (TJx3cf43 b).2.1 := by decide +kernel
theorem tyJx3cf43_ok : ∀ k, k < 0 → parseFieldDescriptor (TJx3cf43 k).2.2.1 = some (tyJx3cf43 k) := by decide +kernel
def RJxa1e45 : String := "java/util/AbstractCollection"
def TJxa1e45 : u_T := fun k => match k with
  | _ => ("", "", "", false)
def tyJxa1e45 : Nat → FieldType := fun k => match k with
  | _ => .int
abbrev wsJxa1e450 : List Cond := u_ws RJxa1e45 TJxa1e45 0
theorem nmJxa1e45 : ∀ a, a < 0 → ∀ b, b < 0 → a ≠ b → (TJxa1e45 a).2.1 ≠ (TJxa1e45 b).2.1 := by decide +kernel
theorem tyJxa1e45_ok : ∀ k, k < 0 → parseFieldDescriptor (TJxa1e45 k).2.2.1 = some (tyJxa1e45 k) := by decide +kernel
abbrev cJxa1e45_init_da8c8 : ByteArray := prog_41_method_1_code
def yJxa1e45_init_da8c8 : MethodName := ⟨RJxa1e45, "<init>", "()V"⟩
def RJxc12de : String := "java/util/AbstractList"
def TJxc12de : u_T := fun k => match k with
  | _ => ("", "", "", false)
def tyJxc12de : Nat → FieldType := fun k => match k with
  | _ => .int
abbrev wsJxc12de0 : List Cond := u_ws RJxc12de TJxc12de 0
theorem nmJxc12de : ∀ a, a < 0 → ∀ b, b < 0 → a ≠ b → (TJxc12de a).2.1 ≠ (TJxc12de b).2.1 := by decide +kernel
theorem tyJxc12de_ok : ∀ k, k < 0 → parseFieldDescriptor (TJxc12de k).2.2.1 = some (tyJxc12de k) := by decide +kernel
abbrev cJxc12de_init_da8c8 : ByteArray := prog_42_method_1_code
def yJxc12de_init_da8c8 : MethodName := ⟨RJxc12de, "<init>", "()V"⟩
def RJx35411 : String := "java/util/ArrayList$Itr"
def TJx35411 : u_T := fun k => match k with
  | 0 => ("java/util/ArrayList$Itr", "cursor", "I", false)
  | 1 => ("java/util/ArrayList$Itr", "lastRet", "I", false)
  | 2 => ("java/util/ArrayList$Itr", "expectedModCount", "I", false)
  | _ => ("java/util/ArrayList$Itr", "this$0", "Ljava/util/ArrayList;", true)
def tyJx35411 : Nat → FieldType := fun k => match k with
  | 0 => .int
  | 1 => .int
  | 2 => .int
  | _ => .object "java/util/ArrayList"
abbrev wsJx354110 : List Cond := u_ws RJx35411 TJx35411 4
theorem nmJx35411 : ∀ a, a < 4 → ∀ b, b < 4 → a ≠ b → (TJx35411 a).2.1 ≠ (TJx35411 b).2.1 := by decide +kernel
theorem tyJx35411_ok : ∀ k, k < 4 → parseFieldDescriptor (TJx35411 k).2.2.1 = some (tyJx35411 k) := by decide +kernel
abbrev cJx35411_init_45d68 : ByteArray := prog_44_method_1_code
def yJx35411_init_45d68 : MethodName := ⟨RJx35411, "<init>", "(Ljava/util/ArrayList;)V"⟩
abbrev cJx35411_hasNext_aae02 : ByteArray := prog_44_method_2_code
def yJx35411_hasNext_aae02 : MethodName := ⟨RJx35411, "hasNext", "()Z"⟩
abbrev cJx35411_next_0502b : ByteArray := prog_44_method_3_code
def yJx35411_next_0502b : MethodName := ⟨RJx35411, "next", "()Ljava/lang/Object;"⟩
abbrev cJx35411_checkForComodification_da8c8 : ByteArray := prog_44_method_6_code
def yJx35411_checkForComodification_da8c8 : MethodName := ⟨RJx35411, "checkForComodification", "()V"⟩
def RJx4a65c : String := "java/util/ArrayList"
def TJx4a65c : u_T := fun k => match k with
  | 0 => ("java/util/AbstractList", "modCount", "I", false)
  | 1 => ("java/util/ArrayList", "elementData", "[Ljava/lang/Object;", false)
  | _ => ("java/util/ArrayList", "size", "I", false)
def tyJx4a65c : Nat → FieldType := fun k => match k with
  | 0 => .int
  | 1 => .array (.object "java/lang/Object")
  | _ => .int
abbrev wsJx4a65c0 : List Cond := u_ws RJx4a65c TJx4a65c 3
theorem nmJx4a65c : ∀ a, a < 3 → ∀ b, b < 3 → a ≠ b → (TJx4a65c a).2.1 ≠ (TJx4a65c b).2.1 := by decide +kernel
theorem tyJx4a65c_ok : ∀ k, k < 3 → parseFieldDescriptor (TJx4a65c k).2.2.1 = some (tyJx4a65c k) := by decide +kernel
abbrev cJx4a65c_init_da8c8 : ByteArray := prog_43_method_2_code
def yJx4a65c_init_da8c8 : MethodName := ⟨RJx4a65c, "<init>", "()V"⟩
abbrev cJx4a65c_grow_92f84 : ByteArray := prog_43_method_6_code
def yJx4a65c_grow_92f84 : MethodName := ⟨RJx4a65c, "grow", "(I)[Ljava/lang/Object;"⟩
abbrev cJx4a65c_grow_d5877 : ByteArray := prog_43_method_7_code
def yJx4a65c_grow_d5877 : MethodName := ⟨RJx4a65c, "grow", "()[Ljava/lang/Object;"⟩
abbrev cJx4a65c_size_8abf5 : ByteArray := prog_43_method_8_code
def yJx4a65c_size_8abf5 : MethodName := ⟨RJx4a65c, "size", "()I"⟩
abbrev cJx4a65c_elementData_915e3 : ByteArray := prog_43_method_18_code
def yJx4a65c_elementData_915e3 : MethodName := ⟨RJx4a65c, "elementData", "(I)Ljava/lang/Object;"⟩
abbrev cJx4a65c_get_915e3 : ByteArray := prog_43_method_20_code
def yJx4a65c_get_915e3 : MethodName := ⟨RJx4a65c, "get", "(I)Ljava/lang/Object;"⟩
abbrev cJx4a65c_add_72be8 : ByteArray := prog_43_method_24_code
def yJx4a65c_add_72be8 : MethodName := ⟨RJx4a65c, "add", "(Ljava/lang/Object;[Ljava/lang/Object;I)V"⟩
abbrev cJx4a65c_add_9ea2d : ByteArray := prog_43_method_25_code
def yJx4a65c_add_9ea2d : MethodName := ⟨RJx4a65c, "add", "(Ljava/lang/Object;)Z"⟩
abbrev cJx4a65c_iterator_32c93 : ByteArray := prog_43_method_55_code
def yJx4a65c_iterator_32c93 : MethodName := ⟨RJx4a65c, "iterator", "()Ljava/util/Iterator;"⟩
def RJ7 : String := "java/util/Arrays"
def TJ7 : u_T := fun k => match k with
  | _ => ("", "", "", false)
def tyJ7 : Nat → FieldType := fun k => match k with
  | _ => .int
abbrev wsJ70 : List Cond := u_ws RJ7 TJ7 0
theorem nmJ7 : ∀ a, a < 0 → ∀ b, b < 0 → a ≠ b → (TJ7 a).2.1 ≠ (TJ7 b).2.1 := by decide +kernel
theorem tyJ7_ok : ∀ k, k < 0 → parseFieldDescriptor (TJ7 k).2.2.1 = some (tyJ7 k) := by decide +kernel
abbrev cJ7_copyOf_1904c : ByteArray := prog_45_method_119_code
def yJ7_copyOf_1904c : MethodName := ⟨RJ7, "copyOf", "([Ljava/lang/Object;I)[Ljava/lang/Object;"⟩
abbrev cJ7_copyOf_6403c : ByteArray := prog_45_method_120_code
def yJ7_copyOf_6403c : MethodName := ⟨RJ7, "copyOf", "([Ljava/lang/Object;ILjava/lang/Class;)[Ljava/lang/Object;"⟩
abbrev cJ7_copyOf_9075b : ByteArray := prog_45_method_121_code
def yJ7_copyOf_9075b : MethodName := ⟨RJ7, "copyOf", "([BI)[B"⟩
abbrev cJ7_checkLength_df160 : ByteArray := prog_45_method_131_code
def yJ7_checkLength_df160 : MethodName := ⟨RJ7, "checkLength", "(II)V"⟩
abbrev cJ7_copyOfRange_39247 : ByteArray := prog_45_method_132_code
def yJ7_copyOfRange_39247 : MethodName := ⟨RJ7, "copyOfRange", "([BII)[B"⟩
abbrev cJ7_copyOfRangeByte_39247 : ByteArray := prog_45_method_133_code
def yJ7_copyOfRangeByte_39247 : MethodName := ⟨RJ7, "copyOfRangeByte", "([BII)[B"⟩
def RJx5ef63 : String := "java/util/Collection"
def TJx5ef63 : u_T := fun k => match k with
  | _ => ("", "", "", false)
def tyJx5ef63 : Nat → FieldType := fun k => match k with
  | _ => .int
abbrev wsJx5ef630 : List Cond := u_ws RJx5ef63 TJx5ef63 0
theorem nmJx5ef63 : ∀ a, a < 0 → ∀ b, b < 0 → a ≠ b → (TJx5ef63 a).2.1 ≠ (TJx5ef63 b).2.1 := by decide +kernel
theorem tyJx5ef63_ok : ∀ k, k < 0 → parseFieldDescriptor (TJx5ef63 k).2.2.1 = some (tyJx5ef63 k) := by decide +kernel
def RJx4d0d8 : String := "java/util/Iterator"
def TJx4d0d8 : u_T := fun k => match k with
  | _ => ("", "", "", false)
def tyJx4d0d8 : Nat → FieldType := fun k => match k with
  | _ => .int
abbrev wsJx4d0d80 : List Cond := u_ws RJx4d0d8 TJx4d0d8 0
theorem nmJx4d0d8 : ∀ a, a < 0 → ∀ b, b < 0 → a ≠ b → (TJx4d0d8 a).2.1 ≠ (TJx4d0d8 b).2.1 := by decide +kernel
theorem tyJx4d0d8_ok : ∀ k, k < 0 → parseFieldDescriptor (TJx4d0d8 k).2.2.1 = some (tyJx4d0d8 k) := by decide +kernel
def RJxbd725 : String := "java/util/List"
def TJxbd725 : u_T := fun k => match k with
  | _ => ("", "", "", false)
def tyJxbd725 : Nat → FieldType := fun k => match k with
  | _ => .int
abbrev wsJxbd7250 : List Cond := u_ws RJxbd725 TJxbd725 0
theorem nmJxbd725 : ∀ a, a < 0 → ∀ b, b < 0 → a ≠ b → (TJxbd725 a).2.1 ≠ (TJxbd725 b).2.1 := by decide +kernel
theorem tyJxbd725_ok : ∀ k, k < 0 → parseFieldDescriptor (TJxbd725 k).2.2.1 = some (tyJxbd725 k) := by decide +kernel
def RJ15 : String := "java/util/Objects"
def TJ15 : u_T := fun k => match k with
  | _ => ("", "", "", false)
def tyJ15 : Nat → FieldType := fun k => match k with
  | _ => .int
abbrev wsJ150 : List Cond := u_ws RJ15 TJ15 0
theorem nmJ15 : ∀ a, a < 0 → ∀ b, b < 0 → a ≠ b → (TJ15 a).2.1 ≠ (TJ15 b).2.1 := by decide +kernel
theorem tyJ15_ok : ∀ k, k < 0 → parseFieldDescriptor (TJ15 k).2.2.1 = some (tyJ15 k) := by decide +kernel
abbrev cJ15_checkIndex_7cf53 : ByteArray := prog_49_method_17_code
def yJ15_checkIndex_7cf53 : MethodName := ⟨RJ15, "checkIndex", "(II)I"⟩
def RJxf0a74 : String := "java/util/RandomAccess"
def TJxf0a74 : u_T := fun k => match k with
  | _ => ("", "", "", false)
def tyJxf0a74 : Nat → FieldType := fun k => match k with
  | _ => .int
abbrev wsJxf0a740 : List Cond := u_ws RJxf0a74 TJxf0a74 0
theorem nmJxf0a74 : ∀ a, a < 0 → ∀ b, b < 0 → a ≠ b → (TJxf0a74 a).2.1 ≠ (TJxf0a74 b).2.1 := by decide +kernel
theorem tyJxf0a74_ok : ∀ k, k < 0 → parseFieldDescriptor (TJxf0a74 k).2.2.1 = some (tyJxf0a74 k) := by decide +kernel
def RJxa66e6 : String := "java/util/SequencedCollection"
def TJxa66e6 : u_T := fun k => match k with
  | _ => ("", "", "", false)
def tyJxa66e6 : Nat → FieldType := fun k => match k with
  | _ => .int
abbrev wsJxa66e60 : List Cond := u_ws RJxa66e6 TJxa66e6 0
theorem nmJxa66e6 : ∀ a, a < 0 → ∀ b, b < 0 → a ≠ b → (TJxa66e6 a).2.1 ≠ (TJxa66e6 b).2.1 := by decide +kernel
theorem tyJxa66e6_ok : ∀ k, k < 0 → parseFieldDescriptor (TJxa66e6 k).2.2.1 = some (tyJxa66e6 k) := by decide +kernel
def RJ8 : String := "jdk/internal/util/ArraysSupport"
def TJ8 : u_T := fun k => match k with
  | _ => ("", "", "", false)
def tyJ8 : Nat → FieldType := fun k => match k with
  | _ => .int
abbrev wsJ80 : List Cond := u_ws RJ8 TJ8 0
theorem nmJ8 : ∀ a, a < 0 → ∀ b, b < 0 → a ≠ b → (TJ8 a).2.1 ≠ (TJ8 b).2.1 := by decide +kernel
theorem tyJ8_ok : ∀ k, k < 0 → parseFieldDescriptor (TJ8 k).2.2.1 = some (tyJ8 k) := by decide +kernel
abbrev cJ8_newLength_cabcc : ByteArray := prog_52_method_27_code
def yJ8_newLength_cabcc : MethodName := ⟨RJ8, "newLength", "(III)I"⟩
abbrev cJ8_hugeLength_7cf53 : ByteArray := prog_52_method_28_code
def yJ8_hugeLength_7cf53 : MethodName := ⟨RJ8, "hugeLength", "(II)I"⟩
def RJ3 : String := "jdk/internal/util/Preconditions"
def TJ3 : u_T := fun k => match k with
  | _ => ("", "", "", false)
def tyJ3 : Nat → FieldType := fun k => match k with
  | _ => .int
abbrev wsJ30 : List Cond := u_ws RJ3 TJ3 0
theorem nmJ3 : ∀ a, a < 0 → ∀ b, b < 0 → a ≠ b → (TJ3 a).2.1 ≠ (TJ3 b).2.1 := by decide +kernel
theorem tyJ3_ok : ∀ k, k < 0 → parseFieldDescriptor (TJ3 k).2.2.1 = some (tyJ3 k) := by decide +kernel
abbrev cJ3_checkIndex_8e157 : ByteArray := prog_53_method_11_code
def yJ3_checkIndex_8e157 : MethodName := ⟨RJ3, "checkIndex", "(IILjava/util/function/BiFunction;)I"⟩
abbrev cJ3_checkFromToIndex_8c36e : ByteArray := prog_53_method_12_code
def yJ3_checkFromToIndex_8c36e : MethodName := ⟨RJ3, "checkFromToIndex", "(IIILjava/util/function/BiFunction;)I"⟩
abbrev cJ3_checkFromIndexSize_8c36e : ByteArray := prog_53_method_13_code
def yJ3_checkFromIndexSize_8c36e : MethodName := ⟨RJ3, "checkFromIndexSize", "(IIILjava/util/function/BiFunction;)I"⟩
def RL : String := "TwelvehundredLaw"
abbrev cL_street : ByteArray := method_2_code
def yL_street : MethodName := ⟨RL, "street", "(LTwelvehundred;IILTwelvehundredLaw$Out;)I"⟩
abbrev cL_hall : ByteArray := method_3_code
def yL_hall : MethodName := ⟨RL, "hall", "(LTwelvehundred;IILTwelvehundredLaw$Out;)I"⟩
abbrev cL_rooms : ByteArray := method_4_code
def yL_rooms : MethodName := ⟨RL, "rooms", "(LTwelvehundred;IILTwelvehundredLaw$Out;)I"⟩
abbrev cL_household : ByteArray := method_5_code
def yL_household : MethodName := ⟨RL, "household", "(LTwelvehundred;IIZLTwelvehundredLaw$Out;)I"⟩
abbrev cL_river : ByteArray := method_6_code
def yL_river : MethodName := ⟨RL, "river", "(LTwelvehundred;IILTwelvehundredLaw$Out;)I"⟩
abbrev cL_buses : ByteArray := method_7_code
def yL_buses : MethodName := ⟨RL, "buses", "(LTwelvehundred;ILTwelvehundredLaw$Out;)I"⟩
abbrev cL_fetch : ByteArray := method_8_code
def yL_fetch : MethodName := ⟨RL, "fetch", "(LTwelvehundred;ILTwelvehundredLaw$Out;)I"⟩
abbrev cL_pass : ByteArray := method_9_code
def yL_pass : MethodName := ⟨RL, "pass", "(LTwelvehundred;ILTwelvehundredLaw$Out;)I"⟩
abbrev cL_lot : ByteArray := method_10_code
def yL_lot : MethodName := ⟨RL, "lot", "(LTwelvehundred;IILTwelvehundredLaw$Out;)I"⟩
abbrev cL_give : ByteArray := method_11_code
def yL_give : MethodName := ⟨RL, "give", "(LTwelvehundred;ILTwelvehundredLaw$Out;)I"⟩
abbrev cL_list : ByteArray := method_12_code
def yL_list : MethodName := ⟨RL, "list", "(LTwelvehundred;ILTwelvehundredLaw$Out;)I"⟩
abbrev cL_strike : ByteArray := method_13_code
def yL_strike : MethodName := ⟨RL, "strike", "(LTwelvehundred;IZLTwelvehundredLaw$Out;)I"⟩
abbrev cL_ofStreet : ByteArray := method_14_code
def yL_ofStreet : MethodName := ⟨RL, "ofStreet", "(LTwelvehundred;IILTwelvehundredLaw$Out;)I"⟩
abbrev cL_ofHousehold : ByteArray := method_15_code
def yL_ofHousehold : MethodName := ⟨RL, "ofHousehold", "(LTwelvehundred;IILTwelvehundredLaw$Out;)I"⟩
abbrev cL_ofHall : ByteArray := method_16_code
def yL_ofHall : MethodName := ⟨RL, "ofHall", "(LTwelvehundred;IILTwelvehundredLaw$Out;)I"⟩
abbrev cL_ofLot : ByteArray := method_17_code
def yL_ofLot : MethodName := ⟨RL, "ofLot", "(LTwelvehundred;IILTwelvehundredLaw$Out;)I"⟩
abbrev cL_county : ByteArray := method_18_code
def yL_county : MethodName := ⟨RL, "county", "(LTwelvehundred;ILTwelvehundredLaw$Out;)I"⟩
abbrev cL_can : ByteArray := method_19_code
def yL_can : MethodName := ⟨RL, "can", "(LTwelvehundred;ILTwelvehundredLaw$Out;)I"⟩
abbrev cL_would : ByteArray := method_20_code
def yL_would : MethodName := ⟨RL, "would", "(LTwelvehundred;IILTwelvehundredLaw$Out;)I"⟩
abbrev cL_areAlike : ByteArray := method_21_code
def yL_areAlike : MethodName := ⟨RL, "areAlike", "(LTwelvehundred;IILTwelvehundredLaw$Out;)I"⟩
abbrev cL_law : ByteArray := code
def yL_law : MethodName := ⟨RL, "law", "([I)Z"⟩

abbrev vwCl : List vw_C := [(RJ0, TJ0, 4), (RJ4, TJ4, 4), (RJ6, TJ6, 1), (RJx35411, TJx35411, 4), (RJx4a65c, TJx4a65c, 3), (RX0, TX0, 5), (RX1, TX1, 2), (RX2, TX2, 3), (RX3, TX3, 5), (RX4, TX4, 4), (RX5, TX5, 3), (RX6, TX6, 3), (RX7, TX7, 3), (RX8, TX8, 4), (RX9, TX9, 3), (RX10, TX10, 3), (RX11, TX11, 10), (RX12, TX12, 1), (RX13, TX13, 4), (RX14, TX14, 18)]
