def RX0 : String := "SharedTaxis$Desk"
def TX0 : u_T := fun k => match k with
  | 0 => ("SharedTaxis$Desk", "now", "I", false)
  | 1 => ("SharedTaxis$Desk", "flag", "I", false)
  | 2 => ("SharedTaxis$Desk", "rate", "I", false)
  | 3 => ("SharedTaxis$Desk", "taxiCount", "I", false)
  | 4 => ("SharedTaxis$Desk", "rideCount", "I", false)
  | 5 => ("SharedTaxis$Desk", "rules", "[I", true)
  | 6 => ("SharedTaxis$Desk", "taxis", "[LSharedTaxis$Taxi;", true)
  | _ => ("SharedTaxis$Desk", "rides", "[LSharedTaxis$Ride;", true)
def tyX0 : Nat → FieldType := fun k => match k with
  | 0 => .int
  | 1 => .int
  | 2 => .int
  | 3 => .int
  | 4 => .int
  | 5 => .array .int
  | 6 => .array (.object "SharedTaxis$Taxi")
  | _ => .array (.object "SharedTaxis$Ride")
abbrev wsX00 : List Cond := u_ws RX0 TX0 8
theorem nmX0 : ∀ a, a < 8 → ∀ b, b < 8 → a ≠ b → (TX0 a).2.1 ≠ (TX0 b).2.1 := by decide +kernel
theorem tyX0_ok : ∀ k, k < 8 → parseFieldDescriptor (TX0 k).2.2.1 = some (tyX0 k) := by decide +kernel
abbrev cX0_init : ByteArray := prog_2_method_1_code
def yX0_init : MethodName := ⟨RX0, "<init>", "()V"⟩
abbrev cX0_clear : ByteArray := prog_2_method_2_code
def yX0_clear : MethodName := ⟨RX0, "clear", "()V"⟩
abbrev cX0_copyFrom : ByteArray := prog_2_method_3_code
def yX0_copyFrom : MethodName := ⟨RX0, "copyFrom", "(LSharedTaxis$Desk;)V"⟩
abbrev cX0_ruleValue : ByteArray := prog_2_method_4_code
def yX0_ruleValue : MethodName := ⟨RX0, "ruleValue", "(I)I"⟩
abbrev cX0_changeRule : ByteArray := prog_2_method_5_code
def yX0_changeRule : MethodName := ⟨RX0, "changeRule", "(II)V"⟩
abbrev cX0_hasTaxi : ByteArray := prog_2_method_6_code
def yX0_hasTaxi : MethodName := ⟨RX0, "hasTaxi", "(I)Z"⟩
abbrev cX0_countInState : ByteArray := prog_2_method_7_code
def yX0_countInState : MethodName := ⟨RX0, "countInState", "(I)I"⟩
abbrev cX0_stopsInAllRoutes : ByteArray := prog_2_method_9_code
def yX0_stopsInAllRoutes : MethodName := ⟨RX0, "stopsInAllRoutes", "()I"⟩
abbrev cX0_personsAboard : ByteArray := prog_2_method_10_code
def yX0_personsAboard : MethodName := ⟨RX0, "personsAboard", "(LSharedTaxis$Taxi;)I"⟩
abbrev cX0_pickupOf : ByteArray := prog_2_method_11_code
def yX0_pickupOf : MethodName := ⟨RX0, "pickupOf", "(I)I"⟩
abbrev cX0_dropOf : ByteArray := prog_2_method_12_code
def yX0_dropOf : MethodName := ⟨RX0, "dropOf", "(I)I"⟩
abbrev cX0_isPickup : ByteArray := prog_2_method_13_code
def yX0_isPickup : MethodName := ⟨RX0, "isPickup", "(I)Z"⟩
abbrev cX0_rideNumber : ByteArray := prog_2_method_14_code
def yX0_rideNumber : MethodName := ⟨RX0, "rideNumber", "(I)I"⟩
abbrev cX0_zoneOfStop : ByteArray := prog_2_method_15_code
def yX0_zoneOfStop : MethodName := ⟨RX0, "zoneOfStop", "(I)I"⟩
abbrev cX0_rideAt : ByteArray := prog_2_method_16_code
def yX0_rideAt : MethodName := ⟨RX0, "rideAt", "(I)LSharedTaxis$Ride;"⟩
def RX1 : String := "SharedTaxis$History"
def TX1 : u_T := fun k => match k with
  | 0 => ("SharedTaxis$History", "count", "I", false)
  | 1 => ("SharedTaxis$History", "next", "I", false)
  | _ => ("SharedTaxis$History", "states", "[LSharedTaxis$Desk;", true)
def tyX1 : Nat → FieldType := fun k => match k with
  | 0 => .int
  | 1 => .int
  | _ => .array (.object "SharedTaxis$Desk")
abbrev wsX10 : List Cond := u_ws RX1 TX1 3
theorem nmX1 : ∀ a, a < 3 → ∀ b, b < 3 → a ≠ b → (TX1 a).2.1 ≠ (TX1 b).2.1 := by decide +kernel
theorem tyX1_ok : ∀ k, k < 3 → parseFieldDescriptor (TX1 k).2.2.1 = some (tyX1 k) := by decide +kernel
abbrev cX1_init : ByteArray := prog_3_method_1_code
def yX1_init : MethodName := ⟨RX1, "<init>", "()V"⟩
abbrev cX1_clear : ByteArray := prog_3_method_2_code
def yX1_clear : MethodName := ⟨RX1, "clear", "()V"⟩
abbrev cX1_note : ByteArray := prog_3_method_3_code
def yX1_note : MethodName := ⟨RX1, "note", "(LSharedTaxis$Desk;)V"⟩
def RX2 : String := "SharedTaxis$Insertion"
def TX2 : u_T := fun k => match k with
  | 0 => ("SharedTaxis$Insertion", "extra", "I", false)
  | 1 => ("SharedTaxis$Insertion", "pickupArrival", "I", false)
  | 2 => ("SharedTaxis$Insertion", "dropArrival", "I", false)
  | 3 => ("SharedTaxis$Insertion", "pickupPlace", "I", false)
  | 4 => ("SharedTaxis$Insertion", "dropPlace", "I", false)
  | _ => ("SharedTaxis$Insertion", "plan", "LSharedTaxis$Plan;", true)
def tyX2 : Nat → FieldType := fun k => match k with
  | 0 => .int
  | 1 => .int
  | 2 => .int
  | 3 => .int
  | 4 => .int
  | _ => .object "SharedTaxis$Plan"
abbrev wsX20 : List Cond := u_ws RX2 TX2 6
theorem nmX2 : ∀ a, a < 6 → ∀ b, b < 6 → a ≠ b → (TX2 a).2.1 ≠ (TX2 b).2.1 := by decide +kernel
theorem tyX2_ok : ∀ k, k < 6 → parseFieldDescriptor (TX2 k).2.2.1 = some (tyX2 k) := by decide +kernel
abbrev cX2_init : ByteArray := prog_4_method_1_code
def yX2_init : MethodName := ⟨RX2, "<init>", "(LSharedTaxis$Plan;)V"⟩
abbrev cX2_findBest : ByteArray := prog_4_method_2_code
def yX2_findBest : MethodName := ⟨RX2, "findBest", "(LSharedTaxis$Taxi;I)Z"⟩
abbrev cX2_keep : ByteArray := prog_4_method_3_code
def yX2_keep : MethodName := ⟨RX2, "keep", "(III)V"⟩
abbrev cX2_isAsGoodAs : ByteArray := prog_4_method_4_code
def yX2_isAsGoodAs : MethodName := ⟨RX2, "isAsGoodAs", "(II)Z"⟩
abbrev cX2_isBetterThan : ByteArray := prog_4_method_5_code
def yX2_isBetterThan : MethodName := ⟨RX2, "isBetterThan", "(II)Z"⟩
def RX3 : String := "SharedTaxis$Plan"
def TX3 : u_T := fun k => match k with
  | 0 => ("SharedTaxis$Plan", "minutesOfWays", "I", false)
  | 1 => ("SharedTaxis$Plan", "town", "LSharedTaxis$Town;", true)
  | 2 => ("SharedTaxis$Plan", "desk", "LSharedTaxis$Desk;", true)
  | 3 => ("SharedTaxis$Plan", "count", "I", false)
  | 4 => ("SharedTaxis$Plan", "connected", "Z", false)
  | 5 => ("SharedTaxis$Plan", "list", "[I", true)
  | 6 => ("SharedTaxis$Plan", "way", "[I", true)
  | 7 => ("SharedTaxis$Plan", "leave", "[I", true)
  | 8 => ("SharedTaxis$Plan", "arrive", "[I", true)
  | 9 => ("SharedTaxis$Plan", "done", "[I", true)
  | _ => ("SharedTaxis$Plan", "pickupDone", "[I", true)
def tyX3 : Nat → FieldType := fun k => match k with
  | 0 => .int
  | 1 => .object "SharedTaxis$Town"
  | 2 => .object "SharedTaxis$Desk"
  | 3 => .int
  | 4 => .boolean
  | 5 => .array .int
  | 6 => .array .int
  | 7 => .array .int
  | 8 => .array .int
  | 9 => .array .int
  | _ => .array .int
abbrev wsX30 : List Cond := u_ws RX3 TX3 11
theorem nmX3 : ∀ a, a < 11 → ∀ b, b < 11 → a ≠ b → (TX3 a).2.1 ≠ (TX3 b).2.1 := by decide +kernel
theorem tyX3_ok : ∀ k, k < 11 → parseFieldDescriptor (TX3 k).2.2.1 = some (tyX3 k) := by decide +kernel
abbrev cX3_init : ByteArray := prog_5_method_1_code
def yX3_init : MethodName := ⟨RX3, "<init>", "(LSharedTaxis$Town;LSharedTaxis$Desk;)V"⟩
abbrev cX3_wayTo : ByteArray := prog_5_method_2_code
def yX3_wayTo : MethodName := ⟨RX3, "wayTo", "(I)I"⟩
abbrev cX3_leavingAt : ByteArray := prog_5_method_3_code
def yX3_leavingAt : MethodName := ⟨RX3, "leavingAt", "(I)I"⟩
abbrev cX3_arrivalAt : ByteArray := prog_5_method_4_code
def yX3_arrivalAt : MethodName := ⟨RX3, "arrivalAt", "(I)I"⟩
abbrev cX3_doneAt : ByteArray := prog_5_method_5_code
def yX3_doneAt : MethodName := ⟨RX3, "doneAt", "(I)I"⟩
abbrev cX3_hasPlace : ByteArray := prog_5_method_6_code
def yX3_hasPlace : MethodName := ⟨RX3, "hasPlace", "(I)Z"⟩
abbrev cX3_planRoute : ByteArray := prog_5_method_7_code
def yX3_planRoute : MethodName := ⟨RX3, "planRoute", "(LSharedTaxis$Taxi;)V"⟩
abbrev cX3_planInsertion : ByteArray := prog_5_method_8_code
def yX3_planInsertion : MethodName := ⟨RX3, "planInsertion", "(LSharedTaxis$Taxi;III)V"⟩
abbrev cX3_append : ByteArray := prog_5_method_9_code
def yX3_append : MethodName := ⟨RX3, "append", "(I)V"⟩
abbrev cX3_planTimes : ByteArray := prog_5_method_10_code
def yX3_planTimes : MethodName := ⟨RX3, "planTimes", "(LSharedTaxis$Taxi;)V"⟩
abbrev cX3_leavingTime : ByteArray := prog_5_method_11_code
def yX3_leavingTime : MethodName := ⟨RX3, "leavingTime", "(LSharedTaxis$Taxi;II)I"⟩
abbrev cX3_stayAt : ByteArray := prog_5_method_12_code
def yX3_stayAt : MethodName := ⟨RX3, "stayAt", "(I)I"⟩
abbrev cX3_stintBehind : ByteArray := prog_5_method_13_code
def yX3_stintBehind : MethodName := ⟨RX3, "stintBehind", "(IIII)I"⟩
abbrev cX3_keepsLimits : ByteArray := prog_5_method_14_code
def yX3_keepsLimits : MethodName := ⟨RX3, "keepsLimits", "(LSharedTaxis$Taxi;)Z"⟩
abbrev cX3_isInTime : ByteArray := prog_5_method_15_code
def yX3_isInTime : MethodName := ⟨RX3, "isInTime", "(I)Z"⟩
abbrev cX3_personsChange : ByteArray := prog_5_method_16_code
def yX3_personsChange : MethodName := ⟨RX3, "personsChange", "(I)I"⟩
def RX4 : String := "SharedTaxis$QueryReader"
def TX4 : u_T := fun k => match k with
  | 0 => ("SharedTaxis$QueryReader", "tokens", "LSharedTaxis$Tokens;", true)
  | _ => ("SharedTaxis$QueryReader", "desk", "LSharedTaxis$Desk;", true)
def tyX4 : Nat → FieldType := fun k => match k with
  | 0 => .object "SharedTaxis$Tokens"
  | _ => .object "SharedTaxis$Desk"
abbrev wsX40 : List Cond := u_ws RX4 TX4 2
theorem nmX4 : ∀ a, a < 2 → ∀ b, b < 2 → a ≠ b → (TX4 a).2.1 ≠ (TX4 b).2.1 := by decide +kernel
theorem tyX4_ok : ∀ k, k < 2 → parseFieldDescriptor (TX4 k).2.2.1 = some (tyX4 k) := by decide +kernel
abbrev cX4_init : ByteArray := prog_6_method_1_code
def yX4_init : MethodName := ⟨RX4, "<init>", "(LSharedTaxis$Tokens;LSharedTaxis$Desk;)V"⟩
def RX5 : String := "SharedTaxis$Ride"
def TX5 : u_T := fun k => match k with
  | 0 => ("SharedTaxis$Ride", "state", "I", false)
  | 1 => ("SharedTaxis$Ride", "from", "I", false)
  | 2 => ("SharedTaxis$Ride", "to", "I", false)
  | 3 => ("SharedTaxis$Ride", "persons", "I", false)
  | 4 => ("SharedTaxis$Ride", "ready", "I", false)
  | 5 => ("SharedTaxis$Ride", "latest", "I", false)
  | 6 => ("SharedTaxis$Ride", "detour", "I", false)
  | 7 => ("SharedTaxis$Ride", "direct", "I", false)
  | 8 => ("SharedTaxis$Ride", "mostAboard", "I", false)
  | 9 => ("SharedTaxis$Ride", "taxi", "I", false)
  | 10 => ("SharedTaxis$Ride", "pickedUp", "I", false)
  | 11 => ("SharedTaxis$Ride", "arrived", "I", false)
  | 12 => ("SharedTaxis$Ride", "paid", "I", false)
  | 13 => ("SharedTaxis$Ride", "absent", "Z", false)
  | 14 => ("SharedTaxis$Ride", "offerTaxi", "I", false)
  | 15 => ("SharedTaxis$Ride", "offerExtra", "I", false)
  | 16 => ("SharedTaxis$Ride", "offerPickup", "I", false)
  | 17 => ("SharedTaxis$Ride", "offerDrop", "I", false)
  | _ => ("SharedTaxis$Ride", "offerLast", "I", false)
def tyX5 : Nat → FieldType := fun k => match k with
  | 0 => .int
  | 1 => .int
  | 2 => .int
  | 3 => .int
  | 4 => .int
  | 5 => .int
  | 6 => .int
  | 7 => .int
  | 8 => .int
  | 9 => .int
  | 10 => .int
  | 11 => .int
  | 12 => .int
  | 13 => .boolean
  | 14 => .int
  | 15 => .int
  | 16 => .int
  | 17 => .int
  | _ => .int
abbrev wsX50 : List Cond := u_ws RX5 TX5 19
theorem nmX5 : ∀ a, a < 19 → ∀ b, b < 19 → a ≠ b → (TX5 a).2.1 ≠ (TX5 b).2.1 := by decide +kernel
theorem tyX5_ok : ∀ k, k < 19 → parseFieldDescriptor (TX5 k).2.2.1 = some (tyX5 k) := by decide +kernel
abbrev cX5_init : ByteArray := prog_7_method_1_code
def yX5_init : MethodName := ⟨RX5, "<init>", "()V"⟩
abbrev cX5_begin : ByteArray := prog_7_method_2_code
def yX5_begin : MethodName := ⟨RX5, "begin", "(IIII)V"⟩
abbrev cX5_setDirect : ByteArray := prog_7_method_3_code
def yX5_setDirect : MethodName := ⟨RX5, "setDirect", "(I)V"⟩
abbrev cX5_copyFrom : ByteArray := prog_7_method_4_code
def yX5_copyFrom : MethodName := ⟨RX5, "copyFrom", "(LSharedTaxis$Ride;)V"⟩
def RX6 : String := "SharedTaxis$Taxi"
def TX6 : u_T := fun k => match k with
  | 0 => ("SharedTaxis$Taxi", "seats", "I", false)
  | 1 => ("SharedTaxis$Taxi", "zone", "I", false)
  | 2 => ("SharedTaxis$Taxi", "free", "I", false)
  | 3 => ("SharedTaxis$Taxi", "begin", "I", false)
  | 4 => ("SharedTaxis$Taxi", "end", "I", false)
  | 5 => ("SharedTaxis$Taxi", "stint", "I", false)
  | 6 => ("SharedTaxis$Taxi", "left", "I", false)
  | 7 => ("SharedTaxis$Taxi", "stops", "I", false)
  | 8 => ("SharedTaxis$Taxi", "parties", "I", false)
  | 9 => ("SharedTaxis$Taxi", "route", "[I", true)
  | 10 => ("SharedTaxis$Taxi", "aboard", "[I", true)
  | 11 => ("SharedTaxis$Taxi", "takings", "I", false)
  | 12 => ("SharedTaxis$Taxi", "tips", "I", false)
  | 13 => ("SharedTaxis$Taxi", "driven", "I", false)
  | 14 => ("SharedTaxis$Taxi", "drivenWithParties", "I", false)
  | 15 => ("SharedTaxis$Taxi", "drivenShared", "I", false)
  | _ => ("SharedTaxis$Taxi", "amounts", "I", false)
def tyX6 : Nat → FieldType := fun k => match k with
  | 0 => .int
  | 1 => .int
  | 2 => .int
  | 3 => .int
  | 4 => .int
  | 5 => .int
  | 6 => .int
  | 7 => .int
  | 8 => .int
  | 9 => .array .int
  | 10 => .array .int
  | 11 => .int
  | 12 => .int
  | 13 => .int
  | 14 => .int
  | 15 => .int
  | _ => .int
abbrev wsX60 : List Cond := u_ws RX6 TX6 17
theorem nmX6 : ∀ a, a < 17 → ∀ b, b < 17 → a ≠ b → (TX6 a).2.1 ≠ (TX6 b).2.1 := by decide +kernel
theorem tyX6_ok : ∀ k, k < 17 → parseFieldDescriptor (TX6 k).2.2.1 = some (tyX6 k) := by decide +kernel
abbrev cX6_init : ByteArray := prog_8_method_1_code
def yX6_init : MethodName := ⟨RX6, "<init>", "()V"⟩
abbrev cX6_startShift : ByteArray := prog_8_method_2_code
def yX6_startShift : MethodName := ⟨RX6, "startShift", "(IIII)V"⟩
abbrev cX6_copyFrom : ByteArray := prog_8_method_3_code
def yX6_copyFrom : MethodName := ⟨RX6, "copyFrom", "(LSharedTaxis$Taxi;)V"⟩
abbrev cX6_stopAt : ByteArray := prog_8_method_4_code
def yX6_stopAt : MethodName := ⟨RX6, "stopAt", "(I)I"⟩
abbrev cX6_insertStop : ByteArray := prog_8_method_5_code
def yX6_insertStop : MethodName := ⟨RX6, "insertStop", "(II)V"⟩
abbrev cX6_removeStop : ByteArray := prog_8_method_6_code
def yX6_removeStop : MethodName := ⟨RX6, "removeStop", "(I)V"⟩
abbrev cX6_partyAt : ByteArray := prog_8_method_7_code
def yX6_partyAt : MethodName := ⟨RX6, "partyAt", "(I)I"⟩
abbrev cX6_takeAboard : ByteArray := prog_8_method_8_code
def yX6_takeAboard : MethodName := ⟨RX6, "takeAboard", "(I)V"⟩
abbrev cX6_letOut : ByteArray := prog_8_method_9_code
def yX6_letOut : MethodName := ⟨RX6, "letOut", "(I)V"⟩
def RX7 : String := "SharedTaxis$TextReader"
def TX7 : u_T := fun k => match k with
  | 0 => ("SharedTaxis$TextReader", "town", "LSharedTaxis$Town;", true)
  | 1 => ("SharedTaxis$TextReader", "desk", "LSharedTaxis$Desk;", true)
  | _ => ("SharedTaxis$TextReader", "tokens", "LSharedTaxis$Tokens;", true)
def tyX7 : Nat → FieldType := fun k => match k with
  | 0 => .object "SharedTaxis$Town"
  | 1 => .object "SharedTaxis$Desk"
  | _ => .object "SharedTaxis$Tokens"
abbrev wsX70 : List Cond := u_ws RX7 TX7 3
theorem nmX7 : ∀ a, a < 3 → ∀ b, b < 3 → a ≠ b → (TX7 a).2.1 ≠ (TX7 b).2.1 := by decide +kernel
theorem tyX7_ok : ∀ k, k < 3 → parseFieldDescriptor (TX7 k).2.2.1 = some (tyX7 k) := by decide +kernel
abbrev cX7_init : ByteArray := prog_9_method_1_code
def yX7_init : MethodName := ⟨RX7, "<init>", "(LSharedTaxis$Tokens;)V"⟩
abbrev cX7_readText : ByteArray := prog_9_method_2_code
def yX7_readText : MethodName := ⟨RX7, "readText", "()V"⟩
abbrev cX7_readClause : ByteArray := prog_9_method_3_code
def yX7_readClause : MethodName := ⟨RX7, "readClause", "()V"⟩
abbrev cX7_readRoad : ByteArray := prog_9_method_4_code
def yX7_readRoad : MethodName := ⟨RX7, "readRoad", "()V"⟩
abbrev cX7_readRuleValue : ByteArray := prog_9_method_5_code
def yX7_readRuleValue : MethodName := ⟨RX7, "readRuleValue", "(I)V"⟩
abbrev cX7_readTaxi : ByteArray := prog_9_method_6_code
def yX7_readTaxi : MethodName := ⟨RX7, "readTaxi", "()V"⟩
def RX8 : String := "SharedTaxis$Tokens"
def TX8 : u_T := fun k => match k with
  | 0 => ("SharedTaxis$Tokens", "error", "I", false)
  | 1 => ("SharedTaxis$Tokens", "errorAt", "I", false)
  | 2 => ("SharedTaxis$Tokens", "bytes", "[B", true)
  | 3 => ("SharedTaxis$Tokens", "kinds", "[I", true)
  | 4 => ("SharedTaxis$Tokens", "starts", "[I", true)
  | 5 => ("SharedTaxis$Tokens", "lengths", "[I", true)
  | 6 => ("SharedTaxis$Tokens", "values", "[I", true)
  | 7 => ("SharedTaxis$Tokens", "count", "I", false)
  | 8 => ("SharedTaxis$Tokens", "current", "I", false)
  | 9 => ("SharedTaxis$Tokens", "kind", "I", false)
  | _ => ("SharedTaxis$Tokens", "value", "I", false)
def tyX8 : Nat → FieldType := fun k => match k with
  | 0 => .int
  | 1 => .int
  | 2 => .array .byte
  | 3 => .array .int
  | 4 => .array .int
  | 5 => .array .int
  | 6 => .array .int
  | 7 => .int
  | 8 => .int
  | 9 => .int
  | _ => .int
abbrev wsX80 : List Cond := u_ws RX8 TX8 11
theorem nmX8 : ∀ a, a < 11 → ∀ b, b < 11 → a ≠ b → (TX8 a).2.1 ≠ (TX8 b).2.1 := by decide +kernel
theorem tyX8_ok : ∀ k, k < 11 → parseFieldDescriptor (TX8 k).2.2.1 = some (tyX8 k) := by decide +kernel
abbrev cX8_init : ByteArray := prog_10_method_1_code
def yX8_init : MethodName := ⟨RX8, "<init>", "([B)V"⟩
abbrev cX8_begin : ByteArray := prog_10_method_2_code
def yX8_begin : MethodName := ⟨RX8, "begin", "(I)V"⟩
abbrev cX8_byteAt : ByteArray := prog_10_method_3_code
def yX8_byteAt : MethodName := ⟨RX8, "byteAt", "(I)I"⟩
abbrev cX8_kindOf : ByteArray := prog_10_method_4_code
def yX8_kindOf : MethodName := ⟨RX8, "kindOf", "(I)I"⟩
abbrev cX8_appendToken : ByteArray := prog_10_method_5_code
def yX8_appendToken : MethodName := ⟨RX8, "appendToken", "(II)V"⟩
abbrev cX8_extendToken : ByteArray := prog_10_method_6_code
def yX8_extendToken : MethodName := ⟨RX8, "extendToken", "(I)V"⟩
abbrev cX8_nameWords : ByteArray := prog_10_method_7_code
def yX8_nameWords : MethodName := ⟨RX8, "nameWords", "()V"⟩
abbrev cX8_placeOfWord : ByteArray := prog_10_method_8_code
def yX8_placeOfWord : MethodName := ⟨RX8, "placeOfWord", "(II)I"⟩
abbrev cX8_isWordAt : ByteArray := prog_10_method_9_code
def yX8_isWordAt : MethodName := ⟨RX8, "isWordAt", "(III)Z"⟩
abbrev cX8_next : ByteArray := prog_10_method_10_code
def yX8_next : MethodName := ⟨RX8, "next", "()V"⟩
abbrev cX8_fail : ByteArray := prog_10_method_11_code
def yX8_fail : MethodName := ⟨RX8, "fail", "(I)V"⟩
abbrev cX8_hasMore : ByteArray := prog_10_method_12_code
def yX8_hasMore : MethodName := ⟨RX8, "hasMore", "()Z"⟩
abbrev cX8_isWord : ByteArray := prog_10_method_14_code
def yX8_isWord : MethodName := ⟨RX8, "isWord", "(I)Z"⟩
abbrev cX8_takeSign : ByteArray := prog_10_method_16_code
def yX8_takeSign : MethodName := ⟨RX8, "takeSign", "(C)V"⟩
abbrev cX8_takeWord : ByteArray := prog_10_method_17_code
def yX8_takeWord : MethodName := ⟨RX8, "takeWord", "(II)I"⟩
abbrev cX8_takeNumber : ByteArray := prog_10_method_18_code
def yX8_takeNumber : MethodName := ⟨RX8, "takeNumber", "(II)I"⟩
abbrev cX8_checkNumber : ByteArray := prog_10_method_19_code
def yX8_checkNumber : MethodName := ⟨RX8, "checkNumber", "(II)I"⟩
def RX9 : String := "SharedTaxis$Town"
def TX9 : u_T := fun k => match k with
  | 0 => ("SharedTaxis$Town", "zones", "I", false)
  | 1 => ("SharedTaxis$Town", "roads", "I", false)
  | _ => ("SharedTaxis$Town", "ways", "[I", true)
def tyX9 : Nat → FieldType := fun k => match k with
  | 0 => .int
  | 1 => .int
  | _ => .array .int
abbrev wsX90 : List Cond := u_ws RX9 TX9 3
theorem nmX9 : ∀ a, a < 3 → ∀ b, b < 3 → a ≠ b → (TX9 a).2.1 ≠ (TX9 b).2.1 := by decide +kernel
theorem tyX9_ok : ∀ k, k < 3 → parseFieldDescriptor (TX9 k).2.2.1 = some (tyX9 k) := by decide +kernel
abbrev cX9_init : ByteArray := prog_11_method_1_code
def yX9_init : MethodName := ⟨RX9, "<init>", "()V"⟩
abbrev cX9_clear : ByteArray := prog_11_method_2_code
def yX9_clear : MethodName := ⟨RX9, "clear", "(I)V"⟩
abbrev cX9_copyFrom : ByteArray := prog_11_method_3_code
def yX9_copyFrom : MethodName := ⟨RX9, "copyFrom", "(LSharedTaxis$Town;)V"⟩
abbrev cX9_wayMinutes : ByteArray := prog_11_method_4_code
def yX9_wayMinutes : MethodName := ⟨RX9, "wayMinutes", "(II)I"⟩
abbrev cX9_hasPlaces : ByteArray := prog_11_method_5_code
def yX9_hasPlaces : MethodName := ⟨RX9, "hasPlaces", "(II)Z"⟩
abbrev cX9_addRoad : ByteArray := prog_11_method_6_code
def yX9_addRoad : MethodName := ⟨RX9, "addRoad", "(III)V"⟩
abbrev cX9_findWays : ByteArray := prog_11_method_7_code
def yX9_findWays : MethodName := ⟨RX9, "findWays", "()V"⟩
abbrev cX9_shorten : ByteArray := prog_11_method_8_code
def yX9_shorten : MethodName := ⟨RX9, "shorten", "(III)V"⟩
def RX10 : String := "SharedTaxis$Traffic"
def TX10 : u_T := fun k => match k with
  | 0 => ("SharedTaxis$Traffic", "town", "LSharedTaxis$Town;", true)
  | 1 => ("SharedTaxis$Traffic", "desk", "LSharedTaxis$Desk;", true)
  | 2 => ("SharedTaxis$Traffic", "plan", "LSharedTaxis$Plan;", true)
  | _ => ("SharedTaxis$Traffic", "fancied", "LSharedTaxis$Taxi;", true)
def tyX10 : Nat → FieldType := fun k => match k with
  | 0 => .object "SharedTaxis$Town"
  | 1 => .object "SharedTaxis$Desk"
  | 2 => .object "SharedTaxis$Plan"
  | _ => .object "SharedTaxis$Taxi"
abbrev wsX100 : List Cond := u_ws RX10 TX10 4
theorem nmX10 : ∀ a, a < 4 → ∀ b, b < 4 → a ≠ b → (TX10 a).2.1 ≠ (TX10 b).2.1 := by decide +kernel
theorem tyX10_ok : ∀ k, k < 4 → parseFieldDescriptor (TX10 k).2.2.1 = some (tyX10 k) := by decide +kernel
abbrev cX10_init : ByteArray := prog_12_method_1_code
def yX10_init : MethodName := ⟨RX10, "<init>", "(LSharedTaxis$Town;LSharedTaxis$Desk;LSharedTaxis$Plan;)V"⟩
abbrev cX10_passMinutes : ByteArray := prog_12_method_2_code
def yX10_passMinutes : MethodName := ⟨RX10, "passMinutes", "(I)I"⟩
abbrev cX10_driveTill : ByteArray := prog_12_method_3_code
def yX10_driveTill : MethodName := ⟨RX10, "driveTill", "(LSharedTaxis$Taxi;I)I"⟩
abbrev cX10_doFirstStop : ByteArray := prog_12_method_4_code
def yX10_doFirstStop : MethodName := ⟨RX10, "doFirstStop", "(LSharedTaxis$Taxi;)V"⟩
abbrev cX10_payWay : ByteArray := prog_12_method_5_code
def yX10_payWay : MethodName := ⟨RX10, "payWay", "(LSharedTaxis$Taxi;I)V"⟩
abbrev cX10_pay : ByteArray := prog_12_method_6_code
def yX10_pay : MethodName := ⟨RX10, "pay", "(LSharedTaxis$Taxi;LSharedTaxis$Ride;I)V"⟩
abbrev cX10_endPickup : ByteArray := prog_12_method_7_code
def yX10_endPickup : MethodName := ⟨RX10, "endPickup", "(LSharedTaxis$Taxi;I)V"⟩
abbrev cX10_endDrop : ByteArray := prog_12_method_8_code
def yX10_endDrop : MethodName := ⟨RX10, "endDrop", "(LSharedTaxis$Taxi;I)V"⟩
abbrev cX10_closeOffers : ByteArray := prog_12_method_9_code
def yX10_closeOffers : MethodName := ⟨RX10, "closeOffers", "()V"⟩
abbrev cX10_amountOfWay : ByteArray := prog_12_method_10_code
def yX10_amountOfWay : MethodName := ⟨RX10, "amountOfWay", "(II)I"⟩
abbrev cX10_shareOf : ByteArray := prog_12_method_11_code
def yX10_shareOf : MethodName := ⟨RX10, "shareOf", "(III)I"⟩
def RX11 : String := "SharedTaxis"
def TX11 : u_T := fun k => match k with
  | 0 => ("SharedTaxis", "buffer", "[B", true)
  | 1 => ("SharedTaxis", "filled", "I", false)
  | 2 => ("SharedTaxis", "errorAt", "I", false)
  | 3 => ("SharedTaxis", "formatted", "[B", true)
  | 4 => ("SharedTaxis", "formattedLength", "I", false)
  | 5 => ("SharedTaxis", "town", "LSharedTaxis$Town;", true)
  | 6 => ("SharedTaxis", "desk", "LSharedTaxis$Desk;", true)
  | 7 => ("SharedTaxis", "history", "LSharedTaxis$History;", true)
  | 8 => ("SharedTaxis", "snapshot", "LSharedTaxis$Desk;", true)
  | 9 => ("SharedTaxis", "hasSnapshot", "Z", false)
  | 10 => ("SharedTaxis", "plan", "LSharedTaxis$Plan;", true)
  | 11 => ("SharedTaxis", "insertion", "LSharedTaxis$Insertion;", true)
  | 12 => ("SharedTaxis", "traffic", "LSharedTaxis$Traffic;", true)
  | 13 => ("SharedTaxis", "tokens", "LSharedTaxis$Tokens;", true)
  | 14 => ("SharedTaxis", "textReader", "LSharedTaxis$TextReader;", true)
  | _ => ("SharedTaxis", "queryReader", "LSharedTaxis$QueryReader;", true)
def tyX11 : Nat → FieldType := fun k => match k with
  | 0 => .array .byte
  | 1 => .int
  | 2 => .int
  | 3 => .array .byte
  | 4 => .int
  | 5 => .object "SharedTaxis$Town"
  | 6 => .object "SharedTaxis$Desk"
  | 7 => .object "SharedTaxis$History"
  | 8 => .object "SharedTaxis$Desk"
  | 9 => .boolean
  | 10 => .object "SharedTaxis$Plan"
  | 11 => .object "SharedTaxis$Insertion"
  | 12 => .object "SharedTaxis$Traffic"
  | 13 => .object "SharedTaxis$Tokens"
  | 14 => .object "SharedTaxis$TextReader"
  | _ => .object "SharedTaxis$QueryReader"
abbrev wsX110 : List Cond := u_ws RX11 TX11 16
theorem nmX11 : ∀ a, a < 16 → ∀ b, b < 16 → a ≠ b → (TX11 a).2.1 ≠ (TX11 b).2.1 := by decide +kernel
theorem tyX11_ok : ∀ k, k < 16 → parseFieldDescriptor (TX11 k).2.2.1 = some (tyX11 k) := by decide +kernel
abbrev cX11_init : ByteArray := prog_1_method_1_code
def yX11_init : MethodName := ⟨RX11, "<init>", "()V"⟩
abbrev cX11_feed : ByteArray := prog_1_method_2_code
def yX11_feed : MethodName := ⟨RX11, "feed", "(IIIII)I"⟩
abbrev cX11_appendFourBytes : ByteArray := prog_1_method_3_code
def yX11_appendFourBytes : MethodName := ⟨RX11, "appendFourBytes", "(I)V"⟩
abbrev cX11_load : ByteArray := prog_1_method_4_code
def yX11_load : MethodName := ⟨RX11, "load", "(I)I"⟩
abbrev cX11_errorPosition : ByteArray := prog_1_method_6_code
def yX11_errorPosition : MethodName := ⟨RX11, "errorPosition", "()I"⟩
abbrev cX11_size : ByteArray := prog_1_method_11_code
def yX11_size : MethodName := ⟨RX11, "size", "(I)I"⟩
abbrev cX11_rule : ByteArray := prog_1_method_12_code
def yX11_rule : MethodName := ⟨RX11, "rule", "(I)I"⟩
abbrev cX11_account : ByteArray := prog_1_method_15_code
def yX11_account : MethodName := ⟨RX11, "account", "(II)I"⟩
abbrev cX11_ride : ByteArray := prog_1_method_17_code
def yX11_ride : MethodName := ⟨RX11, "ride", "(II)I"⟩
abbrev cX11_ask : ByteArray := prog_1_method_27_code
def yX11_ask : MethodName := ⟨RX11, "ask", "(IIIII)I"⟩
abbrev cX11_findOffer : ByteArray := prog_1_method_28_code
def yX11_findOffer : MethodName := ⟨RX11, "findOffer", "(LSharedTaxis$Ride;I)V"⟩
abbrev cX11_accept : ByteArray := prog_1_method_29_code
def yX11_accept : MethodName := ⟨RX11, "accept", "(I)I"⟩
abbrev cX11_absent : ByteArray := prog_1_method_32_code
def yX11_absent : MethodName := ⟨RX11, "absent", "(I)I"⟩
abbrev cX11_advance : ByteArray := prog_1_method_33_code
def yX11_advance : MethodName := ⟨RX11, "advance", "(I)I"⟩
abbrev cX11_tip : ByteArray := prog_1_method_34_code
def yX11_tip : MethodName := ⟨RX11, "tip", "(II)I"⟩
abbrev cX11_checkZone : ByteArray := prog_1_method_42_code
def yX11_checkZone : MethodName := ⟨RX11, "checkZone", "(I)V"⟩
abbrev cX11_checkRule : ByteArray := prog_1_method_43_code
def yX11_checkRule : MethodName := ⟨RX11, "checkRule", "(I)V"⟩
abbrev cX11_checkRange : ByteArray := prog_1_method_44_code
def yX11_checkRange : MethodName := ⟨RX11, "checkRange", "(III)V"⟩
abbrev cX11_existingTaxi : ByteArray := prog_1_method_45_code
def yX11_existingTaxi : MethodName := ⟨RX11, "existingTaxi", "(I)LSharedTaxis$Taxi;"⟩
abbrev cX11_existingRide : ByteArray := prog_1_method_46_code
def yX11_existingRide : MethodName := ⟨RX11, "existingRide", "(I)LSharedTaxis$Ride;"⟩
def RX12 : String := "SharedTaxisModel"
def TX12 : u_T := fun k => match k with
  | _ => ("", "", "", false)
def tyX12 : Nat → FieldType := fun k => match k with
  | _ => .int
abbrev wsX120 : List Cond := u_ws RX12 TX12 0
theorem nmX12 : ∀ a, a < 0 → ∀ b, b < 0 → a ≠ b → (TX12 a).2.1 ≠ (TX12 b).2.1 := by decide +kernel
theorem tyX12_ok : ∀ k, k < 0 → parseFieldDescriptor (TX12 k).2.2.1 = some (tyX12 k) := by decide +kernel
def RJx145de : String := "java/io/Serializable"
def TJx145de : u_T := fun k => match k with
  | _ => ("", "", "", false)
def tyJx145de : Nat → FieldType := fun k => match k with
  | _ => .int
abbrev wsJx145de0 : List Cond := u_ws RJx145de TJx145de 0
theorem nmJx145de : ∀ a, a < 0 → ∀ b, b < 0 → a ≠ b → (TJx145de a).2.1 ≠ (TJx145de b).2.1 := by decide +kernel
theorem tyJx145de_ok : ∀ k, k < 0 → parseFieldDescriptor (TJx145de k).2.2.1 = some (tyJx145de k) := by decide +kernel
def RJx9f9b0 : String := "java/lang/CharSequence"
def TJx9f9b0 : u_T := fun k => match k with
  | _ => ("", "", "", false)
def tyJx9f9b0 : Nat → FieldType := fun k => match k with
  | _ => .int
abbrev wsJx9f9b00 : List Cond := u_ws RJx9f9b0 TJx9f9b0 0
theorem nmJx9f9b0 : ∀ a, a < 0 → ∀ b, b < 0 → a ≠ b → (TJx9f9b0 a).2.1 ≠ (TJx9f9b0 b).2.1 := by decide +kernel
theorem tyJx9f9b0_ok : ∀ k, k < 0 → parseFieldDescriptor (TJx9f9b0 k).2.2.1 = some (tyJx9f9b0 k) := by decide +kernel
def RJxb160c : String := "java/lang/Comparable"
def TJxb160c : u_T := fun k => match k with
  | _ => ("", "", "", false)
def tyJxb160c : Nat → FieldType := fun k => match k with
  | _ => .int
abbrev wsJxb160c0 : List Cond := u_ws RJxb160c TJxb160c 0
theorem nmJxb160c : ∀ a, a < 0 → ∀ b, b < 0 → a ≠ b → (TJxb160c a).2.1 ≠ (TJxb160c b).2.1 := by decide +kernel
theorem tyJxb160c_ok : ∀ k, k < 0 → parseFieldDescriptor (TJxb160c k).2.2.1 = some (tyJxb160c k) := by decide +kernel
def RJ9 : String := "java/lang/Math"
def TJ9 : u_T := fun k => match k with
  | _ => ("", "", "", false)
def tyJ9 : Nat → FieldType := fun k => match k with
  | _ => .int
abbrev wsJ90 : List Cond := u_ws RJ9 TJ9 0
theorem nmJ9 : ∀ a, a < 0 → ∀ b, b < 0 → a ≠ b → (TJ9 a).2.1 ≠ (TJ9 b).2.1 := by decide +kernel
theorem tyJ9_ok : ∀ k, k < 0 → parseFieldDescriptor (TJ9 k).2.2.1 = some (tyJ9 k) := by decide +kernel
abbrev cJ9_max_7cf53 : ByteArray := prog_20_method_65_code
def yJ9_max_7cf53 : MethodName := ⟨RJ9, "max", "(II)I"⟩
abbrev cJ9_min_7cf53 : ByteArray := prog_20_method_69_code
def yJ9_min_7cf53 : MethodName := ⟨RJ9, "min", "(II)I"⟩
def RJ0 : String := "java/lang/String"
def TJ0 : u_T := fun k => match k with
  | _ => ("", "", "", false)
def tyJ0 : Nat → FieldType := fun k => match k with
  | _ => .int
abbrev wsJ00 : List Cond := u_ws RJ0 TJ0 0
theorem nmJ0 : ∀ a, a < 0 → ∀ b, b < 0 → a ≠ b → (TJ0 a).2.1 ≠ (TJ0 b).2.1 := by decide +kernel
theorem tyJ0_ok : ∀ k, k < 0 → parseFieldDescriptor (TJ0 k).2.2.1 = some (tyJ0 k) := by decide +kernel
abbrev cJ0_length_8abf5 : ByteArray := prog_22_method_54_code
def yJ0_length_8abf5 : MethodName := ⟨RJ0, "length", "()I"⟩
abbrev cJ0_charAt_5068e : ByteArray := prog_22_method_56_code
def yJ0_charAt_5068e : MethodName := ⟨RJ0, "charAt", "(I)C"⟩
abbrev cJ0_coder_7d493 : ByteArray := prog_22_method_152_code
def yJ0_coder_7d493 : MethodName := ⟨RJ0, "coder", "()B"⟩
abbrev cJ0_isLatin1_aae02 : ByteArray := prog_22_method_154_code
def yJ0_isLatin1_aae02 : MethodName := ⟨RJ0, "isLatin1", "()Z"⟩
abbrev cJ0_checkIndex_df160 : ByteArray := prog_22_method_155_code
def yJ0_checkIndex_df160 : MethodName := ⟨RJ0, "checkIndex", "(II)V"⟩
def RJ1 : String := "java/lang/StringLatin1"
def TJ1 : u_T := fun k => match k with
  | _ => ("", "", "", false)
def tyJ1 : Nat → FieldType := fun k => match k with
  | _ => .int
abbrev wsJ10 : List Cond := u_ws RJ1 TJ1 0
theorem nmJ1 : ∀ a, a < 0 → ∀ b, b < 0 → a ≠ b → (TJ1 a).2.1 ≠ (TJ1 b).2.1 := by decide +kernel
theorem tyJ1_ok : ∀ k, k < 0 → parseFieldDescriptor (TJ1 k).2.2.1 = some (tyJ1 k) := by decide +kernel
abbrev cJ1_charAt_3b067 : ByteArray := prog_23_method_2_code
def yJ1_charAt_3b067 : MethodName := ⟨RJ1, "charAt", "([BI)C"⟩
def RJ2 : String := "java/lang/StringUTF16"
def TJ2 : u_T := fun k => match k with
  | _ => ("", "", "", false)
def tyJ2 : Nat → FieldType := fun k => match k with
  | _ => .int
abbrev wsJ20 : List Cond := u_ws RJ2 TJ2 0
theorem nmJ2 : ∀ a, a < 0 → ∀ b, b < 0 → a ≠ b → (TJ2 a).2.1 ≠ (TJ2 b).2.1 := by decide +kernel
theorem tyJ2_ok : ∀ k, k < 0 → parseFieldDescriptor (TJ2 k).2.2.1 = some (tyJ2 k) := by decide +kernel
abbrev cJ2_getChar_3b067 : ByteArray := prog_24_method_5_code
def yJ2_getChar_3b067 : MethodName := ⟨RJ2, "getChar", "([BI)C"⟩
abbrev cJ2_length_9d52b : ByteArray := prog_24_method_6_code
def yJ2_length_9d52b : MethodName := ⟨RJ2, "length", "([B)I"⟩
abbrev cJ2_charAt_3b067 : ByteArray := prog_24_method_83_code
def yJ2_charAt_3b067 : MethodName := ⟨RJ2, "charAt", "([BI)C"⟩
abbrev cJ2_checkIndex_2214a : ByteArray := prog_24_method_91_code
def yJ2_checkIndex_2214a : MethodName := ⟨RJ2, "checkIndex", "(I[B)V"⟩
def RJxfd54e : String := "java/lang/constant/Constable"
def TJxfd54e : u_T := fun k => match k with
  | _ => ("", "", "", false)
def tyJxfd54e : Nat → FieldType := fun k => match k with
  | _ => .int
abbrev wsJxfd54e0 : List Cond := u_ws RJxfd54e TJxfd54e 0
theorem nmJxfd54e : ∀ a, a < 0 → ∀ b, b < 0 → a ≠ b → (TJxfd54e a).2.1 ≠ (TJxfd54e b).2.1 := by decide +kernel
theorem tyJxfd54e_ok : ∀ k, k < 0 → parseFieldDescriptor (TJxfd54e k).2.2.1 = some (tyJxfd54e k) := by decide +kernel
def RJx3cf43 : String := "java/lang/constant/ConstantDesc"
def TJx3cf43 : u_T := fun k => match k with
  | _ => ("", "", "", false)
def tyJx3cf43 : Nat → FieldType := fun k => match k with
  | _ => .int
abbrev wsJx3cf430 : List Cond := u_ws RJx3cf43 TJx3cf43 0
theorem nmJx3cf43 : ∀ a, a < 0 → ∀ b, b < 0 → a ≠ b → (TJx3cf43 a).2.1 ≠ (TJx3cf43 b).2.1 := by decide +kernel
theorem tyJx3cf43_ok : ∀ k, k < 0 → parseFieldDescriptor (TJx3cf43 k).2.2.1 = some (tyJx3cf43 k) := by decide +kernel
def RJ3 : String := "jdk/internal/util/Preconditions"
def TJ3 : u_T := fun k => match k with
  | _ => ("", "", "", false)
def tyJ3 : Nat → FieldType := fun k => match k with
  | _ => .int
abbrev wsJ30 : List Cond := u_ws RJ3 TJ3 0
theorem nmJ3 : ∀ a, a < 0 → ∀ b, b < 0 → a ≠ b → (TJ3 a).2.1 ≠ (TJ3 b).2.1 := by decide +kernel
theorem tyJ3_ok : ∀ k, k < 0 → parseFieldDescriptor (TJ3 k).2.2.1 = some (tyJ3 k) := by decide +kernel
abbrev cJ3_checkIndex_8e157 : ByteArray := prog_29_method_11_code
def yJ3_checkIndex_8e157 : MethodName := ⟨RJ3, "checkIndex", "(IILjava/util/function/BiFunction;)I"⟩
def RL : String := "SharedTaxisLaw"
def TL : u_T := fun k => match k with
  | 0 => ("SharedTaxisLaw", "text", "[I", true)
  | 1 => ("SharedTaxisLaw", "size", "I", false)
  | 2 => ("SharedTaxisLaw", "zones", "I", false)
  | 3 => ("SharedTaxisLaw", "taxis", "I", false)
  | 4 => ("SharedTaxisLaw", "flag", "I", false)
  | 5 => ("SharedTaxisLaw", "fee", "I", false)
  | _ => ("SharedTaxisLaw", "rides", "I", false)
def tyL : Nat → FieldType := fun k => match k with
  | 0 => .array .int
  | 1 => .int
  | 2 => .int
  | 3 => .int
  | 4 => .int
  | 5 => .int
  | _ => .int
abbrev wsL0 : List Cond := u_ws RL TL 7
theorem nmL : ∀ a, a < 7 → ∀ b, b < 7 → a ≠ b → (TL a).2.1 ≠ (TL b).2.1 := by decide +kernel
theorem tyL_ok : ∀ k, k < 7 → parseFieldDescriptor (TL k).2.2.1 = some (tyL k) := by decide +kernel
abbrev cL_init : ByteArray := method_1_code
def yL_init : MethodName := ⟨RL, "<init>", "()V"⟩
abbrev cL_writes : ByteArray := method_2_code
def yL_writes : MethodName := ⟨RL, "writes", "(Ljava/lang/String;)V"⟩
abbrev cL_number : ByteArray := method_3_code
def yL_number : MethodName := ⟨RL, "number", "(I)V"⟩
abbrev cL_cell : ByteArray := method_4_code
def yL_cell : MethodName := ⟨RL, "cell", "([II)I"⟩
abbrev cL_feeds : ByteArray := method_5_code
def yL_feeds : MethodName := ⟨RL, "feeds", "(LSharedTaxis;)I"⟩
abbrev cL_clause : ByteArray := method_6_code
def yL_clause : MethodName := ⟨RL, "clause", "(Ljava/lang/String;IIII)V"⟩
abbrev cL_rule : ByteArray := method_7_code
def yL_rule : MethodName := ⟨RL, "rule", "(Ljava/lang/String;I)V"⟩
abbrev cL_tells : ByteArray := method_8_code
def yL_tells : MethodName := ⟨RL, "tells", "(LSharedTaxis;[I)Z"⟩
abbrev cL_asks : ByteArray := method_9_code
def yL_asks : MethodName := ⟨RL, "asks", "(LSharedTaxis;I)V"⟩
abbrev cL_law : ByteArray := code
def yL_law : MethodName := ⟨RL, "law", "([I)Z"⟩
abbrev cL_holds : ByteArray := method_11_code
def yL_holds : MethodName := ⟨RL, "holds", "(LSharedTaxis;[I)Z"⟩
abbrev cL_acts : ByteArray := method_12_code
def yL_acts : MethodName := ⟨RL, "acts", "(LSharedTaxis;I)V"⟩
abbrev cL_isSettled : ByteArray := method_13_code
def yL_isSettled : MethodName := ⟨RL, "isSettled", "(LSharedTaxis;I)Z"⟩
def wsX6_init : List Cond := .code yX6_init cX6_init 1 none :: ([.methodLink RX6 3 objectInit, .instanceMethod objectInit, .code objectInit ⟨#[0xb1]⟩ 1 none, .arrayClass .int, .fieldLink RX6 9 "SharedTaxis$Taxi" "route" "[I", .fieldLink RX6 15 "SharedTaxis$Taxi" "aboard" "[I"] ++ wsX60)
def wsX5_init : List Cond := .code yX5_init cX5_init 1 none :: ([.methodLink RX5 3 objectInit, .instanceMethod objectInit, .code objectInit ⟨#[0xb1]⟩ 1 none])
abbrev vwCl : List vw_C := [(RX0, TX0, 8), (RX1, TX1, 3), (RX2, TX2, 6), (RX3, TX3, 11), (RX4, TX4, 2), (RX5, TX5, 19), (RX6, TX6, 17), (RX7, TX7, 3), (RX8, TX8, 11), (RX9, TX9, 3), (RX10, TX10, 4), (RX11, TX11, 16), (RL, TL, 7)]
