/-! names: classes, fields, methods, links (printed by wip/whole/gen; the first rows as the claim prints them) -/
def RX0 : String := "HuntTable$Clock"
def TX0 : u_T := fun k => match k with
  | 0 => ("HuntTable$Clock", "hunt", "LHuntTable$Hunt;", true)
  | 1 => ("HuntTable$Clock", "table", "LHuntTable$Table;", true)
  | 2 => ("HuntTable$Clock", "cameAt", "[[I", true)
  | 3 => ("HuntTable$Clock", "clashBits", "[[I", true)
  | 4 => ("HuntTable$Clock", "row", "[I", true)
  | 5 => ("HuntTable$Clock", "mostStart", "I", false)
  | 6 => ("HuntTable$Clock", "leastSum", "I", false)
  | _ => ("HuntTable$Clock", "leastRow", "I", false)
def tyX0 : Nat → FieldType := fun k => match k with
  | 0 => .object "HuntTable$Hunt"
  | 1 => .object "HuntTable$Table"
  | 2 => .array (.array .int)
  | 3 => .array (.array .int)
  | 4 => .array .int
  | 5 => .int
  | 6 => .int
  | _ => .int
theorem nmX0 : ∀ a, a < 8 → ∀ b, b < 8 → a ≠ b → (TX0 a).2.1 ≠ (TX0 b).2.1 := by decide +kernel
theorem tyX0_ok : ∀ k, k < 8 → parseFieldDescriptor (TX0 k).2.2.1 = some (tyX0 k) := by decide +kernel
def RX1 : String := "HuntTable$Finds"
def TX1 : u_T := fun k => match k with
  | 0 => ("HuntTable$Finds", "hunt", "LHuntTable$Hunt;", true)
  | 1 => ("HuntTable$Finds", "left", "[[I", true)
  | 2 => ("HuntTable$Finds", "ways", "[I", true)
  | 3 => ("HuntTable$Finds", "size", "I", false)
  | 4 => ("HuntTable$Finds", "tableOrders", "[I", false)
  | 5 => ("HuntTable$Finds", "tablesKnown", "Z", false)
  | 6 => ("HuntTable$Finds", "tableCount", "I", false)
  | 7 => ("HuntTable$Finds", "mostTables", "I", false)
  | 8 => ("HuntTable$Finds", "open", "[[I", true)
  | 9 => ("HuntTable$Finds", "rising", "[I", true)
  | 10 => ("HuntTable$Finds", "placesUsed", "[I", true)
  | 11 => ("HuntTable$Finds", "turnUsed", "[I", true)
  | 12 => ("HuntTable$Finds", "who", "[[I", true)
  | _ => ("HuntTable$Finds", "followed", "[[I", true)
def tyX1 : Nat → FieldType := fun k => match k with
  | 0 => .object "HuntTable$Hunt"
  | 1 => .array (.array .int)
  | 2 => .array .int
  | 3 => .int
  | 4 => .array .int
  | 5 => .boolean
  | 6 => .int
  | 7 => .int
  | 8 => .array (.array .int)
  | 9 => .array .int
  | 10 => .array .int
  | 11 => .array .int
  | 12 => .array (.array .int)
  | _ => .array (.array .int)
theorem nmX1 : ∀ a, a < 14 → ∀ b, b < 14 → a ≠ b → (TX1 a).2.1 ≠ (TX1 b).2.1 := by decide +kernel
theorem tyX1_ok : ∀ k, k < 14 → parseFieldDescriptor (TX1 k).2.2.1 = some (tyX1 k) := by decide +kernel
def RX2 : String := "HuntTable$HelperCount"
def TX2 : u_T := fun k => match k with
  | 0 => ("HuntTable$HelperCount", "hunt", "LHuntTable$Hunt;", true)
  | 1 => ("HuntTable$HelperCount", "table", "LHuntTable$Table;", true)
  | 2 => ("HuntTable$HelperCount", "reach", "[[I", true)
  | 3 => ("HuntTable$HelperCount", "turns", "[I", true)
  | 4 => ("HuntTable$HelperCount", "places", "[I", true)
  | 5 => ("HuntTable$HelperCount", "nextDuty", "[I", true)
  | 6 => ("HuntTable$HelperCount", "dutyAhead", "[I", true)
  | 7 => ("HuntTable$HelperCount", "lookedFrom", "[I", true)
  | 8 => ("HuntTable$HelperCount", "queue", "[I", true)
  | 9 => ("HuntTable$HelperCount", "duties", "I", false)
  | _ => ("HuntTable$HelperCount", "queued", "I", false)
def tyX2 : Nat → FieldType := fun k => match k with
  | 0 => .object "HuntTable$Hunt"
  | 1 => .object "HuntTable$Table"
  | 2 => .array (.array .int)
  | 3 => .array .int
  | 4 => .array .int
  | 5 => .array .int
  | 6 => .array .int
  | 7 => .array .int
  | 8 => .array .int
  | 9 => .int
  | _ => .int
theorem nmX2 : ∀ a, a < 11 → ∀ b, b < 11 → a ≠ b → (TX2 a).2.1 ≠ (TX2 b).2.1 := by decide +kernel
theorem tyX2_ok : ∀ k, k < 11 → parseFieldDescriptor (TX2 k).2.2.1 = some (tyX2 k) := by decide +kernel
def RX3 : String := "HuntTable$Hunt"
def TX3 : u_T := fun k => match k with
  | 0 => ("HuntTable$Hunt", "xs", "[I", true)
  | 1 => ("HuntTable$Hunt", "ys", "[I", true)
  | 2 => ("HuntTable$Hunt", "slows", "[I", true)
  | 3 => ("HuntTable$Hunt", "places", "I", false)
  | 4 => ("HuntTable$Hunt", "bands", "I", false)
  | 5 => ("HuntTable$Hunt", "follow", "I", false)
  | _ => ("HuntTable$Hunt", "stay", "I", false)
def tyX3 : Nat → FieldType := fun k => match k with
  | 0 => .array .int
  | 1 => .array .int
  | 2 => .array .int
  | 3 => .int
  | 4 => .int
  | 5 => .int
  | _ => .int
theorem nmX3 : ∀ a, a < 7 → ∀ b, b < 7 → a ≠ b → (TX3 a).2.1 ≠ (TX3 b).2.1 := by decide +kernel
theorem tyX3_ok : ∀ k, k < 7 → parseFieldDescriptor (TX3 k).2.2.1 = some (tyX3 k) := by decide +kernel
def RX4 : String := "HuntTable$HuntReader"
def TX4 : u_T := fun k => match k with
  | 0 => ("HuntTable$HuntReader", "tape", "LHuntTable$Tape;", true)
  | 1 => ("HuntTable$HuntReader", "draft", "LHuntTable$Hunt;", true)
  | _ => ("HuntTable$HuntReader", "lawTold", "Z", false)
def tyX4 : Nat → FieldType := fun k => match k with
  | 0 => .object "HuntTable$Tape"
  | 1 => .object "HuntTable$Hunt"
  | _ => .boolean
theorem nmX4 : ∀ a, a < 3 → ∀ b, b < 3 → a ≠ b → (TX4 a).2.1 ≠ (TX4 b).2.1 := by decide +kernel
theorem tyX4_ok : ∀ k, k < 3 → parseFieldDescriptor (TX4 k).2.2.1 = some (tyX4 k) := by decide +kernel
def RX5 : String := "HuntTable$OrderSearch"
def TX5 : u_T := fun k => match k with
  | 0 => ("HuntTable$OrderSearch", "hunt", "LHuntTable$Hunt;", true)
  | 1 => ("HuntTable$OrderSearch", "table", "LHuntTable$Table;", true)
  | 2 => ("HuntTable$OrderSearch", "clock", "LHuntTable$Clock;", true)
  | 3 => ("HuntTable$OrderSearch", "worths", "LHuntTable$Worths;", true)
  | 4 => ("HuntTable$OrderSearch", "taken", "[I", true)
  | 5 => ("HuntTable$OrderSearch", "band", "I", false)
  | 6 => ("HuntTable$OrderSearch", "found", "Z", false)
  | 7 => ("HuntTable$OrderSearch", "bestOrder", "I", false)
  | _ => ("HuntTable$OrderSearch", "bestValue", "I", false)
def tyX5 : Nat → FieldType := fun k => match k with
  | 0 => .object "HuntTable$Hunt"
  | 1 => .object "HuntTable$Table"
  | 2 => .object "HuntTable$Clock"
  | 3 => .object "HuntTable$Worths"
  | 4 => .array .int
  | 5 => .int
  | 6 => .boolean
  | 7 => .int
  | _ => .int
theorem nmX5 : ∀ a, a < 9 → ∀ b, b < 9 → a ≠ b → (TX5 a).2.1 ≠ (TX5 b).2.1 := by decide +kernel
theorem tyX5_ok : ∀ k, k < 9 → parseFieldDescriptor (TX5 k).2.2.1 = some (tyX5 k) := by decide +kernel
def RX6 : String := "HuntTable$Past"
def TX6 : u_T := fun k => match k with
  | 0 => ("HuntTable$Past", "hunt", "LHuntTable$Hunt;", true)
  | 1 => ("HuntTable$Past", "table", "LHuntTable$Table;", true)
  | 2 => ("HuntTable$Past", "acts", "[[I", true)
  | 3 => ("HuntTable$Past", "nextRow", "I", false)
  | 4 => ("HuntTable$Past", "size", "I", false)
  | 5 => ("HuntTable$Past", "imageOrders", "[I", true)
  | 6 => ("HuntTable$Past", "imageStarts", "[I", true)
  | _ => ("HuntTable$Past", "hasImage", "Z", false)
def tyX6 : Nat → FieldType := fun k => match k with
  | 0 => .object "HuntTable$Hunt"
  | 1 => .object "HuntTable$Table"
  | 2 => .array (.array .int)
  | 3 => .int
  | 4 => .int
  | 5 => .array .int
  | 6 => .array .int
  | _ => .boolean
theorem nmX6 : ∀ a, a < 8 → ∀ b, b < 8 → a ≠ b → (TX6 a).2.1 ≠ (TX6 b).2.1 := by decide +kernel
theorem tyX6_ok : ∀ k, k < 8 → parseFieldDescriptor (TX6 k).2.2.1 = some (tyX6 k) := by decide +kernel
def RX7 : String := "HuntTable$Table"
def TX7 : u_T := fun k => match k with
  | 0 => ("HuntTable$Table", "hunt", "LHuntTable$Hunt;", true)
  | 1 => ("HuntTable$Table", "orders", "[[I", true)
  | 2 => ("HuntTable$Table", "starts", "[I", true)
  | _ => ("HuntTable$Table", "draws", "J", false)
def tyX7 : Nat → FieldType := fun k => match k with
  | 0 => .object "HuntTable$Hunt"
  | 1 => .array (.array .int)
  | 2 => .array .int
  | _ => .long
theorem nmX7 : ∀ a, a < 4 → ∀ b, b < 4 → a ≠ b → (TX7 a).2.1 ≠ (TX7 b).2.1 := by decide +kernel
theorem tyX7_ok : ∀ k, k < 4 → parseFieldDescriptor (TX7 k).2.2.1 = some (tyX7 k) := by decide +kernel
def RX8 : String := "HuntTable$Tape"
def TX8 : u_T := fun k => match k with
  | 0 => ("HuntTable$Tape", "bytes", "[I", true)
  | 1 => ("HuntTable$Tape", "length", "I", false)
  | _ => ("HuntTable$Tape", "position", "I", false)
def tyX8 : Nat → FieldType := fun k => match k with
  | 0 => .array .int
  | 1 => .int
  | _ => .int
theorem nmX8 : ∀ a, a < 3 → ∀ b, b < 3 → a ≠ b → (TX8 a).2.1 ≠ (TX8 b).2.1 := by decide +kernel
theorem tyX8_ok : ∀ k, k < 3 → parseFieldDescriptor (TX8 k).2.2.1 = some (tyX8 k) := by decide +kernel
def RX9 : String := "HuntTable$WorthReader"
def TX9 : u_T := fun k => match k with
  | 0 => ("HuntTable$WorthReader", "tape", "LHuntTable$Tape;", true)
  | 1 => ("HuntTable$WorthReader", "code", "[I", true)
  | _ => ("HuntTable$WorthReader", "size", "I", false)
def tyX9 : Nat → FieldType := fun k => match k with
  | 0 => .object "HuntTable$Tape"
  | 1 => .array .int
  | _ => .int
theorem nmX9 : ∀ a, a < 3 → ∀ b, b < 3 → a ≠ b → (TX9 a).2.1 ≠ (TX9 b).2.1 := by decide +kernel
theorem tyX9_ok : ∀ k, k < 3 → parseFieldDescriptor (TX9 k).2.2.1 = some (tyX9 k) := by decide +kernel
def RX10 : String := "HuntTable$Worths"
def TX10 : u_T := fun k => match k with
  | 0 => ("HuntTable$Worths", "codes", "[[I", true)
  | 1 => ("HuntTable$Worths", "sizes", "[I", true)
  | 2 => ("HuntTable$Worths", "waiting", "[I", true)
  | 3 => ("HuntTable$Worths", "letters", "[I", true)
  | 4 => ("HuntTable$Worths", "size", "I", false)
  | _ => ("HuntTable$Worths", "holding", "I", false)
def tyX10 : Nat → FieldType := fun k => match k with
  | 0 => .array (.array .int)
  | 1 => .array .int
  | 2 => .array .int
  | 3 => .array .int
  | 4 => .int
  | _ => .int
theorem nmX10 : ∀ a, a < 6 → ∀ b, b < 6 → a ≠ b → (TX10 a).2.1 ≠ (TX10 b).2.1 := by decide +kernel
theorem tyX10_ok : ∀ k, k < 6 → parseFieldDescriptor (TX10 k).2.2.1 = some (tyX10 k) := by decide +kernel
def RX11 : String := "HuntTable"
def TX11 : u_T := fun k => match k with
  | 0 => ("HuntTable", "tape", "LHuntTable$Tape;", true)
  | 1 => ("HuntTable", "huntReader", "LHuntTable$HuntReader;", true)
  | 2 => ("HuntTable", "worthReader", "LHuntTable$WorthReader;", true)
  | 3 => ("HuntTable", "hunt", "LHuntTable$Hunt;", true)
  | 4 => ("HuntTable", "worths", "LHuntTable$Worths;", true)
  | 5 => ("HuntTable", "table", "LHuntTable$Table;", true)
  | 6 => ("HuntTable", "past", "LHuntTable$Past;", true)
  | 7 => ("HuntTable", "clock", "LHuntTable$Clock;", true)
  | 8 => ("HuntTable", "orderSearch", "LHuntTable$OrderSearch;", true)
  | 9 => ("HuntTable", "finds", "LHuntTable$Finds;", true)
  | _ => ("HuntTable", "helperCount", "LHuntTable$HelperCount;", true)
def tyX11 : Nat → FieldType := fun k => match k with
  | 0 => .object "HuntTable$Tape"
  | 1 => .object "HuntTable$HuntReader"
  | 2 => .object "HuntTable$WorthReader"
  | 3 => .object "HuntTable$Hunt"
  | 4 => .object "HuntTable$Worths"
  | 5 => .object "HuntTable$Table"
  | 6 => .object "HuntTable$Past"
  | 7 => .object "HuntTable$Clock"
  | 8 => .object "HuntTable$OrderSearch"
  | 9 => .object "HuntTable$Finds"
  | _ => .object "HuntTable$HelperCount"
theorem nmX11 : ∀ a, a < 11 → ∀ b, b < 11 → a ≠ b → (TX11 a).2.1 ≠ (TX11 b).2.1 := by decide +kernel
theorem tyX11_ok : ∀ k, k < 11 → parseFieldDescriptor (TX11 k).2.2.1 = some (tyX11 k) := by decide +kernel
def RX12 : String := "HuntTableModel"
def TX12 : u_T := fun k => match k with
  | 0 => ("HuntTableModel", "thrown", "I", false)
  | 1 => ("HuntTableModel", "tape", "[I", true)
  | 2 => ("HuntTableModel", "size", "I", false)
  | 3 => ("HuntTableModel", "at", "I", false)
  | 4 => ("HuntTableModel", "wrong", "I", false)
  | 5 => ("HuntTableModel", "deep", "I", false)
  | 6 => ("HuntTableModel", "code", "[I", true)
  | 7 => ("HuntTableModel", "value", "[I", true)
  | 8 => ("HuntTableModel", "codes", "[I", true)
  | 9 => ("HuntTableModel", "clauses", "[I", true)
  | 10 => ("HuntTableModel", "testFrom", "[I", true)
  | 11 => ("HuntTableModel", "sumFrom", "[I", true)
  | 12 => ("HuntTableModel", "sumTo", "[I", true)
  | 13 => ("HuntTableModel", "laws", "I", false)
  | 14 => ("HuntTableModel", "text", "I", false)
  | 15 => ("HuntTableModel", "letters", "[I", true)
  | 16 => ("HuntTableModel", "stack", "[I", true)
  | 17 => ("HuntTableModel", "readX", "[I", true)
  | 18 => ("HuntTableModel", "readY", "[I", true)
  | 19 => ("HuntTableModel", "readSlow", "[I", true)
  | 20 => ("HuntTableModel", "readPlaces", "I", false)
  | 21 => ("HuntTableModel", "readBands", "I", false)
  | 22 => ("HuntTableModel", "readFollow", "I", false)
  | 23 => ("HuntTableModel", "readStay", "I", false)
  | 24 => ("HuntTableModel", "placeX", "[I", true)
  | 25 => ("HuntTableModel", "placeY", "[I", true)
  | 26 => ("HuntTableModel", "slow", "[I", true)
  | 27 => ("HuntTableModel", "places", "I", false)
  | 28 => ("HuntTableModel", "bands", "I", false)
  | 29 => ("HuntTableModel", "mayFollow", "I", false)
  | 30 => ("HuntTableModel", "stay", "I", false)
  | 31 => ("HuntTableModel", "now", "[I", true)
  | 32 => ("HuntTableModel", "starts", "[I", true)
  | 33 => ("HuntTableModel", "holding", "I", false)
  | 34 => ("HuntTableModel", "kept", "[I", true)
  | 35 => ("HuntTableModel", "acts", "I", false)
  | 36 => ("HuntTableModel", "startsWere", "[I", true)
  | 37 => ("HuntTableModel", "orders", "[I", true)
  | 38 => ("HuntTableModel", "orderMany", "I", false)
  | 39 => ("HuntTableModel", "foundBand", "[I", true)
  | 40 => ("HuntTableModel", "foundTurn", "[I", true)
  | 41 => ("HuntTableModel", "foundPlace", "[I", true)
  | 42 => ("HuntTableModel", "foundIs", "[Z", true)
  | 43 => ("HuntTableModel", "founds", "I", false)
  | 44 => ("HuntTableModel", "tableMany", "I", false)
  | 45 => ("HuntTableModel", "tableAsked", "I", false)
  | 46 => ("HuntTableModel", "tableBand", "I", false)
  | 47 => ("HuntTableModel", "tableFound", "I", false)
  | 48 => ("HuntTableModel", "were", "[I", true)
  | 49 => ("HuntTableModel", "needTurn", "[I", true)
  | 50 => ("HuntTableModel", "needPlace", "[I", true)
  | 51 => ("HuntTableModel", "needs", "I", false)
  | 52 => ("HuntTableModel", "canGo", "[Z", true)
  | 53 => ("HuntTableModel", "matched", "[I", true)
  | 54 => ("HuntTableModel", "asked", "[Z", true)
  | 55 => ("HuntTableModel", "image", "[I", true)
  | 56 => ("HuntTableModel", "imageStarts", "[I", true)
  | _ => ("HuntTableModel", "hasImage", "Z", false)
def tyX12 : Nat → FieldType := fun k => match k with
  | 0 => .int
  | 1 => .array .int
  | 2 => .int
  | 3 => .int
  | 4 => .int
  | 5 => .int
  | 6 => .array .int
  | 7 => .array .int
  | 8 => .array .int
  | 9 => .array .int
  | 10 => .array .int
  | 11 => .array .int
  | 12 => .array .int
  | 13 => .int
  | 14 => .int
  | 15 => .array .int
  | 16 => .array .int
  | 17 => .array .int
  | 18 => .array .int
  | 19 => .array .int
  | 20 => .int
  | 21 => .int
  | 22 => .int
  | 23 => .int
  | 24 => .array .int
  | 25 => .array .int
  | 26 => .array .int
  | 27 => .int
  | 28 => .int
  | 29 => .int
  | 30 => .int
  | 31 => .array .int
  | 32 => .array .int
  | 33 => .int
  | 34 => .array .int
  | 35 => .int
  | 36 => .array .int
  | 37 => .array .int
  | 38 => .int
  | 39 => .array .int
  | 40 => .array .int
  | 41 => .array .int
  | 42 => .array .boolean
  | 43 => .int
  | 44 => .int
  | 45 => .int
  | 46 => .int
  | 47 => .int
  | 48 => .array .int
  | 49 => .array .int
  | 50 => .array .int
  | 51 => .int
  | 52 => .array .boolean
  | 53 => .array .int
  | 54 => .array .boolean
  | 55 => .array .int
  | 56 => .array .int
  | _ => .boolean
theorem nmX12 : ∀ a, a < 58 → ∀ b, b < 58 → a ≠ b → (TX12 a).2.1 ≠ (TX12 b).2.1 := by decide +kernel
theorem tyX12_ok : ∀ k, k < 58 → parseFieldDescriptor (TX12 k).2.2.1 = some (tyX12 k) := by decide +kernel
abbrev jm_cl : List vw_C := [(RX0, TX0, 8), (RX1, TX1, 14), (RX2, TX2, 11), (RX3, TX3, 7), (RX4, TX4, 3), (RX5, TX5, 9), (RX6, TX6, 8), (RX7, TX7, 4), (RX8, TX8, 3), (RX9, TX9, 3), (RX10, TX10, 6), (RX11, TX11, 11), (RX12, TX12, 58)]
def jm_cns : List String := [RX0, RX1, RX2, RX3, RX4, RX5, RX6, RX7, RX8, RX9, RX10, RX11, RX12, "HuntTableLaw", "java/lang/Integer", "java/lang/Long"]
def jm_cn (k : Nat) : String := ja_nth jm_cns k ""
def jm_Ts : List u_T := [TX0, TX1, TX2, TX3, TX4, TX5, TX6, TX7, TX8, TX9, TX10, TX11, TX12]
def jm_T (k : Nat) : u_T := ja_nth jm_Ts k TX0
def jm_tys : List (Nat → FieldType) := [tyX0, tyX1, tyX2, tyX3, tyX4, tyX5, tyX6, tyX7, tyX8, tyX9, tyX10, tyX11, tyX12]
def jm_ty (k : Nat) : Nat → FieldType := ja_nth jm_tys k tyX0
def jm_Ns : List Nat := [8, 14, 11, 7, 3, 9, 8, 4, 3, 3, 6, 11, 58]
def jm_N (k : Nat) : Nat := ja_nth jm_Ns k 0
abbrev jm_Y : Type := MethodName × ByteArray × Nat × Option FieldType
def jm_all0 : List jm_Y := [(⟨"HuntTable", "<init>", "()V"⟩, prog_1_method_1_code, 1, none), (⟨"HuntTable$Tape", "<init>", "()V"⟩, prog_10_method_1_code, 1, none), (⟨"HuntTable$HuntReader", "<init>", "(LHuntTable$Tape;)V"⟩, prog_6_method_1_code, 2, none), (⟨"HuntTable$Hunt", "<init>", "()V"⟩, prog_5_method_1_code, 1, none), (⟨"HuntTable$WorthReader", "<init>", "(LHuntTable$Tape;)V"⟩, prog_11_method_1_code, 2, none), (⟨"HuntTable$Worths", "<init>", "()V"⟩, prog_12_method_1_code, 1, none), (⟨"HuntTable$Table", "<init>", "(LHuntTable$Hunt;)V"⟩, prog_9_method_1_code, 2, none), (⟨"HuntTable$Past", "<init>", "(LHuntTable$Hunt;LHuntTable$Table;)V"⟩, prog_8_method_1_code, 3, none), (⟨"HuntTable$Clock", "<init>", "(LHuntTable$Hunt;LHuntTable$Table;)V"⟩, prog_2_method_1_code, 3, none), (⟨"HuntTable$OrderSearch", "<init>", "(LHuntTable$Hunt;LHuntTable$Table;LHuntTable$Clock;LHuntTable$Worths;)V"⟩, prog_7_method_1_code, 5, none), (⟨"HuntTable$Finds", "<init>", "(LHuntTable$Hunt;)V"⟩, prog_3_method_1_code, 2, none), (⟨"HuntTable$HelperCount", "<init>", "(LHuntTable$Hunt;LHuntTable$Table;)V"⟩, prog_4_method_1_code, 3, none), (⟨"HuntTable", "feed", "(IIIII)I"⟩, prog_1_method_2_code, 7, (some .int)), (⟨"HuntTable$Tape", "bytesIn", "(I)I"⟩, prog_10_method_2_code, 3, (some .int)), (⟨"HuntTable$Tape", "hasRoom", "(I)Z"⟩, prog_10_method_3_code, 2, (some .boolean)), (⟨"HuntTable$Tape", "add", "(I)V"⟩, prog_10_method_4_code, 4, none), (⟨"HuntTable$Tape", "length", "()I"⟩, prog_10_method_6_code, 1, (some .int)), (⟨"HuntTable", "end", "(I)Z"⟩, prog_1_method_3_code, 2, (some .boolean)), (⟨"HuntTable$Tape", "cut", "(I)Z"⟩, prog_10_method_5_code, 2, (some .boolean)), (⟨"HuntTable", "fault", "(I)I"⟩, prog_1_method_4_code, 2, (some .int)), (⟨"HuntTable$HuntReader", "read", "()I"⟩, prog_6_method_3_code, 2, (some .int)), (⟨"HuntTable$Tape", "rewind", "()V"⟩, prog_10_method_8_code, 1, none), (⟨"HuntTable$Hunt", "clear", "()V"⟩, prog_5_method_2_code, 1, none), (⟨"HuntTable$HuntReader", "readClause", "()Z"⟩, prog_6_method_4_code, 2, (some .boolean)), (⟨"HuntTable$Tape", "nextSign", "()I"⟩, prog_10_method_9_code, 1, (some .int)), (⟨"HuntTable$HuntReader", "addClause", "(I)Z"⟩, prog_6_method_5_code, 2, (some .boolean)), (⟨"HuntTable$Hunt", "addPlace", "()Z"⟩, prog_5_method_4_code, 1, (some .boolean)), (⟨"HuntTable$Hunt", "addBand", "()Z"⟩, prog_5_method_5_code, 1, (some .boolean)), (⟨"HuntTable$Tape", "pass", "()V"⟩, prog_10_method_10_code, 1, none), (⟨"HuntTable$HuntReader", "readItems", "(I)Z"⟩, prog_6_method_6_code, 5, (some .boolean)), (⟨"HuntTable$HuntReader", "itemOf", "(II)I"⟩, prog_6_method_7_code, 2, (some .int)), (⟨"HuntTable$HuntReader", "readValue", "(I)Z"⟩, prog_6_method_8_code, 3, (some .boolean)), (⟨"HuntTable$Tape", "takeNumber", "(I)I"⟩, prog_10_method_14_code, 4, (some .int)), (⟨"HuntTable$Tape", "isDigit", "(I)Z"⟩, prog_10_method_13_code, 1, (some .boolean)), (⟨"HuntTable$Tape", "stepBack", "()V"⟩, prog_10_method_11_code, 1, none), (⟨"HuntTable$Hunt", "put", "(II)V"⟩, prog_5_method_6_code, 3, none), (⟨"HuntTable$Tape", "position", "()I"⟩, prog_10_method_7_code, 1, (some .int)), (⟨"HuntTable$Hunt", "isWhole", "()Z"⟩, prog_5_method_7_code, 1, (some .boolean)), (⟨"HuntTable$Tape", "take", "(I)Z"⟩, prog_10_method_12_code, 2, (some .boolean)), (⟨"HuntTable$WorthReader", "read", "()I"⟩, prog_11_method_4_code, 2, (some .int))]
def jm_all1 : List jm_Y := [(⟨"HuntTable$WorthReader", "readClause", "()Z"⟩, prog_11_method_6_code, 2, (some .boolean)), (⟨"HuntTable$WorthReader", "readCondition", "(I)Z"⟩, prog_11_method_8_code, 2, (some .boolean)), (⟨"HuntTable$WorthReader", "readTruth", "(I)Z"⟩, prog_11_method_10_code, 2, (some .boolean)), (⟨"HuntTable$WorthReader", "readUnit", "(I)Z"⟩, prog_11_method_12_code, 3, (some .boolean)), (⟨"HuntTable$WorthReader", "readSum", "(I)Z"⟩, prog_11_method_15_code, 4, (some .boolean)), (⟨"HuntTable$WorthReader", "readTerm", "(I)Z"⟩, prog_11_method_16_code, 4, (some .boolean)), (⟨"HuntTable$WorthReader", "readAtom", "(I)Z"⟩, prog_11_method_17_code, 5, (some .boolean)), (⟨"HuntTable$Worths", "letterOf", "(I)I"⟩, prog_12_method_2_code, 1, (some .int)), (⟨"HuntTable$WorthReader", "write", "(I)Z"⟩, prog_11_method_5_code, 2, (some .boolean)), (⟨"HuntTable$WorthReader", "readComparison", "(I)Z"⟩, prog_11_method_14_code, 3, (some .boolean)), (⟨"HuntTable$WorthReader", "isComparison", "(I)Z"⟩, prog_11_method_13_code, 1, (some .boolean)), (⟨"HuntTable$WorthReader", "readMoreUnits", "(I)Z"⟩, prog_11_method_11_code, 3, (some .boolean)), (⟨"HuntTable$WorthReader", "readMoreTruths", "(I)Z"⟩, prog_11_method_9_code, 3, (some .boolean)), (⟨"HuntTable$WorthReader", "readWhatFollowsCondition", "()Z"⟩, prog_11_method_7_code, 2, (some .boolean)), (⟨"HuntTable", "text", "(I)I"⟩, prog_1_method_5_code, 2, (some .int)), (⟨"HuntTable$HuntReader", "draft", "()LHuntTable$Hunt;"⟩, prog_6_method_2_code, 1, (some (.object "HuntTable$Hunt"))), (⟨"HuntTable$Hunt", "copyFrom", "(LHuntTable$Hunt;)V"⟩, prog_5_method_3_code, 2, none), (⟨"HuntTable$Table", "reset", "()V"⟩, prog_9_method_2_code, 4, none), (⟨"HuntTable$Hunt", "places", "()I"⟩, prog_5_method_11_code, 1, (some .int)), (⟨"HuntTable$Hunt", "bands", "()I"⟩, prog_5_method_12_code, 1, (some .int)), (⟨"HuntTable$Past", "forget", "()V"⟩, prog_8_method_2_code, 1, none), (⟨"HuntTable$Finds", "forget", "()V"⟩, prog_3_method_2_code, 3, none), (⟨"HuntTable$Worths", "hasRoom", "()Z"⟩, prog_12_method_3_code, 1, (some .boolean)), (⟨"HuntTable$WorthReader", "code", "()[I"⟩, prog_11_method_2_code, 1, (some (.array .int))), (⟨"HuntTable$WorthReader", "size", "()I"⟩, prog_11_method_3_code, 1, (some .int)), (⟨"HuntTable$Worths", "keep", "([II)I"⟩, prog_12_method_6_code, 3, (some .int)), (⟨"HuntTable", "band", "(II)I"⟩, prog_1_method_7_code, 3, (some .int)), (⟨"HuntTable$Hunt", "hasBand", "(I)Z"⟩, prog_5_method_10_code, 2, (some .boolean)), (⟨"HuntTable$Hunt", "slow", "(I)I"⟩, prog_5_method_17_code, 2, (some .int)), (⟨"HuntTable$Table", "digitsOf", "(I)I"⟩, prog_9_method_6_code, 4, (some .int)), (⟨"HuntTable$Table", "placeOf", "(II)I"⟩, prog_9_method_3_code, 3, (some .int)), (⟨"HuntTable$Hunt", "hasPlace", "(I)Z"⟩, prog_5_method_9_code, 2, (some .boolean)), (⟨"HuntTable$Table", "startOf", "(I)I"⟩, prog_9_method_4_code, 2, (some .int)), (⟨"HuntTable", "order", "(II)I"⟩, prog_1_method_8_code, 3, (some .int)), (⟨"HuntTable$Table", "isOrder", "(I)Z"⟩, prog_9_method_7_code, 6, (some .boolean)), (⟨"HuntTable$Past", "remember", "()V"⟩, prog_8_method_6_code, 1, none), (⟨"HuntTable$Past", "keepOrders", "([I)V"⟩, prog_8_method_4_code, 3, none), (⟨"HuntTable$Table", "putOrder", "(II)V"⟩, prog_9_method_8_code, 5, none), (⟨"HuntTable$Past", "acts", "()I"⟩, prog_8_method_3_code, 1, (some .int)), (⟨"HuntTable", "start", "(II)Z"⟩, prog_1_method_9_code, 3, (some .boolean))]
def jm_all2 : List jm_Y := [(⟨"HuntTable$Table", "putStart", "(II)V"⟩, prog_9_method_5_code, 3, none), (⟨"HuntTable", "worth", "(I)Z"⟩, prog_1_method_10_code, 2, (some .boolean)), (⟨"HuntTable$Worths", "hold", "(I)Z"⟩, prog_12_method_7_code, 2, (some .boolean)), (⟨"HuntTable", "undo", "()I"⟩, prog_1_method_11_code, 1, (some .int)), (⟨"HuntTable$Past", "undoLatest", "()V"⟩, prog_8_method_7_code, 1, none), (⟨"HuntTable$Past", "bringOrders", "([I)V"⟩, prog_8_method_5_code, 3, none), (⟨"HuntTable", "at", "(II)I"⟩, prog_1_method_12_code, 3, (some .int)), (⟨"HuntTable", "follows", "(II)I"⟩, prog_1_method_13_code, 3, (some .int)), (⟨"HuntTable$Table", "timesFollowed", "(II)I"⟩, prog_9_method_12_code, 5, (some .int)), (⟨"HuntTable", "lawful", "()I"⟩, prog_1_method_14_code, 1, (some .int)), (⟨"HuntTable$Hunt", "isTold", "()Z"⟩, prog_5_method_8_code, 1, (some .boolean)), (⟨"HuntTable$Table", "keepsTheLaw", "()Z"⟩, prog_9_method_13_code, 3, (some .boolean)), (⟨"HuntTable$Hunt", "follow", "()I"⟩, prog_5_method_13_code, 1, (some .int)), (⟨"HuntTable$Table", "firstMeetingTurn", "()I"⟩, prog_9_method_11_code, 2, (some .int)), (⟨"HuntTable$Table", "firstMeetingPlace", "(I)I"⟩, prog_9_method_10_code, 3, (some .int)), (⟨"HuntTable$Table", "bandsAt", "(II)I"⟩, prog_9_method_9_code, 5, (some .int)), (⟨"java/lang/Integer", "bitCount", "(I)I"⟩, prog_17_method_49_code, 1, (some .int)), (⟨"HuntTable", "crowd", "(I)I"⟩, prog_1_method_15_code, 4, (some .int)), (⟨"HuntTable", "even", "(III)I"⟩, prog_1_method_16_code, 4, (some .int)), (⟨"HuntTable", "evenTurn", "(II)I"⟩, prog_1_method_17_code, 2, (some .int)), (⟨"HuntTable", "slips", "()I"⟩, prog_1_method_18_code, 1, (some .int)), (⟨"HuntTable$Table", "pairsOfPlaces", "()I"⟩, prog_9_method_15_code, 5, (some .int)), (⟨"java/lang/Long", "bitCount", "(J)I"⟩, prog_18_method_50_code, 2, (some .int)), (⟨"HuntTable", "well", "(II)I"⟩, prog_1_method_19_code, 3, (some .int)), (⟨"HuntTable$Table", "comerTo", "(II)I"⟩, prog_9_method_16_code, 6, (some .int)), (⟨"HuntTable", "sight", "()I"⟩, prog_1_method_20_code, 1, (some .int)), (⟨"HuntTable$Table", "timesSeen", "()I"⟩, prog_9_method_17_code, 5, (some .int)), (⟨"HuntTable$Table", "inOneLine", "(II)Z"⟩, prog_9_method_18_code, 3, (some .boolean)), (⟨"HuntTable$Hunt", "x", "(I)I"⟩, prog_5_method_15_code, 2, (some .int)), (⟨"HuntTable$Hunt", "y", "(I)I"⟩, prog_5_method_16_code, 2, (some .int)), (⟨"HuntTable", "points", "(I)I"⟩, prog_1_method_21_code, 2, (some .int)), (⟨"HuntTable$Clock", "pointsOf", "(ILHuntTable$Worths;)I"⟩, prog_2_method_5_code, 8, (some .int)), (⟨"HuntTable$Clock", "wayOf", "(III)I"⟩, prog_2_method_2_code, 4, (some .int)), (⟨"HuntTable$Hunt", "steps", "(II)I"⟩, prog_5_method_18_code, 3, (some .int)), (⟨"HuntTable$Worths", "valueOf", "(IIIII)I"⟩, prog_12_method_8_code, 6, (some .int)), (⟨"HuntTable$Worths", "run", "([II)I"⟩, prog_12_method_9_code, 7, (some .int)), (⟨"HuntTable$Worths", "letterValue", "(I)I"⟩, prog_12_method_10_code, 2, (some .int)), (⟨"HuntTable$Worths", "join", "(II)I"⟩, prog_12_method_11_code, 4, (some .int)), (⟨"HuntTable$Worths", "joined", "(III)I"⟩, prog_12_method_12_code, 3, (some .int)), (⟨"HuntTable$Worths", "bounded", "(J)I"⟩, prog_12_method_13_code, 2, (some .int))]
def jm_all3 : List jm_Y := [(⟨"HuntTable$Hunt", "stay", "()I"⟩, prog_5_method_14_code, 1, (some .int)), (⟨"HuntTable", "comes", "(II)I"⟩, prog_1_method_22_code, 3, (some .int)), (⟨"HuntTable$Clock", "minuteOf", "(II)I"⟩, prog_2_method_3_code, 7, (some .int)), (⟨"HuntTable", "home", "(I)I"⟩, prog_1_method_23_code, 2, (some .int)), (⟨"HuntTable$Clock", "minuteHome", "(I)I"⟩, prog_2_method_4_code, 3, (some .int)), (⟨"HuntTable", "clashes", "(I)I"⟩, prog_1_method_24_code, 2, (some .int)), (⟨"HuntTable$Clock", "clashingPairs", "()I"⟩, prog_2_method_9_code, 4, (some .int)), (⟨"HuntTable$Clock", "lookWhoComesWhen", "()V"⟩, prog_2_method_6_code, 6, none), (⟨"HuntTable$Clock", "clashOf", "(II)I"⟩, prog_2_method_8_code, 8, (some .int)), (⟨"HuntTable$Clock", "firstClash", "()I"⟩, prog_2_method_10_code, 5, (some .int)), (⟨"HuntTable", "starts", "(II)I"⟩, prog_1_method_25_code, 3, (some .int)), (⟨"HuntTable$Clock", "seekStarts", "(I)V"⟩, prog_2_method_13_code, 4, none), (⟨"HuntTable$Clock", "clashesByStarts", "(II)I"⟩, prog_2_method_14_code, 8, (some .int)), (⟨"HuntTable$Clock", "seekStartOf", "(III)V"⟩, prog_2_method_15_code, 5, none), (⟨"HuntTable$Clock", "startsApart", "(II)Z"⟩, prog_2_method_16_code, 5, (some .boolean)), (⟨"HuntTable$Clock", "leastSum", "()I"⟩, prog_2_method_11_code, 1, (some .int)), (⟨"HuntTable$Clock", "leastRow", "()I"⟩, prog_2_method_12_code, 1, (some .int)), (⟨"HuntTable", "soonest", "(II)I"⟩, prog_1_method_26_code, 3, (some .int)), (⟨"HuntTable$OrderSearch", "seekSoonest", "(I)Z"⟩, prog_7_method_5_code, 2, (some .boolean)), (⟨"HuntTable$OrderSearch", "goSoon", "(IIIII)V"⟩, prog_7_method_6_code, 9, none), (⟨"HuntTable$OrderSearch", "keep", "(II)V"⟩, prog_7_method_4_code, 3, none), (⟨"HuntTable$Clock", "clashesThere", "(III)Z"⟩, prog_2_method_7_code, 5, (some .boolean)), (⟨"HuntTable$OrderSearch", "bestOrder", "()I"⟩, prog_7_method_2_code, 1, (some .int)), (⟨"HuntTable$OrderSearch", "bestValue", "()I"⟩, prog_7_method_3_code, 1, (some .int)), (⟨"HuntTable", "rich", "(II)I"⟩, prog_1_method_27_code, 3, (some .int)), (⟨"HuntTable$OrderSearch", "seekRichest", "(I)Z"⟩, prog_7_method_7_code, 3, (some .boolean)), (⟨"HuntTable$OrderSearch", "placesOfOthers", "(I)I"⟩, prog_7_method_8_code, 4, (some .int)), (⟨"HuntTable$OrderSearch", "goRich", "(IIIIII)V"⟩, prog_7_method_9_code, 12, none), (⟨"HuntTable", "find", "(IIIZ)I"⟩, prog_1_method_28_code, 5, (some .int)), (⟨"HuntTable$Finds", "hasRoom", "()Z"⟩, prog_3_method_3_code, 1, (some .boolean)), (⟨"HuntTable$Finds", "add", "(IIIZ)I"⟩, prog_3_method_5_code, 5, (some .int)), (⟨"HuntTable", "fits", "(I)I"⟩, prog_1_method_29_code, 2, (some .int)), (⟨"HuntTable$Finds", "fittingOrders", "(I)I"⟩, prog_3_method_6_code, 2, (some .int)), (⟨"HuntTable$Finds", "waysThrough", "([I)I"⟩, prog_3_method_7_code, 6, (some .int)), (⟨"HuntTable", "tables", "(II)I"⟩, prog_1_method_30_code, 3, (some .int)), (⟨"HuntTable$Finds", "isSmall", "()Z"⟩, prog_3_method_8_code, 1, (some .boolean)), (⟨"HuntTable$Finds", "howManyTables", "()I"⟩, prog_3_method_9_code, 1, (some .int)), (⟨"HuntTable$Finds", "seekTables", "()V"⟩, prog_3_method_11_code, 1, none), (⟨"HuntTable$Finds", "clearSearch", "()V"⟩, prog_3_method_17_code, 3, none), (⟨"HuntTable$Finds", "someAreLawful", "()Z"⟩, prog_3_method_12_code, 3, (some .boolean))]
def jm_all4 : List jm_Y := [(⟨"HuntTable$Finds", "fillIfItCanBe", "(I)V"⟩, prog_3_method_14_code, 3, none), (⟨"HuntTable$Finds", "shutWhereOthersMustBe", "()V"⟩, prog_3_method_15_code, 5, none), (⟨"HuntTable$Finds", "shutElsewhere", "(II)Z"⟩, prog_3_method_16_code, 6, (some .boolean)), (⟨"HuntTable$Finds", "fill", "(II)V"⟩, prog_3_method_18_code, 8, none), (⟨"HuntTable$Finds", "keepTable", "()V"⟩, prog_3_method_23_code, 2, none), (⟨"HuntTable$Finds", "mayFollow", "(II)Z"⟩, prog_3_method_19_code, 3, (some .boolean)), (⟨"HuntTable$Finds", "set", "(III)V"⟩, prog_3_method_21_code, 4, none), (⟨"HuntTable$Finds", "follow", "(III)V"⟩, prog_3_method_20_code, 4, none), (⟨"HuntTable$Finds", "unset", "(IIII)V"⟩, prog_3_method_22_code, 5, none), (⟨"HuntTable$Finds", "openWhatIsLeft", "()V"⟩, prog_3_method_13_code, 3, none), (⟨"HuntTable$Finds", "orderInTable", "(II)I"⟩, prog_3_method_10_code, 3, (some .int)), (⟨"HuntTable", "wrong", "(IIII)I"⟩, prog_1_method_31_code, 5, (some .int)), (⟨"HuntTable$Table", "followsGoneWrong", "(III)I"⟩, prog_9_method_14_code, 8, (some .int)), (⟨"HuntTable", "helpers", "(I)I"⟩, prog_1_method_32_code, 2, (some .int)), (⟨"HuntTable$HelperCount", "fewest", "(I)I"⟩, prog_4_method_2_code, 4, (some .int)), (⟨"HuntTable$HelperCount", "fillReach", "(I)V"⟩, prog_4_method_3_code, 4, none), (⟨"HuntTable$HelperCount", "oneMoveMore", "(III)I"⟩, prog_4_method_4_code, 6, (some .int)), (⟨"HuntTable$HelperCount", "gatherDuties", "()V"⟩, prog_4_method_5_code, 3, none), (⟨"HuntTable$HelperCount", "joinOneMore", "(I)Z"⟩, prog_4_method_7_code, 4, (some .boolean)), (⟨"HuntTable$HelperCount", "lookFrom", "(I)I"⟩, prog_4_method_8_code, 3, (some .int)), (⟨"HuntTable$HelperCount", "canJoin", "(II)Z"⟩, prog_4_method_6_code, 4, (some .boolean)), (⟨"HuntTable$HelperCount", "giveWay", "(I)V"⟩, prog_4_method_9_code, 6, none), (⟨"HuntTable", "pieces", "(III)I"⟩, prog_1_method_33_code, 5, (some .int)), (⟨"HuntTable", "howManySets", "(II)I"⟩, prog_1_method_34_code, 4, (some .int)), (⟨"HuntTable", "setByNumber", "(III)I"⟩, prog_1_method_35_code, 5, (some .int)), (⟨"HuntTable", "drawn", "(J)I"⟩, prog_1_method_36_code, 3, (some .int)), (⟨"HuntTable$Table", "drawOrders", "(J)V"⟩, prog_9_method_19_code, 4, none), (⟨"HuntTable$Table", "drawOrder", "([I)V"⟩, prog_9_method_20_code, 6, none), (⟨"HuntTable$Table", "nextDraw", "(I)I"⟩, prog_9_method_21_code, 2, (some .int)), (⟨"HuntTable", "image", "()I"⟩, prog_1_method_37_code, 1, (some .int)), (⟨"HuntTable$Past", "takeImage", "()V"⟩, prog_8_method_8_code, 2, none), (⟨"HuntTable", "back", "()I"⟩, prog_1_method_38_code, 1, (some .int)), (⟨"HuntTable$Past", "hasImage", "()Z"⟩, prog_8_method_9_code, 1, (some .boolean)), (⟨"HuntTable$Past", "goBack", "()I"⟩, prog_8_method_10_code, 2, (some .int)), (⟨"HuntTable", "again", "()I"⟩, prog_1_method_39_code, 1, (some .int)), (⟨"HuntTable$Past", "likeImage", "()I"⟩, prog_8_method_11_code, 5, (some .int)), (⟨"HuntTable", "count", "(I)I"⟩, prog_1_method_40_code, 2, (some .int)), (⟨"HuntTable$Worths", "size", "()I"⟩, prog_12_method_4_code, 1, (some .int)), (⟨"HuntTable$Worths", "holding", "()I"⟩, prog_12_method_5_code, 1, (some .int)), (⟨"HuntTable$Finds", "size", "()I"⟩, prog_3_method_4_code, 1, (some .int))]
def jm_all5 : List jm_Y := [(⟨"HuntTableModel", "<init>", "()V"⟩, prog_14_method_3_code, 1, none), (⟨"HuntTableModel", "thrown", "()I"⟩, prog_14_method_4_code, 1, (some .int)), (⟨"HuntTableModel", "feed", "(IIIII)I"⟩, prog_14_method_6_code, 9, (some .int)), (⟨"HuntTableModel", "byteOf", "(IIIIII)I"⟩, prog_14_method_5_code, 7, (some .int)), (⟨"HuntTableModel", "end", "(I)Z"⟩, prog_14_method_7_code, 2, (some .boolean)), (⟨"HuntTableModel", "fault", "(I)I"⟩, prog_14_method_39_code, 2, (some .int)), (⟨"HuntTableModel", "readHunt", "()I"⟩, prog_14_method_38_code, 4, (some .int)), (⟨"HuntTableModel", "look", "()I"⟩, prog_14_method_9_code, 1, (some .int)), (⟨"HuntTableModel", "here", "()I"⟩, prog_14_method_8_code, 1, (some .int)), (⟨"HuntTableModel", "placeText", "()V"⟩, prog_14_method_35_code, 4, none), (⟨"HuntTableModel", "has", "(II)Z"⟩, prog_14_method_2_code, 2, (some .boolean)), (⟨"HuntTableModel", "number", "(II)I"⟩, prog_14_method_34_code, 4, (some .int)), (⟨"HuntTableModel", "isDigit", "(I)Z"⟩, prog_14_method_11_code, 1, (some .boolean)), (⟨"HuntTableModel", "bad", "()V"⟩, prog_14_method_10_code, 1, none), (⟨"HuntTableModel", "in", "(III)Z"⟩, prog_14_method_1_code, 3, (some .boolean)), (⟨"HuntTableModel", "bandText", "()V"⟩, prog_14_method_36_code, 1, none), (⟨"HuntTableModel", "lawText", "()V"⟩, prog_14_method_37_code, 4, none), (⟨"HuntTableModel", "readLaw", "(I)I"⟩, prog_14_method_29_code, 2, (some .int)), (⟨"HuntTableModel", "open", "(I)V"⟩, prog_14_method_27_code, 2, none), (⟨"HuntTableModel", "clause", "()V"⟩, prog_14_method_26_code, 3, none), (⟨"HuntTableModel", "condition", "()V"⟩, prog_14_method_25_code, 1, none), (⟨"HuntTableModel", "unit", "()V"⟩, prog_14_method_22_code, 2, none), (⟨"HuntTableModel", "opens", "()V"⟩, prog_14_method_14_code, 1, none), (⟨"HuntTableModel", "put", "(II)V"⟩, prog_14_method_12_code, 3, none), (⟨"HuntTableModel", "closes", "(I)V"⟩, prog_14_method_15_code, 2, none), (⟨"HuntTableModel", "sum", "()V"⟩, prog_14_method_19_code, 2, none), (⟨"HuntTableModel", "term", "()V"⟩, prog_14_method_18_code, 2, none), (⟨"HuntTableModel", "atom", "()V"⟩, prog_14_method_17_code, 2, none), (⟨"HuntTableModel", "plainNumber", "()I"⟩, prog_14_method_16_code, 3, (some .int)), (⟨"HuntTableModel", "letterOf", "(I)I"⟩, prog_14_method_13_code, 1, (some .int)), (⟨"HuntTableModel", "compare", "()V"⟩, prog_14_method_21_code, 2, none), (⟨"HuntTableModel", "isSign", "(I)Z"⟩, prog_14_method_20_code, 1, (some .boolean)), (⟨"HuntTableModel", "goOnAnd", "()V"⟩, prog_14_method_23_code, 1, none), (⟨"HuntTableModel", "goOnOr", "()V"⟩, prog_14_method_24_code, 1, none), (⟨"HuntTableModel", "atEnd", "()I"⟩, prog_14_method_28_code, 1, (some .int)), (⟨"HuntTableModel", "text", "(I)I"⟩, prog_14_method_41_code, 2, (some .int)), (⟨"HuntTableModel", "takeHunt", "()I"⟩, prog_14_method_40_code, 3, (some .int)), (⟨"HuntTableModel", "place", "(II)I"⟩, prog_14_method_44_code, 3, (some .int)), (⟨"HuntTableModel", "isPlace", "(I)Z"⟩, prog_14_method_42_code, 2, (some .boolean)), (⟨"HuntTableModel", "band", "(II)I"⟩, prog_14_method_47_code, 3, (some .int))]
def jm_all6 : List jm_Y := [(⟨"HuntTableModel", "isBand", "(I)Z"⟩, prog_14_method_43_code, 2, (some .boolean)), (⟨"HuntTableModel", "orderOf", "(I)I"⟩, prog_14_method_46_code, 4, (some .int)), (⟨"HuntTableModel", "of", "(II)I"⟩, prog_14_method_45_code, 3, (some .int)), (⟨"HuntTableModel", "order", "(II)I"⟩, prog_14_method_53_code, 3, (some .int)), (⟨"HuntTableModel", "isOrder", "(I)Z"⟩, prog_14_method_50_code, 4, (some .boolean)), (⟨"HuntTableModel", "nth", "(II)I"⟩, prog_14_method_49_code, 3, (some .int)), (⟨"HuntTableModel", "ten", "(I)I"⟩, prog_14_method_48_code, 3, (some .int)), (⟨"HuntTableModel", "keep", "()V"⟩, prog_14_method_52_code, 2, none), (⟨"HuntTableModel", "write", "(II)V"⟩, prog_14_method_51_code, 4, none), (⟨"HuntTableModel", "start", "(II)Z"⟩, prog_14_method_54_code, 3, (some .boolean)), (⟨"HuntTableModel", "worth", "(I)Z"⟩, prog_14_method_55_code, 2, (some .boolean)), (⟨"HuntTableModel", "undo", "()I"⟩, prog_14_method_56_code, 2, (some .int)), (⟨"HuntTableModel", "at", "(II)I"⟩, prog_14_method_57_code, 3, (some .int)), (⟨"HuntTableModel", "follows", "(II)I"⟩, prog_14_method_59_code, 3, (some .int)), (⟨"HuntTableModel", "followsOf", "(II)I"⟩, prog_14_method_58_code, 5, (some .int)), (⟨"HuntTableModel", "lawful", "()I"⟩, prog_14_method_62_code, 1, (some .int)), (⟨"HuntTableModel", "isLawful", "(I)Z"⟩, prog_14_method_61_code, 4, (some .boolean)), (⟨"HuntTableModel", "doMeet", "(II)Z"⟩, prog_14_method_60_code, 4, (some .boolean)), (⟨"HuntTableModel", "crowd", "(I)I"⟩, prog_14_method_64_code, 4, (some .int)), (⟨"HuntTableModel", "bandsAt", "(II)I"⟩, prog_14_method_63_code, 5, (some .int)), (⟨"HuntTableModel", "even", "(III)I"⟩, prog_14_method_65_code, 5, (some .int)), (⟨"HuntTableModel", "slips", "()I"⟩, prog_14_method_66_code, 7, (some .int)), (⟨"HuntTableModel", "well", "(II)I"⟩, prog_14_method_67_code, 6, (some .int)), (⟨"HuntTableModel", "sight", "()I"⟩, prog_14_method_68_code, 7, (some .int)), (⟨"HuntTableModel", "comes", "(II)I"⟩, prog_14_method_73_code, 3, (some .int)), (⟨"HuntTableModel", "comesAt", "(II)I"⟩, prog_14_method_71_code, 5, (some .int)), (⟨"HuntTableModel", "ahead", "(II)I"⟩, prog_14_method_70_code, 3, (some .int)), (⟨"HuntTableModel", "steps", "(II)I"⟩, prog_14_method_69_code, 5, (some .int)), (⟨"HuntTableModel", "home", "(I)I"⟩, prog_14_method_74_code, 2, (some .int)), (⟨"HuntTableModel", "homeOf", "(I)I"⟩, prog_14_method_72_code, 3, (some .int)), (⟨"HuntTableModel", "points", "(I)I"⟩, prog_14_method_76_code, 2, (some .int)), (⟨"HuntTableModel", "pointsOf", "(I)I"⟩, prog_14_method_75_code, 4, (some .int)), (⟨"HuntTableModel", "worthOf", "(I)I"⟩, prog_14_method_33_code, 3, (some .int)), (⟨"HuntTableModel", "workOut", "(III)I"⟩, prog_14_method_32_code, 6, (some .int)), (⟨"HuntTableModel", "worked", "(IJJ)I"⟩, prog_14_method_31_code, 5, (some .int)), (⟨"HuntTableModel", "bounded", "(J)I"⟩, prog_14_method_30_code, 2, (some .int)), (⟨"HuntTableModel", "clashes", "(I)I"⟩, prog_14_method_78_code, 7, (some .int)), (⟨"HuntTableModel", "clashOf", "(II)I"⟩, prog_14_method_77_code, 8, (some .int)), (⟨"HuntTableModel", "starts", "(II)I"⟩, prog_14_method_79_code, 12, (some .int)), (⟨"HuntTableModel", "soonest", "(II)I"⟩, prog_14_method_83_code, 8, (some .int))]
def jm_all7 : List jm_Y := [(⟨"HuntTableModel", "layOrders", "()V"⟩, prog_14_method_81_code, 1, none), (⟨"HuntTableModel", "build", "(II)V"⟩, prog_14_method_80_code, 4, none), (⟨"HuntTableModel", "doesClash", "(I)Z"⟩, prog_14_method_82_code, 3, (some .boolean)), (⟨"HuntTableModel", "rich", "(II)I"⟩, prog_14_method_85_code, 8, (some .int)), (⟨"HuntTableModel", "meetsAny", "(I)Z"⟩, prog_14_method_84_code, 3, (some .boolean)), (⟨"HuntTableModel", "find", "(IIIZ)I"⟩, prog_14_method_86_code, 5, (some .int)), (⟨"HuntTableModel", "fits", "(I)I"⟩, prog_14_method_88_code, 4, (some .int)), (⟨"HuntTableModel", "agrees", "(II)Z"⟩, prog_14_method_87_code, 4, (some .boolean)), (⟨"HuntTableModel", "tables", "(II)I"⟩, prog_14_method_91_code, 4, (some .int)), (⟨"HuntTableModel", "tablesFrom", "(I)V"⟩, prog_14_method_90_code, 3, none), (⟨"HuntTableModel", "goesWith", "(I)Z"⟩, prog_14_method_89_code, 3, (some .boolean)), (⟨"HuntTableModel", "wrong", "(IIII)I"⟩, prog_14_method_92_code, 9, (some .int)), (⟨"HuntTableModel", "helpers", "(I)I"⟩, prog_14_method_95_code, 5, (some .int)), (⟨"HuntTableModel", "hop", "(III)I"⟩, prog_14_method_93_code, 9, (some .int)), (⟨"HuntTableModel", "match", "(I)Z"⟩, prog_14_method_94_code, 3, (some .boolean)), (⟨"HuntTableModel", "pieces", "(III)I"⟩, prog_14_method_97_code, 6, (some .int)), (⟨"HuntTableModel", "choose", "(II)I"⟩, prog_14_method_96_code, 4, (some .int)), (⟨"HuntTableModel", "drawn", "(J)I"⟩, prog_14_method_98_code, 9, (some .int)), (⟨"HuntTableModel", "image", "()I"⟩, prog_14_method_99_code, 2, (some .int)), (⟨"HuntTableModel", "back", "()I"⟩, prog_14_method_100_code, 2, (some .int)), (⟨"HuntTableModel", "again", "()I"⟩, prog_14_method_101_code, 4, (some .int)), (⟨"HuntTableModel", "count", "(I)I"⟩, prog_14_method_102_code, 2, (some .int))]
def jm_all : List jm_Y := jm_all0 ++ jm_all1 ++ jm_all2 ++ jm_all3 ++ jm_all4 ++ jm_all5 ++ jm_all6 ++ jm_all7 ++ [(⟨"HuntTableLaw", "law", "([I)Z"⟩, code, 7, some .boolean), (⟨"HuntTable", "place", "(II)I"⟩, prog_1_method_6_code, 3, some .int), (⟨"HuntTableLaw", "place", "(LHuntTable;II[J)I"⟩, method_3_code, 5, some .int)]
def jm_y (y : Nat) : jm_Y := ja_nth jm_all y (⟨"", "", ""⟩, ⟨#[]⟩, 0, none)
def jm_nm (y : Nat) : MethodName := (jm_y y).1
def jm_b (y : Nat) : ByteArray := (jm_y y).2.1
def jm_rt (y : Nat) : Option FieldType := (jm_y y).2.2.2
def jm_owns : List Nat := [11, 8, 4, 3, 9, 10, 7, 6, 0, 5, 1, 2, 11, 8, 8, 8, 8, 11, 8, 11, 4, 8, 3, 4, 8, 4, 3, 3, 8, 4, 4, 4, 8, 8, 8, 3, 8, 3, 8, 9, 9, 9, 9, 9, 9, 9, 9, 10, 9, 9, 9, 9, 9, 9, 11, 4, 3, 7, 3, 3, 6, 1, 10, 9, 9, 10, 11, 3, 3, 7, 7, 3, 7, 11, 7, 6, 6, 7, 6, 11, 7, 11, 10, 11, 6, 6, 11, 11, 7, 11, 3, 7, 3, 7, 7, 7, 14, 11, 11, 11, 11, 7, 15, 11, 7, 11, 7, 7, 3, 3, 11, 0, 0, 3, 10, 10, 10, 10, 10, 10, 3, 11, 0, 11, 0, 11, 0, 0, 0, 0, 11, 0, 0, 0, 0, 0, 0, 11, 5, 5, 5, 0, 5, 5, 11, 5, 5, 5, 11, 1, 1, 11, 1, 1, 11, 1, 1, 1, 1, 1, 1, 1, 1, 1, 1, 1, 1, 1, 1, 1, 1, 11, 7, 11, 2, 2, 2, 2, 2, 2, 2, 2, 11, 11, 11, 11, 7, 7, 7, 11, 6, 11, 6, 6, 11, 6, 11, 10, 10, 1, 12, 12, 12, 12, 12, 12, 12, 12, 12, 12, 12, 12, 12, 12, 12, 12, 12, 12, 12, 12, 12, 12, 12, 12, 12, 12, 12, 12, 12, 12, 12, 12, 12, 12, 12, 12, 12, 12, 12, 12, 12, 12, 12, 12, 12, 12, 12, 12, 12, 12, 12, 12, 12, 12, 12, 12, 12, 12, 12, 12, 12, 12, 12, 12, 12, 12, 12, 12, 12, 12, 12, 12, 12, 12, 12, 12, 12, 12, 12, 12, 12, 12, 12, 12, 12, 12, 12, 12, 12, 12, 12, 12, 12, 12, 12, 12, 12, 12, 12, 12, 12, 12, 13, 11, 13]
def jm_own (y : Nat) : Nat := ja_nth jm_owns y 99
def q_X_init : List Nat := [0, 1, 4, 5, 8, 9, 12, 15, 16, 19, 20, 21, 24, 27, 30, 31, 34, 35, 36, 39, 42, 45, 46, 49, 50, 53, 56, 57, 60, 61, 64, 67, 68, 71, 72, 73, 76, 79, 82, 83, 86, 87, 88, 91, 92, 95, 98, 101, 102, 105, 106, 107, 110, 111, 114, 117, 120, 121, 124, 125, 126, 129, 130, 133, 134, 137, 138, 141, 144, 147, 148, 151, 152, 153, 156, 159, 162, 163, 166, 167, 168, 171, 172, 175, 178, 181, 182]
def q_Tape_init : List Nat := [0, 1, 4, 5, 8, 10, 13, 14]
def q_HuntReader_init : List Nat := [0, 1, 4, 5, 8, 9, 12, 15, 16, 17, 20, 21]
def q_Hunt_init : List Nat := [0, 1, 4, 5, 7, 9, 12, 13, 15, 17, 20, 21, 23, 25, 28, 29]
def q_WorthReader_init : List Nat := [0, 1, 4, 5, 8, 10, 13, 14, 15, 18, 19]
def q_Worths_init : List Nat := [0, 1, 4, 5, 6, 9, 13, 16, 17, 18, 20, 23, 24, 26, 28, 31, 32, 33, 35, 38, 39, 40, 43, 44]
def q_Table_init : List Nat := [0, 1, 4, 5, 7, 9, 13, 16, 17, 19, 21, 24, 25, 26, 29, 30]
def q_Past_init : List Nat := [0, 1, 4, 5, 7, 9, 13, 16, 17, 19, 21, 24, 25, 27, 29, 32, 33, 34, 37, 38, 39, 42, 43]
def q_Clock_init : List Nat := [0, 1, 4, 5, 7, 9, 13, 16, 17, 18, 19, 23, 26, 27, 28, 30, 33, 34, 35, 38, 39, 40, 43, 44]
def q_OrderSearch_init : List Nat := [0, 1, 4, 5, 7, 9, 12, 13, 14, 17, 18, 19, 22, 23, 24, 27, 28, 30, 33, 34]
def q_Finds_init : List Nat := [0, 1, 4, 5, 7, 9, 13, 16, 17, 19, 21, 24, 25, 26, 27, 31, 34, 35, 36, 38, 41, 42, 43, 45, 48, 49, 50, 52, 55, 56, 57, 58, 62, 65, 66, 67, 68, 72, 75, 76, 77, 80, 81]
def q_HelperCount_init : List Nat := [0, 1, 4, 5, 7, 9, 13, 16, 17, 19, 21, 24, 25, 27, 29, 32, 33, 35, 37, 40, 41, 43, 45, 48, 49, 51, 53, 56, 57, 59, 61, 64, 65, 66, 69, 70, 71, 74, 75]
def q_X_feed : List Nat := [0, 1, 4, 5, 8, 9, 10, 13, 14, 16, 19, 20, 22, 25, 26, 28, 29, 32, 34, 37, 40, 41, 42, 43, 46, 47, 50, 51, 54, 55, 58, 59, 62, 63, 66, 67, 70, 72, 75, 76, 79, 81, 84, 85, 88, 91, 92]
def q_Tape_bytesIn : List Nat := [0, 1, 2, 4, 5, 6, 9, 10, 11, 12, 15, 16, 19, 22, 25, 28, 29, 30]
def q_Tape_hasRoom : List Nat := [0, 1, 4, 5, 6, 9, 12, 13, 16, 17, 18]
def q_Tape_add : List Nat := [0, 2, 3, 4, 7, 8, 9, 10, 13, 14, 15, 16, 19, 20, 23, 26, 29, 30, 33, 34, 37, 38, 39, 40, 41, 44, 45, 46, 49, 52, 55, 56]
def q_Tape_length : List Nat := [0, 1, 4, 5]
def q_X_end : List Nat := [0, 1, 4, 5, 8, 9]
def q_Tape_cut : List Nat := [0, 1, 4, 5, 6, 9, 12, 13, 14, 15, 16, 19, 20, 21]
def q_X_fault : List Nat := [0, 1, 4, 5, 8, 11, 12, 13, 14, 17, 18, 21, 24, 25, 27, 28]
def q_HuntReader_read : List Nat := [0, 1, 4, 7, 8, 11, 14, 15, 16, 19, 20, 21, 22, 25, 28, 29, 32, 35, 36, 39, 42, 43, 44, 47, 50, 53, 54, 57, 60, 63, 64, 67, 68, 71, 74, 75, 76, 79, 81, 84, 87, 88, 91, 94, 95, 98, 101, 102, 105, 108, 109]
def q_Tape_rewind : List Nat := [0, 1, 2, 5, 6]
def q_Hunt_clear : List Nat := [0, 1, 2, 5, 6, 7, 10, 11, 12, 15, 16, 17, 20, 21]
def q_HuntReader_readClause : List Nat := [0, 1, 4, 7, 8, 9, 10, 13, 16, 17, 18, 19, 22, 25, 26, 27, 30, 31]
def q_Tape_nextSign : List Nat := [0, 1, 4, 5, 8, 11, 12, 15, 16, 19, 20, 22, 25, 26, 27, 30, 31, 32, 35, 38, 39, 42, 43, 46, 49, 50, 53, 54, 57, 58, 61, 62, 63]
def q_HuntReader_addClause : List Nat := [0, 1, 3, 6, 7, 10, 13, 14, 15, 17, 20, 21, 24, 27, 28, 29, 31, 34, 35, 38, 41, 42, 43, 44, 45, 48, 49, 50]
def q_Hunt_addPlace : List Nat := [0, 1, 4, 6, 9, 10, 11, 12, 15, 16, 19, 20, 21, 22, 25, 26, 29, 30, 31, 32, 33, 36, 37, 38, 41, 42, 43]
def q_Hunt_addBand : List Nat := [0, 1, 4, 6, 9, 10, 11, 12, 15, 16, 19, 20, 21, 22, 23, 26, 27, 28, 31, 32, 33]
def q_Tape_pass : List Nat := [0, 1, 4, 5, 8, 11, 12, 13, 16, 17, 18, 21, 22]
def q_HuntReader_readItems : List Nat := [0, 1, 2, 3, 4, 5, 6, 9, 10, 11, 14, 17, 20, 22, 24, 25, 28, 29, 31, 32, 33, 34, 35, 38, 39, 40, 41, 42, 44, 45, 46, 47, 48, 51, 54, 55, 57, 60, 63, 64, 65, 68, 71, 72, 73]
def q_HuntReader_itemOf : List Nat := [0, 1, 3, 6, 7, 9, 12, 13, 14, 15, 17, 20, 21, 23, 26, 27, 28, 29, 31, 34, 35, 37, 40, 41, 42, 43, 45, 48, 49, 51, 54, 55, 56, 57, 59, 62, 63, 65, 68, 69, 72, 73, 74]
def q_HuntReader_readValue : List Nat := [0, 1, 4, 5, 8, 9, 10, 11, 14, 15, 16, 17, 20, 21, 22, 25, 26, 29, 30, 31, 34, 35, 38, 41, 42, 43, 44, 47, 48, 49, 52, 53, 54]
def q_Tape_takeNumber : List Nat := [0, 1, 4, 7, 10, 11, 12, 13, 14, 15, 18, 19, 22, 23, 24, 27, 28, 29, 32, 33, 36, 37, 40, 41, 44, 45, 48, 51, 52, 54, 55, 56, 59, 60, 63, 64, 65, 67, 68, 69, 70, 71, 74, 75, 76, 79, 82, 83, 86, 87, 90, 93, 94, 97, 98, 101, 102, 105, 108, 109, 112, 113, 114]
def q_Tape_isDigit : List Nat := [0, 1, 3, 6, 7, 9, 12, 13, 16, 17, 18]
def q_Tape_stepBack : List Nat := [0, 1, 4, 7, 8, 9, 12, 13, 14, 17, 18]
def q_Hunt_put : List Nat := [0, 1, 4, 5, 8, 11, 12, 15, 16, 19, 20, 21, 22, 23, 26, 27, 28, 31, 32, 35, 38, 39, 42, 43, 46, 47, 48, 49, 50, 53, 54, 55, 58, 59, 62, 65, 66, 69, 70, 73, 74, 75, 76, 77, 80, 81, 82, 85, 86, 87, 90, 93, 94, 95, 98, 99, 100, 103, 104]
def q_Tape_position : List Nat := [0, 1, 4, 5]
def q_Hunt_isWhole : List Nat := [0, 1, 4, 5, 8, 9, 12, 13, 16, 17, 20, 21, 22]
def q_Tape_take : List Nat := [0, 1, 4, 5, 8, 9, 10, 11, 14, 15, 16]
def q_WorthReader_read : List Nat := [0, 1, 4, 7, 8, 9, 12, 13, 14, 15, 18, 21, 22, 25, 28, 29, 32, 35, 36, 37, 40, 43, 46, 47, 48, 49, 52, 54, 57, 60, 61, 64, 67, 68, 71, 74, 75, 78, 81, 82]
def q_WorthReader_readClause : List Nat := [0, 1, 4, 6, 9, 12, 13, 16, 18, 21, 24, 25, 26, 27, 30, 33, 34, 35, 37, 40, 41, 43, 46, 47, 48, 51, 54, 55, 58, 61, 62, 65, 66, 67, 68, 69, 72, 75, 76, 77, 78, 81, 84, 87, 90, 91, 93, 96, 97, 98, 99, 102, 105, 106, 107, 110, 113, 114, 115, 118, 121, 122, 125, 128, 129, 132, 133, 134]
def q_WorthReader_readCondition : List Nat := [0, 1, 2, 5, 8, 9, 10, 13, 16, 17, 20, 21, 22]
def q_WorthReader_readTruth : List Nat := [0, 1, 2, 5, 8, 9, 10, 13, 16, 17, 20, 21, 22]
def q_WorthReader_readUnit : List Nat := [0, 1, 4, 7, 8, 9, 11, 14, 15, 17, 20, 21, 22, 25, 28, 29, 30, 33, 36, 37, 40, 41, 42, 43, 45, 48, 49, 50, 51, 54, 57, 58, 60, 63, 64, 65, 66, 67, 70, 73, 74, 77, 80, 83, 84, 87, 88, 89, 90, 91, 92, 93, 96, 99, 100, 103, 105, 108, 111, 112, 115, 116, 117]
def q_WorthReader_readSum : List Nat := [0, 1, 2, 5, 8, 9, 10, 11, 12, 13, 16, 19, 20, 23, 26, 27, 28, 30, 33, 34, 36, 39, 40, 41, 42, 45, 48, 49, 50, 53, 56, 57, 58, 59, 62, 63, 64, 67, 68, 71, 74, 75, 76]
def q_WorthReader_readTerm : List Nat := [0, 1, 2, 5, 8, 9, 10, 11, 12, 13, 16, 19, 20, 23, 26, 27, 28, 30, 33, 34, 36, 39, 40, 41, 42, 45, 48, 49, 50, 53, 56, 57, 58, 59, 62, 63, 64, 67, 68, 71, 74, 75, 76]
def q_WorthReader_readAtom : List Nat := [0, 1, 4, 7, 8, 9, 12, 13, 14, 15, 18, 19, 22, 25, 26, 29, 30, 31, 34, 35, 36, 38, 41, 42, 44, 47, 48, 51, 54, 55, 56, 57, 58, 61, 64, 65, 68, 70, 73, 76, 77, 80, 81, 82, 83, 86, 87, 90, 92, 94, 95, 98, 99, 101, 104, 107, 108, 111, 112, 113]
def q_Worths_letterOf : List Nat := [0, 1, 52, 53, 54, 55, 56, 57, 58, 59, 60, 61, 62, 63, 64]
def q_WorthReader_write : List Nat := [0, 1, 4, 5, 8, 9, 12, 13, 16, 17, 20, 21, 22, 23, 24, 27, 28, 29, 32, 33, 34]
def q_WorthReader_readComparison : List Nat := [0, 1, 4, 7, 8, 9, 12, 15, 16, 17, 18, 21, 24, 25, 26, 29, 32, 33, 36, 37, 38, 41, 44, 45, 48, 49, 50]
def q_WorthReader_isComparison : List Nat := [0, 1, 3, 6, 7, 9, 12, 13, 15, 18, 19, 22, 23, 24]
def q_WorthReader_readMoreUnits : List Nat := [0, 1, 2, 3, 6, 9, 10, 13, 15, 18, 21, 22, 23, 26, 29, 30, 31, 32, 35, 38, 39, 42, 45, 46, 47]
def q_WorthReader_readMoreTruths : List Nat := [0, 1, 2, 3, 6, 9, 10, 13, 15, 18, 21, 22, 23, 26, 29, 30, 31, 32, 35, 38, 39, 42, 45, 46, 47]
def q_WorthReader_readWhatFollowsCondition : List Nat := [0, 1, 4, 6, 9, 12, 13, 14, 15, 18, 19, 20, 23, 26, 27, 28, 29, 32, 35, 36, 38, 41, 44, 45, 46, 47, 48, 51, 52, 55, 56, 59, 60, 63, 64, 67, 68, 69, 70, 71]
def q_X_text : List Nat := [0, 1, 4, 5, 8, 11, 12, 15, 16, 19, 20, 23, 24, 25, 28, 29, 32, 35, 38, 39, 42, 45, 46, 49, 52, 53, 56, 59, 60, 63, 66, 67, 68, 69, 72, 73, 76, 79, 82, 83, 86, 89, 90, 93, 94, 97, 98, 101, 102, 103, 106, 107, 110, 113, 114, 117, 120, 123, 124, 125, 126]
def q_HuntReader_draft : List Nat := [0, 1, 4, 5]
def q_Hunt_copyFrom : List Nat := [0, 1, 2, 5, 8, 9, 10, 13, 16, 17, 18, 21, 24, 25, 26, 29, 32, 33, 36, 37, 38, 41, 42, 44, 47, 48, 51, 52, 53, 56, 57, 59, 62, 63, 66, 67, 68, 71, 72, 74, 77, 78]
def q_Table_reset : List Nat := [0, 1, 4, 7, 8, 9, 10, 11, 12, 15, 18, 21, 22, 25, 26, 27, 28, 29, 30, 31, 32, 35, 36, 39, 40, 41, 42, 43, 44, 45, 46, 47, 48, 51, 54, 57, 60, 61]
def q_Hunt_places : List Nat := [0, 1, 4, 5]
def q_Hunt_bands : List Nat := [0, 1, 4, 5]
def q_Past_forget : List Nat := [0, 1, 2, 5, 6, 7, 10, 11]
def q_Finds_forget : List Nat := [0, 1, 2, 5, 6, 7, 10, 11, 12, 13, 14, 17, 20, 23, 24, 25, 26, 27, 30, 33, 36, 37, 40, 41, 42, 43, 44, 45, 48, 51, 52, 53, 54, 55, 58, 61, 64, 67, 68]
def q_Worths_hasRoom : List Nat := [0, 1, 4, 5, 8, 9, 12, 13, 14]
def q_WorthReader_code : List Nat := [0, 1, 4, 5]
def q_WorthReader_size : List Nat := [0, 1, 4, 5]
def q_Worths_keep : List Nat := [0, 1, 4, 5, 8, 9, 12, 13, 14, 15, 18, 19, 22, 25, 26, 27, 28, 29, 30, 33, 34, 37, 38, 39, 40, 43, 44, 47, 48, 51, 52, 53, 54, 55, 58, 59, 60, 63, 64, 67, 68, 69, 70]
def q_X_band : List Nat := [0, 1, 4, 5, 8, 11, 12, 13, 14, 17, 18, 21, 22, 25, 26, 27, 28, 31, 32, 35, 36, 39, 40, 41, 42, 45, 46, 49, 50, 53, 56, 57, 58]
def q_Hunt_hasBand : List Nat := [0, 1, 4, 5, 6, 9, 12, 13, 16, 17, 18]
def q_Hunt_slow : List Nat := [0, 1, 2, 5, 8, 9, 12, 13, 14, 17, 18, 19]
def q_Table_digitsOf : List Nat := [0, 1, 2, 3, 4, 5, 6, 9, 12, 15, 16, 18, 19, 20, 21, 22, 25, 26, 27, 30, 33, 34, 35]
def q_Table_placeOf : List Nat := [0, 1, 4, 5, 8, 11, 12, 15, 16, 19, 22, 23, 26, 27, 28, 29, 30, 33, 34, 35]
def q_Hunt_hasPlace : List Nat := [0, 1, 4, 5, 6, 9, 12, 13, 16, 17, 18]
def q_Table_startOf : List Nat := [0, 1, 4, 5, 8, 11, 12, 15, 16, 17, 20, 21, 22]
def q_X_order : List Nat := [0, 1, 4, 5, 8, 11, 12, 15, 16, 19, 22, 23, 24, 25, 28, 31, 32, 35, 36, 37, 40, 41, 44, 47, 48]
def q_Table_isOrder : List Nat := [0, 1, 2, 3, 4, 5, 7, 9, 10, 13, 16, 19, 20, 22, 23, 25, 26, 29, 31, 34, 37, 38, 40, 41, 42, 43, 44, 47, 48, 49, 50, 51, 53, 54, 55, 56, 57, 59, 60, 61, 64, 67, 68, 71, 72, 75, 76, 77]
def q_Past_remember : List Nat := [0, 1, 2, 5, 6, 9, 10, 13, 14, 15, 18, 19, 20, 22, 23, 26, 27, 28, 31, 32, 33, 35, 38, 41, 42]
def q_Past_keepOrders : List Nat := [0, 1, 2, 3, 4, 7, 10, 13, 14, 15, 16, 19, 20, 21, 22, 25, 26, 29, 30, 33, 36, 37]
def q_Table_putOrder : List Nat := [0, 1, 4, 5, 8, 11, 12, 13, 14, 15, 18, 21, 22, 23, 25, 27, 30, 31, 34, 35, 36, 38, 39, 41, 42, 43, 44, 46, 47, 48, 51, 54, 55]
def q_Past_acts : List Nat := [0, 1, 4, 5]
def q_X_start : List Nat := [0, 1, 4, 5, 8, 11, 12, 15, 16, 18, 21, 22, 23, 24, 27, 28, 29, 32, 33, 34]
def q_Table_putStart : List Nat := [0, 1, 4, 5, 8, 11, 12, 15, 16, 17, 18, 19]
def q_X_worth : List Nat := [0, 1, 4, 5, 8, 9]
def q_Worths_hold : List Nat := [0, 1, 2, 5, 6, 7, 10, 13, 14, 15, 16, 17, 20, 21, 22]
def q_X_undo : List Nat := [0, 1, 4, 7, 10, 11, 12, 13, 16, 19, 20, 23, 26, 27]
def q_Past_undoLatest : List Nat := [0, 1, 4, 7, 8, 9, 10, 13, 15, 16, 17, 18, 20, 21, 24, 25, 26, 29, 30, 31, 34, 35, 36, 39, 40, 43, 44, 47, 48]
def q_Past_bringOrders : List Nat := [0, 1, 2, 3, 4, 7, 10, 13, 14, 15, 16, 19, 20, 23, 24, 25, 26, 27, 30, 33, 36, 37]
def q_X_at : List Nat := [0, 1, 4, 5, 6, 9, 10]
def q_X_follows : List Nat := [0, 1, 2, 5, 6, 9, 10, 13, 16, 17, 20, 21, 24, 27, 28, 29, 30, 33, 34, 35, 38, 39]
def q_Table_timesFollowed : List Nat := [0, 1, 2, 3, 5, 7, 8, 11, 14, 17, 18, 19, 21, 24, 25, 26, 28, 29, 30, 33, 36, 39, 42, 45, 46, 47]
def q_X_lawful : List Nat := [0, 1, 4, 7, 10, 11, 12, 13, 16, 19, 22, 23, 26, 27, 28]
def q_Hunt_isTold : List Nat := [0, 1, 4, 7, 8, 11, 12, 13]
def q_Table_keepsTheLaw : List Nat := [0, 1, 2, 3, 4, 7, 10, 13, 14, 15, 16, 17, 20, 23, 26, 27, 28, 31, 32, 33, 34, 37, 38, 41, 44, 47, 48, 49, 52, 55, 58, 61, 62, 65, 66, 69, 70, 73, 74, 75]
def q_Hunt_follow : List Nat := [0, 1, 4, 5]
def q_Table_firstMeetingTurn : List Nat := [0, 1, 2, 3, 4, 7, 10, 13, 14, 15, 18, 19, 22, 23, 24, 27, 30, 31, 32]
def q_Table_firstMeetingPlace : List Nat := [0, 1, 2, 3, 4, 7, 10, 13, 14, 15, 16, 19, 22, 23, 26, 27, 28, 31, 34, 35, 36]
def q_Table_bandsAt : List Nat := [0, 1, 2, 3, 5, 7, 8, 11, 14, 17, 18, 20, 21, 24, 25, 28, 29, 30, 32, 33, 34, 35, 38, 41, 42, 43]
def q_JInteger_bitCount : List Nat := [0, 1, 2, 3, 4, 7, 8, 9, 10, 11, 14, 15, 16, 17, 18, 21, 22, 23, 24, 25, 26, 27, 28, 29, 32, 33, 34, 35, 36, 38, 39, 40, 41, 42, 43, 45, 46, 47, 48, 49, 51, 52, 53]
def q_X_crowd : List Nat := [0, 1, 4, 5, 6, 9, 10, 11, 12, 15, 18, 19, 20, 21, 24, 25, 28, 29, 30, 31, 34, 35, 38, 39, 40, 41, 44, 45, 48, 49, 52, 53, 54, 57, 58]
def q_X_even : List Nat := [0, 1, 2, 5, 6, 9, 12, 13, 14, 15, 18, 19, 20, 21, 24, 25, 26, 29, 30, 33, 34, 35, 38, 39, 40, 41, 42, 43, 46, 47, 48, 49, 50]
def q_X_evenTurn : List Nat := [0, 1, 2, 3, 4, 7, 8, 9, 10, 11, 12, 13, 14, 17, 18, 21, 22, 23, 24, 25, 26, 27]
def q_X_slips : List Nat := [0, 1, 4, 7, 10, 11, 14, 17, 20, 21, 22]
def q_Table_pairsOfPlaces : List Nat := [0, 1, 2, 3, 4, 5, 6, 9, 12, 15, 16, 18, 20, 21, 24, 27, 30, 31, 32, 33, 34, 36, 37, 38, 41, 43, 44, 45, 46, 48, 51, 52, 53, 54, 55, 58, 61, 64, 67, 68, 71, 72]
def q_JLong_bitCount : List Nat := [0, 1, 2, 3, 4, 7, 8, 9, 10, 11, 14, 15, 16, 17, 18, 21, 22, 23, 24, 25, 26, 27, 28, 29, 32, 33, 34, 35, 36, 38, 39, 40, 41, 42, 43, 45, 46, 47, 48, 49, 50, 52, 53, 54, 55, 56, 57, 59, 60, 61]
def q_X_well : List Nat := [0, 1, 4, 5, 8, 11, 12, 15, 16, 19, 22, 23, 24, 25, 28, 29, 30, 33, 34]
def q_Table_comerTo : List Nat := [0, 1, 2, 3, 5, 7, 8, 11, 14, 17, 18, 20, 22, 23, 26, 29, 32, 33, 35, 37, 40, 41, 44, 45, 46, 49, 51, 52, 55, 58, 61, 64, 67, 68, 69]
def q_X_sight : List Nat := [0, 1, 4, 7, 10, 11, 14, 17, 20, 21, 22]
def q_Table_timesSeen : List Nat := [0, 1, 2, 3, 4, 5, 6, 9, 12, 15, 16, 17, 18, 19, 20, 21, 24, 27, 30, 31, 33, 35, 36, 39, 42, 45, 46, 47, 48, 50, 53, 54, 55, 57, 60, 63, 66, 69, 72, 75, 78, 81, 84, 87, 88, 89]
def q_Table_inOneLine : List Nat := [0, 1, 2, 5, 6, 9, 10, 13, 14, 17, 18, 21, 24, 25, 28, 29, 32, 33, 36, 37, 40, 43, 44, 47, 48, 49]
def q_Hunt_x : List Nat := [0, 1, 2, 5, 8, 9, 12, 13, 14, 17, 18, 19]
def q_Hunt_y : List Nat := [0, 1, 2, 5, 8, 9, 12, 13, 14, 17, 18, 19]
def q_X_points : List Nat := [0, 1, 4, 5, 8, 11, 12, 15, 16, 17, 20, 23, 26, 28, 29]
def q_Clock_pointsOf : List Nat := [0, 1, 2, 3, 6, 7, 10, 12, 13, 15, 16, 18, 20, 21, 24, 27, 30, 31, 34, 35, 37, 40, 42, 44, 45, 46, 48, 50, 53, 54, 56, 57, 58, 60, 62, 63, 65, 66, 69, 71, 73, 76, 79, 80, 81, 83, 84, 87, 90, 91, 93, 95, 97, 100, 103, 104, 105]
def q_Clock_wayOf : List Nat := [0, 1, 4, 5, 6, 9, 10, 13, 14, 17, 18, 19]
def q_Hunt_steps : List Nat := [0, 1, 2, 5, 6, 7, 10, 11, 14, 15, 16, 19, 20, 21, 24, 25, 28, 29, 30]
def q_Worths_valueOf : List Nat := [0, 1, 4, 7, 8, 11, 12, 15, 18, 19, 20, 21, 24, 25, 26, 27, 28, 31, 32, 33, 34, 35, 38, 39, 40, 41, 42, 45, 46, 48, 49, 50, 53, 54, 56, 57, 58, 59, 62, 63, 66, 67, 68, 71, 72, 75, 76, 77, 80, 81, 84, 85, 86, 89, 92, 93]
def q_Worths_run : List Nat := [0, 1, 2, 3, 5, 6, 8, 10, 11, 14, 16, 17, 20, 21, 23, 24, 26, 29, 31, 34, 37, 38, 40, 43, 44, 45, 46, 49, 50, 52, 55, 58, 60, 63, 64, 66, 69, 70, 73, 74, 77, 80, 81, 84, 85, 86, 88, 91, 94, 95, 97, 100, 101, 102, 105, 106, 109, 112, 114, 116, 119, 120, 123, 124, 125, 126, 127, 130, 131, 132, 135, 137, 139, 142, 143, 146, 148, 151, 154, 155, 156]
def q_Worths_letterValue : List Nat := [0, 1, 4, 5, 6, 9, 10, 13, 14, 15, 18, 19, 20]
def q_Worths_join : List Nat := [0, 1, 2, 3, 4, 5, 7, 10, 11, 14, 15, 16, 17, 20, 21, 22, 23, 24, 25, 26, 27, 30, 31, 32, 33, 36, 37, 38, 39, 40, 41, 44, 45, 46, 47, 48, 49, 52, 53, 54, 57, 58, 59, 60]
def q_Worths_joined : List Nat := [0, 1, 76, 77, 78, 81, 82, 85, 86, 87, 88, 89, 92, 93, 96, 97, 98, 99, 100, 103, 104, 107, 108, 109, 110, 111, 112, 113, 114, 115, 116, 117, 118, 119, 120, 121, 122, 125, 126, 127, 128, 129, 130, 131, 134, 135, 136, 137, 138, 139, 140, 143, 144, 145, 148, 149, 152, 153, 154, 155, 156, 157, 160, 161]
def q_Worths_bounded : List Nat := [0, 1, 4, 5, 8, 10, 13, 14, 17, 18, 21, 23, 26, 27, 28, 29]
def q_Hunt_stay : List Nat := [0, 1, 4, 5]
def q_X_comes : List Nat := [0, 1, 4, 5, 8, 11, 12, 15, 16, 19, 22, 23, 26, 27, 28, 31, 34, 35, 36]
def q_Clock_minuteOf : List Nat := [0, 1, 4, 5, 8, 9, 10, 12, 13, 15, 17, 18, 21, 23, 24, 27, 30, 33, 34, 37, 38, 40, 43, 45, 46, 47, 48, 50, 52, 55, 57, 60, 61, 64, 65, 68, 71, 72, 73, 74, 76, 78, 81, 84, 85, 86]
def q_X_home : List Nat := [0, 1, 4, 5, 8, 11, 12, 15, 16, 19, 22, 23, 24]
def q_Clock_minuteHome : List Nat := [0, 1, 4, 7, 8, 9, 10, 11, 12, 13, 16, 17, 20, 23, 24, 25, 26, 27, 30, 31, 32, 35, 36, 39, 40, 41]
def q_X_clashes : List Nat := [0, 1, 4, 7, 10, 11, 14, 15, 16, 19, 21, 22, 23, 26, 27, 30, 33, 36, 37, 40, 43, 44]
def q_Clock_clashingPairs : List Nat := [0, 1, 4, 5, 6, 7, 8, 9, 10, 13, 16, 19, 20, 21, 22, 23, 24, 25, 28, 31, 34, 35, 36, 37, 40, 41, 44, 47, 50, 53, 56, 59, 60, 61]
def q_Clock_lookWhoComesWhen : List Nat := [0, 1, 2, 3, 4, 7, 10, 13, 14, 17, 18, 21, 22, 23, 24, 25, 27, 29, 30, 33, 36, 39, 40, 43, 44, 46, 49, 51, 52, 53, 54, 55, 57, 60, 61, 62, 63, 66, 68, 71, 74, 75, 78, 79, 80, 82, 83, 84, 85, 86, 89, 92, 93, 94, 96, 97, 100, 103, 106, 109, 110]
def q_Clock_clashOf : List Nat := [0, 1, 2, 3, 5, 7, 8, 11, 14, 17, 18, 21, 22, 23, 25, 26, 28, 29, 32, 33, 34, 36, 37, 39, 41, 43, 46, 48, 50, 52, 53, 56, 57, 60, 63, 66, 67, 68, 71, 73, 74, 77, 79, 80, 83, 86, 87, 88]
def q_Clock_firstClash : List Nat := [0, 1, 4, 5, 6, 7, 8, 9, 10, 13, 16, 19, 20, 21, 22, 23, 24, 25, 28, 31, 34, 35, 36, 37, 40, 42, 44, 45, 48, 49, 50, 53, 55, 56, 59, 61, 62, 65, 68, 71, 74, 75, 76]
def q_X_starts : List Nat := [0, 1, 4, 7, 10, 11, 14, 15, 17, 20, 21, 24, 25, 26, 29, 30, 31, 32, 35, 38, 39, 42, 44, 45, 46, 49, 50, 53, 54, 57, 58, 61, 64, 67, 68, 71, 74, 75]
def q_Clock_seekStarts : List Nat := [0, 1, 4, 5, 6, 9, 10, 11, 14, 15, 16, 19, 20, 21, 22, 23, 26, 29, 32, 33, 34, 37, 38, 39, 40, 41, 44, 45, 48, 49, 50, 51, 52, 53, 54, 57, 58, 61, 64, 67, 70, 71, 72, 73, 74, 77, 78]
def q_Clock_clashesByStarts : List Nat := [0, 1, 2, 3, 5, 7, 8, 11, 14, 17, 18, 21, 22, 23, 25, 26, 27, 30, 31, 34, 35, 37, 38, 41, 42, 43, 45, 46, 47, 50, 51, 54, 55, 57, 59, 61, 63, 65, 68, 70, 72, 73, 75, 76, 79, 80, 83, 86, 89, 90, 91, 93, 95, 96, 97, 98, 99, 102, 105, 108, 111, 112, 113]
def q_Clock_seekStartOf : List Nat := [0, 1, 4, 5, 8, 9, 10, 13, 16, 17, 18, 19, 22, 25, 28, 29, 30, 33, 34, 35, 38, 39, 40, 43, 44, 45, 47, 49, 50, 53, 56, 57, 58, 60, 63, 66, 67, 70, 71, 73, 74, 75, 76, 77, 78, 79, 81, 82, 83, 85, 86, 88, 89, 92, 95, 98, 99]
def q_Clock_startsApart : List Nat := [0, 1, 2, 3, 4, 7, 8, 9, 12, 13, 14, 15, 17, 18, 21, 22, 23, 24, 25, 27, 29, 30, 31, 32, 33, 34, 37, 38, 39, 42, 45, 46, 47]
def q_Clock_leastSum : List Nat := [0, 1, 4, 5]
def q_Clock_leastRow : List Nat := [0, 1, 4, 5]
def q_X_soonest : List Nat := [0, 1, 4, 5, 8, 11, 12, 15, 16, 17, 20, 21, 22, 23, 26, 27, 30, 33, 34, 35, 36, 39, 40, 43, 46, 49, 50, 53, 56, 57]
def q_OrderSearch_seekSoonest : List Nat := [0, 1, 2, 5, 6, 7, 10, 11, 14, 17, 18, 19, 20, 21, 24, 25, 28, 29, 30, 33, 34, 37, 38]
def q_OrderSearch_goSoon : List Nat := [0, 1, 2, 5, 8, 11, 12, 13, 16, 17, 20, 21, 22, 25, 26, 28, 29, 32, 35, 37, 38, 41, 44, 45, 47, 49, 52, 53, 54, 56, 58, 59, 62, 65, 68, 69, 70, 73, 74, 77, 78, 80, 83, 84, 86, 87, 90, 93, 95, 96, 99, 102, 103, 104, 107, 110, 111, 114, 115, 117, 119, 121, 122, 123, 124, 127, 129, 132, 133, 136, 137, 140, 142, 144, 147, 150, 151, 152, 153, 154, 156, 158, 159, 162, 165, 166, 168, 169, 171, 172, 173, 175, 177, 178, 180, 181, 184, 187, 190, 191]
def q_OrderSearch_keep : List Nat := [0, 1, 2, 5, 6, 7, 10, 11, 12, 15, 16]
def q_Clock_clashesThere : List Nat := [0, 1, 3, 5, 6, 9, 12, 15, 16, 19, 20, 23, 26, 28, 29, 32, 33, 36, 38, 39, 40, 41, 42, 43, 46, 47, 50, 53, 56, 57, 58, 61, 64, 65, 66]
def q_OrderSearch_bestOrder : List Nat := [0, 1, 4, 5]
def q_OrderSearch_bestValue : List Nat := [0, 1, 4, 5]
def q_X_rich : List Nat := [0, 1, 4, 5, 8, 11, 12, 15, 16, 17, 20, 22, 23, 24, 27, 28, 31, 34, 36, 37, 38, 41, 42, 45, 48, 51, 52, 55, 58, 59]
def q_OrderSearch_seekRichest : List Nat := [0, 1, 2, 5, 6, 7, 10, 11, 12, 13, 14, 17, 20, 23, 24, 27, 28, 29, 30, 33, 34, 37, 40, 41, 42, 43, 44, 47, 48, 51, 52, 53, 54, 57, 58, 61, 62]
def q_OrderSearch_placesOfOthers : List Nat := [0, 1, 2, 3, 4, 5, 6, 9, 12, 15, 16, 17, 20, 23, 24, 25, 26, 29, 30, 31, 34, 35, 36, 37, 40, 43, 44, 45]
def q_OrderSearch_goRich : List Nat := [0, 1, 2, 5, 8, 11, 12, 14, 17, 18, 21, 24, 26, 27, 30, 33, 34, 36, 38, 41, 42, 44, 45, 48, 49, 50, 51, 53, 54, 56, 58, 59, 62, 65, 68, 70, 72, 73, 74, 75, 78, 79, 82, 83, 85, 88, 90, 91, 93, 94, 97, 98, 101, 104, 105, 106, 108, 109, 112, 113, 115, 116, 119, 121, 123, 126, 128, 129, 130, 131, 132, 134, 136, 137, 140, 143, 144, 146, 147, 149, 150, 151, 153, 155, 156, 158, 159, 161, 163, 164, 167, 170, 173, 174]
def q_X_find : List Nat := [0, 1, 4, 5, 8, 11, 12, 15, 16, 19, 22, 23, 26, 27, 30, 33, 34, 37, 40, 43, 44, 45, 46, 49, 50, 51, 52, 54, 57, 58]
def q_Finds_hasRoom : List Nat := [0, 1, 4, 6, 9, 10, 13, 14, 15]
def q_Finds_add : List Nat := [0, 1, 4, 5, 8, 11, 12, 15, 16, 19, 22, 23, 26, 27, 28, 29, 30, 31, 33, 36, 37, 38, 39, 42, 43, 44, 45, 46, 47, 48, 49, 50, 51, 54, 55, 56, 59, 60, 61, 64, 65, 68, 69]
def q_X_fits : List Nat := [0, 1, 4, 5, 8, 11, 12, 15, 16, 19, 22, 23, 24]
def q_Finds_fittingOrders : List Nat := [0, 1, 4, 5, 8, 11, 12, 13, 16, 17, 18, 21, 24, 25, 26]
def q_Finds_waysThrough : List Nat := [0, 1, 2, 5, 8, 9, 10, 11, 12, 13, 16, 17, 18, 19, 20, 21, 22, 23, 26, 27, 28, 29, 32, 33, 34, 35, 36, 38, 39, 42, 43, 44, 45, 46, 48, 50, 51, 54, 57, 60, 62, 64, 65, 66, 67, 68, 71, 72, 75, 76, 77, 78, 79, 82, 83, 84, 86, 87, 88, 89, 90, 91, 94, 97, 100, 103, 104, 107, 108, 109, 110]
def q_X_tables : List Nat := [0, 1, 4, 7, 10, 12, 13, 14, 15, 18, 19, 22, 25, 26, 27, 30, 31, 34, 37, 38, 41, 42, 43, 46, 49, 50, 51]
def q_Finds_isSmall : List Nat := [0, 1, 4, 7, 10, 11, 14, 17, 18, 21, 22, 25, 28, 29, 32, 33, 36, 37, 38]
def q_Finds_howManyTables : List Nat := [0, 1, 4, 5, 8, 9]
def q_Finds_seekTables : List Nat := [0, 1, 4, 7, 8, 11, 14, 15, 16, 19, 22, 23, 26, 28, 31, 32, 35, 36, 39, 42, 43, 44, 47, 48, 51, 52, 55, 58, 59, 60, 63, 64]
def q_Finds_clearSearch : List Nat := [0, 1, 2, 5, 6, 7, 8, 9, 12, 13, 16, 17, 18, 19, 20, 23, 24, 25, 26, 27, 30, 31, 32, 33, 34, 35, 36, 37, 40, 41, 44, 45, 46, 47, 48, 49, 50, 53, 54, 55, 56, 57, 58, 61, 64, 67, 70, 71]
def q_Finds_someAreLawful : List Nat := [0, 1, 2, 3, 4, 7, 10, 13, 14, 15, 16, 17, 20, 23, 26, 27, 30, 31, 32, 33, 34, 37, 38, 39, 40, 43, 44, 45, 48, 51, 52, 53, 54, 55, 58, 61, 64, 67, 68, 69, 72, 73, 76, 79, 80, 83, 84, 85]
def q_Finds_fillIfItCanBe : List Nat := [0, 1, 2, 5, 6, 9, 10, 11, 12, 13, 16, 19, 22, 23, 24, 27, 28, 29, 32, 35, 36, 39, 42, 43, 44, 45, 48, 49]
def q_Finds_shutWhereOthersMustBe : List Nat := [0, 1, 2, 3, 4, 5, 7, 10, 11, 14, 15, 16, 17, 18, 19, 20, 23, 26, 29, 30, 32, 34, 35, 38, 41, 44, 45, 48, 49, 50, 52, 53, 56, 57, 60, 61, 62, 64, 67, 70, 71, 72, 75, 78, 81, 84, 87, 90, 91]
def q_Finds_shutElsewhere : List Nat := [0, 1, 4, 5, 6, 7, 8, 9, 10, 12, 13, 15, 17, 18, 21, 24, 27, 29, 30, 33, 35, 36, 39, 41, 42, 43, 44, 45, 46, 47, 49, 50, 53, 55, 56, 57, 58, 59, 60, 61, 62, 63, 64, 67, 70, 71, 73, 75, 76, 79, 82, 85, 87, 88, 91, 93, 94, 97, 98, 99, 101, 102, 103, 104, 105, 107, 108, 111, 112, 113, 115, 116, 117, 118, 119, 120, 121, 122, 125, 128, 130, 133, 134, 137, 138, 139]
def q_Finds_fill : List Nat := [0, 1, 2, 5, 8, 11, 12, 15, 16, 17, 18, 21, 24, 27, 28, 29, 30, 31, 32, 35, 36, 37, 40, 41, 42, 43, 44, 45, 48, 49, 50, 51, 52, 53, 54, 57, 58, 59, 60, 61, 62, 63, 64, 66, 68, 69, 72, 75, 78, 79, 82, 83, 86, 89, 90, 92, 93, 94, 95, 96, 99, 100, 103, 104, 107, 108, 109, 110, 111, 113, 114, 117, 118, 120, 121, 122, 123, 124, 127, 130, 133, 134, 137, 138, 139, 140, 141, 143, 144, 147, 148, 150, 151, 152, 154, 157, 160, 161, 163, 164, 167, 170, 171, 174, 175, 176, 178, 179, 180, 181, 183, 186, 187, 188, 190, 191, 194, 195, 197, 198, 199, 202, 203, 204, 205, 206, 207, 210, 211, 213, 214, 215, 218, 219, 220, 222, 223, 226, 227, 228, 229, 231, 233, 236, 239, 242, 243]
def q_Finds_keepTable : List Nat := [0, 1, 4, 7, 8, 11, 14, 17, 18, 19, 20, 21, 22, 25, 26, 29, 30, 33, 34, 35, 36, 37, 38, 41, 42, 43, 44, 47, 50, 51, 52, 55, 56, 57, 60, 61]
def q_Finds_mayFollow : List Nat := [0, 1, 2, 5, 6, 7, 10, 11, 14, 15, 16, 17, 18, 19, 22, 25, 28, 29, 32, 33, 34]
def q_Finds_set : List Nat := [0, 1, 4, 5, 6, 9, 10, 11, 13, 14, 15, 16, 17, 18, 21, 22, 23, 24, 25, 26, 27, 28, 29, 30, 33, 34, 35, 36, 37, 38, 39, 40, 41, 42, 45, 46, 47, 48, 49, 50, 51]
def q_Finds_follow : List Nat := [0, 1, 2, 5, 6, 7, 10, 11, 14, 15, 16, 17, 18, 19, 20, 21, 22, 23]
def q_Finds_unset : List Nat := [0, 1, 4, 5, 7, 8, 9, 12, 13, 14, 15, 16, 17, 18, 19, 20, 21, 22, 23, 26, 27, 28, 29, 30, 31, 32, 33, 34, 35, 36, 37, 40, 41, 42, 43, 44, 45, 46]
def q_Finds_openWhatIsLeft : List Nat := [0, 1, 2, 3, 4, 7, 10, 13, 14, 15, 16, 17, 20, 23, 26, 27, 30, 31, 32, 33, 34, 37, 38, 39, 40, 41, 42, 45, 48, 51, 54, 55]
def q_Finds_orderInTable : List Nat := [0, 1, 4, 5, 8, 9, 10, 13, 16, 17, 20, 21, 22, 25, 26, 29, 32, 33, 34, 35, 38, 39, 40, 41, 42, 43, 44, 45]
def q_X_wrong : List Nat := [0, 1, 4, 5, 8, 11, 12, 15, 16, 19, 22, 23, 26, 27, 30, 33, 35, 38, 40, 41, 44, 45, 46, 47, 50, 51, 52, 55, 56, 59, 60, 61, 63, 66, 67, 70, 71, 72, 75, 76, 77, 80, 81, 82, 83, 86, 87]
def q_Table_followsGoneWrong : List Nat := [0, 1, 3, 4, 6, 8, 9, 12, 15, 18, 20, 21, 24, 25, 28, 29, 30, 32, 35, 37, 38, 40, 41, 42, 44, 47, 48, 49, 50, 51, 52, 53, 55, 57, 59, 62, 63, 65, 68, 71, 73, 74]
def q_X_helpers : List Nat := [0, 1, 4, 7, 10, 11, 14, 15, 17, 20, 21, 22, 23, 26, 27, 30, 31]
def q_HelperCount_fewest : List Nat := [0, 1, 2, 5, 6, 9, 10, 13, 14, 15, 16, 17, 18, 21, 24, 25, 26, 29, 32, 35, 38, 41, 42, 43]
def q_HelperCount_fillReach : List Nat := [0, 1, 2, 3, 4, 7, 10, 13, 14, 17, 18, 19, 20, 21, 22, 23, 24, 27, 30, 31, 32, 33, 34, 37, 40, 43, 44, 45, 46, 47, 50, 53, 56, 57, 60, 61, 62, 63, 64, 65, 66, 67, 70, 71, 74, 77, 80, 83, 84]
def q_HelperCount_oneMoveMore : List Nat := [0, 1, 3, 4, 6, 8, 9, 12, 15, 18, 19, 22, 23, 25, 28, 29, 32, 34, 35, 38, 39, 40, 41, 42, 44, 45, 46, 48, 51, 54, 56, 57]
def q_HelperCount_gatherDuties : List Nat := [0, 1, 2, 5, 6, 7, 8, 9, 12, 15, 18, 19, 20, 21, 22, 25, 28, 31, 32, 35, 36, 37, 40, 43, 44, 47, 49, 52, 53, 56, 57, 60, 61, 62, 63, 66, 67, 70, 71, 72, 73, 76, 77, 80, 81, 82, 83, 86, 87, 90, 91, 92, 93, 94, 97, 98, 99, 102, 105, 108, 111, 114, 115]
def q_HelperCount_joinOneMore : List Nat := [0, 1, 2, 3, 4, 7, 10, 11, 14, 15, 16, 17, 20, 23, 24, 27, 28, 29, 30, 31, 32, 35, 36, 37, 38, 39, 42, 45, 46, 48, 51, 52, 53, 56, 57, 58, 61, 62, 63, 64, 67, 68, 69, 72, 73, 74, 77, 80, 81, 82]
def q_HelperCount_lookFrom : List Nat := [0, 1, 2, 3, 4, 7, 10, 11, 14, 15, 16, 17, 20, 21, 22, 23, 26, 29, 30, 33, 34, 35, 36, 37, 40, 41, 42, 43, 46, 47, 48, 49, 52, 54, 57, 58, 61, 62, 65, 66, 69, 70, 71, 72, 73, 74, 77, 78, 79, 82, 85, 88, 89, 90]
def q_HelperCount_canJoin : List Nat := [0, 1, 4, 5, 6, 7, 10, 11, 12, 13, 14, 15, 18, 19, 21, 24, 25, 28, 29, 32, 33, 34, 37, 40, 41, 42, 43, 46, 47, 48, 49, 52, 53, 54, 55, 56, 59, 60, 61, 62, 63, 64, 65, 68, 69, 72, 73, 74]
def q_HelperCount_giveWay : List Nat := [0, 1, 2, 3, 4, 5, 6, 9, 12, 13, 14, 17, 18, 21, 22, 23, 25, 27, 28, 31, 32, 33, 36, 38, 39, 41, 42, 45, 47, 48, 49, 50, 53, 54, 56, 57, 59, 60, 63, 66, 67]
def q_X_pieces : List Nat := [0, 1, 2, 5, 6, 8, 11, 12, 13, 16, 17, 18, 21, 22, 25, 26, 27, 28, 31, 32, 33, 34, 35, 38, 39, 40, 41, 44, 45, 46, 47, 48, 49, 50, 53, 54, 55, 56, 57, 58, 59, 60, 61, 64, 66, 68, 69, 72, 73, 76, 77, 78, 79, 80, 81, 83, 84, 85, 86, 87]
def q_X_howManySets : List Nat := [0, 1, 2, 3, 4, 5, 6, 7, 8, 11, 12, 15, 16, 19, 22, 25, 28, 29, 30]
def q_X_setByNumber : List Nat := [0, 1, 2, 3, 5, 7, 8, 9, 10, 13, 15, 18, 19, 22, 23, 24, 27, 29, 30, 33, 36, 39, 40, 41]
def q_X_drawn : List Nat := [0, 1, 4, 7, 10, 11, 12, 13, 16, 19, 20, 23, 24, 27, 28, 31, 34, 35]
def q_Table_drawOrders : List Nat := [0, 1, 2, 5, 6, 7, 8, 9, 12, 15, 18, 19, 20, 23, 24, 25, 28, 31, 34, 35]
def q_Table_drawOrder : List Nat := [0, 1, 4, 7, 8, 9, 12, 13, 14, 15, 16, 17, 20, 21, 22, 23, 24, 27, 30, 31, 32, 33, 34, 35, 36, 39, 40, 41, 42, 43, 46, 48, 49, 50, 51, 53, 54, 55, 56, 58, 59, 60, 61, 63, 65, 66, 69, 72, 73]
def q_Table_nextDraw : List Nat := [0, 1, 2, 5, 8, 9, 12, 13, 16, 17, 20, 21, 24, 25, 28, 30, 31, 32, 33, 34, 35, 36]
def q_X_image : List Nat := [0, 1, 4, 7, 10, 11, 12, 13, 16, 19, 20, 23, 26, 27]
def q_Past_takeImage : List Nat := [0, 1, 2, 5, 6, 7, 10, 13, 14, 15, 16, 17, 20, 23, 26, 27, 30, 31, 32, 35, 36, 39, 40, 43, 46, 47]
def q_X_back : List Nat := [0, 1, 4, 7, 10, 11, 14, 17, 20, 21, 22]
def q_Past_hasImage : List Nat := [0, 1, 4, 5]
def q_Past_goBack : List Nat := [0, 1, 2, 5, 8, 9, 10, 11, 12, 15, 18, 21, 22, 25, 26, 27, 30, 31, 32, 35, 38, 41, 42, 43, 46, 47, 50, 51]
def q_X_again : List Nat := [0, 1, 4, 7, 10, 11, 14, 17, 20, 21, 22]
def q_Past_likeImage : List Nat := [0, 1, 2, 3, 4, 5, 6, 9, 12, 15, 16, 19, 20, 21, 22, 23, 26, 29, 30, 31, 33, 35, 38, 39, 41, 42, 43, 46, 47, 49, 52, 55, 58, 59, 61, 62, 63, 66, 69, 72, 75, 76, 77]
def q_X_count : List Nat := [0, 1, 52, 53, 56, 59, 60, 61, 64, 67, 68, 69, 72, 75, 76, 77, 80, 83, 84, 85, 88, 91, 92, 93, 96, 99, 100, 101, 104, 107, 108, 109, 112, 115, 116, 117, 120, 123, 124, 126, 127]
def q_Worths_size : List Nat := [0, 1, 4, 5]
def q_Worths_holding : List Nat := [0, 1, 4, 5]
def q_Finds_size : List Nat := [0, 1, 4, 5]
def q_R_init : List Nat := [0, 1, 4, 5, 8, 10, 13, 14, 17, 19, 22, 23, 26, 28, 31, 32, 33, 35, 38, 39, 40, 42, 45, 46, 49, 51, 54, 55, 58, 60, 63, 64, 67, 69, 72, 73, 74, 76, 79, 80, 82, 84, 87, 88, 90, 92, 95, 96, 98, 100, 103, 104, 106, 108, 111, 112, 114, 116, 119, 120, 122, 124, 127, 128, 130, 132, 135, 136, 138, 140, 143, 144, 146, 148, 151, 152, 153, 156, 157, 160, 162, 165, 166, 168, 170, 173, 174, 177, 179, 182, 183, 185, 187, 190, 191, 193, 195, 198, 199, 201, 203, 206, 207, 209, 211, 214, 215, 217, 219, 222, 223, 225, 227, 230, 231, 233, 235, 238, 239, 242, 244, 247, 248, 250, 252, 255, 256, 258, 260, 263, 264, 266, 268, 271, 272, 274, 276, 279, 280]
def q_R_thrown : List Nat := [0, 1, 4, 5]
def q_R_feed : List Nat := [0, 1, 3, 4, 6, 8, 10, 13, 15, 16, 17, 18, 20, 22, 24, 27, 30, 31, 34, 35, 36, 38, 41, 44, 45, 48, 50, 51, 54, 57, 58, 59, 60, 62, 64, 66, 69, 70, 71, 72, 74, 76, 78, 81, 83, 85, 88, 89, 92, 93, 96, 98, 99, 100, 101, 104, 105, 106, 109, 112, 115, 116, 119, 120]
def q_R_byteOf : List Nat := [0, 2, 3, 6, 7, 10, 12, 14, 17, 18, 21, 23, 25, 28, 29, 32, 34, 36, 39, 40, 43, 45, 47, 49, 51, 53, 55, 56, 57, 58, 59, 60, 63, 64, 65]
def q_R_end : List Nat := [0, 1, 4, 5, 6, 9, 12, 13, 14, 15, 16, 19, 20, 21]
def q_R_fault : List Nat := [0, 1, 4, 5, 8, 11, 12, 13, 16, 17, 18, 21, 24, 26, 27]
def q_R_readHunt : List Nat := [0, 1, 2, 5, 6, 7, 10, 11, 12, 15, 16, 17, 20, 21, 22, 25, 26, 27, 30, 31, 32, 33, 34, 35, 38, 39, 42, 43, 46, 47, 50, 51, 52, 54, 57, 58, 61, 63, 66, 67, 70, 73, 74, 76, 79, 80, 83, 85, 88, 89, 92, 95, 96, 98, 101, 102, 105, 106, 107, 108, 111, 114, 115, 118, 119, 122, 123, 126, 127, 130, 132, 135, 136, 139, 140, 141, 142, 143, 146, 147, 150, 151, 154, 155, 156, 159, 162, 163, 166, 167, 170, 171, 174, 175, 178, 179, 182, 183, 186, 187, 190, 193, 194, 197, 198, 201, 202]
def q_R_look : List Nat := [0, 1, 4, 6, 9, 10, 11, 14, 15, 16, 19, 22, 23, 26, 27]
def q_R_here : List Nat := [0, 1, 4, 5, 8, 11, 12, 15, 16, 19, 20, 23, 24, 25]
def q_R_placeText : List Nat := [0, 1, 2, 5, 6, 7, 10, 11, 14, 15, 18, 19, 20, 21, 24, 25, 28, 29, 30, 31, 32, 33, 36, 38, 41, 42, 45, 46, 49, 51, 54, 55, 58, 59, 60, 61, 64, 65, 68, 69, 70, 73, 74, 75, 78, 81, 82, 83, 84, 85, 86, 87, 88, 89, 92, 93, 94, 97, 98, 99, 101, 104, 105, 106, 109, 110, 113, 114, 117, 118, 121, 122, 125, 126, 129, 130, 131, 132, 135, 136, 139, 140, 141, 144, 145, 148, 149, 152, 153, 156, 157, 158, 159, 162, 164, 167, 168, 171, 172, 175, 177, 180, 181, 184, 185, 186, 189, 190, 191, 194, 195, 196, 199, 200]
def q_R_has : List Nat := [0, 1, 2, 3, 4, 5, 6, 9, 10, 13, 14, 15]
def q_R_number : List Nat := [0, 1, 4, 7, 10, 11, 14, 15, 16, 17, 20, 22, 23, 24, 25, 26, 29, 30, 31, 34, 35, 38, 41, 44, 46, 47, 48, 49, 52, 53, 55, 56, 57, 58, 59, 62, 63, 64, 67, 68, 71, 74, 77, 78, 81, 84, 85, 86, 87, 90, 93, 94, 95, 98, 99, 100, 103, 104, 107, 108, 109]
def q_R_isDigit : List Nat := [0, 1, 3, 6, 7, 9, 12, 13, 16, 17, 18]
def q_R_bad : List Nat := [0, 1, 2, 5, 6, 9, 10, 13, 16, 17, 20, 23, 24]
def q_R_in : List Nat := [0, 1, 2, 5, 6, 7, 10, 11, 14, 15, 16]
def q_R_bandText : List Nat := [0, 1, 2, 5, 6, 7, 10, 11, 14, 15, 18, 19, 20, 21, 24, 26, 29, 30, 31, 34, 35, 36, 39, 40, 43, 44, 47, 48, 49, 50, 53, 54, 55, 56, 59, 60, 61, 64, 65]
def q_R_lawText : List Nat := [0, 1, 2, 5, 6, 7, 10, 11, 12, 13, 16, 18, 21, 22, 25, 26, 29, 31, 34, 35, 38, 39, 40, 41, 44, 45, 48, 49, 50, 53, 54, 55, 58, 61, 62, 63, 64, 65, 66, 67, 68, 69, 72, 73, 74, 77, 78, 79, 80, 83, 85, 88, 90, 93, 94, 95, 96, 99, 100, 103, 104, 107, 110, 111, 112, 113, 116, 117, 120, 121, 124, 127, 128, 131, 133, 136, 137, 140, 141, 144, 146, 149, 150, 153, 154, 155, 158, 159]
def q_R_readLaw : List Nat := [0, 1, 2, 5, 6, 9, 10, 13, 14, 17, 18, 21, 23, 26, 27, 28, 31, 32, 33, 36, 37, 40, 43, 44, 47, 48]
def q_R_open : List Nat := [0, 1, 2, 5, 6, 7, 10, 11, 12, 15, 16, 17, 20, 21, 24, 25, 26, 27, 28, 31, 32, 33, 34, 35]
def q_R_clause : List Nat := [0, 2, 3, 6, 7, 8, 11, 12, 15, 16, 17, 18, 19, 22, 23, 26, 27, 30, 32, 35, 36, 39, 40, 41, 44, 45, 46, 49, 50, 53, 54, 57, 58, 61, 63, 66, 67, 70, 71, 72, 75, 76, 77, 80, 81, 84, 85, 88, 89, 90, 93, 94, 95, 98, 99, 102, 103, 104, 105, 108, 110, 113, 114, 117, 119, 122, 123, 126, 127, 128, 129, 132, 133, 136, 139, 140, 143, 144, 147, 148, 151, 152, 155, 158, 161, 162, 165, 166, 167, 168, 171, 172, 175, 176, 179, 180, 183, 184, 187, 188, 189, 192, 193, 194, 195, 196, 199, 200, 203, 204, 207, 208, 211, 213, 216, 217, 220, 221, 222, 223, 226, 227, 228, 231, 232, 235, 236, 237, 240, 241, 244, 245, 246, 247, 250, 251, 254, 255, 256, 259, 260, 263, 264, 265, 266, 269, 270, 273, 274, 275, 276, 277, 278, 279]
def q_R_condition : List Nat := [0, 1, 4, 5, 8, 9, 12, 13]
def q_R_unit : List Nat := [0, 1, 4, 5, 6, 8, 11, 12, 15, 16, 19, 20, 23, 24, 27, 28, 30, 31, 34, 35, 36, 39, 40, 41, 44, 47, 48, 50, 53, 54, 57, 58, 61, 62, 65, 66, 69, 70, 72, 75, 78, 79, 82, 83, 86, 87, 90, 91, 94, 95]
def q_R_opens : List Nat := [0, 1, 4, 6, 9, 10, 13, 14, 15, 18, 19, 20, 23, 24, 25, 28, 29, 30, 33, 34]
def q_R_put : List Nat := [0, 1, 4, 7, 8, 11, 12, 13, 16, 17, 20, 21, 22, 23, 24, 25, 28, 31, 32, 35, 36, 37, 40, 41, 44, 45, 46, 47, 48, 49, 52, 53, 56, 57, 58, 59, 60, 61, 62]
def q_R_closes : List Nat := [0, 1, 4, 5, 8, 9, 12, 13, 16, 17, 20, 21, 22, 25, 26, 27, 30, 31, 32, 35, 36, 37, 40, 41]
def q_R_sum : List Nat := [0, 1, 4, 5, 8, 9, 12, 13, 16, 19, 20, 21, 22, 24, 27, 28, 30, 33, 34, 35, 38, 39, 40, 43, 44, 47, 48, 49, 51, 54, 55, 58, 59, 60, 63, 64, 67, 68, 71, 72, 75, 78, 79, 80, 83, 84]
def q_R_term : List Nat := [0, 1, 4, 5, 8, 9, 12, 13, 16, 19, 20, 21, 22, 24, 27, 28, 30, 33, 34, 35, 38, 39, 40, 43, 44, 47, 48, 49, 51, 54, 55, 58, 59, 60, 63, 64, 67, 68, 71, 72, 75, 78, 79, 80, 83, 84]
def q_R_atom : List Nat := [0, 1, 4, 5, 6, 9, 12, 13, 14, 15, 18, 21, 24, 25, 28, 29, 32, 33, 34, 37, 38, 39, 42, 43, 44, 45, 48, 51, 54, 55, 57, 60, 61, 64, 65, 68, 69, 72, 73, 76, 77, 79, 82, 85, 86, 89, 90]
def q_R_plainNumber : List Nat := [0, 1, 2, 3, 4, 5, 6, 9, 10, 13, 16, 19, 21, 22, 23, 24, 27, 28, 30, 31, 32, 33, 34, 37, 38, 39, 42, 45, 48, 49, 52, 55, 58, 59, 62, 63, 64]
def q_R_letterOf : List Nat := [0, 1, 3, 6, 7, 10, 11, 13, 16, 17, 20, 21, 23, 26, 27, 30, 31, 33, 36, 37, 40, 41, 43, 46, 47, 50, 51, 52]
def q_R_compare : List Nat := [0, 1, 4, 5, 8, 9, 12, 15, 16, 17, 18, 21, 24, 25, 28, 29, 30, 31, 34, 35, 36, 39, 40, 43, 44, 45, 47, 50, 52, 55, 56, 58, 61, 63, 66, 68, 69, 72, 73]
def q_R_isSign : List Nat := [0, 1, 3, 6, 7, 9, 12, 13, 15, 18, 19, 22, 23, 24]
def q_R_goOnAnd : List Nat := [0, 1, 4, 5, 8, 9, 12, 14, 17, 18, 19, 22, 23, 24, 27, 28, 31, 32, 34, 35, 38, 41, 42]
def q_R_goOnOr : List Nat := [0, 1, 4, 5, 8, 9, 12, 14, 17, 18, 19, 22, 23, 24, 27, 28, 31, 32, 35, 36, 38, 39, 42, 45, 46]
def q_R_atEnd : List Nat := [0, 1, 4, 5, 8, 9, 12, 13, 16, 17, 20, 21, 24, 25]
def q_R_text : List Nat := [0, 1, 4, 5, 8, 9, 12, 13, 14, 17, 18, 21, 22, 23, 24, 27, 28, 31, 32, 35, 36, 37, 40, 43, 44, 47, 48, 49, 52, 53, 54, 57, 58, 59, 62, 63, 66, 67, 68, 69, 70, 71]
def q_R_takeHunt : List Nat := [0, 1, 2, 5, 8, 9, 10, 13, 16, 17, 18, 21, 24, 25, 26, 29, 32, 33, 34, 35, 37, 40, 41, 44, 45, 46, 49, 50, 51, 52, 53, 56, 57, 58, 61, 62, 63, 64, 67, 70, 71, 72, 73, 75, 78, 79, 82, 83, 84, 87, 88, 89, 90, 91, 94, 95, 96, 97, 98, 99, 100, 102, 105, 106, 109, 111, 112, 113, 114, 115, 116, 117, 118, 119, 122, 123, 124, 127, 130, 133, 136, 137, 138, 141, 142, 143, 146, 147, 148, 151, 152, 155, 156]
def q_R_place : List Nat := [0, 1, 2, 3, 6, 9, 10, 11, 12, 15, 18, 19, 22, 23, 26, 27, 30, 31, 34, 35, 38, 39, 42, 43, 46, 47, 48, 51, 52, 55, 56, 57, 58]
def q_R_isPlace : List Nat := [0, 1, 2, 3, 6, 7, 8, 11, 12]
def q_R_band : List Nat := [0, 1, 2, 5, 8, 9, 10, 11, 14, 17, 18, 21, 22, 25, 26, 29, 30, 31, 34, 35, 36, 39, 40, 41, 44, 47, 48, 51, 52, 53, 54]
def q_R_isBand : List Nat := [0, 1, 2, 3, 6, 7, 8, 11, 12]
def q_R_orderOf : List Nat := [0, 1, 2, 3, 4, 5, 6, 9, 12, 14, 15, 16, 17, 18, 19, 22, 23, 24, 27, 30, 31, 32]
def q_R_of : List Nat := [0, 1, 4, 6, 7, 8, 9, 10, 11, 12]
def q_R_order : List Nat := [0, 1, 2, 5, 8, 9, 10, 13, 16, 17, 18, 19, 22, 23, 24, 25, 28, 29, 32, 33]
def q_R_isOrder : List Nat := [0, 1, 2, 3, 4, 5, 6, 9, 12, 13, 14, 15, 16, 17, 20, 21, 22, 23, 26, 29, 30, 33, 36, 37, 38, 39, 42, 45, 46, 47, 50, 53, 54, 55, 56, 59, 60, 61, 62, 65, 66, 69, 70, 71]
def q_R_nth : List Nat := [0, 1, 2, 5, 6, 7, 8, 9, 12, 13, 15, 16, 17]
def q_R_ten : List Nat := [0, 1, 2, 3, 4, 5, 6, 9, 10, 12, 13, 14, 17, 20, 21, 22]
def q_R_keep : List Nat := [0, 1, 4, 6, 9, 11, 12, 13, 16, 19, 20, 23, 24, 26, 27, 28, 31, 32, 33, 34, 37, 40, 41, 42, 45, 46, 47, 50, 51, 52, 53, 55, 58, 59, 62, 64, 65, 68, 69, 70, 71, 72, 75, 76, 77, 78, 81, 84, 85, 86, 89, 90, 91, 94, 95]
def q_R_write : List Nat := [0, 1, 2, 3, 4, 7, 10, 11, 14, 16, 17, 18, 19, 20, 21, 22, 23, 26, 27, 30, 33, 34]
def q_R_start : List Nat := [0, 1, 2, 5, 8, 9, 10, 12, 15, 18, 19, 20, 21, 24, 25, 26, 27, 28, 29]
def q_R_worth : List Nat := [0, 1, 2, 3, 6, 7, 8, 11, 14, 15, 16, 17, 18, 21, 22, 23]
def q_R_undo : List Nat := [0, 1, 4, 7, 8, 9, 10, 11, 14, 15, 16, 19, 20, 21, 22, 24, 27, 28, 31, 32, 33, 36, 38, 39, 42, 43, 44, 45, 46, 47, 50, 53, 54, 57, 58]
def q_R_at : List Nat := [0, 1, 2, 5, 8, 9, 10, 11, 14, 15, 16, 19, 22, 23, 24, 25, 28, 31, 32, 33]
def q_R_follows : List Nat := [0, 1, 2, 5, 8, 9, 10, 13, 16, 17, 18, 21, 22, 23, 24, 27, 30, 31, 32]
def q_R_followsOf : List Nat := [0, 1, 2, 3, 5, 7, 8, 11, 14, 15, 16, 17, 19, 22, 23, 24, 26, 27, 28, 31, 34, 35, 38, 39, 40, 41, 44, 47, 48, 49]
def q_R_lawful : List Nat := [0, 1, 4, 7, 8, 11, 12, 13, 16, 19, 22, 23, 26, 27, 28]
def q_R_isLawful : List Nat := [0, 1, 2, 3, 4, 7, 8, 9, 10, 11, 14, 15, 16, 19, 20, 21, 22, 25, 28, 29, 30, 31, 34, 35, 38, 41, 42, 43, 46, 49, 52, 55, 56, 57]
def q_R_doMeet : List Nat := [0, 1, 2, 3, 4, 7, 10, 11, 12, 13, 16, 17, 18, 19, 22, 25, 26, 27, 30, 33, 34, 35]
def q_R_crowd : List Nat := [0, 1, 2, 3, 6, 9, 10, 11, 12, 13, 14, 15, 18, 21, 22, 23, 24, 25, 28, 31, 32, 33, 34, 37, 40, 41, 44, 45, 48, 49, 52, 53, 54, 57, 58, 61, 62, 63, 64, 67, 68, 71, 74, 77, 80, 81, 82]
def q_R_bandsAt : List Nat := [0, 1, 2, 3, 5, 7, 8, 11, 14, 15, 16, 18, 19, 22, 23, 26, 27, 29, 30, 33, 34, 35, 36, 39, 42, 43, 44]
def q_R_even : List Nat := [0, 1, 2, 5, 8, 11, 12, 13, 14, 15, 18, 19, 20, 21, 22, 23, 26, 29, 30, 31, 32, 33, 34, 37, 40, 41, 42, 43, 44, 45, 46, 49, 50, 51, 52, 53, 54, 57, 58, 59, 60, 61, 62, 63, 64, 66, 67, 69, 70, 71, 72, 73]
def q_R_slips : List Nat := [0, 1, 4, 7, 8, 9, 10, 11, 12, 13, 14, 15, 18, 21, 22, 23, 24, 25, 28, 31, 32, 34, 35, 37, 39, 40, 43, 46, 47, 49, 51, 52, 55, 58, 60, 63, 64, 66, 68, 69, 70, 73, 74, 77, 78, 80, 82, 85, 86, 89, 90, 93, 94, 96, 99, 102, 105, 108, 109, 111, 114, 115, 118, 119, 120, 121, 124, 127, 130, 133, 134, 135]
def q_R_well : List Nat := [0, 1, 2, 5, 8, 9, 12, 13, 14, 15, 16, 17, 19, 21, 22, 25, 28, 29, 31, 33, 34, 37, 40, 41, 43, 45, 48, 49, 52, 53, 54, 57, 59, 60, 63, 66, 69, 72, 75, 76, 77]
def q_R_sight : List Nat := [0, 1, 4, 7, 8, 9, 10, 11, 12, 13, 14, 15, 18, 21, 22, 23, 24, 25, 28, 31, 32, 34, 36, 37, 40, 41, 42, 43, 46, 48, 49, 51, 52, 55, 57, 58, 60, 62, 65, 66, 69, 71, 72, 73, 76, 78, 79, 82, 83, 86, 88, 89, 90, 93, 95, 96, 99, 100, 103, 104, 105, 106, 109, 112, 115, 118, 121, 124, 125, 126]
def q_R_comes : List Nat := [0, 1, 2, 5, 8, 9, 10, 11, 14, 15, 16, 19, 22, 23, 24, 25, 28, 31, 32, 33]
def q_R_comesAt : List Nat := [0, 1, 4, 5, 6, 7, 8, 10, 12, 13, 16, 17, 18, 21, 22, 23, 24, 25, 26, 28, 31, 32, 33, 35, 38, 41, 42, 44, 45, 48, 49, 52, 55, 56, 57, 58, 59, 62, 65, 66, 67]
def q_R_ahead : List Nat := [0, 1, 4, 5, 8, 9, 10, 11, 12, 13, 16, 17]
def q_R_steps : List Nat := [0, 1, 2, 5, 6, 9, 10, 13, 14, 15, 16, 17, 18, 21, 22, 25, 26, 29, 30, 31, 33, 34, 35, 38, 39, 40, 41, 44, 46, 47, 50, 51, 52, 53, 56, 57, 58]
def q_R_home : List Nat := [0, 1, 2, 5, 8, 9, 10, 13, 16, 17, 18]
def q_R_homeOf : List Nat := [0, 1, 2, 3, 6, 7, 8, 11, 12, 13, 14, 15, 18, 19, 20, 23, 24, 27, 28, 29, 32, 33, 34, 35, 36, 37, 40, 41, 42, 43]
def q_R_points : List Nat := [0, 1, 2, 5, 8, 9, 10, 13, 16, 19, 20]
def q_R_pointsOf : List Nat := [0, 1, 2, 3, 4, 5, 6, 9, 12, 13, 16, 17, 20, 21, 24, 25, 26, 27, 28, 31, 32, 33, 34, 35, 38, 39, 40, 43, 44, 45, 46, 47, 50, 51, 52, 53, 54, 57, 58, 59, 62, 63, 64, 65, 66, 67, 70, 71, 72, 73, 76, 79, 80, 81, 82, 83, 86, 89, 90, 91, 94, 97, 98, 99]
def q_R_worthOf : List Nat := [0, 2, 3, 4, 5, 6, 8, 9, 10, 11, 14, 15, 16, 17, 20, 21, 24, 25, 26, 27, 30, 31, 32, 35, 36, 37, 38, 41, 42, 43, 44, 47, 48, 49, 52, 55, 56, 57, 58, 61, 62, 63, 64, 67, 68, 69, 72, 73, 76, 79, 80, 81]
def q_R_workOut : List Nat := [0, 1, 3, 6, 7, 8, 9, 10, 12, 14, 17, 18, 19, 20, 21, 24, 25, 28, 30, 31, 34, 35, 38, 40, 41, 42, 45, 46, 49, 51, 52, 55, 57, 58, 61, 62, 65, 67, 68, 71, 72, 75, 76, 79, 81, 82, 83, 84, 87, 90, 91, 94, 96, 97, 99, 102, 103, 106, 108, 109, 110, 111, 112, 115, 117, 118, 119, 120, 121, 122, 125, 128, 129, 132, 134, 135, 136, 137, 140, 142, 143, 144, 147, 149, 150, 151, 152, 153, 154, 157, 159, 160, 161, 164, 165, 168, 171, 172, 175, 176, 177, 178]
def q_R_worked : List Nat := [0, 1, 52, 53, 54, 55, 58, 59, 60, 61, 62, 65, 66, 67, 68, 69, 72, 73, 74, 75, 76, 79, 80, 83, 84, 85, 86, 89, 90, 91, 92, 93, 96, 97, 100, 101, 102, 103, 104, 105, 108, 109, 112, 113, 114, 115, 116, 117, 120, 121, 124, 125, 126, 127, 128, 129, 132, 133, 134, 135, 138, 139, 142, 143, 144, 145, 146, 147, 150, 151, 152, 153, 156, 157, 160, 161, 162]
def q_R_bounded : List Nat := [0, 3, 6, 7, 10, 13, 14, 15]
def q_R_clashes : List Nat := [0, 1, 4, 7, 8, 9, 10, 13, 16, 19, 20, 21, 22, 23, 24, 25, 27, 29, 30, 33, 36, 37, 39, 41, 43, 46, 47, 49, 51, 54, 56, 57, 59, 60, 63, 64, 67, 68, 69, 70, 72, 73, 76, 77, 78, 81, 83, 84, 87, 89, 92, 93, 94, 97, 100, 103, 106, 107, 110, 111, 114, 115, 116]
def q_R_clashOf : List Nat := [0, 1, 2, 3, 5, 7, 8, 11, 14, 15, 17, 19, 20, 23, 26, 27, 28, 30, 33, 34, 35, 37, 40, 43, 45, 46, 47, 49, 52, 53, 54, 56, 59, 62, 63, 66, 67, 69, 70, 71, 73, 76, 77, 78, 80, 83, 86, 88, 90, 93, 94, 95, 98, 100, 101, 104, 106, 109, 110, 111, 114, 117, 120, 123, 124, 125]
def q_R_starts : List Nat := [0, 1, 4, 7, 8, 9, 11, 14, 17, 18, 19, 20, 23, 26, 27, 28, 29, 32, 33, 36, 39, 40, 41, 42, 43, 45, 47, 49, 52, 53, 56, 58, 59, 62, 64, 65, 66, 67, 69, 70, 73, 76, 77, 78, 79, 82, 83, 84, 85, 88, 91, 92, 94, 95, 97, 98, 100, 102, 103, 106, 108, 110, 111, 113, 114, 116, 117, 119, 120, 123, 124, 125, 127, 129, 132, 133, 136, 138, 140, 141, 142, 143, 144, 145, 147, 148, 151, 153, 154, 155, 157, 159, 161, 162, 165, 167, 168, 169, 170, 172, 174, 176, 177, 179, 181, 182, 183, 184, 185, 187, 190, 193, 195, 196, 199, 201, 203, 206, 207, 208, 211, 214, 216, 218, 220, 222, 225, 228, 229, 231, 233, 235, 238, 239, 242, 244, 245, 248, 250, 251, 252, 255, 258, 260, 261, 264, 265, 266, 269, 271, 274, 276, 277]
def q_R_soonest : List Nat := [0, 1, 2, 5, 8, 9, 10, 11, 14, 17, 18, 19, 20, 23, 24, 25, 28, 29, 30, 32, 33, 35, 36, 38, 40, 41, 44, 47, 48, 49, 50, 53, 55, 56, 59, 60, 61, 64, 66, 68, 69, 72, 74, 76, 79, 80, 81, 84, 87, 88, 91, 93, 94, 96, 98, 100, 103, 106, 107, 108, 109, 112, 114, 115, 118, 119, 122, 124, 127, 129, 130]
def q_R_layOrders : List Nat := [0, 1, 2, 5, 6, 7, 8, 9, 12, 13, 14, 15, 18, 19]
def q_R_build : List Nat := [0, 1, 4, 5, 8, 9, 12, 13, 14, 15, 16, 19, 20, 21, 24, 25, 26, 27, 28, 29, 32, 35, 36, 37, 40, 43, 44, 46, 47, 48, 49, 50, 51, 52, 53, 54, 55, 56, 57, 60, 63, 66, 67]
def q_R_doesClash : List Nat := [0, 1, 2, 3, 4, 7, 10, 11, 12, 15, 16, 17, 18, 21, 22, 25, 26, 27, 30, 33, 34, 35]
def q_R_rich : List Nat := [0, 1, 2, 5, 8, 9, 10, 11, 14, 17, 20, 21, 22, 25, 26, 27, 30, 31, 32, 34, 35, 37, 38, 40, 42, 43, 46, 49, 50, 51, 52, 55, 57, 58, 61, 62, 63, 66, 68, 70, 71, 74, 76, 78, 81, 82, 83, 86, 89, 90, 93, 95, 96, 98, 100, 102, 105, 108, 109, 110, 111, 114, 116, 117, 120, 123, 126, 127, 130, 132, 135, 137, 138]
def q_R_meetsAny : List Nat := [0, 1, 2, 3, 4, 7, 10, 11, 12, 15, 16, 17, 18, 21, 24, 25, 26, 29, 32, 33, 34]
def q_R_find : List Nat := [0, 1, 2, 5, 8, 9, 10, 11, 14, 15, 16, 19, 22, 23, 24, 27, 30, 31, 34, 36, 39, 40, 41, 42, 45, 46, 49, 50, 51, 52, 55, 56, 59, 60, 61, 62, 65, 66, 69, 70, 71, 72, 75, 76, 79, 81, 82, 83, 84, 87, 88, 89, 92, 93, 96, 97]
def q_R_fits : List Nat := [0, 1, 2, 5, 8, 9, 10, 11, 14, 15, 16, 17, 18, 19, 20, 23, 26, 27, 28, 29, 30, 33, 34, 35, 38, 41, 42, 45, 46, 47, 48, 51, 54, 55, 56]
def q_R_agrees : List Nat := [0, 1, 2, 3, 4, 7, 10, 11, 14, 15, 16, 17, 20, 21, 22, 23, 26, 27, 28, 31, 32, 35, 36, 37, 40, 41, 44, 45, 46, 49, 50, 51, 54, 55, 56, 59, 62, 63, 64]
def q_R_tables : List Nat := [0, 1, 4, 7, 8, 11, 12, 15, 16, 19, 20, 23, 26, 27, 28, 29, 32, 33, 34, 37, 38, 39, 42, 45, 46, 47, 48, 51, 52, 53, 54, 56, 59, 60, 63, 64, 65, 68, 69, 70, 71, 74, 77, 78, 79, 82, 83, 84, 87, 88, 89, 90, 93, 96, 97, 100, 101, 104, 105, 106, 109, 110, 111, 114, 115, 116, 117, 119, 122, 123, 126, 127, 128, 131, 132, 133, 134, 137, 140, 141, 142, 145, 146, 149, 152, 153, 156, 157]
def q_R_tablesFrom : List Nat := [0, 1, 2, 5, 8, 9, 10, 13, 14, 17, 20, 21, 22, 25, 28, 31, 32, 35, 38, 39, 40, 43, 44, 45, 48, 49, 50, 51, 52, 53, 56, 59, 60, 63, 66, 69, 70, 71, 72, 75, 76, 77, 80, 83, 84, 85, 86, 89, 90, 91, 94, 95, 96, 99, 102, 103, 104, 105, 106, 109, 112, 115, 116]
def q_R_goesWith : List Nat := [0, 1, 2, 3, 4, 7, 8, 9, 10, 13, 16, 17, 18, 19, 22, 23, 26, 29, 30, 31, 32, 35, 36, 39, 42, 43, 44, 47, 50, 51, 52]
def q_R_wrong : List Nat := [0, 1, 2, 5, 8, 9, 10, 11, 14, 15, 16, 19, 22, 23, 24, 27, 30, 32, 33, 34, 37, 40, 41, 42, 43, 46, 47, 50, 51, 52, 53, 54, 55, 58, 60, 61, 64, 66, 67, 68, 69, 70, 71, 72, 73, 74, 75, 78, 79, 80, 81, 82, 83, 84, 86, 87, 89, 90, 92, 94, 95, 98, 101, 103, 105, 106, 109, 110, 111, 113, 116, 119, 120, 121, 123, 126, 129, 130, 133, 135, 136, 137, 138, 139, 141, 142, 144, 147, 149, 152, 154, 155]
def q_R_helpers : List Nat := [0, 1, 4, 7, 8, 9, 11, 14, 17, 18, 19, 20, 21, 24, 25, 26, 27, 28, 31, 34, 35, 36, 37, 38, 41, 44, 45, 46, 47, 50, 53, 54, 57, 58, 61, 62, 63, 64, 67, 68, 71, 72, 73, 74, 75, 78, 79, 80, 83, 86, 89, 92, 95, 96, 97, 98, 99, 102, 105, 106, 107, 108, 109, 112, 115, 116, 119, 120, 121, 122, 125, 126, 127, 128, 130, 131, 134, 136, 137, 138, 139, 140, 142, 145, 146, 147, 148, 151, 152, 153, 154, 155, 157, 160, 161, 164, 165, 166, 169, 172, 173, 176, 177, 178, 181, 184, 187, 190, 191, 192, 193, 194, 195, 196, 199, 202, 203, 206, 207, 208, 209, 212, 215, 216, 217, 218, 219, 222, 225, 226, 228, 230, 231, 234, 237, 238, 241, 243, 244, 245, 248, 251, 252, 253, 254, 257, 260, 261, 264, 265, 266, 267, 270, 273, 274, 277, 278, 279, 280]
def q_R_hop : List Nat := [0, 1, 3, 4, 6, 8, 9, 12, 13, 15, 16, 18, 20, 21, 24, 27, 28, 30, 32, 33, 36, 39, 41, 43, 45, 48, 51, 52, 54, 56, 59, 60, 63, 64, 66, 67, 70, 71, 72, 74, 77, 80, 83, 86, 88, 90, 93, 96, 98, 99]
def q_R_match : List Nat := [0, 1, 2, 3, 4, 7, 10, 11, 14, 16, 17, 18, 19, 20, 21, 24, 25, 28, 29, 30, 33, 34, 37, 38, 39, 40, 41, 44, 45, 46, 47, 50, 51, 52, 55, 56, 57, 60, 63, 64, 67, 68, 69, 70, 71, 72, 75, 78, 79, 80]
def q_R_pieces : List Nat := [0, 1, 2, 4, 7, 10, 11, 12, 13, 16, 19, 20, 23, 24, 25, 26, 27, 30, 31, 34, 35, 36, 37, 38, 41, 44, 45, 46, 47, 48, 49, 50, 53, 54, 55, 57, 58, 60, 62, 63, 64, 65, 68, 70, 73, 74, 75, 76, 79, 81, 82, 83, 84, 87, 88, 89, 90, 91, 92, 94, 95, 96, 97, 98, 101, 104, 107, 108, 109]
def q_R_choose : List Nat := [0, 1, 2, 3, 4, 5, 6, 9, 10, 11, 12, 13, 14, 15, 16, 17, 18, 19, 22, 25, 26, 27, 30, 31, 34, 35, 36]
def q_R_drawn : List Nat := [0, 1, 4, 7, 8, 9, 10, 13, 14, 15, 16, 18, 20, 21, 24, 27, 28, 30, 32, 33, 36, 39, 40, 43, 45, 47, 48, 50, 51, 53, 54, 57, 60, 61, 64, 65, 66, 68, 70, 73, 74, 77, 78, 81, 82, 83, 84, 86, 87, 89, 90, 91, 92, 93, 94, 96, 97, 100, 102, 104, 105, 107, 108, 109, 111, 112, 115, 117, 119, 120, 122, 123, 124, 127, 129, 131, 132, 134, 135, 136, 137, 138, 141, 143, 145, 146, 148, 149, 151, 152, 155, 158, 161, 164, 165, 168, 169]
def q_R_image : List Nat := [0, 1, 4, 7, 8, 9, 10, 11, 12, 14, 17, 18, 21, 22, 23, 26, 27, 28, 29, 32, 35, 36, 37, 38, 40, 43, 44, 47, 48, 49, 52, 53, 54, 55, 58, 61, 62, 63, 66, 67, 70, 71]
def q_R_back : List Nat := [0, 1, 4, 7, 8, 9, 10, 11, 12, 14, 17, 18, 21, 22, 23, 26, 27, 28, 29, 32, 35, 36, 37, 38, 40, 43, 44, 47, 48, 49, 52, 53, 54, 55, 58, 61, 62, 63, 66, 67, 68]
def q_R_again : List Nat := [0, 1, 4, 7, 8, 9, 10, 11, 12, 13, 14, 15, 18, 21, 22, 23, 24, 25, 28, 31, 32, 33, 34, 35, 38, 39, 42, 44, 45, 46, 47, 48, 49, 52, 53, 56, 57, 58, 59, 62, 65, 68, 71, 72, 73]
def q_R_count : List Nat := [0, 1, 52, 53, 56, 57, 58, 61, 62, 63, 66, 67, 68, 71, 72, 73, 76, 77, 78, 81, 82, 83, 86, 87, 88, 91, 92, 93, 96, 97, 100, 101]
def q_Law_law : List Nat := [0, 3, 4, 7, 8, 11, 12, 15, 16, 17, 19, 20, 21, 23, 25, 26, 27, 29, 30, 33, 34, 36, 37, 39, 40, 200, 201, 202, 204, 205, 206, 207, 208, 210, 211, 212, 213, 214, 216, 217, 218, 219, 220, 222, 223, 224, 225, 226, 228, 229, 230, 231, 234, 235, 236, 238, 239, 240, 241, 242, 244, 245, 246, 247, 248, 250, 251, 252, 253, 254, 256, 257, 258, 259, 260, 262, 263, 264, 265, 268, 271, 272, 273, 274, 275, 277, 278, 279, 280, 283, 284, 285, 287, 288, 289, 290, 293, 296, 297, 298, 299, 300, 302, 303, 304, 305, 308, 309, 310, 312, 313, 314, 315, 318, 321, 322, 323, 324, 325, 327, 328, 329, 330, 333, 334, 335, 337, 338, 339, 340, 343, 346, 347, 348, 349, 350, 352, 353, 354, 355, 356, 358, 359, 360, 361, 362, 365, 367, 368, 369, 371, 372, 373, 374, 375, 377, 378, 379, 380, 383, 385, 386, 389, 391, 394, 395, 396, 398, 401, 402, 403, 404, 406, 407, 408, 411, 412, 413, 416, 417, 418, 420, 421, 422, 423, 424, 426, 427, 428, 429, 432, 433, 434, 436, 437, 438, 439, 440, 442, 443, 444, 445, 448, 451, 452, 453, 454, 455, 457, 458, 459, 460, 461, 463, 464, 465, 466, 469, 470, 471, 473, 474, 475, 476, 477, 479, 480, 481, 482, 485, 488, 489, 490, 491, 492, 494, 495, 496, 497, 498, 500, 501, 502, 503, 506, 507, 508, 510, 511, 512, 513, 514, 516, 517, 518, 519, 522, 525, 526, 527, 528, 529, 531, 532, 533, 534, 537, 538, 539, 541, 542, 543, 544, 547, 550, 551, 552, 553, 556, 557, 560, 563, 564, 565, 566, 567, 569, 570, 571, 572, 573, 575, 576, 577, 578, 581, 582, 583, 585, 586, 587, 588, 589, 591, 592, 593, 594, 597, 600, 601, 602, 603, 604, 606, 607, 608, 609, 610, 612, 613, 614, 615, 618, 619, 620, 622, 623, 624, 625, 626, 628, 629, 630, 631, 634, 637, 638, 639, 640, 643, 644, 647, 650, 651, 652, 653, 654, 656, 657, 658, 659, 662, 663, 664, 666, 667, 668, 669, 672, 675, 676, 677, 678, 679, 681, 682, 683, 684, 685, 687, 688, 689, 690, 691, 693, 694, 695, 696, 699, 700, 701, 703, 704, 705, 706, 707, 709, 710, 711, 712, 713, 715, 716, 717, 718, 721, 724, 725, 726, 727, 730, 731, 734, 737, 738, 739, 740, 741, 743, 744, 745, 746, 747, 749, 750, 751, 752, 755, 756, 757, 759, 760, 761, 762, 763, 765, 766, 767, 768, 771, 774, 775, 776, 777, 780, 781, 784, 787, 788, 789, 790, 791, 793, 794, 795, 796, 799, 800, 801, 803, 804, 805, 806, 809, 812, 813, 814, 815, 816, 818, 819, 820, 821, 822, 824, 825, 826, 827, 830, 831, 832, 834, 835, 836, 837, 838, 840, 841, 842, 843, 846, 849, 850, 851, 852, 853, 855, 856, 857, 858, 861, 862, 863, 865, 866, 867, 868, 871, 874, 875, 876, 877, 878, 880, 881, 882, 883, 886, 887, 888, 890, 891, 892, 893, 896, 899, 900, 901, 902, 903, 905, 906, 907, 908, 909, 911, 912, 913, 914, 917, 918, 919, 921, 922, 923, 924, 925, 927, 928, 929, 930, 933, 936, 937, 938, 939, 940, 942, 943, 944, 945, 946, 948, 949, 950, 951, 954, 955, 956, 958, 959, 960, 961, 962, 964, 965, 966, 967, 970, 973, 974, 975, 976, 977, 979, 980, 981, 982, 983, 985, 986, 987, 988, 991, 992, 993, 995, 996, 997, 998, 999, 1001, 1002, 1003, 1004, 1007, 1010, 1011, 1012, 1013, 1014, 1016, 1017, 1018, 1019, 1020, 1022, 1023, 1024, 1025, 1026, 1028, 1029, 1030, 1031, 1032, 1034, 1035, 1036, 1037, 1040, 1041, 1044, 1045, 1048, 1049, 1050, 1052, 1053, 1054, 1055, 1056, 1058, 1059, 1060, 1061, 1062, 1064, 1065, 1066, 1067, 1068, 1070, 1071, 1072, 1073, 1076, 1077, 1080, 1081, 1084, 1087, 1088, 1089, 1090, 1091, 1093, 1094, 1095, 1096, 1099, 1100, 1101, 1103, 1104, 1105, 1106, 1109, 1112, 1113, 1114, 1115, 1116, 1118, 1119, 1120, 1121, 1122, 1124, 1125, 1126, 1127, 1130, 1131, 1132, 1134, 1135, 1136, 1137, 1138, 1140, 1141, 1142, 1143, 1146, 1149, 1150, 1151, 1152, 1153, 1155, 1156, 1157, 1158, 1159, 1161, 1162, 1163, 1164, 1165, 1167, 1168, 1169, 1170, 1171, 1173, 1174, 1175, 1176, 1179, 1180, 1181, 1183, 1184, 1185, 1186, 1187, 1189, 1190, 1191, 1192, 1193, 1195, 1196, 1197, 1198, 1199, 1201, 1202, 1203, 1204, 1207, 1210, 1211, 1212, 1213, 1214, 1216, 1217, 1218, 1219, 1222, 1223, 1224, 1226, 1227, 1228, 1229, 1232, 1235, 1236, 1237, 1238, 1239, 1241, 1242, 1243, 1244, 1245, 1247, 1248, 1249, 1250, 1251, 1253, 1254, 1255, 1256, 1259, 1260, 1261, 1263, 1264, 1265, 1266, 1267, 1269, 1270, 1271, 1272, 1273, 1275, 1276, 1277, 1278, 1281, 1284, 1285, 1286, 1287, 1288, 1290, 1291, 1292, 1293, 1294, 1296, 1297, 1298, 1300, 1301, 1302, 1303, 1304, 1307, 1308, 1309, 1312, 1313, 1314, 1316, 1317, 1318, 1319, 1320, 1322, 1323, 1324, 1326, 1327, 1328, 1329, 1330, 1333, 1334, 1335, 1338, 1341, 1342, 1343, 1344, 1347, 1348, 1351, 1354, 1355, 1356, 1357, 1360, 1361, 1364, 1367, 1368, 1369, 1370, 1373, 1374, 1377, 1380, 1381, 1382, 1383, 1384, 1386, 1387, 1388, 1389, 1392, 1393, 1394, 1396, 1397, 1398, 1399, 1402, 1405, 1406, 1407, 1410, 1413, 1414, 1415]
def q_X_place : List Nat := [0, 1, 4, 5, 8, 11, 12, 15, 16, 17, 20, 23, 24, 27, 28, 29, 32, 33, 36, 37, 40, 43, 44, 47, 48, 51, 52]
def q_Law_place : List Nat := [0, 1, 2, 3, 4, 5, 8, 9, 10, 13, 15, 16, 17, 18, 19]
def jm_pcss : List (List Nat) := [q_X_init, q_Tape_init, q_HuntReader_init, q_Hunt_init, q_WorthReader_init, q_Worths_init, q_Table_init, q_Past_init, q_Clock_init, q_OrderSearch_init, q_Finds_init, q_HelperCount_init, q_X_feed, q_Tape_bytesIn, q_Tape_hasRoom, q_Tape_add, q_Tape_length, q_X_end, q_Tape_cut, q_X_fault, q_HuntReader_read, q_Tape_rewind, q_Hunt_clear, q_HuntReader_readClause, q_Tape_nextSign, q_HuntReader_addClause, q_Hunt_addPlace, q_Hunt_addBand, q_Tape_pass, q_HuntReader_readItems, q_HuntReader_itemOf, q_HuntReader_readValue, q_Tape_takeNumber, q_Tape_isDigit, q_Tape_stepBack, q_Hunt_put, q_Tape_position, q_Hunt_isWhole, q_Tape_take, q_WorthReader_read, q_WorthReader_readClause, q_WorthReader_readCondition, q_WorthReader_readTruth, q_WorthReader_readUnit, q_WorthReader_readSum, q_WorthReader_readTerm, q_WorthReader_readAtom, q_Worths_letterOf, q_WorthReader_write, q_WorthReader_readComparison, q_WorthReader_isComparison, q_WorthReader_readMoreUnits, q_WorthReader_readMoreTruths, q_WorthReader_readWhatFollowsCondition, q_X_text, q_HuntReader_draft, q_Hunt_copyFrom, q_Table_reset, q_Hunt_places, q_Hunt_bands, q_Past_forget, q_Finds_forget, q_Worths_hasRoom, q_WorthReader_code, q_WorthReader_size, q_Worths_keep, q_X_band, q_Hunt_hasBand, q_Hunt_slow, q_Table_digitsOf, q_Table_placeOf, q_Hunt_hasPlace, q_Table_startOf, q_X_order, q_Table_isOrder, q_Past_remember, q_Past_keepOrders, q_Table_putOrder, q_Past_acts, q_X_start, q_Table_putStart, q_X_worth, q_Worths_hold, q_X_undo, q_Past_undoLatest, q_Past_bringOrders, q_X_at, q_X_follows, q_Table_timesFollowed, q_X_lawful, q_Hunt_isTold, q_Table_keepsTheLaw, q_Hunt_follow, q_Table_firstMeetingTurn, q_Table_firstMeetingPlace, q_Table_bandsAt, q_JInteger_bitCount, q_X_crowd, q_X_even, q_X_evenTurn, q_X_slips, q_Table_pairsOfPlaces, q_JLong_bitCount, q_X_well, q_Table_comerTo, q_X_sight, q_Table_timesSeen, q_Table_inOneLine, q_Hunt_x, q_Hunt_y, q_X_points, q_Clock_pointsOf, q_Clock_wayOf, q_Hunt_steps, q_Worths_valueOf, q_Worths_run, q_Worths_letterValue, q_Worths_join, q_Worths_joined, q_Worths_bounded, q_Hunt_stay, q_X_comes, q_Clock_minuteOf, q_X_home, q_Clock_minuteHome, q_X_clashes, q_Clock_clashingPairs, q_Clock_lookWhoComesWhen, q_Clock_clashOf, q_Clock_firstClash, q_X_starts, q_Clock_seekStarts, q_Clock_clashesByStarts, q_Clock_seekStartOf, q_Clock_startsApart, q_Clock_leastSum, q_Clock_leastRow, q_X_soonest, q_OrderSearch_seekSoonest, q_OrderSearch_goSoon, q_OrderSearch_keep, q_Clock_clashesThere, q_OrderSearch_bestOrder, q_OrderSearch_bestValue, q_X_rich, q_OrderSearch_seekRichest, q_OrderSearch_placesOfOthers, q_OrderSearch_goRich, q_X_find, q_Finds_hasRoom, q_Finds_add, q_X_fits, q_Finds_fittingOrders, q_Finds_waysThrough, q_X_tables, q_Finds_isSmall, q_Finds_howManyTables, q_Finds_seekTables, q_Finds_clearSearch, q_Finds_someAreLawful, q_Finds_fillIfItCanBe, q_Finds_shutWhereOthersMustBe, q_Finds_shutElsewhere, q_Finds_fill, q_Finds_keepTable, q_Finds_mayFollow, q_Finds_set, q_Finds_follow, q_Finds_unset, q_Finds_openWhatIsLeft, q_Finds_orderInTable, q_X_wrong, q_Table_followsGoneWrong, q_X_helpers, q_HelperCount_fewest, q_HelperCount_fillReach, q_HelperCount_oneMoveMore, q_HelperCount_gatherDuties, q_HelperCount_joinOneMore, q_HelperCount_lookFrom, q_HelperCount_canJoin, q_HelperCount_giveWay, q_X_pieces, q_X_howManySets, q_X_setByNumber, q_X_drawn, q_Table_drawOrders, q_Table_drawOrder, q_Table_nextDraw, q_X_image, q_Past_takeImage, q_X_back, q_Past_hasImage, q_Past_goBack, q_X_again, q_Past_likeImage, q_X_count, q_Worths_size, q_Worths_holding, q_Finds_size, q_R_init, q_R_thrown, q_R_feed, q_R_byteOf, q_R_end, q_R_fault, q_R_readHunt, q_R_look, q_R_here, q_R_placeText, q_R_has, q_R_number, q_R_isDigit, q_R_bad, q_R_in, q_R_bandText, q_R_lawText, q_R_readLaw, q_R_open, q_R_clause, q_R_condition, q_R_unit, q_R_opens, q_R_put, q_R_closes, q_R_sum, q_R_term, q_R_atom, q_R_plainNumber, q_R_letterOf, q_R_compare, q_R_isSign, q_R_goOnAnd, q_R_goOnOr, q_R_atEnd, q_R_text, q_R_takeHunt, q_R_place, q_R_isPlace, q_R_band, q_R_isBand, q_R_orderOf, q_R_of, q_R_order, q_R_isOrder, q_R_nth, q_R_ten, q_R_keep, q_R_write, q_R_start, q_R_worth, q_R_undo, q_R_at, q_R_follows, q_R_followsOf, q_R_lawful, q_R_isLawful, q_R_doMeet, q_R_crowd, q_R_bandsAt, q_R_even, q_R_slips, q_R_well, q_R_sight, q_R_comes, q_R_comesAt, q_R_ahead, q_R_steps, q_R_home, q_R_homeOf, q_R_points, q_R_pointsOf, q_R_worthOf, q_R_workOut, q_R_worked, q_R_bounded, q_R_clashes, q_R_clashOf, q_R_starts, q_R_soonest, q_R_layOrders, q_R_build, q_R_doesClash, q_R_rich, q_R_meetsAny, q_R_find, q_R_fits, q_R_agrees, q_R_tables, q_R_tablesFrom, q_R_goesWith, q_R_wrong, q_R_helpers, q_R_hop, q_R_match, q_R_pieces, q_R_choose, q_R_drawn, q_R_image, q_R_back, q_R_again, q_R_count, q_Law_law, q_X_place, q_Law_place]
def jm_pc (y i : Nat) : Nat := ja_nth (ja_nth jm_pcss y []) i 0
def jm_fl : List (Nat × Nat × Nat × Nat × Nat × Nat) := [(8, 11, 8, 0, 1, 36), (8, 15, 8, 1, 1, 37), (8, 19, 8, 2, 1, 38), (3, 9, 3, 0, 1, 59), (3, 15, 3, 1, 1, 60), (3, 18, 3, 2, 1, 61), (3, 21, 3, 3, 1, 62), (3, 25, 3, 4, 1, 63), (3, 28, 3, 5, 1, 64), (3, 31, 3, 6, 1, 65), (4, 18, 4, 0, 1, 81), (4, 12, 4, 1, 1, 82), (4, 30, 4, 2, 1, 83), (9, 17, 9, 0, 1, 97), (9, 11, 9, 1, 1, 98), (9, 21, 9, 2, 1, 99), (10, 15, 10, 0, 1, 117), (10, 18, 10, 1, 1, 118), (10, 22, 10, 2, 1, 119), (10, 25, 10, 3, 1, 120), (10, 32, 10, 4, 1, 121), (10, 28, 10, 5, 1, 122), (7, 20, 7, 0, 1, 143), (7, 11, 7, 1, 1, 144), (7, 16, 7, 2, 1, 145), (7, 80, 7, 3, 1, 146), (6, 23, 6, 0, 1, 163), (6, 27, 6, 1, 1, 164), (6, 13, 6, 2, 1, 165), (6, 55, 6, 3, 1, 166), (6, 31, 6, 4, 1, 167), (6, 16, 6, 5, 1, 168), (6, 20, 6, 6, 1, 169), (6, 35, 6, 7, 1, 170), (0, 23, 0, 0, 1, 195), (0, 27, 0, 1, 1, 196), (0, 11, 0, 2, 1, 197), (0, 16, 0, 3, 1, 198), (0, 19, 0, 4, 1, 199), (0, 97, 0, 5, 1, 200), (0, 90, 0, 6, 1, 201), (0, 94, 0, 7, 1, 202), (5, 15, 5, 0, 1, 226), (5, 19, 5, 1, 1, 227), (5, 23, 5, 2, 1, 228), (5, 27, 5, 3, 1, 229), (5, 9, 5, 4, 1, 230), (5, 42, 5, 5, 1, 231), (5, 38, 5, 6, 1, 232), (5, 31, 5, 7, 1, 233), (5, 35, 5, 8, 1, 234), (1, 38, 1, 0, 2, 21), (1, 11, 1, 1, 2, 22), (1, 16, 1, 2, 2, 23), (1, 42, 1, 3, 2, 24), (1, 86, 1, 4, 2, 25), (1, 46, 1, 5, 2, 26), (1, 83, 1, 6, 2, 27), (1, 105, 1, 7, 2, 28), (1, 20, 1, 8, 2, 29), (1, 23, 1, 9, 2, 30), (1, 26, 1, 10, 2, 31), (1, 29, 1, 11, 2, 32), (1, 32, 1, 12, 2, 33), (1, 35, 1, 13, 2, 34), (2, 35, 2, 0, 2, 71), (2, 39, 2, 1, 2, 72), (2, 11, 2, 2, 2, 73), (2, 16, 2, 3, 2, 74), (2, 20, 2, 4, 2, 75), (2, 23, 2, 5, 2, 76), (2, 26, 2, 6, 2, 77), (2, 29, 2, 7, 2, 78), (2, 32, 2, 8, 2, 79), (2, 50, 2, 9, 2, 80), (2, 79, 2, 10, 2, 81), (11, 10, 11, 0, 2, 105), (11, 21, 11, 1, 2, 106), (11, 28, 11, 2, 2, 107), (11, 35, 11, 3, 2, 108), (11, 42, 11, 4, 2, 109), (11, 51, 11, 5, 2, 110), (11, 60, 11, 6, 2, 111), (11, 67, 11, 7, 2, 112), (11, 76, 11, 8, 2, 113), (11, 83, 11, 9, 2, 114), (11, 90, 11, 10, 2, 115), (12, 114, 12, 0, 6, 94), (12, 9, 12, 1, 6, 95), (12, 121, 12, 2, 6, 96), (12, 124, 12, 3, 6, 97), (12, 131, 12, 4, 6, 98), (12, 137, 12, 5, 6, 99), (12, 13, 12, 6, 6, 100), (12, 16, 12, 7, 6, 101), (12, 19, 12, 8, 6, 102), (12, 22, 12, 9, 6, 103), (12, 25, 12, 10, 6, 104), (12, 28, 12, 11, 6, 105), (12, 31, 12, 12, 6, 106), (12, 293, 12, 13, 6, 107), (12, 134, 12, 14, 6, 108), (12, 34, 12, 15, 6, 109), (12, 37, 12, 16, 6, 110), (12, 40, 12, 17, 6, 111), (12, 43, 12, 18, 6, 112), (12, 46, 12, 19, 6, 113), (12, 233, 12, 20, 6, 114), (12, 244, 12, 21, 6, 115), (12, 247, 12, 22, 6, 116), (12, 250, 12, 23, 6, 117), (12, 49, 12, 24, 6, 118), (12, 52, 12, 25, 6, 119), (12, 55, 12, 26, 6, 120), (12, 268, 12, 27, 6, 121), (12, 271, 12, 28, 6, 122), (12, 274, 12, 29, 6, 123), (12, 277, 12, 30, 6, 124), (12, 58, 12, 31, 6, 125), (12, 61, 12, 32, 6, 126), (12, 64, 12, 33, 6, 127), (12, 68, 12, 34, 6, 128), (12, 283, 12, 35, 6, 129), (12, 71, 12, 36, 6, 130), (12, 74, 12, 37, 6, 131), (12, 372, 12, 38, 6, 132), (12, 77, 12, 39, 6, 133), (12, 80, 12, 40, 6, 134), (12, 83, 12, 41, 6, 135), (12, 86, 12, 42, 6, 136), (12, 280, 12, 43, 6, 137), (12, 390, 12, 44, 6, 138), (12, 393, 12, 45, 6, 139), (12, 396, 12, 46, 6, 140), (12, 399, 12, 47, 6, 141), (12, 90, 12, 48, 6, 142), (12, 93, 12, 49, 6, 143), (12, 96, 12, 50, 6, 144), (12, 408, 12, 51, 6, 145), (12, 99, 12, 52, 6, 146), (12, 102, 12, 53, 6, 147), (12, 105, 12, 54, 6, 148), (12, 108, 12, 55, 6, 149), (12, 111, 12, 56, 6, 150), (12, 286, 12, 57, 6, 151)]
def jm_sl : List (Nat × Nat × Nat × Nat × Nat) := [(4, 81, 173, 2, 228), (4, 85, 174, 2, 230)]
def jm_cls : List (Nat × Nat × Nat × Nat × Nat × Nat × Nat × Nat × Nat) := [(13, 8, 11, 1, 22, 1, 23, 1, 1), (11, 7, 8, 1, 30, 1, 31, 1, 2), (11, 16, 4, 1, 47, 1, 48, 1, 3), (4, 9, 3, 1, 53, 1, 54, 1, 4), (11, 25, 9, 1, 91, 1, 92, 1, 5), (11, 32, 3, 1, 107, 1, 54, 1, 4), (11, 39, 10, 1, 109, 1, 110, 1, 6), (11, 46, 7, 1, 136, 1, 137, 1, 7), (11, 55, 6, 1, 156, 1, 157, 1, 8), (11, 64, 0, 1, 188, 1, 189, 1, 9), (11, 71, 5, 1, 220, 1, 221, 1, 10), (11, 80, 1, 2, 14, 2, 15, 1, 11), (11, 87, 2, 2, 64, 2, 65, 1, 12), (13, 16, 12, 6, 88, 6, 89, 1, 13)]
def jm_c2 : List (Nat × Nat × Nat × Nat) := [(10, 13, 1, 115), (7, 9, 1, 142), (6, 11, 1, 162), (0, 9, 1, 194), (1, 9, 2, 20), (2, 9, 2, 70)]
def jm_ks : List (Nat × Nat × Int × Nat × Nat) := [(9, 57, 40000, 3, 77), (14, 265, 1431655765, 4, 25), (14, 266, 858993459, 4, 26), (14, 267, 252645135, 4, 27), (10, 72, 1000000, 4, 135), (10, 75, -1000000, 4, 137), (10, 58, 40000, 4, 138), (11, 232, -1000000, 4, 146), (12, 361, -1000000, 8, 91)]
def jm_kl : List (Nat × Nat × Int × Nat × Nat) := [(15, 314, 6148914691236517205, 4, 53), (15, 316, 3689348814741910323, 4, 54), (15, 318, 1085102592571150095, 4, 55), (10, 70, 1000000, 4, 134), (10, 73, -1000000, 4, 136), (7, 96, 6364136223846793005, 5, 204), (7, 98, 1442695040888963407, 5, 205), (12, 204, -1000000, 8, 83), (12, 206, 1000000, 8, 84), (12, 420, 6364136223846793005, 8, 182), (12, 422, 1442695040888963407, 8, 183), (13, 156, 4294967295, 8, 200)]
def jm_ml0 : List (Nat × Nat × Nat × Nat × Nat) := [(13, 15, 0, 1, 24), (11, 18, 2, 1, 49), (11, 27, 4, 1, 93), (11, 48, 6, 1, 138), (11, 57, 7, 1, 158), (11, 66, 8, 1, 190), (11, 73, 9, 1, 222), (11, 82, 10, 2, 16), (11, 89, 11, 2, 66), (13, 19, 12, 2, 139), (11, 94, 13, 2, 143), (11, 98, 14, 2, 146), (11, 102, 15, 2, 150), (11, 106, 16, 2, 154), (13, 24, 17, 2, 158), (11, 110, 18, 2, 162), (13, 29, 19, 2, 166), (11, 113, 20, 2, 170), (4, 22, 21, 2, 174), (4, 27, 22, 2, 178), (4, 34, 23, 2, 182), (4, 42, 24, 2, 186), (4, 55, 25, 2, 190), (4, 64, 26, 2, 194), (4, 67, 27, 2, 198), (4, 58, 28, 2, 202), (4, 61, 29, 2, 206), (4, 70, 30, 2, 210), (4, 74, 31, 2, 213), (4, 77, 32, 2, 217), (8, 22, 24, 2, 221), (8, 29, 33, 2, 222), (4, 88, 34, 2, 232), (4, 91, 35, 2, 236), (4, 38, 36, 3, 0), (4, 45, 37, 3, 4), (4, 48, 16, 3, 8), (4, 51, 38, 3, 9), (8, 26, 28, 3, 13), (11, 116, 39, 3, 14), (9, 25, 21, 3, 18), (9, 28, 40, 3, 19), (9, 39, 38, 3, 23), (9, 36, 24, 3, 24), (9, 43, 41, 3, 25), (9, 70, 42, 3, 29), (9, 73, 43, 3, 33), (9, 49, 44, 3, 37), (9, 79, 45, 3, 41), (9, 82, 46, 3, 45), (9, 85, 47, 3, 49), (9, 76, 28, 3, 52), (9, 58, 48, 3, 53), (9, 89, 32, 3, 57), (9, 61, 49, 3, 58), (9, 52, 50, 3, 62), (9, 64, 51, 3, 65), (9, 67, 52, 3, 69), (9, 46, 53, 3, 73), (9, 32, 36, 3, 78), (13, 34, 54, 3, 79), (11, 117, 55, 3, 83), (11, 121, 56, 3, 87), (11, 124, 57, 3, 94), (7, 24, 58, 3, 98), (7, 30, 59, 3, 102), (11, 127, 60, 3, 106), (11, 130, 61, 3, 110), (1, 50, 59, 3, 114), (1, 56, 58, 3, 115), (11, 131, 59, 3, 116), (11, 134, 62, 3, 117), (11, 137, 63, 3, 121), (11, 141, 64, 3, 125), (11, 144, 65, 3, 129), (13, 48, 66, 3, 134), (11, 160, 67, 3, 138), (11, 163, 68, 3, 142), (3, 44, 67, 3, 146), (11, 166, 69, 3, 147), (7, 40, 70, 3, 151), (7, 33, 67, 3, 155), (7, 37, 71, 3, 156), (11, 169, 72, 3, 160), (13, 52, 73, 3, 164), (11, 172, 74, 3, 168), (11, 175, 75, 3, 172), (6, 58, 76, 3, 176), (6, 39, 59, 3, 180), (6, 45, 69, 3, 181), (11, 178, 77, 3, 183), (11, 182, 78, 3, 187), (13, 56, 79, 3, 191), (11, 185, 80, 3, 195), (13, 61, 81, 3, 199), (11, 188, 82, 3, 203), (13, 65, 83, 3, 207), (11, 191, 84, 3, 211), (6, 68, 85, 3, 215), (6, 51, 77, 3, 219)]
def jm_ml1 : List (Nat × Nat × Nat × Nat × Nat) := [(13, 69, 86, 3, 220), (11, 194, 70, 3, 224), (13, 73, 87, 3, 225), (11, 198, 88, 3, 229), (13, 77, 89, 3, 233), (11, 201, 90, 3, 237), (11, 204, 91, 4, 1), (7, 56, 88, 4, 5), (7, 59, 92, 4, 6), (7, 62, 93, 4, 10), (7, 53, 94, 4, 14), (7, 44, 95, 4, 18), (7, 47, 96, 4, 22), (13, 81, 97, 4, 28), (11, 207, 93, 4, 32), (11, 210, 94, 4, 33), (11, 213, 95, 4, 34), (13, 85, 98, 4, 35), (11, 216, 99, 4, 39), (13, 90, 100, 4, 42), (11, 219, 101, 4, 46), (7, 65, 102, 4, 50), (13, 94, 103, 4, 56), (11, 148, 71, 4, 60), (11, 222, 104, 4, 61), (13, 98, 105, 4, 65), (11, 225, 106, 4, 69), (7, 70, 107, 4, 73), (7, 74, 108, 4, 77), (3, 40, 71, 4, 81), (7, 77, 109, 4, 82), (13, 102, 110, 4, 86), (11, 228, 111, 4, 90), (0, 41, 72, 4, 94), (0, 46, 58, 4, 95), (0, 50, 70, 4, 96), (0, 53, 112, 4, 97), (0, 31, 113, 4, 101), (3, 47, 108, 4, 105), (3, 56, 109, 4, 109), (0, 37, 68, 4, 110), (0, 63, 114, 4, 111), (10, 47, 115, 4, 116), (10, 51, 116, 4, 120), (10, 55, 117, 4, 124), (10, 62, 118, 4, 128), (10, 66, 119, 4, 131), (0, 57, 120, 4, 142), (13, 106, 121, 4, 147), (11, 233, 122, 4, 151), (13, 110, 123, 4, 155), (11, 236, 124, 4, 159), (0, 60, 122, 4, 163), (13, 114, 125, 4, 164), (11, 239, 126, 4, 168), (0, 84, 127, 4, 172), (0, 69, 59, 4, 176), (0, 72, 71, 4, 177), (0, 87, 128, 4, 178), (11, 242, 129, 4, 184), (13, 118, 130, 4, 188), (11, 245, 131, 4, 192), (0, 100, 132, 4, 196), (0, 103, 133, 4, 200), (0, 107, 134, 4, 204), (11, 248, 135, 4, 208), (11, 251, 136, 4, 212), (13, 122, 137, 4, 216), (11, 254, 138, 4, 220), (5, 45, 127, 4, 224), (5, 50, 72, 4, 225), (5, 56, 139, 4, 226), (5, 60, 58, 4, 230), (5, 66, 112, 4, 231), (5, 70, 140, 4, 232), (5, 74, 120, 4, 236), (5, 77, 141, 4, 237), (11, 257, 142, 5, 1), (11, 260, 143, 5, 5), (13, 126, 144, 5, 9), (11, 263, 145, 5, 13), (5, 81, 146, 5, 17), (5, 88, 59, 5, 21), (5, 91, 70, 5, 22), (5, 84, 147, 5, 23), (5, 95, 113, 5, 27), (5, 98, 68, 5, 28), (5, 101, 114, 5, 29), (13, 130, 148, 5, 30), (11, 266, 149, 5, 34), (11, 267, 150, 5, 38), (1, 59, 67, 5, 42), (1, 63, 71, 5, 43), (13, 135, 151, 5, 44), (11, 270, 152, 5, 48), (1, 66, 153, 5, 52), (1, 70, 96, 5, 56), (13, 139, 154, 5, 57), (11, 273, 155, 5, 61), (1, 76, 90, 5, 65)]
def jm_ml2 : List (Nat × Nat × Nat × Nat × Nat) := [(11, 276, 156, 5, 66), (1, 80, 157, 5, 70), (1, 89, 155, 5, 74), (1, 92, 158, 5, 75), (1, 95, 159, 5, 79), (1, 101, 160, 5, 83), (1, 108, 161, 5, 87), (1, 115, 162, 5, 91), (1, 111, 163, 5, 95), (1, 119, 164, 5, 99), (1, 122, 165, 5, 103), (1, 136, 92, 5, 107), (1, 125, 166, 5, 108), (1, 129, 167, 5, 112), (1, 132, 168, 5, 116), (1, 98, 169, 5, 120), (11, 279, 170, 5, 124), (13, 143, 171, 5, 128), (11, 282, 172, 5, 132), (13, 148, 173, 5, 136), (11, 286, 174, 5, 140), (2, 43, 175, 5, 144), (2, 58, 58, 5, 148), (2, 63, 176, 5, 149), (2, 67, 113, 5, 153), (2, 47, 177, 5, 154), (2, 71, 95, 5, 158), (2, 54, 178, 5, 159), (2, 82, 179, 5, 163), (2, 89, 180, 5, 167), (2, 76, 71, 5, 171), (2, 86, 181, 5, 172), (13, 152, 182, 5, 176), (11, 289, 183, 5, 180), (11, 295, 96, 5, 183), (11, 292, 184, 5, 184), (13, 158, 185, 5, 187), (11, 300, 186, 5, 191), (7, 84, 187, 5, 195), (7, 93, 188, 5, 200), (13, 163, 189, 5, 206), (11, 304, 190, 5, 210), (6, 71, 72, 5, 214), (13, 167, 191, 5, 215), (11, 307, 192, 5, 219), (11, 310, 193, 5, 223), (6, 74, 80, 5, 227), (13, 171, 194, 5, 228), (11, 313, 195, 5, 232), (6, 77, 58, 5, 236), (6, 80, 70, 5, 237), (13, 175, 196, 5, 238), (11, 316, 58, 6, 2), (11, 319, 197, 6, 3), (11, 320, 92, 6, 7), (11, 323, 120, 6, 8), (11, 326, 198, 6, 9), (11, 329, 199, 6, 13), (11, 154, 108, 6, 86), (11, 157, 109, 6, 87), (13, 18, 200, 6, 90), (13, 44, 201, 7, 30), (13, 23, 202, 7, 34), (12, 117, 203, 7, 38), (13, 28, 204, 7, 41), (13, 33, 205, 7, 45), (12, 262, 206, 7, 49), (12, 143, 207, 7, 53), (12, 127, 208, 7, 57), (12, 253, 209, 7, 61), (12, 236, 210, 7, 65), (12, 240, 211, 7, 68), (12, 146, 212, 7, 72), (12, 140, 213, 7, 75), (12, 229, 214, 7, 79), (12, 256, 215, 7, 82), (12, 259, 216, 7, 86), (12, 265, 217, 7, 90), (12, 195, 218, 7, 94), (12, 198, 219, 7, 98), (12, 183, 220, 7, 102), (12, 180, 221, 7, 106), (12, 161, 222, 7, 110), (12, 153, 223, 7, 114), (12, 167, 224, 7, 118), (12, 164, 225, 7, 122), (12, 174, 226, 7, 126), (12, 171, 227, 7, 130), (12, 150, 228, 7, 134), (12, 157, 229, 7, 138), (12, 186, 230, 7, 141), (12, 177, 231, 7, 145), (12, 189, 232, 7, 148), (12, 192, 233, 7, 152), (12, 201, 234, 7, 156), (13, 37, 235, 7, 160), (12, 290, 236, 7, 164), (13, 43, 237, 7, 168), (12, 296, 238, 7, 172), (13, 51, 239, 7, 176)]
def jm_ml3 : List (Nat × Nat × Nat × Nat × Nat) := [(12, 302, 240, 7, 180), (12, 305, 241, 7, 184), (12, 299, 242, 7, 188), (13, 55, 243, 7, 192), (12, 314, 244, 7, 196), (12, 311, 245, 7, 200), (12, 308, 246, 7, 204), (12, 317, 247, 7, 207), (12, 320, 248, 7, 211), (13, 60, 249, 7, 215), (13, 64, 250, 7, 219), (13, 68, 251, 7, 223), (13, 72, 252, 7, 227), (13, 76, 253, 7, 231), (12, 323, 254, 7, 235), (13, 80, 255, 7, 239), (12, 329, 256, 8, 3), (12, 326, 257, 8, 7), (13, 84, 258, 8, 11), (12, 332, 259, 8, 15), (12, 335, 96, 8, 19), (13, 89, 260, 8, 20), (13, 93, 261, 8, 24), (13, 97, 262, 8, 28), (13, 101, 263, 8, 32), (13, 109, 264, 8, 36), (12, 349, 265, 8, 40), (12, 343, 266, 8, 44), (12, 346, 267, 8, 48), (13, 113, 268, 8, 53), (12, 352, 269, 8, 57), (13, 105, 270, 8, 61), (12, 358, 271, 8, 65), (12, 355, 272, 8, 69), (12, 225, 273, 8, 73), (12, 221, 274, 8, 77), (12, 217, 275, 8, 80), (13, 117, 276, 8, 92), (12, 366, 277, 8, 96), (13, 121, 278, 8, 102), (12, 369, 276, 8, 106), (13, 125, 279, 8, 107), (12, 378, 280, 8, 111), (12, 375, 281, 8, 115), (12, 381, 282, 8, 119), (13, 129, 283, 8, 123), (12, 384, 284, 8, 127), (13, 134, 285, 8, 131), (13, 138, 286, 8, 135), (12, 387, 287, 8, 139), (13, 142, 288, 8, 143), (12, 405, 289, 8, 147), (12, 402, 290, 8, 151), (13, 147, 291, 8, 155), (13, 151, 292, 8, 159), (12, 414, 293, 8, 163), (12, 411, 294, 8, 167), (13, 155, 295, 8, 171), (12, 417, 296, 8, 175), (13, 162, 297, 8, 178), (13, 166, 298, 8, 184), (13, 170, 299, 8, 188), (13, 174, 300, 8, 192), (13, 178, 301, 8, 196)]
def jm_ml : List (Nat × Nat × Nat × Nat × Nat) := jm_ml0 ++ jm_ml1 ++ jm_ml2 ++ jm_ml3
def jm_ne : List (Nat × Nat × Nat × Nat × Nat) := [(11, 9, 1, 1, 32), (4, 11, 3, 1, 55), (11, 34, 3, 1, 108), (11, 41, 5, 1, 111)]
def jm_oi : List (Nat × Nat × Nat × Nat) := [(11, 1, 1, 27), (8, 3, 1, 35), (4, 3, 1, 52), (3, 3, 1, 58), (9, 3, 1, 96), (10, 3, 1, 114), (7, 3, 1, 141), (6, 3, 1, 161), (0, 3, 1, 193), (5, 3, 1, 225), (1, 3, 2, 19), (2, 3, 2, 69), (12, 3, 6, 93)]
def jm_ac : List (Nat × Nat × Nat × Nat) := [(3, 34, 3, 91), (10, 35, 3, 133)]
def jm_mws : List (Nat × Nat × Nat × Nat × Nat × Nat × Nat) := [(0, 1, 25, 0, 0, 1, 1), (0, 1, 33, 0, 0, 1, 2), (0, 1, 50, 0, 0, 1, 3), (0, 1, 56, 0, 0, 1, 4), (0, 1, 94, 0, 0, 1, 5), (0, 1, 112, 0, 0, 1, 6), (0, 1, 139, 0, 0, 1, 7), (0, 1, 159, 0, 0, 1, 8), (0, 1, 191, 0, 0, 1, 9), (0, 1, 223, 0, 0, 1, 10), (0, 2, 17, 0, 0, 1, 11), (0, 2, 67, 0, 0, 1, 12), (0, 2, 140, 2, 141, 1, 1), (1, 2, 144, 0, 0, 1, 2), (0, 2, 147, 2, 148, 1, 2), (0, 2, 151, 2, 152, 1, 2), (0, 2, 155, 2, 156, 1, 2), (0, 2, 159, 2, 160, 1, 1), (0, 2, 163, 2, 164, 1, 2), (0, 2, 167, 2, 168, 1, 1), (0, 2, 171, 2, 172, 1, 3), (0, 2, 175, 2, 176, 1, 2), (0, 2, 179, 2, 180, 1, 4), (0, 2, 184, 0, 0, 1, 3), (0, 2, 187, 2, 188, 1, 2), (0, 2, 192, 0, 1, 1, 3), (0, 2, 195, 2, 196, 1, 4), (0, 2, 199, 2, 200, 1, 4), (0, 2, 203, 2, 204, 1, 2), (0, 2, 208, 0, 2, 1, 3), (1, 2, 211, 0, 0, 1, 3), (0, 2, 215, 0, 3, 1, 3), (0, 2, 218, 2, 219, 1, 2), (1, 2, 223, 0, 0, 1, 2), (0, 2, 233, 2, 234, 1, 2), (0, 2, 237, 2, 238, 1, 4), (0, 3, 1, 3, 2, 1, 2), (0, 3, 5, 3, 6, 1, 4), (0, 3, 10, 3, 11, 1, 2), (0, 3, 15, 3, 16, 1, 5), (0, 3, 21, 0, 4, 1, 5), (0, 3, 27, 0, 5, 1, 5), (0, 3, 31, 0, 6, 1, 5), (0, 3, 35, 0, 7, 1, 5), (0, 3, 39, 0, 8, 1, 5), (0, 3, 43, 0, 9, 1, 5), (0, 3, 47, 0, 10, 1, 5), (1, 3, 50, 0, 0, 1, 6), (0, 3, 55, 0, 11, 1, 5), (0, 3, 60, 0, 12, 1, 5), (1, 3, 63, 0, 0, 1, 5), (0, 3, 67, 0, 13, 1, 5), (0, 3, 71, 0, 14, 1, 5), (0, 3, 75, 0, 15, 1, 5), (0, 3, 80, 3, 81, 1, 1), (0, 3, 84, 3, 85, 1, 3), (0, 3, 88, 3, 89, 1, 4), (0, 3, 95, 3, 96, 1, 7), (0, 3, 99, 3, 100, 1, 4), (0, 3, 103, 3, 104, 1, 4), (0, 3, 107, 3, 108, 1, 8), (0, 3, 111, 3, 112, 1, 11), (0, 3, 118, 3, 119, 1, 6), (0, 3, 122, 3, 123, 1, 5), (0, 3, 126, 3, 127, 1, 5), (0, 3, 130, 3, 131, 1, 6), (0, 3, 135, 3, 136, 1, 1), (0, 3, 139, 3, 140, 1, 4), (0, 3, 143, 3, 144, 1, 4), (0, 3, 148, 3, 149, 1, 7), (0, 3, 152, 3, 153, 1, 7), (0, 3, 157, 3, 158, 1, 4), (0, 3, 161, 3, 162, 1, 7), (0, 3, 165, 3, 166, 1, 1), (0, 3, 169, 3, 170, 1, 7), (0, 3, 173, 3, 174, 1, 8), (0, 3, 178, 0, 16, 1, 8), (0, 3, 184, 3, 185, 1, 7), (0, 3, 188, 3, 189, 1, 8), (0, 3, 192, 3, 193, 1, 1), (0, 3, 196, 3, 197, 1, 7), (0, 3, 200, 3, 201, 1, 1), (0, 3, 204, 3, 205, 1, 6), (0, 3, 208, 3, 209, 1, 1), (0, 3, 212, 3, 213, 1, 8), (0, 3, 217, 0, 17, 1, 8), (0, 3, 221, 3, 222, 1, 1), (0, 3, 226, 3, 227, 1, 1), (0, 3, 230, 3, 231, 1, 7), (0, 3, 234, 3, 235, 1, 1), (0, 3, 238, 3, 239, 1, 4), (0, 4, 2, 4, 3, 1, 7), (0, 4, 7, 4, 8, 1, 4), (0, 4, 11, 4, 12, 1, 7), (0, 4, 15, 4, 16, 1, 7), (0, 4, 19, 4, 20, 1, 7), (1, 4, 23, 0, 0, 1, 20), (0, 4, 29, 4, 30, 1, 1), (0, 4, 36, 4, 37, 1, 1), (1, 4, 40, 0, 0, 1, 1), (0, 4, 43, 4, 44, 1, 1), (0, 4, 47, 4, 48, 1, 7), (1, 4, 51, 0, 0, 1, 21), (0, 4, 57, 4, 58, 1, 1), (0, 4, 62, 4, 63, 1, 7), (0, 4, 66, 4, 67, 1, 1), (0, 4, 70, 4, 71, 1, 7), (0, 4, 75, 0, 18, 1, 7), (0, 4, 78, 4, 79, 1, 4), (0, 4, 83, 4, 84, 1, 4), (0, 4, 87, 4, 88, 1, 1), (0, 4, 91, 4, 92, 1, 9), (0, 4, 98, 4, 99, 1, 9), (0, 4, 102, 4, 103, 1, 4), (0, 4, 112, 4, 113, 1, 6), (0, 4, 118, 0, 19, 1, 6), (0, 4, 122, 0, 20, 1, 6), (0, 4, 126, 0, 21, 1, 6), (1, 4, 129, 0, 0, 1, 6), (1, 4, 132, 0, 0, 1, 6), (0, 4, 143, 4, 144, 1, 4), (0, 4, 148, 4, 149, 1, 1), (0, 4, 152, 4, 153, 1, 9), (0, 4, 156, 4, 157, 1, 1), (0, 4, 160, 4, 161, 1, 9), (0, 4, 165, 4, 166, 1, 1), (0, 4, 169, 4, 170, 1, 9), (0, 4, 173, 4, 174, 1, 9), (0, 4, 180, 0, 22, 1, 9), (0, 4, 185, 4, 186, 1, 9), (0, 4, 189, 4, 190, 1, 1), (0, 4, 193, 4, 194, 1, 9), (0, 4, 198, 0, 23, 1, 9), (0, 4, 202, 0, 24, 1, 9), (0, 4, 206, 0, 25, 1, 9), (0, 4, 209, 4, 210, 1, 9), (0, 4, 213, 4, 214, 1, 9), (0, 4, 217, 4, 218, 1, 1), (0, 4, 221, 4, 222, 1, 10), (0, 4, 228, 0, 26, 1, 10), (0, 4, 234, 0, 27, 1, 10), (0, 4, 238, 4, 239, 1, 9), (0, 5, 2, 5, 3, 1, 10), (0, 5, 6, 5, 7, 1, 10), (0, 5, 10, 5, 11, 1, 1), (0, 5, 14, 5, 15, 1, 10), (0, 5, 19, 0, 28, 1, 10), (0, 5, 25, 0, 29, 1, 10), (0, 5, 31, 5, 32, 1, 1), (0, 5, 35, 5, 36, 1, 11), (0, 5, 39, 5, 40, 1, 11), (0, 5, 45, 5, 46, 1, 1), (0, 5, 49, 5, 50, 1, 11), (0, 5, 54, 0, 30, 1, 11), (0, 5, 58, 5, 59, 1, 1), (0, 5, 62, 5, 63, 1, 11), (0, 5, 67, 5, 68, 1, 11), (0, 5, 72, 0, 31, 1, 11), (0, 5, 77, 0, 32, 1, 11), (0, 5, 81, 0, 33, 1, 11), (0, 5, 85, 0, 34, 1, 11), (0, 5, 89, 0, 35, 1, 11), (0, 5, 93, 0, 36, 1, 11), (0, 5, 97, 0, 37, 1, 11), (0, 5, 101, 0, 38, 1, 11), (0, 5, 105, 0, 39, 1, 11), (0, 5, 110, 0, 40, 1, 11), (0, 5, 114, 0, 41, 1, 11), (0, 5, 118, 0, 42, 1, 11), (0, 5, 122, 0, 43, 1, 11), (0, 5, 125, 5, 126, 1, 11), (0, 5, 129, 5, 130, 1, 1), (0, 5, 133, 5, 134, 1, 7), (0, 5, 137, 5, 138, 1, 1), (0, 5, 141, 5, 142, 1, 12), (0, 5, 146, 0, 44, 1, 12), (0, 5, 151, 0, 45, 1, 12), (0, 5, 156, 0, 46, 1, 12), (0, 5, 161, 0, 47, 1, 12), (0, 5, 165, 0, 48, 1, 12), (0, 5, 169, 0, 49, 1, 12), (0, 5, 174, 0, 50, 1, 12), (0, 5, 177, 5, 178, 1, 1), (1, 5, 181, 0, 0, 1, 1), (1, 5, 185, 0, 0, 1, 1), (0, 5, 188, 5, 189, 1, 1), (0, 5, 192, 5, 193, 1, 7), (0, 5, 197, 0, 51, 1, 7), (0, 5, 202, 0, 52, 1, 7), (0, 5, 207, 5, 208, 1, 1), (0, 5, 211, 5, 212, 1, 8), (0, 5, 216, 5, 217, 1, 1), (0, 5, 220, 5, 221, 1, 8), (0, 5, 224, 5, 225, 1, 8), (0, 5, 229, 5, 230, 1, 1), (0, 5, 233, 5, 234, 1, 8), (0, 5, 239, 6, 0, 1, 1), (0, 6, 4, 6, 5, 1, 6), (0, 6, 10, 6, 11, 1, 6), (0, 6, 14, 6, 15, 1, 11), (0, 6, 91, 0, 0, 1, 13), (0, 7, 31, 7, 32, 1, 13), (0, 7, 35, 7, 36, 1, 13), (1, 7, 39, 0, 0, 1, 13), (0, 7, 42, 7, 43, 1, 13), (0, 7, 46, 7, 47, 1, 13), (0, 7, 51, 0, 54, 1, 13), (0, 7, 55, 0, 55, 1, 13), (0, 7, 59, 0, 56, 1, 13), (0, 7, 63, 0, 57, 1, 13), (1, 7, 66, 0, 0, 1, 13), (0, 7, 70, 0, 58, 1, 13), (1, 7, 73, 0, 0, 1, 13), (0, 7, 77, 0, 59, 1, 13), (1, 7, 80, 0, 0, 1, 13), (0, 7, 84, 0, 60, 1, 13), (0, 7, 88, 0, 61, 1, 13), (0, 7, 92, 0, 62, 1, 13), (0, 7, 96, 0, 63, 1, 13), (0, 7, 100, 0, 64, 1, 13), (0, 7, 104, 0, 65, 1, 13), (0, 7, 108, 0, 66, 1, 13), (0, 7, 112, 0, 67, 1, 13), (0, 7, 116, 0, 68, 1, 13), (0, 7, 120, 0, 69, 1, 13), (0, 7, 124, 0, 70, 1, 13), (0, 7, 128, 0, 71, 1, 13), (0, 7, 132, 0, 72, 1, 13), (0, 7, 136, 0, 73, 1, 13), (1, 7, 139, 0, 0, 1, 13), (0, 7, 143, 0, 74, 1, 13), (1, 7, 146, 0, 0, 1, 13), (0, 7, 150, 0, 75, 1, 13), (0, 7, 154, 0, 76, 1, 13), (0, 7, 158, 0, 77, 1, 13), (0, 7, 161, 7, 162, 1, 13), (0, 7, 166, 0, 78, 1, 13), (0, 7, 169, 7, 170, 1, 13), (0, 7, 174, 0, 79, 1, 13), (0, 7, 177, 7, 178, 1, 13), (0, 7, 182, 0, 80, 1, 13), (0, 7, 186, 0, 81, 1, 13), (0, 7, 190, 0, 82, 1, 13), (0, 7, 193, 7, 194, 1, 13), (0, 7, 198, 0, 83, 1, 13), (0, 7, 202, 0, 84, 1, 13), (1, 7, 205, 0, 0, 1, 13), (0, 7, 209, 0, 85, 1, 13), (0, 7, 213, 0, 86, 1, 13), (0, 7, 216, 7, 217, 1, 13), (0, 7, 220, 7, 221, 1, 13), (0, 7, 224, 7, 225, 1, 13), (0, 7, 228, 7, 229, 1, 13), (0, 7, 232, 7, 233, 1, 13), (0, 7, 237, 0, 87, 1, 13), (0, 8, 0, 8, 1, 1, 13), (0, 8, 5, 0, 88, 1, 13), (0, 8, 9, 0, 89, 1, 13), (0, 8, 12, 8, 13, 1, 13), (0, 8, 17, 0, 90, 1, 13), (0, 8, 21, 8, 22, 1, 13), (0, 8, 25, 8, 26, 1, 13), (0, 8, 29, 8, 30, 1, 13), (0, 8, 33, 8, 34, 1, 13), (0, 8, 37, 8, 38, 1, 13), (0, 8, 42, 0, 91, 1, 13), (0, 8, 46, 0, 92, 1, 13), (0, 8, 50, 0, 93, 1, 13), (0, 8, 54, 8, 55, 1, 13), (0, 8, 59, 0, 94, 1, 13), (0, 8, 62, 8, 63, 1, 13), (0, 8, 67, 0, 95, 1, 13), (0, 8, 71, 0, 96, 1, 13), (0, 8, 75, 0, 97, 1, 13), (1, 8, 78, 0, 0, 1, 13), (1, 8, 81, 0, 0, 1, 13), (0, 8, 93, 8, 94, 1, 13), (0, 8, 98, 0, 98, 1, 13), (0, 8, 103, 8, 104, 1, 13), (0, 8, 108, 8, 109, 1, 13), (0, 8, 113, 0, 99, 1, 13), (0, 8, 117, 0, 100, 1, 13), (0, 8, 121, 0, 101, 1, 13), (0, 8, 124, 8, 125, 1, 13), (0, 8, 129, 0, 102, 1, 13), (0, 8, 132, 8, 133, 1, 13), (0, 8, 136, 8, 137, 1, 13), (0, 8, 141, 0, 103, 1, 13), (0, 8, 144, 8, 145, 1, 13), (0, 8, 149, 0, 104, 1, 13), (0, 8, 153, 0, 105, 1, 13), (0, 8, 156, 8, 157, 1, 13), (0, 8, 160, 8, 161, 1, 13), (0, 8, 165, 0, 106, 1, 13), (0, 8, 169, 0, 107, 1, 13), (0, 8, 172, 8, 173, 1, 13), (1, 8, 176, 0, 0, 1, 13), (0, 8, 179, 8, 180, 1, 13), (0, 8, 185, 8, 186, 1, 13), (0, 8, 189, 8, 190, 1, 13), (0, 8, 193, 8, 194, 1, 13), (0, 8, 197, 8, 198, 1, 13), (1, 0, 0, 0, 0, 0, 0)]
def jm_mw (y : Nat) : Nat × Nat × Nat × Nat × Nat × Nat × Nat := ja_nth jm_mws y (2, 0, 0, 0, 0, 0, 0)
def jm_chs : List (List Cond) := [k2_sels lw_privs, tables_1_1, tables_1_2, tables_1_3, tables_1_4, tables_1_5, tables_1_6, tables_1_7, tables_1_8]
def jm_ch (k : Nat) : List Cond := ja_nth jm_chs k []
/-- the words that stay when classes are linked -/
def jm_W : List Cond := lw_tbl.filter goodWord
theorem jm_chT : ∀ t ∈ jm_chs, ∀ w ∈ t, w ∈ lw_tbl := by
  unfold jm_chs lw_tbl tables_1
  refine List.forall_mem_cons.mpr ⟨fun w h => List.mem_append_left _ h, ?_⟩
  refine List.forall_mem_cons.mpr ⟨fun w h => List.mem_append_right _ (List.mem_append_left _ (h)), ?_⟩
  refine List.forall_mem_cons.mpr ⟨fun w h => List.mem_append_right _ (List.mem_append_right _ (List.mem_append_left _ (h))), ?_⟩
  refine List.forall_mem_cons.mpr ⟨fun w h => List.mem_append_right _ (List.mem_append_right _ (List.mem_append_right _ (List.mem_append_left _ (h)))), ?_⟩
  refine List.forall_mem_cons.mpr ⟨fun w h => List.mem_append_right _ (List.mem_append_right _ (List.mem_append_right _ (List.mem_append_right _ (List.mem_append_left _ (h))))), ?_⟩
  refine List.forall_mem_cons.mpr ⟨fun w h => List.mem_append_right _ (List.mem_append_right _ (List.mem_append_right _ (List.mem_append_right _ (List.mem_append_right _ (List.mem_append_left _ (h)))))), ?_⟩
  refine List.forall_mem_cons.mpr ⟨fun w h => List.mem_append_right _ (List.mem_append_right _ (List.mem_append_right _ (List.mem_append_right _ (List.mem_append_right _ (List.mem_append_right _ (List.mem_append_left _ (h))))))), ?_⟩
  refine List.forall_mem_cons.mpr ⟨fun w h => List.mem_append_right _ (List.mem_append_right _ (List.mem_append_right _ (List.mem_append_right _ (List.mem_append_right _ (List.mem_append_right _ (List.mem_append_right _ (List.mem_append_left _ (h)))))))), ?_⟩
  refine List.forall_mem_cons.mpr ⟨fun w h => List.mem_append_right _ (List.mem_append_right _ (List.mem_append_right _ (List.mem_append_right _ (List.mem_append_right _ (List.mem_append_right _ (List.mem_append_right _ (List.mem_append_right _ (h)))))))), ?_⟩
  exact fun _ h => absurd h List.not_mem_nil
theorem jm_chI (k : Nat) {w : Cond} (h : w ∈ jm_ch k) : w ∈ lw_tbl := ja_nthP (P := fun t => ∀ w ∈ t, w ∈ lw_tbl) (fun _ h => absurd h List.not_mem_nil) jm_chs jm_chT k w h
theorem jm_in {k i : Nat} {w : Cond} (h : (jm_ch k)[i]? = some w) (hg : goodWord w = true) : w ∈ jm_W := List.mem_filter.mpr ⟨jm_chI k (List.mem_of_getElem? h), hg⟩
set_option maxRecDepth 100000 in
theorem jf_ok : ∀ q ∈ jm_fl, (jm_ch q.2.2.2.2.1)[q.2.2.2.2.2]? = some (Cond.fieldLink (jm_cn q.1) q.2.1 (jm_T q.2.2.1 q.2.2.2.1).1 (jm_T q.2.2.1 q.2.2.2.1).2.1 (jm_T q.2.2.1 q.2.2.2.1).2.2.1) := by decide +kernel
set_option maxRecDepth 100000 in
theorem js_ok : ∀ q ∈ jm_sl, (jm_ch q.2.2.2.1)[q.2.2.2.2]? = some (Cond.fieldLink (jm_cn q.1) q.2.1 "HuntTable$HuntReader" (if q.2.2.1 = 173 then "LEAST" else "MOST") "[I") := by decide +kernel
set_option maxRecDepth 100000 in
theorem jc_ok : ∀ q ∈ jm_cls, (jm_ch q.2.2.2.1)[q.2.2.2.2.1]? = some (Cond.classLink (jm_cn q.1) q.2.1 (jm_cn q.2.2.1)) ∧ (jm_ch q.2.2.2.2.2.1)[q.2.2.2.2.2.2.1]? = some (Cond.instantiable (jm_cn q.2.2.1) (jm_N q.2.2.1)) ∧ (jm_ch q.2.2.2.2.2.2.2.1)[q.2.2.2.2.2.2.2.2]? = some (Cond.initialized (jm_cn q.2.2.1)) := by decide +kernel
set_option maxRecDepth 100000 in
theorem jc2_ok : ∀ q ∈ jm_c2, (jm_ch q.2.2.1)[q.2.2.2]? = some (Cond.classLink (jm_cn q.1) q.2.1 "[[I") := by decide +kernel
set_option maxRecDepth 100000 in
theorem jk_ok : ∀ q ∈ jm_ks, (jm_ch q.2.2.2.1)[q.2.2.2.2]? = some (Cond.constant (jm_cn q.1) q.2.1 (Int32.ofInt q.2.2.1)) := by decide +kernel
set_option maxRecDepth 100000 in
theorem jkl_ok : ∀ q ∈ jm_kl, (jm_ch q.2.2.2.1)[q.2.2.2.2]? = some (Cond.constantLong (jm_cn q.1) q.2.1 (Int64.ofInt q.2.2.1)) := by decide +kernel
set_option maxRecDepth 100000 in
theorem jl_ok0 : ∀ q ∈ jm_ml0, (jm_ch q.2.2.2.1)[q.2.2.2.2]? = some (Cond.methodLink (jm_cn q.1) q.2.1 (jm_nm q.2.2.1)) := by decide +kernel
set_option maxRecDepth 100000 in
theorem jl_ok1 : ∀ q ∈ jm_ml1, (jm_ch q.2.2.2.1)[q.2.2.2.2]? = some (Cond.methodLink (jm_cn q.1) q.2.1 (jm_nm q.2.2.1)) := by decide +kernel
set_option maxRecDepth 100000 in
theorem jl_ok2 : ∀ q ∈ jm_ml2, (jm_ch q.2.2.2.1)[q.2.2.2.2]? = some (Cond.methodLink (jm_cn q.1) q.2.1 (jm_nm q.2.2.1)) := by decide +kernel
set_option maxRecDepth 100000 in
theorem jl_ok3 : ∀ q ∈ jm_ml3, (jm_ch q.2.2.2.1)[q.2.2.2.2]? = some (Cond.methodLink (jm_cn q.1) q.2.1 (jm_nm q.2.2.1)) := by decide +kernel
set_option maxRecDepth 100000 in
theorem jn_ok : ∀ q ∈ jm_ne, (jm_ch q.2.2.2.1)[q.2.2.2.2]? = some (Cond.methodLinkNest (jm_cn q.1) q.2.1 (jm_nm q.2.2.1) "HuntTable") := by decide +kernel
set_option maxRecDepth 100000 in
theorem jo_ok : ∀ q ∈ jm_oi, (jm_ch q.2.2.1)[q.2.2.2]? = some (Cond.methodLink (jm_cn q.1) q.2.1 Lib.objectInit) := by decide +kernel
set_option maxRecDepth 100000 in
theorem ja_ok2 : ∀ q ∈ jm_ac, (jm_ch q.2.2.1)[q.2.2.2]? = some (Cond.methodLink (jm_cn q.1) q.2.1 arraycopyName) := by decide +kernel
set_option maxRecDepth 100000 in
theorem jw_code0 : ∀ x ∈ jm_all0, Cond.code x.1 x.2.1 x.2.2.1 x.2.2.2 ∈ lw_tbl := by
  unfold jm_all0
  refine List.forall_mem_cons.mpr ⟨jm_chI 1 (List.mem_of_getElem? (l := tables_1_1) (i := 26) rfl), ?_⟩
  refine List.forall_mem_cons.mpr ⟨jm_chI 1 (List.mem_of_getElem? (l := tables_1_1) (i := 34) rfl), ?_⟩
  refine List.forall_mem_cons.mpr ⟨jm_chI 1 (List.mem_of_getElem? (l := tables_1_1) (i := 51) rfl), ?_⟩
  refine List.forall_mem_cons.mpr ⟨jm_chI 1 (List.mem_of_getElem? (l := tables_1_1) (i := 57) rfl), ?_⟩
  refine List.forall_mem_cons.mpr ⟨jm_chI 1 (List.mem_of_getElem? (l := tables_1_1) (i := 95) rfl), ?_⟩
  refine List.forall_mem_cons.mpr ⟨jm_chI 1 (List.mem_of_getElem? (l := tables_1_1) (i := 113) rfl), ?_⟩
  refine List.forall_mem_cons.mpr ⟨jm_chI 1 (List.mem_of_getElem? (l := tables_1_1) (i := 140) rfl), ?_⟩
  refine List.forall_mem_cons.mpr ⟨jm_chI 1 (List.mem_of_getElem? (l := tables_1_1) (i := 160) rfl), ?_⟩
  refine List.forall_mem_cons.mpr ⟨jm_chI 1 (List.mem_of_getElem? (l := tables_1_1) (i := 192) rfl), ?_⟩
  refine List.forall_mem_cons.mpr ⟨jm_chI 1 (List.mem_of_getElem? (l := tables_1_1) (i := 224) rfl), ?_⟩
  refine List.forall_mem_cons.mpr ⟨jm_chI 2 (List.mem_of_getElem? (l := tables_1_2) (i := 18) rfl), ?_⟩
  refine List.forall_mem_cons.mpr ⟨jm_chI 2 (List.mem_of_getElem? (l := tables_1_2) (i := 68) rfl), ?_⟩
  refine List.forall_mem_cons.mpr ⟨jm_chI 2 (List.mem_of_getElem? (l := tables_1_2) (i := 142) rfl), ?_⟩
  refine List.forall_mem_cons.mpr ⟨jm_chI 2 (List.mem_of_getElem? (l := tables_1_2) (i := 145) rfl), ?_⟩
  refine List.forall_mem_cons.mpr ⟨jm_chI 2 (List.mem_of_getElem? (l := tables_1_2) (i := 149) rfl), ?_⟩
  refine List.forall_mem_cons.mpr ⟨jm_chI 2 (List.mem_of_getElem? (l := tables_1_2) (i := 153) rfl), ?_⟩
  refine List.forall_mem_cons.mpr ⟨jm_chI 2 (List.mem_of_getElem? (l := tables_1_2) (i := 157) rfl), ?_⟩
  refine List.forall_mem_cons.mpr ⟨jm_chI 2 (List.mem_of_getElem? (l := tables_1_2) (i := 161) rfl), ?_⟩
  refine List.forall_mem_cons.mpr ⟨jm_chI 2 (List.mem_of_getElem? (l := tables_1_2) (i := 165) rfl), ?_⟩
  refine List.forall_mem_cons.mpr ⟨jm_chI 2 (List.mem_of_getElem? (l := tables_1_2) (i := 169) rfl), ?_⟩
  refine List.forall_mem_cons.mpr ⟨jm_chI 2 (List.mem_of_getElem? (l := tables_1_2) (i := 173) rfl), ?_⟩
  refine List.forall_mem_cons.mpr ⟨jm_chI 2 (List.mem_of_getElem? (l := tables_1_2) (i := 177) rfl), ?_⟩
  refine List.forall_mem_cons.mpr ⟨jm_chI 2 (List.mem_of_getElem? (l := tables_1_2) (i := 181) rfl), ?_⟩
  refine List.forall_mem_cons.mpr ⟨jm_chI 2 (List.mem_of_getElem? (l := tables_1_2) (i := 185) rfl), ?_⟩
  refine List.forall_mem_cons.mpr ⟨jm_chI 2 (List.mem_of_getElem? (l := tables_1_2) (i := 189) rfl), ?_⟩
  refine List.forall_mem_cons.mpr ⟨jm_chI 2 (List.mem_of_getElem? (l := tables_1_2) (i := 193) rfl), ?_⟩
  refine List.forall_mem_cons.mpr ⟨jm_chI 2 (List.mem_of_getElem? (l := tables_1_2) (i := 197) rfl), ?_⟩
  refine List.forall_mem_cons.mpr ⟨jm_chI 2 (List.mem_of_getElem? (l := tables_1_2) (i := 201) rfl), ?_⟩
  refine List.forall_mem_cons.mpr ⟨jm_chI 2 (List.mem_of_getElem? (l := tables_1_2) (i := 205) rfl), ?_⟩
  refine List.forall_mem_cons.mpr ⟨jm_chI 2 (List.mem_of_getElem? (l := tables_1_2) (i := 209) rfl), ?_⟩
  refine List.forall_mem_cons.mpr ⟨jm_chI 2 (List.mem_of_getElem? (l := tables_1_2) (i := 212) rfl), ?_⟩
  refine List.forall_mem_cons.mpr ⟨jm_chI 2 (List.mem_of_getElem? (l := tables_1_2) (i := 216) rfl), ?_⟩
  refine List.forall_mem_cons.mpr ⟨jm_chI 2 (List.mem_of_getElem? (l := tables_1_2) (i := 220) rfl), ?_⟩
  refine List.forall_mem_cons.mpr ⟨jm_chI 2 (List.mem_of_getElem? (l := tables_1_2) (i := 224) rfl), ?_⟩
  refine List.forall_mem_cons.mpr ⟨jm_chI 2 (List.mem_of_getElem? (l := tables_1_2) (i := 235) rfl), ?_⟩
  refine List.forall_mem_cons.mpr ⟨jm_chI 2 (List.mem_of_getElem? (l := tables_1_2) (i := 239) rfl), ?_⟩
  refine List.forall_mem_cons.mpr ⟨jm_chI 3 (List.mem_of_getElem? (l := tables_1_3) (i := 3) rfl), ?_⟩
  refine List.forall_mem_cons.mpr ⟨jm_chI 3 (List.mem_of_getElem? (l := tables_1_3) (i := 7) rfl), ?_⟩
  refine List.forall_mem_cons.mpr ⟨jm_chI 3 (List.mem_of_getElem? (l := tables_1_3) (i := 12) rfl), ?_⟩
  refine List.forall_mem_cons.mpr ⟨jm_chI 3 (List.mem_of_getElem? (l := tables_1_3) (i := 17) rfl), ?_⟩
  exact fun _ h => absurd h List.not_mem_nil
set_option maxRecDepth 100000 in
theorem jw_code1 : ∀ x ∈ jm_all1, Cond.code x.1 x.2.1 x.2.2.1 x.2.2.2 ∈ lw_tbl := by
  unfold jm_all1
  refine List.forall_mem_cons.mpr ⟨jm_chI 3 (List.mem_of_getElem? (l := tables_1_3) (i := 22) rfl), ?_⟩
  refine List.forall_mem_cons.mpr ⟨jm_chI 3 (List.mem_of_getElem? (l := tables_1_3) (i := 28) rfl), ?_⟩
  refine List.forall_mem_cons.mpr ⟨jm_chI 3 (List.mem_of_getElem? (l := tables_1_3) (i := 32) rfl), ?_⟩
  refine List.forall_mem_cons.mpr ⟨jm_chI 3 (List.mem_of_getElem? (l := tables_1_3) (i := 36) rfl), ?_⟩
  refine List.forall_mem_cons.mpr ⟨jm_chI 3 (List.mem_of_getElem? (l := tables_1_3) (i := 40) rfl), ?_⟩
  refine List.forall_mem_cons.mpr ⟨jm_chI 3 (List.mem_of_getElem? (l := tables_1_3) (i := 44) rfl), ?_⟩
  refine List.forall_mem_cons.mpr ⟨jm_chI 3 (List.mem_of_getElem? (l := tables_1_3) (i := 48) rfl), ?_⟩
  refine List.forall_mem_cons.mpr ⟨jm_chI 3 (List.mem_of_getElem? (l := tables_1_3) (i := 51) rfl), ?_⟩
  refine List.forall_mem_cons.mpr ⟨jm_chI 3 (List.mem_of_getElem? (l := tables_1_3) (i := 56) rfl), ?_⟩
  refine List.forall_mem_cons.mpr ⟨jm_chI 3 (List.mem_of_getElem? (l := tables_1_3) (i := 61) rfl), ?_⟩
  refine List.forall_mem_cons.mpr ⟨jm_chI 3 (List.mem_of_getElem? (l := tables_1_3) (i := 64) rfl), ?_⟩
  refine List.forall_mem_cons.mpr ⟨jm_chI 3 (List.mem_of_getElem? (l := tables_1_3) (i := 68) rfl), ?_⟩
  refine List.forall_mem_cons.mpr ⟨jm_chI 3 (List.mem_of_getElem? (l := tables_1_3) (i := 72) rfl), ?_⟩
  refine List.forall_mem_cons.mpr ⟨jm_chI 3 (List.mem_of_getElem? (l := tables_1_3) (i := 76) rfl), ?_⟩
  refine List.forall_mem_cons.mpr ⟨jm_chI 3 (List.mem_of_getElem? (l := tables_1_3) (i := 82) rfl), ?_⟩
  refine List.forall_mem_cons.mpr ⟨jm_chI 3 (List.mem_of_getElem? (l := tables_1_3) (i := 86) rfl), ?_⟩
  refine List.forall_mem_cons.mpr ⟨jm_chI 3 (List.mem_of_getElem? (l := tables_1_3) (i := 90) rfl), ?_⟩
  refine List.forall_mem_cons.mpr ⟨jm_chI 3 (List.mem_of_getElem? (l := tables_1_3) (i := 97) rfl), ?_⟩
  refine List.forall_mem_cons.mpr ⟨jm_chI 3 (List.mem_of_getElem? (l := tables_1_3) (i := 101) rfl), ?_⟩
  refine List.forall_mem_cons.mpr ⟨jm_chI 3 (List.mem_of_getElem? (l := tables_1_3) (i := 105) rfl), ?_⟩
  refine List.forall_mem_cons.mpr ⟨jm_chI 3 (List.mem_of_getElem? (l := tables_1_3) (i := 109) rfl), ?_⟩
  refine List.forall_mem_cons.mpr ⟨jm_chI 3 (List.mem_of_getElem? (l := tables_1_3) (i := 113) rfl), ?_⟩
  refine List.forall_mem_cons.mpr ⟨jm_chI 3 (List.mem_of_getElem? (l := tables_1_3) (i := 120) rfl), ?_⟩
  refine List.forall_mem_cons.mpr ⟨jm_chI 3 (List.mem_of_getElem? (l := tables_1_3) (i := 124) rfl), ?_⟩
  refine List.forall_mem_cons.mpr ⟨jm_chI 3 (List.mem_of_getElem? (l := tables_1_3) (i := 128) rfl), ?_⟩
  refine List.forall_mem_cons.mpr ⟨jm_chI 3 (List.mem_of_getElem? (l := tables_1_3) (i := 132) rfl), ?_⟩
  refine List.forall_mem_cons.mpr ⟨jm_chI 3 (List.mem_of_getElem? (l := tables_1_3) (i := 137) rfl), ?_⟩
  refine List.forall_mem_cons.mpr ⟨jm_chI 3 (List.mem_of_getElem? (l := tables_1_3) (i := 141) rfl), ?_⟩
  refine List.forall_mem_cons.mpr ⟨jm_chI 3 (List.mem_of_getElem? (l := tables_1_3) (i := 145) rfl), ?_⟩
  refine List.forall_mem_cons.mpr ⟨jm_chI 3 (List.mem_of_getElem? (l := tables_1_3) (i := 150) rfl), ?_⟩
  refine List.forall_mem_cons.mpr ⟨jm_chI 3 (List.mem_of_getElem? (l := tables_1_3) (i := 154) rfl), ?_⟩
  refine List.forall_mem_cons.mpr ⟨jm_chI 3 (List.mem_of_getElem? (l := tables_1_3) (i := 159) rfl), ?_⟩
  refine List.forall_mem_cons.mpr ⟨jm_chI 3 (List.mem_of_getElem? (l := tables_1_3) (i := 163) rfl), ?_⟩
  refine List.forall_mem_cons.mpr ⟨jm_chI 3 (List.mem_of_getElem? (l := tables_1_3) (i := 167) rfl), ?_⟩
  refine List.forall_mem_cons.mpr ⟨jm_chI 3 (List.mem_of_getElem? (l := tables_1_3) (i := 171) rfl), ?_⟩
  refine List.forall_mem_cons.mpr ⟨jm_chI 3 (List.mem_of_getElem? (l := tables_1_3) (i := 175) rfl), ?_⟩
  refine List.forall_mem_cons.mpr ⟨jm_chI 3 (List.mem_of_getElem? (l := tables_1_3) (i := 179) rfl), ?_⟩
  refine List.forall_mem_cons.mpr ⟨jm_chI 3 (List.mem_of_getElem? (l := tables_1_3) (i := 186) rfl), ?_⟩
  refine List.forall_mem_cons.mpr ⟨jm_chI 3 (List.mem_of_getElem? (l := tables_1_3) (i := 190) rfl), ?_⟩
  refine List.forall_mem_cons.mpr ⟨jm_chI 3 (List.mem_of_getElem? (l := tables_1_3) (i := 194) rfl), ?_⟩
  exact fun _ h => absurd h List.not_mem_nil
set_option maxRecDepth 100000 in
theorem jw_code2 : ∀ x ∈ jm_all2, Cond.code x.1 x.2.1 x.2.2.1 x.2.2.2 ∈ lw_tbl := by
  unfold jm_all2
  refine List.forall_mem_cons.mpr ⟨jm_chI 3 (List.mem_of_getElem? (l := tables_1_3) (i := 198) rfl), ?_⟩
  refine List.forall_mem_cons.mpr ⟨jm_chI 3 (List.mem_of_getElem? (l := tables_1_3) (i := 202) rfl), ?_⟩
  refine List.forall_mem_cons.mpr ⟨jm_chI 3 (List.mem_of_getElem? (l := tables_1_3) (i := 206) rfl), ?_⟩
  refine List.forall_mem_cons.mpr ⟨jm_chI 3 (List.mem_of_getElem? (l := tables_1_3) (i := 210) rfl), ?_⟩
  refine List.forall_mem_cons.mpr ⟨jm_chI 3 (List.mem_of_getElem? (l := tables_1_3) (i := 214) rfl), ?_⟩
  refine List.forall_mem_cons.mpr ⟨jm_chI 3 (List.mem_of_getElem? (l := tables_1_3) (i := 218) rfl), ?_⟩
  refine List.forall_mem_cons.mpr ⟨jm_chI 3 (List.mem_of_getElem? (l := tables_1_3) (i := 223) rfl), ?_⟩
  refine List.forall_mem_cons.mpr ⟨jm_chI 3 (List.mem_of_getElem? (l := tables_1_3) (i := 228) rfl), ?_⟩
  refine List.forall_mem_cons.mpr ⟨jm_chI 3 (List.mem_of_getElem? (l := tables_1_3) (i := 232) rfl), ?_⟩
  refine List.forall_mem_cons.mpr ⟨jm_chI 3 (List.mem_of_getElem? (l := tables_1_3) (i := 236) rfl), ?_⟩
  refine List.forall_mem_cons.mpr ⟨jm_chI 4 (List.mem_of_getElem? (l := tables_1_4) (i := 0) rfl), ?_⟩
  refine List.forall_mem_cons.mpr ⟨jm_chI 4 (List.mem_of_getElem? (l := tables_1_4) (i := 4) rfl), ?_⟩
  refine List.forall_mem_cons.mpr ⟨jm_chI 4 (List.mem_of_getElem? (l := tables_1_4) (i := 9) rfl), ?_⟩
  refine List.forall_mem_cons.mpr ⟨jm_chI 4 (List.mem_of_getElem? (l := tables_1_4) (i := 13) rfl), ?_⟩
  refine List.forall_mem_cons.mpr ⟨jm_chI 4 (List.mem_of_getElem? (l := tables_1_4) (i := 17) rfl), ?_⟩
  refine List.forall_mem_cons.mpr ⟨jm_chI 4 (List.mem_of_getElem? (l := tables_1_4) (i := 21) rfl), ?_⟩
  refine List.forall_mem_cons.mpr ⟨jm_chI 4 (List.mem_of_getElem? (l := tables_1_4) (i := 24) rfl), ?_⟩
  refine List.forall_mem_cons.mpr ⟨jm_chI 4 (List.mem_of_getElem? (l := tables_1_4) (i := 31) rfl), ?_⟩
  refine List.forall_mem_cons.mpr ⟨jm_chI 4 (List.mem_of_getElem? (l := tables_1_4) (i := 38) rfl), ?_⟩
  refine List.forall_mem_cons.mpr ⟨jm_chI 4 (List.mem_of_getElem? (l := tables_1_4) (i := 41) rfl), ?_⟩
  refine List.forall_mem_cons.mpr ⟨jm_chI 4 (List.mem_of_getElem? (l := tables_1_4) (i := 45) rfl), ?_⟩
  refine List.forall_mem_cons.mpr ⟨jm_chI 4 (List.mem_of_getElem? (l := tables_1_4) (i := 49) rfl), ?_⟩
  refine List.forall_mem_cons.mpr ⟨jm_chI 4 (List.mem_of_getElem? (l := tables_1_4) (i := 52) rfl), ?_⟩
  refine List.forall_mem_cons.mpr ⟨jm_chI 4 (List.mem_of_getElem? (l := tables_1_4) (i := 59) rfl), ?_⟩
  refine List.forall_mem_cons.mpr ⟨jm_chI 4 (List.mem_of_getElem? (l := tables_1_4) (i := 64) rfl), ?_⟩
  refine List.forall_mem_cons.mpr ⟨jm_chI 4 (List.mem_of_getElem? (l := tables_1_4) (i := 68) rfl), ?_⟩
  refine List.forall_mem_cons.mpr ⟨jm_chI 4 (List.mem_of_getElem? (l := tables_1_4) (i := 72) rfl), ?_⟩
  refine List.forall_mem_cons.mpr ⟨jm_chI 4 (List.mem_of_getElem? (l := tables_1_4) (i := 76) rfl), ?_⟩
  refine List.forall_mem_cons.mpr ⟨jm_chI 4 (List.mem_of_getElem? (l := tables_1_4) (i := 80) rfl), ?_⟩
  refine List.forall_mem_cons.mpr ⟨jm_chI 4 (List.mem_of_getElem? (l := tables_1_4) (i := 85) rfl), ?_⟩
  refine List.forall_mem_cons.mpr ⟨jm_chI 4 (List.mem_of_getElem? (l := tables_1_4) (i := 89) rfl), ?_⟩
  refine List.forall_mem_cons.mpr ⟨jm_chI 4 (List.mem_of_getElem? (l := tables_1_4) (i := 93) rfl), ?_⟩
  refine List.forall_mem_cons.mpr ⟨jm_chI 4 (List.mem_of_getElem? (l := tables_1_4) (i := 100) rfl), ?_⟩
  refine List.forall_mem_cons.mpr ⟨jm_chI 4 (List.mem_of_getElem? (l := tables_1_4) (i := 104) rfl), ?_⟩
  refine List.forall_mem_cons.mpr ⟨jm_chI 4 (List.mem_of_getElem? (l := tables_1_4) (i := 114) rfl), ?_⟩
  refine List.forall_mem_cons.mpr ⟨jm_chI 4 (List.mem_of_getElem? (l := tables_1_4) (i := 119) rfl), ?_⟩
  refine List.forall_mem_cons.mpr ⟨jm_chI 4 (List.mem_of_getElem? (l := tables_1_4) (i := 123) rfl), ?_⟩
  refine List.forall_mem_cons.mpr ⟨jm_chI 4 (List.mem_of_getElem? (l := tables_1_4) (i := 127) rfl), ?_⟩
  refine List.forall_mem_cons.mpr ⟨jm_chI 4 (List.mem_of_getElem? (l := tables_1_4) (i := 130) rfl), ?_⟩
  refine List.forall_mem_cons.mpr ⟨jm_chI 4 (List.mem_of_getElem? (l := tables_1_4) (i := 133) rfl), ?_⟩
  exact fun _ h => absurd h List.not_mem_nil
set_option maxRecDepth 100000 in
theorem jw_code3 : ∀ x ∈ jm_all3, Cond.code x.1 x.2.1 x.2.2.1 x.2.2.2 ∈ lw_tbl := by
  unfold jm_all3
  refine List.forall_mem_cons.mpr ⟨jm_chI 4 (List.mem_of_getElem? (l := tables_1_4) (i := 145) rfl), ?_⟩
  refine List.forall_mem_cons.mpr ⟨jm_chI 4 (List.mem_of_getElem? (l := tables_1_4) (i := 150) rfl), ?_⟩
  refine List.forall_mem_cons.mpr ⟨jm_chI 4 (List.mem_of_getElem? (l := tables_1_4) (i := 154) rfl), ?_⟩
  refine List.forall_mem_cons.mpr ⟨jm_chI 4 (List.mem_of_getElem? (l := tables_1_4) (i := 158) rfl), ?_⟩
  refine List.forall_mem_cons.mpr ⟨jm_chI 4 (List.mem_of_getElem? (l := tables_1_4) (i := 162) rfl), ?_⟩
  refine List.forall_mem_cons.mpr ⟨jm_chI 4 (List.mem_of_getElem? (l := tables_1_4) (i := 167) rfl), ?_⟩
  refine List.forall_mem_cons.mpr ⟨jm_chI 4 (List.mem_of_getElem? (l := tables_1_4) (i := 171) rfl), ?_⟩
  refine List.forall_mem_cons.mpr ⟨jm_chI 4 (List.mem_of_getElem? (l := tables_1_4) (i := 175) rfl), ?_⟩
  refine List.forall_mem_cons.mpr ⟨jm_chI 4 (List.mem_of_getElem? (l := tables_1_4) (i := 181) rfl), ?_⟩
  refine List.forall_mem_cons.mpr ⟨jm_chI 4 (List.mem_of_getElem? (l := tables_1_4) (i := 187) rfl), ?_⟩
  refine List.forall_mem_cons.mpr ⟨jm_chI 4 (List.mem_of_getElem? (l := tables_1_4) (i := 191) rfl), ?_⟩
  refine List.forall_mem_cons.mpr ⟨jm_chI 4 (List.mem_of_getElem? (l := tables_1_4) (i := 195) rfl), ?_⟩
  refine List.forall_mem_cons.mpr ⟨jm_chI 4 (List.mem_of_getElem? (l := tables_1_4) (i := 199) rfl), ?_⟩
  refine List.forall_mem_cons.mpr ⟨jm_chI 4 (List.mem_of_getElem? (l := tables_1_4) (i := 203) rfl), ?_⟩
  refine List.forall_mem_cons.mpr ⟨jm_chI 4 (List.mem_of_getElem? (l := tables_1_4) (i := 207) rfl), ?_⟩
  refine List.forall_mem_cons.mpr ⟨jm_chI 4 (List.mem_of_getElem? (l := tables_1_4) (i := 211) rfl), ?_⟩
  refine List.forall_mem_cons.mpr ⟨jm_chI 4 (List.mem_of_getElem? (l := tables_1_4) (i := 215) rfl), ?_⟩
  refine List.forall_mem_cons.mpr ⟨jm_chI 4 (List.mem_of_getElem? (l := tables_1_4) (i := 219) rfl), ?_⟩
  refine List.forall_mem_cons.mpr ⟨jm_chI 4 (List.mem_of_getElem? (l := tables_1_4) (i := 223) rfl), ?_⟩
  refine List.forall_mem_cons.mpr ⟨jm_chI 4 (List.mem_of_getElem? (l := tables_1_4) (i := 229) rfl), ?_⟩
  refine List.forall_mem_cons.mpr ⟨jm_chI 4 (List.mem_of_getElem? (l := tables_1_4) (i := 235) rfl), ?_⟩
  refine List.forall_mem_cons.mpr ⟨jm_chI 5 (List.mem_of_getElem? (l := tables_1_5) (i := 0) rfl), ?_⟩
  refine List.forall_mem_cons.mpr ⟨jm_chI 5 (List.mem_of_getElem? (l := tables_1_5) (i := 4) rfl), ?_⟩
  refine List.forall_mem_cons.mpr ⟨jm_chI 5 (List.mem_of_getElem? (l := tables_1_5) (i := 8) rfl), ?_⟩
  refine List.forall_mem_cons.mpr ⟨jm_chI 5 (List.mem_of_getElem? (l := tables_1_5) (i := 12) rfl), ?_⟩
  refine List.forall_mem_cons.mpr ⟨jm_chI 5 (List.mem_of_getElem? (l := tables_1_5) (i := 16) rfl), ?_⟩
  refine List.forall_mem_cons.mpr ⟨jm_chI 5 (List.mem_of_getElem? (l := tables_1_5) (i := 20) rfl), ?_⟩
  refine List.forall_mem_cons.mpr ⟨jm_chI 5 (List.mem_of_getElem? (l := tables_1_5) (i := 26) rfl), ?_⟩
  refine List.forall_mem_cons.mpr ⟨jm_chI 5 (List.mem_of_getElem? (l := tables_1_5) (i := 33) rfl), ?_⟩
  refine List.forall_mem_cons.mpr ⟨jm_chI 5 (List.mem_of_getElem? (l := tables_1_5) (i := 37) rfl), ?_⟩
  refine List.forall_mem_cons.mpr ⟨jm_chI 5 (List.mem_of_getElem? (l := tables_1_5) (i := 41) rfl), ?_⟩
  refine List.forall_mem_cons.mpr ⟨jm_chI 5 (List.mem_of_getElem? (l := tables_1_5) (i := 47) rfl), ?_⟩
  refine List.forall_mem_cons.mpr ⟨jm_chI 5 (List.mem_of_getElem? (l := tables_1_5) (i := 51) rfl), ?_⟩
  refine List.forall_mem_cons.mpr ⟨jm_chI 5 (List.mem_of_getElem? (l := tables_1_5) (i := 55) rfl), ?_⟩
  refine List.forall_mem_cons.mpr ⟨jm_chI 5 (List.mem_of_getElem? (l := tables_1_5) (i := 60) rfl), ?_⟩
  refine List.forall_mem_cons.mpr ⟨jm_chI 5 (List.mem_of_getElem? (l := tables_1_5) (i := 64) rfl), ?_⟩
  refine List.forall_mem_cons.mpr ⟨jm_chI 5 (List.mem_of_getElem? (l := tables_1_5) (i := 69) rfl), ?_⟩
  refine List.forall_mem_cons.mpr ⟨jm_chI 5 (List.mem_of_getElem? (l := tables_1_5) (i := 73) rfl), ?_⟩
  refine List.forall_mem_cons.mpr ⟨jm_chI 5 (List.mem_of_getElem? (l := tables_1_5) (i := 78) rfl), ?_⟩
  refine List.forall_mem_cons.mpr ⟨jm_chI 5 (List.mem_of_getElem? (l := tables_1_5) (i := 82) rfl), ?_⟩
  exact fun _ h => absurd h List.not_mem_nil
set_option maxRecDepth 100000 in
theorem jw_code4 : ∀ x ∈ jm_all4, Cond.code x.1 x.2.1 x.2.2.1 x.2.2.2 ∈ lw_tbl := by
  unfold jm_all4
  refine List.forall_mem_cons.mpr ⟨jm_chI 5 (List.mem_of_getElem? (l := tables_1_5) (i := 86) rfl), ?_⟩
  refine List.forall_mem_cons.mpr ⟨jm_chI 5 (List.mem_of_getElem? (l := tables_1_5) (i := 90) rfl), ?_⟩
  refine List.forall_mem_cons.mpr ⟨jm_chI 5 (List.mem_of_getElem? (l := tables_1_5) (i := 94) rfl), ?_⟩
  refine List.forall_mem_cons.mpr ⟨jm_chI 5 (List.mem_of_getElem? (l := tables_1_5) (i := 98) rfl), ?_⟩
  refine List.forall_mem_cons.mpr ⟨jm_chI 5 (List.mem_of_getElem? (l := tables_1_5) (i := 102) rfl), ?_⟩
  refine List.forall_mem_cons.mpr ⟨jm_chI 5 (List.mem_of_getElem? (l := tables_1_5) (i := 106) rfl), ?_⟩
  refine List.forall_mem_cons.mpr ⟨jm_chI 5 (List.mem_of_getElem? (l := tables_1_5) (i := 111) rfl), ?_⟩
  refine List.forall_mem_cons.mpr ⟨jm_chI 5 (List.mem_of_getElem? (l := tables_1_5) (i := 115) rfl), ?_⟩
  refine List.forall_mem_cons.mpr ⟨jm_chI 5 (List.mem_of_getElem? (l := tables_1_5) (i := 119) rfl), ?_⟩
  refine List.forall_mem_cons.mpr ⟨jm_chI 5 (List.mem_of_getElem? (l := tables_1_5) (i := 123) rfl), ?_⟩
  refine List.forall_mem_cons.mpr ⟨jm_chI 5 (List.mem_of_getElem? (l := tables_1_5) (i := 127) rfl), ?_⟩
  refine List.forall_mem_cons.mpr ⟨jm_chI 5 (List.mem_of_getElem? (l := tables_1_5) (i := 131) rfl), ?_⟩
  refine List.forall_mem_cons.mpr ⟨jm_chI 5 (List.mem_of_getElem? (l := tables_1_5) (i := 135) rfl), ?_⟩
  refine List.forall_mem_cons.mpr ⟨jm_chI 5 (List.mem_of_getElem? (l := tables_1_5) (i := 139) rfl), ?_⟩
  refine List.forall_mem_cons.mpr ⟨jm_chI 5 (List.mem_of_getElem? (l := tables_1_5) (i := 143) rfl), ?_⟩
  refine List.forall_mem_cons.mpr ⟨jm_chI 5 (List.mem_of_getElem? (l := tables_1_5) (i := 147) rfl), ?_⟩
  refine List.forall_mem_cons.mpr ⟨jm_chI 5 (List.mem_of_getElem? (l := tables_1_5) (i := 152) rfl), ?_⟩
  refine List.forall_mem_cons.mpr ⟨jm_chI 5 (List.mem_of_getElem? (l := tables_1_5) (i := 157) rfl), ?_⟩
  refine List.forall_mem_cons.mpr ⟨jm_chI 5 (List.mem_of_getElem? (l := tables_1_5) (i := 162) rfl), ?_⟩
  refine List.forall_mem_cons.mpr ⟨jm_chI 5 (List.mem_of_getElem? (l := tables_1_5) (i := 166) rfl), ?_⟩
  refine List.forall_mem_cons.mpr ⟨jm_chI 5 (List.mem_of_getElem? (l := tables_1_5) (i := 170) rfl), ?_⟩
  refine List.forall_mem_cons.mpr ⟨jm_chI 5 (List.mem_of_getElem? (l := tables_1_5) (i := 175) rfl), ?_⟩
  refine List.forall_mem_cons.mpr ⟨jm_chI 5 (List.mem_of_getElem? (l := tables_1_5) (i := 179) rfl), ?_⟩
  refine List.forall_mem_cons.mpr ⟨jm_chI 5 (List.mem_of_getElem? (l := tables_1_5) (i := 182) rfl), ?_⟩
  refine List.forall_mem_cons.mpr ⟨jm_chI 5 (List.mem_of_getElem? (l := tables_1_5) (i := 186) rfl), ?_⟩
  refine List.forall_mem_cons.mpr ⟨jm_chI 5 (List.mem_of_getElem? (l := tables_1_5) (i := 190) rfl), ?_⟩
  refine List.forall_mem_cons.mpr ⟨jm_chI 5 (List.mem_of_getElem? (l := tables_1_5) (i := 194) rfl), ?_⟩
  refine List.forall_mem_cons.mpr ⟨jm_chI 5 (List.mem_of_getElem? (l := tables_1_5) (i := 198) rfl), ?_⟩
  refine List.forall_mem_cons.mpr ⟨jm_chI 5 (List.mem_of_getElem? (l := tables_1_5) (i := 203) rfl), ?_⟩
  refine List.forall_mem_cons.mpr ⟨jm_chI 5 (List.mem_of_getElem? (l := tables_1_5) (i := 209) rfl), ?_⟩
  refine List.forall_mem_cons.mpr ⟨jm_chI 5 (List.mem_of_getElem? (l := tables_1_5) (i := 213) rfl), ?_⟩
  refine List.forall_mem_cons.mpr ⟨jm_chI 5 (List.mem_of_getElem? (l := tables_1_5) (i := 218) rfl), ?_⟩
  refine List.forall_mem_cons.mpr ⟨jm_chI 5 (List.mem_of_getElem? (l := tables_1_5) (i := 222) rfl), ?_⟩
  refine List.forall_mem_cons.mpr ⟨jm_chI 5 (List.mem_of_getElem? (l := tables_1_5) (i := 226) rfl), ?_⟩
  refine List.forall_mem_cons.mpr ⟨jm_chI 5 (List.mem_of_getElem? (l := tables_1_5) (i := 231) rfl), ?_⟩
  refine List.forall_mem_cons.mpr ⟨jm_chI 5 (List.mem_of_getElem? (l := tables_1_5) (i := 235) rfl), ?_⟩
  refine List.forall_mem_cons.mpr ⟨jm_chI 6 (List.mem_of_getElem? (l := tables_1_6) (i := 1) rfl), ?_⟩
  refine List.forall_mem_cons.mpr ⟨jm_chI 6 (List.mem_of_getElem? (l := tables_1_6) (i := 6) rfl), ?_⟩
  refine List.forall_mem_cons.mpr ⟨jm_chI 6 (List.mem_of_getElem? (l := tables_1_6) (i := 12) rfl), ?_⟩
  refine List.forall_mem_cons.mpr ⟨jm_chI 6 (List.mem_of_getElem? (l := tables_1_6) (i := 16) rfl), ?_⟩
  exact fun _ h => absurd h List.not_mem_nil
set_option maxRecDepth 100000 in
theorem jw_code5 : ∀ x ∈ jm_all5, Cond.code x.1 x.2.1 x.2.2.1 x.2.2.2 ∈ lw_tbl := by
  unfold jm_all5
  refine List.forall_mem_cons.mpr ⟨jm_chI 6 (List.mem_of_getElem? (l := tables_1_6) (i := 92) rfl), ?_⟩
  refine List.forall_mem_cons.mpr ⟨jm_chI 7 (List.mem_of_getElem? (l := tables_1_7) (i := 33) rfl), ?_⟩
  refine List.forall_mem_cons.mpr ⟨jm_chI 7 (List.mem_of_getElem? (l := tables_1_7) (i := 37) rfl), ?_⟩
  refine List.forall_mem_cons.mpr ⟨jm_chI 7 (List.mem_of_getElem? (l := tables_1_7) (i := 40) rfl), ?_⟩
  refine List.forall_mem_cons.mpr ⟨jm_chI 7 (List.mem_of_getElem? (l := tables_1_7) (i := 44) rfl), ?_⟩
  refine List.forall_mem_cons.mpr ⟨jm_chI 7 (List.mem_of_getElem? (l := tables_1_7) (i := 48) rfl), ?_⟩
  refine List.forall_mem_cons.mpr ⟨jm_chI 7 (List.mem_of_getElem? (l := tables_1_7) (i := 52) rfl), ?_⟩
  refine List.forall_mem_cons.mpr ⟨jm_chI 7 (List.mem_of_getElem? (l := tables_1_7) (i := 56) rfl), ?_⟩
  refine List.forall_mem_cons.mpr ⟨jm_chI 7 (List.mem_of_getElem? (l := tables_1_7) (i := 60) rfl), ?_⟩
  refine List.forall_mem_cons.mpr ⟨jm_chI 7 (List.mem_of_getElem? (l := tables_1_7) (i := 64) rfl), ?_⟩
  refine List.forall_mem_cons.mpr ⟨jm_chI 7 (List.mem_of_getElem? (l := tables_1_7) (i := 67) rfl), ?_⟩
  refine List.forall_mem_cons.mpr ⟨jm_chI 7 (List.mem_of_getElem? (l := tables_1_7) (i := 71) rfl), ?_⟩
  refine List.forall_mem_cons.mpr ⟨jm_chI 7 (List.mem_of_getElem? (l := tables_1_7) (i := 74) rfl), ?_⟩
  refine List.forall_mem_cons.mpr ⟨jm_chI 7 (List.mem_of_getElem? (l := tables_1_7) (i := 78) rfl), ?_⟩
  refine List.forall_mem_cons.mpr ⟨jm_chI 7 (List.mem_of_getElem? (l := tables_1_7) (i := 81) rfl), ?_⟩
  refine List.forall_mem_cons.mpr ⟨jm_chI 7 (List.mem_of_getElem? (l := tables_1_7) (i := 85) rfl), ?_⟩
  refine List.forall_mem_cons.mpr ⟨jm_chI 7 (List.mem_of_getElem? (l := tables_1_7) (i := 89) rfl), ?_⟩
  refine List.forall_mem_cons.mpr ⟨jm_chI 7 (List.mem_of_getElem? (l := tables_1_7) (i := 93) rfl), ?_⟩
  refine List.forall_mem_cons.mpr ⟨jm_chI 7 (List.mem_of_getElem? (l := tables_1_7) (i := 97) rfl), ?_⟩
  refine List.forall_mem_cons.mpr ⟨jm_chI 7 (List.mem_of_getElem? (l := tables_1_7) (i := 101) rfl), ?_⟩
  refine List.forall_mem_cons.mpr ⟨jm_chI 7 (List.mem_of_getElem? (l := tables_1_7) (i := 105) rfl), ?_⟩
  refine List.forall_mem_cons.mpr ⟨jm_chI 7 (List.mem_of_getElem? (l := tables_1_7) (i := 109) rfl), ?_⟩
  refine List.forall_mem_cons.mpr ⟨jm_chI 7 (List.mem_of_getElem? (l := tables_1_7) (i := 113) rfl), ?_⟩
  refine List.forall_mem_cons.mpr ⟨jm_chI 7 (List.mem_of_getElem? (l := tables_1_7) (i := 117) rfl), ?_⟩
  refine List.forall_mem_cons.mpr ⟨jm_chI 7 (List.mem_of_getElem? (l := tables_1_7) (i := 121) rfl), ?_⟩
  refine List.forall_mem_cons.mpr ⟨jm_chI 7 (List.mem_of_getElem? (l := tables_1_7) (i := 125) rfl), ?_⟩
  refine List.forall_mem_cons.mpr ⟨jm_chI 7 (List.mem_of_getElem? (l := tables_1_7) (i := 129) rfl), ?_⟩
  refine List.forall_mem_cons.mpr ⟨jm_chI 7 (List.mem_of_getElem? (l := tables_1_7) (i := 133) rfl), ?_⟩
  refine List.forall_mem_cons.mpr ⟨jm_chI 7 (List.mem_of_getElem? (l := tables_1_7) (i := 137) rfl), ?_⟩
  refine List.forall_mem_cons.mpr ⟨jm_chI 7 (List.mem_of_getElem? (l := tables_1_7) (i := 140) rfl), ?_⟩
  refine List.forall_mem_cons.mpr ⟨jm_chI 7 (List.mem_of_getElem? (l := tables_1_7) (i := 144) rfl), ?_⟩
  refine List.forall_mem_cons.mpr ⟨jm_chI 7 (List.mem_of_getElem? (l := tables_1_7) (i := 147) rfl), ?_⟩
  refine List.forall_mem_cons.mpr ⟨jm_chI 7 (List.mem_of_getElem? (l := tables_1_7) (i := 151) rfl), ?_⟩
  refine List.forall_mem_cons.mpr ⟨jm_chI 7 (List.mem_of_getElem? (l := tables_1_7) (i := 155) rfl), ?_⟩
  refine List.forall_mem_cons.mpr ⟨jm_chI 7 (List.mem_of_getElem? (l := tables_1_7) (i := 159) rfl), ?_⟩
  refine List.forall_mem_cons.mpr ⟨jm_chI 7 (List.mem_of_getElem? (l := tables_1_7) (i := 163) rfl), ?_⟩
  refine List.forall_mem_cons.mpr ⟨jm_chI 7 (List.mem_of_getElem? (l := tables_1_7) (i := 167) rfl), ?_⟩
  refine List.forall_mem_cons.mpr ⟨jm_chI 7 (List.mem_of_getElem? (l := tables_1_7) (i := 171) rfl), ?_⟩
  refine List.forall_mem_cons.mpr ⟨jm_chI 7 (List.mem_of_getElem? (l := tables_1_7) (i := 175) rfl), ?_⟩
  refine List.forall_mem_cons.mpr ⟨jm_chI 7 (List.mem_of_getElem? (l := tables_1_7) (i := 179) rfl), ?_⟩
  exact fun _ h => absurd h List.not_mem_nil
set_option maxRecDepth 100000 in
theorem jw_code6 : ∀ x ∈ jm_all6, Cond.code x.1 x.2.1 x.2.2.1 x.2.2.2 ∈ lw_tbl := by
  unfold jm_all6
  refine List.forall_mem_cons.mpr ⟨jm_chI 7 (List.mem_of_getElem? (l := tables_1_7) (i := 183) rfl), ?_⟩
  refine List.forall_mem_cons.mpr ⟨jm_chI 7 (List.mem_of_getElem? (l := tables_1_7) (i := 187) rfl), ?_⟩
  refine List.forall_mem_cons.mpr ⟨jm_chI 7 (List.mem_of_getElem? (l := tables_1_7) (i := 191) rfl), ?_⟩
  refine List.forall_mem_cons.mpr ⟨jm_chI 7 (List.mem_of_getElem? (l := tables_1_7) (i := 195) rfl), ?_⟩
  refine List.forall_mem_cons.mpr ⟨jm_chI 7 (List.mem_of_getElem? (l := tables_1_7) (i := 199) rfl), ?_⟩
  refine List.forall_mem_cons.mpr ⟨jm_chI 7 (List.mem_of_getElem? (l := tables_1_7) (i := 203) rfl), ?_⟩
  refine List.forall_mem_cons.mpr ⟨jm_chI 7 (List.mem_of_getElem? (l := tables_1_7) (i := 206) rfl), ?_⟩
  refine List.forall_mem_cons.mpr ⟨jm_chI 7 (List.mem_of_getElem? (l := tables_1_7) (i := 210) rfl), ?_⟩
  refine List.forall_mem_cons.mpr ⟨jm_chI 7 (List.mem_of_getElem? (l := tables_1_7) (i := 214) rfl), ?_⟩
  refine List.forall_mem_cons.mpr ⟨jm_chI 7 (List.mem_of_getElem? (l := tables_1_7) (i := 218) rfl), ?_⟩
  refine List.forall_mem_cons.mpr ⟨jm_chI 7 (List.mem_of_getElem? (l := tables_1_7) (i := 222) rfl), ?_⟩
  refine List.forall_mem_cons.mpr ⟨jm_chI 7 (List.mem_of_getElem? (l := tables_1_7) (i := 226) rfl), ?_⟩
  refine List.forall_mem_cons.mpr ⟨jm_chI 7 (List.mem_of_getElem? (l := tables_1_7) (i := 230) rfl), ?_⟩
  refine List.forall_mem_cons.mpr ⟨jm_chI 7 (List.mem_of_getElem? (l := tables_1_7) (i := 234) rfl), ?_⟩
  refine List.forall_mem_cons.mpr ⟨jm_chI 7 (List.mem_of_getElem? (l := tables_1_7) (i := 238) rfl), ?_⟩
  refine List.forall_mem_cons.mpr ⟨jm_chI 8 (List.mem_of_getElem? (l := tables_1_8) (i := 2) rfl), ?_⟩
  refine List.forall_mem_cons.mpr ⟨jm_chI 8 (List.mem_of_getElem? (l := tables_1_8) (i := 6) rfl), ?_⟩
  refine List.forall_mem_cons.mpr ⟨jm_chI 8 (List.mem_of_getElem? (l := tables_1_8) (i := 10) rfl), ?_⟩
  refine List.forall_mem_cons.mpr ⟨jm_chI 8 (List.mem_of_getElem? (l := tables_1_8) (i := 14) rfl), ?_⟩
  refine List.forall_mem_cons.mpr ⟨jm_chI 8 (List.mem_of_getElem? (l := tables_1_8) (i := 18) rfl), ?_⟩
  refine List.forall_mem_cons.mpr ⟨jm_chI 8 (List.mem_of_getElem? (l := tables_1_8) (i := 23) rfl), ?_⟩
  refine List.forall_mem_cons.mpr ⟨jm_chI 8 (List.mem_of_getElem? (l := tables_1_8) (i := 27) rfl), ?_⟩
  refine List.forall_mem_cons.mpr ⟨jm_chI 8 (List.mem_of_getElem? (l := tables_1_8) (i := 31) rfl), ?_⟩
  refine List.forall_mem_cons.mpr ⟨jm_chI 8 (List.mem_of_getElem? (l := tables_1_8) (i := 35) rfl), ?_⟩
  refine List.forall_mem_cons.mpr ⟨jm_chI 8 (List.mem_of_getElem? (l := tables_1_8) (i := 39) rfl), ?_⟩
  refine List.forall_mem_cons.mpr ⟨jm_chI 8 (List.mem_of_getElem? (l := tables_1_8) (i := 43) rfl), ?_⟩
  refine List.forall_mem_cons.mpr ⟨jm_chI 8 (List.mem_of_getElem? (l := tables_1_8) (i := 47) rfl), ?_⟩
  refine List.forall_mem_cons.mpr ⟨jm_chI 8 (List.mem_of_getElem? (l := tables_1_8) (i := 51) rfl), ?_⟩
  refine List.forall_mem_cons.mpr ⟨jm_chI 8 (List.mem_of_getElem? (l := tables_1_8) (i := 56) rfl), ?_⟩
  refine List.forall_mem_cons.mpr ⟨jm_chI 8 (List.mem_of_getElem? (l := tables_1_8) (i := 60) rfl), ?_⟩
  refine List.forall_mem_cons.mpr ⟨jm_chI 8 (List.mem_of_getElem? (l := tables_1_8) (i := 64) rfl), ?_⟩
  refine List.forall_mem_cons.mpr ⟨jm_chI 8 (List.mem_of_getElem? (l := tables_1_8) (i := 68) rfl), ?_⟩
  refine List.forall_mem_cons.mpr ⟨jm_chI 8 (List.mem_of_getElem? (l := tables_1_8) (i := 72) rfl), ?_⟩
  refine List.forall_mem_cons.mpr ⟨jm_chI 8 (List.mem_of_getElem? (l := tables_1_8) (i := 76) rfl), ?_⟩
  refine List.forall_mem_cons.mpr ⟨jm_chI 8 (List.mem_of_getElem? (l := tables_1_8) (i := 79) rfl), ?_⟩
  refine List.forall_mem_cons.mpr ⟨jm_chI 8 (List.mem_of_getElem? (l := tables_1_8) (i := 82) rfl), ?_⟩
  refine List.forall_mem_cons.mpr ⟨jm_chI 8 (List.mem_of_getElem? (l := tables_1_8) (i := 95) rfl), ?_⟩
  refine List.forall_mem_cons.mpr ⟨jm_chI 8 (List.mem_of_getElem? (l := tables_1_8) (i := 99) rfl), ?_⟩
  refine List.forall_mem_cons.mpr ⟨jm_chI 8 (List.mem_of_getElem? (l := tables_1_8) (i := 105) rfl), ?_⟩
  refine List.forall_mem_cons.mpr ⟨jm_chI 8 (List.mem_of_getElem? (l := tables_1_8) (i := 110) rfl), ?_⟩
  exact fun _ h => absurd h List.not_mem_nil
set_option maxRecDepth 100000 in
theorem jw_code7 : ∀ x ∈ jm_all7, Cond.code x.1 x.2.1 x.2.2.1 x.2.2.2 ∈ lw_tbl := by
  unfold jm_all7
  refine List.forall_mem_cons.mpr ⟨jm_chI 8 (List.mem_of_getElem? (l := tables_1_8) (i := 114) rfl), ?_⟩
  refine List.forall_mem_cons.mpr ⟨jm_chI 8 (List.mem_of_getElem? (l := tables_1_8) (i := 118) rfl), ?_⟩
  refine List.forall_mem_cons.mpr ⟨jm_chI 8 (List.mem_of_getElem? (l := tables_1_8) (i := 122) rfl), ?_⟩
  refine List.forall_mem_cons.mpr ⟨jm_chI 8 (List.mem_of_getElem? (l := tables_1_8) (i := 126) rfl), ?_⟩
  refine List.forall_mem_cons.mpr ⟨jm_chI 8 (List.mem_of_getElem? (l := tables_1_8) (i := 130) rfl), ?_⟩
  refine List.forall_mem_cons.mpr ⟨jm_chI 8 (List.mem_of_getElem? (l := tables_1_8) (i := 134) rfl), ?_⟩
  refine List.forall_mem_cons.mpr ⟨jm_chI 8 (List.mem_of_getElem? (l := tables_1_8) (i := 138) rfl), ?_⟩
  refine List.forall_mem_cons.mpr ⟨jm_chI 8 (List.mem_of_getElem? (l := tables_1_8) (i := 142) rfl), ?_⟩
  refine List.forall_mem_cons.mpr ⟨jm_chI 8 (List.mem_of_getElem? (l := tables_1_8) (i := 146) rfl), ?_⟩
  refine List.forall_mem_cons.mpr ⟨jm_chI 8 (List.mem_of_getElem? (l := tables_1_8) (i := 150) rfl), ?_⟩
  refine List.forall_mem_cons.mpr ⟨jm_chI 8 (List.mem_of_getElem? (l := tables_1_8) (i := 154) rfl), ?_⟩
  refine List.forall_mem_cons.mpr ⟨jm_chI 8 (List.mem_of_getElem? (l := tables_1_8) (i := 158) rfl), ?_⟩
  refine List.forall_mem_cons.mpr ⟨jm_chI 8 (List.mem_of_getElem? (l := tables_1_8) (i := 162) rfl), ?_⟩
  refine List.forall_mem_cons.mpr ⟨jm_chI 8 (List.mem_of_getElem? (l := tables_1_8) (i := 166) rfl), ?_⟩
  refine List.forall_mem_cons.mpr ⟨jm_chI 8 (List.mem_of_getElem? (l := tables_1_8) (i := 170) rfl), ?_⟩
  refine List.forall_mem_cons.mpr ⟨jm_chI 8 (List.mem_of_getElem? (l := tables_1_8) (i := 174) rfl), ?_⟩
  refine List.forall_mem_cons.mpr ⟨jm_chI 8 (List.mem_of_getElem? (l := tables_1_8) (i := 177) rfl), ?_⟩
  refine List.forall_mem_cons.mpr ⟨jm_chI 8 (List.mem_of_getElem? (l := tables_1_8) (i := 181) rfl), ?_⟩
  refine List.forall_mem_cons.mpr ⟨jm_chI 8 (List.mem_of_getElem? (l := tables_1_8) (i := 187) rfl), ?_⟩
  refine List.forall_mem_cons.mpr ⟨jm_chI 8 (List.mem_of_getElem? (l := tables_1_8) (i := 191) rfl), ?_⟩
  refine List.forall_mem_cons.mpr ⟨jm_chI 8 (List.mem_of_getElem? (l := tables_1_8) (i := 195) rfl), ?_⟩
  refine List.forall_mem_cons.mpr ⟨jm_chI 8 (List.mem_of_getElem? (l := tables_1_8) (i := 199) rfl), ?_⟩
  exact fun _ h => absurd h List.not_mem_nil
set_option maxRecDepth 100000 in
theorem jw_maxL : ∀ y, y < 302 → (jm_y y).2.2.1 = ja_maxL y ∧ ja_maxL y ≤ 16 := by decide +kernel
set_option maxRecDepth 100000 in
theorem jw_inst : ∀ y, y < 302 → (jm_ch (jm_mw y).2.1)[(jm_mw y).2.2.1]? = some (if (jm_mw y).1 = 1 then Cond.static (jm_nm y) else Cond.instanceMethod (jm_nm y)) := by decide +kernel
set_option maxRecDepth 100000 in
theorem jw_sel : ∀ y, y < 302 → (jm_mw y).1 = 0 → (jm_nm y).name ≠ "<init>" → (jm_ch (jm_mw y).2.2.2.1)[(jm_mw y).2.2.2.2.1]? = some (Cond.selects (jm_nm y).cls (jm_nm y) (jm_nm y)) := by decide +kernel
set_option maxRecDepth 100000 in
theorem jw_ini : ∀ y, y < 302 → (jm_ch (jm_mw y).2.2.2.2.2.1)[(jm_mw y).2.2.2.2.2.2]? = some (Cond.initialized (jm_nm y).cls) := by decide +kernel
set_option maxRecDepth 100000 in
theorem jw_cls : ∀ y, y < 302 → (jm_nm y).cls = jm_cn (jm_own y) := by decide +kernel
set_option maxRecDepth 100000 in
theorem jw_plain : ∀ k, k < 16 → plainName (jm_cn k) = true ∧ jm_cn k ≠ "java/lang/invoke/MethodHandle" ∧ jm_cn k ≠ "java/lang/invoke/VarHandle" := by decide +kernel
set_option maxRecDepth 100000 in
theorem jw_own : ∀ y, y < 302 → jm_own y < 16 := by decide +kernel
set_option maxRecDepth 100000 in
theorem jw_in0 : ∀ w ∈ u_ws RX0 TX0 8, w ∈ jm_W := by
  intro w h
  have h1 : w ∈ lw_tbl := (show ∀ w ∈ u_ws RX0 TX0 8, w ∈ lw_tbl by decide +kernel) w h
  have h2 : goodWord w = true := (show ∀ w ∈ u_ws RX0 TX0 8, goodWord w = true by decide +kernel) w h
  exact List.mem_filter.mpr ⟨h1, h2⟩
set_option maxRecDepth 100000 in
theorem jw_in1 : ∀ w ∈ u_ws RX1 TX1 14, w ∈ jm_W := by
  intro w h
  have h1 : w ∈ lw_tbl := (show ∀ w ∈ u_ws RX1 TX1 14, w ∈ lw_tbl by decide +kernel) w h
  have h2 : goodWord w = true := (show ∀ w ∈ u_ws RX1 TX1 14, goodWord w = true by decide +kernel) w h
  exact List.mem_filter.mpr ⟨h1, h2⟩
set_option maxRecDepth 100000 in
theorem jw_in2 : ∀ w ∈ u_ws RX2 TX2 11, w ∈ jm_W := by
  intro w h
  have h1 : w ∈ lw_tbl := (show ∀ w ∈ u_ws RX2 TX2 11, w ∈ lw_tbl by decide +kernel) w h
  have h2 : goodWord w = true := (show ∀ w ∈ u_ws RX2 TX2 11, goodWord w = true by decide +kernel) w h
  exact List.mem_filter.mpr ⟨h1, h2⟩
set_option maxRecDepth 100000 in
theorem jw_in3 : ∀ w ∈ u_ws RX3 TX3 7, w ∈ jm_W := by
  intro w h
  have h1 : w ∈ lw_tbl := (show ∀ w ∈ u_ws RX3 TX3 7, w ∈ lw_tbl by decide +kernel) w h
  have h2 : goodWord w = true := (show ∀ w ∈ u_ws RX3 TX3 7, goodWord w = true by decide +kernel) w h
  exact List.mem_filter.mpr ⟨h1, h2⟩
set_option maxRecDepth 100000 in
theorem jw_in4 : ∀ w ∈ u_ws RX4 TX4 3, w ∈ jm_W := by
  intro w h
  have h1 : w ∈ lw_tbl := (show ∀ w ∈ u_ws RX4 TX4 3, w ∈ lw_tbl by decide +kernel) w h
  have h2 : goodWord w = true := (show ∀ w ∈ u_ws RX4 TX4 3, goodWord w = true by decide +kernel) w h
  exact List.mem_filter.mpr ⟨h1, h2⟩
set_option maxRecDepth 100000 in
theorem jw_in5 : ∀ w ∈ u_ws RX5 TX5 9, w ∈ jm_W := by
  intro w h
  have h1 : w ∈ lw_tbl := (show ∀ w ∈ u_ws RX5 TX5 9, w ∈ lw_tbl by decide +kernel) w h
  have h2 : goodWord w = true := (show ∀ w ∈ u_ws RX5 TX5 9, goodWord w = true by decide +kernel) w h
  exact List.mem_filter.mpr ⟨h1, h2⟩
set_option maxRecDepth 100000 in
theorem jw_in6 : ∀ w ∈ u_ws RX6 TX6 8, w ∈ jm_W := by
  intro w h
  have h1 : w ∈ lw_tbl := (show ∀ w ∈ u_ws RX6 TX6 8, w ∈ lw_tbl by decide +kernel) w h
  have h2 : goodWord w = true := (show ∀ w ∈ u_ws RX6 TX6 8, goodWord w = true by decide +kernel) w h
  exact List.mem_filter.mpr ⟨h1, h2⟩
set_option maxRecDepth 100000 in
theorem jw_in7 : ∀ w ∈ u_ws RX7 TX7 4, w ∈ jm_W := by
  intro w h
  have h1 : w ∈ lw_tbl := (show ∀ w ∈ u_ws RX7 TX7 4, w ∈ lw_tbl by decide +kernel) w h
  have h2 : goodWord w = true := (show ∀ w ∈ u_ws RX7 TX7 4, goodWord w = true by decide +kernel) w h
  exact List.mem_filter.mpr ⟨h1, h2⟩
set_option maxRecDepth 100000 in
theorem jw_in8 : ∀ w ∈ u_ws RX8 TX8 3, w ∈ jm_W := by
  intro w h
  have h1 : w ∈ lw_tbl := (show ∀ w ∈ u_ws RX8 TX8 3, w ∈ lw_tbl by decide +kernel) w h
  have h2 : goodWord w = true := (show ∀ w ∈ u_ws RX8 TX8 3, goodWord w = true by decide +kernel) w h
  exact List.mem_filter.mpr ⟨h1, h2⟩
set_option maxRecDepth 100000 in
theorem jw_in9 : ∀ w ∈ u_ws RX9 TX9 3, w ∈ jm_W := by
  intro w h
  have h1 : w ∈ lw_tbl := (show ∀ w ∈ u_ws RX9 TX9 3, w ∈ lw_tbl by decide +kernel) w h
  have h2 : goodWord w = true := (show ∀ w ∈ u_ws RX9 TX9 3, goodWord w = true by decide +kernel) w h
  exact List.mem_filter.mpr ⟨h1, h2⟩
set_option maxRecDepth 100000 in
theorem jw_in10 : ∀ w ∈ u_ws RX10 TX10 6, w ∈ jm_W := by
  intro w h
  have h1 : w ∈ lw_tbl := (show ∀ w ∈ u_ws RX10 TX10 6, w ∈ lw_tbl by decide +kernel) w h
  have h2 : goodWord w = true := (show ∀ w ∈ u_ws RX10 TX10 6, goodWord w = true by decide +kernel) w h
  exact List.mem_filter.mpr ⟨h1, h2⟩
set_option maxRecDepth 100000 in
theorem jw_in11 : ∀ w ∈ u_ws RX11 TX11 11, w ∈ jm_W := by
  intro w h
  have h1 : w ∈ lw_tbl := (show ∀ w ∈ u_ws RX11 TX11 11, w ∈ lw_tbl by decide +kernel) w h
  have h2 : goodWord w = true := (show ∀ w ∈ u_ws RX11 TX11 11, goodWord w = true by decide +kernel) w h
  exact List.mem_filter.mpr ⟨h1, h2⟩
set_option maxRecDepth 100000 in
theorem jw_in12 : ∀ w ∈ u_ws RX12 TX12 58, w ∈ jm_W := by
  intro w h
  have h1 : w ∈ lw_tbl := (show ∀ w ∈ u_ws RX12 TX12 58, w ∈ lw_tbl by decide +kernel) w h
  have h2 : goodWord w = true := (show ∀ w ∈ u_ws RX12 TX12 58, goodWord w = true by decide +kernel) w h
  exact List.mem_filter.mpr ⟨h1, h2⟩
def jm_mt : List (Nat × Nat × Nat × Nat × Nat) := [(8, 33, 1, 2, 225), (6, 62, 1, 3, 182), (3, 51, 2, 4, 106), (10, 41, 1, 4, 115), (10, 59, 0, 4, 139), (0, 81, 0, 4, 182), (0, 76, 2, 4, 183), (7, 88, 1, 5, 199), (12, 340, 2, 8, 52), (12, 208, 4, 8, 85), (12, 214, 3, 8, 88), (12, 362, 0, 8, 100), (12, 364, 1, 8, 101)]
set_option maxRecDepth 100000 in
theorem jo_arrI : Cond.arrayClass .int ∈ jm_W := jm_in (k := 1) (i := 46) (by decide +kernel) rfl
set_option maxRecDepth 100000 in
theorem jo_arrZ : Cond.arrayClass .boolean ∈ jm_W := jm_in (k := 7) (i := 29) (by decide +kernel) rfl
set_option maxRecDepth 100000 in
theorem jo_arrJ : Cond.arrayClass .long ∈ jm_W := jm_in (k := 8) (i := 201) (by decide +kernel) rfl
set_option maxRecDepth 100000 in
theorem jo_over : Cond.arrayOver (.array .int) ∈ lw_tbl := jm_chI 1 (List.mem_of_getElem? (l := tables_1_1) (i := 116) rfl)
set_option maxRecDepth 100000 in
theorem jo_oiI : Cond.instanceMethod Lib.objectInit ∈ jm_W := jm_in (k := 1) (i := 28) (by decide +kernel) rfl
set_option maxRecDepth 100000 in
theorem jo_acN : Cond.native arraycopyName ∈ jm_W := jm_in (k := 3) (i := 93) (by decide +kernel) rfl
set_option maxRecDepth 100000 in
theorem jo_acS : Cond.static arraycopyName ∈ jm_W := jm_in (k := 3) (i := 92) (by decide +kernel) rfl
set_option maxRecDepth 100000 in
theorem jo_acI : Cond.initialized "java/lang/System" ∈ jm_W := jm_in (k := 1) (i := 15) (by decide +kernel) rfl
set_option maxRecDepth 100000 in
theorem jo_oiC : Cond.code Lib.objectInit ⟨#[0xb1]⟩ 1 none ∈ jm_W := jm_in (k := 1) (i := 29) (by decide +kernel) rfl
def jm_mns : List MethodName := [Lib.Math.max.name, Lib.Math.min.name, Lib.Math.abs.name, Lib.MathLoose.max_long.x, Lib.MathLoose.min_long.x]
set_option maxRecDepth 100000 in
theorem jt_ok : ∀ q ∈ jm_mt, (jm_ch q.2.2.2.1)[q.2.2.2.2]? = some (Cond.methodLink (jm_cn q.1) q.2.1 (ja_nth jm_mns q.2.2.1 ⟨"", "", ""⟩)) := by decide +kernel
set_option maxRecDepth 100000 in
theorem jt_s0 : Cond.static Lib.Math.max.name ∈ jm_W := jm_in (k := 4) (i := 140) (by decide +kernel) rfl
set_option maxRecDepth 100000 in
theorem jt_c0 : Cond.code Lib.Math.max.name Lib.Math.max.code 2 (some .int) ∈ jm_W := jm_in (k := 4) (i := 141) (by decide +kernel) rfl
set_option maxRecDepth 100000 in
theorem jt_s1 : Cond.static Lib.Math.min.name ∈ jm_W := jm_in (k := 2) (i := 226) (by decide +kernel) rfl
set_option maxRecDepth 100000 in
theorem jt_c1 : Cond.code Lib.Math.min.name Lib.Math.min.code 2 (some .int) ∈ jm_W := jm_in (k := 2) (i := 227) (by decide +kernel) rfl
set_option maxRecDepth 100000 in
theorem jt_s2 : Cond.static Lib.Math.abs.name ∈ jm_W := jm_in (k := 4) (i := 107) (by decide +kernel) rfl
set_option maxRecDepth 100000 in
theorem jt_c2 : Cond.code Lib.Math.abs.name Lib.Math.abs.code 1 (some .int) ∈ jm_W := jm_in (k := 4) (i := 108) (by decide +kernel) rfl
set_option maxRecDepth 100000 in
theorem jt_s3 : Cond.static Lib.MathLoose.max_long.x ∈ jm_W := jm_in (k := 8) (i := 89) (by decide +kernel) rfl
set_option maxRecDepth 100000 in
theorem jt_c3 : Cond.code Lib.MathLoose.max_long.x Lib.MathLoose.max_long.code 4 (some .long) ∈ jm_W := jm_in (k := 8) (i := 90) (by decide +kernel) rfl
set_option maxRecDepth 100000 in
theorem jt_s4 : Cond.static Lib.MathLoose.min_long.x ∈ jm_W := jm_in (k := 8) (i := 86) (by decide +kernel) rfl
set_option maxRecDepth 100000 in
theorem jt_c4 : Cond.code Lib.MathLoose.min_long.x Lib.MathLoose.min_long.code 4 (some .long) ∈ jm_W := jm_in (k := 8) (i := 87) (by decide +kernel) rfl
set_option maxRecDepth 100000 in
theorem jt_i : Cond.initialized "java/lang/Math" ∈ jm_W := jm_in (k := 1) (i := 14) (by decide +kernel) rfl
