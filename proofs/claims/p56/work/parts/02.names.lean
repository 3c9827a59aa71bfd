def RX0 : String := "MapHall$1"
def TX0 : u_T := fun k => match k with
  | _ => ("", "", "", false)
def tyX0 : Nat → FieldType := fun k => match k with
  | _ => .int
abbrev wsX00 : List Cond := u_ws RX0 TX0 0
theorem nmX0 : ∀ a, a < 0 → ∀ b, b < 0 → a ≠ b → (TX0 a).2.1 ≠ (TX0 b).2.1 := by decide +kernel
theorem tyX0_ok : ∀ k, k < 0 → parseFieldDescriptor (TX0 k).2.2.1 = some (tyX0 k) := by decide +kernel
def RX1 : String := "MapHall$Form"
def TX1 : u_T := fun k => match k with
  | _ => ("", "", "", false)
def tyX1 : Nat → FieldType := fun k => match k with
  | _ => .int
abbrev wsX10 : List Cond := u_ws RX1 TX1 0
theorem nmX1 : ∀ a, a < 0 → ∀ b, b < 0 → a ≠ b → (TX1 a).2.1 ≠ (TX1 b).2.1 := by decide +kernel
theorem tyX1_ok : ∀ k, k < 0 → parseFieldDescriptor (TX1 k).2.2.1 = some (tyX1 k) := by decide +kernel
abbrev cX1_size : ByteArray := prog_3_method_4_code
def yX1_size : MethodName := ⟨RX1, "size", "()I"⟩
abbrev cX1_accepts : ByteArray := prog_3_method_5_code
def yX1_accepts : MethodName := ⟨RX1, "accepts", "(CI)Z"⟩
abbrev cX1_placeOfValue : ByteArray := prog_3_method_6_code
def yX1_placeOfValue : MethodName := ⟨RX1, "placeOfValue", "(I)I"⟩
abbrev cX1_isValue : ByteArray := prog_3_method_7_code
def yX1_isValue : MethodName := ⟨RX1, "isValue", "(C)Z"⟩
def RX2 : String := "MapHall$Groups"
def TX2 : u_T := fun k => match k with
  | _ => ("MapHall$Groups", "leaderOf", "[I", true)
def tyX2 : Nat → FieldType := fun k => match k with
  | _ => .array .int
abbrev wsX20 : List Cond := u_ws RX2 TX2 1
theorem nmX2 : ∀ a, a < 1 → ∀ b, b < 1 → a ≠ b → (TX2 a).2.1 ≠ (TX2 b).2.1 := by decide +kernel
theorem tyX2_ok : ∀ k, k < 1 → parseFieldDescriptor (TX2 k).2.2.1 = some (tyX2 k) := by decide +kernel
abbrev cX2_init : ByteArray := prog_4_method_1_code
def yX2_init : MethodName := ⟨RX2, "<init>", "()V"⟩
abbrev cX2_cellsConnectedTo : ByteArray := prog_4_method_2_code
def yX2_cellsConnectedTo : MethodName := ⟨RX2, "cellsConnectedTo", "(LMapHall$State;I)I"⟩
abbrev cX2_withNeighbours : ByteArray := prog_4_method_3_code
def yX2_withNeighbours : MethodName := ⟨RX2, "withNeighbours", "(LMapHall$State;I)I"⟩
abbrev cX2_contains : ByteArray := prog_4_method_4_code
def yX2_contains : MethodName := ⟨RX2, "contains", "(II)Z"⟩
abbrev cX2_countByFilling : ByteArray := prog_4_method_5_code
def yX2_countByFilling : MethodName := ⟨RX2, "countByFilling", "(LMapHall$State;)I"⟩
def RX3 : String := "MapHall$History"
def TX3 : u_T := fun k => match k with
  | 0 => ("MapHall$History", "slots", "[LMapHall$State;", true)
  | 1 => ("MapHall$History", "next", "I", false)
  | _ => ("MapHall$History", "kept", "I", false)
def tyX3 : Nat → FieldType := fun k => match k with
  | 0 => .array (.object "MapHall$State")
  | 1 => .int
  | _ => .int
abbrev wsX30 : List Cond := u_ws RX3 TX3 3
theorem nmX3 : ∀ a, a < 3 → ∀ b, b < 3 → a ≠ b → (TX3 a).2.1 ≠ (TX3 b).2.1 := by decide +kernel
theorem tyX3_ok : ∀ k, k < 3 → parseFieldDescriptor (TX3 k).2.2.1 = some (tyX3 k) := by decide +kernel
abbrev cX3_init : ByteArray := prog_5_method_1_code
def yX3_init : MethodName := ⟨RX3, "<init>", "()V"⟩
abbrev cX3_prepare : ByteArray := prog_5_method_2_code
def yX3_prepare : MethodName := ⟨RX3, "prepare", "(LMapHall$State;)V"⟩
abbrev cX3_keepPrepared : ByteArray := prog_5_method_3_code
def yX3_keepPrepared : MethodName := ⟨RX3, "keepPrepared", "()V"⟩
abbrev cX3_returnToPrepared : ByteArray := prog_5_method_4_code
def yX3_returnToPrepared : MethodName := ⟨RX3, "returnToPrepared", "(LMapHall$State;)V"⟩
abbrev cX3_stepBack : ByteArray := prog_5_method_5_code
def yX3_stepBack : MethodName := ⟨RX3, "stepBack", "(LMapHall$State;)V"⟩
abbrev cX3_forget : ByteArray := prog_5_method_6_code
def yX3_forget : MethodName := ⟨RX3, "forget", "()V"⟩
def RX4 : String := "MapHall$Output"
def TX4 : u_T := fun k => match k with
  | 0 => ("MapHall$Output", "signs", "[C", true)
  | _ => ("MapHall$Output", "length", "I", false)
def tyX4 : Nat → FieldType := fun k => match k with
  | 0 => .array .char
  | _ => .int
abbrev wsX40 : List Cond := u_ws RX4 TX4 2
theorem nmX4 : ∀ a, a < 2 → ∀ b, b < 2 → a ≠ b → (TX4 a).2.1 ≠ (TX4 b).2.1 := by decide +kernel
theorem tyX4_ok : ∀ k, k < 2 → parseFieldDescriptor (TX4 k).2.2.1 = some (tyX4 k) := by decide +kernel
abbrev cX4_init : ByteArray := prog_6_method_1_code
def yX4_init : MethodName := ⟨RX4, "<init>", "()V"⟩
abbrev cX4_describeTable : ByteArray := prog_6_method_2_code
def yX4_describeTable : MethodName := ⟨RX4, "describeTable", "(LMapHall$State;)V"⟩
abbrev cX4_describeSheet : ByteArray := prog_6_method_3_code
def yX4_describeSheet : MethodName := ⟨RX4, "describeSheet", "(LMapHall$Sheet;)V"⟩
abbrev cX4_writeDigit : ByteArray := prog_6_method_4_code
def yX4_writeDigit : MethodName := ⟨RX4, "writeDigit", "(I)V"⟩
abbrev cX4_writeTimes : ByteArray := prog_6_method_5_code
def yX4_writeTimes : MethodName := ⟨RX4, "writeTimes", "(CI)V"⟩
abbrev cX4_write : ByteArray := prog_6_method_6_code
def yX4_write : MethodName := ⟨RX4, "write", "(C)V"⟩
def RX5 : String := "MapHall$Points"
def TX5 : u_T := fun k => match k with
  | _ => ("", "", "", false)
def tyX5 : Nat → FieldType := fun k => match k with
  | _ => .int
abbrev wsX50 : List Cond := u_ws RX5 TX5 0
theorem nmX5 : ∀ a, a < 0 → ∀ b, b < 0 → a ≠ b → (TX5 a).2.1 ≠ (TX5 b).2.1 := by decide +kernel
theorem tyX5_ok : ∀ k, k < 0 → parseFieldDescriptor (TX5 k).2.2.1 = some (tyX5 k) := by decide +kernel
abbrev cX5_inCell : ByteArray := prog_7_method_2_code
def yX5_inCell : MethodName := ⟨RX5, "inCell", "(LMapHall$State;I)I"⟩
abbrev cX5_sheetBySheet : ByteArray := prog_7_method_3_code
def yX5_sheetBySheet : MethodName := ⟨RX5, "sheetBySheet", "(LMapHall$State;)I"⟩
abbrev cX5_ofCity : ByteArray := prog_7_method_5_code
def yX5_ofCity : MethodName := ⟨RX5, "ofCity", "(LMapHall$State;I)I"⟩
def RX6 : String := "MapHall$Script"
def TX6 : u_T := fun k => match k with
  | 0 => ("MapHall$Script", "text", "[C", true)
  | 1 => ("MapHall$Script", "startOf", "[I", true)
  | 2 => ("MapHall$Script", "formOf", "[I", true)
  | 3 => ("MapHall$Script", "length", "I", false)
  | _ => ("MapHall$Script", "commandTotal", "I", false)
def tyX6 : Nat → FieldType := fun k => match k with
  | 0 => .array .char
  | 1 => .array .int
  | 2 => .array .int
  | 3 => .int
  | _ => .int
abbrev wsX60 : List Cond := u_ws RX6 TX6 5
theorem nmX6 : ∀ a, a < 5 → ∀ b, b < 5 → a ≠ b → (TX6 a).2.1 ≠ (TX6 b).2.1 := by decide +kernel
theorem tyX6_ok : ∀ k, k < 5 → parseFieldDescriptor (TX6 k).2.2.1 = some (tyX6 k) := by decide +kernel
abbrev cX6_init : ByteArray := prog_8_method_1_code
def yX6_init : MethodName := ⟨RX6, "<init>", "()V"⟩
abbrev cX6_isFull : ByteArray := prog_8_method_2_code
def yX6_isFull : MethodName := ⟨RX6, "isFull", "()Z"⟩
abbrev cX6_append : ByteArray := prog_8_method_3_code
def yX6_append : MethodName := ⟨RX6, "append", "(C)V"⟩
abbrev cX6_empty : ByteArray := prog_8_method_4_code
def yX6_empty : MethodName := ⟨RX6, "empty", "()V"⟩
abbrev cX6_read : ByteArray := prog_8_method_5_code
def yX6_read : MethodName := ⟨RX6, "read", "()I"⟩
abbrev cX6_allForms : ByteArray := prog_8_method_6_code
def yX6_allForms : MethodName := ⟨RX6, "allForms", "()I"⟩
abbrev cX6_stillAlive : ByteArray := prog_8_method_7_code
def yX6_stillAlive : MethodName := ⟨RX6, "stillAlive", "(ICI)I"⟩
abbrev cX6_noteCommand : ByteArray := prog_8_method_8_code
def yX6_noteCommand : MethodName := ⟨RX6, "noteCommand", "(III)Z"⟩
abbrev cX6_signIn : ByteArray := prog_8_method_9_code
def yX6_signIn : MethodName := ⟨RX6, "signIn", "(II)C"⟩
abbrev cX6_numberIn : ByteArray := prog_8_method_10_code
def yX6_numberIn : MethodName := ⟨RX6, "numberIn", "(II)I"⟩
def RX7 : String := "MapHall$Sheet"
def TX7 : u_T := fun k => match k with
  | 0 => ("MapHall$Sheet", "borders", "[I", true)
  | 1 => ("MapHall$Sheet", "creases", "[C", true)
  | 2 => ("MapHall$Sheet", "type", "C", false)
  | 3 => ("MapHall$Sheet", "creaseTotal", "I", false)
  | 4 => ("MapHall$Sheet", "worn", "I", false)
  | 5 => ("MapHall$Sheet", "folded", "Z", false)
  | 6 => ("MapHall$Sheet", "cell", "I", false)
  | _ => ("MapHall$Sheet", "turns", "I", false)
def tyX7 : Nat → FieldType := fun k => match k with
  | 0 => .array .int
  | 1 => .array .char
  | 2 => .char
  | 3 => .int
  | 4 => .int
  | 5 => .boolean
  | 6 => .int
  | _ => .int
abbrev wsX70 : List Cond := u_ws RX7 TX7 8
theorem nmX7 : ∀ a, a < 8 → ∀ b, b < 8 → a ≠ b → (TX7 a).2.1 ≠ (TX7 b).2.1 := by decide +kernel
theorem tyX7_ok : ∀ k, k < 8 → parseFieldDescriptor (TX7 k).2.2.1 = some (tyX7 k) := by decide +kernel
abbrev cX7_init : ByteArray := prog_9_method_1_code
def yX7_init : MethodName := ⟨RX7, "<init>", "()V"⟩
abbrev cX7_begin : ByteArray := prog_9_method_2_code
def yX7_begin : MethodName := ⟨RX7, "begin", "(IIIIC)V"⟩
abbrev cX7_copyFrom : ByteArray := prog_9_method_3_code
def yX7_copyFrom : MethodName := ⟨RX7, "copyFrom", "(LMapHall$Sheet;)V"⟩
abbrev cX7_torn : ByteArray := prog_9_method_4_code
def yX7_torn : MethodName := ⟨RX7, "torn", "()Z"⟩
abbrev cX7_onTable : ByteArray := prog_9_method_5_code
def yX7_onTable : MethodName := ⟨RX7, "onTable", "()Z"⟩
abbrev cX7_canBeLaid : ByteArray := prog_9_method_6_code
def yX7_canBeLaid : MethodName := ⟨RX7, "canBeLaid", "()Z"⟩
abbrev cX7_borderWhenTurned : ByteArray := prog_9_method_7_code
def yX7_borderWhenTurned : MethodName := ⟨RX7, "borderWhenTurned", "(II)I"⟩
abbrev cX7_borderAsLaid : ByteArray := prog_9_method_8_code
def yX7_borderAsLaid : MethodName := ⟨RX7, "borderAsLaid", "(I)I"⟩
def RX8 : String := "MapHall$Stacks"
def TX8 : u_T := fun k => match k with
  | _ => ("MapHall$Stacks", "places", "[I", true)
def tyX8 : Nat → FieldType := fun k => match k with
  | _ => .array .int
abbrev wsX80 : List Cond := u_ws RX8 TX8 1
theorem nmX8 : ∀ a, a < 1 → ∀ b, b < 1 → a ≠ b → (TX8 a).2.1 ≠ (TX8 b).2.1 := by decide +kernel
theorem tyX8_ok : ∀ k, k < 1 → parseFieldDescriptor (TX8 k).2.2.1 = some (tyX8 k) := by decide +kernel
abbrev cX8_init : ByteArray := prog_10_method_1_code
def yX8_init : MethodName := ⟨RX8, "<init>", "()V"⟩
abbrev cX8_countByAdding : ByteArray := prog_10_method_2_code
def yX8_countByAdding : MethodName := ⟨RX8, "countByAdding", "(LMapHall$Sheet;I)I"⟩
abbrev cX8_countByPermutations : ByteArray := prog_10_method_3_code
def yX8_countByPermutations : MethodName := ⟨RX8, "countByPermutations", "(LMapHall$Sheet;)I"⟩
abbrev cX8_countFrom : ByteArray := prog_10_method_4_code
def yX8_countFrom : MethodName := ⟨RX8, "countFrom", "(LMapHall$Sheet;[III)I"⟩
abbrev cX8_slideIn : ByteArray := prog_10_method_5_code
def yX8_slideIn : MethodName := ⟨RX8, "slideIn", "([III)V"⟩
abbrev cX8_pullOut : ByteArray := prog_10_method_6_code
def yX8_pullOut : MethodName := ⟨RX8, "pullOut", "([II)V"⟩
abbrev cX8_countPermutations : ByteArray := prog_10_method_7_code
def yX8_countPermutations : MethodName := ⟨RX8, "countPermutations", "(LMapHall$Sheet;[II)I"⟩
abbrev cX8_swap : ByteArray := prog_10_method_8_code
def yX8_swap : MethodName := ⟨RX8, "swap", "([III)V"⟩
abbrev cX8_isPossible : ByteArray := prog_10_method_9_code
def yX8_isPossible : MethodName := ⟨RX8, "isPossible", "(LMapHall$Sheet;[I)Z"⟩
abbrev cX8_isCreasePossible : ByteArray := prog_10_method_10_code
def yX8_isCreasePossible : MethodName := ⟨RX8, "isCreasePossible", "(LMapHall$Sheet;[II)Z"⟩
abbrev cX8_cross : ByteArray := prog_10_method_11_code
def yX8_cross : MethodName := ⟨RX8, "cross", "([III)Z"⟩
abbrev cX8_isBetween : ByteArray := prog_10_method_12_code
def yX8_isBetween : MethodName := ⟨RX8, "isBetween", "(III)Z"⟩
def RX9 : String := "MapHall$State"
def TX9 : u_T := fun k => match k with
  | 0 => ("MapHall$State", "sheets", "[LMapHall$Sheet;", true)
  | 1 => ("MapHall$State", "occupant", "[I", true)
  | 2 => ("MapHall$State", "sheetTotal", "I", false)
  | 3 => ("MapHall$State", "pasteLeft", "I", false)
  | 4 => ("MapHall$State", "pasteSpent", "I", false)
  | _ => ("MapHall$State", "foldTotal", "I", false)
def tyX9 : Nat → FieldType := fun k => match k with
  | 0 => .array (.object "MapHall$Sheet")
  | 1 => .array .int
  | 2 => .int
  | 3 => .int
  | 4 => .int
  | _ => .int
abbrev wsX90 : List Cond := u_ws RX9 TX9 6
theorem nmX9 : ∀ a, a < 6 → ∀ b, b < 6 → a ≠ b → (TX9 a).2.1 ≠ (TX9 b).2.1 := by decide +kernel
theorem tyX9_ok : ∀ k, k < 6 → parseFieldDescriptor (TX9 k).2.2.1 = some (tyX9 k) := by decide +kernel
abbrev cX9_init : ByteArray := prog_11_method_1_code
def yX9_init : MethodName := ⟨RX9, "<init>", "()V"⟩
abbrev cX9_copyFrom : ByteArray := prog_11_method_2_code
def yX9_copyFrom : MethodName := ⟨RX9, "copyFrom", "(LMapHall$State;)V"⟩
abbrev cX9_tryAddSheet : ByteArray := prog_11_method_3_code
def yX9_tryAddSheet : MethodName := ⟨RX9, "tryAddSheet", "(IIIIC)I"⟩
abbrev cX9_tryAddCrease : ByteArray := prog_11_method_4_code
def yX9_tryAddCrease : MethodName := ⟨RX9, "tryAddCrease", "(IC)I"⟩
abbrev cX9_tryFold : ByteArray := prog_11_method_5_code
def yX9_tryFold : MethodName := ⟨RX9, "tryFold", "(I)I"⟩
abbrev cX9_tryUnfold : ByteArray := prog_11_method_6_code
def yX9_tryUnfold : MethodName := ⟨RX9, "tryUnfold", "(I)I"⟩
abbrev cX9_tryMend : ByteArray := prog_11_method_7_code
def yX9_tryMend : MethodName := ⟨RX9, "tryMend", "(I)I"⟩
abbrev cX9_tryPut : ByteArray := prog_11_method_8_code
def yX9_tryPut : MethodName := ⟨RX9, "tryPut", "(III)I"⟩
abbrev cX9_tryTake : ByteArray := prog_11_method_9_code
def yX9_tryTake : MethodName := ⟨RX9, "tryTake", "(I)I"⟩
abbrev cX9_tryAddPaste : ByteArray := prog_11_method_10_code
def yX9_tryAddPaste : MethodName := ⟨RX9, "tryAddPaste", "(I)I"⟩
abbrev cX9_hasSheet : ByteArray := prog_11_method_11_code
def yX9_hasSheet : MethodName := ⟨RX9, "hasSheet", "(I)Z"⟩
abbrev cX9_isOccupied : ByteArray := prog_11_method_12_code
def yX9_isOccupied : MethodName := ⟨RX9, "isOccupied", "(I)Z"⟩
abbrev cX9_sheetLaidIn : ByteArray := prog_11_method_13_code
def yX9_sheetLaidIn : MethodName := ⟨RX9, "sheetLaidIn", "(I)LMapHall$Sheet;"⟩
abbrev cX9_lay : ByteArray := prog_11_method_14_code
def yX9_lay : MethodName := ⟨RX9, "lay", "(III)V"⟩
abbrev cX9_lift : ByteArray := prog_11_method_15_code
def yX9_lift : MethodName := ⟨RX9, "lift", "(I)V"⟩
abbrev cX9_isOccupiedBeside : ByteArray := prog_11_method_16_code
def yX9_isOccupiedBeside : MethodName := ⟨RX9, "isOccupiedBeside", "(II)Z"⟩
abbrev cX9_countBeside : ByteArray := prog_11_method_17_code
def yX9_countBeside : MethodName := ⟨RX9, "countBeside", "(I)I"⟩
abbrev cX9_countKindBeside : ByteArray := prog_11_method_18_code
def yX9_countKindBeside : MethodName := ⟨RX9, "countKindBeside", "(IC)I"⟩
abbrev cX9_fits : ByteArray := prog_11_method_19_code
def yX9_fits : MethodName := ⟨RX9, "fits", "(LMapHall$Sheet;II)Z"⟩
abbrev cX9_countPlaces : ByteArray := prog_11_method_20_code
def yX9_countPlaces : MethodName := ⟨RX9, "countPlaces", "(LMapHall$Sheet;)I"⟩
abbrev cX9_countEmpty : ByteArray := prog_11_method_21_code
def yX9_countEmpty : MethodName := ⟨RX9, "countEmpty", "()I"⟩
abbrev cX9_countFlat : ByteArray := prog_11_method_22_code
def yX9_countFlat : MethodName := ⟨RX9, "countFlat", "()I"⟩
abbrev cX9_countNeighbourPairs : ByteArray := prog_11_method_23_code
def yX9_countNeighbourPairs : MethodName := ⟨RX9, "countNeighbourPairs", "()I"⟩
abbrev cX9_sumOfWear : ByteArray := prog_11_method_25_code
def yX9_sumOfWear : MethodName := ⟨RX9, "sumOfWear", "()I"⟩
abbrev cX9_sheetAtRank : ByteArray := prog_11_method_26_code
def yX9_sheetAtRank : MethodName := ⟨RX9, "sheetAtRank", "(I)I"⟩
abbrev cX9_countBefore : ByteArray := prog_11_method_27_code
def yX9_countBefore : MethodName := ⟨RX9, "countBefore", "(I)I"⟩
abbrev cX9_comesBefore : ByteArray := prog_11_method_28_code
def yX9_comesBefore : MethodName := ⟨RX9, "comesBefore", "(II)Z"⟩
def RX10 : String := "MapHall"
def TX10 : u_T := fun k => match k with
  | 0 => ("MapHall", "state", "LMapHall$State;", true)
  | 1 => ("MapHall", "saved", "LMapHall$State;", true)
  | 2 => ("MapHall", "hasSaved", "Z", false)
  | 3 => ("MapHall", "history", "LMapHall$History;", true)
  | 4 => ("MapHall", "tableGroups", "LMapHall$Groups;", true)
  | 5 => ("MapHall", "stacks", "LMapHall$Stacks;", true)
  | 6 => ("MapHall", "script", "LMapHall$Script;", true)
  | 7 => ("MapHall", "output", "LMapHall$Output;", true)
  | 8 => ("MapHall", "malformedAt", "I", false)
  | _ => ("MapHall", "failedAt", "I", false)
def tyX10 : Nat → FieldType := fun k => match k with
  | 0 => .object "MapHall$State"
  | 1 => .object "MapHall$State"
  | 2 => .boolean
  | 3 => .object "MapHall$History"
  | 4 => .object "MapHall$Groups"
  | 5 => .object "MapHall$Stacks"
  | 6 => .object "MapHall$Script"
  | 7 => .object "MapHall$Output"
  | 8 => .int
  | _ => .int
abbrev wsX100 : List Cond := u_ws RX10 TX10 10
theorem nmX10 : ∀ a, a < 10 → ∀ b, b < 10 → a ≠ b → (TX10 a).2.1 ≠ (TX10 b).2.1 := by decide +kernel
theorem tyX10_ok : ∀ k, k < 10 → parseFieldDescriptor (TX10 k).2.2.1 = some (tyX10 k) := by decide +kernel
abbrev cX10_init : ByteArray := prog_1_method_1_code
def yX10_init : MethodName := ⟨RX10, "<init>", "()V"⟩
abbrev cX10_addSheet : ByteArray := prog_1_method_2_code
def yX10_addSheet : MethodName := ⟨RX10, "addSheet", "(IIIIC)I"⟩
abbrev cX10_addCrease : ByteArray := prog_1_method_3_code
def yX10_addCrease : MethodName := ⟨RX10, "addCrease", "(IC)I"⟩
abbrev cX10_fold : ByteArray := prog_1_method_4_code
def yX10_fold : MethodName := ⟨RX10, "fold", "(I)I"⟩
abbrev cX10_unfold : ByteArray := prog_1_method_5_code
def yX10_unfold : MethodName := ⟨RX10, "unfold", "(I)I"⟩
abbrev cX10_mend : ByteArray := prog_1_method_6_code
def yX10_mend : MethodName := ⟨RX10, "mend", "(I)I"⟩
abbrev cX10_put : ByteArray := prog_1_method_7_code
def yX10_put : MethodName := ⟨RX10, "put", "(III)I"⟩
abbrev cX10_take : ByteArray := prog_1_method_8_code
def yX10_take : MethodName := ⟨RX10, "take", "(I)I"⟩
abbrev cX10_addPaste : ByteArray := prog_1_method_9_code
def yX10_addPaste : MethodName := ⟨RX10, "addPaste", "(I)I"⟩
abbrev cX10_sheetCount : ByteArray := prog_1_method_10_code
def yX10_sheetCount : MethodName := ⟨RX10, "sheetCount", "()I"⟩
abbrev cX10_kind : ByteArray := prog_1_method_11_code
def yX10_kind : MethodName := ⟨RX10, "kind", "(I)C"⟩
abbrev cX10_border : ByteArray := prog_1_method_12_code
def yX10_border : MethodName := ⟨RX10, "border", "(II)I"⟩
abbrev cX10_wear : ByteArray := prog_1_method_13_code
def yX10_wear : MethodName := ⟨RX10, "wear", "(I)I"⟩
abbrev cX10_isTorn : ByteArray := prog_1_method_14_code
def yX10_isTorn : MethodName := ⟨RX10, "isTorn", "(I)Z"⟩
abbrev cX10_isFolded : ByteArray := prog_1_method_15_code
def yX10_isFolded : MethodName := ⟨RX10, "isFolded", "(I)Z"⟩
abbrev cX10_creaseCount : ByteArray := prog_1_method_16_code
def yX10_creaseCount : MethodName := ⟨RX10, "creaseCount", "(I)I"⟩
abbrev cX10_crease : ByteArray := prog_1_method_17_code
def yX10_crease : MethodName := ⟨RX10, "crease", "(II)C"⟩
abbrev cX10_cellOf : ByteArray := prog_1_method_18_code
def yX10_cellOf : MethodName := ⟨RX10, "cellOf", "(I)I"⟩
abbrev cX10_sheetIn : ByteArray := prog_1_method_19_code
def yX10_sheetIn : MethodName := ⟨RX10, "sheetIn", "(I)I"⟩
abbrev cX10_turnsIn : ByteArray := prog_1_method_20_code
def yX10_turnsIn : MethodName := ⟨RX10, "turnsIn", "(I)I"⟩
abbrev cX10_borderIn : ByteArray := prog_1_method_21_code
def yX10_borderIn : MethodName := ⟨RX10, "borderIn", "(II)I"⟩
abbrev cX10_emptyCells : ByteArray := prog_1_method_22_code
def yX10_emptyCells : MethodName := ⟨RX10, "emptyCells", "()I"⟩
abbrev cX10_paste : ByteArray := prog_1_method_23_code
def yX10_paste : MethodName := ⟨RX10, "paste", "()I"⟩
abbrev cX10_matches : ByteArray := prog_1_method_24_code
def yX10_matches : MethodName := ⟨RX10, "matches", "(III)Z"⟩
abbrev cX10_waysToPut : ByteArray := prog_1_method_25_code
def yX10_waysToPut : MethodName := ⟨RX10, "waysToPut", "(I)I"⟩
abbrev cX10_completions : ByteArray := prog_1_method_26_code
def yX10_completions : MethodName := ⟨RX10, "completions", "()I"⟩
abbrev cX10_completionsBackwards : ByteArray := prog_1_method_27_code
def yX10_completionsBackwards : MethodName := ⟨RX10, "completionsBackwards", "()I"⟩
abbrev cX10_foldings : ByteArray := prog_1_method_28_code
def yX10_foldings : MethodName := ⟨RX10, "foldings", "(I)I"⟩
abbrev cX10_foldingsByPermutations : ByteArray := prog_1_method_29_code
def yX10_foldingsByPermutations : MethodName := ⟨RX10, "foldingsByPermutations", "(I)I"⟩
abbrev cX10_canBeOnTop : ByteArray := prog_1_method_30_code
def yX10_canBeOnTop : MethodName := ⟨RX10, "canBeOnTop", "(II)Z"⟩
abbrev cX10_pointsOf : ByteArray := prog_1_method_31_code
def yX10_pointsOf : MethodName := ⟨RX10, "pointsOf", "(I)I"⟩
abbrev cX10_points : ByteArray := prog_1_method_32_code
def yX10_points : MethodName := ⟨RX10, "points", "()I"⟩
abbrev cX10_groupSize : ByteArray := prog_1_method_34_code
def yX10_groupSize : MethodName := ⟨RX10, "groupSize", "(I)I"⟩
abbrev cX10_groups : ByteArray := prog_1_method_35_code
def yX10_groups : MethodName := ⟨RX10, "groups", "()I"⟩
abbrev cX10_matchedBorders : ByteArray := prog_1_method_37_code
def yX10_matchedBorders : MethodName := ⟨RX10, "matchedBorders", "()I"⟩
abbrev cX10_sheetByWear : ByteArray := prog_1_method_38_code
def yX10_sheetByWear : MethodName := ⟨RX10, "sheetByWear", "(I)I"⟩
abbrev cX10_foldCount : ByteArray := prog_1_method_39_code
def yX10_foldCount : MethodName := ⟨RX10, "foldCount", "()I"⟩
abbrev cX10_usedPaste : ByteArray := prog_1_method_40_code
def yX10_usedPaste : MethodName := ⟨RX10, "usedPaste", "()I"⟩
abbrev cX10_meanWear : ByteArray := prog_1_method_41_code
def yX10_meanWear : MethodName := ⟨RX10, "meanWear", "()D"⟩
abbrev cX10_coveredShare : ByteArray := prog_1_method_42_code
def yX10_coveredShare : MethodName := ⟨RX10, "coveredShare", "()F"⟩
abbrev cX10_feed : ByteArray := prog_1_method_44_code
def yX10_feed : MethodName := ⟨RX10, "feed", "(C)I"⟩
abbrev cX10_runCommands : ByteArray := prog_1_method_45_code
def yX10_runCommands : MethodName := ⟨RX10, "runCommands", "()I"⟩
abbrev cX10_errorPosition : ByteArray := prog_1_method_46_code
def yX10_errorPosition : MethodName := ⟨RX10, "errorPosition", "()I"⟩
abbrev cX10_failedCommand : ByteArray := prog_1_method_47_code
def yX10_failedCommand : MethodName := ⟨RX10, "failedCommand", "()I"⟩
abbrev cX10_writeTable : ByteArray := prog_1_method_48_code
def yX10_writeTable : MethodName := ⟨RX10, "writeTable", "()I"⟩
abbrev cX10_writeSheet : ByteArray := prog_1_method_49_code
def yX10_writeSheet : MethodName := ⟨RX10, "writeSheet", "(I)I"⟩
abbrev cX10_outputChar : ByteArray := prog_1_method_50_code
def yX10_outputChar : MethodName := ⟨RX10, "outputChar", "(I)C"⟩
abbrev cX10_undoCount : ByteArray := prog_1_method_51_code
def yX10_undoCount : MethodName := ⟨RX10, "undoCount", "()I"⟩
abbrev cX10_undo : ByteArray := prog_1_method_52_code
def yX10_undo : MethodName := ⟨RX10, "undo", "()I"⟩
abbrev cX10_save : ByteArray := prog_1_method_53_code
def yX10_save : MethodName := ⟨RX10, "save", "()I"⟩
abbrev cX10_restore : ByteArray := prog_1_method_54_code
def yX10_restore : MethodName := ⟨RX10, "restore", "()I"⟩
abbrev cX10_recorded : ByteArray := prog_1_method_55_code
def yX10_recorded : MethodName := ⟨RX10, "recorded", "(I)I"⟩
abbrev cX10_throwRefusal : ByteArray := prog_1_method_56_code
def yX10_throwRefusal : MethodName := ⟨RX10, "throwRefusal", "(I)V"⟩
abbrev cX10_demandedSheet : ByteArray := prog_1_method_57_code
def yX10_demandedSheet : MethodName := ⟨RX10, "demandedSheet", "(I)LMapHall$Sheet;"⟩
abbrev cX10_demandCell : ByteArray := prog_1_method_58_code
def yX10_demandCell : MethodName := ⟨RX10, "demandCell", "(I)V"⟩
abbrev cX10_demandSide : ByteArray := prog_1_method_59_code
def yX10_demandSide : MethodName := ⟨RX10, "demandSide", "(I)V"⟩
abbrev cX10_demandOccupied : ByteArray := prog_1_method_60_code
def yX10_demandOccupied : MethodName := ⟨RX10, "demandOccupied", "(I)V"⟩
abbrev cX10_demandFewEmptyCells : ByteArray := prog_1_method_61_code
def yX10_demandFewEmptyCells : MethodName := ⟨RX10, "demandFewEmptyCells", "()V"⟩
abbrev cX10_carryOutAll : ByteArray := prog_1_method_63_code
def yX10_carryOutAll : MethodName := ⟨RX10, "carryOutAll", "()I"⟩
abbrev cX10_answerOfCommand : ByteArray := prog_1_method_64_code
def yX10_answerOfCommand : MethodName := ⟨RX10, "answerOfCommand", "(I)I"⟩
abbrev cX10_waysFrom : ByteArray := prog_1_method_65_code
def yX10_waysFrom : MethodName := ⟨RX10, "waysFrom", "(LMapHall$State;IZ)I"⟩
abbrev cX10_isCell : ByteArray := prog_1_method_66_code
def yX10_isCell : MethodName := ⟨RX10, "isCell", "(I)Z"⟩
abbrev cX10_isTurns : ByteArray := prog_1_method_67_code
def yX10_isTurns : MethodName := ⟨RX10, "isTurns", "(I)Z"⟩
abbrev cX10_isCode : ByteArray := prog_1_method_68_code
def yX10_isCode : MethodName := ⟨RX10, "isCode", "(I)Z"⟩
abbrev cX10_isKind : ByteArray := prog_1_method_69_code
def yX10_isKind : MethodName := ⟨RX10, "isKind", "(C)Z"⟩
abbrev cX10_isCrease : ByteArray := prog_1_method_70_code
def yX10_isCrease : MethodName := ⟨RX10, "isCrease", "(C)Z"⟩
abbrev cX10_neighbour : ByteArray := prog_1_method_71_code
def yX10_neighbour : MethodName := ⟨RX10, "neighbour", "(II)I"⟩
abbrev cX10_opposite : ByteArray := prog_1_method_72_code
def yX10_opposite : MethodName := ⟨RX10, "opposite", "(I)I"⟩
def RX11 : String := "MapHallModel"
def TX11 : u_T := fun k => match k with
  | _ => ("", "", "", false)
def tyX11 : Nat → FieldType := fun k => match k with
  | _ => .int
abbrev wsX110 : List Cond := u_ws RX11 TX11 0
theorem nmX11 : ∀ a, a < 0 → ∀ b, b < 0 → a ≠ b → (TX11 a).2.1 ≠ (TX11 b).2.1 := by decide +kernel
theorem tyX11_ok : ∀ k, k < 0 → parseFieldDescriptor (TX11 k).2.2.1 = some (tyX11 k) := by decide +kernel
def RJx145de : String := "java/io/Serializable"
def TJx145de : u_T := fun k => match k with
  | _ => ("", "", "", false)
def tyJx145de : Nat → FieldType := fun k => match k with
  | _ => .int
abbrev wsJx145de0 : List Cond := u_ws RJx145de TJx145de 0
theorem nmJx145de : ∀ a, a < 0 → ∀ b, b < 0 → a ≠ b → (TJx145de a).2.1 ≠ (TJx145de b).2.1 := by decide +kernel
theorem tyJx145de_ok : ∀ k, k < 0 → parseFieldDescriptor (TJx145de k).2.2.1 = some (tyJx145de k) := by decide +kernel
def RJ5 : String := "java/lang/AbstractStringBuilder"
def TJ5 : u_T := fun k => match k with
  | _ => ("", "", "", false)
def tyJ5 : Nat → FieldType := fun k => match k with
  | _ => .int
abbrev wsJ50 : List Cond := u_ws RJ5 TJ5 0
theorem nmJ5 : ∀ a, a < 0 → ∀ b, b < 0 → a ≠ b → (TJ5 a).2.1 ≠ (TJ5 b).2.1 := by decide +kernel
theorem tyJ5_ok : ∀ k, k < 0 → parseFieldDescriptor (TJ5 k).2.2.1 = some (tyJ5 k) := by decide +kernel
abbrev cJ5_init_d00df : ByteArray := prog_15_method_2_code
def yJ5_init_d00df : MethodName := ⟨RJ5, "<init>", "(I)V"⟩
abbrev cJ5_length_8abf5 : ByteArray := prog_15_method_6_code
def yJ5_length_8abf5 : MethodName := ⟨RJ5, "length", "()I"⟩
abbrev cJ5_ensureCapacityInternal_d00df : ByteArray := prog_15_method_9_code
def yJ5_ensureCapacityInternal_d00df : MethodName := ⟨RJ5, "ensureCapacityInternal", "(I)V"⟩
abbrev cJ5_newCapacity_0f7a4 : ByteArray := prog_15_method_10_code
def yJ5_newCapacity_0f7a4 : MethodName := ⟨RJ5, "newCapacity", "(I)I"⟩
abbrev cJ5_inflate_da8c8 : ByteArray := prog_15_method_11_code
def yJ5_inflate_da8c8 : MethodName := ⟨RJ5, "inflate", "()V"⟩
abbrev cJ5_append_cf1ce : ByteArray := prog_15_method_22_code
def yJ5_append_cf1ce : MethodName := ⟨RJ5, "append", "(Ljava/lang/String;)Ljava/lang/AbstractStringBuilder;"⟩
abbrev cJ5_appendNull_278bc : ByteArray := prog_15_method_26_code
def yJ5_appendNull_278bc : MethodName := ⟨RJ5, "appendNull", "()Ljava/lang/AbstractStringBuilder;"⟩
abbrev cJ5_append_c97b9 : ByteArray := prog_15_method_32_code
def yJ5_append_c97b9 : MethodName := ⟨RJ5, "append", "(I)Ljava/lang/AbstractStringBuilder;"⟩
abbrev cJ5_getValue_6d5f1 : ByteArray := prog_15_method_64_code
def yJ5_getValue_6d5f1 : MethodName := ⟨RJ5, "getValue", "()[B"⟩
abbrev cJ5_isLatin1_aae02 : ByteArray := prog_15_method_68_code
def yJ5_isLatin1_aae02 : MethodName := ⟨RJ5, "isLatin1", "()Z"⟩
abbrev cJ5_inflateIfNeededFor_a7421 : ByteArray := prog_15_method_71_code
def yJ5_inflateIfNeededFor_a7421 : MethodName := ⟨RJ5, "inflateIfNeededFor", "(Ljava/lang/String;)V"⟩
abbrev cJ5_putStringAt_47b60 : ByteArray := prog_15_method_73_code
def yJ5_putStringAt_47b60 : MethodName := ⟨RJ5, "putStringAt", "(ILjava/lang/String;)V"⟩
def RJx2cfe8 : String := "java/lang/Appendable"
def TJx2cfe8 : u_T := fun k => match k with
  | _ => ("", "", "", false)
def tyJx2cfe8 : Nat → FieldType := fun k => match k with
  | _ => .int
abbrev wsJx2cfe80 : List Cond := u_ws RJx2cfe8 TJx2cfe8 0
theorem nmJx2cfe8 : ∀ a, a < 0 → ∀ b, b < 0 → a ≠ b → (TJx2cfe8 a).2.1 ≠ (TJx2cfe8 b).2.1 := by decide +kernel
theorem tyJx2cfe8_ok : ∀ k, k < 0 → parseFieldDescriptor (TJx2cfe8 k).2.2.1 = some (tyJx2cfe8 k) := by decide +kernel
def RJx00060 : String := "java/lang/ArrayIndexOutOfBoundsException"
def TJx00060 : u_T := fun k => match k with
  | 0 => ("java/lang/Throwable", "backtrace", "Ljava/lang/Object;", false)
  | 1 => ("java/lang/Throwable", "detailMessage", "Ljava/lang/String;", false)
  | 2 => ("java/lang/Throwable", "cause", "Ljava/lang/Throwable;", false)
  | 3 => ("java/lang/Throwable", "stackTrace", "[Ljava/lang/StackTraceElement;", false)
  | 4 => ("java/lang/Throwable", "depth", "I", false)
  | _ => ("java/lang/Throwable", "suppressedExceptions", "Ljava/util/List;", false)
def tyJx00060 : Nat → FieldType := fun k => match k with
  | 0 => .object "java/lang/Object"
  | 1 => .object "java/lang/String"
  | 2 => .object "java/lang/Throwable"
  | 3 => .array (.object "java/lang/StackTraceElement")
  | 4 => .int
  | _ => .object "java/util/List"
abbrev wsJx000600 : List Cond := u_ws RJx00060 TJx00060 6
theorem nmJx00060 : ∀ a, a < 6 → ∀ b, b < 6 → a ≠ b → (TJx00060 a).2.1 ≠ (TJx00060 b).2.1 := by decide +kernel
theorem tyJx00060_ok : ∀ k, k < 6 → parseFieldDescriptor (TJx00060 k).2.2.1 = some (tyJx00060 k) := by decide +kernel
abbrev cJx00060_init_a7421 : ByteArray := prog_18_method_2_code
def yJx00060_init_a7421 : MethodName := ⟨RJx00060, "<init>", "(Ljava/lang/String;)V"⟩
def RJx9f9b0 : String := "java/lang/CharSequence"
def TJx9f9b0 : u_T := fun k => match k with
  | _ => ("", "", "", false)
def tyJx9f9b0 : Nat → FieldType := fun k => match k with
  | _ => .int
abbrev wsJx9f9b00 : List Cond := u_ws RJx9f9b0 TJx9f9b0 0
theorem nmJx9f9b0 : ∀ a, a < 0 → ∀ b, b < 0 → a ≠ b → (TJx9f9b0 a).2.1 ≠ (TJx9f9b0 b).2.1 := by decide +kernel
theorem tyJx9f9b0_ok : ∀ k, k < 0 → parseFieldDescriptor (TJx9f9b0 k).2.2.1 = some (tyJx9f9b0 k) := by decide +kernel
def RJx8e188 : String := "java/lang/Cloneable"
def TJx8e188 : u_T := fun k => match k with
  | _ => ("", "", "", false)
def tyJx8e188 : Nat → FieldType := fun k => match k with
  | _ => .int
abbrev wsJx8e1880 : List Cond := u_ws RJx8e188 TJx8e188 0
theorem nmJx8e188 : ∀ a, a < 0 → ∀ b, b < 0 → a ≠ b → (TJx8e188 a).2.1 ≠ (TJx8e188 b).2.1 := by decide +kernel
theorem tyJx8e188_ok : ∀ k, k < 0 → parseFieldDescriptor (TJx8e188 k).2.2.1 = some (tyJx8e188 k) := by decide +kernel
def RJxb160c : String := "java/lang/Comparable"
def TJxb160c : u_T := fun k => match k with
  | _ => ("", "", "", false)
def tyJxb160c : Nat → FieldType := fun k => match k with
  | _ => .int
abbrev wsJxb160c0 : List Cond := u_ws RJxb160c TJxb160c 0
theorem nmJxb160c : ∀ a, a < 0 → ∀ b, b < 0 → a ≠ b → (TJxb160c a).2.1 ≠ (TJxb160c b).2.1 := by decide +kernel
theorem tyJxb160c_ok : ∀ k, k < 0 → parseFieldDescriptor (TJxb160c k).2.2.1 = some (tyJxb160c k) := by decide +kernel
def RJxe99ae : String := "java/lang/Double"
def TJxe99ae : u_T := fun k => match k with
  | _ => ("", "", "", false)
def tyJxe99ae : Nat → FieldType := fun k => match k with
  | _ => .int
abbrev wsJxe99ae0 : List Cond := u_ws RJxe99ae TJxe99ae 0
theorem nmJxe99ae : ∀ a, a < 0 → ∀ b, b < 0 → a ≠ b → (TJxe99ae a).2.1 ≠ (TJxe99ae b).2.1 := by decide +kernel
theorem tyJxe99ae_ok : ∀ k, k < 0 → parseFieldDescriptor (TJxe99ae k).2.2.1 = some (tyJxe99ae k) := by decide +kernel
abbrev cJxe99ae_isNaN_b9ae7 : ByteArray := prog_22_method_6_code
def yJxe99ae_isNaN_b9ae7 : MethodName := ⟨RJxe99ae, "isNaN", "(D)Z"⟩
abbrev cJxe99ae_doubleToLongBits_ccdee : ByteArray := prog_22_method_23_code
def yJxe99ae_doubleToLongBits_ccdee : MethodName := ⟨RJxe99ae, "doubleToLongBits", "(D)J"⟩
def RJx29ce0 : String := "java/lang/Enum"
def TJx29ce0 : u_T := fun k => match k with
  | _ => ("", "", "", false)
def tyJx29ce0 : Nat → FieldType := fun k => match k with
  | _ => .int
abbrev wsJx29ce00 : List Cond := u_ws RJx29ce0 TJx29ce0 0
theorem nmJx29ce0 : ∀ a, a < 0 → ∀ b, b < 0 → a ≠ b → (TJx29ce0 a).2.1 ≠ (TJx29ce0 b).2.1 := by decide +kernel
theorem tyJx29ce0_ok : ∀ k, k < 0 → parseFieldDescriptor (TJx29ce0 k).2.2.1 = some (tyJx29ce0 k) := by decide +kernel
abbrev cJx29ce0_ordinal_8abf5 : ByteArray := prog_23_method_2_code
def yJx29ce0_ordinal_8abf5 : MethodName := ⟨RJx29ce0, "ordinal", "()I"⟩
def RJxf58ca : String := "java/lang/Float"
def TJxf58ca : u_T := fun k => match k with
  | _ => ("", "", "", false)
def tyJxf58ca : Nat → FieldType := fun k => match k with
  | _ => .int
abbrev wsJxf58ca0 : List Cond := u_ws RJxf58ca TJxf58ca 0
theorem nmJxf58ca : ∀ a, a < 0 → ∀ b, b < 0 → a ≠ b → (TJxf58ca a).2.1 ≠ (TJxf58ca b).2.1 := by decide +kernel
theorem tyJxf58ca_ok : ∀ k, k < 0 → parseFieldDescriptor (TJxf58ca k).2.2.1 = some (tyJxf58ca k) := by decide +kernel
abbrev cJxf58ca_isNaN_12338 : ByteArray := prog_25_method_6_code
def yJxf58ca_isNaN_12338 : MethodName := ⟨RJxf58ca, "isNaN", "(F)Z"⟩
abbrev cJxf58ca_floatToIntBits_5c35a : ByteArray := prog_25_method_24_code
def yJxf58ca_floatToIntBits_5c35a : MethodName := ⟨RJxf58ca, "floatToIntBits", "(F)I"⟩
def RJ6 : String := "java/lang/Integer"
def TJ6 : u_T := fun k => match k with
  | _ => ("", "", "", false)
def tyJ6 : Nat → FieldType := fun k => match k with
  | _ => .int
abbrev wsJ60 : List Cond := u_ws RJ6 TJ6 0
theorem nmJ6 : ∀ a, a < 0 → ∀ b, b < 0 → a ≠ b → (TJ6 a).2.1 ≠ (TJ6 b).2.1 := by decide +kernel
theorem tyJ6_ok : ∀ k, k < 0 → parseFieldDescriptor (TJ6 k).2.2.1 = some (tyJ6 k) := by decide +kernel
abbrev cJ6_getChars_ba4f3 : ByteArray := prog_29_method_12_code
def yJ6_getChars_ba4f3 : MethodName := ⟨RJ6, "getChars", "(II[B)I"⟩
abbrev cJ6_stringSize_0f7a4 : ByteArray := prog_29_method_13_code
def yJ6_stringSize_0f7a4 : MethodName := ⟨RJ6, "stringSize", "(I)I"⟩
abbrev cJ6_bitCount_0f7a4 : ByteArray := prog_29_method_49_code
def yJ6_bitCount_0f7a4 : MethodName := ⟨RJ6, "bitCount", "(I)I"⟩
def RJ9 : String := "java/lang/Math"
def TJ9 : u_T := fun k => match k with
  | _ => ("", "", "", false)
def tyJ9 : Nat → FieldType := fun k => match k with
  | _ => .int
abbrev wsJ90 : List Cond := u_ws RJ9 TJ9 0
theorem nmJ9 : ∀ a, a < 0 → ∀ b, b < 0 → a ≠ b → (TJ9 a).2.1 ≠ (TJ9 b).2.1 := by decide +kernel
theorem tyJ9_ok : ∀ k, k < 0 → parseFieldDescriptor (TJ9 k).2.2.1 = some (tyJ9 k) := by decide +kernel
abbrev cJ9_floorMod_7cf53 : ByteArray := prog_30_method_50_code
def yJ9_floorMod_7cf53 : MethodName := ⟨RJ9, "floorMod", "(II)I"⟩
abbrev cJ9_max_7cf53 : ByteArray := prog_30_method_65_code
def yJ9_max_7cf53 : MethodName := ⟨RJ9, "max", "(II)I"⟩
abbrev cJ9_min_7cf53 : ByteArray := prog_30_method_69_code
def yJ9_min_7cf53 : MethodName := ⟨RJ9, "min", "(II)I"⟩
def RJxd2413 : String := "java/lang/Number"
def TJxd2413 : u_T := fun k => match k with
  | _ => ("", "", "", false)
def tyJxd2413 : Nat → FieldType := fun k => match k with
  | _ => .int
abbrev wsJxd24130 : List Cond := u_ws RJxd2413 TJxd2413 0
theorem nmJxd2413 : ∀ a, a < 0 → ∀ b, b < 0 → a ≠ b → (TJxd2413 a).2.1 ≠ (TJxd2413 b).2.1 := by decide +kernel
theorem tyJxd2413_ok : ∀ k, k < 0 → parseFieldDescriptor (TJxd2413 k).2.2.1 = some (tyJxd2413 k) := by decide +kernel
def RJ0 : String := "java/lang/String"
def TJ0 : u_T := fun k => match k with
  | 0 => ("java/lang/String", "value", "[B", true)
  | 1 => ("java/lang/String", "coder", "B", true)
  | 2 => ("java/lang/String", "hash", "I", false)
  | _ => ("java/lang/String", "hashIsZero", "Z", false)
def tyJ0 : Nat → FieldType := fun k => match k with
  | 0 => .array .byte
  | 1 => .byte
  | 2 => .int
  | _ => .boolean
abbrev wsJ00 : List Cond := u_ws RJ0 TJ0 4
theorem nmJ0 : ∀ a, a < 4 → ∀ b, b < 4 → a ≠ b → (TJ0 a).2.1 ≠ (TJ0 b).2.1 := by decide +kernel
theorem tyJ0_ok : ∀ k, k < 4 → parseFieldDescriptor (TJ0 k).2.2.1 = some (tyJ0 k) := by decide +kernel
abbrev cJ0_init_81219 : ByteArray := prog_33_method_53_code
def yJ0_init_81219 : MethodName := ⟨RJ0, "<init>", "(Ljava/lang/StringBuilder;)V"⟩
abbrev cJ0_length_8abf5 : ByteArray := prog_33_method_54_code
def yJ0_length_8abf5 : MethodName := ⟨RJ0, "length", "()I"⟩
abbrev cJ0_charAt_5068e : ByteArray := prog_33_method_56_code
def yJ0_charAt_5068e : MethodName := ⟨RJ0, "charAt", "(I)C"⟩
abbrev cJ0_getBytes_840e7 : ByteArray := prog_33_method_147_code
def yJ0_getBytes_840e7 : MethodName := ⟨RJ0, "getBytes", "([BIB)V"⟩
abbrev cJ0_init_db425 : ByteArray := prog_33_method_150_code
def yJ0_init_db425 : MethodName := ⟨RJ0, "<init>", "(Ljava/lang/AbstractStringBuilder;Ljava/lang/Void;)V"⟩
abbrev cJ0_coder_7d493 : ByteArray := prog_33_method_152_code
def yJ0_coder_7d493 : MethodName := ⟨RJ0, "coder", "()B"⟩
abbrev cJ0_isLatin1_aae02 : ByteArray := prog_33_method_154_code
def yJ0_isLatin1_aae02 : MethodName := ⟨RJ0, "isLatin1", "()Z"⟩
abbrev cJ0_checkIndex_df160 : ByteArray := prog_33_method_155_code
def yJ0_checkIndex_df160 : MethodName := ⟨RJ0, "checkIndex", "(II)V"⟩
abbrev cJ0_checkBoundsOffCount_cabcc : ByteArray := prog_33_method_157_code
def yJ0_checkBoundsOffCount_cabcc : MethodName := ⟨RJ0, "checkBoundsOffCount", "(III)I"⟩
abbrev cJ0_checkBoundsBeginEnd_23922 : ByteArray := prog_33_method_158_code
def yJ0_checkBoundsBeginEnd_23922 : MethodName := ⟨RJ0, "checkBoundsBeginEnd", "(III)V"⟩
def RJ4 : String := "java/lang/StringBuilder"
def TJ4 : u_T := fun k => match k with
  | 0 => ("java/lang/AbstractStringBuilder", "value", "[B", false)
  | 1 => ("java/lang/AbstractStringBuilder", "coder", "B", false)
  | 2 => ("java/lang/AbstractStringBuilder", "maybeLatin1", "Z", false)
  | _ => ("java/lang/AbstractStringBuilder", "count", "I", false)
def tyJ4 : Nat → FieldType := fun k => match k with
  | 0 => .array .byte
  | 1 => .byte
  | 2 => .boolean
  | _ => .int
abbrev wsJ40 : List Cond := u_ws RJ4 TJ4 4
theorem nmJ4 : ∀ a, a < 4 → ∀ b, b < 4 → a ≠ b → (TJ4 a).2.1 ≠ (TJ4 b).2.1 := by decide +kernel
theorem tyJ4_ok : ∀ k, k < 4 → parseFieldDescriptor (TJ4 k).2.2.1 = some (tyJ4 k) := by decide +kernel
abbrev cJ4_init_da8c8 : ByteArray := prog_34_method_1_code
def yJ4_init_da8c8 : MethodName := ⟨RJ4, "<init>", "()V"⟩
abbrev cJ4_append_15ec4 : ByteArray := prog_34_method_7_code
def yJ4_append_15ec4 : MethodName := ⟨RJ4, "append", "(Ljava/lang/String;)Ljava/lang/StringBuilder;"⟩
abbrev cJ4_append_bf812 : ByteArray := prog_34_method_15_code
def yJ4_append_bf812 : MethodName := ⟨RJ4, "append", "(I)Ljava/lang/StringBuilder;"⟩
abbrev cJ4_toString_0e30d : ByteArray := prog_34_method_42_code
def yJ4_toString_0e30d : MethodName := ⟨RJ4, "toString", "()Ljava/lang/String;"⟩
abbrev cJ4_length_8abf5 : ByteArray := prog_34_method_93_code
def yJ4_length_8abf5 : MethodName := ⟨RJ4, "length", "()I"⟩
def RJ1 : String := "java/lang/StringLatin1"
def TJ1 : u_T := fun k => match k with
  | _ => ("", "", "", false)
def tyJ1 : Nat → FieldType := fun k => match k with
  | _ => .int
abbrev wsJ10 : List Cond := u_ws RJ1 TJ1 0
theorem nmJ1 : ∀ a, a < 0 → ∀ b, b < 0 → a ≠ b → (TJ1 a).2.1 ≠ (TJ1 b).2.1 := by decide +kernel
theorem tyJ1_ok : ∀ k, k < 0 → parseFieldDescriptor (TJ1 k).2.2.1 = some (tyJ1 k) := by decide +kernel
abbrev cJ1_charAt_3b067 : ByteArray := prog_35_method_2_code
def yJ1_charAt_3b067 : MethodName := ⟨RJ1, "charAt", "([BI)C"⟩
abbrev cJ1_inflate_0e8fd : ByteArray := prog_35_method_50_code
def yJ1_inflate_0e8fd : MethodName := ⟨RJ1, "inflate", "([BI[BII)V"⟩
def RJ2 : String := "java/lang/StringUTF16"
def TJ2 : u_T := fun k => match k with
  | _ => ("", "", "", false)
def tyJ2 : Nat → FieldType := fun k => match k with
  | _ => .int
abbrev wsJ20 : List Cond := u_ws RJ2 TJ2 0
theorem nmJ2 : ∀ a, a < 0 → ∀ b, b < 0 → a ≠ b → (TJ2 a).2.1 ≠ (TJ2 b).2.1 := by decide +kernel
theorem tyJ2_ok : ∀ k, k < 0 → parseFieldDescriptor (TJ2 k).2.2.1 = some (tyJ2 k) := by decide +kernel
abbrev cJ2_newBytesFor_77867 : ByteArray := prog_36_method_2_code
def yJ2_newBytesFor_77867 : MethodName := ⟨RJ2, "newBytesFor", "(I)[B"⟩
abbrev cJ2_newBytesLength_0f7a4 : ByteArray := prog_36_method_3_code
def yJ2_newBytesLength_0f7a4 : MethodName := ⟨RJ2, "newBytesLength", "(I)I"⟩
abbrev cJ2_putChar_b72d1 : ByteArray := prog_36_method_4_code
def yJ2_putChar_b72d1 : MethodName := ⟨RJ2, "putChar", "([BII)V"⟩
abbrev cJ2_getChar_3b067 : ByteArray := prog_36_method_5_code
def yJ2_getChar_3b067 : MethodName := ⟨RJ2, "getChar", "([BI)C"⟩
abbrev cJ2_length_9d52b : ByteArray := prog_36_method_6_code
def yJ2_length_9d52b : MethodName := ⟨RJ2, "length", "([B)I"⟩
abbrev cJ2_coderFromArrayLen_85cad : ByteArray := prog_36_method_15_code
def yJ2_coderFromArrayLen_85cad : MethodName := ⟨RJ2, "coderFromArrayLen", "([BI)B"⟩
abbrev cJ2_compress_39247 : ByteArray := prog_36_method_17_code
def yJ2_compress_39247 : MethodName := ⟨RJ2, "compress", "([BII)[B"⟩
abbrev cJ2_compress_5af95 : ByteArray := prog_36_method_22_code
def yJ2_compress_5af95 : MethodName := ⟨RJ2, "compress", "([BI[BII)I"⟩
abbrev cJ2_getChars_46870 : ByteArray := prog_36_method_77_code
def yJ2_getChars_46870 : MethodName := ⟨RJ2, "getChars", "(III[B)I"⟩
abbrev cJ2_putCharsAt_cd4e5 : ByteArray := prog_36_method_81_code
def yJ2_putCharsAt_cd4e5 : MethodName := ⟨RJ2, "putCharsAt", "([BICCCC)I"⟩
abbrev cJ2_charAt_3b067 : ByteArray := prog_36_method_83_code
def yJ2_charAt_3b067 : MethodName := ⟨RJ2, "charAt", "([BI)C"⟩
abbrev cJ2_inflate_0e8fd : ByteArray := prog_36_method_86_code
def yJ2_inflate_0e8fd : MethodName := ⟨RJ2, "inflate", "([BI[BII)V"⟩
abbrev cJ2_getChars_ba4f3 : ByteArray := prog_36_method_89_code
def yJ2_getChars_ba4f3 : MethodName := ⟨RJ2, "getChars", "(II[B)I"⟩
abbrev cJ2_checkIndex_2214a : ByteArray := prog_36_method_91_code
def yJ2_checkIndex_2214a : MethodName := ⟨RJ2, "checkIndex", "(I[B)V"⟩
abbrev cJ2_checkBoundsBeginEnd_d044e : ByteArray := prog_36_method_93_code
def yJ2_checkBoundsBeginEnd_d044e : MethodName := ⟨RJ2, "checkBoundsBeginEnd", "(II[B)V"⟩
abbrev cJ2_checkBoundsOffCount_d044e : ByteArray := prog_36_method_94_code
def yJ2_checkBoundsOffCount_d044e : MethodName := ⟨RJ2, "checkBoundsOffCount", "(II[B)V"⟩
def RJ10 : String := "java/lang/System"
def TJ10 : u_T := fun k => match k with
  | _ => ("", "", "", false)
def tyJ10 : Nat → FieldType := fun k => match k with
  | _ => .int
abbrev wsJ100 : List Cond := u_ws RJ10 TJ10 0
theorem nmJ10 : ∀ a, a < 0 → ∀ b, b < 0 → a ≠ b → (TJ10 a).2.1 ≠ (TJ10 b).2.1 := by decide +kernel
theorem tyJ10_ok : ∀ k, k < 0 → parseFieldDescriptor (TJ10 k).2.2.1 = some (tyJ10 k) := by decide +kernel
def RJxfd54e : String := "java/lang/constant/Constable"
def TJxfd54e : u_T := fun k => match k with
  | _ => ("", "", "", false)
def tyJxfd54e : Nat → FieldType := fun k => match k with
  | _ => .int
abbrev wsJxfd54e0 : List Cond := u_ws RJxfd54e TJxfd54e 0
theorem nmJxfd54e : ∀ a, a < 0 → ∀ b, b < 0 → a ≠ b → (TJxfd54e a).2.1 ≠ (TJxfd54e b).2.1 := by decide +kernel
theorem tyJxfd54e_ok : ∀ k, k < 0 → parseFieldDescriptor (TJxfd54e k).2.2.1 = some (tyJxfd54e k) := by decide +kernel
def RJx3cf43 : String := "java/lang/constant/ConstantDesc"
def TJx3cf43 : u_T := fun k => match k with
  | _ => ("", "", "", false)
def tyJx3cf43 : Nat → FieldType := fun k => match k with
  | _ => .int
abbrev wsJx3cf430 : List Cond := u_ws RJx3cf43 TJx3cf43 0
theorem nmJx3cf43 : ∀ a, a < 0 → ∀ b, b < 0 → a ≠ b → (TJx3cf43 a).2.1 ≠ (TJx3cf43 b).2.1 := by decide +kernel
theorem tyJx3cf43_ok : ∀ k, k < 0 → parseFieldDescriptor (TJx3cf43 k).2.2.1 = some (tyJx3cf43 k) := by decide +kernel
def RJ7 : String := "java/util/Arrays"
def TJ7 : u_T := fun k => match k with
  | _ => ("", "", "", false)
def tyJ7 : Nat → FieldType := fun k => match k with
  | _ => .int
abbrev wsJ70 : List Cond := u_ws RJ7 TJ7 0
theorem nmJ7 : ∀ a, a < 0 → ∀ b, b < 0 → a ≠ b → (TJ7 a).2.1 ≠ (TJ7 b).2.1 := by decide +kernel
theorem tyJ7_ok : ∀ k, k < 0 → parseFieldDescriptor (TJ7 k).2.2.1 = some (tyJ7 k) := by decide +kernel
abbrev cJ7_copyOf_9075b : ByteArray := prog_42_method_121_code
def yJ7_copyOf_9075b : MethodName := ⟨RJ7, "copyOf", "([BI)[B"⟩
abbrev cJ7_checkLength_df160 : ByteArray := prog_42_method_131_code
def yJ7_checkLength_df160 : MethodName := ⟨RJ7, "checkLength", "(II)V"⟩
abbrev cJ7_copyOfRange_39247 : ByteArray := prog_42_method_132_code
def yJ7_copyOfRange_39247 : MethodName := ⟨RJ7, "copyOfRange", "([BII)[B"⟩
abbrev cJ7_copyOfRangeByte_39247 : ByteArray := prog_42_method_133_code
def yJ7_copyOfRangeByte_39247 : MethodName := ⟨RJ7, "copyOfRangeByte", "([BII)[B"⟩
def RJ8 : String := "jdk/internal/util/ArraysSupport"
def TJ8 : u_T := fun k => match k with
  | _ => ("", "", "", false)
def tyJ8 : Nat → FieldType := fun k => match k with
  | _ => .int
abbrev wsJ80 : List Cond := u_ws RJ8 TJ8 0
theorem nmJ8 : ∀ a, a < 0 → ∀ b, b < 0 → a ≠ b → (TJ8 a).2.1 ≠ (TJ8 b).2.1 := by decide +kernel
theorem tyJ8_ok : ∀ k, k < 0 → parseFieldDescriptor (TJ8 k).2.2.1 = some (tyJ8 k) := by decide +kernel
abbrev cJ8_newLength_cabcc : ByteArray := prog_44_method_27_code
def yJ8_newLength_cabcc : MethodName := ⟨RJ8, "newLength", "(III)I"⟩
abbrev cJ8_hugeLength_7cf53 : ByteArray := prog_44_method_28_code
def yJ8_hugeLength_7cf53 : MethodName := ⟨RJ8, "hugeLength", "(II)I"⟩
def RJ3 : String := "jdk/internal/util/Preconditions"
def TJ3 : u_T := fun k => match k with
  | _ => ("", "", "", false)
def tyJ3 : Nat → FieldType := fun k => match k with
  | _ => .int
abbrev wsJ30 : List Cond := u_ws RJ3 TJ3 0
theorem nmJ3 : ∀ a, a < 0 → ∀ b, b < 0 → a ≠ b → (TJ3 a).2.1 ≠ (TJ3 b).2.1 := by decide +kernel
theorem tyJ3_ok : ∀ k, k < 0 → parseFieldDescriptor (TJ3 k).2.2.1 = some (tyJ3 k) := by decide +kernel
abbrev cJ3_checkIndex_8e157 : ByteArray := prog_45_method_11_code
def yJ3_checkIndex_8e157 : MethodName := ⟨RJ3, "checkIndex", "(IILjava/util/function/BiFunction;)I"⟩
abbrev cJ3_checkFromToIndex_8c36e : ByteArray := prog_45_method_12_code
def yJ3_checkFromToIndex_8c36e : MethodName := ⟨RJ3, "checkFromToIndex", "(IIILjava/util/function/BiFunction;)I"⟩
abbrev cJ3_checkFromIndexSize_8c36e : ByteArray := prog_45_method_13_code
def yJ3_checkFromIndexSize_8c36e : MethodName := ⟨RJ3, "checkFromIndexSize", "(IIILjava/util/function/BiFunction;)I"⟩
def RL : String := "MapHallLaw"
abbrev cL_at : ByteArray := method_2_code
def yL_at : MethodName := ⟨RL, "at", "([II)I"⟩
abbrev cL_some : ByteArray := method_3_code
def yL_some : MethodName := ⟨RL, "some", "(II)I"⟩
abbrev cL_addSheet : ByteArray := method_4_code
def yL_addSheet : MethodName := ⟨RL, "addSheet", "(LMapHall;IIIIC)I"⟩
abbrev cL_addCrease : ByteArray := method_5_code
def yL_addCrease : MethodName := ⟨RL, "addCrease", "(LMapHall;IC)I"⟩
abbrev cL_fold : ByteArray := method_6_code
def yL_fold : MethodName := ⟨RL, "fold", "(LMapHall;I)I"⟩
abbrev cL_unfold : ByteArray := method_7_code
def yL_unfold : MethodName := ⟨RL, "unfold", "(LMapHall;I)I"⟩
abbrev cL_mend : ByteArray := method_8_code
def yL_mend : MethodName := ⟨RL, "mend", "(LMapHall;I)I"⟩
abbrev cL_put : ByteArray := method_9_code
def yL_put : MethodName := ⟨RL, "put", "(LMapHall;III)I"⟩
abbrev cL_take : ByteArray := method_10_code
def yL_take : MethodName := ⟨RL, "take", "(LMapHall;I)I"⟩
abbrev cL_addPaste : ByteArray := method_11_code
def yL_addPaste : MethodName := ⟨RL, "addPaste", "(LMapHall;I)I"⟩
abbrev cL_kind : ByteArray := method_12_code
def yL_kind : MethodName := ⟨RL, "kind", "(LMapHall;I)I"⟩
abbrev cL_border : ByteArray := method_13_code
def yL_border : MethodName := ⟨RL, "border", "(LMapHall;II)I"⟩
abbrev cL_wear : ByteArray := method_14_code
def yL_wear : MethodName := ⟨RL, "wear", "(LMapHall;I)I"⟩
abbrev cL_isTorn : ByteArray := method_15_code
def yL_isTorn : MethodName := ⟨RL, "isTorn", "(LMapHall;I)I"⟩
abbrev cL_isFolded : ByteArray := method_16_code
def yL_isFolded : MethodName := ⟨RL, "isFolded", "(LMapHall;I)I"⟩
abbrev cL_creaseCount : ByteArray := method_17_code
def yL_creaseCount : MethodName := ⟨RL, "creaseCount", "(LMapHall;I)I"⟩
abbrev cL_crease : ByteArray := method_18_code
def yL_crease : MethodName := ⟨RL, "crease", "(LMapHall;II)I"⟩
abbrev cL_cellOf : ByteArray := method_19_code
def yL_cellOf : MethodName := ⟨RL, "cellOf", "(LMapHall;I)I"⟩
abbrev cL_sheetIn : ByteArray := method_20_code
def yL_sheetIn : MethodName := ⟨RL, "sheetIn", "(LMapHall;I)I"⟩
abbrev cL_turnsIn : ByteArray := method_21_code
def yL_turnsIn : MethodName := ⟨RL, "turnsIn", "(LMapHall;I)I"⟩
abbrev cL_borderIn : ByteArray := method_22_code
def yL_borderIn : MethodName := ⟨RL, "borderIn", "(LMapHall;II)I"⟩
abbrev cL_matches : ByteArray := method_23_code
def yL_matches : MethodName := ⟨RL, "matches", "(LMapHall;III)I"⟩
abbrev cL_waysToPut : ByteArray := method_24_code
def yL_waysToPut : MethodName := ⟨RL, "waysToPut", "(LMapHall;I)I"⟩
abbrev cL_completions : ByteArray := method_25_code
def yL_completions : MethodName := ⟨RL, "completions", "(LMapHall;)I"⟩
abbrev cL_backwards : ByteArray := method_26_code
def yL_backwards : MethodName := ⟨RL, "backwards", "(LMapHall;)I"⟩
abbrev cL_foldings : ByteArray := method_27_code
def yL_foldings : MethodName := ⟨RL, "foldings", "(LMapHall;I)I"⟩
abbrev cL_byPermutations : ByteArray := method_28_code
def yL_byPermutations : MethodName := ⟨RL, "byPermutations", "(LMapHall;I)I"⟩
abbrev cL_onTop : ByteArray := method_29_code
def yL_onTop : MethodName := ⟨RL, "onTop", "(LMapHall;II)I"⟩
abbrev cL_pointsOf : ByteArray := method_30_code
def yL_pointsOf : MethodName := ⟨RL, "pointsOf", "(LMapHall;I)I"⟩
abbrev cL_groupSize : ByteArray := method_31_code
def yL_groupSize : MethodName := ⟨RL, "groupSize", "(LMapHall;I)I"⟩
abbrev cL_byWear : ByteArray := method_32_code
def yL_byWear : MethodName := ⟨RL, "byWear", "(LMapHall;I)I"⟩
abbrev cL_meanWear : ByteArray := method_33_code
def yL_meanWear : MethodName := ⟨RL, "meanWear", "(LMapHall;)D"⟩
abbrev cL_feed : ByteArray := method_34_code
def yL_feed : MethodName := ⟨RL, "feed", "(LMapHall;C)I"⟩
abbrev cL_run : ByteArray := method_35_code
def yL_run : MethodName := ⟨RL, "run", "(LMapHall;)I"⟩
abbrev cL_errorPosition : ByteArray := method_36_code
def yL_errorPosition : MethodName := ⟨RL, "errorPosition", "(LMapHall;)I"⟩
abbrev cL_failedCommand : ByteArray := method_37_code
def yL_failedCommand : MethodName := ⟨RL, "failedCommand", "(LMapHall;)I"⟩
abbrev cL_writeSheet : ByteArray := method_38_code
def yL_writeSheet : MethodName := ⟨RL, "writeSheet", "(LMapHall;I)I"⟩
abbrev cL_outputChar : ByteArray := method_39_code
def yL_outputChar : MethodName := ⟨RL, "outputChar", "(LMapHall;I)I"⟩
abbrev cL_undo : ByteArray := method_40_code
def yL_undo : MethodName := ⟨RL, "undo", "(LMapHall;)I"⟩
abbrev cL_restore : ByteArray := method_41_code
def yL_restore : MethodName := ⟨RL, "restore", "(LMapHall;)I"⟩
abbrev cL_runs : ByteArray := method_42_code
def yL_runs : MethodName := ⟨RL, "runs", "(LMapHall;Ljava/lang/String;)I"⟩
abbrev cL_makes : ByteArray := method_44_code
def yL_makes : MethodName := ⟨RL, "makes", "(LMapHall;[I)Z"⟩
abbrev cL_asks : ByteArray := method_45_code
def yL_asks : MethodName := ⟨RL, "asks", "(LMapHall;)J"⟩
abbrev cL_changes : ByteArray := method_46_code
def yL_changes : MethodName := ⟨RL, "changes", "(LMapHall;I)Z"⟩
abbrev cL_thrown : ByteArray := method_47_code
def yL_thrown : MethodName := ⟨RL, "thrown", "(LMapHall;)Z"⟩
abbrev cL_law : ByteArray := code
def yL_law : MethodName := ⟨RL, "law", "([I)Z"⟩
abbrev vwCl : List vw_C := [(RJ0, TJ0, 4), (RJ4, TJ4, 4), (RJx00060, TJx00060, 6), (RX2, TX2, 1), (RX3, TX3, 3), (RX4, TX4, 2), (RX6, TX6, 5), (RX7, TX7, 8), (RX8, TX8, 1), (RX9, TX9, 6), (RX10, TX10, 10)]
