def RX0 : String := "FarTypewriter$Diff"
def TX0 : u_T := fun k => match k with
  | _ => ("", "", "", false)
def tyX0 : Nat → FieldType := fun k => match k with
  | _ => .int
abbrev wsX00 : List Cond := u_ws RX0 TX0 0
theorem nmX0 : ∀ a, a < 0 → ∀ b, b < 0 → a ≠ b → (TX0 a).2.1 ≠ (TX0 b).2.1 := by decide +kernel
theorem tyX0_ok : ∀ k, k < 0 → parseFieldDescriptor (TX0 k).2.2.1 = some (tyX0 k) := by decide +kernel
abbrev cX0_append : ByteArray := prog_2_method_2_code
def yX0_append : MethodName := ⟨RX0, "append", "(LFarTypewriter$Letter;LFarTypewriter$Screen;LFarTypewriter$Screen;)V"⟩
abbrev cX0_appendRow : ByteArray := prog_2_method_3_code
def yX0_appendRow : MethodName := ⟨RX0, "appendRow", "(LFarTypewriter$Letter;LFarTypewriter$Screen;III)V"⟩
abbrev cX0_bestShift : ByteArray := prog_2_method_4_code
def yX0_bestShift : MethodName := ⟨RX0, "bestShift", "(LFarTypewriter$Screen;LFarTypewriter$Screen;)I"⟩
abbrev cX0_bytesFor : ByteArray := prog_2_method_5_code
def yX0_bytesFor : MethodName := ⟨RX0, "bytesFor", "(LFarTypewriter$Screen;LFarTypewriter$Screen;I)I"⟩
abbrev cX0_firstChange : ByteArray := prog_2_method_6_code
def yX0_firstChange : MethodName := ⟨RX0, "firstChange", "(LFarTypewriter$Screen;LFarTypewriter$Screen;II)I"⟩
abbrev cX0_lastChange : ByteArray := prog_2_method_7_code
def yX0_lastChange : MethodName := ⟨RX0, "lastChange", "(LFarTypewriter$Screen;LFarTypewriter$Screen;II)I"⟩
abbrev cX0_isUniform : ByteArray := prog_2_method_8_code
def yX0_isUniform : MethodName := ⟨RX0, "isUniform", "(LFarTypewriter$Screen;III)Z"⟩
abbrev cX0_lay : ByteArray := prog_2_method_9_code
def yX0_lay : MethodName := ⟨RX0, "lay", "(LFarTypewriter$Letter;LFarTypewriter$Screen;)V"⟩
abbrev cX0_layRow : ByteArray := prog_2_method_10_code
def yX0_layRow : MethodName := ⟨RX0, "layRow", "(LFarTypewriter$Letter;ILFarTypewriter$Screen;)V"⟩
def RX1 : String := "FarTypewriter$FarEnd"
def TX1 : u_T := fun k => match k with
  | 0 => ("FarTypewriter$FarEnd", "screen", "LFarTypewriter$Screen;", true)
  | 1 => ("FarTypewriter$FarEnd", "states", "LFarTypewriter$States;", true)
  | 2 => ("FarTypewriter$FarEnd", "program", "I", false)
  | 3 => ("FarTypewriter$FarEnd", "passed", "I", false)
  | 4 => ("FarTypewriter$FarEnd", "pen", "I", false)
  | 5 => ("FarTypewriter$FarEnd", "took", "I", false)
  | 6 => ("FarTypewriter$FarEnd", "sure", "I", false)
  | 7 => ("FarTypewriter$FarEnd", "numberInLast", "I", false)
  | 8 => ("FarTypewriter$FarEnd", "last", "I", false)
  | 9 => ("FarTypewriter$FarEnd", "address", "I", false)
  | _ => ("FarTypewriter$FarEnd", "owes", "Z", false)
def tyX1 : Nat → FieldType := fun k => match k with
  | 0 => .object "FarTypewriter$Screen"
  | 1 => .object "FarTypewriter$States"
  | 2 => .int
  | 3 => .int
  | 4 => .int
  | 5 => .int
  | 6 => .int
  | 7 => .int
  | 8 => .int
  | 9 => .int
  | _ => .boolean
abbrev wsX10 : List Cond := u_ws RX1 TX1 11
theorem nmX1 : ∀ a, a < 11 → ∀ b, b < 11 → a ≠ b → (TX1 a).2.1 ≠ (TX1 b).2.1 := by decide +kernel
theorem tyX1_ok : ∀ k, k < 11 → parseFieldDescriptor (TX1 k).2.2.1 = some (tyX1 k) := by decide +kernel
abbrev cX1_init : ByteArray := prog_3_method_1_code
def yX1_init : MethodName := ⟨RX1, "<init>", "()V"⟩
abbrev cX1_reset : ByteArray := prog_3_method_2_code
def yX1_reset : MethodName := ⟨RX1, "reset", "(I)V"⟩
abbrev cX1_keepState : ByteArray := prog_3_method_3_code
def yX1_keepState : MethodName := ⟨RX1, "keepState", "()V"⟩
abbrev cX1_isDue : ByteArray := prog_3_method_4_code
def yX1_isDue : MethodName := ⟨RX1, "isDue", "(III)Z"⟩
abbrev cX1_compose : ByteArray := prog_3_method_5_code
def yX1_compose : MethodName := ⟨RX1, "compose", "(LFarTypewriter$Letter;I)V"⟩
abbrev cX1_take : ByteArray := prog_3_method_6_code
def yX1_take : MethodName := ⟨RX1, "take", "(LFarTypewriter$Letter;)I"⟩
abbrev cX1_believe : ByteArray := prog_3_method_7_code
def yX1_believe : MethodName := ⟨RX1, "believe", "(I)V"⟩
abbrev cX1_press : ByteArray := prog_3_method_8_code
def yX1_press : MethodName := ⟨RX1, "press", "(I)V"⟩
abbrev cX1_isLeftByLines : ByteArray := prog_3_method_9_code
def yX1_isLeftByLines : MethodName := ⟨RX1, "isLeftByLines", "(I)Z"⟩
abbrev cX1_echo : ByteArray := prog_3_method_10_code
def yX1_echo : MethodName := ⟨RX1, "echo", "(I)V"⟩
abbrev cX1_pressPass : ByteArray := prog_3_method_11_code
def yX1_pressPass : MethodName := ⟨RX1, "pressPass", "(I)V"⟩
abbrev cX1_pressPager : ByteArray := prog_3_method_12_code
def yX1_pressPager : MethodName := ⟨RX1, "pressPager", "(I)V"⟩
abbrev cX1_report : ByteArray := prog_3_method_13_code
def yX1_report : MethodName := ⟨RX1, "report", "(I)I"⟩
def RX2 : String := "FarTypewriter$Guess"
def TX2 : u_T := fun k => match k with
  | 0 => ("FarTypewriter$Guess", "key", "I", false)
  | 1 => ("FarTypewriter$Guess", "age", "I", false)
  | 2 => ("FarTypewriter$Guess", "row", "I", false)
  | 3 => ("FarTypewriter$Guess", "column", "I", false)
  | 4 => ("FarTypewriter$Guess", "sign", "I", false)
  | 5 => ("FarTypewriter$Guess", "rowBehind", "I", false)
  | _ => ("FarTypewriter$Guess", "columnBehind", "I", false)
def tyX2 : Nat → FieldType := fun k => match k with
  | 0 => .int
  | 1 => .int
  | 2 => .int
  | 3 => .int
  | 4 => .int
  | 5 => .int
  | _ => .int
abbrev wsX20 : List Cond := u_ws RX2 TX2 7
theorem nmX2 : ∀ a, a < 7 → ∀ b, b < 7 → a ≠ b → (TX2 a).2.1 ≠ (TX2 b).2.1 := by decide +kernel
theorem tyX2_ok : ∀ k, k < 7 → parseFieldDescriptor (TX2 k).2.2.1 = some (tyX2 k) := by decide +kernel
abbrev cX2_init : ByteArray := prog_4_method_1_code
def yX2_init : MethodName := ⟨RX2, "<init>", "()V"⟩
abbrev cX2_isRight : ByteArray := prog_4_method_2_code
def yX2_isRight : MethodName := ⟨RX2, "isRight", "(LFarTypewriter$State;)Z"⟩
def RX3 : String := "FarTypewriter$Guesses"
def TX3 : u_T := fun k => match k with
  | 0 => ("FarTypewriter$Guesses", "rows", "[LFarTypewriter$Guess;", true)
  | 1 => ("FarTypewriter$Guesses", "size", "I", false)
  | 2 => ("FarTypewriter$Guesses", "age", "I", false)
  | 3 => ("FarTypewriter$Guesses", "confirmed", "I", false)
  | 4 => ("FarTypewriter$Guesses", "right", "I", false)
  | 5 => ("FarTypewriter$Guesses", "wrong", "I", false)
  | _ => ("FarTypewriter$Guesses", "takenBack", "I", false)
def tyX3 : Nat → FieldType := fun k => match k with
  | 0 => .array (.object "FarTypewriter$Guess")
  | 1 => .int
  | 2 => .int
  | 3 => .int
  | 4 => .int
  | 5 => .int
  | _ => .int
abbrev wsX30 : List Cond := u_ws RX3 TX3 7
theorem nmX3 : ∀ a, a < 7 → ∀ b, b < 7 → a ≠ b → (TX3 a).2.1 ≠ (TX3 b).2.1 := by decide +kernel
theorem tyX3_ok : ∀ k, k < 7 → parseFieldDescriptor (TX3 k).2.2.1 = some (tyX3 k) := by decide +kernel
abbrev cX3_init : ByteArray := prog_5_method_1_code
def yX3_init : MethodName := ⟨RX3, "<init>", "()V"⟩
abbrev cX3_reset : ByteArray := prog_5_method_2_code
def yX3_reset : MethodName := ⟨RX3, "reset", "()V"⟩
abbrev cX3_foresee : ByteArray := prog_5_method_3_code
def yX3_foresee : MethodName := ⟨RX3, "foresee", "(IILFarTypewriter$Screen;)V"⟩
abbrev cX3_foreseeSign : ByteArray := prog_5_method_4_code
def yX3_foreseeSign : MethodName := ⟨RX3, "foreseeSign", "(IIII)V"⟩
abbrev cX3_append : ByteArray := prog_5_method_5_code
def yX3_append : MethodName := ⟨RX3, "append", "(III)LFarTypewriter$Guess;"⟩
abbrev cX3_settle : ByteArray := prog_5_method_6_code
def yX3_settle : MethodName := ⟨RX3, "settle", "(LFarTypewriter$State;)V"⟩
abbrev cX3_takeBackFrom : ByteArray := prog_5_method_7_code
def yX3_takeBackFrom : MethodName := ⟨RX3, "takeBackFrom", "(I)V"⟩
abbrev cX3_dropFirst : ByteArray := prog_5_method_8_code
def yX3_dropFirst : MethodName := ⟨RX3, "dropFirst", "(I)V"⟩
abbrev cX3_swap : ByteArray := prog_5_method_9_code
def yX3_swap : MethodName := ⟨RX3, "swap", "(II)V"⟩
abbrev cX3_find : ByteArray := prog_5_method_10_code
def yX3_find : MethodName := ⟨RX3, "find", "(I)LFarTypewriter$Guess;"⟩
abbrev cX3_isLaid : ByteArray := prog_5_method_11_code
def yX3_isLaid : MethodName := ⟨RX3, "isLaid", "(LFarTypewriter$Guess;Z)Z"⟩
abbrev cX3_lastLaid : ByteArray := prog_5_method_12_code
def yX3_lastLaid : MethodName := ⟨RX3, "lastLaid", "(Z)LFarTypewriter$Guess;"⟩
abbrev cX3_signAt : ByteArray := prog_5_method_13_code
def yX3_signAt : MethodName := ⟨RX3, "signAt", "(IIZ)I"⟩
abbrev cX3_report : ByteArray := prog_5_method_14_code
def yX3_report : MethodName := ⟨RX3, "report", "(II)I"⟩
def RX4 : String := "FarTypewriter$Letter"
def TX4 : u_T := fun k => match k with
  | 0 => ("FarTypewriter$Letter", "bytes", "[I", false)
  | _ => ("FarTypewriter$Letter", "length", "I", false)
def tyX4 : Nat → FieldType := fun k => match k with
  | 0 => .array .int
  | _ => .int
abbrev wsX40 : List Cond := u_ws RX4 TX4 2
theorem nmX4 : ∀ a, a < 2 → ∀ b, b < 2 → a ≠ b → (TX4 a).2.1 ≠ (TX4 b).2.1 := by decide +kernel
theorem tyX4_ok : ∀ k, k < 2 → parseFieldDescriptor (TX4 k).2.2.1 = some (tyX4 k) := by decide +kernel
abbrev cX4_init : ByteArray := prog_6_method_1_code
def yX4_init : MethodName := ⟨RX4, "<init>", "(I)V"⟩
abbrev cX4_put : ByteArray := prog_6_method_2_code
def yX4_put : MethodName := ⟨RX4, "put", "(I)V"⟩
abbrev cX4_putNumber : ByteArray := prog_6_method_3_code
def yX4_putNumber : MethodName := ⟨RX4, "putNumber", "(I)V"⟩
abbrev cX4_seal : ByteArray := prog_6_method_4_code
def yX4_seal : MethodName := ⟨RX4, "seal", "()V"⟩
abbrev cX4_at : ByteArray := prog_6_method_5_code
def yX4_at : MethodName := ⟨RX4, "at", "(I)I"⟩
abbrev cX4_numberAt : ByteArray := prog_6_method_6_code
def yX4_numberAt : MethodName := ⟨RX4, "numberAt", "(I)I"⟩
abbrev cX4_isWhole : ByteArray := prog_6_method_7_code
def yX4_isWhole : MethodName := ⟨RX4, "isWhole", "(I)Z"⟩
abbrev cX4_bend : ByteArray := prog_6_method_8_code
def yX4_bend : MethodName := ⟨RX4, "bend", "(II)Z"⟩
abbrev cX4_copyFrom : ByteArray := prog_6_method_9_code
def yX4_copyFrom : MethodName := ⟨RX4, "copyFrom", "(LFarTypewriter$Letter;)V"⟩
abbrev cX4_sumAhead : ByteArray := prog_6_method_10_code
def yX4_sumAhead : MethodName := ⟨RX4, "sumAhead", "(I)I"⟩
def RX5 : String := "FarTypewriter$Line"
def TX5 : u_T := fun k => match k with
  | 0 => ("FarTypewriter$Line", "letters", "[LFarTypewriter$Letter;", true)
  | _ => ("FarTypewriter$Line", "size", "I", false)
def tyX5 : Nat → FieldType := fun k => match k with
  | 0 => .array (.object "FarTypewriter$Letter")
  | _ => .int
abbrev wsX50 : List Cond := u_ws RX5 TX5 2
theorem nmX5 : ∀ a, a < 2 → ∀ b, b < 2 → a ≠ b → (TX5 a).2.1 ≠ (TX5 b).2.1 := by decide +kernel
theorem tyX5_ok : ∀ k, k < 2 → parseFieldDescriptor (TX5 k).2.2.1 = some (tyX5 k) := by decide +kernel
abbrev cX5_init : ByteArray := prog_7_method_1_code
def yX5_init : MethodName := ⟨RX5, "<init>", "()V"⟩
abbrev cX5_find : ByteArray := prog_7_method_2_code
def yX5_find : MethodName := ⟨RX5, "find", "(I)LFarTypewriter$Letter;"⟩
abbrev cX5_append : ByteArray := prog_7_method_3_code
def yX5_append : MethodName := ⟨RX5, "append", "(LFarTypewriter$Letter;)Z"⟩
abbrev cX5_takeOut : ByteArray := prog_7_method_4_code
def yX5_takeOut : MethodName := ⟨RX5, "takeOut", "(I)V"⟩
def RX6 : String := "FarTypewriter$NearEnd"
def TX6 : u_T := fun k => match k with
  | 0 => ("FarTypewriter$NearEnd", "keys", "[I", true)
  | 1 => ("FarTypewriter$NearEnd", "states", "LFarTypewriter$States;", true)
  | 2 => ("FarTypewriter$NearEnd", "guesses", "LFarTypewriter$Guesses;", true)
  | 3 => ("FarTypewriter$NearEnd", "laid", "LFarTypewriter$Screen;", true)
  | 4 => ("FarTypewriter$NearEnd", "typed", "I", false)
  | 5 => ("FarTypewriter$NearEnd", "known", "I", false)
  | 6 => ("FarTypewriter$NearEnd", "typedInLast", "I", false)
  | 7 => ("FarTypewriter$NearEnd", "last", "I", false)
  | 8 => ("FarTypewriter$NearEnd", "sureTold", "I", false)
  | 9 => ("FarTypewriter$NearEnd", "owes", "Z", false)
  | _ => ("FarTypewriter$NearEnd", "address", "I", false)
def tyX6 : Nat → FieldType := fun k => match k with
  | 0 => .array .int
  | 1 => .object "FarTypewriter$States"
  | 2 => .object "FarTypewriter$Guesses"
  | 3 => .object "FarTypewriter$Screen"
  | 4 => .int
  | 5 => .int
  | 6 => .int
  | 7 => .int
  | 8 => .int
  | 9 => .boolean
  | _ => .int
abbrev wsX60 : List Cond := u_ws RX6 TX6 11
theorem nmX6 : ∀ a, a < 11 → ∀ b, b < 11 → a ≠ b → (TX6 a).2.1 ≠ (TX6 b).2.1 := by decide +kernel
theorem tyX6_ok : ∀ k, k < 11 → parseFieldDescriptor (TX6 k).2.2.1 = some (tyX6 k) := by decide +kernel
abbrev cX6_init : ByteArray := prog_8_method_1_code
def yX6_init : MethodName := ⟨RX6, "<init>", "()V"⟩
abbrev cX6_reset : ByteArray := prog_8_method_2_code
def yX6_reset : MethodName := ⟨RX6, "reset", "()V"⟩
abbrev cX6_type : ByteArray := prog_8_method_3_code
def yX6_type : MethodName := ⟨RX6, "type", "(IZ)I"⟩
abbrev cX6_isDue : ByteArray := prog_8_method_4_code
def yX6_isDue : MethodName := ⟨RX6, "isDue", "(III)Z"⟩
abbrev cX6_compose : ByteArray := prog_8_method_5_code
def yX6_compose : MethodName := ⟨RX6, "compose", "(LFarTypewriter$Letter;I)V"⟩
abbrev cX6_take : ByteArray := prog_8_method_6_code
def yX6_take : MethodName := ⟨RX6, "take", "(LFarTypewriter$Letter;)I"⟩
abbrev cX6_takeState : ByteArray := prog_8_method_7_code
def yX6_takeState : MethodName := ⟨RX6, "takeState", "(LFarTypewriter$Letter;ILFarTypewriter$State;)V"⟩
abbrev cX6_report : ByteArray := prog_8_method_8_code
def yX6_report : MethodName := ⟨RX6, "report", "(I)I"⟩
def RX7 : String := "FarTypewriter$Screen"
def TX7 : u_T := fun k => match k with
  | 0 => ("FarTypewriter$Screen", "cells", "[I", true)
  | 1 => ("FarTypewriter$Screen", "row", "I", false)
  | _ => ("FarTypewriter$Screen", "column", "I", false)
def tyX7 : Nat → FieldType := fun k => match k with
  | 0 => .array .int
  | 1 => .int
  | _ => .int
abbrev wsX70 : List Cond := u_ws RX7 TX7 3
theorem nmX7 : ∀ a, a < 3 → ∀ b, b < 3 → a ≠ b → (TX7 a).2.1 ≠ (TX7 b).2.1 := by decide +kernel
theorem tyX7_ok : ∀ k, k < 3 → parseFieldDescriptor (TX7 k).2.2.1 = some (tyX7 k) := by decide +kernel
abbrev cX7_init : ByteArray := prog_9_method_1_code
def yX7_init : MethodName := ⟨RX7, "<init>", "()V"⟩
abbrev cX7_clear : ByteArray := prog_9_method_2_code
def yX7_clear : MethodName := ⟨RX7, "clear", "()V"⟩
abbrev cX7_copyFrom : ByteArray := prog_9_method_3_code
def yX7_copyFrom : MethodName := ⟨RX7, "copyFrom", "(LFarTypewriter$Screen;)V"⟩
abbrev cX7_isLike : ByteArray := prog_9_method_4_code
def yX7_isLike : MethodName := ⟨RX7, "isLike", "(LFarTypewriter$Screen;)Z"⟩
abbrev cX7_at : ByteArray := prog_9_method_5_code
def yX7_at : MethodName := ⟨RX7, "at", "(II)I"⟩
abbrev cX7_set : ByteArray := prog_9_method_6_code
def yX7_set : MethodName := ⟨RX7, "set", "(III)V"⟩
abbrev cX7_putSign : ByteArray := prog_9_method_7_code
def yX7_putSign : MethodName := ⟨RX7, "putSign", "(II)V"⟩
abbrev cX7_newLine : ByteArray := prog_9_method_8_code
def yX7_newLine : MethodName := ⟨RX7, "newLine", "()V"⟩
abbrev cX7_rubOut : ByteArray := prog_9_method_9_code
def yX7_rubOut : MethodName := ⟨RX7, "rubOut", "()V"⟩
abbrev cX7_step : ByteArray := prog_9_method_10_code
def yX7_step : MethodName := ⟨RX7, "step", "(II)V"⟩
abbrev cX7_scrollBy : ByteArray := prog_9_method_11_code
def yX7_scrollBy : MethodName := ⟨RX7, "scrollBy", "(I)V"⟩
abbrev cX7_fillRow : ByteArray := prog_9_method_12_code
def yX7_fillRow : MethodName := ⟨RX7, "fillRow", "(II)V"⟩
def RX8 : String := "FarTypewriter$State"
def TX8 : u_T := fun k => match k with
  | 0 => ("FarTypewriter$State", "screen", "LFarTypewriter$Screen;", true)
  | 1 => ("FarTypewriter$State", "number", "I", false)
  | _ => ("FarTypewriter$State", "took", "I", false)
def tyX8 : Nat → FieldType := fun k => match k with
  | 0 => .object "FarTypewriter$Screen"
  | 1 => .int
  | _ => .int
abbrev wsX80 : List Cond := u_ws RX8 TX8 3
theorem nmX8 : ∀ a, a < 3 → ∀ b, b < 3 → a ≠ b → (TX8 a).2.1 ≠ (TX8 b).2.1 := by decide +kernel
theorem tyX8_ok : ∀ k, k < 3 → parseFieldDescriptor (TX8 k).2.2.1 = some (tyX8 k) := by decide +kernel
abbrev cX8_init : ByteArray := prog_10_method_1_code
def yX8_init : MethodName := ⟨RX8, "<init>", "()V"⟩
abbrev cX8_become : ByteArray := prog_10_method_2_code
def yX8_become : MethodName := ⟨RX8, "become", "(II)V"⟩
def RX9 : String := "FarTypewriter$States"
def TX9 : u_T := fun k => match k with
  | 0 => ("FarTypewriter$States", "rows", "[LFarTypewriter$State;", true)
  | 1 => ("FarTypewriter$States", "newest", "LFarTypewriter$State;", false)
  | _ => ("FarTypewriter$States", "size", "I", false)
def tyX9 : Nat → FieldType := fun k => match k with
  | 0 => .array (.object "FarTypewriter$State")
  | 1 => .object "FarTypewriter$State"
  | _ => .int
abbrev wsX90 : List Cond := u_ws RX9 TX9 3
theorem nmX9 : ∀ a, a < 3 → ∀ b, b < 3 → a ≠ b → (TX9 a).2.1 ≠ (TX9 b).2.1 := by decide +kernel
theorem tyX9_ok : ∀ k, k < 3 → parseFieldDescriptor (TX9 k).2.2.1 = some (tyX9 k) := by decide +kernel
abbrev cX9_init : ByteArray := prog_11_method_1_code
def yX9_init : MethodName := ⟨RX9, "<init>", "()V"⟩
abbrev cX9_reset : ByteArray := prog_11_method_2_code
def yX9_reset : MethodName := ⟨RX9, "reset", "()V"⟩
abbrev cX9_find : ByteArray := prog_11_method_3_code
def yX9_find : MethodName := ⟨RX9, "find", "(I)LFarTypewriter$State;"⟩
abbrev cX9_findNumber : ByteArray := prog_11_method_4_code
def yX9_findNumber : MethodName := ⟨RX9, "findNumber", "(I)LFarTypewriter$State;"⟩
abbrev cX9_isFull : ByteArray := prog_11_method_5_code
def yX9_isFull : MethodName := ⟨RX9, "isFull", "()Z"⟩
abbrev cX9_keep : ByteArray := prog_11_method_6_code
def yX9_keep : MethodName := ⟨RX9, "keep", "(IILFarTypewriter$Screen;)V"⟩
abbrev cX9_dropBelow : ByteArray := prog_11_method_7_code
def yX9_dropBelow : MethodName := ⟨RX9, "dropBelow", "(I)V"⟩
abbrev cX9_isBelow : ByteArray := prog_11_method_8_code
def yX9_isBelow : MethodName := ⟨RX9, "isBelow", "(LFarTypewriter$State;I)Z"⟩
abbrev cX9_moveFirstBehind : ByteArray := prog_11_method_9_code
def yX9_moveFirstBehind : MethodName := ⟨RX9, "moveFirstBehind", "()V"⟩
def RX10 : String := "FarTypewriter"
def TX10 : u_T := fun k => match k with
  | 0 => ("FarTypewriter", "near", "LFarTypewriter$NearEnd;", true)
  | 1 => ("FarTypewriter", "far", "LFarTypewriter$FarEnd;", true)
  | 2 => ("FarTypewriter", "toFar", "LFarTypewriter$Line;", true)
  | 3 => ("FarTypewriter", "toNear", "LFarTypewriter$Line;", true)
  | 4 => ("FarTypewriter", "draft", "LFarTypewriter$Letter;", true)
  | 5 => ("FarTypewriter", "tally", "[I", true)
  | 6 => ("FarTypewriter", "clock", "I", false)
  | 7 => ("FarTypewriter", "frame", "I", false)
  | _ => ("FarTypewriter", "again", "I", false)
def tyX10 : Nat → FieldType := fun k => match k with
  | 0 => .object "FarTypewriter$NearEnd"
  | 1 => .object "FarTypewriter$FarEnd"
  | 2 => .object "FarTypewriter$Line"
  | 3 => .object "FarTypewriter$Line"
  | 4 => .object "FarTypewriter$Letter"
  | 5 => .array .int
  | 6 => .int
  | 7 => .int
  | _ => .int
abbrev wsX100 : List Cond := u_ws RX10 TX10 9
theorem nmX10 : ∀ a, a < 9 → ∀ b, b < 9 → a ≠ b → (TX10 a).2.1 ≠ (TX10 b).2.1 := by decide +kernel
theorem tyX10_ok : ∀ k, k < 9 → parseFieldDescriptor (TX10 k).2.2.1 = some (tyX10 k) := by decide +kernel
abbrev cX10_init : ByteArray := prog_1_method_1_code
def yX10_init : MethodName := ⟨RX10, "<init>", "()V"⟩
abbrev cX10_open : ByteArray := prog_1_method_2_code
def yX10_open : MethodName := ⟨RX10, "open", "(III)Z"⟩
abbrev cX10_program : ByteArray := prog_1_method_3_code
def yX10_program : MethodName := ⟨RX10, "program", "(I)I"⟩
abbrev cX10_key : ByteArray := prog_1_method_4_code
def yX10_key : MethodName := ⟨RX10, "key", "(I)I"⟩
abbrev cX10_write : ByteArray := prog_1_method_5_code
def yX10_write : MethodName := ⟨RX10, "write", "(I)Z"⟩
abbrev cX10_move : ByteArray := prog_1_method_6_code
def yX10_move : MethodName := ⟨RX10, "move", "(II)Z"⟩
abbrev cX10_wipe : ByteArray := prog_1_method_7_code
def yX10_wipe : MethodName := ⟨RX10, "wipe", "(I)Z"⟩
abbrev cX10_scroll : ByteArray := prog_1_method_8_code
def yX10_scroll : MethodName := ⟨RX10, "scroll", "(I)Z"⟩
abbrev cX10_pen : ByteArray := prog_1_method_9_code
def yX10_pen : MethodName := ⟨RX10, "pen", "(I)I"⟩
abbrev cX10_tick : ByteArray := prog_1_method_10_code
def yX10_tick : MethodName := ⟨RX10, "tick", "()I"⟩
abbrev cX10_round : ByteArray := prog_1_method_11_code
def yX10_round : MethodName := ⟨RX10, "round", "()I"⟩
abbrev cX10_carry : ByteArray := prog_1_method_12_code
def yX10_carry : MethodName := ⟨RX10, "carry", "(IIII)I"⟩
abbrev cX10_roam : ByteArray := prog_1_method_13_code
def yX10_roam : MethodName := ⟨RX10, "roam", "()I"⟩
abbrev cX10_cell : ByteArray := prog_1_method_14_code
def yX10_cell : MethodName := ⟨RX10, "cell", "(IIII)I"⟩
abbrev cX10_cursor : ByteArray := prog_1_method_15_code
def yX10_cursor : MethodName := ⟨RX10, "cursor", "(II)I"⟩
abbrev cX10_alike : ByteArray := prog_1_method_16_code
def yX10_alike : MethodName := ⟨RX10, "alike", "()Z"⟩
abbrev cX10_state : ByteArray := prog_1_method_17_code
def yX10_state : MethodName := ⟨RX10, "state", "(II)I"⟩
abbrev cX10_kept : ByteArray := prog_1_method_18_code
def yX10_kept : MethodName := ⟨RX10, "kept", "(II)I"⟩
abbrev cX10_guess : ByteArray := prog_1_method_19_code
def yX10_guess : MethodName := ⟨RX10, "guess", "(II)I"⟩
abbrev cX10_letter : ByteArray := prog_1_method_20_code
def yX10_letter : MethodName := ⟨RX10, "letter", "(III)I"⟩
abbrev cX10_count : ByteArray := prog_1_method_21_code
def yX10_count : MethodName := ⟨RX10, "count", "(I)I"⟩
abbrev cX10_startOver : ByteArray := prog_1_method_22_code
def yX10_startOver : MethodName := ⟨RX10, "startOver", "(III)V"⟩
abbrev cX10_runTick : ByteArray := prog_1_method_23_code
def yX10_runTick : MethodName := ⟨RX10, "runTick", "()I"⟩
abbrev cX10_send : ByteArray := prog_1_method_24_code
def yX10_send : MethodName := ⟨RX10, "send", "(LFarTypewriter$Line;)V"⟩
abbrev cX10_deliver : ByteArray := prog_1_method_25_code
def yX10_deliver : MethodName := ⟨RX10, "deliver", "(ILFarTypewriter$Letter;Z)V"⟩
abbrev cX10_lineOf : ByteArray := prog_1_method_26_code
def yX10_lineOf : MethodName := ⟨RX10, "lineOf", "(I)LFarTypewriter$Line;"⟩
abbrev cX10_canCarry : ByteArray := prog_1_method_27_code
def yX10_canCarry : MethodName := ⟨RX10, "canCarry", "(LFarTypewriter$Letter;II)Z"⟩
abbrev cX10_isProgram : ByteArray := prog_1_method_28_code
def yX10_isProgram : MethodName := ⟨RX10, "isProgram", "(I)Z"⟩
abbrev cX10_isSign : ByteArray := prog_1_method_29_code
def yX10_isSign : MethodName := ⟨RX10, "isSign", "(I)Z"⟩
abbrev cX10_isKey : ByteArray := prog_1_method_30_code
def yX10_isKey : MethodName := ⟨RX10, "isKey", "(I)Z"⟩
abbrev cX10_isPlace : ByteArray := prog_1_method_31_code
def yX10_isPlace : MethodName := ⟨RX10, "isPlace", "(II)Z"⟩
def RX11 : String := "FarTypewriterModel"
def TX11 : u_T := fun k => match k with
  | 0 => ("FarTypewriterModel", "letter", "[I", true)
  | 1 => ("FarTypewriterModel", "mark", "[I", true)
  | 2 => ("FarTypewriterModel", "cursorRow", "[I", true)
  | 3 => ("FarTypewriterModel", "cursorColumn", "[I", true)
  | 4 => ("FarTypewriterModel", "number", "[I", true)
  | 5 => ("FarTypewriterModel", "tookThen", "[I", true)
  | 6 => ("FarTypewriterModel", "pen", "I", false)
  | 7 => ("FarTypewriterModel", "program", "I", false)
  | 8 => ("FarTypewriterModel", "passed", "I", false)
  | 9 => ("FarTypewriterModel", "frame", "I", false)
  | 10 => ("FarTypewriterModel", "again", "I", false)
  | 11 => ("FarTypewriterModel", "clock", "I", false)
  | 12 => ("FarTypewriterModel", "took", "I", false)
  | 13 => ("FarTypewriterModel", "sure", "I", false)
  | 14 => ("FarTypewriterModel", "farStates", "I", false)
  | 15 => ("FarTypewriterModel", "farLast", "I", false)
  | 16 => ("FarTypewriterModel", "farSent", "I", false)
  | 17 => ("FarTypewriterModel", "farOwes", "Z", false)
  | 18 => ("FarTypewriterModel", "farAddress", "I", false)
  | 19 => ("FarTypewriterModel", "mostKeys", "I", false)
  | 20 => ("FarTypewriterModel", "key", "[I", true)
  | 21 => ("FarTypewriterModel", "keys", "I", false)
  | 22 => ("FarTypewriterModel", "known", "I", false)
  | 23 => ("FarTypewriterModel", "nearStates", "I", false)
  | 24 => ("FarTypewriterModel", "nearLast", "I", false)
  | 25 => ("FarTypewriterModel", "nearSent", "I", false)
  | 26 => ("FarTypewriterModel", "nearOwes", "Z", false)
  | 27 => ("FarTypewriterModel", "address", "I", false)
  | 28 => ("FarTypewriterModel", "sureTold", "I", false)
  | 29 => ("FarTypewriterModel", "counts", "[I", true)
  | 30 => ("FarTypewriterModel", "many", "[I", true)
  | 31 => ("FarTypewriterModel", "bytes", "[I", true)
  | 32 => ("FarTypewriterModel", "sizes", "[I", true)
  | 33 => ("FarTypewriterModel", "hand", "[I", true)
  | 34 => ("FarTypewriterModel", "size", "I", false)
  | 35 => ("FarTypewriterModel", "first", "I", false)
  | 36 => ("FarTypewriterModel", "last", "I", false)
  | 37 => ("FarTypewriterModel", "guesses", "I", false)
  | 38 => ("FarTypewriterModel", "confirmed", "I", false)
  | 39 => ("FarTypewriterModel", "age", "I", false)
  | 40 => ("FarTypewriterModel", "guessKey", "[I", true)
  | 41 => ("FarTypewriterModel", "guessAge", "[I", true)
  | 42 => ("FarTypewriterModel", "guessCell", "[I", true)
  | 43 => ("FarTypewriterModel", "guessLetter", "[I", true)
  | 44 => ("FarTypewriterModel", "guessRow", "[I", true)
  | _ => ("FarTypewriterModel", "guessColumn", "[I", true)
def tyX11 : Nat → FieldType := fun k => match k with
  | 0 => .array .int
  | 1 => .array .int
  | 2 => .array .int
  | 3 => .array .int
  | 4 => .array .int
  | 5 => .array .int
  | 6 => .int
  | 7 => .int
  | 8 => .int
  | 9 => .int
  | 10 => .int
  | 11 => .int
  | 12 => .int
  | 13 => .int
  | 14 => .int
  | 15 => .int
  | 16 => .int
  | 17 => .boolean
  | 18 => .int
  | 19 => .int
  | 20 => .array .int
  | 21 => .int
  | 22 => .int
  | 23 => .int
  | 24 => .int
  | 25 => .int
  | 26 => .boolean
  | 27 => .int
  | 28 => .int
  | 29 => .array .int
  | 30 => .array .int
  | 31 => .array .int
  | 32 => .array .int
  | 33 => .array .int
  | 34 => .int
  | 35 => .int
  | 36 => .int
  | 37 => .int
  | 38 => .int
  | 39 => .int
  | 40 => .array .int
  | 41 => .array .int
  | 42 => .array .int
  | 43 => .array .int
  | 44 => .array .int
  | _ => .array .int
abbrev wsX110 : List Cond := u_ws RX11 TX11 46
theorem nmX11 : ∀ a, a < 46 → ∀ b, b < 46 → a ≠ b → (TX11 a).2.1 ≠ (TX11 b).2.1 := by decide +kernel
theorem tyX11_ok : ∀ k, k < 46 → parseFieldDescriptor (TX11 k).2.2.1 = some (tyX11 k) := by decide +kernel
abbrev cX11_init : ByteArray := prog_13_method_1_code
def yX11_init : MethodName := ⟨RX11, "<init>", "()V"⟩
abbrev cX11_blank : ByteArray := prog_13_method_2_code
def yX11_blank : MethodName := ⟨RX11, "blank", "(III)V"⟩
abbrev cX11_copies : ByteArray := prog_13_method_3_code
def yX11_copies : MethodName := ⟨RX11, "copies", "(II)V"⟩
abbrev cX11_scrolls : ByteArray := prog_13_method_4_code
def yX11_scrolls : MethodName := ⟨RX11, "scrolls", "(II)V"⟩
abbrev cX11_newLine : ByteArray := prog_13_method_5_code
def yX11_newLine : MethodName := ⟨RX11, "newLine", "()V"⟩
abbrev cX11_puts : ByteArray := prog_13_method_6_code
def yX11_puts : MethodName := ⟨RX11, "puts", "(I)V"⟩
abbrev cX11_back : ByteArray := prog_13_method_7_code
def yX11_back : MethodName := ⟨RX11, "back", "()V"⟩
abbrev cX11_isLetter : ByteArray := prog_13_method_8_code
def yX11_isLetter : MethodName := ⟨RX11, "isLetter", "(I)Z"⟩
abbrev cX11_echo : ByteArray := prog_13_method_9_code
def yX11_echo : MethodName := ⟨RX11, "echo", "(I)V"⟩
abbrev cX11_lines : ByteArray := prog_13_method_10_code
def yX11_lines : MethodName := ⟨RX11, "lines", "(I)V"⟩
abbrev cX11_pass : ByteArray := prog_13_method_11_code
def yX11_pass : MethodName := ⟨RX11, "pass", "(I)V"⟩
abbrev cX11_pages : ByteArray := prog_13_method_12_code
def yX11_pages : MethodName := ⟨RX11, "pages", "(I)V"⟩
abbrev cX11_takesKey : ByteArray := prog_13_method_13_code
def yX11_takesKey : MethodName := ⟨RX11, "takesKey", "(I)V"⟩
abbrev cX11_begins : ByteArray := prog_13_method_14_code
def yX11_begins : MethodName := ⟨RX11, "begins", "(III)V"⟩
abbrev cX11_open : ByteArray := prog_13_method_15_code
def yX11_open : MethodName := ⟨RX11, "open", "(III)Z"⟩
abbrev cX11_program : ByteArray := prog_13_method_16_code
def yX11_program : MethodName := ⟨RX11, "program", "(I)I"⟩
abbrev cX11_write : ByteArray := prog_13_method_17_code
def yX11_write : MethodName := ⟨RX11, "write", "(I)Z"⟩
abbrev cX11_isCell : ByteArray := prog_13_method_18_code
def yX11_isCell : MethodName := ⟨RX11, "isCell", "(II)Z"⟩
abbrev cX11_move : ByteArray := prog_13_method_19_code
def yX11_move : MethodName := ⟨RX11, "move", "(II)Z"⟩
abbrev cX11_wipe : ByteArray := prog_13_method_20_code
def yX11_wipe : MethodName := ⟨RX11, "wipe", "(I)Z"⟩
abbrev cX11_scroll : ByteArray := prog_13_method_21_code
def yX11_scroll : MethodName := ⟨RX11, "scroll", "(I)Z"⟩
abbrev cX11_pen : ByteArray := prog_13_method_22_code
def yX11_pen : MethodName := ⟨RX11, "pen", "(I)I"⟩
abbrev cX11_adds : ByteArray := prog_13_method_23_code
def yX11_adds : MethodName := ⟨RX11, "adds", "(I)V"⟩
abbrev cX11_addsTwo : ByteArray := prog_13_method_24_code
def yX11_addsTwo : MethodName := ⟨RX11, "addsTwo", "(I)V"⟩
abbrev cX11_sumOf : ByteArray := prog_13_method_25_code
def yX11_sumOf : MethodName := ⟨RX11, "sumOf", "(I)I"⟩
abbrev cX11_sends : ByteArray := prog_13_method_26_code
def yX11_sends : MethodName := ⟨RX11, "sends", "(I)V"⟩
abbrev cX11_farNewest : ByteArray := prog_13_method_27_code
def yX11_farNewest : MethodName := ⟨RX11, "farNewest", "()I"⟩
abbrev cX11_nearNewest : ByteArray := prog_13_method_28_code
def yX11_nearNewest : MethodName := ⟨RX11, "nearNewest", "()I"⟩
abbrev cX11_sameCells : ByteArray := prog_13_method_29_code
def yX11_sameCells : MethodName := ⟨RX11, "sameCells", "(II)Z"⟩
abbrev cX11_goBelow : ByteArray := prog_13_method_30_code
def yX11_goBelow : MethodName := ⟨RX11, "goBelow", "(III)I"⟩
abbrev cX11_stateOf : ByteArray := prog_13_method_31_code
def yX11_stateOf : MethodName := ⟨RX11, "stateOf", "(III)I"⟩
abbrev cX11_differs : ByteArray := prog_13_method_32_code
def yX11_differs : MethodName := ⟨RX11, "differs", "(III)Z"⟩
abbrev cX11_areLike : ByteArray := prog_13_method_33_code
def yX11_areLike : MethodName := ⟨RX11, "areLike", "(II)Z"⟩
abbrev cX11_rowsOf : ByteArray := prog_13_method_34_code
def yX11_rowsOf : MethodName := ⟨RX11, "rowsOf", "(IIZ)I"⟩
abbrev cX11_difference : ByteArray := prog_13_method_35_code
def yX11_difference : MethodName := ⟨RX11, "difference", "(II)V"⟩
abbrev cX11_laid : ByteArray := prog_13_method_36_code
def yX11_laid : MethodName := ⟨RX11, "laid", "(III)V"⟩
abbrev cX11_farTick : ByteArray := prog_13_method_37_code
def yX11_farTick : MethodName := ⟨RX11, "farTick", "()V"⟩
abbrev cX11_nearTick : ByteArray := prog_13_method_38_code
def yX11_nearTick : MethodName := ⟨RX11, "nearTick", "()V"⟩
abbrev cX11_tick : ByteArray := prog_13_method_39_code
def yX11_tick : MethodName := ⟨RX11, "tick", "()I"⟩
abbrev cX11_twoAt : ByteArray := prog_13_method_40_code
def yX11_twoAt : MethodName := ⟨RX11, "twoAt", "(I)I"⟩
abbrev cX11_byFar : ByteArray := prog_13_method_41_code
def yX11_byFar : MethodName := ⟨RX11, "byFar", "()V"⟩
abbrev cX11_byNear : ByteArray := prog_13_method_42_code
def yX11_byNear : MethodName := ⟨RX11, "byNear", "()V"⟩
abbrev cX11_taken : ByteArray := prog_13_method_43_code
def yX11_taken : MethodName := ⟨RX11, "taken", "(IZ)V"⟩
abbrev cX11_takesHand : ByteArray := prog_13_method_44_code
def yX11_takesHand : MethodName := ⟨RX11, "takesHand", "(II)V"⟩
abbrev cX11_drops : ByteArray := prog_13_method_45_code
def yX11_drops : MethodName := ⟨RX11, "drops", "(II)V"⟩
abbrev cX11_isLetterOf : ByteArray := prog_13_method_46_code
def yX11_isLetterOf : MethodName := ⟨RX11, "isLetterOf", "(II)Z"⟩
abbrev cX11_carry : ByteArray := prog_13_method_47_code
def yX11_carry : MethodName := ⟨RX11, "carry", "(IIII)I"⟩
abbrev cX11_round : ByteArray := prog_13_method_48_code
def yX11_round : MethodName := ⟨RX11, "round", "()I"⟩
abbrev cX11_roam : ByteArray := prog_13_method_49_code
def yX11_roam : MethodName := ⟨RX11, "roam", "()I"⟩
abbrev cX11_guess : ByteArray := prog_13_method_50_code
def yX11_guess : MethodName := ⟨RX11, "guess", "(IIII)V"⟩
abbrev cX11_key : ByteArray := prog_13_method_51_code
def yX11_key : MethodName := ⟨RX11, "key", "(I)I"⟩
abbrev cX11_settles : ByteArray := prog_13_method_52_code
def yX11_settles : MethodName := ⟨RX11, "settles", "()V"⟩
abbrev cX11_screenOf : ByteArray := prog_13_method_53_code
def yX11_screenOf : MethodName := ⟨RX11, "screenOf", "(I)I"⟩
abbrev cX11_cell : ByteArray := prog_13_method_54_code
def yX11_cell : MethodName := ⟨RX11, "cell", "(IIII)I"⟩
abbrev cX11_cursor : ByteArray := prog_13_method_55_code
def yX11_cursor : MethodName := ⟨RX11, "cursor", "(II)I"⟩
abbrev cX11_alike : ByteArray := prog_13_method_56_code
def yX11_alike : MethodName := ⟨RX11, "alike", "()Z"⟩
abbrev cX11_state : ByteArray := prog_13_method_57_code
def yX11_state : MethodName := ⟨RX11, "state", "(II)I"⟩
abbrev cX11_kept : ByteArray := prog_13_method_58_code
def yX11_kept : MethodName := ⟨RX11, "kept", "(II)I"⟩
abbrev cX11_guess_ : ByteArray := prog_13_method_59_code
def yX11_guess_ : MethodName := ⟨RX11, "guess", "(II)I"⟩
abbrev cX11_letter : ByteArray := prog_13_method_60_code
def yX11_letter : MethodName := ⟨RX11, "letter", "(III)I"⟩
abbrev cX11_count : ByteArray := prog_13_method_61_code
def yX11_count : MethodName := ⟨RX11, "count", "(I)I"⟩
def RJ9 : String := "java/lang/Math"
def TJ9 : u_T := fun k => match k with
  | _ => ("", "", "", false)
def tyJ9 : Nat → FieldType := fun k => match k with
  | _ => .int
abbrev wsJ90 : List Cond := u_ws RJ9 TJ9 0
theorem nmJ9 : ∀ a, a < 0 → ∀ b, b < 0 → a ≠ b → (TJ9 a).2.1 ≠ (TJ9 b).2.1 := by decide +kernel
theorem tyJ9_ok : ∀ k, k < 0 → parseFieldDescriptor (TJ9 k).2.2.1 = some (tyJ9 k) := by decide +kernel
abbrev cJ9_max_7cf53 : ByteArray := prog_14_method_65_code
def yJ9_max_7cf53 : MethodName := ⟨RJ9, "max", "(II)I"⟩
abbrev cJ9_min_7cf53 : ByteArray := prog_14_method_69_code
def yJ9_min_7cf53 : MethodName := ⟨RJ9, "min", "(II)I"⟩
def RJ10 : String := "java/lang/System"
def TJ10 : u_T := fun k => match k with
  | _ => ("", "", "", false)
def tyJ10 : Nat → FieldType := fun k => match k with
  | _ => .int
abbrev wsJ100 : List Cond := u_ws RJ10 TJ10 0
theorem nmJ10 : ∀ a, a < 0 → ∀ b, b < 0 → a ≠ b → (TJ10 a).2.1 ≠ (TJ10 b).2.1 := by decide +kernel
theorem tyJ10_ok : ∀ k, k < 0 → parseFieldDescriptor (TJ10 k).2.2.1 = some (tyJ10 k) := by decide +kernel
def RJ7 : String := "java/util/Arrays"
def TJ7 : u_T := fun k => match k with
  | _ => ("", "", "", false)
def tyJ7 : Nat → FieldType := fun k => match k with
  | _ => .int
abbrev wsJ70 : List Cond := u_ws RJ7 TJ7 0
theorem nmJ7 : ∀ a, a < 0 → ∀ b, b < 0 → a ≠ b → (TJ7 a).2.1 ≠ (TJ7 b).2.1 := by decide +kernel
theorem tyJ7_ok : ∀ k, k < 0 → parseFieldDescriptor (TJ7 k).2.2.1 = some (tyJ7 k) := by decide +kernel
abbrev cJ7_fill_53178 : ByteArray := prog_16_method_103_code
def yJ7_fill_53178 : MethodName := ⟨RJ7, "fill", "([II)V"⟩
def RL : String := "FarTypewriterLaw"
abbrev cL_law : ByteArray := code
def yL_law : MethodName := ⟨RL, "law", "([I)Z"⟩
abbrev vwCl : List vw_C := [(RX1, TX1, 11), (RX2, TX2, 7), (RX3, TX3, 7), (RX4, TX4, 2), (RX5, TX5, 2), (RX6, TX6, 11), (RX7, TX7, 3), (RX8, TX8, 3), (RX9, TX9, 3), (RX10, TX10, 9), (RX11, TX11, 46)]
/-- the owners: the eleven classes with objects, then the rest -/
def zO : List String := [RX1, RX2, RX3, RX4, RX5, RX6, RX7, RX8, RX9, RX10, RX11, RX0, RL, RJ9, RJ7]
def zTy : List (Nat → FieldType) := [tyX1, tyX2, tyX3, tyX4, tyX5, tyX6, tyX7, tyX8, tyX9, tyX10, tyX11]
/-- the methods: owner, name, code, locals, answer, parameters, frames below, words of locals below -/
def zmt : List (Nat × MethodName × ByteArray × Nat × Option FieldType × Nat × Nat × Nat) := [
  (12, yL_law, cL_law, 4, (some .boolean), 1, 10, 224),
  (0, yX1_init, cX1_init, 1, none, 0, 4, 83),
  (0, yX1_reset, cX1_reset, 2, none, 1, 3, 64),
  (0, yX1_keepState, cX1_keepState, 3, none, 0, 4, 87),
  (0, yX1_isDue, cX1_isDue, 6, (some .boolean), 3, 0, 0),
  (0, yX1_compose, cX1_compose, 5, none, 2, 5, 122),
  (0, yX1_take, cX1_take, 5, (some .int), 1, 5, 109),
  (0, yX1_believe, cX1_believe, 2, none, 1, 2, 45),
  (0, yX1_press, cX1_press, 2, none, 1, 4, 88),
  (0, yX1_isLeftByLines, cX1_isLeftByLines, 2, (some .boolean), 1, 1, 20),
  (0, yX1_echo, cX1_echo, 2, none, 1, 3, 66),
  (0, yX1_pressPass, cX1_pressPass, 3, none, 1, 3, 66),
  (0, yX1_pressPager, cX1_pressPager, 2, none, 1, 2, 46),
  (0, yX1_report, cX1_report, 2, (some .int), 1, 0, 0),
  (1, yX2_init, cX2_init, 1, none, 0, 1, 20),
  (1, yX2_isRight, cX2_isRight, 2, (some .boolean), 1, 1, 22),
  (2, yX3_init, cX3_init, 1, none, 0, 1, 20),
  (2, yX3_reset, cX3_reset, 1, none, 0, 0, 0),
  (2, yX3_foresee, cX3_foresee, 7, none, 3, 4, 90),
  (2, yX3_foreseeSign, cX3_foreseeSign, 7, none, 4, 3, 64),
  (2, yX3_append, cX3_append, 5, (some (.object "FarTypewriter$Guess")), 3, 2, 40),
  (2, yX3_settle, cX3_settle, 5, none, 1, 2, 45),
  (2, yX3_takeBackFrom, cX3_takeBackFrom, 2, none, 1, 0, 0),
  (2, yX3_dropFirst, cX3_dropFirst, 3, none, 1, 1, 23),
  (2, yX3_swap, cX3_swap, 4, none, 2, 0, 0),
  (2, yX3_find, cX3_find, 2, (some (.object "FarTypewriter$Guess")), 1, 0, 0),
  (2, yX3_isLaid, cX3_isLaid, 3, (some .boolean), 2, 0, 0),
  (2, yX3_lastLaid, cX3_lastLaid, 4, (some (.object "FarTypewriter$Guess")), 1, 1, 22),
  (2, yX3_signAt, cX3_signAt, 6, (some .int), 3, 1, 22),
  (2, yX3_report, cX3_report, 4, (some .int), 2, 1, 22),
  (3, yX4_init, cX4_init, 2, none, 1, 1, 40),
  (3, yX4_put, cX4_put, 2, none, 1, 0, 0),
  (3, yX4_putNumber, cX4_putNumber, 2, none, 1, 1, 21),
  (3, yX4_seal, cX4_seal, 1, none, 0, 2, 44),
  (3, yX4_at, cX4_at, 2, (some .int), 1, 0, 0),
  (3, yX4_numberAt, cX4_numberAt, 2, (some .int), 1, 1, 21),
  (3, yX4_isWhole, cX4_isWhole, 3, (some .boolean), 1, 2, 44),
  (3, yX4_bend, cX4_bend, 3, (some .boolean), 2, 0, 0),
  (3, yX4_copyFrom, cX4_copyFrom, 3, none, 1, 1, 21),
  (3, yX4_sumAhead, cX4_sumAhead, 4, (some .int), 1, 1, 21),
  (4, yX5_init, cX5_init, 1, none, 0, 1, 20),
  (4, yX5_find, cX5_find, 2, (some (.object "FarTypewriter$Letter")), 1, 0, 0),
  (4, yX5_append, cX5_append, 3, (some .boolean), 1, 2, 61),
  (4, yX5_takeOut, cX5_takeOut, 4, none, 1, 0, 0),
  (5, yX6_init, cX6_init, 1, none, 0, 4, 83),
  (5, yX6_reset, cX6_reset, 1, none, 0, 3, 64),
  (5, yX6_type, cX6_type, 3, (some .int), 2, 5, 116),
  (5, yX6_isDue, cX6_isDue, 5, (some .boolean), 3, 0, 0),
  (5, yX6_compose, cX6_compose, 4, none, 2, 3, 64),
  (5, yX6_take, cX6_take, 4, (some .int), 1, 5, 112),
  (5, yX6_takeState, cX6_takeState, 6, none, 3, 4, 87),
  (5, yX6_report, cX6_report, 2, (some .int), 1, 0, 0),
  (6, yX7_init, cX7_init, 1, none, 0, 1, 23),
  (6, yX7_clear, cX7_clear, 1, none, 0, 1, 23),
  (6, yX7_copyFrom, cX7_copyFrom, 2, none, 1, 1, 40),
  (6, yX7_isLike, cX7_isLike, 3, (some .boolean), 1, 0, 0),
  (6, yX7_at, cX7_at, 3, (some .int), 2, 0, 0),
  (6, yX7_set, cX7_set, 4, none, 3, 0, 0),
  (6, yX7_putSign, cX7_putSign, 3, none, 2, 2, 44),
  (6, yX7_newLine, cX7_newLine, 1, none, 0, 1, 24),
  (6, yX7_rubOut, cX7_rubOut, 1, none, 0, 1, 23),
  (6, yX7_step, cX7_step, 5, none, 2, 0, 0),
  (6, yX7_scrollBy, cX7_scrollBy, 5, none, 1, 0, 0),
  (6, yX7_fillRow, cX7_fillRow, 4, none, 2, 1, 23),
  (7, yX8_init, cX8_init, 1, none, 0, 2, 43),
  (7, yX8_become, cX8_become, 3, none, 2, 0, 0),
  (8, yX9_init, cX9_init, 1, none, 0, 3, 63),
  (8, yX9_reset, cX9_reset, 2, none, 0, 2, 43),
  (8, yX9_find, cX9_find, 2, (some (.object "FarTypewriter$State")), 1, 0, 0),
  (8, yX9_findNumber, cX9_findNumber, 4, (some (.object "FarTypewriter$State")), 1, 0, 0),
  (8, yX9_isFull, cX9_isFull, 1, (some .boolean), 0, 0, 0),
  (8, yX9_keep, cX9_keep, 5, none, 3, 3, 63),
  (8, yX9_dropBelow, cX9_dropBelow, 4, none, 1, 1, 22),
  (8, yX9_isBelow, cX9_isBelow, 2, (some .boolean), 2, 0, 0),
  (8, yX9_moveFirstBehind, cX9_moveFirstBehind, 3, none, 0, 0, 0),
  (9, yX10_init, cX10_init, 1, none, 0, 5, 108),
  (9, yX10_open, cX10_open, 5, (some .boolean), 3, 5, 108),
  (9, yX10_program, cX10_program, 3, (some .int), 1, 1, 20),
  (9, yX10_key, cX10_key, 2, (some .int), 1, 6, 138),
  (9, yX10_write, cX10_write, 2, (some .boolean), 1, 3, 66),
  (9, yX10_move, cX10_move, 4, (some .boolean), 2, 1, 21),
  (9, yX10_wipe, cX10_wipe, 3, (some .boolean), 1, 2, 46),
  (9, yX10_scroll, cX10_scroll, 3, (some .boolean), 1, 1, 24),
  (9, yX10_pen, cX10_pen, 3, (some .int), 1, 0, 0),
  (9, yX10_tick, cX10_tick, 1, (some .int), 0, 7, 167),
  (9, yX10_round, cX10_round, 5, (some .int), 0, 7, 167),
  (9, yX10_carry, cX10_carry, 8, (some .int), 4, 7, 159),
  (9, yX10_roam, cX10_roam, 1, (some .int), 0, 0, 0),
  (9, yX10_cell, cX10_cell, 8, (some .int), 4, 2, 47),
  (9, yX10_cursor, cX10_cursor, 5, (some .int), 2, 2, 45),
  (9, yX10_alike, cX10_alike, 1, (some .boolean), 0, 1, 22),
  (9, yX10_state, cX10_state, 3, (some .int), 2, 1, 21),
  (9, yX10_kept, cX10_kept, 4, (some .int), 2, 1, 21),
  (9, yX10_guess, cX10_guess, 3, (some .int), 2, 2, 45),
  (9, yX10_letter, cX10_letter, 6, (some .int), 3, 1, 21),
  (9, yX10_count, cX10_count, 2, (some .int), 1, 0, 0),
  (9, yX10_startOver, cX10_startOver, 4, none, 3, 4, 85),
  (9, yX10_runTick, cX10_runTick, 2, (some .int), 0, 6, 146),
  (9, yX10_send, cX10_send, 2, none, 1, 3, 83),
  (9, yX10_deliver, cX10_deliver, 5, none, 3, 6, 135),
  (9, yX10_lineOf, cX10_lineOf, 2, (some (.object "FarTypewriter$Line")), 1, 0, 0),
  (9, yX10_canCarry, cX10_canCarry, 3, (some .boolean), 3, 0, 0),
  (9, yX10_isProgram, cX10_isProgram, 1, (some .boolean), 1, 0, 0),
  (9, yX10_isSign, cX10_isSign, 1, (some .boolean), 1, 0, 0),
  (9, yX10_isKey, cX10_isKey, 1, (some .boolean), 1, 1, 20),
  (9, yX10_isPlace, cX10_isPlace, 2, (some .boolean), 2, 0, 0),
  (10, yX11_init, cX11_init, 1, none, 0, 2, 48),
  (10, yX11_blank, cX11_blank, 5, none, 3, 0, 0),
  (10, yX11_copies, cX11_copies, 4, none, 2, 0, 0),
  (10, yX11_scrolls, cX11_scrolls, 4, none, 2, 1, 24),
  (10, yX11_newLine, cX11_newLine, 1, none, 0, 2, 47),
  (10, yX11_puts, cX11_puts, 3, none, 1, 3, 67),
  (10, yX11_back, cX11_back, 2, none, 0, 1, 24),
  (10, yX11_isLetter, cX11_isLetter, 1, (some .boolean), 1, 0, 0),
  (10, yX11_echo, cX11_echo, 2, none, 1, 4, 89),
  (10, yX11_lines, cX11_lines, 2, none, 1, 5, 110),
  (10, yX11_pass, cX11_pass, 3, none, 1, 4, 89),
  (10, yX11_pages, cX11_pages, 3, none, 1, 2, 47),
  (10, yX11_takesKey, cX11_takesKey, 2, none, 1, 6, 131),
  (10, yX11_begins, cX11_begins, 5, none, 3, 1, 24),
  (10, yX11_open, cX11_open, 4, (some .boolean), 3, 2, 48),
  (10, yX11_program, cX11_program, 3, (some .int), 1, 0, 0),
  (10, yX11_write, cX11_write, 2, (some .boolean), 1, 4, 89),
  (10, yX11_isCell, cX11_isCell, 2, (some .boolean), 2, 0, 0),
  (10, yX11_move, cX11_move, 3, (some .boolean), 2, 1, 21),
  (10, yX11_wipe, cX11_wipe, 2, (some .boolean), 1, 1, 24),
  (10, yX11_scroll, cX11_scroll, 2, (some .boolean), 1, 2, 47),
  (10, yX11_pen, cX11_pen, 3, (some .int), 1, 0, 0),
  (10, yX11_adds, cX11_adds, 2, none, 1, 0, 0),
  (10, yX11_addsTwo, cX11_addsTwo, 2, none, 1, 1, 21),
  (10, yX11_sumOf, cX11_sumOf, 4, (some .int), 1, 0, 0),
  (10, yX11_sends, cX11_sends, 4, none, 1, 2, 42),
  (10, yX11_farNewest, cX11_farNewest, 1, (some .int), 0, 0, 0),
  (10, yX11_nearNewest, cX11_nearNewest, 1, (some .int), 0, 0, 0),
  (10, yX11_sameCells, cX11_sameCells, 4, (some .boolean), 2, 0, 0),
  (10, yX11_goBelow, cX11_goBelow, 6, (some .int), 3, 1, 23),
  (10, yX11_stateOf, cX11_stateOf, 5, (some .int), 3, 0, 0),
  (10, yX11_differs, cX11_differs, 7, (some .boolean), 3, 0, 0),
  (10, yX11_areLike, cX11_areLike, 6, (some .boolean), 2, 0, 0),
  (10, yX11_rowsOf, cX11_rowsOf, 9, (some .int), 3, 1, 26),
  (10, yX11_difference, cX11_difference, 7, none, 2, 2, 54),
  (10, yX11_laid, cX11_laid, 10, none, 3, 2, 47),
  (10, yX11_farTick, cX11_farTick, 4, none, 0, 3, 80),
  (10, yX11_nearTick, cX11_nearTick, 3, none, 0, 3, 65),
  (10, yX11_tick, cX11_tick, 2, (some .int), 0, 4, 103),
  (10, yX11_twoAt, cX11_twoAt, 2, (some .int), 1, 0, 0),
  (10, yX11_byFar, cX11_byFar, 4, none, 0, 7, 152),
  (10, yX11_byNear, cX11_byNear, 5, none, 0, 3, 76),
  (10, yX11_taken, cX11_taken, 5, none, 2, 8, 175),
  (10, yX11_takesHand, cX11_takesHand, 4, none, 2, 0, 0),
  (10, yX11_drops, cX11_drops, 6, none, 2, 0, 0),
  (10, yX11_isLetterOf, cX11_isLetterOf, 3, (some .boolean), 2, 0, 0),
  (10, yX11_carry, cX11_carry, 6, (some .int), 4, 9, 199),
  (10, yX11_round, cX11_round, 3, (some .int), 0, 9, 199),
  (10, yX11_roam, cX11_roam, 1, (some .int), 0, 0, 0),
  (10, yX11_guess, cX11_guess, 5, none, 4, 0, 0),
  (10, yX11_key, cX11_key, 7, (some .int), 1, 1, 24),
  (10, yX11_settles, cX11_settles, 5, none, 0, 1, 20),
  (10, yX11_screenOf, cX11_screenOf, 3, (some .int), 1, 1, 23),
  (10, yX11_cell, cX11_cell, 7, (some .int), 4, 2, 45),
  (10, yX11_cursor, cX11_cursor, 4, (some .int), 2, 2, 45),
  (10, yX11_alike, cX11_alike, 1, (some .boolean), 0, 1, 23),
  (10, yX11_state, cX11_state, 4, (some .int), 2, 1, 20),
  (10, yX11_kept, cX11_kept, 3, (some .int), 2, 0, 0),
  (10, yX11_guess_, cX11_guess_, 3, (some .int), 2, 0, 0),
  (10, yX11_letter, cX11_letter, 5, (some .int), 3, 1, 22),
  (10, yX11_count, cX11_count, 2, (some .int), 1, 0, 0),
  (11, yX0_append, cX0_append, 6, none, 3, 4, 97),
  (11, yX0_appendRow, cX0_appendRow, 9, none, 5, 2, 46),
  (11, yX0_bestShift, cX0_bestShift, 6, (some .int), 2, 3, 72),
  (11, yX0_bytesFor, cX0_bytesFor, 7, (some .int), 3, 2, 46),
  (11, yX0_firstChange, cX0_firstChange, 5, (some .int), 4, 1, 22),
  (11, yX0_lastChange, cX0_lastChange, 5, (some .int), 4, 1, 22),
  (11, yX0_isUniform, cX0_isUniform, 5, (some .boolean), 4, 1, 22),
  (11, yX0_lay, cX0_lay, 6, none, 2, 2, 51),
  (11, yX0_layRow, cX0_layRow, 9, none, 3, 1, 23),
  (14, yJ7_fill_53178, cJ7_fill_53178, 4, none, 2, 0, 0)]
abbrev mL_law : Nat := 0
abbrev mX1_init : Nat := 1
abbrev mX1_reset : Nat := 2
abbrev mX1_keepState : Nat := 3
abbrev mX1_isDue : Nat := 4
abbrev mX1_compose : Nat := 5
abbrev mX1_take : Nat := 6
abbrev mX1_believe : Nat := 7
abbrev mX1_press : Nat := 8
abbrev mX1_isLeftByLines : Nat := 9
abbrev mX1_echo : Nat := 10
abbrev mX1_pressPass : Nat := 11
abbrev mX1_pressPager : Nat := 12
abbrev mX1_report : Nat := 13
abbrev mX2_init : Nat := 14
abbrev mX2_isRight : Nat := 15
abbrev mX3_init : Nat := 16
abbrev mX3_reset : Nat := 17
abbrev mX3_foresee : Nat := 18
abbrev mX3_foreseeSign : Nat := 19
abbrev mX3_append : Nat := 20
abbrev mX3_settle : Nat := 21
abbrev mX3_takeBackFrom : Nat := 22
abbrev mX3_dropFirst : Nat := 23
abbrev mX3_swap : Nat := 24
abbrev mX3_find : Nat := 25
abbrev mX3_isLaid : Nat := 26
abbrev mX3_lastLaid : Nat := 27
abbrev mX3_signAt : Nat := 28
abbrev mX3_report : Nat := 29
abbrev mX4_init : Nat := 30
abbrev mX4_put : Nat := 31
abbrev mX4_putNumber : Nat := 32
abbrev mX4_seal : Nat := 33
abbrev mX4_at : Nat := 34
abbrev mX4_numberAt : Nat := 35
abbrev mX4_isWhole : Nat := 36
abbrev mX4_bend : Nat := 37
abbrev mX4_copyFrom : Nat := 38
abbrev mX4_sumAhead : Nat := 39
abbrev mX5_init : Nat := 40
abbrev mX5_find : Nat := 41
abbrev mX5_append : Nat := 42
abbrev mX5_takeOut : Nat := 43
abbrev mX6_init : Nat := 44
abbrev mX6_reset : Nat := 45
abbrev mX6_type : Nat := 46
abbrev mX6_isDue : Nat := 47
abbrev mX6_compose : Nat := 48
abbrev mX6_take : Nat := 49
abbrev mX6_takeState : Nat := 50
abbrev mX6_report : Nat := 51
abbrev mX7_init : Nat := 52
abbrev mX7_clear : Nat := 53
abbrev mX7_copyFrom : Nat := 54
abbrev mX7_isLike : Nat := 55
abbrev mX7_at : Nat := 56
abbrev mX7_set : Nat := 57
abbrev mX7_putSign : Nat := 58
abbrev mX7_newLine : Nat := 59
abbrev mX7_rubOut : Nat := 60
abbrev mX7_step : Nat := 61
abbrev mX7_scrollBy : Nat := 62
abbrev mX7_fillRow : Nat := 63
abbrev mX8_init : Nat := 64
abbrev mX8_become : Nat := 65
abbrev mX9_init : Nat := 66
abbrev mX9_reset : Nat := 67
abbrev mX9_find : Nat := 68
abbrev mX9_findNumber : Nat := 69
abbrev mX9_isFull : Nat := 70
abbrev mX9_keep : Nat := 71
abbrev mX9_dropBelow : Nat := 72
abbrev mX9_isBelow : Nat := 73
abbrev mX9_moveFirstBehind : Nat := 74
abbrev mX10_init : Nat := 75
abbrev mX10_open : Nat := 76
abbrev mX10_program : Nat := 77
abbrev mX10_key : Nat := 78
abbrev mX10_write : Nat := 79
abbrev mX10_move : Nat := 80
abbrev mX10_wipe : Nat := 81
abbrev mX10_scroll : Nat := 82
abbrev mX10_pen : Nat := 83
abbrev mX10_tick : Nat := 84
abbrev mX10_round : Nat := 85
abbrev mX10_carry : Nat := 86
abbrev mX10_roam : Nat := 87
abbrev mX10_cell : Nat := 88
abbrev mX10_cursor : Nat := 89
abbrev mX10_alike : Nat := 90
abbrev mX10_state : Nat := 91
abbrev mX10_kept : Nat := 92
abbrev mX10_guess : Nat := 93
abbrev mX10_letter : Nat := 94
abbrev mX10_count : Nat := 95
abbrev mX10_startOver : Nat := 96
abbrev mX10_runTick : Nat := 97
abbrev mX10_send : Nat := 98
abbrev mX10_deliver : Nat := 99
abbrev mX10_lineOf : Nat := 100
abbrev mX10_canCarry : Nat := 101
abbrev mX10_isProgram : Nat := 102
abbrev mX10_isSign : Nat := 103
abbrev mX10_isKey : Nat := 104
abbrev mX10_isPlace : Nat := 105
abbrev mX11_init : Nat := 106
abbrev mX11_blank : Nat := 107
abbrev mX11_copies : Nat := 108
abbrev mX11_scrolls : Nat := 109
abbrev mX11_newLine : Nat := 110
abbrev mX11_puts : Nat := 111
abbrev mX11_back : Nat := 112
abbrev mX11_isLetter : Nat := 113
abbrev mX11_echo : Nat := 114
abbrev mX11_lines : Nat := 115
abbrev mX11_pass : Nat := 116
abbrev mX11_pages : Nat := 117
abbrev mX11_takesKey : Nat := 118
abbrev mX11_begins : Nat := 119
abbrev mX11_open : Nat := 120
abbrev mX11_program : Nat := 121
abbrev mX11_write : Nat := 122
abbrev mX11_isCell : Nat := 123
abbrev mX11_move : Nat := 124
abbrev mX11_wipe : Nat := 125
abbrev mX11_scroll : Nat := 126
abbrev mX11_pen : Nat := 127
abbrev mX11_adds : Nat := 128
abbrev mX11_addsTwo : Nat := 129
abbrev mX11_sumOf : Nat := 130
abbrev mX11_sends : Nat := 131
abbrev mX11_farNewest : Nat := 132
abbrev mX11_nearNewest : Nat := 133
abbrev mX11_sameCells : Nat := 134
abbrev mX11_goBelow : Nat := 135
abbrev mX11_stateOf : Nat := 136
abbrev mX11_differs : Nat := 137
abbrev mX11_areLike : Nat := 138
abbrev mX11_rowsOf : Nat := 139
abbrev mX11_difference : Nat := 140
abbrev mX11_laid : Nat := 141
abbrev mX11_farTick : Nat := 142
abbrev mX11_nearTick : Nat := 143
abbrev mX11_tick : Nat := 144
abbrev mX11_twoAt : Nat := 145
abbrev mX11_byFar : Nat := 146
abbrev mX11_byNear : Nat := 147
abbrev mX11_taken : Nat := 148
abbrev mX11_takesHand : Nat := 149
abbrev mX11_drops : Nat := 150
abbrev mX11_isLetterOf : Nat := 151
abbrev mX11_carry : Nat := 152
abbrev mX11_round : Nat := 153
abbrev mX11_roam : Nat := 154
abbrev mX11_guess : Nat := 155
abbrev mX11_key : Nat := 156
abbrev mX11_settles : Nat := 157
abbrev mX11_screenOf : Nat := 158
abbrev mX11_cell : Nat := 159
abbrev mX11_cursor : Nat := 160
abbrev mX11_alike : Nat := 161
abbrev mX11_state : Nat := 162
abbrev mX11_kept : Nat := 163
abbrev mX11_guess_ : Nat := 164
abbrev mX11_letter : Nat := 165
abbrev mX11_count : Nat := 166
abbrev mX0_append : Nat := 167
abbrev mX0_appendRow : Nat := 168
abbrev mX0_bestShift : Nat := 169
abbrev mX0_bytesFor : Nat := 170
abbrev mX0_firstChange : Nat := 171
abbrev mX0_lastChange : Nat := 172
abbrev mX0_isUniform : Nat := 173
abbrev mX0_lay : Nat := 174
abbrev mX0_layRow : Nat := 175
abbrev mJ7_fill_53178 : Nat := 176
def zcm : List (Nat × Nat × Nat × Nat) := [(0, 3, 4, 0), (0, 11, 3, 52), (0, 20, 3, 66), (0, 32, 2, 53), (0, 35, 2, 67), (0, 68, 2, 55), (0, 72, 2, 70), (0, 79, 2, 71), (0, 83, 2, 69), (0, 92, 2, 31), (0, 96, 2, 32), (0, 105, 0, 167), (0, 111, 2, 33), (0, 114, 2, 36), (0, 118, 2, 35), (0, 122, 2, 34), (0, 125, 2, 8), (0, 128, 6, 0), (0, 134, 2, 7), (0, 137, 2, 72), (0, 140, 2, 11), (0, 143, 2, 12), (0, 146, 2, 59), (0, 149, 2, 58), (0, 153, 2, 9), (0, 156, 2, 10), (0, 159, 1, 103), (0, 162, 2, 60), (0, 165, 2, 61), (0, 168, 7, 0), (0, 171, 2, 62), (0, 174, 2, 63), (1, 3, 4, 0), (1, 27, 2, 56), (2, 3, 4, 0), (2, 36, 2, 27), (2, 54, 1, 103), (2, 58, 2, 19), (2, 62, 2, 20), (2, 71, 3, 14), (2, 81, 2, 15), (2, 85, 6, 0), (2, 91, 2, 22), (2, 95, 2, 23), (2, 98, 2, 24), (2, 102, 2, 25), (2, 106, 2, 26), (3, 3, 4, 0), (3, 9, 6, 0), (3, 25, 2, 31), (3, 29, 2, 39), (3, 33, 2, 32), (3, 36, 2, 34), (3, 39, 2, 35), (4, 3, 4, 0), (4, 24, 3, 30), (4, 27, 2, 38), (5, 3, 4, 0), (5, 17, 3, 66), (5, 24, 3, 16), (5, 31, 3, 52), (5, 40, 2, 67), (5, 43, 2, 17), (5, 75, 2, 18), (5, 84, 2, 31), (5, 88, 2, 32), (5, 94, 6, 0), (5, 100, 2, 33), (5, 103, 2, 36), (5, 107, 2, 34), (5, 111, 2, 35), (5, 114, 2, 69), (5, 118, 2, 50), (5, 122, 2, 72), (5, 125, 2, 70), (5, 129, 2, 54), (5, 133, 0, 174), (5, 139, 2, 71), (5, 142, 2, 21), (6, 3, 4, 0), (6, 15, 0, 176), (6, 28, 5, 0), (6, 34, 2, 57), (6, 38, 2, 59), (6, 41, 2, 62), (7, 1, 4, 0), (7, 9, 3, 52), (8, 3, 4, 0), (8, 17, 3, 64), (8, 30, 2, 53), (8, 35, 2, 65), (8, 42, 2, 54), (8, 46, 0, 73), (8, 50, 2, 74), (9, 3, 4, 0), (9, 11, 3, 44), (9, 18, 3, 1), (9, 25, 3, 40), (9, 35, 3, 30), (9, 46, 2, 96), (9, 50, 0, 102), (9, 61, 0, 104), (9, 64, 2, 46), (9, 68, 0, 103), (9, 78, 2, 58), (9, 84, 2, 59), (9, 87, 2, 60), (9, 90, 0, 105), (9, 100, 2, 63), (9, 103, 2, 62), (9, 106, 2, 97), (9, 113, 2, 41), (9, 117, 2, 99), (9, 121, 2, 100), (9, 125, 0, 101), (9, 129, 2, 37), (9, 132, 2, 43), (9, 146, 2, 28), (9, 165, 2, 56), (9, 169, 2, 27), (9, 181, 2, 55), (9, 185, 2, 51), (9, 189, 2, 13), (9, 190, 2, 68), (9, 197, 2, 29), (9, 202, 2, 34), (9, 229, 0, 176), (9, 235, 2, 45), (9, 238, 2, 2), (9, 240, 2, 3), (9, 243, 2, 4), (9, 247, 2, 5), (9, 251, 2, 98), (9, 255, 2, 47), (9, 256, 2, 48), (9, 257, 2, 42), (9, 261, 2, 6), (9, 265, 2, 49), (10, 1, 4, 0), (10, 72, 2, 119), (10, 76, 2, 107), (10, 79, 2, 109), (10, 86, 2, 110), (10, 89, 0, 113), (10, 93, 2, 111), (10, 97, 2, 112), (10, 100, 2, 114), (10, 109, 2, 115), (10, 112, 2, 116), (10, 115, 2, 117), (10, 179, 0, 123), (10, 186, 2, 128), (10, 190, 2, 130), (10, 194, 2, 129), (10, 197, 2, 108), (10, 206, 2, 137), (10, 210, 2, 138), (10, 213, 2, 139), (10, 217, 2, 132), (10, 221, 2, 134), (10, 224, 2, 136), (10, 228, 2, 140), (10, 231, 2, 131), (10, 234, 2, 133), (10, 237, 2, 142), (10, 240, 2, 143), (10, 243, 2, 145), (10, 246, 2, 118), (10, 249, 2, 135), (10, 252, 2, 141), (10, 255, 2, 157), (10, 258, 2, 146), (10, 261, 2, 147), (10, 264, 2, 151), (10, 267, 2, 149), (10, 270, 2, 150), (10, 273, 2, 148), (10, 277, 2, 144), (10, 280, 2, 155), (10, 284, 2, 158), (11, 9, 0, 169), (11, 15, 2, 31), (11, 21, 0, 171), (11, 25, 0, 172), (11, 28, 0, 168), (11, 32, 0, 173), (11, 36, 2, 56), (11, 42, 0, 170), (11, 46, 2, 34), (11, 49, 2, 62), (11, 56, 0, 175), (11, 60, 6, 0), (11, 65, 1, 105), (11, 75, 2, 57), (12, 9, 3, 75), (12, 12, 3, 106), (12, 13, 2, 76), (12, 17, 2, 120), (12, 18, 2, 77), (12, 22, 2, 121), (12, 23, 2, 78), (12, 26, 2, 156), (12, 27, 2, 79), (12, 31, 2, 122), (12, 32, 2, 80), (12, 36, 2, 124), (12, 37, 2, 81), (12, 40, 2, 125), (12, 41, 2, 82), (12, 44, 2, 126), (12, 45, 2, 83), (12, 48, 2, 127), (12, 49, 2, 84), (12, 53, 2, 144), (12, 54, 2, 85), (12, 57, 2, 153), (12, 58, 2, 86), (12, 62, 2, 152), (12, 63, 2, 87), (12, 66, 2, 154), (12, 67, 2, 88), (12, 70, 2, 159), (12, 71, 2, 89), (12, 75, 2, 160), (12, 76, 2, 90), (12, 80, 2, 161), (12, 81, 2, 91), (12, 84, 2, 162), (12, 85, 2, 92), (12, 88, 2, 163), (12, 89, 2, 93), (12, 92, 2, 164), (12, 93, 2, 94), (12, 97, 2, 165), (12, 98, 2, 95), (12, 101, 2, 166)]
def zcf : List (Nat × Nat × Nat × Nat) := [(0, 12, 0, 0), (0, 21, 0, 1), (0, 25, 0, 9), (0, 29, 0, 2), (0, 38, 0, 3), (0, 41, 0, 4), (0, 44, 0, 5), (0, 47, 0, 6), (0, 50, 0, 7), (0, 53, 0, 8), (0, 56, 0, 10), (0, 60, 8, 1), (0, 64, 7, 2), (0, 67, 7, 0), (0, 76, 7, 1), (0, 87, 3, 1), (0, 99, 6, 1), (0, 102, 6, 2), (0, 177, 8, 2), (1, 9, 1, 4), (1, 15, 7, 0), (1, 21, 1, 2), (1, 24, 1, 3), (1, 33, 1, 0), (1, 36, 7, 2), (1, 39, 6, 1), (1, 40, 1, 5), (1, 43, 6, 2), (1, 44, 1, 6), (2, 11, 2, 0), (2, 17, 2, 2), (2, 21, 2, 1), (2, 24, 2, 3), (2, 27, 2, 4), (2, 30, 2, 5), (2, 33, 2, 6), (2, 40, 6, 1), (2, 45, 1, 5), (2, 48, 6, 2), (2, 51, 1, 6), (2, 66, 1, 2), (2, 67, 1, 3), (2, 68, 1, 4), (2, 72, 1, 0), (2, 75, 1, 1), (2, 76, 7, 2), (3, 15, 3, 0), (3, 21, 3, 1), (4, 11, 4, 0), (4, 17, 4, 1), (4, 21, 3, 1), (5, 9, 5, 0), (5, 18, 5, 1), (5, 25, 5, 2), (5, 32, 5, 3), (5, 36, 5, 10), (5, 44, 5, 4), (5, 47, 5, 5), (5, 50, 5, 6), (5, 53, 5, 7), (5, 56, 5, 8), (5, 59, 5, 9), (5, 63, 2, 2), (5, 66, 8, 1), (5, 70, 7, 0), (5, 79, 3, 1), (5, 91, 7, 1), (5, 146, 8, 2), (6, 9, 6, 0), (6, 21, 6, 1), (6, 25, 6, 2), (7, 10, 7, 0), (7, 16, 7, 1), (7, 20, 7, 2), (8, 11, 8, 0), (8, 18, 8, 1), (8, 22, 8, 2), (8, 26, 7, 0), (8, 39, 7, 1), (9, 12, 9, 0), (9, 19, 9, 1), (9, 26, 9, 2), (9, 30, 9, 3), (9, 38, 9, 4), (9, 42, 9, 5), (9, 54, 0, 2), (9, 58, 0, 3), (9, 71, 0, 0), (9, 75, 0, 4), (9, 94, 6, 1), (9, 97, 6, 2), (9, 110, 4, 1), (9, 135, 5, 10), (9, 138, 5, 9), (9, 142, 5, 2), (9, 152, 5, 1), (9, 156, 8, 1), (9, 162, 7, 0), (9, 173, 1, 5), (9, 178, 1, 6), (9, 193, 0, 1), (9, 194, 7, 1), (9, 199, 3, 1), (9, 204, 2, 4), (9, 207, 2, 5), (9, 210, 2, 6), (9, 213, 9, 6), (9, 216, 2, 1), (9, 217, 2, 3), (9, 220, 2, 2), (9, 223, 9, 7), (9, 226, 9, 8), (10, 7, 10, 0), (10, 13, 10, 1), (10, 16, 10, 2), (10, 19, 10, 3), (10, 22, 10, 4), (10, 25, 10, 5), (10, 28, 10, 9), (10, 32, 10, 10), (10, 35, 10, 20), (10, 38, 10, 29), (10, 41, 10, 30), (10, 45, 10, 31), (10, 48, 10, 32), (10, 51, 10, 33), (10, 54, 10, 40), (10, 57, 10, 41), (10, 60, 10, 42), (10, 63, 10, 43), (10, 66, 10, 44), (10, 69, 10, 45), (10, 83, 10, 6), (10, 103, 10, 8), (10, 106, 10, 7), (10, 118, 10, 11), (10, 121, 10, 12), (10, 124, 10, 13), (10, 127, 10, 14), (10, 130, 10, 15), (10, 133, 10, 16), (10, 136, 10, 17), (10, 140, 10, 18), (10, 143, 10, 19), (10, 146, 10, 21), (10, 149, 10, 22), (10, 152, 10, 23), (10, 155, 10, 24), (10, 158, 10, 25), (10, 161, 10, 26), (10, 164, 10, 27), (10, 167, 10, 28), (10, 170, 10, 37), (10, 173, 10, 38), (10, 176, 10, 39), (10, 183, 10, 34), (10, 200, 10, 35), (10, 203, 10, 36), (11, 52, 3, 1), (11, 69, 6, 1), (11, 72, 6, 2)]
def zcc : List (Nat × Nat × Nat) := [(0, 9, 6), (0, 18, 8), (2, 9, 1), (4, 9, 3), (5, 15, 8), (5, 22, 2), (5, 29, 6), (7, 7, 6), (8, 9, 7), (9, 9, 5), (9, 16, 0), (9, 23, 4), (9, 33, 3), (12, 7, 9), (12, 10, 10)]
def zck : List (Nat × Nat × Int) := [(3, 42, 65521), (10, 44, 88000), (10, 189, 65521)]

-- reading the tables
def zon (o : Nat) : String := zO.getD o ""
def zy (M : Nat) : MethodName := match zmt[M]? with | some q => q.2.1 | none => ⟨"", "", ""⟩
def zown (M : Nat) : Nat := match zmt[M]? with | some q => q.1 | none => 99
def zby (M : Nat) : ByteArray := match zmt[M]? with | some q => q.2.2.1 | none => .empty
def zml (M : Nat) : Nat := match zmt[M]? with | some q => q.2.2.2.1 | none => 0
def zrt (M : Nat) : Option FieldType := match zmt[M]? with | some q => q.2.2.2.2.1 | none => none
def znp (M : Nat) : Nat := match zmt[M]? with | some q => q.2.2.2.2.2.1 | none => 0
def zrk (M : Nat) : Nat := match zmt[M]? with | some q => q.2.2.2.2.2.2.1 | none => 0
def zlo (M : Nat) : Nat := match zmt[M]? with | some q => q.2.2.2.2.2.2.2 | none => 0
def zcw (c : Nat) : vw_C := vwCl.getD c ("", TX0, 0)
def zty (c k : Nat) : FieldType := match zTy[c]? with | some f => f k | none => .int
def zir (c k : Nat) : Bool := match zty c k with | .object _ => true | .array _ => true | _ => false
def zlk2 (l : List (Nat × Nat × Nat × Nat)) (o i : Nat) : Option (Nat × Nat) := (l.find? (fun e => Nat.beq e.1 o && Nat.beq e.2.1 i)).map (fun e => e.2.2)
def zlkc (o i : Nat) : Option Nat := (zcc.find? (fun e => Nat.beq e.1 o && Nat.beq e.2.1 i)).map (fun e => e.2.2)
def zlkk (o i : Nat) : Option Int := (zck.find? (fun e => Nat.beq e.1 o && Nat.beq e.2.1 i)).map (fun e => e.2.2)
-- the words that the small machine needs
def zcmW (e : Nat × Nat × Nat × Nat) : List Cond := match e.2.2.1 with
  | 0 => [.methodLink (zon e.1) e.2.1 (zy e.2.2.2), .static (zy e.2.2.2)]
  | 1 => [.static (zy e.2.2.2)]
  | 2 => [.methodLink (zon e.1) e.2.1 (zy e.2.2.2), .instanceMethod (zy e.2.2.2), .selects (zy e.2.2.2).cls (zy e.2.2.2) (zy e.2.2.2)]
  | 3 => [.methodLink (zon e.1) e.2.1 (zy e.2.2.2), .instanceMethod (zy e.2.2.2)]
  | 4 => [.methodLink (zon e.1) e.2.1 objectInit]
  | 6 => [.methodLink (zon e.1) e.2.1 Lib.Math.max.name]
  | 7 => [.methodLink (zon e.1) e.2.1 Lib.Math.min.name]
  | _ => [.methodLink (zon e.1) e.2.1 arraycopyName]
def zcfW (e : Nat × Nat × Nat × Nat) : Cond := .fieldLink (zon e.1) e.2.1 ((zcw e.2.2.1).2.1 e.2.2.2).1 ((zcw e.2.2.1).2.1 e.2.2.2).2.1 ((zcw e.2.2.1).2.1 e.2.2.2).2.2.1
def zccW (e : Nat × Nat × Nat) : Cond := .classLink (zon e.1) e.2.1 (zcw e.2.2).1
def zckW (e : Nat × Nat × Int) : Cond := .constant (zon e.1) e.2.1 (Int32.ofInt e.2.2)
def zclW (q : vw_C) : List Cond := .instantiable q.1 q.2.2 :: u_ws q.1 q.2.1 q.2.2
def zmtW (q : Nat × MethodName × ByteArray × Nat × Option FieldType × Nat × Nat × Nat) : Cond := .code q.2.1 q.2.2.1 q.2.2.2.1 q.2.2.2.2.1
def zW0 : List Cond := [.arrayClass .int, .instanceMethod objectInit, .code objectInit ⟨#[0xb1]⟩ 1 none, .native arraycopyName, .static arraycopyName, .initialized "java/lang/System", .static Lib.Math.max.name, .code Lib.Math.max.name Lib.Math.max.code 2 (some .int), .static Lib.Math.min.name, .code Lib.Math.min.name Lib.Math.min.code 2 (some .int), .initialized "java/lang/Math"]
def zW1 : List Cond := zO.map (fun c => .initialized c)
def zW2 : List Cond := (zmt.drop 1).map zmtW
def zW3 : List Cond := vwCl.flatMap zclW
def zW4 : List Cond := zcm.flatMap zcmW
def zW5 : List Cond := zcf.map zcfW
def zW6 : List Cond := zcc.map zccW
def zW7 : List Cond := zck.map zckW
def zW : List Cond := zW0 ++ (zW1 ++ (zW2 ++ (zW3 ++ (zW4 ++ (zW5 ++ (zW6 ++ zW7))))))
