/-! ===== BEGIN printed: names, fields, word lists, decode rows ===== -/
def RX0 : String := "Tetherline$Floor"
def TX0 : u_T := fun k => match k with
  | 0 => ("Tetherline$Floor", "columns", "I", true)
  | 1 => ("Tetherline$Floor", "rows", "I", true)
  | 2 => ("Tetherline$Floor", "pillarNumbers", "[I", true)
  | _ => ("Tetherline$Floor", "pillars", "I", false)
def tyX0 : Nat → FieldType := fun k => match k with
  | 0 => .int
  | 1 => .int
  | 2 => .array .int
  | _ => .int
abbrev wsX00 : List Cond := u_ws RX0 TX0 4
theorem nmX0 : ∀ a, a < 4 → ∀ b, b < 4 → a ≠ b → (TX0 a).2.1 ≠ (TX0 b).2.1 := by decide +kernel
theorem tyX0_ok : ∀ k, k < 4 → parseFieldDescriptor (TX0 k).2.2.1 = some (tyX0 k) := by decide +kernel
abbrev cX0_init : ByteArray := prog_2_method_1_code
def yX0_init : MethodName := ⟨RX0, "<init>", "(II)V"⟩
abbrev cX0_has : ByteArray := prog_2_method_2_code
def yX0_has : MethodName := ⟨RX0, "has", "(II)Z"⟩
abbrev cX0_isFull : ByteArray := prog_2_method_3_code
def yX0_isFull : MethodName := ⟨RX0, "isFull", "()Z"⟩
abbrev cX0_isPillar : ByteArray := prog_2_method_4_code
def yX0_isPillar : MethodName := ⟨RX0, "isPillar", "(I)Z"⟩
abbrev cX0_setPillar : ByteArray := prog_2_method_5_code
def yX0_setPillar : MethodName := ⟨RX0, "setPillar", "(I)I"⟩
abbrev cX0_after : ByteArray := prog_2_method_6_code
def yX0_after : MethodName := ⟨RX0, "after", "(II)I"⟩
abbrev cX0_placeAt : ByteArray := prog_2_method_7_code
def yX0_placeAt : MethodName := ⟨RX0, "placeAt", "(III)I"⟩
abbrev cX0_wordToTheRight : ByteArray := prog_2_method_8_code
def yX0_wordToTheRight : MethodName := ⟨RX0, "wordToTheRight", "(III)I"⟩
abbrev cX0_wordToTheLeft : ByteArray := prog_2_method_9_code
def yX0_wordToTheLeft : MethodName := ⟨RX0, "wordToTheLeft", "(III)I"⟩
abbrev cX0_pillarNumberOf : ByteArray := prog_2_method_10_code
def yX0_pillarNumberOf : MethodName := ⟨RX0, "pillarNumberOf", "(I)I"⟩
def RX1 : String := "Tetherline$Spread"
def TX1 : u_T := fun k => match k with
  | 0 => ("Tetherline$Spread", "distances", "[I", true)
  | 1 => ("Tetherline$Spread", "reached", "[I", true)
  | _ => ("Tetherline$Spread", "count", "I", false)
def tyX1 : Nat → FieldType := fun k => match k with
  | 0 => .array .int
  | 1 => .array .int
  | _ => .int
abbrev wsX10 : List Cond := u_ws RX1 TX1 3
theorem nmX1 : ∀ a, a < 3 → ∀ b, b < 3 → a ≠ b → (TX1 a).2.1 ≠ (TX1 b).2.1 := by decide +kernel
theorem tyX1_ok : ∀ k, k < 3 → parseFieldDescriptor (TX1 k).2.2.1 = some (tyX1 k) := by decide +kernel
abbrev cX1_init : ByteArray := prog_3_method_1_code
def yX1_init : MethodName := ⟨RX1, "<init>", "()V"⟩
abbrev cX1_begin : ByteArray := prog_3_method_2_code
def yX1_begin : MethodName := ⟨RX1, "begin", "(I)V"⟩
abbrev cX1_reach : ByteArray := prog_3_method_3_code
def yX1_reach : MethodName := ⟨RX1, "reach", "(II)V"⟩
abbrev cX1_count : ByteArray := prog_3_method_4_code
def yX1_count : MethodName := ⟨RX1, "count", "()I"⟩
abbrev cX1_placeAt : ByteArray := prog_3_method_5_code
def yX1_placeAt : MethodName := ⟨RX1, "placeAt", "(I)I"⟩
abbrev cX1_distanceOf : ByteArray := prog_3_method_6_code
def yX1_distanceOf : MethodName := ⟨RX1, "distanceOf", "(I)I"⟩
abbrev cX1_add : ByteArray := prog_3_method_7_code
def yX1_add : MethodName := ⟨RX1, "add", "(II)V"⟩
def RX2 : String := "Tetherline"
def TX2 : u_T := fun k => match k with
  | 0 => ("Tetherline", "floor", "LTetherline$Floor;", true)
  | 1 => ("Tetherline", "limit", "I", true)
  | 2 => ("Tetherline", "lengths", "LTetherline$Spread;", true)
  | 3 => ("Tetherline", "ways", "LTetherline$Spread;", true)
  | 4 => ("Tetherline", "base", "I", false)
  | 5 => ("Tetherline", "place", "I", false)
  | _ => ("Tetherline", "stepsMade", "I", false)
def tyX2 : Nat → FieldType := fun k => match k with
  | 0 => .object "Tetherline$Floor"
  | 1 => .int
  | 2 => .object "Tetherline$Spread"
  | 3 => .object "Tetherline$Spread"
  | 4 => .int
  | 5 => .int
  | _ => .int
abbrev wsX20 : List Cond := u_ws RX2 TX2 7
theorem nmX2 : ∀ a, a < 7 → ∀ b, b < 7 → a ≠ b → (TX2 a).2.1 ≠ (TX2 b).2.1 := by decide +kernel
theorem tyX2_ok : ∀ k, k < 7 → parseFieldDescriptor (TX2 k).2.2.1 = some (tyX2 k) := by decide +kernel
abbrev cX2_init : ByteArray := prog_1_method_1_code
def yX2_init : MethodName := ⟨RX2, "<init>", "(III)V"⟩
abbrev cX2_pillar : ByteArray := prog_1_method_2_code
def yX2_pillar : MethodName := ⟨RX2, "pillar", "(II)I"⟩
abbrev cX2_base : ByteArray := prog_1_method_3_code
def yX2_base : MethodName := ⟨RX2, "base", "(II)V"⟩
abbrev cX2_step : ByteArray := prog_1_method_4_code
def yX2_step : MethodName := ⟨RX2, "step", "(I)I"⟩
abbrev cX2_go : ByteArray := prog_1_method_5_code
def yX2_go : MethodName := ⟨RX2, "go", "(II)I"⟩
abbrev cX2_back : ByteArray := prog_1_method_6_code
def yX2_back : MethodName := ⟨RX2, "back", "(I)I"⟩
abbrev cX2_column : ByteArray := prog_1_method_7_code
def yX2_column : MethodName := ⟨RX2, "column", "()I"⟩
abbrev cX2_row : ByteArray := prog_1_method_8_code
def yX2_row : MethodName := ⟨RX2, "row", "()I"⟩
abbrev cX2_letters : ByteArray := prog_1_method_9_code
def yX2_letters : MethodName := ⟨RX2, "letters", "()I"⟩
abbrev cX2_letterAt : ByteArray := prog_1_method_10_code
def yX2_letterAt : MethodName := ⟨RX2, "letterAt", "(I)I"⟩
abbrev cX2_length : ByteArray := prog_1_method_11_code
def yX2_length : MethodName := ⟨RX2, "length", "()I"⟩
abbrev cX2_slack : ByteArray := prog_1_method_12_code
def yX2_slack : MethodName := ⟨RX2, "slack", "()I"⟩
abbrev cX2_steps : ByteArray := prog_1_method_13_code
def yX2_steps : MethodName := ⟨RX2, "steps", "()I"⟩
abbrev cX2_lengthByTrying : ByteArray := prog_1_method_14_code
def yX2_lengthByTrying : MethodName := ⟨RX2, "lengthByTrying", "(I)I"⟩
abbrev cX2_cableAt : ByteArray := prog_1_method_15_code
def yX2_cableAt : MethodName := ⟨RX2, "cableAt", "(I)I"⟩
abbrev cX2_bends : ByteArray := prog_1_method_16_code
def yX2_bends : MethodName := ⟨RX2, "bends", "()I"⟩
abbrev cX2_least : ByteArray := prog_1_method_17_code
def yX2_least : MethodName := ⟨RX2, "least", "(II)I"⟩
abbrev cX2_missing : ByteArray := prog_1_method_18_code
def yX2_missing : MethodName := ⟨RX2, "missing", "(II)I"⟩
abbrev cX2_words : ByteArray := prog_1_method_19_code
def yX2_words : MethodName := ⟨RX2, "words", "(II)I"⟩
abbrev cX2_squares : ByteArray := prog_1_method_20_code
def yX2_squares : MethodName := ⟨RX2, "squares", "()I"⟩
abbrev cX2_measureLengths : ByteArray := prog_1_method_21_code
def yX2_measureLengths : MethodName := ⟨RX2, "measureLengths", "()V"⟩
abbrev cX2_nearestPlaceOf : ByteArray := prog_1_method_22_code
def yX2_nearestPlaceOf : MethodName := ⟨RX2, "nearestPlaceOf", "(I)I"⟩
abbrev cX2_afterStep : ByteArray := prog_1_method_23_code
def yX2_afterStep : MethodName := ⟨RX2, "afterStep", "(II)I"⟩
abbrev cX2_isWithinLimit : ByteArray := prog_1_method_24_code
def yX2_isWithinLimit : MethodName := ⟨RX2, "isWithinLimit", "(I)Z"⟩
abbrev cX2_leastLengthOf : ByteArray := prog_1_method_25_code
def yX2_leastLengthOf : MethodName := ⟨RX2, "leastLengthOf", "(I)I"⟩
abbrev cX2_alongCable : ByteArray := prog_1_method_26_code
def yX2_alongCable : MethodName := ⟨RX2, "alongCable", "(I)I"⟩
abbrev cX2_cableDirection : ByteArray := prog_1_method_27_code
def yX2_cableDirection : MethodName := ⟨RX2, "cableDirection", "(I)I"⟩
abbrev cX2_fewestByTrying : ByteArray := prog_1_method_28_code
def yX2_fewestByTrying : MethodName := ⟨RX2, "fewestByTrying", "(LTetherline$Floor;IIII)I"⟩
abbrev cX2_requireSquare : ByteArray := prog_1_method_29_code
def yX2_requireSquare : MethodName := ⟨RX2, "requireSquare", "(II)V"⟩
abbrev cX2_between : ByteArray := prog_1_method_30_code
def yX2_between : MethodName := ⟨RX2, "between", "(III)I"⟩
abbrev cX2_squareAt : ByteArray := prog_1_method_31_code
def yX2_squareAt : MethodName := ⟨RX2, "squareAt", "(II)I"⟩
abbrev cX2_columnOf : ByteArray := prog_1_method_32_code
def yX2_columnOf : MethodName := ⟨RX2, "columnOf", "(I)I"⟩
abbrev cX2_rowOf : ByteArray := prog_1_method_33_code
def yX2_rowOf : MethodName := ⟨RX2, "rowOf", "(I)I"⟩
abbrev cX2_apart : ByteArray := prog_1_method_34_code
def yX2_apart : MethodName := ⟨RX2, "apart", "(II)I"⟩
abbrev cX2_placeOf : ByteArray := prog_1_method_35_code
def yX2_placeOf : MethodName := ⟨RX2, "placeOf", "(II)I"⟩
abbrev cX2_squareOf : ByteArray := prog_1_method_36_code
def yX2_squareOf : MethodName := ⟨RX2, "squareOf", "(I)I"⟩
abbrev cX2_wordOf : ByteArray := prog_1_method_37_code
def yX2_wordOf : MethodName := ⟨RX2, "wordOf", "(I)I"⟩
abbrev cX2_lettersOf : ByteArray := prog_1_method_38_code
def yX2_lettersOf : MethodName := ⟨RX2, "lettersOf", "(I)I"⟩
abbrev cX2_lastLetterOf : ByteArray := prog_1_method_39_code
def yX2_lastLetterOf : MethodName := ⟨RX2, "lastLetterOf", "(I)I"⟩
abbrev cX2_oppositeOf : ByteArray := prog_1_method_40_code
def yX2_oppositeOf : MethodName := ⟨RX2, "oppositeOf", "(I)I"⟩
abbrev cX2_withLetter : ByteArray := prog_1_method_41_code
def yX2_withLetter : MethodName := ⟨RX2, "withLetter", "(II)I"⟩
def RX3 : String := "TetherlineModel"
def TX3 : u_T := fun k => match k with
  | _ => ("", "", "", false)
def tyX3 : Nat → FieldType := fun k => match k with
  | _ => .int
abbrev wsX30 : List Cond := u_ws RX3 TX3 0
theorem nmX3 : ∀ a, a < 0 → ∀ b, b < 0 → a ≠ b → (TX3 a).2.1 ≠ (TX3 b).2.1 := by decide +kernel
theorem tyX3_ok : ∀ k, k < 0 → parseFieldDescriptor (TX3 k).2.2.1 = some (tyX3 k) := by decide +kernel
def RJx145de : String := "java/io/Serializable"
def TJx145de : u_T := fun k => match k with
  | _ => ("", "", "", false)
def tyJx145de : Nat → FieldType := fun k => match k with
  | _ => .int
abbrev wsJx145de0 : List Cond := u_ws RJx145de TJx145de 0
theorem nmJx145de : ∀ a, a < 0 → ∀ b, b < 0 → a ≠ b → (TJx145de a).2.1 ≠ (TJx145de b).2.1 := by decide +kernel
theorem tyJx145de_ok : ∀ k, k < 0 → parseFieldDescriptor (TJx145de k).2.2.1 = some (tyJx145de k) := by decide +kernel
def RJ9 : String := "java/lang/Math"
def TJ9 : u_T := fun k => match k with
  | _ => ("", "", "", false)
def tyJ9 : Nat → FieldType := fun k => match k with
  | _ => .int
abbrev wsJ90 : List Cond := u_ws RJ9 TJ9 0
theorem nmJ9 : ∀ a, a < 0 → ∀ b, b < 0 → a ≠ b → (TJ9 a).2.1 ≠ (TJ9 b).2.1 := by decide +kernel
theorem tyJ9_ok : ∀ k, k < 0 → parseFieldDescriptor (TJ9 k).2.2.1 = some (tyJ9 k) := by decide +kernel
abbrev cJ9_abs_0f7a4 : ByteArray := prog_11_method_59_code
def yJ9_abs_0f7a4 : MethodName := ⟨RJ9, "abs", "(I)I"⟩
abbrev cJ9_max_7cf53 : ByteArray := prog_11_method_65_code
def yJ9_max_7cf53 : MethodName := ⟨RJ9, "max", "(II)I"⟩
abbrev cJ9_min_7cf53 : ByteArray := prog_11_method_69_code
def yJ9_min_7cf53 : MethodName := ⟨RJ9, "min", "(II)I"⟩
def RJ0 : String := "java/lang/String"
def TJ0 : u_T := fun k => match k with
  | _ => ("", "", "", false)
def tyJ0 : Nat → FieldType := fun k => match k with
  | _ => .int
abbrev wsJ00 : List Cond := u_ws RJ0 TJ0 0
theorem nmJ0 : ∀ a, a < 0 → ∀ b, b < 0 → a ≠ b → (TJ0 a).2.1 ≠ (TJ0 b).2.1 := by decide +kernel
theorem tyJ0_ok : ∀ k, k < 0 → parseFieldDescriptor (TJ0 k).2.2.1 = some (tyJ0 k) := by decide +kernel
def RJ7 : String := "java/util/Arrays"
def TJ7 : u_T := fun k => match k with
  | _ => ("", "", "", false)
def tyJ7 : Nat → FieldType := fun k => match k with
  | _ => .int
abbrev wsJ70 : List Cond := u_ws RJ7 TJ7 0
theorem nmJ7 : ∀ a, a < 0 → ∀ b, b < 0 → a ≠ b → (TJ7 a).2.1 ≠ (TJ7 b).2.1 := by decide +kernel
theorem tyJ7_ok : ∀ k, k < 0 → parseFieldDescriptor (TJ7 k).2.2.1 = some (tyJ7 k) := by decide +kernel
abbrev cJ7_fill_53178 : ByteArray := prog_15_method_103_code
def yJ7_fill_53178 : MethodName := ⟨RJ7, "fill", "([II)V"⟩
def RL : String := "TetherlineLaw"
abbrev cL_cell : ByteArray := method_2_code
def yL_cell : MethodName := ⟨RL, "cell", "([II)I"⟩
abbrev cL_low : ByteArray := method_3_code
def yL_low : MethodName := ⟨RL, "low", "(II)I"⟩
abbrev cL_does : ByteArray := method_4_code
def yL_does : MethodName := ⟨RL, "does", "(LTetherline;III)I"⟩
abbrev cL_base : ByteArray := method_5_code
def yL_base : MethodName := ⟨RL, "base", "(LTetherline;II)I"⟩
abbrev cL_cableAt : ByteArray := method_6_code
def yL_cableAt : MethodName := ⟨RL, "cableAt", "(LTetherline;I)I"⟩
abbrev cL_letterAt : ByteArray := method_7_code
def yL_letterAt : MethodName := ⟨RL, "letterAt", "(LTetherline;I)I"⟩
abbrev cL_act : ByteArray := method_8_code
def yL_act : MethodName := ⟨RL, "act", "(LTetherline;III)I"⟩
abbrev cL_areAlike : ByteArray := method_9_code
def yL_areAlike : MethodName := ⟨RL, "areAlike", "(LTetherline;LTetherline;)Z"⟩
abbrev cL_isPlaceSo : ByteArray := method_10_code
def yL_isPlaceSo : MethodName := ⟨RL, "isPlaceSo", "(LTetherline;)Z"⟩
abbrev cL_areGoalsSo : ByteArray := method_11_code
def yL_areGoalsSo : MethodName := ⟨RL, "areGoalsSo", "(LTetherline;II)Z"⟩
abbrev cL_isReturnedSo : ByteArray := method_12_code
def yL_isReturnedSo : MethodName := ⟨RL, "isReturnedSo", "(LTetherline;LTetherline;I)Z"⟩
abbrev cL_law : ByteArray := code
def yL_law : MethodName := ⟨RL, "law", "([I)Z"⟩
abbrev vwCl : List vw_C := [(RX0, TX0, 4), (RX1, TX1, 3), (RX2, TX2, 7)]
